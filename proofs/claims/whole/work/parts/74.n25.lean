/-! ===== own rows: class and reference, 25 ===== -/
-- the rays of the desk are all the rays
def inL (n : Nat) (f : Nat → Int32) (u : Nat → Int) : Prop := ∃ k, k < n ∧ ∀ i, i < 4 → wr f k i = u i
theorem inL.ky {n : Nat} {f g : Nat → Int32} {u : Nat → Int} (h : inL n f u) : inL (kyN n f g) (kyF n f g) u := by
  by_cases e : kyP n f g
  · rw [kyN_y e, kyF_y e]; exact h
  · rw [kyN_n e, kyF_n e]
    obtain ⟨k, hk, hu⟩ := h
    have hp := kpl_le (f := f) (g := g) n 0
    by_cases z : k < kpl f g n 0
    · refine ⟨k, by omega, fun i hi => ?_⟩
      show (kpF n (kpl f g n 0) f g (4 * k + i)).toInt = _
      rw [kpF_at (by omega) (by omega) hi, if_pos z]; exact hu i hi
    · refine ⟨k + 1, by omega, fun i hi => ?_⟩
      show (kpF n (kpl f g n 0) f g (4 * (k + 1) + i)).toInt = _
      rw [kpF_at (by omega) (by omega) hi, if_neg (by omega), if_neg (by omega), show 4 * (k + 1 - 1) + i = 4 * k + i by omega]; exact hu i hi
theorem inL.new {n : Nat} {f g : Nat → Int32} : inL (kyN n f g) (kyF n f g) (vI g) := by
  by_cases e : kyP n f g
  · rw [kyN_y e, kyF_y e]
    exact ⟨kpl f g n 0, e.1, (cmp4_spec.2.1).mp e.2⟩
  · rw [kyN_n e, kyF_n e]
    have hp := kpl_le (f := f) (g := g) n 0
    refine ⟨kpl f g n 0, by omega, fun i hi => ?_⟩
    show (kpF n (kpl f g n 0) f g (4 * (kpl f g n 0) + i)).toInt = _
    rw [kpF_at (by omega) (by omega) hi, if_neg (by omega), if_pos rfl]; rfl
theorem ast_in {wf : Nat → Int32} {rn zs : Nat} {s g : Int64} {v : Int64 × Int64 × Int64 × Int64} {p : Nat × (Nat → Int32) × (Nat → Int32)} {u : Nat → Int} (h : inL p.1 p.2.1 u) : inL (ast wf rn zs s g v p).1 (ast wf rn zs s g v p).2.1 u := by
  obtain ⟨n, f, w⟩ := p
  by_cases e : hld wf rn (vcs zs w s g v) 0
  · rw [ast_y e rfl rfl]; exact inL.ky h
  · rw [ast_n e]; exact h
theorem acr_in {wf : Nat → Int32} {rn zs : Nat} {v : Int64 × Int64 × Int64 × Int64} {p : Nat × (Nat → Int32) × (Nat → Int32)} {u : Nat → Int} (h : inL p.1 p.2.1 u) : inL (acr wf rn zs v p).1 (acr wf rn zs v p).2.1 u := by
  by_cases e : 0 < gc4 v
  · rw [acr_y e rfl rfl]; exact ast_in (ast_in h)
  · rw [acr_n e]; exact h
theorem rsm_in {wf : Nat → Int32} {rn zs : Nat} {p : (Nat × (Nat → Int32) × (Nat → Int32)) × (Nat → Int64)} {u : Nat → Int} {x : Nat} (h : inL (rsm wf rn zs x p).1.1 (rsm wf rn zs x p).1.2.1 u) : ∀ y, x ≤ y → inL (rsm wf rn zs y p).1.1 (rsm wf rn zs y p).1.2.1 u := by
  intro y
  induction y with
  | zero => intro hy; rw [show x = 0 by omega] at h; exact h
  | succ y ih =>
    intro hy
    by_cases e : x = y + 1
    · rw [← e]; exact h
    · have h1 := ih (by omega)
      by_cases z : mny y 16 = zs - 1
      · rw [rsm_y (r := (rsm wf rn zs y p).1) (q := (rsm wf rn zs y p).2) (v := (mn4 wf rn zs y (rsm wf rn zs y p).2).1) (q2 := (mn4 wf rn zs y (rsm wf rn zs y p).2).2) rfl z rfl rfl]
        exact acr_in h1
      · rw [rsm_n rfl z]; exact h1
/-- what is across a set of rows is found -/
theorem rsm_new {wf : Nat → Int32} {rn zs x : Nat} {p : (Nat × (Nat → Int32) × (Nat → Int32)) × (Nat → Int64)} (h2 : 2 ≤ zs) (h4 : zs ≤ 4) (hr8 : rn ≤ 8) (hr : rowsOK wf rn zs) (hx : setOK rn zs x) {y : Nat → Int} (hy : nz4 y) (hi : ∀ i, zs ≤ i → i < 4 → y i = 0) (hc : ∀ r, r < rn → 0 ≤ dot4 (wr wf r) y) (ht : ∀ l, l < zs - 1 → dot4 (wr wf (Jn x rn l)) y = 0) (hn : nz4 (Nx zs wf (Jn x rn))) : ∃ u, inL (rsm wf rn zs (2 ^ rn) p).1.1 (rsm wf rn zs (2 ^ rn) p).1.2.1 u ∧ ∃ a b : Int, 0 < a ∧ 0 < b ∧ ∀ i, i < 4 → a * y i = b * u i := by
  -- y lies along the direction
  have t0 : dot4 (wr wf (Jn x rn 0)) y = 0 := ht 0 (by omega)
  have t1 : dot4 (R1 zs wf (Jn x rn)) y = 0 := by
    unfold R1
    by_cases z : zs ≤ 2
    · rw [if_pos z, un2]; exact hi 2 (by omega) (by decide)
    · rw [if_neg z]; exact ht 1 (by omega)
  have t2 : dot4 (R2 zs wf (Jn x rn)) y = 0 := by
    unfold R2
    by_cases z : zs ≤ 3
    · rw [if_pos z, un3]; exact hi 3 (by omega) (by decide)
    · rw [if_neg z]; exact ht 2 (by omega)
  have A : AX (wr wf (Jn x rn 0)) (R1 zs wf (Jn x rn)) (R2 zs wf (Jn x rn)) (Nx zs wf (Jn x rn)) := ⟨⟨1, by decide, fun i _ => Int.one_mul _⟩, hn⟩
  have ker := A.ker t0 t1 t2
  have np := dot4_pos hn
  -- what the reference makes of it
  obtain ⟨q, hq⟩ : ∃ q, q = (rsm wf rn zs x p).2 := ⟨_, rfl⟩
  have hv := mn4_val (q := q) h2 h4 hr8 hr hx
  obtain ⟨b0, b1, b2, b3, z2, z3⟩ := mn4_le (q := q) h2 h4 hr8 hr hx
  have hstep : rsm wf rn zs (x + 1) p = (acr wf rn zs (mn4 wf rn zs x q).1 (rsm wf rn zs x p).1, (mn4 wf rn zs x q).2) := by
    rw [hq]
    exact rsm_y (r := (rsm wf rn zs x p).1) (q := (rsm wf rn zs x p).2) (v := (mn4 wf rn zs x (rsm wf rn zs x p).2).1) (q2 := (mn4 wf rn zs x (rsm wf rn zs x p).2).2) rfl hx.2 rfl rfl
  obtain ⟨v, hve⟩ : ∃ v, v = (mn4 wf rn zs x q).1 := ⟨_, rfl⟩
  rw [← hve] at hv b0 b1 b2 b3 z2 z3 hstep
  have vb : ∀ i, i < 4 → (mnv v i).natAbs ≤ 5000 := by
    intro i hi
    rcases (show i = 0 ∨ i = 1 ∨ i = 2 ∨ i = 3 by omega) with rfl | rfl | rfl | rfl
    · exact b0
    · exact b1
    · exact b2
    · exact b3
  obtain ⟨g1, g2, g3⟩ := gc4_gcd vb
  have hg0 : 0 < (gc4 v).toInt := by
    rcases Int.lt_or_eq_of_le g1 with z | z
    · exact z
    · exfalso
      obtain ⟨i, hi9, hne⟩ := hn
      rw [← hv i hi9] at hne
      have := g2 i hi9
      rw [← z] at this
      exact hne (Int.zero_dvd.mp this)
  have hg : 0 < gc4 v := Int64.lt_iff_toInt_lt.mpr hg0
  have ha : ∀ (s : Int64) (w : Nat → Int32), s = 1 ∨ s = -1 → ∀ i, i < 4 → (gc4 v).toInt * vI (vcs zs w s (gc4 v) v) i = s.toInt * Nx zs wf (Jn x rn) i := fun s w hs i hi => by
    show (gc4 v).toInt * (vcs zs w s (gc4 v) v i).toInt = _
    rw [vcs_at h2 hs hg b0 b1 b2 b3 z2 z3 hi h4, ← hv i hi]
    have e : dirW v (gc4 v) i = (mnv v i).tdiv (gc4 v).toInt := by
      unfold dirW mnv
      split
      · rfl
      · split
        · rfl
        · split <;> rfl
    rw [e]
    have := Int.tdiv_mul_cancel (g2 i hi)
    grind
  have hd0 : ¬ dot4 (Nx zs wf (Jn x rn)) y = 0 := fun z => by
    obtain ⟨i, hi9, hne⟩ := hy
    have := ker i hi9
    rw [z, Int.zero_mul] at this
    rcases Int.mul_eq_zero.mp this with q | q
    · omega
    · exact hne q
  -- the sign
  obtain ⟨s, hs, hsg⟩ : ∃ s : Int64, (s = 1 ∨ s = -1) ∧ 0 < s.toInt * dot4 (Nx zs wf (Jn x rn)) y := by
    rcases Int.lt_or_lt_of_ne hd0 with z | z
    · exact ⟨-1, Or.inr rfl, by rw [show (-1 : Int64).toInt = -1 by decide]; omega⟩
    · exact ⟨1, Or.inl rfl, by rw [show (1 : Int64).toInt = 1 by decide]; omega⟩
  have s2 : s.toInt * s.toInt = 1 := by rcases hs with rfl | rfl <;> decide
  have along : ∀ w i, i < 4 → dot4 (Nx zs wf (Jn x rn)) (Nx zs wf (Jn x rn)) * y i = (s.toInt * dot4 (Nx zs wf (Jn x rn)) y * (gc4 v).toInt) * vI (vcs zs w s (gc4 v) v) i := fun w i hi => by
    have h1 := ha s w hs i hi
    have h2 := ker i hi
    rw [h2, Int.mul_assoc, h1]
    grind
  have qpos : 0 < s.toInt * dot4 (Nx zs wf (Jn x rn)) y * (gc4 v).toInt := Int.mul_pos hsg hg0
  have hh : ∀ w, hld wf rn (vcs zs w s (gc4 v) v) 0 := fun w k hk => by
    rw [i64_neg, prm_int (fun i hi => ⟨(hr k i hk hi).1, (hr k i hk hi).2.1⟩)]
    have e : pri wf k (vcs zs w s (gc4 v) v) 0 = dot4 (wr wf k) (vI (vcs zs w s (gc4 v) v)) := rfl
    rw [e]
    have h1 := dot4_smul (l := wr wf k) (along w)
    rw [← dot4_smul (l := wr wf k) (x := vI (vcs zs w s (gc4 v) v)) (fun i hi => rfl)] at h1
    have h2 := Int.mul_nonneg (Int.le_of_lt np) (hc k hk)
    intro z
    have := Int.mul_pos qpos (show 0 < -(dot4 (wr wf k) (vI (vcs zs w s (gc4 v) v))) by omega)
    rw [Int.mul_neg] at this
    omega
  obtain ⟨⟨n, f, w⟩, hp⟩ : ∃ r, r = (rsm wf rn zs x p).1 := ⟨_, rfl⟩
  have fin : ∃ w, inL (rsm wf rn zs (x + 1) p).1.1 (rsm wf rn zs (x + 1) p).1.2.1 (vI (vcs zs w s (gc4 v) v)) := by
    rw [hstep, ← hp]
    show ∃ w', inL (acr wf rn zs v (n, f, w)).1 (acr wf rn zs v (n, f, w)).2.1 (vI (vcs zs w' s (gc4 v) v))
    rw [acr_y hg rfl rfl]
    rcases hs with rfl | rfl
    · obtain ⟨⟨n2, f2, w2⟩, h9⟩ : ∃ r, r = ast wf rn zs (-1) (gc4 v) v (n, f, w) := ⟨_, rfl⟩
      rw [← h9]
      refine ⟨w2, ?_⟩
      rw [ast_y (hh w2) rfl rfl]
      exact inL.new
    · refine ⟨w, ast_in ?_⟩
      rw [ast_y (hh w) rfl rfl]
      exact inL.new
  obtain ⟨w', fin⟩ := fin
  exact ⟨_, rsm_in fin (2 ^ rn) (by have := hx.1; omega), _, _, np, qpos, along w'⟩
theorem set_1 : ∀ rn, rn < 9 → ∀ a, a < rn → 2 ^ a < 2 ^ rn ∧ mny (2 ^ a) 16 = 1 ∧ Jn (2 ^ a) rn 0 = a := by decide +kernel
theorem set_2 : ∀ rn, rn < 9 → ∀ b, b < rn → ∀ a, a < b → 2 ^ a + 2 ^ b < 2 ^ rn ∧ mny (2 ^ a + 2 ^ b) 16 = 2 ∧ Jn (2 ^ a + 2 ^ b) rn 0 = a ∧ Jn (2 ^ a + 2 ^ b) rn 1 = b := by decide +kernel
theorem set_3a : ∀ rn, rn < 9 → ∀ c, c < rn → ∀ b, b < c → ∀ a, a < b → 2 ^ a + 2 ^ b + 2 ^ c < 2 ^ rn ∧ mny (2 ^ a + 2 ^ b + 2 ^ c) 16 = 3 := by decide +kernel
theorem set_3b : ∀ rn, rn < 9 → ∀ c, c < rn → ∀ b, b < c → ∀ a, a < b → Jn (2 ^ a + 2 ^ b + 2 ^ c) rn 0 = a ∧ Jn (2 ^ a + 2 ^ b + 2 ^ c) rn 1 = b := by decide +kernel
theorem set_3c : ∀ rn, rn < 9 → ∀ c, c < rn → ∀ b, b < c → ∀ a, a < b → Jn (2 ^ a + 2 ^ b + 2 ^ c) rn 2 = c := by decide +kernel
theorem sort3 {P : Nat → Nat → Nat → Prop} (s1 : ∀ a b c, P a b c → P b a c) (s2 : ∀ a b c, P a b c → P a c b) (n1 : ∀ a b c, P a b c → ¬ a = b) {a b c : Nat} (h : P a b c) : ∃ a b c, a < b ∧ b < c ∧ P a b c := by
  have ab := n1 a b c h
  have ac := n1 a c b (s2 _ _ _ h)
  have bc := n1 b c a (s2 _ _ _ (s1 _ _ _ h))
  rcases Nat.lt_or_gt_of_ne ab with x | x <;> rcases Nat.lt_or_gt_of_ne ac with y | y <;> rcases Nat.lt_or_gt_of_ne bc with z | z <;> first | omega | skip
  · exact ⟨a, b, c, x, z, h⟩
  · exact ⟨a, c, b, y, z, s2 _ _ _ h⟩
  · exact ⟨c, a, b, y, x, s1 _ _ _ (s2 _ _ _ h)⟩
  · exact ⟨b, a, c, x, y, s1 _ _ _ h⟩
  · exact ⟨b, c, a, z, y, s2 _ _ _ (s1 _ _ _ h)⟩
  · exact ⟨c, b, a, z, x, s1 _ _ _ (s2 _ _ _ (s1 _ _ _ h))⟩
/-- the rows, and for fewer coordinates two more for each that is missing -/
def XW (wf : Nat → Int32) (rn : Nat) : Nat → Nat → Int := fun k => if k < rn then wr wf k else if k = rn then un 3 else if k = rn + 1 then (fun i => -1 * un 3 i) else if k = rn + 2 then un 2 else (fun i => -1 * un 2 i)
def xn (rn zs : Nat) : Nat := rn + 2 * (4 - zs)
theorem XW_lo {wf : Nat → Int32} {rn k : Nat} (h : k < rn) : XW wf rn k = wr wf k := if_pos h
theorem XW_0 {wf : Nat → Int32} {rn : Nat} : XW wf rn rn = un 3 := by unfold XW; rw [if_neg (by omega), if_pos rfl]
theorem XW_1 {wf : Nat → Int32} {rn : Nat} : XW wf rn (rn + 1) = fun i => -1 * un 3 i := by unfold XW; rw [if_neg (by omega), if_neg (by omega), if_pos rfl]
theorem XW_2 {wf : Nat → Int32} {rn : Nat} : XW wf rn (rn + 2) = un 2 := by unfold XW; rw [if_neg (by omega), if_neg (by omega), if_neg (by omega), if_pos rfl]
theorem XW_3 {wf : Nat → Int32} {rn : Nat} : XW wf rn (rn + 3) = fun i => -1 * un 2 i := by unfold XW; rw [if_neg (by omega), if_neg (by omega), if_neg (by omega), if_neg (by omega)]
theorem dot4_neg {l x : Nat → Int} : dot4 (fun i => -1 * l i) x = -dot4 l x := by unfold dot4; grind
theorem XW_hi {wf : Nat → Int32} {rn zs k : Nat} (h2 : 2 ≤ zs) (hk : k < xn rn zs) (h : rn ≤ k) {x : Nat → Int} (hx : ∀ i, zs ≤ i → i < 4 → x i = 0) : dot4 (XW wf rn k) x = 0 := by
  unfold xn at hk
  rcases (show k = rn ∨ k = rn + 1 ∨ k = rn + 2 ∨ k = rn + 3 by omega) with rfl | rfl | rfl | rfl
  · rw [XW_0, un3]; exact hx 3 (by omega) (by decide)
  · rw [XW_1, dot4_neg, un3, hx 3 (by omega) (by decide)]; rfl
  · rw [XW_2, un2]; exact hx 2 (by omega) (by decide)
  · rw [XW_3, dot4_neg, un2, hx 2 (by omega) (by decide)]; rfl
theorem XW_cn {wf : Nat → Int32} {rn zs : Nat} (h2 : 2 ≤ zs) {x : Nat → Int} : Cn (xn rn zs) (XW wf rn) x ↔ (∀ r, r < rn → 0 ≤ dot4 (wr wf r) x) ∧ ∀ i, zs ≤ i → i < 4 → x i = 0 := by
  constructor
  · intro h
    refine ⟨fun r hr => by have := h r (by unfold xn; omega); rw [XW_lo hr] at this; exact this, fun i hi h4 => ?_⟩
    rcases (show i = 2 ∨ i = 3 by omega) with rfl | rfl
    · have a := h (rn + 2) (by unfold xn; omega)
      have b := h (rn + 3) (by unfold xn; omega)
      rw [XW_2, un2] at a
      rw [XW_3, dot4_neg, un2] at b
      omega
    · have a := h rn (by unfold xn; omega)
      have b := h (rn + 1) (by unfold xn; omega)
      rw [XW_0, un3] at a
      rw [XW_1, dot4_neg, un3] at b
      omega
  · rintro ⟨h, hx⟩ k hk
    by_cases e : k < rn
    · rw [XW_lo e]; exact h k e
    · rw [XW_hi h2 hk (by omega) hx]; exact Int.le_refl 0
theorem crs_sw1 (a b c : Nat → Int) : ∀ i, i < 4 → crs b a c i = -crs a b c i := fun i hi => by
  rcases (show i = 0 ∨ i = 1 ∨ i = 2 ∨ i = 3 by omega) with rfl | rfl | rfl | rfl <;> simp only [crs] <;> grind
theorem crs_sw2 (a b c : Nat → Int) : ∀ i, i < 4 → crs a c b i = -crs a b c i := fun i hi => by
  rcases (show i = 0 ∨ i = 1 ∨ i = 2 ∨ i = 3 by omega) with rfl | rfl | rfl | rfl <;> simp only [crs] <;> grind
theorem crs_same (a c : Nat → Int) : ∀ i, i < 4 → crs a a c i = 0 := fun i hi => by
  rcases (show i = 0 ∨ i = 1 ∨ i = 2 ∨ i = 3 by omega) with rfl | rfl | rfl | rfl <;> simp only [crs] <;> grind
theorem nz4_neg {x y : Nat → Int} (h : ∀ i, i < 4 → x i = -y i) (hy : nz4 y) : nz4 x := by
  obtain ⟨i, hi, hne⟩ := hy
  exact ⟨i, hi, by rw [h i hi]; omega⟩
theorem crs_m1 (a b c : Nat → Int) : ∀ i, i < 4 → crs a b (fun i => -1 * c i) i = -crs a b c i := fun i hi => by
  rcases (show i = 0 ∨ i = 1 ∨ i = 2 ∨ i = 3 by omega) with rfl | rfl | rfl | rfl <;> simp only [crs] <;> grind
theorem crs_m2 (a c : Nat → Int) : ∀ i, i < 4 → crs a c (fun i => -1 * c i) i = 0 := fun i hi => by
  rcases (show i = 0 ∨ i = 1 ∨ i = 2 ∨ i = 3 by omega) with rfl | rfl | rfl | rfl <;> simp only [crs] <;> grind
theorem crs_m3 (a c : Nat → Int) : ∀ i, i < 4 → crs c (fun i => -1 * c i) a i = 0 := fun i hi => by
  rcases (show i = 0 ∨ i = 1 ∨ i = 2 ∨ i = 3 by omega) with rfl | rfl | rfl | rfl <;> simp only [crs] <;> grind
/-- three independent rows that are tight at x: among them zs - 1 of the desk's -/
theorem XW_cmp {wf yf vf yf0 vf0 : Nat → Int32} {rn zs yn : Nat} {q0 q1 : Nat → Int64} (h2 : 2 ≤ zs) (h4 : zs ≤ 4) (hr8 : rn ≤ 8) (hr : rowsOK wf rn zs) (hm : rsm wf rn zs (2 ^ rn) ((0, yf0, vf0), q0) = ((yn, yf, vf), q1)) : CMP (xn rn zs) (XW wf rn) yn (wr yf) := by
  intro x a b c hx ha hb hc ta tb tc hn hz
  obtain ⟨cx, hx0⟩ := (XW_cn h2).mp hx
  have fin : ∀ X, setOK rn zs X → (∀ l, l < zs - 1 → dot4 (wr wf (Jn X rn l)) x = 0) → nz4 (Nx zs wf (Jn X rn)) → ∃ j, j < yn ∧ ∃ p q : Int, 0 < p ∧ 0 < q ∧ ∀ i, i < 4 → p * x i = q * wr yf j i := by
    intro X hX ht hN
    obtain ⟨u, ⟨k, hk, hu⟩, p, q, hp, hq, e⟩ := rsm_new (p := ((0, yf0, vf0), q0)) h2 h4 hr8 hr hX hz hx0 cx ht hN
    rw [hm] at hk hu
    exact ⟨k, hk, p, q, hp, hq, fun i hi => by rw [e i hi, ← hu i hi]⟩
  obtain ⟨a, b, c, hab, hbc, ⟨ha, hb, hc, ta, tb, tc, hn⟩⟩ := sort3 (P := fun a b c => a < xn rn zs ∧ b < xn rn zs ∧ c < xn rn zs ∧ dot4 (XW wf rn a) x = 0 ∧ dot4 (XW wf rn b) x = 0 ∧ dot4 (XW wf rn c) x = 0 ∧ nz4 (crs (XW wf rn a) (XW wf rn b) (XW wf rn c)))
    (fun a b c ⟨x1, x2, x3, x4, x5, x6, x7⟩ => ⟨x2, x1, x3, x5, x4, x6, nz4_neg (crs_sw1 _ _ _) x7⟩) (fun a b c ⟨x1, x2, x3, x4, x5, x6, x7⟩ => ⟨x1, x3, x2, x4, x6, x5, nz4_neg (crs_sw2 _ _ _) x7⟩)
    (fun a b c ⟨x1, x2, x3, x4, x5, x6, x7⟩ e => by subst e; obtain ⟨i, hi, hne⟩ := x7; exact hne (crs_same _ _ i hi)) ⟨ha, hb, hc, ta, tb, tc, hn⟩
  have rlo : ∀ k, k < rn → ∀ i, zs ≤ i → i < 4 → wr wf k i = 0 := fun k hk i h1 h9 => wr_hi hr hk h1 h9
  rcases (show zs = 4 ∨ zs = 3 ∨ zs = 2 by omega) with rfl | rfl | rfl
  · have e : xn rn 4 = rn := by unfold xn; omega
    rw [e] at ha hb hc
    rw [XW_lo ha, XW_lo hb, XW_lo hc] at hn
    rw [XW_lo ha] at ta
    rw [XW_lo hb] at tb
    rw [XW_lo hc] at tc
    obtain ⟨s1, s2⟩ := set_3a rn (by omega) c hc b hbc a hab
    obtain ⟨s3, s4⟩ := set_3b rn (by omega) c hc b hbc a hab
    have s5 := set_3c rn (by omega) c hc b hbc a hab
    refine fin _ ⟨s1, s2⟩ (fun l hl => ?_) ?_
    · rcases (show l = 0 ∨ l = 1 ∨ l = 2 by omega) with rfl | rfl | rfl
      · rw [s3]; exact ta
      · rw [s4]; exact tb
      · rw [s5]; exact tc
    · unfold Nx R1 R2
      rw [if_neg (by decide), if_neg (by decide), s3, s4, s5]; exact hn
  · have e : xn rn 3 = rn + 2 := by unfold xn; omega
    rw [e] at ha hb hc
    by_cases hc1 : c < rn
    · exfalso
      rw [XW_lo (by omega : a < rn), XW_lo (by omega : b < rn), XW_lo hc1] at hn
      rw [XW_lo (by omega : a < rn)] at ta
      rw [XW_lo (by omega : b < rn)] at tb
      rw [XW_lo hc1] at tc
      have a3 := rlo a (by omega) 3 (by decide) (by decide)
      have b3 := rlo b (by omega) 3 (by decide) (by decide)
      have c3 := rlo c hc1 3 (by decide) (by decide)
      have A : AX (wr wf a) (wr wf b) (wr wf c) (crs (wr wf a) (wr wf b) (wr wf c)) := ⟨⟨1, by decide, fun i _ => Int.one_mul _⟩, hn⟩
      have ker := A.ker ta tb tc
      have np := dot4_pos hn
      have z0 : crs (wr wf a) (wr wf b) (wr wf c) 0 = 0 := by simp only [crs, a3, b3, c3]; grind
      have z1 : crs (wr wf a) (wr wf b) (wr wf c) 1 = 0 := by simp only [crs, a3, b3, c3]; grind
      have z2 : crs (wr wf a) (wr wf b) (wr wf c) 2 = 0 := by simp only [crs, a3, b3, c3]; grind
      have dz : dot4 (crs (wr wf a) (wr wf b) (wr wf c)) x = 0 := by
        unfold dot4; rw [z0, z1, z2, hx0 3 (by decide) (by decide)]; simp
      obtain ⟨i, hi, hne⟩ := hz
      have := ker i hi
      rw [dz, Int.zero_mul] at this
      rcases Int.mul_eq_zero.mp this with q | q
      · omega
      · exact hne q
    · by_cases hb1 : b < rn
      · rw [XW_lo (by omega : a < rn), XW_lo hb1] at hn
        rw [XW_lo (by omega : a < rn)] at ta
        rw [XW_lo hb1] at tb
        have hn3 : nz4 (crs (wr wf a) (wr wf b) (un 3)) := by
          rcases (show c = rn ∨ c = rn + 1 by omega) with rfl | rfl
          · rw [XW_0] at hn; exact hn
          · rw [XW_1] at hn
            exact nz4_neg (fun i hi => by have := crs_m1 (wr wf a) (wr wf b) (un 3) i hi; omega) hn
        obtain ⟨s1, s2, s3, s4⟩ := set_2 rn (by omega) b hb1 a hab
        refine fin _ ⟨s1, s2⟩ (fun l hl => ?_) ?_
        · rcases (show l = 0 ∨ l = 1 by omega) with rfl | rfl
          · rw [s3]; exact ta
          · rw [s4]; exact tb
        · unfold Nx R1 R2
          rw [if_neg (by decide), if_pos (by decide), s3, s4]; exact hn3
      · exfalso
        obtain rfl : b = rn := by omega
        obtain rfl : c = b + 1 := by omega
        rw [XW_0, XW_1] at hn
        obtain ⟨i, hi, hne⟩ := hn
        exact hne (crs_m2 _ _ i hi)
  · have e : xn rn 2 = rn + 4 := by unfold xn; omega
    rw [e] at ha hb hc
    by_cases ha1 : a < rn
    · rw [XW_lo ha1] at hn ta
      have a2 := rlo a ha1 2 (by decide) (by decide)
      have a3 := rlo a ha1 3 (by decide) (by decide)
      have hna : ¬ (wr wf a 0 = 0 ∧ wr wf a 1 = 0) := fun ⟨z0, z1⟩ => by
        obtain ⟨i, hi, hne⟩ := hn
        refine hne ?_
        rcases (show i = 0 ∨ i = 1 ∨ i = 2 ∨ i = 3 by omega) with rfl | rfl | rfl | rfl <;> simp only [crs, z0, z1, a2, a3] <;> simp
      have hn3 : nz4 (crs (wr wf a) (un 2) (un 3)) := by
        by_cases z1 : wr wf a 1 = 0
        · refine ⟨1, by decide, ?_⟩
          have : ¬ wr wf a 0 = 0 := fun z => hna ⟨z, z1⟩
          simpa [crs, un, a2, a3] using this
        · refine ⟨0, by decide, ?_⟩
          simpa [crs, un, a2, a3] using z1
      obtain ⟨s1, s2, s3⟩ := set_1 rn (by omega) a ha1
      refine fin _ ⟨s1, s2⟩ (fun l hl => ?_) ?_
      · obtain rfl : l = 0 := by omega
        rw [s3]; exact ta
      · unfold Nx R1 R2
        rw [if_pos (by decide), if_pos (by decide), s3]; exact hn3
    · exfalso
      obtain ⟨i, hi, hne⟩ := hn
      rcases (show (a = rn ∧ b = rn + 1) ∨ (b = rn + 2 ∧ c = rn + 3) by omega) with ⟨rfl, rfl⟩ | ⟨rfl, rfl⟩
      · rw [XW_0, XW_1] at hne; exact hne (crs_m3 _ _ i hi)
      · rw [XW_2, XW_3] at hne; exact hne (crs_m2 _ _ i hi)
/-- the desk's cone, with its rays -/
theorem desk_CX {c : MC} (hc : MJ c) (hk : c.kn = 1) (hz : c.zs ≤ c.rk) (hs : SL c.yn c.yf) (hl : LsP (RP c.wf c.rn c.zs) c.yn c.yf) : CX (xn c.rn c.zs) (XW c.wf c.rn) c.yn (wr c.yf) := by
  obtain ⟨⟨q0, hq⟩, -, h3⟩ := hc.k1 hk
  obtain ⟨⟨yf1, vf0, q1, vf1, q2, hm⟩, -⟩ := h3 hz
  have h2 := hc.z2
  have h4 := hc.z4
  have ro := hc.ro
  have v4 : ∀ j i, i < 4 → vec4 (c.yf (4 * j + 0)) (c.yf (4 * j + 1)) (c.yf (4 * j + 2)) (c.yf (4 * j + 3)) i = wr c.yf j i := fun j i hi => by
    rcases (show i = 0 ∨ i = 1 ∨ i = 2 ∨ i = 3 by omega) with rfl | rfl | rfl | rfl <;> rfl
  have zero : (0 : Int32).toInt = 0 := by decide
  refine ⟨fun y hy => ?_, XW_cmp h2 h4 hc.r8 ro hm, fun j hj => ⟨(XW_cn h2).mpr ⟨fun r hr => ?_, fun i hi h9 => ?_⟩, ?_⟩, fun j k hj hk9 hne => ?_, fun j hj => ?_⟩
  · have hy0 : ∀ i, c.zs ≤ i → i < 4 → y i = 0 := fun i hi h9 => by
      rcases (show i = 2 ∨ i = 3 by omega) with rfl | rfl
      · have a := hy (c.rn + 2) (by unfold xn; omega)
        rw [XW_2, un2] at a; exact a
      · have a := hy c.rn (by unfold xn; omega)
        rw [XW_0, un3] at a; exact a
    refine pointed h4 ro (by rw [← hq]; exact hz) hy0 (fun k hk9 => ?_)
    have := hy k (by unfold xn; omega)
    rw [XW_lo hk9] at this; exact this
  · have := (hl j hj).1.2.1 r hr
    rw [wdot_congr (v4 j)] at this
    exact this
  · obtain ⟨-, -, -, p4, p5⟩ := (hl j hj).1
    rcases (show i = 2 ∨ i = 3 by omega) with rfl | rfl
    · show (c.yf (4 * j + 2)).toInt = 0
      rw [p4 (by omega)]; exact zero
    · show (c.yf (4 * j + 3)).toInt = 0
      rw [p5 (by omega)]; exact zero
  · obtain ⟨r, hr, hp⟩ := (hl j hj).1.2.2.1
    refine nz4_dot (x := wr c.wf r) (fun z => ?_)
    rw [wdot_congr (v4 j)] at hp
    have hp : 0 < dot4 (wr c.wf r) (wr c.yf j) := hp
    omega
  · have np := (hl j hj).np (hl k hk9) (fun z => by
      have z : ∀ i, i < 4 → wr c.yf j i = wr c.yf k i := fun i hi => by rw [← v4 j i hi, ← v4 k i hi]; exact z i hi
      rcases Nat.lt_or_gt_of_ne hne with h | h
      · have := hs j k h hk9
        rw [lx_congr z (fun _ _ => rfl)] at this
        exact lx_ir this
      · have := hs k j h hj
        rw [lx_congr (fun _ _ => rfl) z] at this
        exact lx_ir this)
    intro A B hA e
    exact np A B hA (fun i hi => by rw [v4 j i hi, v4 k i hi]; exact e i hi)
  · have ax : ∀ a b c' : Nat → Int, AX a b c' (vec4 (c.yf (4 * j + 0)) (c.yf (4 * j + 1)) (c.yf (4 * j + 2)) (c.yf (4 * j + 3))) → AX a b c' (wr c.yf j) := fun a b c' ⟨⟨g, hg, e⟩, i, hi, hne⟩ => ⟨⟨g, hg, fun i hi => by rw [← v4 j i hi]; exact e i hi⟩, i, hi, by rw [← v4 j i hi]; exact hne⟩
    rcases (hl j hj).2.1 with ⟨e, a, b, d, hab, hbd, hd, A⟩ | ⟨e, a, b, hab, hb, A⟩ | ⟨e, a, ha, A⟩
    · refine ⟨a, b, d, by unfold xn; omega, by unfold xn; omega, by unfold xn; omega, ?_⟩
      rw [XW_lo (by omega), XW_lo (by omega), XW_lo hd]; exact ax _ _ _ A
    · refine ⟨a, b, c.rn, by unfold xn; omega, by unfold xn; omega, by unfold xn; omega, ?_⟩
      rw [XW_lo (by omega), XW_lo hb, XW_0]; exact ax _ _ _ A
    · refine ⟨a, c.rn + 2, c.rn, by unfold xn; omega, by unfold xn; omega, by unfold xn; omega, ?_⟩
      rw [XW_lo ha, XW_2, XW_0]; exact ax _ _ _ A
