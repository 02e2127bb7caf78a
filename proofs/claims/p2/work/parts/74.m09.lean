/-! ===== own rows: mathematics of the reference, 09 ===== -/
-- lists of points
def LsP (Q : Int32 → Int32 → Int32 → Int32 → Prop) (n : Nat) (f : Nat → Int32) : Prop := ∀ k, k < n → Q (f (4 * k + 0)) (f (4 * k + 1)) (f (4 * k + 2)) (f (4 * k + 3))
theorem shd_at {k : Nat} : ∀ (u : Nat) (f : Nat → Int32) (j : Nat), shd k u f j = if 4 * k + 4 ≤ j ∧ j < u + 4 then f (j - 4) else f j
  | 0, f, j => by rw [if_neg (by omega)]; rfl
  | u + 1, f, j => by
    by_cases e : u < 4 * k
    · have e1 : shd k (u + 1) f = f := by show (if u < 4 * k then f else _) = _; rw [if_pos e]
      rw [e1, if_neg (by omega)]
    · have e1 : shd k (u + 1) f = shd k u (upd f (u + 4) (f u)) := by show (if u < 4 * k then f else _) = _; rw [if_neg e]
      rw [e1, shd_at u]
      by_cases h : 4 * k + 4 ≤ j ∧ j < u + 4
      · rw [if_pos h, if_pos (by omega), updI_ne (by omega)]
      · rw [if_neg h]
        by_cases h2 : j = u + 4
        · subst h2
          rw [updI_eq, if_pos (by omega), show u + 4 - 4 = u by omega]
        · rw [updI_ne h2, if_neg (by omega)]
theorem kpl_le {f g : Nat → Int32} : ∀ (m k : Nat), kpl f g m k ≤ k + m
  | 0, k => Nat.le_refl k
  | m + 1, k => by
    show (if cmp4 f (4 * k) g < 0 then kpl f g m (k + 1) else k) ≤ _
    split
    · have := kpl_le (f := f) (g := g) m (k + 1); omega
    · omega
theorem kpF_at {n k : Nat} {f g : Nat → Int32} (hk : k ≤ n) {q i : Nat} (hq : q < n + 1) (hi : i < 4) : kpF n k f g (4 * q + i) = if q < k then f (4 * q + i) else if q = k then g i else f (4 * (q - 1) + i) := by
  unfold kpF
  by_cases h1 : q < k
  · rw [if_pos h1, updI_ne (by omega), updI_ne (by omega), updI_ne (by omega), updI_ne (by omega), shd_at, if_neg (by omega)]
  · rw [if_neg h1]
    by_cases h2 : q = k
    · subst h2
      rw [if_pos rfl]
      rcases (show i = 0 ∨ i = 1 ∨ i = 2 ∨ i = 3 by omega) with rfl | rfl | rfl | rfl
      · rw [updI_ne (by omega), updI_ne (by omega), updI_ne (by omega), updI_eq]
      · rw [updI_ne (by omega), updI_ne (by omega), updI_eq]
      · rw [updI_ne (by omega), updI_eq]
      · rw [updI_eq]
    · rw [if_neg h2, updI_ne (by omega), updI_ne (by omega), updI_ne (by omega), updI_ne (by omega), shd_at, if_pos (by omega), show 4 * q + i - 4 = 4 * (q - 1) + i by omega]
theorem LsP.ins {Q : Int32 → Int32 → Int32 → Int32 → Prop} {n k : Nat} {f g : Nat → Int32} (h : LsP Q n f) (hg : Q (g 0) (g 1) (g 2) (g 3)) (hk : k ≤ n) : LsP Q (n + 1) (kpF n k f g) := by
  intro q hq
  rw [kpF_at hk hq (by decide), kpF_at hk hq (by decide), kpF_at hk hq (by decide), kpF_at hk hq (by decide)]
  by_cases h1 : q < k
  · rw [if_pos h1, if_pos h1, if_pos h1, if_pos h1]; exact h q (by omega)
  · rw [if_neg h1, if_neg h1, if_neg h1, if_neg h1]
    by_cases h2 : q = k
    · rw [if_pos h2, if_pos h2, if_pos h2, if_pos h2]; exact hg
    · rw [if_neg h2, if_neg h2, if_neg h2, if_neg h2]; exact h (q - 1) (by omega)
theorem LsP.ky {Q : Int32 → Int32 → Int32 → Int32 → Prop} {n : Nat} {f g : Nat → Int32} (h : LsP Q n f) (hg : Q (g 0) (g 1) (g 2) (g 3)) : LsP Q (kyN n f g) (kyF n f g) := by
  by_cases hc : kyP n f g
  · rw [kyN_y hc, kyF_y hc]; exact h
  · rw [kyN_n hc, kyF_n hc]; exact h.ins hg (by have := kpl_le (f := f) (g := g) n 0; omega)
theorem LsP.kq {Q : Int32 → Int32 → Int32 → Int32 → Prop} {n : Nat} {f g : Nat → Int32} (h : LsP Q n f) (hg : Q (g 0) (g 1) (g 2) (g 3)) : LsP Q (kqN n f g) (kqF n f g) := by
  by_cases hc : kqP n f g
  · rw [kqN_y hc, kqF_y hc]; exact h
  · rw [kqN_n hc, kqF_n hc]; exact h.ins hg (by have := kpl_le (f := f) (g := g) n 0; omega)
/-- the four numbers as a vector -/
def vec4 (a b c d : Int32) (i : Nat) : Int := if i = 0 then a.toInt else if i = 1 then b.toInt else if i = 2 then c.toInt else d.toInt
/-- a point of the cone, not 0, with a bound -/
def CP (wf : Nat → Int32) (rn zs B : Nat) (a b c d : Int32) : Prop := (∀ i, i < 4 → (vec4 a b c d i).natAbs ≤ B) ∧ (∀ r, r < rn → 0 ≤ wdot wf r (vec4 a b c d)) ∧ (∃ r, r < rn ∧ 0 < wdot wf r (vec4 a b c d)) ∧ (zs ≤ 2 → c = 0) ∧ (zs ≤ 3 → d = 0)
theorem wdot_congr {wf : Nat → Int32} {k : Nat} {u v : Nat → Int} (h : ∀ i, i < 4 → u i = v i) : wdot wf k u = wdot wf k v := by
  unfold wdot; rw [h 0 (by decide), h 1 (by decide), h 2 (by decide), h 3 (by decide)]
-- minors of rows are at most 750
theorem S_le5 {A : Nat → Nat → Int} (hA : ∀ k i, k < 4 → i < 4 → (A k i).natAbs ≤ 5) {n : Nat} (h1 : 1 ≤ n) (hn : n ≤ 3) : (dtn n A).natAbs ≤ 750 := by
  have two : ∀ a b x y, a < 4 → b < 4 → x < 4 → y < 4 → ∀ a' b' x' y', a' < 4 → b' < 4 → x' < 4 → y' < 4 → (A a b * A x y - A a' b' * A x' y').natAbs ≤ 50 := by
    intro a b x y h1 h2 h3 h4 a' b' x' y' g1 g2 g3 g4
    have e1 := abs_mul (hA a b h1 h2) (hA x y h3 h4)
    have e2 := abs_mul (hA a' b' g1 g2) (hA x' y' g3 g4)
    omega
  rcases (show n = 1 ∨ n = 2 ∨ n = 3 by omega) with rfl | rfl | rfl
  · exact Nat.le_trans (hA 0 0 (by decide) (by decide)) (by decide)
  · exact Nat.le_trans (two 0 0 1 1 (by decide) (by decide) (by decide) (by decide) 0 1 1 0 (by decide) (by decide) (by decide) (by decide)) (by decide)
  · show (S2 A 2 2).natAbs ≤ 750
    have e1 := abs_mul (hA 2 2 (by decide) (by decide)) (two 0 0 1 1 (by decide) (by decide) (by decide) (by decide) 0 1 1 0 (by decide) (by decide) (by decide) (by decide))
    have e2 := abs_mul (hA 2 1 (by decide) (by decide)) (two 0 0 1 2 (by decide) (by decide) (by decide) (by decide) 0 2 1 0 (by decide) (by decide) (by decide) (by decide))
    have e3 := abs_mul (hA 2 0 (by decide) (by decide)) (two 0 1 1 2 (by decide) (by decide) (by decide) (by decide) 0 2 1 1 (by decide) (by decide) (by decide) (by decide))
    unfold S2
    omega
/-- a square as a matrix -/
def mat (n : Nat) (f : Nat → Int64) (k i : Nat) : Int := if k < n ∧ i < n then (f (n * k + i)).toInt else 0
theorem mat_rep (n : Nat) (f : Nat → Int64) : Rep n 0 f (mat n f) := by
  intro k i _ h2 _ h4
  show _ = mat n f k i
  unfold mat; rw [if_pos ⟨h2, h4⟩]
theorem mat_le {n B : Nat} {f : Nat → Int64} (h : ∀ j, j < n * n → (f j).toInt.natAbs ≤ B) (k i : Nat) : (mat n f k i).natAbs ≤ B := by
  unfold mat
  split
  · rename_i q
    refine h _ ?_
    have := Nat.mul_le_mul (Nat.le_refl n) (show k + 1 ≤ n from q.1)
    rw [Nat.mul_succ] at this
    omega
  · exact Nat.zero_le _
theorem wth_det {n : Nat} {f : Nat → Int64} (hn : n ≤ 4) (h : ∀ j, j < n * n → (f j).toInt.natAbs ≤ 750) : (wth n n 0 f 1 1).1.toInt = dtn n (mat n f) := by
  rw [wth_exact hn n 0 f 1 1 (mat n f) (by omega) (mat_rep n f) (fun k i _ _ => mat_le h k i) rfl (fun j h1 h2 => absurd h1 (by omega)) (Or.inl rfl)]
  rw [show (1 : Int32).toInt = 1 by decide, Int.one_mul]
theorem mnr_750 {wf : Nat → Int32} {rn zs x wo : Nat} {q : Nat → Int64} (h2 : 2 ≤ zs) (h4 : zs ≤ 4) (hr8 : rn ≤ 8) (hr : rowsOK wf rn zs) (hx : setOK rn zs x) (hw : wo < zs) : (mnr wf rn zs x wo q).1.toInt.natAbs ≤ 750 := by
  have hf := mf2_le (x := x) (wo := wo) (q := q) h4 (fun r hr1 i hi => ⟨(hr r i hr1 hi).1, (hr r i hr1 hi).2.1⟩) rn (Nat.le_refl rn)
  rw [mf2_all hr8 hx hw] at hf
  have hb : (wth (zs - 1) (zs - 1) 0 (mf2 wf x zs wo rn (0, q)).2 1 1).1.toInt.natAbs ≤ 750 := by
    rw [wth_det (by omega) (fun j hj => Nat.le_trans (hf j hj) (by decide))]
    exact S_le5 (fun k i _ _ => mat_le hf k i) (by omega) (by omega)
  unfold mnr
  show (if wo % 2 = 0 then _ else _ : Int64).toInt.natAbs ≤ _
  split
  · exact hb
  · rw [neg64 hb (by decide)]; omega
theorem mn4_750 {wf : Nat → Int32} {rn zs x : Nat} {q : Nat → Int64} (h2 : 2 ≤ zs) (h4 : zs ≤ 4) (hr8 : rn ≤ 8) (hr : rowsOK wf rn zs) (hx : setOK rn zs x) :
    (mn4 wf rn zs x q).1.1.toInt.natAbs ≤ 750 ∧ (mn4 wf rn zs x q).1.2.1.toInt.natAbs ≤ 750 ∧ (mn4 wf rn zs x q).1.2.2.1.toInt.natAbs ≤ 750 ∧ (mn4 wf rn zs x q).1.2.2.2.toInt.natAbs ≤ 750 := by
  have hz : (0 : Int64).toInt.natAbs ≤ 750 := by decide
  unfold mn4
  refine ⟨mnr_750 h2 h4 hr8 hr hx (by omega), mnr_750 h2 h4 hr8 hr hx (by omega), ?_, ?_⟩
  · show (if zs ≤ 2 then ((0 : Int64), _) else _ : Int64 × (Nat → Int64)).1.toInt.natAbs ≤ 750
    split
    · exact hz
    · exact mnr_750 h2 h4 hr8 hr hx (by omega)
  · show (if zs ≤ 3 then ((0 : Int64), _) else _ : Int64 × (Nat → Int64)).1.toInt.natAbs ≤ 750
    split
    · exact hz
    · exact mnr_750 h2 h4 hr8 hr hx (by omega)
/-- what is found across a set of rows is a point of the cone -/
theorem vcs_CP {wf : Nat → Int32} {rn zs x : Nat} {q q0 : Nat → Int64} {w : Nat → Int32} {s : Int64} (h2 : 2 ≤ zs) (h4 : zs ≤ 4) (hr8 : rn ≤ 8) (hr : rowsOK wf rn zs) (hk : zs ≤ (rkf rn (sqr wf (4 * rn) q0) 4).1) (hx : setOK rn zs x) (hs : s = 1 ∨ s = -1) (hg : 0 < gc4 (mn4 wf rn zs x q).1) (hh : hld wf rn (vcs zs w s (gc4 (mn4 wf rn zs x q).1) (mn4 wf rn zs x q).1) 0) :
    CP wf rn zs 750 (vcs zs w s (gc4 (mn4 wf rn zs x q).1) (mn4 wf rn zs x q).1 0) (vcs zs w s (gc4 (mn4 wf rn zs x q).1) (mn4 wf rn zs x q).1 1) (vcs zs w s (gc4 (mn4 wf rn zs x q).1) (mn4 wf rn zs x q).1 2) (vcs zs w s (gc4 (mn4 wf rn zs x q).1) (mn4 wf rn zs x q).1 3) := by
  obtain ⟨b0, b1, b2, b3, z2, z3⟩ := mn4_le (q := q) h2 h4 hr8 hr hx
  obtain ⟨c0, c1, c2, c3⟩ := mn4_750 (q := q) h2 h4 hr8 hr hx
  generalize (mn4 wf rn zs x q).1 = v at *
  have ha : ∀ i, i < 4 → (vcs zs w s (gc4 v) v i).toInt = s.toInt * dirW v (gc4 v) i := fun i hi => vcs_at h2 hs hg b0 b1 b2 b3 z2 z3 hi h4
  have hv : ∀ i, i < 4 → vec4 (vcs zs w s (gc4 v) v 0) (vcs zs w s (gc4 v) v 1) (vcs zs w s (gc4 v) v 2) (vcs zs w s (gc4 v) v 3) i = s.toInt * dirW v (gc4 v) i := by
    intro i hi
    rcases (show i = 0 ∨ i = 1 ∨ i = 2 ∨ i = 3 by omega) with rfl | rfl | rfl | rfl
    · exact ha 0 (by decide)
    · exact ha 1 (by decide)
    · exact ha 2 (by decide)
    · exact ha 3 (by decide)
  have hs1 : s.toInt.natAbs = 1 := by rcases hs with rfl | rfl <;> decide
  have hd : ∀ i, i < 4 → (dirW v (gc4 v) i).natAbs ≤ 750 := by
    intro i hi
    unfold dirW
    split
    · rw [Int.natAbs_tdiv]; exact Nat.le_trans (Nat.div_le_self _ _) c0
    · split
      · rw [Int.natAbs_tdiv]; exact Nat.le_trans (Nat.div_le_self _ _) c1
      · split
        · rw [Int.natAbs_tdiv]; exact Nat.le_trans (Nat.div_le_self _ _) c2
        · rw [Int.natAbs_tdiv]; exact Nat.le_trans (Nat.div_le_self _ _) c3
  have hw : ∀ r, wdot wf r (vec4 (vcs zs w s (gc4 v) v 0) (vcs zs w s (gc4 v) v 1) (vcs zs w s (gc4 v) v 2) (vcs zs w s (gc4 v) v 3)) = s.toInt * wdot wf r (dirW v (gc4 v)) := by
    intro r
    rw [wdot_congr hv]
    unfold wdot
    grind
  have hpos : ∀ r, r < rn → 0 ≤ s.toInt * wdot wf r (dirW v (gc4 v)) := by
    intro r hr1
    have a := hh r hr1
    rw [i64_neg, prm_int (fun i hi => ⟨(hr r i hr1 hi).1, (hr r i hr1 hi).2.1⟩), pri_vcs ha] at a
    omega
  have zz : (0 : Int64).toInt = 0 := by decide
  refine ⟨fun i hi => ?_, fun r hr1 => by rw [hw]; exact hpos r hr1, ?_, fun h => ?_, fun h => ?_⟩
  · rw [hv i hi, Int.natAbs_mul, hs1, Nat.one_mul]; exact hd i hi
  · refine Classical.byContradiction (fun hno => ?_)
    refine dirW_ne hg (pointed h4 hr hk (fun i h5 h6 => ?_) (fun r hr1 => ?_))
    · rcases (show i = 2 ∨ i = 3 by omega) with rfl | rfl
      · show v.2.2.1.toInt.tdiv _ = 0
        rw [z2 h5, zz, Int.zero_tdiv]
      · show v.2.2.2.toInt.tdiv _ = 0
        rw [z3 h5, zz, Int.zero_tdiv]
    · have a := hpos r hr1
      have b : ¬ 0 < s.toInt * wdot wf r (dirW v (gc4 v)) := fun z => hno ⟨r, hr1, by rw [hw]; exact z⟩
      have e : s.toInt * wdot wf r (dirW v (gc4 v)) = 0 := by omega
      rcases Int.mul_eq_zero.mp e with e1 | e1
      · omega
      · exact e1
  · apply Int32.toInt_inj.mp
    rw [ha 2 (by decide)]
    show s.toInt * v.2.2.1.toInt.tdiv _ = _
    rw [z2 h, zz, Int.zero_tdiv, Int.mul_zero]; rfl
  · apply Int32.toInt_inj.mp
    rw [ha 3 (by decide)]
    show s.toInt * v.2.2.2.toInt.tdiv _ = _
    rw [z3 h, zz, Int.zero_tdiv, Int.mul_zero]; rfl
theorem acr_CP {wf : Nat → Int32} {rn zs x : Nat} {q q0 : Nat → Int64} {p : Nat × (Nat → Int32) × (Nat → Int32)} (h2 : 2 ≤ zs) (h4 : zs ≤ 4) (hr8 : rn ≤ 8) (hr : rowsOK wf rn zs) (hk : zs ≤ (rkf rn (sqr wf (4 * rn) q0) 4).1) (hx : setOK rn zs x) (hp : LsP (CP wf rn zs 750) p.1 p.2.1) : LsP (CP wf rn zs 750) (acr wf rn zs (mn4 wf rn zs x q).1 p).1 (acr wf rn zs (mn4 wf rn zs x q).1 p).2.1 := by
  have hst : ∀ s p, (s = 1 ∨ s = -1) → 0 < gc4 (mn4 wf rn zs x q).1 → LsP (CP wf rn zs 750) p.1 p.2.1 → LsP (CP wf rn zs 750) (ast wf rn zs s (gc4 (mn4 wf rn zs x q).1) (mn4 wf rn zs x q).1 p).1 (ast wf rn zs s (gc4 (mn4 wf rn zs x q).1) (mn4 wf rn zs x q).1 p).2.1 := by
    intro s p hs hg hp
    by_cases hh : hld wf rn (vcs zs p.2.2 s (gc4 (mn4 wf rn zs x q).1) (mn4 wf rn zs x q).1) 0
    · rw [show ast wf rn zs s (gc4 (mn4 wf rn zs x q).1) (mn4 wf rn zs x q).1 p = _ from ast_y (n := p.1) (f := p.2.1) (w := p.2.2) hh rfl rfl]
      exact hp.ky (vcs_CP h2 h4 hr8 hr hk hx hs hg hh)
    · rw [show ast wf rn zs s (gc4 (mn4 wf rn zs x q).1) (mn4 wf rn zs x q).1 p = _ from ast_n (n := p.1) (f := p.2.1) (w := p.2.2) hh]
      exact hp
  by_cases hg : 0 < gc4 (mn4 wf rn zs x q).1
  · rw [acr_y hg rfl rfl]
    exact hst 1 _ (Or.inl rfl) hg (hst (-1) p (Or.inr rfl) hg hp)
  · rw [acr_n hg]; exact hp
theorem rsm_CP {wf : Nat → Int32} {rn zs : Nat} {q0 : Nat → Int64} {p : (Nat × (Nat → Int32) × (Nat → Int32)) × (Nat → Int64)} (h2 : 2 ≤ zs) (h4 : zs ≤ 4) (hr8 : rn ≤ 8) (hr : rowsOK wf rn zs) (hk : zs ≤ (rkf rn (sqr wf (4 * rn) q0) 4).1) (hp : p.1.1 = 0) : ∀ x, x ≤ 2 ^ rn → LsP (CP wf rn zs 750) (rsm wf rn zs x p).1.1 (rsm wf rn zs x p).1.2.1
  | 0, _ => fun k hk1 => absurd hk1 (by show ¬ k < p.1.1; omega)
  | x + 1, hx => by
    have ih := rsm_CP (p := p) h2 h4 hr8 hr hk hp x (by omega)
    by_cases e : mny x 16 = zs - 1
    · rw [rsm_y (r := (rsm wf rn zs x p).1) (q := (rsm wf rn zs x p).2) (v := (mn4 wf rn zs x (rsm wf rn zs x p).2).1) (q2 := (mn4 wf rn zs x (rsm wf rn zs x p).2).2) rfl e rfl rfl]
      exact acr_CP h2 h4 hr8 hr hk ⟨by omega, e⟩ ih
    · rw [rsm_n rfl e]; exact ih
theorem KMr.rays {wf : Nat → Int32} {rn zs rk yn : Nat} {yf tf : Nat → Int32} {sp lg : Nat} (h2 : 2 ≤ zs) (h4 : zs ≤ 4) (hr8 : rn ≤ 8) (hr : rowsOK wf rn zs) (h : KMr wf rn zs rk yn yf tf sp lg) (hp : zs ≤ rk) : LsP (CP wf rn zs 750) yn yf := by
  obtain ⟨⟨q0, hq⟩, -, h3⟩ := h
  obtain ⟨⟨yf0, vf0, q1, vf1, q2, hs⟩, -⟩ := h3 hp
  have := rsm_CP (p := ((0, yf0, vf0), q1)) (q0 := q0) h2 h4 hr8 hr (by rw [← hq]; exact hp) rfl (2 ^ rn) (Nat.le_refl _)
  rw [hs] at this
  exact this
