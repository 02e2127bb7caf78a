/-! ===== own rows: class and reference, 16 ===== -/
-- both find the same rays
theorem pcn_mny : ∀ x, x < 256 → pcn x = mny x 16 := by decide +kernel
theorem pr_same {pf wf g h : Nat → Int32} {rn r : Nat} (hs : ∀ i, i < 4 * rn → pf i = wf i) (hr : r < rn) (hg : ∀ i, i < 4 → g i = h i) : pr4 pf r g = prm wf r h 0 := by
  unfold pr4 prm
  rw [← hs (4 * r + 0) (by omega), ← hs (4 * r + 1) (by omega), ← hs (4 * r + 2) (by omega), ← hs (4 * r + 3) (by omega)]
  rw [hg 0 (by decide), hg 1 (by decide), hg 2 (by decide), hg 3 (by decide)]
  rw [show r * 4 = 4 * r by omega]
  rfl
theorem inC_hld {pf wf g h : Nat → Int32} {rn : Nat} (hs : ∀ i, i < 4 * rn → pf i = wf i) (hg : ∀ i, i < 4 → g i = h i) : inC pf rn g ↔ hld wf rn h 0 := by
  constructor
  · intro H k hk; rw [← pr_same hs hk hg]; exact H k hk
  · intro H k hk; rw [pr_same hs hk hg]; exact H k hk
/-- what is alike of both lists -/
def RS (wf : Nat → Int32) (rn zs : Nat) (A : Nat × (Nat → Int32) × (Nat → Int32)) (B : Nat × (Nat → Int32) × (Nat → Int32)) : Prop := A.1 = B.1 ∧ (∀ i, i < 4 * B.1 → A.2.1 i = B.2.1 i) ∧ SL B.1 B.2.1 ∧ LsP (RP wf rn zs) B.1 B.2.1
theorem ray_step {pf wf : Nat → Int32} {rn zs x : Nat} {q0 : Nat → Int64} {A : Nat × (Nat → Int32) × (Nat → Int32)} {B : (Nat × (Nat → Int32) × (Nat → Int32)) × (Nat → Int64)} (h2 : 2 ≤ zs) (h4 : zs ≤ 4) (hr8 : rn ≤ 8) (hr : rowsOK wf rn zs) (hk : zs ≤ (rkf rn (sqr wf (4 * rn) q0) 4).1) (hs : ∀ i, i < 4 * rn → pf i = wf i) (hx : setOK rn zs x) (hl : (lst pf x rn).1 = zs - 1) (h : RS wf rn zs A B.1) :
    RS wf rn zs (rstep pf rn zs (lst pf x rn).2 A) (acr wf rn zs (mn4 wf rn zs x B.2).1 B.1) := by
  obtain ⟨⟨n, f, w⟩, q⟩ := B
  obtain ⟨n', f', dg⟩ := A
  obtain ⟨e1, e2, e3, e4⟩ := h
  have e1 : n' = n := e1
  subst e1
  have e2 : ∀ i, i < 4 * n' → f' i = f i := e2
  have e3 : SL n' f := e3
  have e4 : LsP (RP wf rn zs) n' f := e4
  show RS wf rn zs (rstep pf rn zs (lst pf x rn).2 (n', f', dg)) (acr wf rn zs (mn4 wf rn zs x q).1 (n', f, w))
  obtain ⟨hg, -, -⟩ := dir_yes (q := q) (dg := dg) (w := w) h2 h4 hr8 hr hs hx hl
  have hP : ∀ i, i < 4 → drw_p (lst pf x rn).2 zs dg i = vcs zs (vcs zs w (-1) (gc4 (mn4 wf rn zs x q).1) (mn4 wf rn zs x q).1) 1 (gc4 (mn4 wf rn zs x q).1) (mn4 wf rn zs x q).1 i := (dir_yes h2 h4 hr8 hr hs hx hl).2.1
  have hM : ∀ i, i < 4 → drw_m (lst pf x rn).2 zs (drw_p (lst pf x rn).2 zs dg) i = vcs zs w (-1) (gc4 (mn4 wf rn zs x q).1) (mn4 wf rn zs x q).1 i := (dir_yes h2 h4 hr8 hr hs hx hl).2.2
  have rp := fun s w hs9 hh => vcs_RP (w := w) (s := s) (q := q) h2 h4 hr8 hr hk hx hs9 hg hh
  -- not both
  have nb : ¬ (hld wf rn (vcs zs w (-1) (gc4 (mn4 wf rn zs x q).1) (mn4 wf rn zs x q).1) 0 ∧ hld wf rn (vcs zs (vcs zs w (-1) (gc4 (mn4 wf rn zs x q).1) (mn4 wf rn zs x q).1) 1 (gc4 (mn4 wf rn zs x q).1) (mn4 wf rn zs x q).1) 0) := by
    rintro ⟨a, b⟩
    obtain ⟨⟨-, a2, a3, -, -⟩, -, -⟩ := rp (-1) w (Or.inr rfl) a
    obtain ⟨⟨-, b2, -, -, -⟩, -, -⟩ := rp 1 _ (Or.inl rfl) b
    obtain ⟨b0, b1, b2', b3, z2, z3⟩ := mn4_le (q := q) h2 h4 hr8 hr hx
    have va := fun i hi => vcs_at (w := w) (i := i) h2 (Or.inr rfl) hg b0 b1 b2' b3 z2 z3 hi h4
    have vb := fun i hi => vcs_at (w := vcs zs w (-1) (gc4 (mn4 wf rn zs x q).1) (mn4 wf rn zs x q).1) (i := i) h2 (Or.inl rfl) hg b0 b1 b2' b3 z2 z3 hi h4
    obtain ⟨r, r1, r2⟩ := a3
    have r3 := b2 r r1
    rw [wdot_congr (vec4_at)] at r2 r3
    simp only [wdot] at r2 r3
    rw [va 0 (by decide), va 1 (by decide), va 2 (by decide), va 3 (by decide), show (-1 : Int64).toInt = -1 by decide] at r2
    rw [vb 0 (by decide), vb 1 (by decide), vb 2 (by decide), vb 3 (by decide), show (1 : Int64).toInt = 1 by decide] at r3
    simp only [Int.one_mul, Int.neg_mul, Int.mul_neg] at r2 r3
    omega
  generalize hgm : vcs zs w (-1) (gc4 (mn4 wf rn zs x q).1) (mn4 wf rn zs x q).1 = vm at hP hM nb
  generalize hgp : vcs zs vm 1 (gc4 (mn4 wf rn zs x q).1) (mn4 wf rn zs x q).1 = vp at hP nb
  have rm : hld wf rn vm 0 → RP wf rn zs (vm 0) (vm 1) (vm 2) (vm 3) := fun h => by
    have := rp (-1) w (Or.inr rfl) (by rw [hgm]; exact h)
    rw [hgm] at this; exact this
  have rpp : hld wf rn vp 0 → RP wf rn zs (vp 0) (vp 1) (vp 2) (vp 3) := fun h => by
    have := rp 1 vm (Or.inl rfl) (by rw [hgp]; exact h)
    rw [hgp] at this; exact this
  have iP := inC_hld hs hP
  have iM := inC_hld hs hM
  unfold rstep
  generalize drw_m (lst pf x rn).2 zs (drw_p (lst pf x rn).2 zs dg) = M at hM iM
  generalize drw_p (lst pf x rn).2 zs dg = P at hP iP
  have ins : ∀ g g' : Nat → Int32, (∀ i, i < 4 → g' i = g i) → RP wf rn zs (g 0) (g 1) (g 2) (g 3) → (insN 12 n' f' g' = kyN n' f g ∧ ∀ i, i < 4 * kyN n' f g → insF 12 n' f' g' i = kyF n' f g i) ∧ SL (kyN n' f g) (kyF n' f g) ∧ LsP (RP wf rn zs) (kyN n' f g) (kyF n' f g) := fun g g' hgg hrp => by
    have s1 := e3.ky (g := g)
    have s2 := e4.ky (g := g) hrp
    exact ⟨ins_same e3 e2 hgg (ray12 hr8 hr s1 s2), s1, s2⟩
  by_cases cm : hld wf rn vm 0
  · have cp : ¬ hld wf rn vp 0 := fun z => nb ⟨cm, z⟩
    rw [acr_y hg (ast_y (by rw [hgm]; exact cm) rfl rfl) rfl, hgm]
    rw [ast_n (by rw [hgp]; exact cp)]
    show RS wf rn zs (trN pf rn (trN pf rn n' f' P) (trF pf rn n' f' P) M, trF pf rn (trN pf rn n' f' P) (trF pf rn n' f' P) M, M) _
    rw [trN_n (fun z => cp (iP.mp z)), trF_n (fun z => cp (iP.mp z)), trN_y (iM.mpr cm), trF_y (iM.mpr cm)]
    obtain ⟨⟨a, b⟩, c, d⟩ := ins vm M hM (rm cm)
    exact ⟨a, b, c, d⟩
  · rw [acr_y hg (ast_n (by rw [hgm]; exact cm)) rfl, hgm]
    by_cases cp : hld wf rn vp 0
    · rw [ast_y (by rw [hgp]; exact cp) rfl rfl, hgp]
      show RS wf rn zs (trN pf rn (trN pf rn n' f' P) (trF pf rn n' f' P) M, trF pf rn (trN pf rn n' f' P) (trF pf rn n' f' P) M, M) _
      rw [trN_n (fun z => cm (iM.mp z)), trF_n (fun z => cm (iM.mp z)), trN_y (iP.mpr cp), trF_y (iP.mpr cp)]
      obtain ⟨⟨a, b⟩, c, d⟩ := ins vp P hP (rpp cp)
      exact ⟨a, b, c, d⟩
    · rw [ast_n (by rw [hgp]; exact cp)]
      show RS wf rn zs (trN pf rn (trN pf rn n' f' P) (trF pf rn n' f' P) M, trF pf rn (trN pf rn n' f' P) (trF pf rn n' f' P) M, M) _
      rw [trN_n (fun z => cm (iM.mp z)), trF_n (fun z => cm (iM.mp z)), trN_n (fun z => cp (iP.mp z)), trF_n (fun z => cp (iP.mp z))]
      exact ⟨rfl, e2, e3, e4⟩
theorem ray_sim {pf wf : Nat → Int32} {rn zs : Nat} {q0 : Nat → Int64} {yf0 dg0 : Nat → Int32} {p : (Nat × (Nat → Int32) × (Nat → Int32)) × (Nat → Int64)} (h2 : 2 ≤ zs) (h4 : zs ≤ 4) (hr8 : rn ≤ 8) (hr : rowsOK wf rn zs) (hk : zs ≤ (rkf rn (sqr wf (4 * rn) q0) 4).1) (hs : ∀ i, i < 4 * rn → pf i = wf i) (hp : p.1.1 = 0) : ∀ x, x ≤ 2 ^ rn → RS wf rn zs (rst pf rn zs yf0 dg0 x) (rsm wf rn zs x p).1
  | 0, _ => ⟨by show 0 = p.1.1; omega, fun i hi => absurd hi (by show ¬ i < 4 * p.1.1; omega), fun j k _ hk => absurd hk (by show ¬ k < p.1.1; omega), fun k hk1 => absurd hk1 (by show ¬ k < p.1.1; omega)⟩
  | x + 1, hx => by
    have ih := ray_sim (yf0 := yf0) (dg0 := dg0) (p := p) h2 h4 hr8 hr hk hs hp x (by omega)
    have h256 : 2 ^ rn ≤ 2 ^ 8 := Nat.pow_le_pow_right (by decide) hr8
    have hpc := pcn_mny x (by omega)
    by_cases e : mny x 16 = zs - 1
    · rw [rsm_y (r := (rsm wf rn zs x p).1) (q := (rsm wf rn zs x p).2) (v := (mn4 wf rn zs x (rsm wf rn zs x p).2).1) (q2 := (mn4 wf rn zs x (rsm wf rn zs x p).2).2) rfl e rfl rfl]
      by_cases hl : (lst pf x rn).1 = zs - 1
      · have e1 : rst pf rn zs yf0 dg0 (x + 1) = rstep pf rn zs (lst pf x rn).2 (rst pf rn zs yf0 dg0 x) := @if_pos _ (Classical.propDecidable _) ⟨hpc.trans e, hl⟩ _ _ _
        rw [e1]
        exact ray_step h2 h4 hr8 hr hk hs ⟨by omega, e⟩ hl ih
      · rw [rst_no (fun z => hl z.2), acr_n (dir_no h2 h4 hr8 hr hs ⟨by omega, e⟩ hl)]
        exact ih
    · rw [rst_no (fun z => e (hpc.symm.trans z.1)), rsm_n rfl e]
      exact ih
-- ranks of sets of rays
theorem bitI_nI {m k : Nat} (hm : m < 2 ^ 31) (hk : k < 31) : bitI (nI m) k ↔ m.testBit k = true := by
  unfold bitI
  rw [nI_shr hm hk, nI_and1, tb_iff]
  constructor
  · intro h
    exact nI_inj (by omega) (by decide) (show nI ((m / 2 ^ k) % 2) = nI 1 from h)
  · intro h; rw [h]; rfl
theorem dmf_spec {yf : Nat → Int32} {sx : Int32} {q : Nat → Int64} : ∀ k, (∀ i, i < (dmf yf sx k (0, q)).1 → ∃ j, j < k ∧ bitI sx j ∧ ∀ z, z < 4 → (dmf yf sx k (0, q)).2 (4 * i + z) = (yf (4 * j + z)).toInt64) ∧ ∀ j, j < k → bitI sx j → ∃ i, i < (dmf yf sx k (0, q)).1 ∧ ∀ z, z < 4 → (dmf yf sx k (0, q)).2 (4 * i + z) = (yf (4 * j + z)).toInt64
  | 0 => ⟨fun i hi => absurd hi (Nat.not_lt_zero i), fun j hj => absurd hj (Nat.not_lt_zero j)⟩
  | k + 1 => by
    obtain ⟨a, b⟩ := dmf_spec (yf := yf) (sx := sx) (q := q) k
    by_cases e : bitI sx k
    · rw [dmf_y (n := (dmf yf sx k (0, q)).1) (f := (dmf yf sx k (0, q)).2) rfl e]
      generalize (dmf yf sx k (0, q)).1 = n at *
      generalize (dmf yf sx k (0, q)).2 = f at *
      have new : ∀ z, z < 4 → vp_updL (vp_updL (vp_updL (vp_updL f (4 * n + 0) (yf (4 * k + 0)).toInt64) (4 * n + 1) (yf (4 * k + 1)).toInt64) (4 * n + 2) (yf (4 * k + 2)).toInt64) (4 * n + 3) (yf (4 * k + 3)).toInt64 (4 * n + z) = (yf (4 * k + z)).toInt64 := by
        intro z hz
        rcases (show z = 0 ∨ z = 1 ∨ z = 2 ∨ z = 3 by omega) with rfl | rfl | rfl | rfl
        · rw [updL_ne (by omega), updL_ne (by omega), updL_ne (by omega), updL_eq]
        · rw [updL_ne (by omega), updL_ne (by omega), updL_eq]
        · rw [updL_ne (by omega), updL_eq]
        · rw [updL_eq]
      have old : ∀ i z, i < n → z < 4 → vp_updL (vp_updL (vp_updL (vp_updL f (4 * n + 0) (yf (4 * k + 0)).toInt64) (4 * n + 1) (yf (4 * k + 1)).toInt64) (4 * n + 2) (yf (4 * k + 2)).toInt64) (4 * n + 3) (yf (4 * k + 3)).toInt64 (4 * i + z) = f (4 * i + z) := fun i z hi hz => by
        rw [updL_ne (by omega), updL_ne (by omega), updL_ne (by omega), updL_ne (by omega)]
      refine ⟨fun i hi => ?_, fun j hj hb => ?_⟩
      · have hi : i < n + 1 := hi
        by_cases z : i = n
        · subst z; exact ⟨k, by omega, e, new⟩
        · obtain ⟨j, j1, j2, j3⟩ := a i (by omega)
          exact ⟨j, by omega, j2, fun z hz => (old i z (by omega) hz).trans (j3 z hz)⟩
      · by_cases z : j = k
        · subst z; exact ⟨n, Nat.lt_succ_self n, new⟩
        · obtain ⟨i, i1, i2⟩ := b j (by omega) hb
          exact ⟨i, Nat.lt_succ_of_lt i1, fun z hz => (old i z i1 hz).trans (i2 z hz)⟩
    · rw [dmf_n rfl e]
      refine ⟨fun i hi => ?_, fun j hj hb => ?_⟩
      · obtain ⟨j, j1, j2, j3⟩ := a i hi
        exact ⟨j, by omega, j2, j3⟩
      · by_cases z : j = k
        · subst z; exact absurd hb e
        · exact b j (by omega) hb
/-- the rank of a set of rays: class and reference -/
theorem dmo_lst {yf yf' : Nat → Int32} {yn m : Nat} {q : Nat → Int64} (hy : yn ≤ 30) (hm : m < 2 ^ 31) (hf : ∀ i, i < 4 * yn → yf' i = yf i) (hb : ∀ k, k < yn → ∀ i, i < 4 → (yf (4 * k + i)).toInt.natAbs ≤ 649) : (lst yf' m yn).1 = (dmo yf yn (nI m) q).1 := by
  obtain ⟨a, b⟩ := dmf_spec (yf := yf) (sx := nI m) (q := q) yn
  have hb2 : ∀ k, k < (dmf yf (nI m) yn (0, q)).1 → ∀ i, i < 4 → ((dmf yf (nI m) yn (0, q)).2 (4 * k + i)).toInt.natAbs ≤ 649 := fun k hk i hi => by
    obtain ⟨j, j1, j2, j3⟩ := a k hk
    rw [j3 i hi, i32_64]; exact hb j j1 i hi
  have e : ∀ k, k < yn → ∀ z, z < 4 → yf' (k * 4 + z) = yf (4 * k + z) := fun k hk z hz => by
    rw [show k * 4 + z = 4 * k + z by omega]; exact hf _ (by omega)
  refine lst_rank (C := 649) (by decide) (fun k hk _ i hi => by rw [e k hk i hi]; exact hb k hk i hi) (rkf_rnk hb2) (fun i hi => ?_) (fun j hj hbit => ?_)
  · obtain ⟨j, j1, j2, j3⟩ := a i hi
    refine ⟨j, j1, (bitI_nI hm (by omega)).mp j2, fun z hz => ?_⟩
    show ((dmf yf (nI m) yn (0, q)).2 (4 * i + z)).toInt = (yf' (j * 4 + z)).toInt
    rw [j3 z hz, i32_64, e j j1 z hz]
  · obtain ⟨i, i1, i2⟩ := b j hj ((bitI_nI hm (by omega)).mpr hbit)
    refine ⟨i, i1, fun z hz => ?_⟩
    show (yf' (j * 4 + z)).toInt = ((dmf yf (nI m) yn (0, q)).2 (4 * i + z)).toInt
    rw [i2 z hz, i32_64, e j hj z hz]
theorem allx_nI {yn : Nat} (h : yn ≤ 30) : allx yn = nI (2 ^ yn - 1) := by
  unfold allx
  rw [nI_shl (by omega), show (1 : Int32) = nI 1 from rfl, nI_sub (Nat.one_le_two_pow)]
/-- what is alike of the rays -/
theorem rays_same {d : DC} {c : MC} (hd : DI d) (hc : MJ c) (hs : SY d c) (h1 : 1 ≤ d.kn) (hk : c.kn = 1) (hz : c.zs ≤ c.rk) : d.yn = c.yn ∧ (∀ i, i < 4 * c.yn → d.yf i = c.yf i) ∧ SL c.yn c.yf ∧ LsP (RP c.wf c.rn c.zs) c.yn c.yf := by
  obtain ⟨⟨yf0, dg0, hr⟩, hsp⟩ := hd.k1 h1
  obtain ⟨⟨q0, hq⟩, -, h3⟩ := hc.k1 hk
  obtain ⟨⟨yf1, vf0, q1, vf1, q2, hm⟩, -⟩ := h3 hz
  obtain ⟨s1, s2, s3⟩ := hs
  have sim := ray_sim (pf := d.pf) (wf := c.wf) (rn := c.rn) (zs := c.zs) (q0 := q0) (yf0 := yf0) (dg0 := dg0) (p := ((0, yf1, vf0), q1)) hc.z2 hc.z4 hc.r8 hc.ro (by rw [← hq]; exact hz) (fun i hi => s3 i (by omega)) rfl (2 ^ c.rn) (Nat.le_refl _)
  rw [hm, ← s1, ← s2, hr] at sim
  rw [← s1, ← s2]
  exact sim
theorem RY_holds : RYE := by
  intro d c hd hc hs h1 hk hz
  obtain ⟨e1, e2, e3, e4⟩ := rays_same hd hc hs h1 hk hz
  refine ⟨e1, e2, ?_⟩
  obtain ⟨-, hsp⟩ := hd.k1 h1
  obtain ⟨-, -, h3⟩ := hc.k1 hk
  obtain ⟨-, -, ⟨q0, q1, hq⟩, -⟩ := h3 hz
  have hy := hd.yn
  rw [allx_nI (by omega)] at hq
  have hpw : 2 ^ c.yn ≤ 2 ^ 12 := Nat.pow_le_pow_right (by decide) (by omega)
  have := dmo_lst (yf := c.yf) (yf' := d.yf) (yn := c.yn) (m := 2 ^ c.yn - 1) (q := q0) (by omega) (by omega) e2 (fun k hk i hi => by
    have := (e4 k hk).1.1 i hi
    rcases (show i = 0 ∨ i = 1 ∨ i = 2 ∨ i = 3 by omega) with rfl | rfl | rfl | rfl <;> exact this)
  rw [hq] at this
  rw [hsp, e1]
  exact this
