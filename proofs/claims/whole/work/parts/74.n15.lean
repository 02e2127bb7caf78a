/-! ===== own rows: class and reference, 15 ===== -/
-- rays are the same
theorem cs3 (a b c x y z : Int) : (a * x + b * y + c * z) * (a * x + b * y + c * z) ≤ (a * a + b * b + c * c) * (x * x + y * y + z * z) := by
  have h1 := sq_nn (a * y - b * x)
  have h2 := sq_nn (a * z - c * x)
  have h3 := sq_nn (b * z - c * y)
  have e : (a * x + b * y + c * z) * (a * x + b * y + c * z) + (a * y - b * x) * (a * y - b * x) + (a * z - c * x) * (a * z - c * x) + (b * z - c * y) * (b * z - c * y) = (a * a + b * b + c * c) * (x * x + y * y + z * z) := by grind
  omega
theorem sq_le {x : Int} {B : Nat} (h : x.natAbs ≤ B) : x * x ≤ (B * B : Nat) := by
  have := abs_mul h h
  have h2 := sq_nn x
  omega
theorem had3 {a b c x y z u v w : Int} (ha : a.natAbs ≤ 5) (hb : b.natAbs ≤ 5) (hc : c.natAbs ≤ 5) (hx : x.natAbs ≤ 5) (hy : y.natAbs ≤ 5) (hz : z.natAbs ≤ 5) (hu : u.natAbs ≤ 5) (hv : v.natAbs ≤ 5) (hw : w.natAbs ≤ 5) : (a * (y * w - z * v) - b * (x * w - z * u) + c * (x * v - y * u)).natAbs ≤ 649 := by
  have A : a * a + b * b + c * c ≤ 75 := by have := sq_le ha; have := sq_le hb; have := sq_le hc; omega
  have X : x * x + y * y + z * z ≤ 75 := by have := sq_le hx; have := sq_le hy; have := sq_le hz; omega
  have U : u * u + v * v + w * w ≤ 75 := by have := sq_le hu; have := sq_le hv; have := sq_le hw; omega
  have A0 : 0 ≤ a * a + b * b + c * c := by have := sq_nn a; have := sq_nn b; have := sq_nn c; omega
  have X0 : 0 ≤ x * x + y * y + z * z := by have := sq_nn x; have := sq_nn y; have := sq_nn z; omega
  have U0 : 0 ≤ u * u + v * v + w * w := by have := sq_nn u; have := sq_nn v; have := sq_nn w; omega
  have n1 : (y * w - z * v) * (y * w - z * v) + (x * w - z * u) * (x * w - z * u) + (x * v - y * u) * (x * v - y * u) ≤ 5625 := by
    have e : (y * w - z * v) * (y * w - z * v) + (x * w - z * u) * (x * w - z * u) + (x * v - y * u) * (x * v - y * u) + (x * u + y * v + z * w) * (x * u + y * v + z * w) = (x * x + y * y + z * z) * (u * u + v * v + w * w) := by grind
    have s := sq_nn (x * u + y * v + z * w)
    have m := Int.mul_le_mul X U U0 (by decide)
    omega
  have N0 : 0 ≤ (y * w - z * v) * (y * w - z * v) + (x * w - z * u) * (x * w - z * u) + (x * v - y * u) * (x * v - y * u) := by
    have := sq_nn (y * w - z * v); have := sq_nn (x * w - z * u); have := sq_nn (x * v - y * u); omega
  have k := cs3 a (-b) c (y * w - z * v) (x * w - z * u) (x * v - y * u)
  have e3 : -b * -b = b * b := by grind
  rw [e3] at k
  have e2 : a * (y * w - z * v) + -b * (x * w - z * u) + c * (x * v - y * u) = a * (y * w - z * v) - b * (x * w - z * u) + c * (x * v - y * u) := by grind
  rw [e2] at k
  generalize a * (y * w - z * v) - b * (x * w - z * u) + c * (x * v - y * u) = D at k ⊢
  have m := Int.mul_le_mul A n1 N0 (by decide)
  have hDD : D * D ≤ 421875 := by omega
  refine Classical.byContradiction (fun z => ?_)
  have h1 : 650 * 650 ≤ D.natAbs * D.natAbs := Nat.mul_le_mul (by omega) (by omega)
  rw [← Int.natAbs_mul] at h1
  have := sq_nn D
  omega
theorem crs_649 {a b c : Nat → Int} {i : Nat} (hi : i < 4) (ha : ∀ i, i < 4 → (a i).natAbs ≤ 5) (hb : ∀ i, i < 4 → (b i).natAbs ≤ 5) (hc : ∀ i, i < 4 → (c i).natAbs ≤ 5) : (crs a b c i).natAbs ≤ 649 := by
  have a0 := ha 0 (by decide); have a1 := ha 1 (by decide); have a2 := ha 2 (by decide); have a3 := ha 3 (by decide)
  have b0 := hb 0 (by decide); have b1 := hb 1 (by decide); have b2 := hb 2 (by decide); have b3 := hb 3 (by decide)
  have c0 := hc 0 (by decide); have c1 := hc 1 (by decide); have c2 := hc 2 (by decide); have c3 := hc 3 (by decide)
  rcases (show i = 0 ∨ i = 1 ∨ i = 2 ∨ i = 3 by omega) with rfl | rfl | rfl | rfl
  · simp only [crs]; exact had3 a1 a2 a3 b1 b2 b3 c1 c2 c3
  · simp only [crs]; rw [Int.natAbs_neg]; exact had3 a0 a2 a3 b0 b2 b3 c0 c2 c3
  · simp only [crs]; exact had3 a0 a1 a3 b0 b1 b3 c0 c1 c3
  · simp only [crs]; rw [Int.natAbs_neg]; exact had3 a0 a1 a2 b0 b1 b2 c0 c1 c2
/-- a ray of the cone -/
def RP (wf : Nat → Int32) (rn zs : Nat) (a b c d : Int32) : Prop := CP wf rn zs 649 a b c d ∧ RAX rn zs (wr wf) (vec4 a b c d) ∧ ∀ e : Int, (∀ i, i < 4 → e ∣ vec4 a b c d i) → e ∣ 1
theorem vec4_at {g : Nat → Int32} : ∀ i, i < 4 → vec4 (g 0) (g 1) (g 2) (g 3) i = (g i).toInt := by
  intro i hi
  rcases (show i = 0 ∨ i = 1 ∨ i = 2 ∨ i = 3 by omega) with rfl | rfl | rfl | rfl <;> rfl
theorem wr_5 {wf : Nat → Int32} {rn zs k : Nat} (hr : rowsOK wf rn zs) (hk : k < rn) : ∀ i, i < 4 → (wr wf k i).natAbs ≤ 5 := fun i hi => by
  have := hr k i hk hi
  show (wf (4 * k + i)).toInt.natAbs ≤ 5
  omega
theorem un_5 (k : Nat) : ∀ i, i < 4 → (un k i).natAbs ≤ 5 := fun i _ => by unfold un; split <;> decide
theorem Nx_649 {wf : Nat → Int32} {rn zs : Nat} {J : Nat → Nat} (h2 : 2 ≤ zs) (hr : rowsOK wf rn zs) (hJ : ∀ l, l < zs - 1 → J l < rn) {i : Nat} (hi : i < 4) : (Nx zs wf J i).natAbs ≤ 649 := by
  unfold Nx R1 R2
  refine crs_649 hi (wr_5 hr (hJ 0 (by omega))) (fun i hi => ?_) (fun i hi => ?_)
  · split
    · exact un_5 2 i hi
    · exact wr_5 hr (hJ 1 (by omega)) i hi
  · split
    · exact un_5 3 i hi
    · exact wr_5 hr (hJ 2 (by omega)) i hi
theorem Nx_RAX {wf : Nat → Int32} {rn zs : Nat} {J : Nat → Nat} {v : Nat → Int} {g : Int} (h2 : 2 ≤ zs) (h4 : zs ≤ 4) (hJ : ∀ l, l < zs - 1 → J l < rn) (hi : ∀ l l', l < l' → l' < zs - 1 → J l < J l') (hg : ¬ g = 0) (hv : ∀ i, i < 4 → g * v i = Nx zs wf J i) (hne : ∃ i, i < 4 ∧ ¬ v i = 0) : RAX rn zs (wr wf) v := by
  have A : AX (wr wf (J 0)) (R1 zs wf J) (R2 zs wf J) v := ⟨⟨g, hg, hv⟩, hne⟩
  rcases (show zs = 2 ∨ zs = 3 ∨ zs = 4 by omega) with rfl | rfl | rfl
  · exact Or.inr (Or.inr ⟨rfl, J 0, hJ 0 (by decide), A⟩)
  · exact Or.inr (Or.inl ⟨rfl, J 0, J 1, hi 0 1 (by decide) (by decide), hJ 1 (by decide), A⟩)
  · exact Or.inl ⟨rfl, J 0, J 1, J 2, hi 0 1 (by decide) (by decide), hi 1 2 (by decide) (by decide), hJ 2 (by decide), A⟩
theorem vcs_RP {wf : Nat → Int32} {rn zs x : Nat} {q q0 : Nat → Int64} {w : Nat → Int32} {s : Int64} (h2 : 2 ≤ zs) (h4 : zs ≤ 4) (hr8 : rn ≤ 8) (hr : rowsOK wf rn zs) (hk : zs ≤ (rkf rn (sqr wf (4 * rn) q0) 4).1) (hx : setOK rn zs x) (hs : s = 1 ∨ s = -1) (hg : 0 < gc4 (mn4 wf rn zs x q).1) (hh : hld wf rn (vcs zs w s (gc4 (mn4 wf rn zs x q).1) (mn4 wf rn zs x q).1) 0) :
    RP wf rn zs (vcs zs w s (gc4 (mn4 wf rn zs x q).1) (mn4 wf rn zs x q).1 0) (vcs zs w s (gc4 (mn4 wf rn zs x q).1) (mn4 wf rn zs x q).1 1) (vcs zs w s (gc4 (mn4 wf rn zs x q).1) (mn4 wf rn zs x q).1 2) (vcs zs w s (gc4 (mn4 wf rn zs x q).1) (mn4 wf rn zs x q).1 3) := by
  obtain ⟨p1, p2, p3, p4, p5⟩ := vcs_CP (w := w) h2 h4 hr8 hr hk hx hs hg hh
  have hv := mn4_val (q := q) h2 h4 hr8 hr hx
  obtain ⟨b0, b1, b2, b3, z2, z3⟩ := mn4_le (q := q) h2 h4 hr8 hr hx
  obtain ⟨j1, j2, j3⟩ := Jn_spec (x := x) rn
  rw [hx.cnt hr8] at j1 j2
  generalize (mn4 wf rn zs x q).1 = v at *
  have vb : ∀ i, i < 4 → (mnv v i).natAbs ≤ 5000 := by
    intro i hi
    rcases (show i = 0 ∨ i = 1 ∨ i = 2 ∨ i = 3 by omega) with rfl | rfl | rfl | rfl
    · exact b0
    · exact b1
    · exact b2
    · exact b3
  obtain ⟨g1, g2, g3⟩ := gc4_gcd vb
  have hpos : 0 < (gc4 v).toInt := Int64.lt_iff_toInt_lt.mp hg
  have ha : ∀ i, i < 4 → vec4 (vcs zs w s (gc4 v) v 0) (vcs zs w s (gc4 v) v 1) (vcs zs w s (gc4 v) v 2) (vcs zs w s (gc4 v) v 3) i = s.toInt * (mnv v i).tdiv (gc4 v).toInt := fun i hi => by
    rw [vec4_at i hi, vcs_at h2 hs hg b0 b1 b2 b3 z2 z3 hi h4]
    congr 1
    unfold dirW mnv
    split
    · rfl
    · split
      · rfl
      · split <;> rfl
  have hex : ∀ i, i < 4 → (mnv v i).tdiv (gc4 v).toInt * (gc4 v).toInt = mnv v i := fun i hi => Int.tdiv_mul_cancel (g2 i hi)
  have hs2 : s.toInt * s.toInt = 1 := by rcases hs with rfl | rfl <;> decide
  have hs1 : s.toInt.natAbs = 1 := by rcases hs with rfl | rfl <;> decide
  unfold RP CP
  generalize vec4 (vcs zs w s (gc4 v) v 0) (vcs zs w s (gc4 v) v 1) (vcs zs w s (gc4 v) v 2) (vcs zs w s (gc4 v) v 3) = u at p1 p2 p3 ha ⊢
  refine ⟨⟨fun i hi => ?_, p2, p3, p4, p5⟩, Nx_RAX (J := Jn x rn) (g := s.toInt * (gc4 v).toInt) h2 h4 (fun l hl => (j1 l hl).1) j2 (fun z => ?_) (fun i hi => ?_) ?_, fun e he => ?_⟩
  · rw [ha i hi, Int.natAbs_mul, hs1, Nat.one_mul, Int.natAbs_tdiv, hv i hi]
    exact Nat.le_trans (Nat.div_le_self _ _) (Nx_649 h2 hr (fun l hl => (j1 l hl).1) hi)
  · rcases Int.mul_eq_zero.mp z with z | z <;> omega
  · rw [ha i hi, ← hv i hi]
    have := hex i hi
    grind
  · obtain ⟨r, r1, r2⟩ := p3
    refine Classical.byContradiction (fun z => ?_)
    have w : ∀ i, i < 4 → u i = 0 := fun i hi => Classical.byContradiction (fun q => z ⟨i, hi, q⟩)
    unfold wdot at r2
    rw [w 0 (by decide), w 1 (by decide), w 2 (by decide), w 3 (by decide)] at r2
    simp at r2
  · have h9 : e * (gc4 v).toInt ∣ (gc4 v).toInt := g3 _ (fun i hi => by
      have := he i hi
      rw [ha i hi] at this
      rw [← hex i hi]
      refine Int.mul_dvd_mul ?_ (Int.dvd_refl _)
      obtain ⟨k, hk⟩ := this
      exact ⟨s.toInt * k, by grind⟩)
    obtain ⟨k, hk⟩ := h9
    refine ⟨k, ?_⟩
    have : (gc4 v).toInt * (e * k - 1) = 0 := by grind
    rcases Int.mul_eq_zero.mp this with z | z <;> omega
/-- two rays are not in one line -/
theorem RP.np {wf : Nat → Int32} {rn zs : Nat} {a b c d a' b' c' d' : Int32} (h : RP wf rn zs a b c d) (h' : RP wf rn zs a' b' c' d') (hne : ¬ ∀ i, i < 4 → vec4 a b c d i = vec4 a' b' c' d' i) : NP (vec4 a b c d) (vec4 a' b' c' d') := by
  obtain ⟨⟨-, p2, p3, -, -⟩, -, pr⟩ := h
  obtain ⟨⟨-, q2, q3, -, -⟩, -, pr'⟩ := h'
  generalize vec4 a b c d = u at *
  generalize vec4 a' b' c' d' = v at *
  intro A B hA e
  have un0 : ∃ i, i < 4 ∧ ¬ u i = 0 := Classical.byContradiction (fun z => by
    have w : ∀ i, i < 4 → u i = 0 := fun i hi => Classical.byContradiction (fun q => z ⟨i, hi, q⟩)
    obtain ⟨r, r1, r2⟩ := p3
    unfold wdot at r2
    rw [w 0 (by decide), w 1 (by decide), w 2 (by decide), w 3 (by decide)] at r2
    simp at r2)
  obtain ⟨i0, hi0, hu0⟩ := un0
  have hB : ¬ B = 0 := fun z => by
    have := e i0 hi0
    rw [z, Int.zero_mul] at this
    rcases Int.mul_eq_zero.mp this with y | y
    · exact hA y
    · exact hu0 y
  have l1 := prim_le (a := B) (N := A) (x := u) (M := v) hB hA e pr
  have l2 := prim_le (a := A) (N := B) (x := v) (M := u) hA hB (fun i hi => (e i hi).symm) pr'
  have hab : A.natAbs = B.natAbs := by
    have h1 := congrArg Int.natAbs (e i0 hi0)
    rw [Int.natAbs_mul, Int.natAbs_mul, Nat.le_antisymm (l1 i0 hi0) (l2 i0 hi0)] at h1
    exact Nat.eq_of_mul_eq_mul_right (by have := l1 i0 hi0; omega) h1
  rcases Int.natAbs_eq_natAbs_iff.mp hab with h | h
  · apply hne
    intro i hi
    have := e i hi
    rw [← h] at this
    exact Int.eq_of_mul_eq_mul_left hA this
  · have neg : ∀ i, i < 4 → u i = -v i := fun i hi => by
      have := e i hi
      rw [h] at this
      have h2 : B * (u i + v i) = 0 := by grind
      rcases Int.mul_eq_zero.mp h2 with z | z
      · exact absurd z hB
      · omega
    obtain ⟨r, r1, r2⟩ := p3
    have r3 := q2 r r1
    unfold wdot at r2 r3
    rw [neg 0 (by decide), neg 1 (by decide), neg 2 (by decide), neg 3 (by decide)] at r2
    simp only [Int.mul_neg] at r2
    omega
theorem ray12 {wf : Nat → Int32} {rn zs n : Nat} {f : Nat → Int32} (hr8 : rn ≤ 8) (hr : rowsOK wf rn zs) (hs : SL n f) (hl : LsP (RP wf rn zs) n f) : n ≤ 12 := by
  refine T12 (zs := zs) (W := wr wf) (V := fun j => vec4 (f (4 * j + 0)) (f (4 * j + 1)) (f (4 * j + 2)) (f (4 * j + 3))) hr8 (fun k hk => wr_5 hr hk) (fun j hj i hi => Nat.le_trans ((hl j hj).1.1 i hi) (by decide)) (fun k hk j hj => (hl j hj).1.2.1 k hk) (fun j hj => (hl j hj).2.1) (fun j k hj hk hne => (hl j hj).np (hl k hk) (fun z => ?_))
  have z : ∀ i, i < 4 → wr f j i = wr f k i := fun i hi => by
    have := z i hi
    rcases (show i = 0 ∨ i = 1 ∨ i = 2 ∨ i = 3 by omega) with rfl | rfl | rfl | rfl <;> exact this
  rcases Nat.lt_or_gt_of_ne hne with h | h
  · have := hs j k h hk
    rw [lx_congr z (fun _ _ => rfl)] at this
    exact lx_ir this
  · have := hs k j h hj
    rw [lx_congr (fun _ _ => rfl) z] at this
    exact lx_ir this
