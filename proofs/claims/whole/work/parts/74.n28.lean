/-! ===== own rows: class and reference, 28 ===== -/
-- INDEX of both
theorem dt1_at {yf : Nat → Int32} {c y a : Nat} {f : Nat → Int64} : ∀ i, (dt1 yf c y i (a, f)).1 = a + mny y i ∧ ∀ j, (dt1 yf c y i (a, f)).2 j = if a ≤ j ∧ j < a + mny y i then (yf (4 * c + Jn y i (j - a))).toInt64 else f j
  | 0 => ⟨rfl, fun j => by rw [if_neg (by show ¬ (a ≤ j ∧ j < a + 0); omega)]; rfl⟩
  | i + 1 => by
    obtain ⟨h1, h2⟩ := dt1_at (yf := yf) (c := c) (y := y) (a := a) (f := f) i
    by_cases e : (y / 2 ^ i) % 2 = 1
    · rw [dt1_y (a := (dt1 yf c y i (a, f)).1) (f := (dt1 yf c y i (a, f)).2) rfl e, mny_y e, Jn_y e]
      refine ⟨by show (dt1 yf c y i (a, f)).1 + 1 = _; omega, fun j => ?_⟩
      show vp_updL (dt1 yf c y i (a, f)).2 (dt1 yf c y i (a, f)).1 (yf (4 * c + i)).toInt64 j = _
      rw [h1]
      by_cases z : j = a + mny y i
      · rw [z, updL_eq, if_pos (by omega)]
        unfold updN
        rw [if_pos (by omega)]
      · rw [updL_ne z, h2 j]
        by_cases w : a ≤ j ∧ j < a + mny y i
        · rw [if_pos w, if_pos (by omega)]
          unfold updN
          rw [if_neg (by omega)]
        · rw [if_neg w, if_neg (by omega)]
    · rw [dt1_n rfl e, mny_n e, Jn_n e]
      exact ⟨h1, h2⟩
theorem dt2_at {yf : Nat → Int32} {ck : Nat → Nat} {y : Nat} {q : Nat → Int64} : ∀ n, (dt2 yf ck y n (0, q)).1 = n * mny y 4 ∧ ∀ k i, k < n → i < mny y 4 → (dt2 yf ck y n (0, q)).2 (mny y 4 * k + i) = (yf (4 * ck k + Jn y 4 i)).toInt64
  | 0 => ⟨by show 0 = 0 * mny y 4; omega, fun k i hk => absurd hk (by omega)⟩
  | n + 1 => by
    obtain ⟨h1, h2⟩ := dt2_at (yf := yf) (ck := ck) (y := y) (q := q) n
    obtain ⟨g1, g2⟩ := dt1_at (yf := yf) (c := ck n) (y := y) (a := (dt2 yf ck y n (0, q)).1) (f := (dt2 yf ck y n (0, q)).2) 4
    have e : dt2 yf ck y (n + 1) (0, q) = dt1 yf (ck n) y 4 ((dt2 yf ck y n (0, q)).1, (dt2 yf ck y n (0, q)).2) := rfl
    rw [e]
    refine ⟨by rw [g1, h1, Nat.add_mul, Nat.one_mul], fun k i hk hi => ?_⟩
    rw [g2, h1]
    have m1 : mny y 4 * n = n * mny y 4 := Nat.mul_comm _ _
    by_cases z : k = n
    · subst z
      rw [if_pos (by omega), show mny y 4 * k + i - k * mny y 4 = i by omega]
    · have m2 : mny y 4 * k + mny y 4 ≤ mny y 4 * n := by
        have := Nat.mul_le_mul_left (mny y 4) (show k + 1 ≤ n by omega)
        rw [Nat.mul_add, Nat.mul_one] at this; exact this
      rw [if_neg (by omega)]
      exact h2 k i (by omega) hi
theorem lev_mny : ∀ n, n ≤ 4 → ∀ y, y < 16 → (mny y 16 = n ↔ y ∈ lev n) := by
  intro n hn
  rcases (show n = 0 ∨ n = 1 ∨ n = 2 ∨ n = 3 ∨ n = 4 by omega) with rfl | rfl | rfl | rfl | rfl <;> decide +kernel
theorem lev_lt : ∀ n, n ≤ 4 → ∀ y ∈ lev n, y < 16 := by
  intro n hn
  rcases (show n = 0 ∨ n = 1 ∨ n = 2 ∨ n = 3 ∨ n = 4 by omega) with rfl | rfl | rfl | rfl | rfl <;> decide +kernel
theorem dtn_mn1 {R A : Nat → Nat → Int} {y : Nat} (hy : y ∈ lev 1) (hA : ∀ k i, k < 1 → i < 1 → A k i = R k (Jn y 4 i)) : dtn 1 A = mnI R 1 y := by
  simp only [lev, List.mem_cons, List.not_mem_nil, or_false] at hy
  rcases hy with rfl | rfl | rfl | rfl
  · have a00 : A 0 0 = R 0 0 := hA 0 0 (by decide) (by decide)
    simp only [dtn, prv, mnI, mexI]
    simp [a00]
  · have a00 : A 0 0 = R 0 1 := hA 0 0 (by decide) (by decide)
    simp only [dtn, prv, mnI, mexI]
    simp [a00]
  · have a00 : A 0 0 = R 0 2 := hA 0 0 (by decide) (by decide)
    simp only [dtn, prv, mnI, mexI]
    simp [a00]
  · have a00 : A 0 0 = R 0 3 := hA 0 0 (by decide) (by decide)
    simp only [dtn, prv, mnI, mexI]
    simp [a00]
theorem dtn_mn2 {R A : Nat → Nat → Int} {y : Nat} (hy : y ∈ lev 2) (hA : ∀ k i, k < 2 → i < 2 → A k i = R k (Jn y 4 i)) : dtn 2 A = mnI R 2 y := by
  simp only [lev, List.mem_cons, List.not_mem_nil, or_false] at hy
  rcases hy with rfl | rfl | rfl | rfl | rfl | rfl
  · have a00 : A 0 0 = R 0 0 := hA 0 0 (by decide) (by decide)
    have a01 : A 0 1 = R 0 1 := hA 0 1 (by decide) (by decide)
    have a10 : A 1 0 = R 1 0 := hA 1 0 (by decide) (by decide)
    have a11 : A 1 1 = R 1 1 := hA 1 1 (by decide) (by decide)
    simp only [dtn, prv, S1, mnI, mexI]
    simp [a00, a01, a10, a11]
  · have a00 : A 0 0 = R 0 0 := hA 0 0 (by decide) (by decide)
    have a01 : A 0 1 = R 0 2 := hA 0 1 (by decide) (by decide)
    have a10 : A 1 0 = R 1 0 := hA 1 0 (by decide) (by decide)
    have a11 : A 1 1 = R 1 2 := hA 1 1 (by decide) (by decide)
    simp only [dtn, prv, S1, mnI, mexI]
    simp [a00, a01, a10, a11]
  · have a00 : A 0 0 = R 0 1 := hA 0 0 (by decide) (by decide)
    have a01 : A 0 1 = R 0 2 := hA 0 1 (by decide) (by decide)
    have a10 : A 1 0 = R 1 1 := hA 1 0 (by decide) (by decide)
    have a11 : A 1 1 = R 1 2 := hA 1 1 (by decide) (by decide)
    simp only [dtn, prv, S1, mnI, mexI]
    simp [a00, a01, a10, a11]
  · have a00 : A 0 0 = R 0 0 := hA 0 0 (by decide) (by decide)
    have a01 : A 0 1 = R 0 3 := hA 0 1 (by decide) (by decide)
    have a10 : A 1 0 = R 1 0 := hA 1 0 (by decide) (by decide)
    have a11 : A 1 1 = R 1 3 := hA 1 1 (by decide) (by decide)
    simp only [dtn, prv, S1, mnI, mexI]
    simp [a00, a01, a10, a11]
  · have a00 : A 0 0 = R 0 1 := hA 0 0 (by decide) (by decide)
    have a01 : A 0 1 = R 0 3 := hA 0 1 (by decide) (by decide)
    have a10 : A 1 0 = R 1 1 := hA 1 0 (by decide) (by decide)
    have a11 : A 1 1 = R 1 3 := hA 1 1 (by decide) (by decide)
    simp only [dtn, prv, S1, mnI, mexI]
    simp [a00, a01, a10, a11]
  · have a00 : A 0 0 = R 0 2 := hA 0 0 (by decide) (by decide)
    have a01 : A 0 1 = R 0 3 := hA 0 1 (by decide) (by decide)
    have a10 : A 1 0 = R 1 2 := hA 1 0 (by decide) (by decide)
    have a11 : A 1 1 = R 1 3 := hA 1 1 (by decide) (by decide)
    simp only [dtn, prv, S1, mnI, mexI]
    simp [a00, a01, a10, a11]
theorem dtn_mn3 {R A : Nat → Nat → Int} {y : Nat} (hy : y ∈ lev 3) (hA : ∀ k i, k < 3 → i < 3 → A k i = R k (Jn y 4 i)) : dtn 3 A = mnI R 3 y := by
  simp only [lev, List.mem_cons, List.not_mem_nil, or_false] at hy
  rcases hy with rfl | rfl | rfl | rfl
  · have a00 : A 0 0 = R 0 0 := hA 0 0 (by decide) (by decide)
    have a01 : A 0 1 = R 0 1 := hA 0 1 (by decide) (by decide)
    have a02 : A 0 2 = R 0 2 := hA 0 2 (by decide) (by decide)
    have a10 : A 1 0 = R 1 0 := hA 1 0 (by decide) (by decide)
    have a11 : A 1 1 = R 1 1 := hA 1 1 (by decide) (by decide)
    have a12 : A 1 2 = R 1 2 := hA 1 2 (by decide) (by decide)
    have a20 : A 2 0 = R 2 0 := hA 2 0 (by decide) (by decide)
    have a21 : A 2 1 = R 2 1 := hA 2 1 (by decide) (by decide)
    have a22 : A 2 2 = R 2 2 := hA 2 2 (by decide) (by decide)
    simp only [dtn, prv, S2, mnI, mexI]
    simp [a00, a01, a02, a10, a11, a12, a20, a21, a22]
    try grind
  · have a00 : A 0 0 = R 0 0 := hA 0 0 (by decide) (by decide)
    have a01 : A 0 1 = R 0 1 := hA 0 1 (by decide) (by decide)
    have a02 : A 0 2 = R 0 3 := hA 0 2 (by decide) (by decide)
    have a10 : A 1 0 = R 1 0 := hA 1 0 (by decide) (by decide)
    have a11 : A 1 1 = R 1 1 := hA 1 1 (by decide) (by decide)
    have a12 : A 1 2 = R 1 3 := hA 1 2 (by decide) (by decide)
    have a20 : A 2 0 = R 2 0 := hA 2 0 (by decide) (by decide)
    have a21 : A 2 1 = R 2 1 := hA 2 1 (by decide) (by decide)
    have a22 : A 2 2 = R 2 3 := hA 2 2 (by decide) (by decide)
    simp only [dtn, prv, S2, mnI, mexI]
    simp [a00, a01, a02, a10, a11, a12, a20, a21, a22]
    try grind
  · have a00 : A 0 0 = R 0 0 := hA 0 0 (by decide) (by decide)
    have a01 : A 0 1 = R 0 2 := hA 0 1 (by decide) (by decide)
    have a02 : A 0 2 = R 0 3 := hA 0 2 (by decide) (by decide)
    have a10 : A 1 0 = R 1 0 := hA 1 0 (by decide) (by decide)
    have a11 : A 1 1 = R 1 2 := hA 1 1 (by decide) (by decide)
    have a12 : A 1 2 = R 1 3 := hA 1 2 (by decide) (by decide)
    have a20 : A 2 0 = R 2 0 := hA 2 0 (by decide) (by decide)
    have a21 : A 2 1 = R 2 2 := hA 2 1 (by decide) (by decide)
    have a22 : A 2 2 = R 2 3 := hA 2 2 (by decide) (by decide)
    simp only [dtn, prv, S2, mnI, mexI]
    simp [a00, a01, a02, a10, a11, a12, a20, a21, a22]
    try grind
  · have a00 : A 0 0 = R 0 1 := hA 0 0 (by decide) (by decide)
    have a01 : A 0 1 = R 0 2 := hA 0 1 (by decide) (by decide)
    have a02 : A 0 2 = R 0 3 := hA 0 2 (by decide) (by decide)
    have a10 : A 1 0 = R 1 1 := hA 1 0 (by decide) (by decide)
    have a11 : A 1 1 = R 1 2 := hA 1 1 (by decide) (by decide)
    have a12 : A 1 2 = R 1 3 := hA 1 2 (by decide) (by decide)
    have a20 : A 2 0 = R 2 1 := hA 2 0 (by decide) (by decide)
    have a21 : A 2 1 = R 2 2 := hA 2 1 (by decide) (by decide)
    have a22 : A 2 2 = R 2 3 := hA 2 2 (by decide) (by decide)
    simp only [dtn, prv, S2, mnI, mexI]
    simp [a00, a01, a02, a10, a11, a12, a20, a21, a22]
    try grind
theorem dtn_mn4 {R A : Nat → Nat → Int} {y : Nat} (hy : y ∈ lev 4) (hA : ∀ k i, k < 4 → i < 4 → A k i = R k (Jn y 4 i)) : dtn 4 A = mnI R 4 y := by
  simp only [lev, List.mem_cons, List.not_mem_nil, or_false] at hy
  subst hy
  have a00 : A 0 0 = R 0 0 := hA 0 0 (by decide) (by decide)
  have a01 : A 0 1 = R 0 1 := hA 0 1 (by decide) (by decide)
  have a02 : A 0 2 = R 0 2 := hA 0 2 (by decide) (by decide)
  have a03 : A 0 3 = R 0 3 := hA 0 3 (by decide) (by decide)
  have a10 : A 1 0 = R 1 0 := hA 1 0 (by decide) (by decide)
  have a11 : A 1 1 = R 1 1 := hA 1 1 (by decide) (by decide)
  have a12 : A 1 2 = R 1 2 := hA 1 2 (by decide) (by decide)
  have a13 : A 1 3 = R 1 3 := hA 1 3 (by decide) (by decide)
  have a20 : A 2 0 = R 2 0 := hA 2 0 (by decide) (by decide)
  have a21 : A 2 1 = R 2 1 := hA 2 1 (by decide) (by decide)
  have a22 : A 2 2 = R 2 2 := hA 2 2 (by decide) (by decide)
  have a23 : A 2 3 = R 2 3 := hA 2 3 (by decide) (by decide)
  have a30 : A 3 0 = R 3 0 := hA 3 0 (by decide) (by decide)
  have a31 : A 3 1 = R 3 1 := hA 3 1 (by decide) (by decide)
  have a32 : A 3 2 = R 3 2 := hA 3 2 (by decide) (by decide)
  have a33 : A 3 3 = R 3 3 := hA 3 3 (by decide) (by decide)
  simp only [dtn, prv, S3, T3, mnI, mexI]
  simp [a00, a01, a02, a03, a10, a11, a12, a13, a20, a21, a22, a23, a30, a31, a32, a33]
  try grind
theorem dtm_val {yf : Nat → Int32} {ck : Nat → Nat} {n y yn : Nat} {q : Nat → Int64} (hn : n ≤ 4) (hy : y ∈ lev n) (hb : ∀ c, c < yn → ∀ i, i < 4 → (wr yf c i).natAbs ≤ 649) (hk : ∀ j, j < n → ck j < yn) : (dtm yf ck n y q).1.toInt = mnI (fun l => wr yf (ck l)) n y := by
  have y16 := lev_lt n hn y hy
  have hm : mny y 4 = n := by rw [← mny_hi (r := 4) y16 16 (by decide)]; exact (lev_mny n hn y y16).mpr hy
  obtain ⟨-, h2⟩ := dt2_at (yf := yf) (ck := ck) (y := y) (q := q) n
  obtain ⟨-, -, h3⟩ := dt2_all (ck := ck) (c2 := ck) (y := y) (f := q) (g := q) (yn := yn) (fun c hc i hi => Nat.le_trans (hb c hc i hi) (by decide)) n (fun j hj => ⟨hk j hj, rfl⟩)
  rw [hm] at h2 h3
  show (wth n n 0 (dt2 yf ck y n (0, q)).2 1 1).1.toInt = _
  rw [wth_det hn (fun j hj => (h3 j hj).1)]
  have hA : ∀ k i, k < n → i < n → mat n (dt2 yf ck y n (0, q)).2 k i = wr yf (ck k) (Jn y 4 i) := fun k i hk1 hi => by
    unfold mat
    rw [if_pos ⟨hk1, hi⟩, h2 k i hk1 hi, i3264]; rfl
  generalize mat n (dt2 yf ck y n (0, q)).2 = A at hA
  rcases (show n = 0 ∨ n = 1 ∨ n = 2 ∨ n = 3 ∨ n = 4 by omega) with rfl | rfl | rfl | rfl | rfl
  · rfl
  · exact dtn_mn1 (R := fun l => wr yf (ck l)) hy hA
  · exact dtn_mn2 (R := fun l => wr yf (ck l)) hy hA
  · exact dtn_mn3 (R := fun l => wr yf (ck l)) hy hA
  · exact dtn_mn4 (R := fun l => wr yf (ck l)) hy hA
theorem mnI_out {R : Nat → Nat → Int} {n z m : Nat} (hn : n ≤ 4) (h2 : 2 ≤ z) (hR : ∀ l i, l < n → z ≤ i → i < 4 → R l i = 0) (hm : m ∈ lev n) (hz : 2 ^ z ≤ m) : mnI R n m = 0 := by
  have m16 := lev_lt n hn m hm
  have hz3 : z ≤ 3 := by
    refine Classical.byContradiction (fun q => ?_)
    have : 2 ^ 4 ≤ 2 ^ z := Nat.pow_le_pow_right (by decide) (by omega)
    omega
  have r3 := fun l hl => hR l 3 hl (by omega) (by decide)
  rcases (show z = 3 ∨ z = 2 by omega) with rfl | rfl
  · rcases (show n = 0 ∨ n = 1 ∨ n = 2 ∨ n = 3 ∨ n = 4 by omega) with rfl | rfl | rfl | rfl | rfl
    · simp only [lev, List.mem_cons, List.not_mem_nil, or_false] at hm; omega
    · have a0 := r3 0 (by decide)
      simp only [lev, List.mem_cons, List.not_mem_nil, or_false] at hm
      rcases hm with rfl | rfl | rfl | rfl <;> first | omega | simp [mnI, mexI, a0]
    · have a0 := r3 0 (by decide); have a1 := r3 1 (by decide)
      simp only [lev, List.mem_cons, List.not_mem_nil, or_false] at hm
      rcases hm with rfl | rfl | rfl | rfl | rfl | rfl <;> first | omega | simp [mnI, mexI, a0, a1]
    · have a0 := r3 0 (by decide); have a1 := r3 1 (by decide); have a2 := r3 2 (by decide)
      simp only [lev, List.mem_cons, List.not_mem_nil, or_false] at hm
      rcases hm with rfl | rfl | rfl | rfl <;> first | omega | simp [mnI, mexI, a0, a1, a2]
    · have a0 := r3 0 (by decide); have a1 := r3 1 (by decide); have a2 := r3 2 (by decide); have a3 := r3 3 (by decide)
      simp only [lev, List.mem_cons, List.not_mem_nil, or_false] at hm
      subst hm
      simp [mnI, mexI, a0, a1, a2, a3]
  · have r2 := fun l hl => hR l 2 hl (by omega) (by decide)
    rcases (show n = 0 ∨ n = 1 ∨ n = 2 ∨ n = 3 ∨ n = 4 by omega) with rfl | rfl | rfl | rfl | rfl
    · simp only [lev, List.mem_cons, List.not_mem_nil, or_false] at hm; omega
    · have a0 := r3 0 (by decide); have b0 := r2 0 (by decide)
      simp only [lev, List.mem_cons, List.not_mem_nil, or_false] at hm
      rcases hm with rfl | rfl | rfl | rfl <;> first | omega | simp [mnI, mexI, a0, b0]
    · have a0 := r3 0 (by decide); have a1 := r3 1 (by decide); have b0 := r2 0 (by decide); have b1 := r2 1 (by decide)
      simp only [lev, List.mem_cons, List.not_mem_nil, or_false] at hm
      rcases hm with rfl | rfl | rfl | rfl | rfl | rfl <;> first | omega | simp [mnI, mexI, a0, a1, b0, b1]
    · have a0 := r3 0 (by decide); have a1 := r3 1 (by decide); have a2 := r3 2 (by decide); have b0 := r2 0 (by decide); have b1 := r2 1 (by decide); have b2 := r2 2 (by decide)
      simp only [lev, List.mem_cons, List.not_mem_nil, or_false] at hm
      rcases hm with rfl | rfl | rfl | rfl <;> first | omega | simp [mnI, mexI, a0, a1, a2, b0, b1, b2]
    · have a0 := r3 0 (by decide); have a1 := r3 1 (by decide); have a2 := r3 2 (by decide); have a3 := r3 3 (by decide)
      simp only [lev, List.mem_cons, List.not_mem_nil, or_false] at hm
      subst hm
      simp [mnI, mexI, a0, a1, a2, a3]
/-- INDEX of the reference is the gcd of all determinants -/
theorem ixf_GC {yf : Nat → Int32} {ck : Nat → Nat} {sp zs yn : Nat} {q : Nat → Int64} (hsp : sp ≤ 4) (h2 : 2 ≤ zs) (h4 : zs ≤ 4) (hb : ∀ c, c < yn → ∀ i, i < 4 → (wr yf c i).natAbs ≤ 649) (hk : ∀ j, j < sp → ck j < yn) (hi : ∀ j, j < sp → ∀ i, zs ≤ i → i < 4 → wr yf (ck j) i = 0) : GC (ixf yf ck sp zs 16 (0, q)).1.toInt (mnI (fun l => wr yf (ck l)) sp) (lev sp) := by
  have b750 : ∀ c, c < yn → ∀ i, i < 4 → (yf (4 * c + i)).toInt.natAbs ≤ 750 := fun c hc i hi => Nat.le_trans (hb c hc i hi) (by decide)
  have go : ∀ k, k ≤ 16 → 0 ≤ (ixf yf ck sp zs k (0, q)).1.toInt ∧ (∀ m ∈ lev sp, m < k → (ixf yf ck sp zs k (0, q)).1.toInt ∣ mnI (fun l => wr yf (ck l)) sp m) ∧ ∀ d : Int, (∀ m ∈ lev sp, m < k → d ∣ mnI (fun l => wr yf (ck l)) sp m) → d ∣ (ixf yf ck sp zs k (0, q)).1.toInt := by
    intro k
    induction k with
    | zero => intro _; exact ⟨by show 0 ≤ (0 : Int64).toInt; decide, fun m _ h => absurd h (by omega), fun d _ => by show d ∣ (0 : Int64).toInt; rw [show (0 : Int64).toInt = 0 by decide]; exact Int.dvd_zero d⟩
    | succ k ih =>
      intro hk16
      obtain ⟨a, b, c⟩ := ih (by omega)
      by_cases e : mny k 16 = sp ∧ k < 2 ^ zs
      · have hl := (lev_mny sp hsp k (by omega)).mp e.1
        have dv := dtm_val (q := (ixf yf ck sp zs k (0, q)).2) hsp hl hb hk
        have db := (dtm_all (ck := ck) (c2 := ck) (f := (ixf yf ck sp zs k (0, q)).2) (g := (ixf yf ck sp zs k (0, q)).2) hsp (show k < 16 by omega) b750 (fun j hj => ⟨hk j hj, rfl⟩) e.1).2
        rw [ixf_y (g := (ixf yf ck sp zs k (0, q)).1) (q := (ixf yf ck sp zs k (0, q)).2) (v := (dtm yf ck sp k (ixf yf ck sp zs k (0, q)).2).1) (q2 := (dtm yf ck sp k (ixf yf ck sp zs k (0, q)).2).2) rfl e.1 e.2 rfl]
        show 0 ≤ (gcv _ _).toInt ∧ (∀ m ∈ lev sp, m < k + 1 → (gcv _ _).toInt ∣ _) ∧ ∀ d : Int, _ → d ∣ (gcv _ _).toInt
        obtain ⟨g1, g2⟩ := gcv_dvd (ixf yf ck sp zs k (0, q)).1 (dtm yf ck sp k (ixf yf ck sp zs k (0, q)).2).1
        refine ⟨gcv_nn (by omega) (by omega), fun m hm hlt => ?_, fun d hd => gcv_of_dvd (c d (fun m hm hlt => hd m hm (by omega))) (by rw [dv]; exact hd k hl (by omega))⟩
        by_cases z : m = k
        · rw [z, ← dv]; exact g2
        · exact Int.dvd_trans g1 (b m hm (by omega))
      · rw [ixf_n rfl e]
        refine ⟨a, fun m hm hlt => ?_, fun d hd => c d (fun m hm hlt => hd m hm (by omega))⟩
        by_cases z : m = k
        · subst z
          have : 2 ^ zs ≤ m := Nat.not_lt.mp (fun w => e ⟨(lev_mny sp hsp m (by omega)).mpr hm, w⟩)
          rw [mnI_out hsp h2 (fun l i hl h1 h9 => hi l hl i h1 h9) hm this]
          exact Int.dvd_zero _
        · exact b m hm (by omega)
  obtain ⟨a, b, c⟩ := go 16 (Nat.le_refl _)
  exact ⟨a, fun m hm => b m hm (lev_lt sp hsp m hm), fun d hd => c d (fun m hm _ => hd m hm)⟩
theorem cdv_step50 {d b : Int64} (hd : 0 ≤ d.toInt) (hb : b.toInt.natAbs < 2 ^ 50) : 0 ≤ (cdv 100 d (labs b)).toInt ∧ (cdv 100 d (labs b)).toInt ∣ d.toInt ∧ (cdv 100 d (labs b)).toInt ∣ b.toInt ∧ ∀ e : Int, e ∣ d.toInt → e ∣ b.toInt → e ∣ (cdv 100 d (labs b)).toInt := by
  have hl := labs_int (x := b) (by omega)
  rw [cdv_gcw 50 100 d (labs b) hd (by rw [hl]; omega) (by rw [hl, Int.toNat_natCast]; exact hb) (by decide)]
  obtain ⟨g1, g2⟩ := gcw_dvd _ d (labs b) rfl
  rw [hl] at g2
  refine ⟨gcw_nn _ _ _ rfl hd (by rw [hl]; omega), g1, Int.dvd_natAbs.mp g2, fun e h1 h2 => gcw_of_dvd _ _ _ rfl h1 (by rw [hl]; exact Int.dvd_natAbs.mpr h2)⟩
theorem cdl_fold50 {f : Nat → Int64} : ∀ (ms : List Nat) (d : Int64), 0 ≤ d.toInt → (∀ m ∈ ms, (f m).toInt.natAbs < 2 ^ 50) → 0 ≤ (ms.foldl (fun d m => cdv 100 d (labs (f m))) d).toInt ∧ (ms.foldl (fun d m => cdv 100 d (labs (f m))) d).toInt ∣ d.toInt ∧ (∀ m ∈ ms, (ms.foldl (fun d m => cdv 100 d (labs (f m))) d).toInt ∣ (f m).toInt) ∧ ∀ e : Int, e ∣ d.toInt → (∀ m ∈ ms, e ∣ (f m).toInt) → e ∣ (ms.foldl (fun d m => cdv 100 d (labs (f m))) d).toInt
  | [], d, hd, _ => ⟨hd, Int.dvd_refl _, fun m h => absurd h List.not_mem_nil, fun e h _ => h⟩
  | m :: ms, d, hd, hb => by
    obtain ⟨a1, a2, a3, a4⟩ := cdv_step50 hd (hb m List.mem_cons_self)
    obtain ⟨b1, b2, b3, b4⟩ := cdl_fold50 (f := f) ms (cdv 100 d (labs (f m))) a1 (fun k hk => hb k (List.mem_cons_of_mem m hk))
    show 0 ≤ (ms.foldl _ (cdv 100 d (labs (f m)))).toInt ∧ (ms.foldl _ (cdv 100 d (labs (f m)))).toInt ∣ _ ∧ (∀ k ∈ m :: ms, (ms.foldl _ (cdv 100 d (labs (f m)))).toInt ∣ _) ∧ ∀ e : Int, e ∣ d.toInt → _ → e ∣ (ms.foldl _ (cdv 100 d (labs (f m)))).toInt
    refine ⟨b1, Int.dvd_trans b2 a2, fun k hk => ?_, fun e h1 h2 => b4 e (a4 e h1 (h2 m List.mem_cons_self)) (fun k hk => h2 k (List.mem_cons_of_mem m hk))⟩
    rcases List.mem_cons.mp hk with rfl | hk
    · exact Int.dvd_trans b2 a3
    · exact b3 k hk
theorem cdl_gcd50 {f : Nat → Int64} {ms : List Nat} (h : ∀ m ∈ ms, (f m).toInt.natAbs < 2 ^ 50) : GC (cdl f ms).toInt (fun m => (f m).toInt) ms := by
  obtain ⟨a, -, b, c⟩ := cdl_fold50 ms 0 (by decide) h
  exact ⟨a, b, fun d hd => c d (by rw [show (0 : Int64).toInt = 0 by decide]; exact Int.dvd_zero d) hd⟩
theorem GC.uniq {g k : Int} {f : Nat → Int} {ms : List Nat} (h : GC g f ms) (h' : GC k f ms) : g = k := dvd_eq h.1 h'.1 (h'.2.2 g h.2.1) (h.2.2 k h'.2.1)
theorem GC.congr {g : Int} {f f' : Nat → Int} {ms : List Nat} (h : GC g f ms) (e : ∀ m ∈ ms, f m = f' m) : GC g f' ms := ⟨h.1, fun m hm => by rw [← e m hm]; exact h.2.1 m hm, fun d hd => h.2.2 d (fun m hm => by rw [e m hm]; exact hd m hm)⟩
theorem Bj_649 {j : Nat} (h : j ≤ 4) : Bj 649 j < 2 ^ 50 := by
  rcases (show j = 0 ∨ j = 1 ∨ j = 2 ∨ j = 3 ∨ j = 4 by omega) with rfl | rfl | rfl | rfl | rfl <;> decide
/-- what load finds of an independent set of rays -/
theorem lst_mn {pf yf : Nat → Int32} {yn x : Nat} (hf : ∀ i, i < 4 * yn → pf i = yf i) (hb : ∀ c, c < yn → ∀ i, i < 4 → (wr yf c i).natAbs ≤ 649) (hl : (lst pf x yn).1 = mny x yn) : (∀ m ∈ lev (mny x yn), ((lst pf x yn).2 m).toInt = mnI (fun l => wr yf (Jn x yn l)) (mny x yn) m ∧ ((lst pf x yn).2 m).toInt.natAbs < 2 ^ 50) ∧ ∃ m ∈ lev (mny x yn), ¬ mnI (fun l => wr yf (Jn x yn l)) (mny x yn) m = 0 := by
  obtain ⟨Jx, a1, a2, a3, a4, a5⟩ := LST.all (pf := pf) (C := 649) (ch := x) (by decide) yn (fun q hq _ i hi => by
    rw [show q * 4 + i = 4 * q + i by omega, hf _ (by omega)]
    exact hb q hq i hi)
  have h44 := lst_le pf x yn
  rw [hl] at a1 a2 a3 a4 h44
  have hJ := inc_eq (x := x) (J := Jx) yn (mny x yn) rfl a1 a2
  have hmn : mnI (fun l => rwI pf (Jx l)) (mny x yn) = mnI (fun l => wr yf (Jn x yn l)) (mny x yn) := mnI_row (mny x yn) (fun l hl i hi => by
    show rwI pf (Jx l) i = wr yf (Jn x yn l) i
    rw [← hJ l hl]
    exact rwI_wr hf (a1 l hl).1 hi)
  rw [hmn] at a3 a4
  exact ⟨fun m hm => ⟨(a3 m hm).1, Nat.lt_of_le_of_lt (a3 m hm).2 (Bj_649 h44)⟩, a4⟩
theorem lst_dep {pf yf : Nat → Int32} {yn x : Nat} (hx : mny x yn ≤ 4) (hf : ∀ i, i < 4 * yn → pf i = yf i) (hb : ∀ c, c < yn → ∀ i, i < 4 → (wr yf c i).natAbs ≤ 649) (hl : ¬ (lst pf x yn).1 = mny x yn) : ∀ m ∈ lev (mny x yn), mnI (fun l => wr yf (Jn x yn l)) (mny x yn) m = 0 := fun m hm => Classical.byContradiction (fun z => by
  have hI := mnI_ind hx ⟨m, hm, z⟩
  obtain ⟨t, -, -, b3⟩ := lst_Rk (m := x) hf hb
  obtain ⟨j1, j2, j3⟩ := Jn_spec (x := x) yn
  have l1 : mny x yn ≤ (lst pf x yn).1 := hI.le (fun l hl => by
    obtain ⟨p1, p2⟩ := j1 l hl
    have := b3 _ p1
    rw [mV_y p2] at this; exact this)
  obtain ⟨Jx, a1, a2, -, -, -⟩ := LST.all (pf := pf) (C := 649) (ch := x) (by decide) yn (fun q hq _ i hi => by
    rw [show q * 4 + i = 4 * q + i by omega, hf _ (by omega)]
    exact hb q hq i hi)
  have l2 := inc_le (x := x) (J := Jx) yn (lst pf x yn).1 a1 a2
  omega)
theorem ixd_some {yf : Nat → Int32} {sp zs yn : Nat} {c0 : Nat → Nat} {q0 : Nat → Int64} : ∀ m, 12 < (ixd yf yn sp zs m (0, c0, q0)).1 → ∃ x, 1 ≤ x ∧ x ≤ m ∧ mny x 16 = sp ∧ ∃ ck q, 12 < (ixf yf (chs x yn (0, ck)).2 sp zs 16 (0, q)).1
  | 0, h => absurd h (by show ¬ (12 : Int64) < 0; decide)
  | m + 1, h => by
    by_cases e : mny (1 + m) 16 = sp
    · rw [ixd_y (g := (ixd yf yn sp zs m (0, c0, q0)).1) (ck := (ixd yf yn sp zs m (0, c0, q0)).2.1) (q := (ixd yf yn sp zs m (0, c0, q0)).2.2) (n2 := (chs (1 + m) yn (0, (ixd yf yn sp zs m (0, c0, q0)).2.1)).1) (c2 := (chs (1 + m) yn (0, (ixd yf yn sp zs m (0, c0, q0)).2.1)).2) (i := (ixf yf (chs (1 + m) yn (0, (ixd yf yn sp zs m (0, c0, q0)).2.1)).2 sp zs 16 (0, (ixd yf yn sp zs m (0, c0, q0)).2.2)).1) (q2 := (ixf yf (chs (1 + m) yn (0, (ixd yf yn sp zs m (0, c0, q0)).2.1)).2 sp zs 16 (0, (ixd yf yn sp zs m (0, c0, q0)).2.2)).2) rfl e rfl rfl] at h
      have h : 12 < (if _ then _ else _ : Int64) := h
      split at h
      · exact ⟨1 + m, by omega, by omega, e, _, _, h⟩
      · obtain ⟨x, x1, x2, x3⟩ := ixd_some m h
        exact ⟨x, x1, by omega, x3⟩
    · rw [ixd_n rfl e] at h
      obtain ⟨x, x1, x2, x3⟩ := ixd_some m h
      exact ⟨x, x1, by omega, x3⟩
/-- INDEX of a set of rays: both the same -/
theorem index_same {yf yf' : Nat → Int32} {sp zs yn x : Nat} {ck : Nat → Nat} {q : Nat → Int64} (hsp : sp ≤ 4) (h2 : 2 ≤ zs) (h4 : zs ≤ 4) (hyn : yn ≤ 16) (hb : ∀ c, c < yn → ∀ i, i < 4 → (wr yf c i).natAbs ≤ 649) (hi : ∀ j, j < yn → ∀ i, zs ≤ i → i < 4 → wr yf j i = 0) (hf : ∀ i, i < 4 * yn → yf' i = yf i) (hx : x < 2 ^ yn) (hm : mny x 16 = sp) :
    GC (ixf yf (chs x yn (0, ck)).2 sp zs 16 (0, q)).1.toInt (mnI (fun l => wr yf (Jn x yn l)) sp) (lev sp) ∧ ((lst yf' x yn).1 = sp → (cdl (lst yf' x yn).2 (lev sp)).toInt = (ixf yf (chs x yn (0, ck)).2 sp zs 16 (0, q)).1.toInt) ∧ (¬ (lst yf' x yn).1 = sp → (ixf yf (chs x yn (0, ck)).2 sp zs 16 (0, q)).1.toInt = 0) := by
  have hmn : mny x yn = sp := by rw [← hm]; exact (mny_hi hx 16 hyn).symm
  have hc := fun j hj => chs_in (x := x) (ck := ck) (c2 := fun _ => 0) yn j hj
  rw [hmn] at hc
  have g := ixf_GC (q := q) (ck := (chs x yn (0, ck)).2) hsp h2 h4 hb (fun j hj => (hc j hj).1) (fun j hj => hi _ (hc j hj).1)
  have e : mnI (fun l => wr yf ((chs x yn (0, ck)).2 l)) sp = mnI (fun l => wr yf (Jn x yn l)) sp := mnI_congr sp (fun l hl => by
    show wr yf ((chs x yn (0, ck)).2 l) = wr yf (Jn x yn l)
    rw [(hc l hl).2]; rfl)
  rw [e] at g
  refine ⟨g, fun hl => ?_, fun hl => ?_⟩
  · obtain ⟨a, -⟩ := lst_mn (x := x) hf hb (by rw [hl, hmn])
    rw [hmn] at a
    exact ((cdl_gcd50 (fun m hm => (a m hm).2)).congr (fun m hm => (a m hm).1)).uniq g
  · have z := lst_dep (x := x) (by omega) hf hb (by rw [hmn]; exact hl)
    rw [hmn] at z
    have := g.2.2 0 (fun m hm => by rw [z m hm]; exact Int.dvd_refl 0)
    exact Int.zero_dvd.mp this
theorem i64_12 {x : Int64} : 12 < x ↔ 12 < x.toInt := by
  rw [Int64.lt_iff_toInt_lt, show (12 : Int64).toInt = 12 by decide]
/-- LARGE: both the same -/
theorem lrg_ixd {yf yf' : Nat → Int32} {sp zs yn : Nat} {ck0 : Nat → Nat} {q0 : Nat → Int64} (hsp : sp ≤ 4) (h2 : 2 ≤ zs) (h4 : zs ≤ 4) (hyn : yn ≤ 8) (hb : ∀ c, c < yn → ∀ i, i < 4 → (wr yf c i).natAbs ≤ 649) (hi : ∀ j, j < yn → ∀ i, zs ≤ i → i < 4 → wr yf j i = 0) (hf : ∀ i, i < 4 * yn → yf' i = yf i) : lrg yf' yn sp ↔ 12 < (ixd yf yn sp zs (2 ^ yn - 1) (0, ck0, q0)).1 := by
  have h256 : 2 ^ yn ≤ 2 ^ 8 := Nat.pow_le_pow_right (by decide) hyn
  constructor
  · rintro ⟨x, hx, e1, e2, e3⟩
    rw [pcn_mny x (by omega)] at e1
    obtain ⟨g, a, -⟩ := index_same (ck := ck0) (q := q0) (yf' := yf') hsp h2 h4 (by omega) hb hi hf hx e1
    rw [e2, i64_12, a e2] at e3
    have x1 : 1 ≤ x := by
      rcases Nat.eq_zero_or_pos x with z | z
      · exfalso
        subst z
        have e1 : 0 = sp := e1
        subst e1
        have := g.2.1 0 (by decide)
        have this : _ ∣ (1 : Int) := this
        have := Int.le_of_dvd (by decide) this
        omega
      · exact z
    have := ixd_ge (c0 := ck0) (q0 := q0) hsp h4 hyn (fun c hc i hi => Nat.le_trans (hb c hc i hi) (by decide)) (2 ^ yn - 1) (Nat.le_refl _) x x1 (by omega) e1 ck0 q0
    rw [i64_12]; omega
  · intro h
    obtain ⟨x, x1, x2, x3, ck, q, x4⟩ := ixd_some _ h
    have hp := Nat.two_pow_pos yn
    obtain ⟨-, a, b⟩ := index_same (ck := ck) (q := q) (yf' := yf') hsp h2 h4 (by omega) hb hi hf (show x < 2 ^ yn by omega) x3
    rw [i64_12] at x4
    by_cases e : (lst yf' x yn).1 = sp
    · refine ⟨x, by omega, by rw [pcn_mny x (by omega)]; exact x3, e, ?_⟩
      rw [e, i64_12, a e]; exact x4
    · have := b e; omega
