/-! ===== own rows: class and reference, 05 ===== -/
-- the reference's rank, in general
def rgI (f : Nat → Int64) (k : Nat) : Nat → Int := fun i => (f (4 * k + i)).toInt
theorem lss_far {k r c : Nat} {f : Nat → Int64} (hkr : ¬ k = r) : ∀ j, (j < 4 * k ∨ 4 * k + 4 ≤ j) → lss k r c f j = f j := by
  have ha := fun j => ls1_at (a := f (4 * r + c)) (b := f (4 * k + c)) (f := f) hkr 4 j (Nat.le_refl 4)
  intro j hj
  unfold lss
  generalize ls1 k r (f (4 * r + c)) (f (4 * k + c)) 4 (f, 0) = P at ha ⊢
  by_cases hg : 1 < P.2
  · rw [if_pos hg, ls2_at, if_neg (by omega), ha, if_neg (by omega)]
  · rw [if_neg hg, ha, if_neg (by omega)]
theorem lsm_rows {r c : Nat} {f : Nat → Int64} (hc : c < 4) : ∀ (m : Nat),
    (∀ j, (j < 4 * (r + 1) ∨ 4 * (r + 1 + m) ≤ j) → lsm r c m f j = f j) ∧ (∀ k, r < k → k < r + 1 + m → ∀ i, i < 4 → lsm r c m f (4 * k + i) = lss k r c f (4 * k + i))
  | 0 => ⟨fun j _ => rfl, fun k h1 h2 => absurd h2 (by omega)⟩
  | m + 1 => by
    obtain ⟨i1, i2⟩ := lsm_rows (r := r) (f := f) hc m
    have er : ∀ i, i < 4 → lsm r c m f (4 * r + i) = f (4 * r + i) := fun i hi => i1 _ (Or.inl (by omega))
    have ek : ∀ i, i < 4 → lsm r c m f (4 * (r + 1 + m) + i) = f (4 * (r + 1 + m) + i) := fun i hi => i1 _ (Or.inr (by omega))
    have s1 := lss_far (k := r + 1 + m) (r := r) (c := c) (f := lsm r c m f) (by omega)
    have hcong : ∀ i, i < 4 → lss (r + 1 + m) r c (lsm r c m f) (4 * (r + 1 + m) + i) = lss (r + 1 + m) r c f (4 * (r + 1 + m) + i) := by
      intro i hi
      exact lss_congr (by omega) hc ek er i hi
    refine ⟨fun j hj => ?_, fun k h1 h2 i hi => ?_⟩
    · show lss (r + 1 + m) r c (lsm r c m f) j = _
      rw [s1 j (by omega), i1 j (by omega)]
    · show lss (r + 1 + m) r c (lsm r c m f) (4 * k + i) = _
      by_cases e : k = r + 1 + m
      · subst e; exact hcong i hi
      · rw [s1 _ (by omega)]; exact i2 k h1 (by omega) i hi
/-- one step of the elimination -/
def EL (n r c : Nat) (f g : Nat → Int64) : Prop := (∀ k, k ≤ r → ∀ i, i < 4 → g (4 * k + i) = f (4 * k + i)) ∧ ∀ k, r < k → k < n → ∃ t : Int, 1 ≤ t ∧ ∀ i, i < 4 → t * rgI g k i = rgI f k i * rgI f r c - rgI f r i * rgI f k c
theorem EL.of_bound {n r c B : Nat} {f : Nat → Int64} (hc : c < 4) (hr : r < n) (hB : B * B + B * B < 2 ^ 63) (hb : ∀ k, r ≤ k → k < n → ∀ i, i < 4 → (f (4 * k + i)).toInt.natAbs ≤ B) : EL n r c f (lsm r c (n - (r + 1)) f) ∧ ∀ k, r < k → k < n → ∀ i, i < 4 → (lsm r c (n - (r + 1)) f (4 * k + i)).toInt.natAbs ≤ B * B + B * B := by
  obtain ⟨l1, l2⟩ := lsm_rows (r := r) (c := c) (f := f) hc (n - (r + 1))
  refine ⟨⟨fun k hk i hi => l1 _ (Or.inl (by omega)), fun k h1 h2 => ?_⟩, fun k h1 h2 i hi => ?_⟩
  · obtain ⟨-, -, g, hg, h⟩ := lss_spec (k := k) (r := r) (c := c) (B := B) (f := f) (by omega) hc hB (hb k (by omega) h2) (hb r (Nat.le_refl r) hr)
    refine ⟨g, hg, fun i hi => ?_⟩
    show g * (lsm r c (n - (r + 1)) f (4 * k + i)).toInt = _
    rw [l2 k h1 (by omega) i hi]
    exact h i hi
  · rw [l2 k h1 (by omega) i hi]
    exact (lss_spec (k := k) (r := r) (c := c) (B := B) (f := f) (by omega) hc hB (hb k (by omega) h2) (hb r (Nat.le_refl r) hr)).2.1 i hi
theorem ls1_zero {k r : Nat} {a b : Int64} {f : Nat → Int64} (hkr : ¬ k = r) (hz : ∀ i, i < 4 → f (4 * k + i) * a - f (4 * r + i) * b = 0) : ∀ i, i ≤ 4 → (ls1 k r a b i (f, 0)).2 = 0
  | 0, _ => rfl
  | i + 1, hi => by
    have ih := ls1_zero (k := k) (r := r) (a := a) (b := b) (f := f) hkr hz i (by omega)
    have h1 := ls1_at (a := a) (b := b) (f := f) hkr i (4 * k + i) (by omega)
    have h2 := ls1_at (a := a) (b := b) (f := f) hkr i (4 * r + i) (by omega)
    rw [if_neg (by omega)] at h1 h2
    rw [ls1_s (f := (ls1 k r a b i (f, 0)).1) (g := (ls1 k r a b i (f, 0)).2) rfl]
    show gcv (ls1 k r a b i (f, 0)).2 (vp_updL _ (4 * k + i) _ (4 * k + i)) = 0
    rw [updL_eq, h1, h2, hz i (by omega), ih]
    unfold gcv
    rw [show nabs 0 = 0 by decide, gcw_0 rfl]
theorem lss_zero {k r c : Nat} {f : Nat → Int64} (hkr : ¬ k = r) (hz : ∀ i, i < 4 → f (4 * k + i) * f (4 * r + c) - f (4 * r + i) * f (4 * k + c) = 0) : ∀ i, i < 4 → lss k r c f (4 * k + i) = 0 := by
  intro i hi
  have h0 := ls1_zero (k := k) (r := r) hkr hz 4 (Nat.le_refl 4)
  rw [lss_n (f2 := (ls1 k r (f (4 * r + c)) (f (4 * k + c)) 4 (f, 0)).1) (g := (ls1 k r (f (4 * r + c)) (f (4 * k + c)) 4 (f, 0)).2) rfl (by rw [h0]; decide)]
  rw [ls1_at hkr 4 _ (Nat.le_refl 4), if_pos (by omega), show 4 * k + i - 4 * k = i by omega]
  exact hz i hi
theorem EL.of_last {n r : Nat} {f : Nat → Int64} (hr : r < n) (hz : ∀ k, r ≤ k → k < n → ∀ i, i < 3 → f (4 * k + i) = 0) : EL n r 3 f (lsm r 3 (n - (r + 1)) f) := by
  obtain ⟨l1, l2⟩ := lsm_rows (r := r) (c := 3) (f := f) (by decide) (n - (r + 1))
  refine ⟨fun k hk i hi => l1 _ (Or.inl (by omega)), fun k h1 h2 => ⟨1, by decide, fun i hi => ?_⟩⟩
  have hk := hz k (by omega) h2
  have hr' := hz r (Nat.le_refl r) hr
  have z : lsm r 3 (n - (r + 1)) f (4 * k + i) = 0 := by
    rw [l2 k h1 (by omega) i hi]
    refine lss_zero (by omega) (fun i hi => ?_) i hi
    by_cases e : i = 3
    · subst e; rw [Int64.mul_comm]; exact Int64.sub_self _
    · rw [hk i (by omega), hr' i (by omega), Int64.zero_mul, Int64.zero_mul]; rfl
  show 1 * (lsm r 3 (n - (r + 1)) f (4 * k + i)).toInt = (f (4 * k + i)).toInt * (f (4 * r + 3)).toInt - (f (4 * r + i)).toInt * (f (4 * k + 3)).toInt
  rw [z]
  by_cases e : i = 3
  · subst e; rw [Int.mul_comm (f (4 * k + 3)).toInt, Int.sub_self]; rfl
  · rw [hk i (by omega), hr' i (by omega), show (0 : Int64).toInt = 0 by decide]; simp
/-- what stands after c columns -/
def RG (n : Nat) (f0 : Nat → Int64) (c r : Nat) (f : Nat → Int64) : Prop :=
  r ≤ c ∧ r ≤ n ∧ (∀ k, k < n → Sp n (rgI f) (rgI f0 k)) ∧ (∀ k, k < n → Sp n (rgI f0) (rgI f k)) ∧ (∀ k, r ≤ k → k < n → ∀ i, i < c → f (4 * k + i) = 0) ∧ ∀ y : Nat → Int, (∀ q, q < c → isum (fun i => y i * rgI f i q) r = 0) → ∀ i, i < r → y i = 0
theorem RG.stay {n c r : Nat} {f0 f : Nat → Int64} (h : RG n f0 c r f) (hz : ∀ k, r ≤ k → k < n → f (4 * k + c) = 0) : RG n f0 (c + 1) r f := by
  obtain ⟨h1, h2, h3, h4, h5, h6⟩ := h
  refine ⟨by omega, h2, h3, h4, fun k k1 k2 i hi => ?_, fun y hy => h6 y (fun q hq => hy q (by omega))⟩
  by_cases e : i = c
  · subst e; exact hz k k1 k2
  · exact h5 k k1 k2 i (by omega)
theorem Sp.congr {n : Nat} {t : Nat → Nat → Int} {v w : Nat → Int} (h : Sp n t v) (e : ∀ q, q < 4 → w q = v q) : Sp n t w :=
  h.div (g := 1) (by decide) (fun q hq => by rw [e q hq]; omega)
theorem swp_back {p r n : Nat} {f : Nat → Int64} (hp : p < n) (hr : r ≤ p) (k : Nat) (hk : k < n) : ∃ q, q < n ∧ ∀ i, i < 4 → f (4 * k + i) = swp p r 4 f (4 * q + i) := by
  by_cases e1 : k = r
  · subst e1
    exact ⟨p, hp, fun i hi => ((swp_in 4 (Nat.le_refl 4) i hi).2).symm⟩
  · by_cases e2 : k = p
    · subst e2
      exact ⟨r, by omega, fun i hi => ((swp_in 4 (Nat.le_refl 4) i hi).1).symm⟩
    · exact ⟨k, hk, fun i hi => (swp_out 4 _ (Nat.le_refl 4) (fun z hz => by omega)).symm⟩
theorem RG.swap {n c r p : Nat} {f0 f : Nat → Int64} (h : RG n f0 c r f) (hc : c ≤ 4) (hr : r ≤ p) (hp : p < n) : RG n f0 c r (swp p r 4 f) := by
  obtain ⟨h1, h2, h3, h4, h5, h6⟩ := h
  refine ⟨h1, h2, fun k hk => (h3 k hk).trans (fun i hi => ?_), fun k hk => ?_, fun k k1 k2 i hi => ?_, fun y hy => h6 y (fun q hq => ?_)⟩
  · obtain ⟨q, q1, q2⟩ := swp_back (f := f) hp hr i hi
    exact (Sp.mem (t := rgI (swp p r 4 f)) q1).congr (fun z hz => congrArg Int64.toInt (q2 z hz))
  · obtain ⟨q, q1, -, -, -, q2⟩ := swp_row (f := f) hp hr k hk
    exact (h4 q q1).congr (fun z hz => congrArg Int64.toInt (q2 z hz))
  · obtain ⟨q, q1, -, q3, -, q2⟩ := swp_row (f := f) hp hr k k2
    rw [q2 i (by omega)]
    exact h5 q (q3 k1) q1 i hi
  · rw [← hy q hq]
    refine isum_congr r (fun i hi => ?_)
    obtain ⟨q9, q1, q3, -, -, q2⟩ := swp_row (f := f) hp hr i (by omega)
    show y i * (f (4 * i + q)).toInt = y i * (swp p r 4 f (4 * i + q)).toInt
    rw [q2 q (by omega), q3 hi]
theorem RG.elim {n c r : Nat} {f0 f g : Nat → Int64} (h : RG n f0 c r f) (hc : c < 4) (hr : r < n) (hnz : ¬ f (4 * r + c) = 0) (e : EL n r c f g) : RG n f0 (c + 1) (r + 1) g := by
  obtain ⟨h1, h2, h3, h4, h5, h6⟩ := h
  obtain ⟨e1, e2⟩ := e
  have ha : ¬ rgI f r c = 0 := fun z => hnz (i64_zero.mpr z)
  have low : ∀ k, k ≤ r → ∀ q, q < 4 → rgI g k q = rgI f k q := fun k hk q hq => congrArg Int64.toInt (e1 k hk q hq)
  refine ⟨by omega, by omega, fun k hk => (h3 k hk).trans (fun i hi => ?_), fun k hk => ?_, fun k k1 k2 i hi => ?_, fun y hy => ?_⟩
  · by_cases z : i ≤ r
    · exact (Sp.mem (t := rgI g) hi).congr (fun q hq => (low i z q hq).symm)
    · obtain ⟨t, t1, t2⟩ := e2 i (by omega) hi
      refine ((Sp.mem (t := rgI g) hi).lin (Sp.mem (t := rgI g) hr) t (rgI f i c)).div ha (fun q hq => ?_)
      rw [t2 q hq, low r (Nat.le_refl r) q hq]; grind
  · by_cases z : k ≤ r
    · exact (h4 k hk).congr (fun q hq => low k z q hq)
    · obtain ⟨t, t1, t2⟩ := e2 k (by omega) hk
      refine ((h4 k hk).lin (h4 r hr) (rgI f r c) (-(rgI f k c))).div (g := t) (by omega) (fun q hq => ?_)
      rw [t2 q hq]; grind
  · obtain ⟨t, t1, t2⟩ := e2 k (by omega) k2
    have t3 := t2 i (by omega)
    have z0 : (0 : Int64).toInt = 0 := by decide
    have t4 : t * rgI g k i = 0 := by
      rw [t3]
      by_cases z : i = c
      · subst z; grind
      · have y1 : rgI f k i = 0 := by show (f _).toInt = 0; rw [h5 k (by omega) k2 i (by omega)]; rfl
        have y2 : rgI f r i = 0 := by show (f _).toInt = 0; rw [h5 r (Nat.le_refl r) hr i (by omega)]; rfl
        rw [y1, y2]; simp
    rcases Int.mul_eq_zero.mp t4 with z | z
    · omega
    · exact i64_zero.mpr z
  · have k1 : ∀ q, q < 4 → isum (fun i => y i * rgI g i q) r = isum (fun i => y i * rgI f i q) r := fun q hq => isum_congr r (fun i hi => by rw [low i (by omega) q hq])
    have k2 : ∀ i, i < r → y i = 0 := by
      refine h6 y (fun q hq => ?_)
      have z : isum (fun i => y i * rgI g i q) r + y r * rgI g r q = 0 := hy q (by omega)
      have z2 : rgI f r q = 0 := by show (f _).toInt = 0; rw [h5 r (Nat.le_refl r) hr q hq]; rfl
      rw [low r (Nat.le_refl r) q (by omega), z2, k1 q (by omega)] at z
      omega
    have z : isum (fun i => y i * rgI g i c) r + y r * rgI g r c = 0 := hy c (by omega)
    rw [isum_zero r (fun i hi => by rw [k2 i hi, Int.zero_mul]), low r (Nat.le_refl r) c hc] at z
    intro i hi
    by_cases w : i = r
    · subst w
      rcases Int.mul_eq_zero.mp (show y i * rgI f i c = 0 by omega) with q | q
      · exact q
      · exact absurd q ha
    · exact k2 i (by omega)
/-- n rows have rank R -/
def RNK (n : Nat) (w : Nat → Nat → Int) (R : Nat) : Prop := ∃ t : Nat → Nat → Int, Ind R t ∧ (∀ i, i < R → Sp n w (t i)) ∧ ∀ k, k < n → Sp R t (w k)
theorem RNK.eq {n m : Nat} {w v : Nat → Nat → Int} {R S : Nat} (h : RNK n w R) (g : RNK m v S) (h1 : ∀ i, i < n → Sp m v (w i)) (h2 : ∀ i, i < m → Sp n w (v i)) : R = S := by
  obtain ⟨t, a1, a2, a3⟩ := h
  obtain ⟨u, b1, b2, b3⟩ := g
  have l1 : R ≤ S := a1.le (fun i hi => ((a2 i hi).trans h1).trans b3)
  have l2 : S ≤ R := b1.le (fun i hi => ((b2 i hi).trans h2).trans a3)
  omega
theorem RG.rnk {n r : Nat} {f0 f : Nat → Int64} (h : RG n f0 4 r f) : RNK n (rgI f0) r := by
  obtain ⟨h1, h2, h3, h4, h5, h6⟩ := h
  refine ⟨rgI f, fun y hy => h6 y hy, fun i hi => h4 i (by omega), fun k hk => (h3 k hk).trans (fun i hi => ?_)⟩
  by_cases e : i < r
  · exact Sp.mem e
  · exact Sp.zero (fun q hq => by show (f _).toInt = 0; rw [h5 i (by omega) hi q hq]; rfl)
