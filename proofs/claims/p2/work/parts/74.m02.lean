/-! ===== own rows: mathematics of the reference, 02 ===== -/
-- a row less a multiple of another
theorem ls1_at {k r : Nat} {a b : Int64} {f : Nat → Int64} (hkr : ¬ k = r) : ∀ (i j : Nat), i ≤ 4 → (ls1 k r a b i (f, 0)).1 j = if 4 * k ≤ j ∧ j < 4 * k + i then f j * a - f (4 * r + (j - 4 * k)) * b else f j
  | 0, j, _ => by rw [if_neg (by omega)]; rfl
  | i + 1, j, hi => by
    show vp_updL (ls1 k r a b i (f, 0)).1 (4 * k + i) ((ls1 k r a b i (f, 0)).1 (4 * k + i) * a - (ls1 k r a b i (f, 0)).1 (4 * r + i) * b) j = _
    by_cases e : j = 4 * k + i
    · subst e
      rw [updL_eq, ls1_at hkr i _ (by omega), ls1_at hkr i _ (by omega), if_neg (by omega), if_neg (by omega), if_pos (by omega), show 4 * k + i - 4 * k = i by omega]
    · rw [updL_ne e, ls1_at hkr i j (by omega)]
      by_cases h : 4 * k ≤ j ∧ j < 4 * k + i
      · rw [if_pos h, if_pos (by omega)]
      · rw [if_neg h, if_neg (by omega)]
theorem ls1_dvd {k r : Nat} {a b : Int64} {f : Nat → Int64} (hkr : ¬ k = r) : ∀ (i : Nat), i ≤ 4 → ∀ q, q < i → (ls1 k r a b i (f, 0)).2.toInt ∣ (f (4 * k + q) * a - f (4 * r + q) * b).toInt
  | 0, _, q, hq => absurd hq (Nat.not_lt_zero q)
  | i + 1, hi, q, hq => by
    obtain ⟨g1, g2⟩ := gcv_dvd (ls1 k r a b i (f, 0)).2 (vp_updL (ls1 k r a b i (f, 0)).1 (4 * k + i) ((ls1 k r a b i (f, 0)).1 (4 * k + i) * a - (ls1 k r a b i (f, 0)).1 (4 * r + i) * b) (4 * k + i))
    show (gcv (ls1 k r a b i (f, 0)).2 (vp_updL (ls1 k r a b i (f, 0)).1 (4 * k + i) ((ls1 k r a b i (f, 0)).1 (4 * k + i) * a - (ls1 k r a b i (f, 0)).1 (4 * r + i) * b) (4 * k + i))).toInt ∣ _
    by_cases e : q = i
    · subst e
      rw [updL_eq, ls1_at hkr q _ (by omega), ls1_at hkr q _ (by omega), if_neg (by omega), if_neg (by omega)] at g2
      rw [updL_eq, ls1_at hkr q _ (by omega), ls1_at hkr q _ (by omega), if_neg (by omega), if_neg (by omega)]
      exact g2
    · exact Int.dvd_trans g1 (ls1_dvd hkr i (by omega) q (by omega))
theorem ls2_at {k : Nat} {g : Int64} {f : Nat → Int64} : ∀ (i j : Nat), ls2 k g i f j = if 4 * k ≤ j ∧ j < 4 * k + i then f j / g else f j
  | 0, j => by rw [if_neg (by omega)]; rfl
  | i + 1, j => by
    show vp_updL (ls2 k g i f) (4 * k + i) (ls2 k g i f (4 * k + i) / g) j = _
    by_cases e : j = 4 * k + i
    · subst e
      rw [updL_eq, ls2_at i, if_neg (by omega), if_pos (by omega)]
    · rw [updL_ne e, ls2_at i j]
      by_cases h : 4 * k ≤ j ∧ j < 4 * k + i
      · rw [if_pos h, if_pos (by omega)]
      · rw [if_neg h, if_neg (by omega)]
theorem lss_spec {k r c B : Nat} {f : Nat → Int64} (hkr : ¬ k = r) (hc : c < 4) (hB : B * B + B * B < 2 ^ 63) (h1 : ∀ i, i < 4 → (f (4 * k + i)).toInt.natAbs ≤ B) (h2 : ∀ i, i < 4 → (f (4 * r + i)).toInt.natAbs ≤ B) :
    (∀ j, (j < 4 * k ∨ 4 * k + 4 ≤ j) → lss k r c f j = f j) ∧ (∀ i, i < 4 → (lss k r c f (4 * k + i)).toInt.natAbs ≤ B * B + B * B) ∧
    ∃ g : Int, 1 ≤ g ∧ ∀ i, i < 4 → g * (lss k r c f (4 * k + i)).toInt = (f (4 * k + i)).toInt * (f (4 * r + c)).toInt - (f (4 * r + i)).toInt * (f (4 * k + c)).toInt := by
  have key : ∀ i, i < 4 → (f (4 * k + i) * f (4 * r + c) - f (4 * r + i) * f (4 * k + c)).toInt = (f (4 * k + i)).toInt * (f (4 * r + c)).toInt - (f (4 * r + i)).toInt * (f (4 * k + c)).toInt ∧ (f (4 * k + i) * f (4 * r + c) - f (4 * r + i) * f (4 * k + c)).toInt.natAbs ≤ B * B + B * B := by
    intro i hi
    obtain ⟨a1, a2⟩ := mul64 (h1 i hi) (h2 c hc) (by omega)
    obtain ⟨b1, b2⟩ := mul64 (h2 i hi) (h1 c hc) (by omega)
    obtain ⟨c1, c2⟩ := sub64 a2 b2 hB
    exact ⟨by rw [c1, a1, b1], c2⟩
  have hd := ls1_dvd (a := f (4 * r + c)) (b := f (4 * k + c)) (f := f) hkr 4 (Nat.le_refl 4)
  have ha := fun j => ls1_at (a := f (4 * r + c)) (b := f (4 * k + c)) (f := f) hkr 4 j (Nat.le_refl 4)
  unfold lss
  generalize ls1 k r (f (4 * r + c)) (f (4 * k + c)) 4 (f, 0) = P at hd ha ⊢
  by_cases hg : 1 < P.2
  · rw [if_pos hg]
    have hg' : 1 < P.2.toInt := by have := Int64.lt_iff_toInt_lt.mp hg; exact this
    have hr : ∀ i, i < 4 → ls2 k P.2 4 P.1 (4 * k + i) = (f (4 * k + i) * f (4 * r + c) - f (4 * r + i) * f (4 * k + c)) / P.2 := by
      intro i hi
      rw [ls2_at, if_pos (by omega), ha, if_pos (by omega), show 4 * k + i - 4 * k = i by omega]
    refine ⟨fun j hj => ?_, fun i hi => ?_, P.2.toInt, by omega, fun i hi => ?_⟩
    · rw [ls2_at, if_neg (by omega), ha, if_neg (by omega)]
    · rw [hr i hi]
      exact Nat.le_trans (div64 hg' (hd i hi)).2 (key i hi).2
    · rw [hr i hi, Int.mul_comm, (div64 hg' (hd i hi)).1, (key i hi).1]
  · rw [if_neg hg]
    refine ⟨fun j hj => ?_, fun i hi => ?_, 1, by omega, fun i hi => ?_⟩
    · rw [ha, if_neg (by omega)]
    · rw [ha, if_pos (by omega), show 4 * k + i - 4 * k = i by omega]
      exact (key i hi).2
    · rw [ha, if_pos (by omega), show 4 * k + i - 4 * k = i by omega, Int.one_mul]
      exact (key i hi).1
/-- a row of the square times a vector -/
def rdot (f : Nat → Int64) (k : Nat) (v : Nat → Int) : Int := (f (4 * k + 0)).toInt * v 0 + (f (4 * k + 1)).toInt * v 1 + (f (4 * k + 2)).toInt * v 2 + (f (4 * k + 3)).toInt * v 3
theorem lss_ker {k r c B : Nat} {f : Nat → Int64} {v : Nat → Int} (hkr : ¬ k = r) (hc : c < 4) (hB : B * B + B * B < 2 ^ 63) (h1 : ∀ i, i < 4 → (f (4 * k + i)).toInt.natAbs ≤ B) (h2 : ∀ i, i < 4 → (f (4 * r + i)).toInt.natAbs ≤ B) (hk : rdot f k v = 0) (hr : rdot f r v = 0) : rdot (lss k r c f) k v = 0 := by
  obtain ⟨-, -, g, hg, h⟩ := lss_spec hkr hc hB h1 h2
  have e : g * rdot (lss k r c f) k v = rdot f k v * (f (4 * r + c)).toInt - rdot f r v * (f (4 * k + c)).toInt := by
    have e0 := h 0 (by decide); have e1 := h 1 (by decide); have e2 := h 2 (by decide); have e3 := h 3 (by decide)
    unfold rdot
    generalize (f (4 * r + c)).toInt = A at *
    generalize (f (4 * k + c)).toInt = C at *
    generalize (lss k r c f (4 * k + 0)).toInt = x0 at *
    generalize (lss k r c f (4 * k + 1)).toInt = x1 at *
    generalize (lss k r c f (4 * k + 2)).toInt = x2 at *
    generalize (lss k r c f (4 * k + 3)).toInt = x3 at *
    grind
  rw [hk, hr, Int.zero_mul, Int.zero_mul, Int.sub_self] at e
  rcases Int.mul_eq_zero.mp e with e | e
  · omega
  · exact e
theorem ls1_congr {k r : Nat} {a b : Int64} {f g : Nat → Int64} (hkr : ¬ k = r) (hk : ∀ i, i < 4 → f (4 * k + i) = g (4 * k + i)) (hr : ∀ i, i < 4 → f (4 * r + i) = g (4 * r + i)) : ∀ (i : Nat), i ≤ 4 → (ls1 k r a b i (f, 0)).2 = (ls1 k r a b i (g, 0)).2
  | 0, _ => rfl
  | i + 1, hi => by
    show gcv (ls1 k r a b i (f, 0)).2 (vp_updL (ls1 k r a b i (f, 0)).1 (4 * k + i) ((ls1 k r a b i (f, 0)).1 (4 * k + i) * a - (ls1 k r a b i (f, 0)).1 (4 * r + i) * b) (4 * k + i)) = gcv (ls1 k r a b i (g, 0)).2 (vp_updL (ls1 k r a b i (g, 0)).1 (4 * k + i) ((ls1 k r a b i (g, 0)).1 (4 * k + i) * a - (ls1 k r a b i (g, 0)).1 (4 * r + i) * b) (4 * k + i))
    rw [ls1_congr hkr hk hr i (by omega), updL_eq, updL_eq, ls1_at hkr i _ (by omega), ls1_at hkr i _ (by omega), ls1_at hkr i _ (by omega), ls1_at hkr i _ (by omega)]
    rw [if_neg (by omega), if_neg (by omega), if_neg (by omega), if_neg (by omega), hk i (by omega), hr i (by omega)]
theorem lss_congr {k r c : Nat} {f g : Nat → Int64} (hkr : ¬ k = r) (hc : c < 4) (hk : ∀ i, i < 4 → f (4 * k + i) = g (4 * k + i)) (hr : ∀ i, i < 4 → f (4 * r + i) = g (4 * r + i)) : ∀ i, i < 4 → lss k r c f (4 * k + i) = lss k r c g (4 * k + i) := by
  intro i hi
  unfold lss
  rw [hk c hc, hr c hc]
  have e := ls1_congr (a := g (4 * r + c)) (b := g (4 * k + c)) hkr hk hr 4 (Nat.le_refl 4)
  have e1 : ∀ q, q < 4 → (ls1 k r (g (4 * r + c)) (g (4 * k + c)) 4 (f, 0)).1 (4 * k + q) = (ls1 k r (g (4 * r + c)) (g (4 * k + c)) 4 (g, 0)).1 (4 * k + q) := by
    intro q hq
    rw [ls1_at hkr 4 _ (Nat.le_refl 4), ls1_at hkr 4 _ (Nat.le_refl 4), if_pos (by omega), if_pos (by omega), show 4 * k + q - 4 * k = q by omega, hk q hq, hr q hq]
  rw [e]
  split
  · rw [ls2_at, ls2_at, if_pos (by omega), if_pos (by omega), e1 i hi]
  · exact e1 i hi
