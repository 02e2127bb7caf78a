/-! ===== own rows: mathematics of the reference, 01 ===== -/
-- divisors
theorem gcw_dvd : ∀ (n : Nat) (x y : Int64), y.toInt.natAbs = n → (gcw x y).toInt ∣ x.toInt ∧ (gcw x y).toInt ∣ y.toInt := by
  intro n
  induction n using Nat.strongRecOn with
  | ind n ih =>
    intro x y hn
    by_cases h : y = 0
    · rw [gcw_0 h]
      subst h
      exact ⟨Int.dvd_refl _, ⟨0, by simp⟩⟩
    · rw [gcw_s h]
      obtain ⟨h1, h2⟩ := lrem_int x y h
      obtain ⟨a, b⟩ := ih _ (by rw [← hn]; exact lrem_less (x := x) h) y (x - x / y * y) rfl
      refine ⟨?_, a⟩
      rw [h1] at b
      have e : x.toInt = x.toInt.tmod y.toInt + x.toInt.tdiv y.toInt * y.toInt := (Int.tmod_add_tdiv_mul x.toInt y.toInt).symm
      rw [e]
      exact Int.dvd_add b (Int.dvd_trans a (Int.dvd_mul_left _ _))
theorem nabs_dvd (a : Int64) : (nabs a).toInt ∣ a.toInt := by
  unfold nabs
  split
  · exact Int.dvd_refl _
  · rw [Int64.toInt_neg]
    by_cases h : a.toInt = -2 ^ 63
    · rw [h]; decide
    · have h1 := a.toInt_lt
      have h2 := a.le_toInt
      rw [show (-a.toInt).bmod (2 ^ 64) = -a.toInt from by apply Int.bmod_eq_of_le <;> omega]
      exact Int.neg_dvd.mpr (Int.dvd_refl _)
theorem gcv_dvd (a b : Int64) : (gcv a b).toInt ∣ a.toInt ∧ (gcv a b).toInt ∣ b.toInt := by
  obtain ⟨h1, h2⟩ := gcw_dvd _ (nabs a) (nabs b) rfl
  exact ⟨Int.dvd_trans h1 (nabs_dvd a), Int.dvd_trans h2 (nabs_dvd b)⟩
-- arithmetic without wrapping
theorem mul64 {x y : Int64} {a b : Nat} (hx : x.toInt.natAbs ≤ a) (hy : y.toInt.natAbs ≤ b) (h : a * b < 2 ^ 63) : (x * y).toInt = x.toInt * y.toInt ∧ (x * y).toInt.natAbs ≤ a * b := by
  have h1 : (x.toInt * y.toInt).natAbs ≤ a * b := by rw [Int.natAbs_mul]; exact Nat.mul_le_mul hx hy
  have e : (x * y).toInt = x.toInt * y.toInt := by
    rw [Int64.toInt_mul]
    apply Int.bmod_eq_of_le <;> omega
  exact ⟨e, by rw [e]; exact h1⟩
theorem sub64 {x y : Int64} {a b : Nat} (hx : x.toInt.natAbs ≤ a) (hy : y.toInt.natAbs ≤ b) (h : a + b < 2 ^ 63) : (x - y).toInt = x.toInt - y.toInt ∧ (x - y).toInt.natAbs ≤ a + b := by
  have e : (x - y).toInt = x.toInt - y.toInt := by
    rw [Int64.toInt_sub]
    apply Int.bmod_eq_of_le <;> omega
  exact ⟨e, by rw [e]; omega⟩
theorem div64 {x g : Int64} (hg : 1 < g.toInt) (hd : g.toInt ∣ x.toInt) : (x / g).toInt * g.toInt = x.toInt ∧ (x / g).toInt.natAbs ≤ x.toInt.natAbs := by
  have h1 := x.toInt_lt
  have h2 := x.le_toInt
  obtain ⟨k, hk⟩ := hd
  have e0 : x.toInt.tdiv g.toInt = k := by rw [hk]; exact Int.mul_tdiv_cancel_left k (by omega)
  have hle : k.natAbs ≤ x.toInt.natAbs := by
    rw [hk, Int.natAbs_mul]
    exact Nat.le_mul_of_pos_left _ (by omega)
  have e : (x / g).toInt = k := by
    rw [Int64.toInt_div, e0]
    have : k.natAbs * 2 ≤ x.toInt.natAbs ∨ k = 0 := by
      by_cases z : k = 0
      · exact Or.inr z
      · left
        rw [hk, Int.natAbs_mul, Nat.mul_comm]
        exact Nat.mul_le_mul (by omega) (Nat.le_refl _)
    apply Int.bmod_eq_of_le <;> omega
  rw [e]
  exact ⟨by rw [hk, Int.mul_comm], hle⟩
