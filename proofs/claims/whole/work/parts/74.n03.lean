/-! ===== own rows: class and reference, 03 ===== -/
-- spans
/-- a multiple of v is a sum of multiples of n vectors -/
def Sp (n : Nat) (t : Nat → Nat → Int) (v : Nat → Int) : Prop := ∃ (m : Int) (a : Nat → Int), ¬ m = 0 ∧ ∀ q, q < 4 → m * v q = isum (fun i => a i * t i q) n
theorem Sp.mem {n : Nat} {t : Nat → Nat → Int} {k : Nat} (hk : k < n) : Sp n t (t k) := by
  refine ⟨1, fun i => if i = k then 1 else 0, by decide, fun q _ => ?_⟩
  rw [Int.one_mul]
  have : ∀ n, isum (fun i => (if i = k then (1 : Int) else 0) * t i q) n = if k < n then t k q else 0 := by
    intro n
    induction n with
    | zero => rfl
    | succ n ih =>
      show isum _ n + (if n = k then (1 : Int) else 0) * t n q = _
      rw [ih]
      by_cases e : n = k
      · subst e; rw [if_neg (Nat.lt_irrefl n), if_pos rfl, if_pos (by omega)]; omega
      · rw [if_neg e]
        by_cases h : k < n
        · rw [if_pos h, if_pos (by omega)]; omega
        · rw [if_neg h, if_neg (by omega)]; omega
  rw [this, if_pos hk]
theorem Sp.lin {n : Nat} {t : Nat → Nat → Int} {u v : Nat → Int} (hu : Sp n t u) (hv : Sp n t v) (a b : Int) : Sp n t (fun q => a * u q + b * v q) := by
  obtain ⟨m1, c, h1, e1⟩ := hu
  obtain ⟨m2, d, h2, e2⟩ := hv
  refine ⟨m1 * m2, fun i => a * m2 * c i + b * m1 * d i, fun z => ?_, fun q hq => ?_⟩
  · rcases Int.mul_eq_zero.mp z with e | e
    · exact h1 e
    · exact h2 e
  · have s1 : isum (fun i => (a * m2 * c i + b * m1 * d i) * t i q) n = a * m2 * isum (fun i => c i * t i q) n + b * m1 * isum (fun i => d i * t i q) n := by
      rw [← isum_mul, ← isum_mul, ← isum_add]
      exact isum_congr n (fun i _ => by grind)
    rw [s1, ← e1 q hq, ← e2 q hq]
    grind
theorem Sp.div {n : Nat} {t : Nat → Nat → Int} {u v : Nat → Int} {g : Int} (hu : Sp n t u) (hg : ¬ g = 0) (h : ∀ q, q < 4 → g * v q = u q) : Sp n t v := by
  obtain ⟨m, c, h1, e1⟩ := hu
  refine ⟨m * g, c, fun z => ?_, fun q hq => ?_⟩
  · rcases Int.mul_eq_zero.mp z with e | e
    · exact h1 e
    · exact hg e
  · rw [← e1 q hq, ← h q hq, Int.mul_assoc]
theorem Sp.zero {n : Nat} {t : Nat → Nat → Int} {v : Nat → Int} (h : ∀ q, q < 4 → v q = 0) : Sp n t v := ⟨1, fun _ => 0, by decide, fun q hq => by rw [h q hq, isum_zero n (fun i _ => Int.zero_mul _)]; rfl⟩
theorem Sp.sum {n r : Nat} {t u : Nat → Nat → Int} (h : ∀ i, i < n → Sp r u (t i)) (a : Nat → Int) : ∀ k, k ≤ n → Sp r u (fun q => isum (fun i => a i * t i q) k)
  | 0, _ => Sp.zero (fun q _ => rfl)
  | k + 1, hk => by
    have h1 := (Sp.sum h a k (by omega)).lin (h k (by omega)) 1 (a k)
    refine h1.div (g := 1) (by decide) (fun q _ => ?_)
    show 1 * (isum (fun i => a i * t i q) k + a k * t k q) = 1 * isum (fun i => a i * t i q) k + a k * t k q
    omega
theorem Sp.trans {n r : Nat} {t u : Nat → Nat → Int} {v : Nat → Int} (hv : Sp n t v) (h : ∀ i, i < n → Sp r u (t i)) : Sp r u v := by
  obtain ⟨m, a, hm, e⟩ := hv
  exact (Sp.sum h a n (Nat.le_refl n)).div hm e
/-- independent vectors -/
def Ind (n : Nat) (t : Nat → Nat → Int) : Prop := ∀ y : Nat → Int, (∀ q, q < 4 → isum (fun i => y i * t i q) n = 0) → ∀ i, i < n → y i = 0
theorem Ind.le {r s : Nat} {t u : Nat → Nat → Int} (hu : Ind s u) (h : ∀ i, i < s → Sp r t (u i)) : s ≤ r := by
  refine Classical.byContradiction (fun hn => ?_)
  have hc : ∀ i, ∃ (m : Int) (a : Nat → Int), i < s → (¬ m = 0 ∧ ∀ q, q < 4 → m * u i q = isum (fun j => a j * t j q) r) := fun i => by
    by_cases hi : i < s
    · obtain ⟨m, a, h1, h2⟩ := h i hi
      exact ⟨m, a, fun _ => ⟨h1, h2⟩⟩
    · exact ⟨1, fun _ => 0, fun z => absurd z hi⟩
  have h1 : ∃ (m : Nat → Int) (c : Nat → Nat → Int), ∀ i, i < s → (¬ m i = 0 ∧ ∀ q, q < 4 → m i * u i q = isum (fun j => c i j * t j q) r) := ⟨fun i => (hc i).choose, fun i => (hc i).choose_spec.choose, fun i hi => (hc i).choose_spec.choose_spec hi⟩
  obtain ⟨m, c, hmc⟩ := h1
  obtain ⟨y, ⟨i0, hi0, hy0⟩, hy⟩ := steinitz (r := r) (s := s) (u := u) (t := t) (m := m) (c := c) (by omega) (fun i hi => (hmc i hi).1) (fun i hi => (hmc i hi).2)
  exact hy0 (hu y hy i0 hi0)
-- the class's determinants of j lines
def mnI (R : Nat → Nat → Int) : Nat → Nat → Int
  | 0 => fun _ => 1
  | j + 1 => mexI (mnI R j) (R j)
theorem mnI_ind {R : Nat → Nat → Int} {j : Nat} (hj : j ≤ 4) (h : ∃ m ∈ lev j, ¬ mnI R j m = 0) : Ind j R := by
  intro y hy
  have E0 := hy 0 (by decide); have E1 := hy 1 (by decide); have E2 := hy 2 (by decide); have E3 := hy 3 (by decide)
  obtain ⟨m, hm, hne⟩ := h
  rcases (show j = 0 ∨ j = 1 ∨ j = 2 ∨ j = 3 ∨ j = 4 by omega) with rfl | rfl | rfl | rfl | rfl
  · intro i hi; omega
  · simp only [isum] at E0 E1 E2 E3
    have key : y 0 * mnI R 1 m = 0 := by
      simp only [lev, List.mem_cons, List.not_mem_nil, or_false] at hm
      rcases hm with rfl | rfl | rfl | rfl <;> simp only [mnI, mexI] <;> grind
    intro i hi
    obtain rfl : i = 0 := by omega
    exact (Int.mul_eq_zero.mp key).resolve_right hne
  · simp only [isum] at E0 E1 E2 E3
    have key : y 0 * mnI R 2 m = 0 ∧ y 1 * mnI R 2 m = 0 := by
      simp only [lev, List.mem_cons, List.not_mem_nil, or_false] at hm
      rcases hm with rfl | rfl | rfl | rfl | rfl | rfl <;> simp only [mnI, mexI] <;> constructor <;> grind
    intro i hi
    rcases (show i = 0 ∨ i = 1 by omega) with rfl | rfl
    · exact (Int.mul_eq_zero.mp key.1).resolve_right hne
    · exact (Int.mul_eq_zero.mp key.2).resolve_right hne
  · simp only [isum] at E0 E1 E2 E3
    have key : y 0 * mnI R 3 m = 0 ∧ y 1 * mnI R 3 m = 0 ∧ y 2 * mnI R 3 m = 0 := by
      simp only [lev, List.mem_cons, List.not_mem_nil, or_false] at hm
      rcases hm with rfl | rfl | rfl | rfl <;> simp only [mnI, mexI] <;> refine ⟨?_, ?_, ?_⟩ <;> grind
    intro i hi
    rcases (show i = 0 ∨ i = 1 ∨ i = 2 by omega) with rfl | rfl | rfl
    · exact (Int.mul_eq_zero.mp key.1).resolve_right hne
    · exact (Int.mul_eq_zero.mp key.2.1).resolve_right hne
    · exact (Int.mul_eq_zero.mp key.2.2).resolve_right hne
  · simp only [isum] at E0 E1 E2 E3
    have key : y 0 * mnI R 4 m = 0 ∧ y 1 * mnI R 4 m = 0 ∧ y 2 * mnI R 4 m = 0 ∧ y 3 * mnI R 4 m = 0 := by
      simp only [lev, List.mem_cons, List.not_mem_nil, or_false] at hm
      subst hm
      simp only [mnI, mexI]
      refine ⟨?_, ?_, ?_, ?_⟩ <;> grind
    intro i hi
    rcases (show i = 0 ∨ i = 1 ∨ i = 2 ∨ i = 3 by omega) with rfl | rfl | rfl | rfl
    · exact (Int.mul_eq_zero.mp key.1).resolve_right hne
    · exact (Int.mul_eq_zero.mp key.2.1).resolve_right hne
    · exact (Int.mul_eq_zero.mp key.2.2.1).resolve_right hne
    · exact (Int.mul_eq_zero.mp key.2.2.2).resolve_right hne
