/-! ===== own rows: class and reference, 10 ===== -/
-- at most twelve rays: fewer coordinates
def un (k : Nat) : Nat → Int := fun i => if i = k then 1 else 0
theorem un3 (x : Nat → Int) : dot4 (un 3) x = x 3 := by
  show (if 0 = 3 then (1 : Int) else 0) * x 0 + (if 1 = 3 then (1 : Int) else 0) * x 1 + (if 2 = 3 then (1 : Int) else 0) * x 2 + (if 3 = 3 then (1 : Int) else 0) * x 3 = x 3
  simp
theorem un2 (x : Nat → Int) : dot4 (un 2) x = x 2 := by
  show (if 0 = 2 then (1 : Int) else 0) * x 0 + (if 1 = 2 then (1 : Int) else 0) * x 1 + (if 2 = 2 then (1 : Int) else 0) * x 2 + (if 3 = 2 then (1 : Int) else 0) * x 3 = x 2
  simp
theorem T3r {n N : Nat} {W V : Nat → Nat → Int} (hn : n ≤ 8) (hc : ∀ k, k < n → ∀ j, j < N → 0 ≤ dot4 (W k) (V j))
    (hr : ∀ j, j < N → ∃ a b, a < b ∧ b < n ∧ AX (W a) (W b) (un 3) (V j)) (hp : ∀ j k, j < N → k < N → ¬ j = k → NP (V j) (V k)) : N ≤ 8 := by
  refine Classical.byContradiction (fun hN => ?_)
  let T : Nat → Nat → Nat → Int := fun k j u => dot4 (crs (W k) (un 3) (V j)) (V u)
  have anti : ∀ k j u, T k j u = -T k u j := fun k j u => by
    show dot4 (crs (W k) (un 3) (V j)) (V u) = -dot4 (crs (W k) (un 3) (V u)) (V j)
    unfold dot4; simp only [crs]; grind
  let O : Nat → Nat → Prop := fun s j => (s < 8 ∧ dot4 (W s) (V j) = 0 ∧ ∀ u, u < N → ¬ u = j → dot4 (W s) (V u) = 0 → 0 < T s j u) ∨ (8 ≤ s ∧ s < 16 ∧ dot4 (W (s - 8)) (V j) = 0 ∧ ∀ u, u < N → ¬ u = j → dot4 (W (s - 8)) (V u) = 0 → T (s - 8) j u < 0)
  have own : ∀ s j k, j < N → k < N → O s j → O s k → j = k := by
    intro s j k hj hk h1 h2
    refine Classical.byContradiction (fun ne => ?_)
    rcases h1 with ⟨s1, t1, o1⟩ | ⟨s1, -, t1, o1⟩ <;> rcases h2 with ⟨s2, t2, o2⟩ | ⟨s2, -, t2, o2⟩
    · have x1 := o1 k hk (fun z => ne z.symm) t2
      have x2 := o2 j hj ne t1
      rw [anti] at x1
      omega
    · omega
    · omega
    · have x1 := o1 k hk (fun z => ne z.symm) t2
      have x2 := o2 j hj ne t1
      rw [anti] at x1
      omega
  have Oj : ∀ j, j < N → ∃ s t, s < 16 ∧ t < 16 ∧ ¬ s = t ∧ O s j ∧ O t j := by
    intro j hj
    obtain ⟨a, b, hab, hbn, A⟩ := hr j hj
    obtain ⟨za, zb, z3⟩ := A.dots
    rw [un3] at z3
    have v3 : ∀ u, u < N → dot4 (un 3) (V u) = 0 := fun u hu => by
      obtain ⟨a', b', -, -, A'⟩ := hr u hu
      exact A'.dots.2.2
    have hDne : ¬ dot4 (crs (W a) (W b) (un 3)) (V j) = 0 := by
      obtain ⟨g, hg, e9⟩ := A.1
      rw [dot4_comm, ← dot4_smul (l := V j) e9]
      intro z
      have := dot4_pos A.2
      rcases Int.mul_eq_zero.mp z with z | z
      · exact hg z
      · omega
    -- what is seen from the row a, and from the row b
    have ga : ∀ u, u < N → dot4 (W a) (V u) = 0 → dot4 (crs (W a) (W b) (un 3)) (V j) * T a j u = dot4 (W b) (V u) * dot4 (crs (W a) (un 3) (V j)) (crs (W a) (un 3) (V j)) := fun u hu hz => by
      have d := dot4_lin (crs (W a) (un 3) (V j)) (dual (W a) (W b) (un 3) (V j) (V u))
      obtain ⟨g, hg, e9⟩ := A.1
      have e1 := dot4_smul (l := crs (W a) (un 3) (V j)) e9
      have e2 : dot4 (crs (W a) (un 3) (V j)) (V j) = 0 := by rw [dot4_comm]; exact crs_c _ _ _
      rw [hz, v3 u hu, ← e1, e2] at d
      show dot4 (crs (W a) (W b) (un 3)) (V j) * dot4 (crs (W a) (un 3) (V j)) (V u) = _
      rw [d]; grind
    have gb : ∀ u, u < N → dot4 (W b) (V u) = 0 → dot4 (crs (W a) (W b) (un 3)) (V j) * T b j u = -(dot4 (W a) (V u) * dot4 (crs (W b) (un 3) (V j)) (crs (W b) (un 3) (V j))) := fun u hu hz => by
      have d := dot4_lin (crs (W b) (un 3) (V j)) (dual (W a) (W b) (un 3) (V j) (V u))
      obtain ⟨g, hg, e9⟩ := A.1
      have e1 := dot4_smul (l := crs (W b) (un 3) (V j)) e9
      have e2 : dot4 (crs (W b) (un 3) (V j)) (V j) = 0 := by rw [dot4_comm]; exact crs_c _ _ _
      rw [hz, v3 u hu, ← e1, e2] at d
      show dot4 (crs (W a) (W b) (un 3)) (V j) * dot4 (crs (W b) (un 3) (V j)) (V u) = _
      rw [d]; grind
    have na : 0 < dot4 (crs (W a) (un 3) (V j)) (crs (W a) (un 3) (V j)) := dot4_pos (Classical.byContradiction (fun z => hDne (by
      rw [← crs_2]
      have w : ∀ i, i < 4 → crs (W a) (un 3) (V j) i = 0 := fun i hi => Classical.byContradiction (fun q => z ⟨i, hi, q⟩)
      unfold dot4
      rw [w 0 (by decide), w 1 (by decide), w 2 (by decide), w 3 (by decide)]; simp)))
    have nb : 0 < dot4 (crs (W b) (un 3) (V j)) (crs (W b) (un 3) (V j)) := dot4_pos (Classical.byContradiction (fun z => hDne (by
      have h9 := crs_1 (W a) (W b) (un 3) (V j)
      have w : ∀ i, i < 4 → crs (W b) (un 3) (V j) i = 0 := fun i hi => Classical.byContradiction (fun q => z ⟨i, hi, q⟩)
      have : dot4 (W a) (crs (W b) (un 3) (V j)) = 0 := by
        unfold dot4
        rw [w 0 (by decide), w 1 (by decide), w 2 (by decide), w 3 (by decide)]; simp
      omega)))
    have pa : ∀ u, u < N → ¬ u = j → dot4 (W a) (V u) = 0 → 0 < dot4 (W b) (V u) := fun u hu hne hz => by
      have h1 := hc b (by omega) u hu
      have h2 := A.some (hp u j hu hj hne)
      rcases Int.lt_or_eq_of_le h1 with h | h
      · exact h
      · exact absurd ⟨hz, h.symm, v3 u hu⟩ h2
    have pb : ∀ u, u < N → ¬ u = j → dot4 (W b) (V u) = 0 → 0 < dot4 (W a) (V u) := fun u hu hne hz => by
      have h1 := hc a (by omega) u hu
      have h2 := A.some (hp u j hu hj hne)
      rcases Int.lt_or_eq_of_le h1 with h | h
      · exact h
      · exact absurd ⟨h.symm, hz, v3 u hu⟩ h2
    generalize dot4 (crs (W a) (W b) (un 3)) (V j) = D at hDne ga gb
    rcases Int.lt_or_lt_of_ne hDne with hD | hD
    · refine ⟨8 + a, b, by omega, by omega, by omega, Or.inr ⟨by omega, by omega, ?_⟩, Or.inl ⟨by omega, zb, fun u hu hne hz => ?_⟩⟩
      · rw [show 8 + a - 8 = a by omega]
        refine ⟨za, fun u hu hne hz => sgn_neg (D := -D) (X := -(dot4 (W b) (V u) * dot4 (crs (W a) (un 3) (V j)) (crs (W a) (un 3) (V j)))) (by omega) (by rw [Int.neg_mul, ga u hu hz]) ?_⟩
        have := Int.mul_pos (pa u hu hne hz) na
        omega
      · exact sgn_pos (D := -D) (X := dot4 (W a) (V u) * dot4 (crs (W b) (un 3) (V j)) (crs (W b) (un 3) (V j))) (by omega) (by rw [Int.neg_mul, gb u hu hz, Int.neg_neg]) (Int.mul_pos (pb u hu hne hz) nb)
    · refine ⟨a, 8 + b, by omega, by omega, by omega, Or.inl ⟨by omega, za, fun u hu hne hz => ?_⟩, Or.inr ⟨by omega, by omega, ?_⟩⟩
      · exact sgn_pos hD (ga u hu hz) (Int.mul_pos (pa u hu hne hz) na)
      · rw [show 8 + b - 8 = b by omega]
        refine ⟨zb, fun u hu hne hz => sgn_neg hD (gb u hu hz) ?_⟩
        have := Int.mul_pos (pb u hu hne hz) nb
        omega
  have hs : ∃ sl tl : Nat → Nat, ∀ j, j < N → sl j < 16 ∧ tl j < 16 ∧ ¬ sl j = tl j ∧ O (sl j) j ∧ O (tl j) j := by
    refine ⟨fun j => if h : j < N then (Oj j h).choose else 0, fun j => if h : j < N then (Oj j h).choose_spec.choose else 0, fun j h1 => ?_⟩
    simp only [dif_pos h1]
    exact (Oj j h1).choose_spec.choose_spec
  obtain ⟨sl, tl, hsl⟩ := hs
  obtain ⟨i, j, hij, hj, heq⟩ := php 16 (fun i => if i % 2 = 0 then sl (i / 2) else tl (i / 2)) (fun i hi => by
    obtain ⟨s1, s2, -⟩ := hsl (i / 2) (by omega)
    show (if i % 2 = 0 then sl (i / 2) else tl (i / 2)) < 16
    split
    · exact s1
    · exact s2)
  have heq : (if i % 2 = 0 then sl (i / 2) else tl (i / 2)) = (if j % 2 = 0 then sl (j / 2) else tl (j / 2)) := heq
  obtain ⟨-, -, i3, i4, i5⟩ := hsl (i / 2) (by omega)
  obtain ⟨-, -, j3, j4, j5⟩ := hsl (j / 2) (by omega)
  have oi : O (if i % 2 = 0 then sl (i / 2) else tl (i / 2)) (i / 2) := by split; exact i4; exact i5
  have oj : O (if j % 2 = 0 then sl (j / 2) else tl (j / 2)) (j / 2) := by split; exact j4; exact j5
  rw [heq] at oi
  have e := own _ _ _ (by omega) (by omega) oi oj
  by_cases hi2 : i % 2 = 0
  · by_cases hj2 : j % 2 = 0
    · omega
    · rw [if_pos hi2, if_neg hj2, e] at heq; exact j3 heq
  · by_cases hj2 : j % 2 = 0
    · rw [if_neg hi2, if_pos hj2, e] at heq; exact j3 heq.symm
    · omega
theorem T2r {n N : Nat} {W V : Nat → Nat → Int} (hn : n ≤ 8) (hr : ∀ j, j < N → ∃ a, a < n ∧ AX (W a) (un 2) (un 3) (V j)) (hp : ∀ j k, j < N → k < N → ¬ j = k → NP (V j) (V k)) : N ≤ 8 := by
  refine Classical.byContradiction (fun hN => ?_)
  have hs : ∃ sl : Nat → Nat, ∀ j, j < N → sl j < n ∧ AX (W (sl j)) (un 2) (un 3) (V j) := by
    refine ⟨fun j => if h : j < N then (hr j h).choose else 0, fun j h1 => ?_⟩
    simp only [dif_pos h1]
    exact (hr j h1).choose_spec
  obtain ⟨sl, hsl⟩ := hs
  obtain ⟨i, j, hij, hj, heq⟩ := php 8 sl (fun i hi => by have := (hsl i (by omega)).1; omega)
  obtain ⟨-, Ai⟩ := hsl i (by omega)
  obtain ⟨-, Aj⟩ := hsl j (by omega)
  rw [heq] at Ai
  exact Aj.some (hp i j (by omega) (by omega) (by omega)) Ai.dots
/-- v is across zs - 1 rows, in zs coordinates -/
def RAX (n zs : Nat) (W : Nat → Nat → Int) (v : Nat → Int) : Prop := (zs = 4 ∧ ∃ a b c, a < b ∧ b < c ∧ c < n ∧ AX (W a) (W b) (W c) v) ∨ (zs = 3 ∧ ∃ a b, a < b ∧ b < n ∧ AX (W a) (W b) (un 3) v) ∨ (zs = 2 ∧ ∃ a, a < n ∧ AX (W a) (un 2) (un 3) v)
theorem T12 {n N zs : Nat} {W V : Nat → Nat → Int} (hn : n ≤ 8) (hW : ∀ k, k < n → ∀ i, i < 4 → (W k i).natAbs ≤ 5) (hV : ∀ j, j < N → ∀ i, i < 4 → (V j i).natAbs ≤ 750) (hc : ∀ k, k < n → ∀ j, j < N → 0 ≤ dot4 (W k) (V j))
    (hr : ∀ j, j < N → RAX n zs W (V j)) (hp : ∀ j k, j < N → k < N → ¬ j = k → NP (V j) (V k)) : N ≤ 12 := by
  by_cases h4 : zs = 4
  · refine T4 hn hW hV hc (fun j hj => ?_) hp
    rcases hr j hj with h | h | h
    · exact h.2
    · omega
    · omega
  · by_cases h3 : zs = 3
    · refine Nat.le_trans (T3r hn hc (fun j hj => ?_) hp) (by decide)
      rcases hr j hj with h | h | h
      · omega
      · exact h.2
      · omega
    · refine Nat.le_trans (T2r (W := W) hn (fun j hj => ?_) hp) (by decide)
      rcases hr j hj with h | h | h
      · omega
      · omega
      · exact h.2
