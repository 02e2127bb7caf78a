/-! ===== own rows: class and reference, 09 ===== -/
-- at most twelve rays: counting
theorem php : ∀ (n : Nat) (f : Nat → Nat), (∀ i, i < n + 1 → f i < n) → ∃ i j, i < j ∧ j < n + 1 ∧ f i = f j
  | 0, f, h => absurd (h 0 (by omega)) (by omega)
  | n + 1, f, h => by
    by_cases hm : ∃ i, i < n + 1 ∧ f i = f (n + 1)
    · obtain ⟨i, h1, h2⟩ := hm
      exact ⟨i, n + 1, h1, by omega, h2⟩
    · have hne : ∀ i, i < n + 1 → ¬ f i = f (n + 1) := fun i hi z => hm ⟨i, hi, z⟩
      have hl := h (n + 1) (by omega)
      obtain ⟨i, j, h1, h2, h3⟩ := php n (fun i => if f (n + 1) < f i then f i - 1 else f i) (fun i hi => by
        have a := h i (by omega)
        have b := hne i hi
        show (if f (n + 1) < f i then f i - 1 else f i) < n
        by_cases e : f (n + 1) < f i
        · rw [if_pos e]; omega
        · rw [if_neg e]; omega)
      refine ⟨i, j, h1, by omega, ?_⟩
      have a := hne i (by omega)
      have b := hne j (by omega)
      have h3 : (if f (n + 1) < f i then f i - 1 else f i) = (if f (n + 1) < f j then f j - 1 else f j) := h3
      split at h3 <;> split at h3 <;> omega
theorem pos3 {p q r M : Int} (hM : 1 ≤ M) (hp : 0 ≤ p) (hq : 0 ≤ q) (hr : 0 ≤ r) (h : ¬ (p = 0 ∧ q = 0 ∧ r = 0)) : 0 < p + M * (q + M * r) := by
  have h1 : r ≤ M * r := by
    have := Int.mul_le_mul_of_nonneg_right hM hr
    omega
  have h2 : q + M * r ≤ M * (q + M * r) := by
    have := Int.mul_le_mul_of_nonneg_right (c := q + M * r) hM (by omega)
    omega
  omega
theorem two_pos {p q A B : Int} (hp : 0 ≤ p) (hq : 0 ≤ q) (h : ¬ (p = 0 ∧ q = 0)) (hA : 0 < A) (hB : 0 < B) : 0 < p * A + q * B := by
  have h1 := Int.mul_nonneg hp (Int.le_of_lt hA)
  have h2 := Int.mul_nonneg hq (Int.le_of_lt hB)
  by_cases e : p = 0
  · have : 0 < q * B := Int.mul_pos (by omega) hB
    omega
  · have : 0 < p * A := Int.mul_pos (by omega) hA
    omega
theorem two_neg {p q A B : Int} (hp : 0 ≤ p) (hq : 0 ≤ q) (h : ¬ (p = 0 ∧ q = 0)) (hA : A < 0) (hB : B < 0) : p * A + q * B < 0 := by
  have := two_pos hp hq h (A := -A) (B := -B) (by omega) (by omega)
  rw [Int.mul_neg, Int.mul_neg] at this
  omega
theorem sgn_pos {D S X : Int} (hD : 0 < D) (e : D * S = X) (hX : 0 < X) : 0 < S := by
  rcases Int.lt_or_le 0 S with h | h
  · exact h
  · have := Int.mul_nonneg (Int.le_of_lt hD) (show 0 ≤ -S by omega)
    rw [Int.mul_neg] at this
    omega
theorem sgn_neg {D S X : Int} (hD : 0 < D) (e : D * S = X) (hX : X < 0) : S < 0 := by
  have := sgn_pos (D := D) (S := -S) (X := -X) hD (by rw [Int.mul_neg, e]) (by omega)
  omega
/-- v is the first or the last on one of its three rows -/
theorem side3 {N : Nat} {p q r S : Nat → Int} {D A B C : Int} {j : Nat} (hD : 0 < D) (hA : ¬ A = 0) (hB : ¬ B = 0) (hC : ¬ C = 0) (e : ∀ u, u < N → D * S u = p u * A + q u * B + r u * C) (hp : ∀ u, u < N → 0 ≤ p u) (hq : ∀ u, u < N → 0 ≤ q u) (hr : ∀ u, u < N → 0 ≤ r u) (hn : ∀ u, u < N → ¬ u = j → ¬ (p u = 0 ∧ q u = 0 ∧ r u = 0)) :
    ((∀ u, u < N → ¬ u = j → p u = 0 → 0 < S u) ∨ (∀ u, u < N → ¬ u = j → p u = 0 → S u < 0)) ∨ ((∀ u, u < N → ¬ u = j → q u = 0 → 0 < S u) ∨ (∀ u, u < N → ¬ u = j → q u = 0 → S u < 0)) ∨ ((∀ u, u < N → ¬ u = j → r u = 0 → 0 < S u) ∨ (∀ u, u < N → ¬ u = j → r u = 0 → S u < 0)) := by
  have P : ∀ u, u < N → ¬ u = j → p u = 0 → D * S u = q u * B + r u * C ∧ ¬ (q u = 0 ∧ r u = 0) := fun u hu hj hz => ⟨by rw [e u hu, hz]; omega, fun w => hn u hu hj ⟨hz, w.1, w.2⟩⟩
  have Q : ∀ u, u < N → ¬ u = j → q u = 0 → D * S u = p u * A + r u * C ∧ ¬ (p u = 0 ∧ r u = 0) := fun u hu hj hz => ⟨by rw [e u hu, hz]; omega, fun w => hn u hu hj ⟨w.1, hz, w.2⟩⟩
  have R : ∀ u, u < N → ¬ u = j → r u = 0 → D * S u = p u * A + q u * B ∧ ¬ (p u = 0 ∧ q u = 0) := fun u hu hj hz => ⟨by rw [e u hu, hz]; omega, fun w => hn u hu hj ⟨w.1, w.2, hz⟩⟩
  rcases Int.lt_or_lt_of_ne hA with a | a <;> rcases Int.lt_or_lt_of_ne hB with b | b
  · exact Or.inr (Or.inr (Or.inr (fun u hu hj hz => sgn_neg hD (R u hu hj hz).1 (two_neg (hp u hu) (hq u hu) (R u hu hj hz).2 a b))))
  · rcases Int.lt_or_lt_of_ne hC with c | c
    · exact Or.inr (Or.inl (Or.inr (fun u hu hj hz => sgn_neg hD (Q u hu hj hz).1 (two_neg (hp u hu) (hr u hu) (Q u hu hj hz).2 a c))))
    · exact Or.inl (Or.inl (fun u hu hj hz => sgn_pos hD (P u hu hj hz).1 (two_pos (hq u hu) (hr u hu) (P u hu hj hz).2 b c)))
  · rcases Int.lt_or_lt_of_ne hC with c | c
    · exact Or.inl (Or.inr (fun u hu hj hz => sgn_neg hD (P u hu hj hz).1 (two_neg (hq u hu) (hr u hu) (P u hu hj hz).2 b c)))
    · exact Or.inr (Or.inl (Or.inl (fun u hu hj hz => sgn_pos hD (Q u hu hj hz).1 (two_pos (hp u hu) (hr u hu) (Q u hu hj hz).2 a c))))
  · exact Or.inr (Or.inr (Or.inl (fun u hu hj hz => sgn_pos hD (R u hu hj hz).1 (two_pos (hp u hu) (hq u hu) (R u hu hj hz).2 a b))))
theorem crs_le {a b c : Nat → Int} {A B C i : Nat} (hi : i < 4) (ha : ∀ i, i < 4 → (a i).natAbs ≤ A) (hb : ∀ i, i < 4 → (b i).natAbs ≤ B) (hc : ∀ i, i < 4 → (c i).natAbs ≤ C) : (crs a b c i).natAbs ≤ 6 * (A * (B * C)) := by
  have m : ∀ x y z w, x < 4 → y < 4 → z < 4 → w < 4 → (b x * c y - b z * c w).natAbs ≤ 2 * (B * C) := fun x y z w hx hy hz hw => by
    have h1 := abs_mul (hb x hx) (hc y hy)
    have h2 := abs_mul (hb z hz) (hc w hw)
    omega
  have t : ∀ l x y z w, l < 4 → x < 4 → y < 4 → z < 4 → w < 4 → (a l * (b x * c y - b z * c w)).natAbs ≤ 2 * (A * (B * C)) := fun l x y z w hl hx hy hz hw => by
    have h1 := abs_mul (ha l hl) (m x y z w hx hy hz hw)
    rw [show A * (2 * (B * C)) = 2 * (A * (B * C)) by rw [Nat.mul_left_comm]] at h1
    exact h1
  have d : ∀ n, n < 4 → n < 4 := fun _ h => h
  rcases (show i = 0 ∨ i = 1 ∨ i = 2 ∨ i = 3 by omega) with rfl | rfl | rfl | rfl
  · have h1 := t 1 2 3 3 2 (by decide) (by decide) (by decide) (by decide) (by decide)
    have h2 := t 2 1 3 3 1 (by decide) (by decide) (by decide) (by decide) (by decide)
    have h3 := t 3 1 2 2 1 (by decide) (by decide) (by decide) (by decide) (by decide)
    simp only [crs]; omega
  · have h1 := t 0 2 3 3 2 (by decide) (by decide) (by decide) (by decide) (by decide)
    have h2 := t 2 0 3 3 0 (by decide) (by decide) (by decide) (by decide) (by decide)
    have h3 := t 3 0 2 2 0 (by decide) (by decide) (by decide) (by decide) (by decide)
    simp only [crs]; omega
  · have h1 := t 0 1 3 3 1 (by decide) (by decide) (by decide) (by decide) (by decide)
    have h2 := t 1 0 3 3 0 (by decide) (by decide) (by decide) (by decide) (by decide)
    have h3 := t 3 0 1 1 0 (by decide) (by decide) (by decide) (by decide) (by decide)
    simp only [crs]; omega
  · have h1 := t 0 1 2 2 1 (by decide) (by decide) (by decide) (by decide) (by decide)
    have h2 := t 1 0 2 2 0 (by decide) (by decide) (by decide) (by decide) (by decide)
    have h3 := t 2 0 1 1 0 (by decide) (by decide) (by decide) (by decide) (by decide)
    simp only [crs]; omega
theorem dot4_le {a b : Nat → Int} {A B : Nat} (ha : ∀ i, i < 4 → (a i).natAbs ≤ A) (hb : ∀ i, i < 4 → (b i).natAbs ≤ B) : (dot4 a b).natAbs ≤ 4 * (A * B) := by
  have h := fun i hi => abs_mul (ha i hi) (hb i hi)
  have h0 := h 0 (by decide); have h1 := h 1 (by decide); have h2 := h 2 (by decide); have h3 := h 3 (by decide)
  unfold dot4; omega
theorem dig_le {l m x v : Nat → Int} (hl : ∀ i, i < 4 → (l i).natAbs ≤ 5) (hm : ∀ i, i < 4 → (m i).natAbs ≤ 5) (hx : ∀ i, i < 4 → (x i).natAbs ≤ 112500) (hv : ∀ i, i < 4 → (v i).natAbs ≤ 750) : (dot4 l x * dot4 m v - dot4 l v * dot4 m x).natAbs < (100000000000 : Int).natAbs := by
  have h1 := abs_mul (dot4_le hl hx) (dot4_le hm hv)
  have h2 := abs_mul (dot4_le hl hv) (dot4_le hm hx)
  have e : (100000000000 : Int).natAbs = 100000000000 := by decide
  omega
theorem crs_1 (a b c v : Nat → Int) : dot4 a (crs b c v) = -dot4 (crs a b c) v := by unfold dot4; simp only [crs]; grind
theorem crs_2 (a b c v : Nat → Int) : dot4 b (crs a c v) = dot4 (crs a b c) v := by unfold dot4; simp only [crs]; grind
theorem crs_3 (a b c v : Nat → Int) : dot4 c (crs a b v) = -dot4 (crs a b c) v := by unfold dot4; simp only [crs]; grind
theorem T4 {n N : Nat} {W V : Nat → Nat → Int} (hn : n ≤ 8) (hW : ∀ k, k < n → ∀ i, i < 4 → (W k i).natAbs ≤ 5) (hV : ∀ j, j < N → ∀ i, i < 4 → (V j i).natAbs ≤ 750) (hc : ∀ k, k < n → ∀ j, j < N → 0 ≤ dot4 (W k) (V j))
    (hr : ∀ j, j < N → ∃ a b c, a < b ∧ b < c ∧ c < n ∧ AX (W a) (W b) (W c) (V j)) (hp : ∀ j k, j < N → k < N → ¬ j = k → NP (V j) (V k)) : N ≤ 12 := by
  refine Classical.byContradiction (fun hN => ?_)
  obtain ⟨a, b, c, hab, hbc, hcn, A0⟩ := hr 0 (by omega)
  obtain ⟨d, e, f, hde, hef, hfn, A1⟩ := hr 1 (by omega)
  have hM : (1 : Int) ≤ 100000000000 := by decide
  have hM3 : (1 : Int) ≤ 100000000000 * 100000000000 * 100000000000 := by decide
  generalize hfe : swp3 100000000000 (W a) (W b) (W c) = F
  generalize hpe : swp3 (100000000000 * 100000000000 * 100000000000) (W d) (W e) (W f) = P
  have F0 : dot4 F (V 0) = 0 := by
    obtain ⟨z1, z2, z3⟩ := A0.dots
    rw [← hfe, swp3_dot, z1, z2, z3]; rfl
  have P1 : dot4 P (V 1) = 0 := by
    obtain ⟨z1, z2, z3⟩ := A1.dots
    rw [← hpe, swp3_dot, z1, z2, z3]; rfl
  have Fp : ∀ j, j < N → ¬ j = 0 → 0 < dot4 F (V j) := fun j hj h0 => by
    rw [← hfe, swp3_dot]
    exact pos3 hM (hc a (by omega) j hj) (hc b (by omega) j hj) (hc c (by omega) j hj) (A0.some (hp j 0 hj (by omega) h0))
  have Pp : ∀ j, j < N → ¬ j = 1 → 0 < dot4 P (V j) := fun j hj h0 => by
    rw [← hpe, swp3_dot]
    exact pos3 hM3 (hc d (by omega) j hj) (hc e (by omega) j hj) (hc f (by omega) j hj) (A1.some (hp j 1 hj (by omega) h0))
  -- who is first, who is last on a row
  let FS : Nat → Nat → Prop := fun k j => ∀ u, u < N → ¬ u = j → dot4 (W k) (V u) = 0 → 0 < swS F P (V u) (V j)
  let LS : Nat → Nat → Prop := fun k j => ∀ u, u < N → ¬ u = j → dot4 (W k) (V u) = 0 → swS F P (V u) (V j) < 0
  let O : Nat → Nat → Prop := fun s j => (s < 8 ∧ dot4 (W s) (V j) = 0 ∧ FS s j) ∨ (8 ≤ s ∧ s < 16 ∧ dot4 (W (s - 8)) (V j) = 0 ∧ LS (s - 8) j)
  have own : ∀ s j k, j < N → k < N → O s j → O s k → j = k := by
    intro s j k hj hk h1 h2
    refine Classical.byContradiction (fun ne => ?_)
    rcases h1 with ⟨s1, t1, o1⟩ | ⟨s1, -, t1, o1⟩ <;> rcases h2 with ⟨s2, t2, o2⟩ | ⟨s2, -, t2, o2⟩
    · have x1 := o1 k hk (fun z => ne z.symm) t2
      have x2 := o2 j hj ne t1
      rw [swS_anti] at x1
      omega
    · omega
    · omega
    · have x1 := o1 k hk (fun z => ne z.symm) t2
      have x2 := o2 j hj ne t1
      rw [swS_anti] at x1
      omega
  have O0 : ∀ k, k < n → dot4 (W k) (V 0) = 0 → O k 0 := fun k hk hz => Or.inl ⟨by omega, hz, fun u hu h0 _ => by
    show 0 < dot4 F (V u) * dot4 P (V 0) - dot4 F (V 0) * dot4 P (V u)
    rw [F0, Int.zero_mul, Int.sub_zero]
    exact Int.mul_pos (Fp u hu h0) (Pp 0 (by omega) (by omega))⟩
  have O1 : ∀ k, k < n → dot4 (W k) (V 1) = 0 → O (8 + k) 1 := fun k hk hz => by
    have e8 : 8 + k - 8 = k := by omega
    refine Or.inr ⟨by omega, by omega, by rw [e8]; exact hz, ?_⟩
    rw [e8]
    intro u hu h0 _
    show dot4 F (V u) * dot4 P (V 1) - dot4 F (V 1) * dot4 P (V u) < 0
    rw [P1, Int.mul_zero]
    have := Int.mul_pos (Fp 1 (by omega) (by omega)) (Pp u hu h0)
    omega
  have Oj : ∀ j, 2 ≤ j → j < N → ∃ s, s < 16 ∧ O s j := by
    intro j h2 hj
    obtain ⟨k, l, m, hkl, hlm, hmn, A⟩ := hr j hj
    obtain ⟨zk, zl, zm⟩ := A.dots
    have hDne : ¬ dot4 (crs (W k) (W l) (W m)) (V j) = 0 := by
      obtain ⟨g, hg, e9⟩ := A.1
      rw [dot4_comm, ← dot4_smul (l := V j) e9]
      intro z
      have := dot4_pos A.2
      rcases Int.mul_eq_zero.mp z with z | z
      · exact hg z
      · omega
    have gen : ∀ (p q t : Nat), p < n → q < n → t < n → dot4 (W t) (V j) = 0 → ¬ dot4 (W t) (crs (W p) (W q) (V j)) = 0 → ¬ swS F P (crs (W p) (W q) (V j)) (V j) = 0 := by
      intro p q t hp9 hq9 ht9 h1 h3
      rw [← hfe, ← hpe]
      refine swS_ne (t := W t) A0 A1 (hp 0 1 (by omega) (by omega) (by omega)) (hp j 0 hj (by omega) (by omega)) (hp j 1 hj (by omega) (by omega)) h1 h3 (fun x hx y hy => ?_)
      have hx5 : ∀ i, i < 4 → (x i).natAbs ≤ 5 := by
        simp only [List.mem_cons, List.not_mem_nil, or_false] at hx
        rcases hx with rfl | rfl | rfl
        · exact hW a (by omega)
        · exact hW b (by omega)
        · exact hW c (by omega)
      have hy5 : ∀ i, i < 4 → (y i).natAbs ≤ 5 := by
        simp only [List.mem_cons, List.not_mem_nil, or_false] at hy
        rcases hy with rfl | rfl | rfl
        · exact hW d (by omega)
        · exact hW e (by omega)
        · exact hW f (by omega)
      exact dig_le hx5 hy5 (fun i hi => Nat.le_trans (crs_le hi (hW p hp9) (hW q hq9) (hV j hj)) (by decide)) (hV j hj)
    generalize hDe : dot4 (crs (W k) (W l) (W m)) (V j) = D at hDne
    have g1 := gen l m k (by omega) (by omega) (by omega) zk (by rw [crs_1, hDe]; omega)
    have g2 := gen k m l (by omega) (by omega) (by omega) zl (by rw [crs_2, hDe]; omega)
    have g3 := gen k l m (by omega) (by omega) (by omega) zm (by rw [crs_3, hDe]; omega)
    have nz : ∀ x, ¬ x = 0 → ¬ D * x = 0 := fun x hx z => by
      rcases Int.mul_eq_zero.mp z with z | z
      · exact hDne z
      · exact hx z
    have D2 : 0 < D * D := by
      have := sq_nn D
      have := nz D hDne
      omega
    have sd := side3 (N := N) (j := j) (p := fun u => dot4 (W k) (V u)) (q := fun u => dot4 (W l) (V u)) (r := fun u => dot4 (W m) (V u)) (S := fun u => swS F P (V u) (V j)) (D := D * D) (A := -(D * swS F P (crs (W l) (W m) (V j)) (V j))) (B := D * swS F P (crs (W k) (W m) (V j)) (V j)) (C := -(D * swS F P (crs (W k) (W l) (V j)) (V j))) D2 (by have := nz _ g1; omega) (nz _ g2) (by have := nz _ g3; omega)
      (fun u hu => by
        have := swS_dual (f := F) (p := P) A (V u)
        rw [hDe] at this
        show D * D * swS F P (V u) (V j) = _
        rw [Int.mul_assoc, this]; grind)
      (fun u hu => hc k (by omega) u hu) (fun u hu => hc l (by omega) u hu) (fun u hu => hc m (by omega) u hu) (fun u hu hne => A.some (hp u j hu hj hne))
    have fin1 : ∀ t, t < n → dot4 (W t) (V j) = 0 → ((∀ u, u < N → ¬ u = j → dot4 (W t) (V u) = 0 → 0 < swS F P (V u) (V j)) ∨ (∀ u, u < N → ¬ u = j → dot4 (W t) (V u) = 0 → swS F P (V u) (V j) < 0)) → ∃ s, s < 16 ∧ O s j := by
      intro t ht hz h
      rcases h with h | h
      · exact ⟨t, by omega, Or.inl ⟨by omega, hz, h⟩⟩
      · refine ⟨8 + t, by omega, Or.inr ⟨by omega, by omega, ?_⟩⟩
        rw [show 8 + t - 8 = t by omega]
        exact ⟨hz, h⟩
    rcases sd with h | h | h
    · exact fin1 k (by omega) zk h
    · exact fin1 l (by omega) zl h
    · exact fin1 m (by omega) zm h
  -- seventeen things in sixteen places
  have hs : ∃ sl : Nat → Nat, ∀ j, 2 ≤ j → j < N → sl j < 16 ∧ O (sl j) j := by
    refine ⟨fun j => if h : 2 ≤ j ∧ j < N then (Oj j h.1 h.2).choose else 0, fun j h1 h2 => ?_⟩
    show (if h : 2 ≤ j ∧ j < N then (Oj j h.1 h.2).choose else 0) < 16 ∧ O (if h : 2 ≤ j ∧ j < N then (Oj j h.1 h.2).choose else 0) j
    rw [dif_pos ⟨h1, h2⟩]
    exact (Oj j h1 h2).choose_spec
  obtain ⟨sl, hsl⟩ := hs
  obtain ⟨za, zb, zc⟩ := A0.dots
  obtain ⟨zd, ze, zf⟩ := A1.dots
  let it : Nat → Nat := fun i => if i = 0 then a else if i = 1 then b else if i = 2 then c else if i = 3 then 8 + d else if i = 4 then 8 + e else if i = 5 then 8 + f else sl (i - 4)
  let ow : Nat → Nat := fun i => if i < 3 then 0 else if i < 6 then 1 else i - 4
  have itO : ∀ i, i < 17 → it i < 16 ∧ ow i < N ∧ O (it i) (ow i) := by
    intro i hi
    rcases (show i = 0 ∨ i = 1 ∨ i = 2 ∨ i = 3 ∨ i = 4 ∨ i = 5 ∨ 6 ≤ i by omega) with rfl | rfl | rfl | rfl | rfl | rfl | h6
    · exact ⟨show a < 16 by omega, show 0 < N by omega, O0 a (by omega) za⟩
    · exact ⟨show b < 16 by omega, show 0 < N by omega, O0 b (by omega) zb⟩
    · exact ⟨show c < 16 by omega, show 0 < N by omega, O0 c (by omega) zc⟩
    · exact ⟨show 8 + d < 16 by omega, show 1 < N by omega, O1 d (by omega) zd⟩
    · exact ⟨show 8 + e < 16 by omega, show 1 < N by omega, O1 e (by omega) ze⟩
    · exact ⟨show 8 + f < 16 by omega, show 1 < N by omega, O1 f (by omega) zf⟩
    · have e1 : it i = sl (i - 4) := by
        show (if i = 0 then a else if i = 1 then b else if i = 2 then c else if i = 3 then 8 + d else if i = 4 then 8 + e else if i = 5 then 8 + f else sl (i - 4)) = _
        rw [if_neg (by omega), if_neg (by omega), if_neg (by omega), if_neg (by omega), if_neg (by omega), if_neg (by omega)]
      have e2 : ow i = i - 4 := by
        show (if i < 3 then 0 else if i < 6 then 1 else i - 4) = _
        rw [if_neg (by omega), if_neg (by omega)]
      rw [e1, e2]
      have := hsl (i - 4) (by omega) (by omega)
      exact ⟨this.1, by omega, this.2⟩
  obtain ⟨i, j, hij, hj, heq⟩ := php 16 it (fun i hi => (itO i hi).1)
  obtain ⟨-, i2, i3⟩ := itO i (by omega)
  obtain ⟨-, j2, j3⟩ := itO j hj
  rw [heq] at i3
  have ho := own (it j) (ow i) (ow j) i2 j2 i3 j3
  have ho : (if i < 3 then 0 else if i < 6 then 1 else i - 4) = (if j < 3 then 0 else if j < 6 then 1 else j - 4) := ho
  have heq : (if i = 0 then a else if i = 1 then b else if i = 2 then c else if i = 3 then 8 + d else if i = 4 then 8 + e else if i = 5 then 8 + f else sl (i - 4)) = (if j = 0 then a else if j = 1 then b else if j = 2 then c else if j = 3 then 8 + d else if j = 4 then 8 + e else if j = 5 then 8 + f else sl (j - 4)) := heq
  have h6 : j < 6 := Classical.byContradiction (fun z => by
    rw [if_neg (show ¬ j < 3 by omega), if_neg (show ¬ j < 6 by omega)] at ho
    split at ho
    · omega
    · split at ho <;> omega)
  rcases (show (i = 0 ∧ j = 1) ∨ (i = 0 ∧ j = 2) ∨ (i = 1 ∧ j = 2) ∨ (i = 3 ∧ j = 4) ∨ (i = 3 ∧ j = 5) ∨ (i = 4 ∧ j = 5) ∨ (i < 3 ∧ 3 ≤ j) by omega) with ⟨rfl, rfl⟩ | ⟨rfl, rfl⟩ | ⟨rfl, rfl⟩ | ⟨rfl, rfl⟩ | ⟨rfl, rfl⟩ | ⟨rfl, rfl⟩ | ⟨h7, h8⟩
  · simp at heq; omega
  · simp at heq; omega
  · simp at heq; omega
  · simp at heq; omega
  · simp at heq; omega
  · simp at heq; omega
  · rw [if_pos h7, if_neg (by omega), if_pos h6] at ho; omega
