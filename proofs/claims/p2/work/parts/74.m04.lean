/-! ===== own rows: mathematics of the reference, 04 ===== -/
-- determinants stay small
theorem divle {x b : Int64} (hx : ¬ x.toInt = -2 ^ 63) : (x / b).toInt.natAbs ≤ x.toInt.natAbs := by
  have h1 := x.toInt_lt
  have h2 := x.le_toInt
  have h3 : (x.toInt.tdiv b.toInt).natAbs ≤ x.toInt.natAbs := by rw [Int.natAbs_tdiv]; exact Nat.div_le_self _ _
  rw [Int64.toInt_div]
  have : (x.toInt.tdiv b.toInt).bmod (2 ^ 64) = x.toInt.tdiv b.toInt := by apply Int.bmod_eq_of_le <;> omega
  rw [this]; exact h3
theorem brd_le {n k c B : Nat} {bf : Int64} (hk : k < n) (hc : c < k) (hB : B * B + B * B < 2 ^ 63) (hB1 : 1 ≤ B) : ∀ (u : Nat) (f : Nat → Int64), u ≤ n → (∀ j, j < n * n → (f j).toInt.natAbs ≤ B * B + B * B) → (∀ i, i < n → (f (n * c + i)).toInt.natAbs ≤ B) → (∀ i, i < u → (f (n * k + i)).toInt.natAbs ≤ B) →
    ∀ j, j < n * n → (brd n k c bf u f j).toInt.natAbs ≤ B * B + B * B
  | 0, f, _, h1, _, _ => h1
  | u + 1, f, hu, h1, h2, h3 => by
    intro j hj
    have hm : n * (c + 1) ≤ n * k := Nat.mul_le_mul (Nat.le_refl n) hc
    rw [Nat.mul_succ] at hm
    by_cases e : u < c
    · have e1 : brd n k c bf (u + 1) f = f := by show (if u < c then f else _) = _; rw [if_pos e]
      rw [e1]; exact h1 j hj
    · have e1 : brd n k c bf (u + 1) f = brd n k c bf u (vp_updL f (n * k + u) ((f (n * k + u) * f (n * c + c) - f (n * c + u) * f (n * k + c)) / bf)) := by show (if u < c then f else _) = _; rw [if_neg e]
      rw [e1]
      have hv : ((f (n * k + u) * f (n * c + c) - f (n * c + u) * f (n * k + c)) / bf).toInt.natAbs ≤ B * B + B * B := by
        obtain ⟨a1, a2⟩ := mul64 (h3 u (by omega)) (h2 c (by omega)) (by omega)
        obtain ⟨b1, b2⟩ := mul64 (h2 u (by omega)) (h3 c (by omega)) (by omega)
        obtain ⟨c1, c2⟩ := sub64 a2 b2 hB
        exact Nat.le_trans (divle (by omega)) c2
      refine brd_le hk hc hB hB1 u _ (by omega) (fun q hq => ?_) (fun i hi => ?_) (fun i hi => ?_) j hj
      · by_cases e2 : q = n * k + u
        · subst e2; rw [updL_eq]; exact hv
        · rw [updL_ne e2]; exact h1 q hq
      · rw [updL_ne (by omega)]; exact h2 i hi
      · rw [updL_ne (by omega)]; exact h3 i (by omega)
theorem brd_up {n k c j : Nat} {bf : Int64} (hj : n * (k + 1) ≤ j) : ∀ (u : Nat) (f : Nat → Int64), u ≤ n → brd n k c bf u f j = f j
  | 0, _, _ => rfl
  | u + 1, f, hu => by
    rw [Nat.mul_succ] at hj
    show (if u < c then f else _) j = _
    by_cases h : u < c
    · rw [if_pos h]
    · rw [if_neg h, brd_up (by rw [Nat.mul_succ]; exact hj) u _ (by omega), updL_ne (by omega)]
theorem brk_le {n c B : Nat} {bf : Int64} {f : Nat → Int64} (hB : B * B + B * B < 2 ^ 63) (hB1 : 1 ≤ B) (h1 : ∀ j, j < n * n → (f j).toInt.natAbs ≤ B) : ∀ (m : Nat), c + 1 + m ≤ n → (∀ j, j < n * n → (brk n c bf m f j).toInt.natAbs ≤ B * B + B * B) ∧ (∀ j, n * (c + 1 + m) ≤ j → brk n c bf m f j = f j) ∧ (∀ j, j < n * (c + 1) → brk n c bf m f j = f j)
  | 0, _ => ⟨fun j hj => Nat.le_trans (h1 j hj) (Nat.le_trans (Nat.le_mul_of_pos_left B hB1) (Nat.le_add_right _ _)), fun _ _ => rfl, fun _ _ => rfl⟩
  | m + 1, hm => by
    obtain ⟨a1, a2, a3⟩ := brk_le (c := c) (bf := bf) hB hB1 h1 m (by omega)
    have q1 : n * (c + 1) ≤ n * n := Nat.mul_le_mul (Nat.le_refl n) (by omega)
    have q2 : n * (c + 1 + m + 1) ≤ n * n := Nat.mul_le_mul (Nat.le_refl n) (by omega)
    have q3 : n * (c + 1) ≤ n * (c + 1 + m) := Nat.mul_le_mul (Nat.le_refl n) (by omega)
    rw [Nat.mul_succ n (c + 1 + m)] at q2
    rw [Nat.mul_succ] at q1 q3
    refine ⟨fun j hj => ?_, fun j hj => ?_, fun j hj => ?_⟩
    · show (brd n (c + 1 + m) c bf n (brk n c bf m f) j).toInt.natAbs ≤ _
      refine brd_le (k := c + 1 + m) (c := c) (by omega) (by omega) hB hB1 n _ (Nat.le_refl n) a1 (fun i hi => ?_) (fun i hi => ?_) j hj
      · rw [a3 _ (by rw [Nat.mul_succ]; omega)]; exact h1 _ (by omega)
      · rw [a2 _ (by omega)]; exact h1 _ (by omega)
    · show brd n (c + 1 + m) c bf n (brk n c bf m f) j = _
      rw [brd_up (by exact hj) n _ (Nat.le_refl n)]
      have : n * (c + 1 + m) ≤ n * (c + 1 + (m + 1)) := Nat.mul_le_mul (Nat.le_refl n) (by omega)
      exact a2 j (by omega)
    · show brd n (c + 1 + m) c bf n (brk n c bf m f) j = _
      rw [Nat.mul_succ] at hj
      rw [brd_o (by omega) n, a3 j (by rw [Nat.mul_succ]; exact hj)]
theorem sw2_le {n p c B : Nat} {f : Nat → Int64} (hp : p < n) (hc : c < n) (h1 : ∀ j, j < n * n → (f j).toInt.natAbs ≤ B) : ∀ (i : Nat), i ≤ n → ∀ j, j < n * n → (sw2 n p c i f j).toInt.natAbs ≤ B
  | 0, _ => h1
  | i + 1, hi => by
    intro j hj
    have ih := sw2_le hp hc h1 i (by omega)
    have q1 : n * (p + 1) ≤ n * n := Nat.mul_le_mul (Nat.le_refl n) hp
    have q2 : n * (c + 1) ≤ n * n := Nat.mul_le_mul (Nat.le_refl n) hc
    rw [Nat.mul_succ] at q1 q2
    show (vp_updL (vp_updL (sw2 n p c i f) (n * p + i) (sw2 n p c i f (n * c + i))) (n * c + i) (sw2 n p c i f (n * p + i)) j).toInt.natAbs ≤ _
    by_cases e1 : j = n * c + i
    · subst e1; rw [updL_eq]; exact ih _ (by omega)
    · rw [updL_ne e1]
      by_cases e2 : j = n * p + i
      · subst e2; rw [updL_eq]; exact ih _ (by omega)
      · rw [updL_ne e2]; exact ih j hj
theorem pv2_spec {f : Nat → Int64} {n c : Nat} : ∀ (m p : Nat), p + m = n → pv2 f n c m p = n ∨ (p ≤ pv2 f n c m p ∧ pv2 f n c m p < n ∧ ¬ f (n * pv2 f n c m p + c) = 0)
  | 0, p, h => Or.inl (by show p = n; omega)
  | m + 1, p, h => by
    by_cases e : f (n * p + c) = 0
    · have e1 : pv2 f n c (m + 1) p = pv2 f n c m (p + 1) := by show (if f (n * p + c) = 0 then _ else _) = _; rw [if_pos e]
      rw [e1]
      rcases pv2_spec (f := f) (n := n) (c := c) m (p + 1) (by omega) with a | ⟨a, b, d⟩
      · exact Or.inl a
      · exact Or.inr ⟨by omega, b, d⟩
    · have e1 : pv2 f n c (m + 1) p = p := by show (if f (n * p + c) = 0 then _ else _) = _; rw [if_neg e]
      rw [e1]
      exact Or.inr ⟨Nat.le_refl p, by omega, e⟩
theorem Bd_1 (c : Nat) : 1 ≤ Bd c := by unfold Bd; split; decide; split; decide; split; decide; split <;> decide
theorem Bd_mono {a b : Nat} (h : a ≤ b) (hb : b ≤ 4) : Bd a ≤ Bd b := by
  rcases (show a = 0 ∨ a = 1 ∨ a = 2 ∨ a = 3 ∨ a = 4 by omega) with rfl | rfl | rfl | rfl | rfl <;> rcases (show b = 0 ∨ b = 1 ∨ b = 2 ∨ b = 3 ∨ b = 4 by omega) with rfl | rfl | rfl | rfl | rfl <;> first | decide | omega
theorem sgn_le {sg : Int32} {bf : Int64} {B : Nat} (hs : sg = 1 ∨ sg = -1) (hb : bf.toInt.natAbs ≤ B) (hB : B < 2 ^ 63) : (sg.toInt64 * bf).toInt.natAbs ≤ B := by
  have h : sg.toInt64.toInt.natAbs ≤ 1 := by rcases hs with rfl | rfl <;> decide
  have := (mul64 h hb (by omega)).2
  omega
theorem wth_le {n : Nat} (hn : n ≤ 4) : ∀ (m c : Nat) (f : Nat → Int64) (bf : Int64) (sg : Int32), c + m = n → (∀ j, j < n * n → (f j).toInt.natAbs ≤ Bd c) → bf.toInt.natAbs ≤ Bd (n - 1) → (sg = 1 ∨ sg = -1) → (wth n m c f bf sg).1.toInt.natAbs ≤ Bd (n - 1)
  | 0, c, f, bf, sg, hm, hf, hb, hs => by
    show (sg.toInt64 * bf).toInt.natAbs ≤ _
    refine sgn_le hs hb ?_
    have := Bd_mono (a := n - 1) (b := 4) (by omega) (Nat.le_refl 4)
    have h4 : Bd 4 < 2 ^ 63 := by decide
    omega
  | m + 1, c, f, bf, sg, hm, hf, hb, hs => by
    obtain ⟨b1, b2, b3⟩ := Bd_s (c := c) (by omega)
    have hns : -sg = 1 ∨ -sg = -1 := by rcases hs with rfl | rfl <;> decide
    have q2 : n * (c + 1) ≤ n * n := Nat.mul_le_mul (Nat.le_refl n) (by omega)
    rw [Nat.mul_succ] at q2
    have step : ∀ g : Nat → Int64, (∀ j, j < n * n → (g j).toInt.natAbs ≤ Bd c) → ∀ s2 : Int32, (s2 = 1 ∨ s2 = -1) → (wth n m (c + 1) (brk n c bf (n - (c + 1)) g) (brk n c bf (n - (c + 1)) g (n * c + c)) s2).1.toInt.natAbs ≤ Bd (n - 1) := by
      intro g hg s2 hs2
      obtain ⟨a1, -, a3⟩ := brk_le (bf := bf) (c := c) b2 (Bd_1 c) hg (n - (c + 1)) (by omega)
      refine wth_le hn m (c + 1) _ _ s2 (by omega) (fun j hj => by rw [← b1]; exact a1 j hj) ?_ hs2
      rw [a3 _ (by rw [Nat.mul_succ]; omega)]
      exact Nat.le_trans (hg _ (by omega)) (Bd_mono (by omega) (by omega))
    have e0 : wth n (m + 1) c f bf sg = if pv2 f n c (n - c) c = n then (0, f) else if pv2 f n c (n - c) c = c then wth n m (c + 1) (brk n c bf (n - (c + 1)) f) (brk n c bf (n - (c + 1)) f (n * c + c)) sg else wth n m (c + 1) (brk n c bf (n - (c + 1)) (sw2 n (pv2 f n c (n - c) c) c n f)) (brk n c bf (n - (c + 1)) (sw2 n (pv2 f n c (n - c) c) c n f) (n * c + c)) (-sg) := rfl
    rw [e0]
    rcases pv2_spec (f := f) (n := n) (c := c) (n - c) c (by omega) with a | ⟨a, b, d⟩
    · rw [if_pos a]
      show (0 : Int64).toInt.natAbs ≤ _
      exact Nat.zero_le _
    · rw [if_neg (by omega)]
      by_cases e : pv2 f n c (n - c) c = c
      · rw [if_pos e]; exact step f hf sg hs
      · rw [if_neg e]
        exact step _ (sw2_le b (by omega) hf n (Nat.le_refl n)) (-sg) hns
