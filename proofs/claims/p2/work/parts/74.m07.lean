/-! ===== own rows: mathematics of the reference, 07 ===== -/
-- determinants, exactly
/-- minors of a matrix, as the reference goes through them -/
def S1 (A : Nat → Nat → Int) (k i : Nat) : Int := A 0 0 * A k i - A 0 i * A k 0
def S2 (A : Nat → Nat → Int) (k i : Nat) : Int := A k i * (A 0 0 * A 1 1 - A 0 1 * A 1 0) - A k 1 * (A 0 0 * A 1 i - A 0 i * A 1 0) + A k 0 * (A 0 1 * A 1 i - A 0 i * A 1 1)
/-- the minor of rows 0, 1, 2 and columns a, b, c -/
def T3 (A : Nat → Nat → Int) (a b c : Nat) : Int := A 2 c * (A 0 a * A 1 b - A 0 b * A 1 a) - A 2 b * (A 0 a * A 1 c - A 0 c * A 1 a) + A 2 a * (A 0 b * A 1 c - A 0 c * A 1 b)
def S3 (A : Nat → Nat → Int) (k i : Nat) : Int := A k i * T3 A 0 1 2 - A k 2 * T3 A 0 1 i + A k 1 * T3 A 0 2 i - A k 0 * T3 A 1 2 i
theorem S2_id (A : Nat → Nat → Int) (k i : Nat) : S2 A k i * A 0 0 = S1 A k i * S1 A 1 1 - S1 A 1 i * S1 A k 1 := by
  unfold S2 S1
  grind
theorem S3_id (A : Nat → Nat → Int) (k i : Nat) : S3 A k i * S1 A 1 1 = S2 A k i * S2 A 2 2 - S2 A 2 i * S2 A k 2 := by
  unfold S3 S2 S1 T3
  grind
def Sc (c : Nat) (A : Nat → Nat → Int) (k i : Nat) : Int := if c = 0 then A k i else if c = 1 then S1 A k i else if c = 2 then S2 A k i else S3 A k i
def prv (c : Nat) (A : Nat → Nat → Int) : Int := if c = 0 then 1 else if c = 1 then A 0 0 else if c = 2 then S1 A 1 1 else if c = 3 then S2 A 2 2 else S3 A 3 3
theorem Sc_id {c : Nat} (hc : c < 3) (A : Nat → Nat → Int) (k i : Nat) : Sc (c + 1) A k i * prv c A = Sc c A k i * Sc c A c c - Sc c A c i * Sc c A k c := by
  rcases (show c = 0 ∨ c = 1 ∨ c = 2 by omega) with rfl | rfl | rfl
  · show S1 A k i * 1 = A k i * A 0 0 - A 0 i * A k 0
    unfold S1; grind
  · exact S2_id A k i
  · exact S3_id A k i
theorem prv_s {c : Nat} (hc : c < 4) (A : Nat → Nat → Int) : prv (c + 1) A = Sc c A c c := by
  rcases (show c = 0 ∨ c = 1 ∨ c = 2 ∨ c = 3 by omega) with rfl | rfl | rfl | rfl <;> rfl
def Dd (c : Nat) : Nat := if c = 0 then 750 else if c = 1 then 1125000 else if c = 2 then 2531250000 else 7593750000000
theorem abs_mul {x y : Int} {a b : Nat} (hx : x.natAbs ≤ a) (hy : y.natAbs ≤ b) : (x * y).natAbs ≤ a * b := by rw [Int.natAbs_mul]; exact Nat.mul_le_mul hx hy
theorem Sc_le {c : Nat} {A : Nat → Nat → Int} (hA : ∀ k i, k < 4 → i < 4 → (A k i).natAbs ≤ 750) {k i : Nat} (hk : k < 4) (hi : i < 4) : (Sc c A k i).natAbs ≤ Dd c := by
  have two : ∀ a b x y, a < 4 → b < 4 → x < 4 → y < 4 → ∀ a' b' x' y', a' < 4 → b' < 4 → x' < 4 → y' < 4 → (A a b * A x y - A a' b' * A x' y').natAbs ≤ 1125000 := by
    intro a b x y h1 h2 h3 h4 a' b' x' y' g1 g2 g3 g4
    have e1 := abs_mul (hA a b h1 h2) (hA x y h3 h4)
    have e2 := abs_mul (hA a' b' g1 g2) (hA x' y' g3 g4)
    omega
  have t3 : ∀ a b d, a < 4 → b < 4 → d < 4 → (T3 A a b d).natAbs ≤ 2531250000 := by
    intro a b d h1 h2 h3
    have e1 := abs_mul (hA 2 d (by decide) h3) (two 0 a 1 b (by decide) h1 (by decide) h2 0 b 1 a (by decide) h2 (by decide) h1)
    have e2 := abs_mul (hA 2 b (by decide) h2) (two 0 a 1 d (by decide) h1 (by decide) h3 0 d 1 a (by decide) h3 (by decide) h1)
    have e3 := abs_mul (hA 2 a (by decide) h1) (two 0 b 1 d (by decide) h2 (by decide) h3 0 d 1 b (by decide) h3 (by decide) h2)
    unfold T3
    omega
  unfold Sc Dd
  split
  · exact hA k i hk hi
  · split
    · exact two 0 0 k i (by decide) (by decide) hk hi 0 i k 0 (by decide) hi hk (by decide)
    · split
      · have e1 := abs_mul (hA k i hk hi) (two 0 0 1 1 (by decide) (by decide) (by decide) (by decide) 0 1 1 0 (by decide) (by decide) (by decide) (by decide))
        have e2 := abs_mul (hA k 1 hk (by decide)) (two 0 0 1 i (by decide) (by decide) (by decide) hi 0 i 1 0 (by decide) hi (by decide) (by decide))
        have e3 := abs_mul (hA k 0 hk (by decide)) (two 0 1 1 i (by decide) (by decide) (by decide) hi 0 i 1 1 (by decide) hi (by decide) (by decide))
        unfold S2
        omega
      · have e1 := abs_mul (hA k i hk hi) (t3 0 1 2 (by decide) (by decide) (by decide))
        have e2 := abs_mul (hA k 2 hk (by decide)) (t3 0 1 i (by decide) (by decide) hi)
        have e3 := abs_mul (hA k 1 hk (by decide)) (t3 0 2 i (by decide) (by decide) hi)
        have e4 := abs_mul (hA k 0 hk (by decide)) (t3 1 2 i (by decide) (by decide) hi)
        unfold S3
        omega
theorem prv_le {c : Nat} (hc : c < 3) {A : Nat → Nat → Int} (hA : ∀ k i, k < 4 → i < 4 → (A k i).natAbs ≤ 750) : (prv c A).natAbs * Dd (c + 1) < 2 ^ 63 := by
  rcases (show c = 0 ∨ c = 1 ∨ c = 2 by omega) with rfl | rfl | rfl
  · show (1 : Int).natAbs * 1125000 < 2 ^ 63
    decide
  · have := hA 0 0 (by decide) (by decide)
    show (A 0 0).natAbs * 2531250000 < _
    omega
  · have h : (S1 A 1 1).natAbs ≤ 1125000 := Sc_le (c := 1) hA (by decide) (by decide)
    show (S1 A 1 1).natAbs * 7593750000000 < _
    omega
-- the rows below a pivot
theorem brd_val {n k c : Nat} {bf : Int64} (hc : c < k) : ∀ (u : Nat) (f : Nat → Int64), u ≤ n → ∀ i, i < n → c ≤ i → brd n k c bf u f (n * k + i) = if i < u then (f (n * k + i) * f (n * c + c) - f (n * c + i) * f (n * k + c)) / bf else f (n * k + i)
  | 0, f, _, i, _, _ => by rw [if_neg (by omega)]; rfl
  | u + 1, f, hu, i, hi, hci => by
    have hm : n * (c + 1) ≤ n * k := Nat.mul_le_mul (Nat.le_refl n) hc
    rw [Nat.mul_succ] at hm
    by_cases e : u < c
    · have e1 : brd n k c bf (u + 1) f = f := by show (if u < c then f else _) = _; rw [if_pos e]
      rw [e1, if_neg (by omega)]
    · have e1 : brd n k c bf (u + 1) f = brd n k c bf u (vp_updL f (n * k + u) ((f (n * k + u) * f (n * c + c) - f (n * c + u) * f (n * k + c)) / bf)) := by show (if u < c then f else _) = _; rw [if_neg e]
      rw [e1, brd_val hc u _ (by omega) i hi hci]
      by_cases e2 : i < u
      · rw [if_pos e2, if_pos (by omega), updL_ne (by omega), updL_ne (by omega), updL_ne (by omega), updL_ne (by omega)]
      · rw [if_neg e2]
        by_cases e3 : i = u
        · subst e3; rw [updL_eq, if_pos (by omega)]
        · rw [updL_ne (by omega), if_neg (by omega)]
theorem brk_val {n c : Nat} {bf : Int64} {f : Nat → Int64} : ∀ (m : Nat), c + 1 + m ≤ n → (∀ j, n * (c + 1 + m) ≤ j → brk n c bf m f j = f j) ∧ (∀ k, c < k → k < c + 1 + m → ∀ i, i < n → c ≤ i → brk n c bf m f (n * k + i) = (f (n * k + i) * f (n * c + c) - f (n * c + i) * f (n * k + c)) / bf)
  | 0, _ => ⟨fun _ _ => rfl, fun k h1 h2 => absurd h2 (by omega)⟩
  | m + 1, hm => by
    obtain ⟨a1, a2⟩ := brk_val (n := n) (c := c) (bf := bf) (f := f) m (by omega)
    have q0 : n * (c + 1) ≤ n * (c + 1 + m) := Nat.mul_le_mul (Nat.le_refl n) (by omega)
    rw [Nat.mul_succ] at q0
    refine ⟨fun j hj => ?_, fun k h1 h2 i hi hci => ?_⟩
    · show brd n (c + 1 + m) c bf n (brk n c bf m f) j = _
      rw [brd_up (by exact hj) n _ (Nat.le_refl n)]
      have : n * (c + 1 + m) ≤ n * (c + 1 + (m + 1)) := Nat.mul_le_mul (Nat.le_refl n) (by omega)
      exact a1 j (by omega)
    · show brd n (c + 1 + m) c bf n (brk n c bf m f) (n * k + i) = _
      by_cases e : k = c + 1 + m
      · subst e
        rw [brd_val (by omega) n _ (Nat.le_refl n) i hi hci, if_pos hi, a1 (n * (c + 1 + m) + i) (by omega), a1 (n * (c + 1 + m) + c) (by omega), brk_o (j := n * c + c) (by rw [Nat.mul_succ]; omega), brk_o (j := n * c + i) (by rw [Nat.mul_succ]; omega)]
      · have q1 : n * (k + 1) ≤ n * (c + 1 + m) := Nat.mul_le_mul (Nat.le_refl n) (by omega)
        rw [Nat.mul_succ] at q1
        rw [brd_o (by omega) n]
        exact a2 k h1 (by omega) i hi hci
theorem wrap64 {x y z w d : Int64} {r : Int} (hd : ¬ d = 0) (he : r * d.toInt = x.toInt * y.toInt - z.toInt * w.toInt) (hr : r.natAbs * d.toInt.natAbs < 2 ^ 63) : ((x * y - z * w) / d).toInt = r := by
  have hd' : ¬ d.toInt = 0 := fun q => hd (i64_zero.mpr q)
  have hb : (r * d.toInt).natAbs < 2 ^ 63 := by rw [Int.natAbs_mul]; exact hr
  have e1 : (x * y - z * w).toInt = r * d.toInt := by
    rw [Int64.toInt_sub, Int64.toInt_mul, Int64.toInt_mul, he, Int.sub_bmod_bmod, Int.bmod_sub_bmod]
    rw [← he]
    apply Int.bmod_eq_of_le <;> omega
  rw [Int64.toInt_div, e1, Int.mul_tdiv_cancel _ hd']
  have : r.natAbs ≤ r.natAbs * d.toInt.natAbs := Nat.le_mul_of_pos_right _ (by omega)
  apply Int.bmod_eq_of_le <;> omega
def Rep (n c : Nat) (f : Nat → Int64) (A : Nat → Nat → Int) : Prop := ∀ k i, c ≤ k → k < n → c ≤ i → i < n → (f (n * k + i)).toInt = Sc c A k i
theorem Rep.step {n c : Nat} {f : Nat → Int64} {bf : Int64} {A : Nat → Nat → Int} (hn : n ≤ 4) (hc : c + 1 < n) (h : Rep n c f A) (hA : ∀ k i, k < 4 → i < 4 → (A k i).natAbs ≤ 750) (hb : bf.toInt = prv c A) (hb0 : ¬ bf = 0) : Rep n (c + 1) (brk n c bf (n - (c + 1)) f) A := by
  intro k i h1 h2 h3 h4
  obtain ⟨-, a2⟩ := brk_val (n := n) (c := c) (bf := bf) (f := f) (n - (c + 1)) (by omega)
  rw [a2 k (by omega) (by omega) i h4 (by omega)]
  refine wrap64 hb0 ?_ ?_
  · rw [h k i (by omega) h2 (by omega) h4, h c c (Nat.le_refl c) (by omega) (Nat.le_refl c) (by omega), h c i (Nat.le_refl c) (by omega) (by omega) h4, h k c (by omega) h2 (Nat.le_refl c) (by omega), hb]
    exact Sc_id (by omega) A k i
  · have b1 := Sc_le (c := c + 1) hA (show k < 4 by omega) (show i < 4 by omega)
    have b2 := prv_le (c := c) (by omega) hA
    rw [hb]
    calc (Sc (c + 1) A k i).natAbs * (prv c A).natAbs ≤ Dd (c + 1) * (prv c A).natAbs := Nat.mul_le_mul b1 (Nat.le_refl _)
      _ = (prv c A).natAbs * Dd (c + 1) := Nat.mul_comm _ _
      _ < 2 ^ 63 := b2
