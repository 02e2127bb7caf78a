/-! ===== own rows: small numbers as Nats ===== -/
theorem nI_mul (a b : Nat) : nI a * nI b = nI (a * b) := (Int32.ofNat_mul a b).symm
theorem nI_sub {a b : Nat} (h : b ≤ a) : nI a - nI b = nI (a - b) := by
  have h1 : nI (a - b) + nI b = nI a := by rw [nI_add, Nat.sub_add_cancel h]
  rw [← h1, Int32.add_sub_cancel]
theorem nI_dec {a : Nat} (h : 0 < a) : nI a + Int32.ofInt (-1) = nI (a - 1) := by
  have h1 : nI a - nI 1 = nI (a - 1) := nI_sub h
  rw [← h1, Int32.sub_eq_add_neg]
  rfl
theorem nI_shl {k : Nat} (h : k < 31) : (1 : Int32) <<< (nI k &&& 31) = nI (2 ^ k) := by
  have h1 : ∀ k, k < 31 → (1 : Int32) <<< (nI k &&& 31) = nI (2 ^ k) := by decide +kernel
  exact h1 k h
theorem nI_le0 {a : Nat} (h : a < 2 ^ 31) : ¬ nI a < (0 : Int32) := nI_pos h
/-- one boolean of the JVM -/
def bz (p : Prop) [Decidable p] : Int32 := if p then 1 else 0
/-- a row of four at place k times a point -/
def pr4 (f : Nat → Int32) (k : Nat) (g : Nat → Int32) : Int64 := (0 : Int64) + (f (k * 4)).toInt64 * (g 0).toInt64 + (f (k * 4 + 1)).toInt64 * (g 1).toInt64 + (f (k * 4 + 2)).toInt64 * (g 2).toInt64 + (f (k * 4 + 3)).toInt64 * (g 3).toInt64
