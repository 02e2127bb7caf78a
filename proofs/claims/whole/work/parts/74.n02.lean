/-! ===== own rows: class and reference, 02 ===== -/
-- the class's determinants, in whole numbers
def mexI (f : Nat → Int) (a : Nat → Int) : Nat → Int
  | 1 => f 0 * a 0
  | 2 => f 0 * a 1
  | 4 => f 0 * a 2
  | 8 => f 0 * a 3
  | 3 => f 1 * a 1 - f 2 * a 0
  | 5 => f 1 * a 2 - f 4 * a 0
  | 6 => f 2 * a 2 - f 4 * a 1
  | 9 => f 1 * a 3 - f 8 * a 0
  | 10 => f 2 * a 3 - f 8 * a 1
  | 12 => f 4 * a 3 - f 8 * a 2
  | 7 => f 3 * a 2 - f 5 * a 1 + f 6 * a 0
  | 11 => f 3 * a 3 - f 9 * a 1 + f 10 * a 0
  | 13 => f 5 * a 3 - f 9 * a 2 + f 12 * a 0
  | 14 => f 6 * a 3 - f 10 * a 2 + f 12 * a 1
  | 15 => f 7 * a 3 - f 11 * a 2 + f 13 * a 1 - f 14 * a 0
  | _ => 0
theorem tm {s x : Int64} {y : Int32} {B C : Nat} (hs : s = 1 ∨ s = -1) (hx : x.toInt.natAbs ≤ B) (hy : y.toInt.natAbs ≤ C) (h : B * C < 2 ^ 61) : (s * x * y.toInt64).toInt = s.toInt * (x.toInt * y.toInt) ∧ (s * x * y.toInt64).toInt.natAbs ≤ B * C := by
  have h1 : s.toInt.natAbs ≤ 1 := by rcases hs with rfl | rfl <;> decide
  have hB : C = 0 ∨ B ≤ B * C := by
    by_cases e : C = 0
    · exact Or.inl e
    · exact Or.inr (Nat.le_mul_of_pos_right B (by omega))
  have hxl := x.toInt_lt
  have hxg := x.le_toInt
  rcases hB with e | e
  · have y0 : y.toInt = 0 := by omega
    have yz : y.toInt64 = 0 := Int64.toInt_inj.mp (by rw [i32_64, y0]; rfl)
    rw [yz, y0, Int.mul_zero, Int.mul_zero, Int64.mul_zero]
    exact ⟨rfl, Nat.zero_le _⟩
  · obtain ⟨a1, a2⟩ := mul64 h1 hx (by omega)
    have hy' : y.toInt64.toInt.natAbs ≤ C := by rw [i32_64]; exact hy
    obtain ⟨b1, b2⟩ := mul64 (x := s * x) (y := y.toInt64) (a := 1 * B) (b := C) a2 hy' (by rw [Nat.one_mul]; omega)
    rw [Nat.one_mul] at b2
    exact ⟨by rw [b1, a1, i32_64, Int.mul_assoc], b2⟩
theorem t1 {x : Int64} {a : Int32} {B C : Nat} (hx : x.toInt.natAbs ≤ B) (ha : a.toInt.natAbs ≤ C) (h : B * C < 2 ^ 61) : ((0 : Int64) + (1 : Int64) * x * a.toInt64).toInt = x.toInt * a.toInt := by
  obtain ⟨p1, p2⟩ := tm (s := 1) (Or.inl rfl) hx ha h
  have z : (0 : Int64).toInt = 0 := by decide
  have o : (1 : Int64).toInt = 1 := by decide
  rw [o, Int.one_mul] at p1
  rw [add64 (by omega) (by omega), p1, z]; omega
theorem t2 {x y : Int64} {a b : Int32} {B C : Nat} (hx : x.toInt.natAbs ≤ B) (hy : y.toInt.natAbs ≤ B) (ha : a.toInt.natAbs ≤ C) (hb : b.toInt.natAbs ≤ C) (h : B * C < 2 ^ 61) : ((0 : Int64) + (1 : Int64) * x * a.toInt64 + (-1 : Int64) * y * b.toInt64).toInt = x.toInt * a.toInt - y.toInt * b.toInt := by
  have e := t1 hx ha h
  obtain ⟨p1, p2⟩ := tm (s := 1) (Or.inl rfl) hx ha h
  obtain ⟨q1, q2⟩ := tm (s := -1) (Or.inr rfl) hy hb h
  have o : (1 : Int64).toInt = 1 := by decide
  have o2 : (-1 : Int64).toInt = -1 := by decide
  rw [o, Int.one_mul] at p1
  rw [o2, Int.neg_mul, Int.one_mul] at q1
  rw [add64 (by omega) (by omega), e, q1]; omega
theorem t3 {x y z : Int64} {a b d : Int32} {B C : Nat} (hx : x.toInt.natAbs ≤ B) (hy : y.toInt.natAbs ≤ B) (hz : z.toInt.natAbs ≤ B) (ha : a.toInt.natAbs ≤ C) (hb : b.toInt.natAbs ≤ C) (hd : d.toInt.natAbs ≤ C) (h : B * C < 2 ^ 61) : ((0 : Int64) + (1 : Int64) * x * a.toInt64 + (-1 : Int64) * y * b.toInt64 + (1 : Int64) * z * d.toInt64).toInt = x.toInt * a.toInt - y.toInt * b.toInt + z.toInt * d.toInt := by
  have e := t2 hx hy ha hb h
  obtain ⟨p1, p2⟩ := tm (s := 1) (Or.inl rfl) hx ha h
  obtain ⟨q1, q2⟩ := tm (s := -1) (Or.inr rfl) hy hb h
  obtain ⟨r1, r2⟩ := tm (s := 1) (Or.inl rfl) hz hd h
  have o : (1 : Int64).toInt = 1 := by decide
  have o2 : (-1 : Int64).toInt = -1 := by decide
  rw [o, Int.one_mul] at p1 r1
  rw [o2, Int.neg_mul, Int.one_mul] at q1
  rw [add64 (by omega) (by omega), e, r1]
theorem t4 {x y z w : Int64} {a b d g : Int32} {B C : Nat} (hx : x.toInt.natAbs ≤ B) (hy : y.toInt.natAbs ≤ B) (hz : z.toInt.natAbs ≤ B) (hw : w.toInt.natAbs ≤ B) (ha : a.toInt.natAbs ≤ C) (hb : b.toInt.natAbs ≤ C) (hd : d.toInt.natAbs ≤ C) (hg : g.toInt.natAbs ≤ C) (h : B * C < 2 ^ 61) : ((0 : Int64) + (1 : Int64) * x * a.toInt64 + (-1 : Int64) * y * b.toInt64 + (1 : Int64) * z * d.toInt64 + (-1 : Int64) * w * g.toInt64).toInt = x.toInt * a.toInt - y.toInt * b.toInt + z.toInt * d.toInt - w.toInt * g.toInt := by
  have e := t3 hx hy hz ha hb hd h
  obtain ⟨p1, p2⟩ := tm (s := 1) (Or.inl rfl) hx ha h
  obtain ⟨q1, q2⟩ := tm (s := -1) (Or.inr rfl) hy hb h
  obtain ⟨r1, r2⟩ := tm (s := 1) (Or.inl rfl) hz hd h
  obtain ⟨u1, u2⟩ := tm (s := -1) (Or.inr rfl) hw hg h
  have o : (1 : Int64).toInt = 1 := by decide
  have o2 : (-1 : Int64).toInt = -1 := by decide
  rw [o, Int.one_mul] at p1 r1
  rw [o2, Int.neg_mul, Int.one_mul] at q1 u1
  rw [add64 (by omega) (by omega), e, u1]; omega
/-- one more line, exactly -/
theorem mex_int {f : Nat → Int64} {a : Nat → Int32} {j B C : Nat} (hf : ∀ m ∈ lev j, (f m).toInt.natAbs ≤ B) (ha : ∀ i, i < 4 → (a i).toInt.natAbs ≤ C) (h : B * C < 2 ^ 61) : ∀ m ∈ lev (j + 1), (mex f a m).toInt = mexI (fun m => (f m).toInt) (fun i => (a i).toInt) m ∧ (mex f a m).toInt.natAbs ≤ 4 * (B * C) := by
  have a0 := ha 0 (by decide); have a1 := ha 1 (by decide); have a2 := ha 2 (by decide); have a3 := ha 3 (by decide)
  intro m hm
  have key : (mex f a m).toInt = mexI (fun m => (f m).toInt) (fun i => (a i).toInt) m := by
    rcases (show j = 0 ∨ j = 1 ∨ j = 2 ∨ j = 3 ∨ 4 ≤ j by omega) with rfl | rfl | rfl | rfl | h4
    · have f0 := hf 0 (by decide)
      simp only [lev, List.mem_cons, List.not_mem_nil, or_false] at hm
      rcases hm with rfl | rfl | rfl | rfl
      · exact t1 f0 a0 h
      · exact t1 f0 a1 h
      · exact t1 f0 a2 h
      · exact t1 f0 a3 h
    · have f1 := hf 1 (by decide); have f2 := hf 2 (by decide); have f4 := hf 4 (by decide); have f8 := hf 8 (by decide)
      simp only [lev, List.mem_cons, List.not_mem_nil, or_false] at hm
      rcases hm with rfl | rfl | rfl | rfl | rfl | rfl
      · exact t2 f1 f2 a1 a0 h
      · exact t2 f1 f4 a2 a0 h
      · exact t2 f2 f4 a2 a1 h
      · exact t2 f1 f8 a3 a0 h
      · exact t2 f2 f8 a3 a1 h
      · exact t2 f4 f8 a3 a2 h
    · have f3 := hf 3 (by decide); have f5 := hf 5 (by decide); have f6 := hf 6 (by decide); have f9 := hf 9 (by decide); have f10 := hf 10 (by decide); have f12 := hf 12 (by decide)
      simp only [lev, List.mem_cons, List.not_mem_nil, or_false] at hm
      rcases hm with rfl | rfl | rfl | rfl
      · exact t3 f3 f5 f6 a2 a1 a0 h
      · exact t3 f3 f9 f10 a3 a1 a0 h
      · exact t3 f5 f9 f12 a3 a2 a0 h
      · exact t3 f6 f10 f12 a3 a2 a1 h
    · have f7 := hf 7 (by decide); have f11 := hf 11 (by decide); have f13 := hf 13 (by decide); have f14 := hf 14 (by decide)
      simp only [lev, List.mem_cons, List.not_mem_nil, or_false] at hm
      subst hm
      exact t4 f7 f11 f13 f14 a3 a2 a1 a0 h
    · obtain ⟨k, rfl⟩ : ∃ k, j = k + 4 := ⟨j - 4, by omega⟩
      exact absurd hm (by show ¬ m ∈ ([] : List Nat); simp)
  refine ⟨key, ?_⟩
  rw [key]
  have P : ∀ x i, x ∈ lev j → i < 4 → ((f x).toInt * (a i).toInt).natAbs ≤ B * C := fun x i hx hi => abs_mul (hf x hx) (ha i hi)
  rcases (show j = 0 ∨ j = 1 ∨ j = 2 ∨ j = 3 ∨ 4 ≤ j by omega) with rfl | rfl | rfl | rfl | h4
  · simp only [lev, List.mem_cons, List.not_mem_nil, or_false] at hm
    rcases hm with rfl | rfl | rfl | rfl
    · have := P 0 0 (by decide) (by decide); show ((f 0).toInt * (a 0).toInt).natAbs ≤ _; omega
    · have := P 0 1 (by decide) (by decide); show ((f 0).toInt * (a 1).toInt).natAbs ≤ _; omega
    · have := P 0 2 (by decide) (by decide); show ((f 0).toInt * (a 2).toInt).natAbs ≤ _; omega
    · have := P 0 3 (by decide) (by decide); show ((f 0).toInt * (a 3).toInt).natAbs ≤ _; omega
  · simp only [lev, List.mem_cons, List.not_mem_nil, or_false] at hm
    rcases hm with rfl | rfl | rfl | rfl | rfl | rfl
    · have e1 := P 1 1 (by decide) (by decide); have e2 := P 2 0 (by decide) (by decide); show ((f 1).toInt * (a 1).toInt - (f 2).toInt * (a 0).toInt).natAbs ≤ _; omega
    · have e1 := P 1 2 (by decide) (by decide); have e2 := P 4 0 (by decide) (by decide); show ((f 1).toInt * (a 2).toInt - (f 4).toInt * (a 0).toInt).natAbs ≤ _; omega
    · have e1 := P 2 2 (by decide) (by decide); have e2 := P 4 1 (by decide) (by decide); show ((f 2).toInt * (a 2).toInt - (f 4).toInt * (a 1).toInt).natAbs ≤ _; omega
    · have e1 := P 1 3 (by decide) (by decide); have e2 := P 8 0 (by decide) (by decide); show ((f 1).toInt * (a 3).toInt - (f 8).toInt * (a 0).toInt).natAbs ≤ _; omega
    · have e1 := P 2 3 (by decide) (by decide); have e2 := P 8 1 (by decide) (by decide); show ((f 2).toInt * (a 3).toInt - (f 8).toInt * (a 1).toInt).natAbs ≤ _; omega
    · have e1 := P 4 3 (by decide) (by decide); have e2 := P 8 2 (by decide) (by decide); show ((f 4).toInt * (a 3).toInt - (f 8).toInt * (a 2).toInt).natAbs ≤ _; omega
  · simp only [lev, List.mem_cons, List.not_mem_nil, or_false] at hm
    rcases hm with rfl | rfl | rfl | rfl
    · have e1 := P 3 2 (by decide) (by decide); have e2 := P 5 1 (by decide) (by decide); have e3 := P 6 0 (by decide) (by decide); show ((f 3).toInt * (a 2).toInt - (f 5).toInt * (a 1).toInt + (f 6).toInt * (a 0).toInt).natAbs ≤ _; omega
    · have e1 := P 3 3 (by decide) (by decide); have e2 := P 9 1 (by decide) (by decide); have e3 := P 10 0 (by decide) (by decide); show ((f 3).toInt * (a 3).toInt - (f 9).toInt * (a 1).toInt + (f 10).toInt * (a 0).toInt).natAbs ≤ _; omega
    · have e1 := P 5 3 (by decide) (by decide); have e2 := P 9 2 (by decide) (by decide); have e3 := P 12 0 (by decide) (by decide); show ((f 5).toInt * (a 3).toInt - (f 9).toInt * (a 2).toInt + (f 12).toInt * (a 0).toInt).natAbs ≤ _; omega
    · have e1 := P 6 3 (by decide) (by decide); have e2 := P 10 2 (by decide) (by decide); have e3 := P 12 1 (by decide) (by decide); show ((f 6).toInt * (a 3).toInt - (f 10).toInt * (a 2).toInt + (f 12).toInt * (a 1).toInt).natAbs ≤ _; omega
  · simp only [lev, List.mem_cons, List.not_mem_nil, or_false] at hm
    subst hm
    have e1 := P 7 3 (by decide) (by decide); have e2 := P 11 2 (by decide) (by decide); have e3 := P 13 1 (by decide) (by decide); have e4 := P 14 0 (by decide) (by decide); show ((f 7).toInt * (a 3).toInt - (f 11).toInt * (a 2).toInt + (f 13).toInt * (a 1).toInt - (f 14).toInt * (a 0).toInt).natAbs ≤ _; omega
  · obtain ⟨k, rfl⟩ : ∃ k, j = k + 4 := ⟨j - 4, by omega⟩
    exact absurd hm (by show ¬ m ∈ ([] : List Nat); simp)
