/-! ===== own rows: cases of a call's number; class's and reference's words for a row's bounds ===== -/
theorem sw16 (x : Int32) : ∃ k : Nat, k < 16 ∧ x &&& 15 = Int32.ofNat k := by
  refine ⟨(x &&& 15).toBitVec.toNat, ?_, ?_⟩
  · have h : (x &&& 15).toBitVec = x.toBitVec &&& 15#32 := rfl
    rw [h, BitVec.toNat_and]
    exact Nat.lt_of_le_of_lt Nat.and_le_right (by decide)
  · apply Int32.toBitVec_inj.mp
    apply BitVec.eq_of_toNat_eq
    show _ = (BitVec.ofNat 32 _).toNat
    rw [BitVec.toNat_ofNat, Nat.mod_eq_of_lt (BitVec.isLt _)]
theorem lk5 (w : Int32) : w = 0 ∨ w = 1 ∨ w = 2 ∨ w = 3 ∨ (w.toInt < 0 ∨ 3 < w.toInt) := by
  by_cases h : w.toInt < 0 ∨ 3 < w.toInt
  · exact Or.inr (Or.inr (Or.inr (Or.inr h)))
  · have h1 : w.toInt = 0 ∨ w.toInt = 1 ∨ w.toInt = 2 ∨ w.toInt = 3 := by omega
    rcases h1 with h1 | h1 | h1 | h1
    · exact Or.inl (Int32.toInt_inj.mp (h1.trans (by decide)))
    · exact Or.inr (Or.inl (Int32.toInt_inj.mp (h1.trans (by decide))))
    · exact Or.inr (Or.inr (Or.inl (Int32.toInt_inj.mp (h1.trans (by decide)))))
    · exact Or.inr (Or.inr (Or.inr (Or.inl (Int32.toInt_inj.mp (h1.trans (by decide))))))
theorem tkc2 (c : Int32) : tk_c 2 c = 0 := by unfold tk_c; exact if_pos (by decide)
theorem tkc3 (c : Int32) : tk_c 3 c = c := by unfold tk_c; exact if_neg (by decide)
theorem tkc4 (c : Int32) : tk_c 4 c = c := by unfold tk_c; exact if_neg (by decide)
theorem tkd2 (c : Int32) : tk_d 2 c = 0 := by unfold tk_d; exact if_pos (by decide)
theorem tkd3 (c : Int32) : tk_d 3 c = 0 := by unfold tk_d; exact if_pos (by decide)
theorem tkd4 (c : Int32) : tk_d 4 c = c := by unfold tk_d; exact if_neg (by decide)
theorem iwz2 {r a b c d : Int32} (h0 : inw r 0 = true) : iw r a b (tk_c 2 c) (tk_d 2 d) ↔ (inw r a = true ∧ inw r b = true) := by
  rw [tkc2, tkd2]
  exact ⟨fun h => ⟨h.1, h.2.1⟩, fun h => ⟨h.1, h.2, h0, h0⟩⟩
theorem iwz3 {r a b c d : Int32} (h0 : inw r 0 = true) : iw r a b (tk_c 3 c) (tk_d 3 d) ↔ (inw r a = true ∧ inw r b = true ∧ inw r c = true) := by
  rw [tkc3, tkd3]
  exact ⟨fun h => ⟨h.1, h.2.1, h.2.2.1⟩, fun h => ⟨h.1, h.2.1, h.2.2, h0⟩⟩
theorem iwz4 {r a b c d : Int32} (_h0 : inw r 0 = true) : iw r a b (tk_c 4 c) (tk_d 4 d) ↔ (inw r a = true ∧ inw r b = true ∧ inw r c = true ∧ inw r d = true) := by
  rw [tkc4, tkd4]
  exact Iff.rfl
theorem iw0 {a b c d : Int32} : iw 0 a b c d ↔ all4 a b c d := by
  unfold iw all4
  rw [inw_zero, inw_zero, inw_zero, inw_zero]
theorem alz2 {a b c d : Int32} : iw 0 a b (tk_c 2 c) (tk_d 2 d) ↔ all4 a b 0 0 := by rw [tkc2, tkd2]; exact iw0
theorem alz3 {a b c d : Int32} : iw 0 a b (tk_c 3 c) (tk_d 3 d) ↔ all4 a b c 0 := by rw [tkc3, tkd3]; exact iw0
theorem alz4 {a b c d : Int32} : iw 0 a b (tk_c 4 c) (tk_d 4 d) ↔ all4 a b c d := by rw [tkc4, tkd4]; exact iw0
theorem jdz (v : Int32) : jmax (2 : Int32) (jmin (4 : Int32) v) = 2 ∨ jmax (2 : Int32) (jmin (4 : Int32) v) = 3 ∨ jmax (2 : Int32) (jmin (4 : Int32) v) = 4 := by
  by_cases h1 : (2 : Int32) ≤ v
  · by_cases h2 : v ≤ (4 : Int32)
    · rw [jd3 h1 h2]
      have q1 := Int32.le_iff_toInt_le.mp h1
      have q2 := Int32.le_iff_toInt_le.mp h2
      have e2 : (2 : Int32).toInt = 2 := by decide
      have e4 : (4 : Int32).toInt = 4 := by decide
      rw [e2] at q1
      rw [e4] at q2
      have h3 : v.toInt = 2 ∨ v.toInt = 3 ∨ v.toInt = 4 := by omega
      rcases h3 with h | h | h
      · exact Or.inl (Int32.toInt_inj.mp (h.trans (by decide)))
      · exact Or.inr (Or.inl (Int32.toInt_inj.mp (h.trans (by decide))))
      · exact Or.inr (Or.inr (Int32.toInt_inj.mp (h.trans (by decide))))
    · exact Or.inr (Or.inr (jd2 h2))
  · exact Or.inl (jd1 h1)
