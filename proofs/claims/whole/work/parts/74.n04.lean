/-! ===== own rows: class and reference, 04 ===== -/
def rpl (R : Nat → Nat → Int) (w : Nat → Int) (l : Nat) : Nat → Nat → Int := fun l' i => if l' = l then w i else R l' i
theorem mnI_span {R : Nat → Nat → Int} {w : Nat → Int} {j : Nat} (hj : j < 4) (h : ∃ m ∈ lev j, ¬ mnI R j m = 0) (hz : ∀ m ∈ lev (j + 1), mexI (mnI R j) w m = 0) : Sp j R w := by
  obtain ⟨m, hm, hne⟩ := h
  refine ⟨mnI R j m, fun l => mnI (rpl R w l) j m, hne, fun q hq => ?_⟩
  rcases (show j = 0 ∨ j = 1 ∨ j = 2 ∨ j = 3 by omega) with rfl | rfl | rfl | rfl
  · have H1 := hz 1 (by decide); have H2 := hz 2 (by decide); have H4 := hz 4 (by decide); have H8 := hz 8 (by decide)
    simp only [mnI, mexI] at H1 H2 H4 H8
    simp only [isum, mnI]
    rcases (show q = 0 ∨ q = 1 ∨ q = 2 ∨ q = 3 by omega) with rfl | rfl | rfl | rfl <;> omega
  · have H3 := hz 3 (by decide); have H5 := hz 5 (by decide); have H6 := hz 6 (by decide); have H9 := hz 9 (by decide); have H10 := hz 10 (by decide); have H12 := hz 12 (by decide)
    simp only [mnI, mexI] at H3 H5 H6 H9 H10 H12
    simp only [lev, List.mem_cons, List.not_mem_nil, or_false] at hm
    rcases hm with rfl | rfl | rfl | rfl <;> rcases (show q = 0 ∨ q = 1 ∨ q = 2 ∨ q = 3 by omega) with rfl | rfl | rfl | rfl <;> simp only [isum, mnI, mexI, rpl, if_true] <;> grind
  · have H7 := hz 7 (by decide); have H11 := hz 11 (by decide); have H13 := hz 13 (by decide); have H14 := hz 14 (by decide)
    simp only [mnI, mexI] at H7 H11 H13 H14
    simp only [lev, List.mem_cons, List.not_mem_nil, or_false] at hm
    rcases hm with rfl | rfl | rfl | rfl | rfl | rfl <;> rcases (show q = 0 ∨ q = 1 ∨ q = 2 ∨ q = 3 by omega) with rfl | rfl | rfl | rfl <;> simp [isum, mnI, mexI, rpl] <;> grind
  · have H15 := hz 15 (by decide)
    simp only [mnI, mexI] at H15
    simp only [lev, List.mem_cons, List.not_mem_nil, or_false] at hm
    rcases hm with rfl | rfl | rfl | rfl <;> rcases (show q = 0 ∨ q = 1 ∨ q = 2 ∨ q = 3 by omega) with rfl | rfl | rfl | rfl <;> simp [isum, mnI, mexI, rpl] <;> grind
theorem mnI_full {R : Nat → Nat → Int} {w : Nat → Int} (h : ∃ m ∈ lev 4, ¬ mnI R 4 m = 0) : Sp 4 R w := by
  obtain ⟨m, hm, hne⟩ := h
  refine ⟨mnI R 4 m, fun l => mnI (rpl R w l) 4 m, hne, fun q hq => ?_⟩
  simp only [lev, List.mem_cons, List.not_mem_nil, or_false] at hm
  subst hm
  rcases (show q = 0 ∨ q = 1 ∨ q = 2 ∨ q = 3 by omega) with rfl | rfl | rfl | rfl <;> simp [isum, mnI, mexI, rpl] <;> grind
theorem mnI_congr {R R' : Nat → Nat → Int} : ∀ j, (∀ l, l < j → R l = R' l) → mnI R j = mnI R' j
  | 0, _ => rfl
  | j + 1, h => by
    show mexI (mnI R j) (R j) = mexI (mnI R' j) (R' j)
    rw [mnI_congr j (fun l hl => h l (by omega)), h j (by omega)]
theorem mexI_congr {f g : Nat → Int} {a : Nat → Int} {j : Nat} (h : ∀ m ∈ lev j, f m = g m) : ∀ m ∈ lev (j + 1), mexI f a m = mexI g a m := by
  intro m hm
  rcases (show j = 0 ∨ j = 1 ∨ j = 2 ∨ j = 3 ∨ 4 ≤ j by omega) with rfl | rfl | rfl | rfl | h4
  · have h0 := h 0 (by decide)
    simp only [lev, List.mem_cons, List.not_mem_nil, or_false] at hm
    rcases hm with rfl | rfl | rfl | rfl <;> simp only [mexI, h0]
  · have h1 := h 1 (by decide); have h2 := h 2 (by decide); have h4 := h 4 (by decide); have h8 := h 8 (by decide)
    simp only [lev, List.mem_cons, List.not_mem_nil, or_false] at hm
    rcases hm with rfl | rfl | rfl | rfl | rfl | rfl <;> simp only [mexI, h1, h2, h4, h8]
  · have h3 := h 3 (by decide); have h5 := h 5 (by decide); have h6 := h 6 (by decide); have h9 := h 9 (by decide); have h10 := h 10 (by decide); have h12 := h 12 (by decide)
    simp only [lev, List.mem_cons, List.not_mem_nil, or_false] at hm
    rcases hm with rfl | rfl | rfl | rfl <;> simp only [mexI, h3, h5, h6, h9, h10, h12]
  · have h7 := h 7 (by decide); have h11 := h 11 (by decide); have h13 := h 13 (by decide); have h14 := h 14 (by decide)
    simp only [lev, List.mem_cons, List.not_mem_nil, or_false] at hm
    subst hm
    simp only [mexI, h7, h11, h13, h14]
  · obtain ⟨k, rfl⟩ : ∃ k, j = k + 4 := ⟨j - 4, by omega⟩
    exact absurd hm (by show ¬ m ∈ ([] : List Nat); simp)
/-- a row of a list of points, in whole numbers -/
def rwI (pf : Nat → Int32) (p : Nat) : Nat → Int := fun i => (pf (p * 4 + i)).toInt
/-- how large determinants of j lines may be -/
def Bj (C : Nat) : Nat → Nat
  | 0 => 1
  | j + 1 => 4 * (Bj C j * C)
/-- what load finds: the joined rows are independent, and all chosen rows are out of them -/
def LST (pf : Nat → Int32) (C ch p : Nat) : Prop := ∃ Jx : Nat → Nat, (∀ l, l < (lst pf ch p).1 → Jx l < p ∧ ch.testBit (Jx l) = true) ∧ (∀ l l', l < l' → l' < (lst pf ch p).1 → Jx l < Jx l') ∧ (∀ m ∈ lev (lst pf ch p).1, ((lst pf ch p).2 m).toInt = mnI (fun l => rwI pf (Jx l)) (lst pf ch p).1 m ∧ ((lst pf ch p).2 m).toInt.natAbs ≤ Bj C (lst pf ch p).1) ∧ (∃ m ∈ lev (lst pf ch p).1, ¬ mnI (fun l => rwI pf (Jx l)) (lst pf ch p).1 m = 0) ∧ ∀ q, q < p → ch.testBit q = true → Sp (lst pf ch p).1 (fun l => rwI pf (Jx l)) (rwI pf q)
theorem LST.all {pf : Nat → Int32} {C ch : Nat} (hC : C ≤ 750) : ∀ p, (∀ q, q < p → ch.testBit q = true → ∀ i, i < 4 → (pf (q * 4 + i)).toInt.natAbs ≤ C) → LST pf C ch p
  | 0, _ => ⟨fun _ => 0, fun l hl => absurd hl (Nat.not_lt_zero l), fun l l' _ hl => absurd hl (Nat.not_lt_zero l'), fun m hm => ⟨by show (1 : Int64).toInt = 1; decide, by show (1 : Int64).toInt.natAbs ≤ 1; decide⟩, ⟨0, List.mem_singleton.mpr rfl, by show ¬ (1 : Int) = 0; decide⟩, fun q hq => absurd hq (Nat.not_lt_zero q)⟩
  | p + 1, hb => by
    obtain ⟨Jx, h1, h2, h3, h4, h5⟩ := LST.all hC p (fun q hq => hb q (by omega))
    have h44 : (lst pf ch p).1 ≤ 4 := lst_le _ _ _
    by_cases hc : (lst pf ch p).1 < 4 ∧ ch.testBit p = true ∧ indep (lst pf ch p).1 (lst pf ch p).2 (rowAt pf p)
    · have hlt := hc.1
      have hrow := hb p (by omega) hc.2.1
      have e0 := lst_y hc
      have hBC : Bj C (lst pf ch p).1 * C < 2 ^ 61 := by
        have m1 : ∀ j, j ≤ 3 → Bj C j ≤ Bj 750 j := by
          intro j
          induction j with
          | zero => intro _; exact Nat.le_refl 1
          | succ j ih => intro hj; exact Nat.mul_le_mul (Nat.le_refl 4) (Nat.mul_le_mul (ih (by omega)) hC)
        have m2 : ∀ j, j ≤ 3 → Bj 750 j ≤ 27000000000 := by
          intro j hj
          rcases (show j = 0 ∨ j = 1 ∨ j = 2 ∨ j = 3 by omega) with rfl | rfl | rfl | rfl <;> decide
        have := Nat.mul_le_mul (Nat.le_trans (m1 _ (by omega)) (m2 _ (by omega : (lst pf ch p).1 ≤ 3))) hC
        omega
      have hmx := mex_int (a := rowAt pf p) (fun m hm => (h3 m hm).2) hrow hBC
      have hcg := mexI_congr (a := rwI pf p) (fun m hm => (h3 m hm).1)
      refine ⟨fun l => if l < (lst pf ch p).1 then Jx l else p, ?_⟩
      rw [e0]
      have hR : ∀ l, l < (lst pf ch p).1 → (fun l => rwI pf (if l < (lst pf ch p).1 then Jx l else p)) l = (fun l => rwI pf (Jx l)) l := fun l hl => by show rwI pf _ = _; rw [if_pos hl]
      have hmn : mnI (fun l => rwI pf (if l < (lst pf ch p).1 then Jx l else p)) ((lst pf ch p).1 + 1) = mexI (mnI (fun l => rwI pf (Jx l)) (lst pf ch p).1) (rwI pf p) := by
        show mexI (mnI (fun l => rwI pf (if l < (lst pf ch p).1 then Jx l else p)) (lst pf ch p).1) (rwI pf (if (lst pf ch p).1 < (lst pf ch p).1 then Jx (lst pf ch p).1 else p)) = _
        rw [mnI_congr _ hR, if_neg (Nat.lt_irrefl _)]
      refine ⟨fun l hl => ?_, fun l l' hll hl => ?_, fun m hm => ?_, ?_, fun q hq hqb => ?_⟩
      · have hl : l < (lst pf ch p).1 + 1 := hl
        show (if l < (lst pf ch p).1 then Jx l else p) < p + 1 ∧ ch.testBit (if l < (lst pf ch p).1 then Jx l else p) = true
        by_cases e : l < (lst pf ch p).1
        · rw [if_pos e]; exact ⟨by have := (h1 l e).1; omega, (h1 l e).2⟩
        · rw [if_neg e]; exact ⟨by omega, hc.2.1⟩
      · have hl : l' < (lst pf ch p).1 + 1 := hl
        show (if l < (lst pf ch p).1 then Jx l else p) < (if l' < (lst pf ch p).1 then Jx l' else p)
        rw [if_pos (by omega)]
        by_cases e : l' < (lst pf ch p).1
        · rw [if_pos e]; exact h2 l l' hll e
        · rw [if_neg e]; exact (h1 l (by omega)).1
      · have hm : m ∈ lev ((lst pf ch p).1 + 1) := hm
        show (mex (lst pf ch p).2 (rowAt pf p) m).toInt = mnI _ ((lst pf ch p).1 + 1) m ∧ (mex (lst pf ch p).2 (rowAt pf p) m).toInt.natAbs ≤ _
        rw [hmn]
        exact ⟨(hmx m hm).1.trans (hcg m hm), (hmx m hm).2⟩
      · obtain ⟨m, hm, hne⟩ := hc.2.2
        refine ⟨m, hm, ?_⟩
        show ¬ mnI _ ((lst pf ch p).1 + 1) m = 0
        rw [hmn]
        intro z
        apply hne
        rw [i64_zero, (hmx m hm).1]
        exact (hcg m hm).trans z
      · show Sp ((lst pf ch p).1 + 1) _ _
        by_cases e : q = p
        · subst e
          have := Sp.mem (n := (lst pf ch q).1 + 1) (t := fun l => rwI pf (if l < (lst pf ch q).1 then Jx l else q)) (k := (lst pf ch q).1) (by omega)
          have e9 : (fun l => rwI pf (if l < (lst pf ch q).1 then Jx l else q)) (lst pf ch q).1 = rwI pf q := by show rwI pf _ = _; rw [if_neg (Nat.lt_irrefl _)]
          exact e9 ▸ this
        · refine (h5 q (by omega) hqb).trans (fun i hi => ?_)
          have := Sp.mem (n := (lst pf ch p).1 + 1) (t := fun l => rwI pf (if l < (lst pf ch p).1 then Jx l else p)) (k := i) (by omega)
          have e9 : (fun l => rwI pf (if l < (lst pf ch p).1 then Jx l else p)) i = rwI pf (Jx i) := hR i hi
          exact e9 ▸ this
    · refine ⟨Jx, ?_⟩
      rw [lst_n hc]
      refine ⟨fun l hl => ⟨by have := (h1 l hl).1; omega, (h1 l hl).2⟩, h2, h3, h4, fun q hq hqb => ?_⟩
      by_cases e : q = p
      · subst e
        by_cases h9 : (lst pf ch q).1 < 4
        · have hrow := hb q (by omega) hqb
          have hni : ¬ indep (lst pf ch q).1 (lst pf ch q).2 (rowAt pf q) := fun z => hc ⟨h9, hqb, z⟩
          refine mnI_span h9 h4 (fun m hm => ?_)
          have hBC : Bj C (lst pf ch q).1 * C < 2 ^ 61 := by
            have m1 : ∀ j, j ≤ 3 → Bj C j ≤ Bj 750 j := by
              intro j
              induction j with
              | zero => intro _; exact Nat.le_refl 1
              | succ j ih => intro hj; exact Nat.mul_le_mul (Nat.le_refl 4) (Nat.mul_le_mul (ih (by omega)) hC)
            have m2 : ∀ j, j ≤ 3 → Bj 750 j ≤ 27000000000 := by
              intro j hj
              rcases (show j = 0 ∨ j = 1 ∨ j = 2 ∨ j = 3 by omega) with rfl | rfl | rfl | rfl <;> decide
            have := Nat.mul_le_mul (Nat.le_trans (m1 _ (by omega)) (m2 _ (by omega : (lst pf ch q).1 ≤ 3))) hC
            omega
          have hmx := mex_int (a := rowAt pf q) (fun m hm => (h3 m hm).2) hrow hBC m hm
          have hcg := mexI_congr (a := rwI pf q) (fun m hm => (h3 m hm).1) m hm
          have h0 : mex (lst pf ch q).2 (rowAt pf q) m = 0 := Classical.byContradiction (fun z => hni ⟨m, hm, z⟩)
          rw [← hcg]
          exact hmx.1.symm.trans (by rw [h0]; rfl)
        · have e4 : (lst pf ch q).1 = 4 := by omega
          rw [e4] at h4 ⊢
          exact mnI_full h4
      · exact h5 q (by omega) hqb
