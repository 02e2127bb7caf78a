/-! ===== own rows: masks as Nats; the determinants that are joined, row by row ===== -/
theorem nI_and (a b : Nat) : nI a &&& nI b = nI (a &&& b) := by
  apply Int32.toBitVec_inj.mp
  show BitVec.ofNat 32 a &&& BitVec.ofNat 32 b = BitVec.ofNat 32 (a &&& b)
  apply BitVec.eq_of_toNat_eq
  rw [BitVec.toNat_and, BitVec.toNat_ofNat, BitVec.toNat_ofNat, BitVec.toNat_ofNat]
  exact (Nat.and_mod_two_pow (n := 32)).symm
theorem nI_smod : ∀ p, p < 31 → ((nI p &&& 31).toBitVec.smod 32).toNat = p := by decide +kernel
theorem nI_shr {n p : Nat} (hn : n < 2 ^ 31) (hp : p < 31) : nI n >>> (nI p &&& 31) = nI (n / 2 ^ p) := pk_shrN hn _ p (nI_smod p hp)
theorem hb_iff {n p : Nat} (hn : n < 2 ^ 31) : nI (n / 2 ^ p) &&& 1 = 0 ↔ n.testBit p = false := by
  show nI (n / 2 ^ p) &&& nI 1 = nI 0 ↔ _
  have h2 : n / 2 ^ p ≤ n := Nat.div_le_self _ _
  rw [nI_and, Nat.and_one_is_mod, nI_eq (by omega) (by omega), Nat.testBit_eq_decide_div_mod_eq, decide_eq_false_iff_not]
  omega
theorem hb_y {n p : Nat} (hn : n < 2 ^ 31) (h : n.testBit p = true) : ¬ nI (n / 2 ^ p) &&& 1 = 0 := fun z => by
  rw [(hb_iff hn).mp z] at h; cases h
theorem hb_n {n p : Nat} (hn : n < 2 ^ 31) (h : ¬ n.testBit p = true) : nI (n / 2 ^ p) &&& 1 = 0 := (hb_iff hn).mpr (Bool.eq_false_iff.mpr h)
noncomputable def lst (pf : Nat → Int32) (ch : Nat) : Nat → Nat × (Nat → Int64)
  | 0 => (0, fun _ => 1)
  | p + 1 => @ite _ ((lst pf ch p).1 < 4 ∧ ch.testBit p = true ∧ indep (lst pf ch p).1 (lst pf ch p).2 (rowAt pf p)) (Classical.propDecidable _) ((lst pf ch p).1 + 1, fun m => mex (lst pf ch p).2 (rowAt pf p) m) (lst pf ch p)
theorem lst_y {pf : Nat → Int32} {ch p : Nat} (h : (lst pf ch p).1 < 4 ∧ ch.testBit p = true ∧ indep (lst pf ch p).1 (lst pf ch p).2 (rowAt pf p)) : lst pf ch (p + 1) = ((lst pf ch p).1 + 1, fun m => mex (lst pf ch p).2 (rowAt pf p) m) := by
  exact @if_pos _ (Classical.propDecidable _) h _ _ _
theorem lst_n {pf : Nat → Int32} {ch p : Nat} (h : ¬ ((lst pf ch p).1 < 4 ∧ ch.testBit p = true ∧ indep (lst pf ch p).1 (lst pf ch p).2 (rowAt pf p))) : lst pf ch (p + 1) = lst pf ch p := by
  exact @if_neg _ (Classical.propDecidable _) h _ _ _
theorem lst_stay {pf : Nat → Int32} {ch p q : Nat} (h : 4 ≤ (lst pf ch p).1) (hq : p ≤ q) : lst pf ch q = lst pf ch p := by
  induction q with
  | zero => rw [show p = 0 by omega]
  | succ q ih =>
    by_cases e : p = q + 1
    · rw [e]
    · have h1 := ih (by omega)
      rw [lst_n (fun z => by rw [h1] at z; omega), h1]
theorem lst_le (pf : Nat → Int32) (ch : Nat) : ∀ p, (lst pf ch p).1 ≤ 4
  | 0 => Nat.zero_le _
  | p + 1 => by
    by_cases h : (lst pf ch p).1 < 4 ∧ ch.testBit p = true ∧ indep (lst pf ch p).1 (lst pf ch p).2 (rowAt pf p)
    · rw [lst_y h]; exact h.1
    · rw [lst_n h]; exact lst_le pf ch p
theorem mex_lev {j : Nat} {f g : Nat → Int64} (a : Nat → Int32) (h : ∀ m ∈ lev j, f m = g m) : ∀ m ∈ lev (j + 1), mex f a m = mex g a m := by
  intro m hm
  rcases j with _ | _ | _ | _ | j
  · simp only [lev, List.mem_cons, List.not_mem_nil, or_false, forall_eq] at h hm
    rcases hm with rfl | rfl | rfl | rfl <;> simp only [mex, h]
  · have h1 := h 1 (by decide)
    have h2 := h 2 (by decide)
    have h4 := h 4 (by decide)
    have h8 := h 8 (by decide)
    simp only [lev, List.mem_cons, List.not_mem_nil, or_false] at hm
    rcases hm with rfl | rfl | rfl | rfl | rfl | rfl <;> simp only [mex, h1, h2, h4, h8]
  · have h1 := h 3 (by decide)
    have h2 := h 5 (by decide)
    have h3 := h 6 (by decide)
    have h4 := h 9 (by decide)
    have h5 := h 10 (by decide)
    have h6 := h 12 (by decide)
    simp only [lev, List.mem_cons, List.not_mem_nil, or_false] at hm
    rcases hm with rfl | rfl | rfl | rfl <;> simp only [mex, h1, h2, h3, h4, h5, h6]
  · have h1 := h 7 (by decide)
    have h2 := h 11 (by decide)
    have h3 := h 13 (by decide)
    have h4 := h 14 (by decide)
    simp only [lev, List.mem_cons, List.not_mem_nil, or_false] at hm
    subst hm
    simp only [mex, h1, h2, h3, h4]
  · cases hm
theorem indep_lev {j : Nat} {f g : Nat → Int64} {a : Nat → Int32} (h : ∀ m ∈ lev j, f m = g m) : indep j f a ↔ indep j g a := by
  constructor
  · rintro ⟨m, hm, hz⟩; exact ⟨m, hm, by rw [← mex_lev a h m hm]; exact hz⟩
  · rintro ⟨m, hm, hz⟩; exact ⟨m, hm, by rw [mex_lev a h m hm]; exact hz⟩
theorem mfill_at {j : Nat} (f g : Nat → Int64) (a : Nat → Int32) : ∀ m ∈ lev (j + 1), mfill f g a (lev (j + 1)) m = mex f a m := by
  intro m hm
  rcases j with _ | _ | _ | _ | j
  · simp only [lev, List.mem_cons, List.not_mem_nil, or_false] at hm
    rcases hm with rfl | rfl | rfl | rfl <;> simp [mfill, lev, vp_updL]
  · simp only [lev, List.mem_cons, List.not_mem_nil, or_false] at hm
    rcases hm with rfl | rfl | rfl | rfl | rfl | rfl <;> simp [mfill, lev, vp_updL]
  · simp only [lev, List.mem_cons, List.not_mem_nil, or_false] at hm
    rcases hm with rfl | rfl | rfl | rfl <;> simp [mfill, lev, vp_updL]
  · simp only [lev, List.mem_cons, List.not_mem_nil, or_false] at hm
    subst hm
    simp [mfill, lev, vp_updL]
  · cases hm
theorem lst_no {pf : Nat → Int32} {ch p j : Nat} {fa : Nat → Int64} (hj : (lst pf ch p).1 = j) (hf : ∀ m ∈ lev j, fa m = (lst pf ch p).2 m) (h : ¬ indep j fa (rowAt pf p)) : lst pf ch (p + 1) = lst pf ch p :=
  lst_n (fun z => h ((indep_lev hf).mpr (by rw [← hj]; exact z.2.2)))
theorem lst_yes {pf : Nat → Int32} {ch p j : Nat} {fa fb : Nat → Int64} (hj : (lst pf ch p).1 = j) (hf : ∀ m ∈ lev j, fa m = (lst pf ch p).2 m) (hj4 : j < 4) (hb : ch.testBit p = true) (h : indep j fa (rowAt pf p)) :
    (lst pf ch (p + 1)).1 = j + 1 ∧ ∀ m ∈ lev (j + 1), mfill fa fb (rowAt pf p) (lev (j + 1)) m = (lst pf ch (p + 1)).2 m := by
  have hc : (lst pf ch p).1 < 4 ∧ ch.testBit p = true ∧ indep (lst pf ch p).1 (lst pf ch p).2 (rowAt pf p) := by
    rw [hj]; exact ⟨hj4, hb, (indep_lev hf).mp h⟩
  rw [lst_y hc]
  refine ⟨by rw [hj], fun m hm => ?_⟩
  rw [mfill_at fa fb _ m hm]
  exact mex_lev _ hf m hm
