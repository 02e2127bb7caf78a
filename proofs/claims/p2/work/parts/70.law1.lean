/-! ===== own rows, laid by wip/tools/g52.py: the law, parts and least ===== -/
theorem iw_v0 {zs : Nat} {r p0 p1 p2 p3 : Int32} {v0 : Nat → Int32} (h2 : 2 ≤ zs) (h4 : zs ≤ 4) (h0 : inw r 0 = true) (e0 : v0 0 = p0) (e1 : v0 1 = p1) (e2 : v0 2 = tk_c (nI zs) p2) (e3 : v0 3 = tk_d (nI zs) p3) : iw r p0 p1 (tk_c (nI zs) p2) (tk_d (nI zs) p3) ↔ ∀ k, k < zs → inw r (v0 k) = true := by
  rw [iw_eq (vf := v0) h2 h4 h0]
  have key : ∀ k, k < 4 → vst (nI zs) v0 p0 p1 p2 p3 k = v0 k := by
    intro k hk
    rcases (show k = 0 ∨ k = 1 ∨ k = 2 ∨ k = 3 by omega) with rfl | rfl | rfl | rfl
    · rw [vst_0, e0]
    · rw [vst_1, e1]
    · rw [vst_2, e2]
    · rw [vst_3, e3]
  constructor
  · intro h k hk; rw [← key k (by omega)]; exact h k hk
  · intro h k hk; rw [key k (by omega)]; exact h k hk
theorem v0_z {zs : Nat} {p2 p3 : Int32} {v0 : Nat → Int32} (h2 : 2 ≤ zs) (e2 : v0 2 = tk_c (nI zs) p2) (e3 : v0 3 = tk_d (nI zs) p3) : ∀ i, zs ≤ i → i < 4 → v0 i = 0 := by
  intro i h1 hi
  rcases (show i = 2 ∨ i = 3 by omega) with rfl | rfl
  · rw [e2]; unfold tk_c; rw [if_pos (show nI zs ≤ (2 : Int32) from nI_le (a := zs) (b := 2) (by omega) (by decide))]
  · rw [e3]; unfold tk_d; rw [if_pos (show nI zs ≤ (3 : Int32) from nI_le (a := zs) (b := 3) (by omega) (by decide))]
theorem iw_1000 {a b c d : Int32} (h : iw 1000 a b c d) {g : Nat → Int32} (e0 : g 0 = a) (e1 : g 1 = b) (e2 : g 2 = c) (e3 : g 3 = d) : ∀ i, i < 4 → -1000 ≤ (g i).toInt ∧ (g i).toInt ≤ 1000 := by
  obtain ⟨h0, h1, h2, h3⟩ := h
  have k1 : (1000 : Int32).toInt = 1000 := by decide
  have k2 : (-1000 : Int32).toInt = -1000 := by decide
  intro i hi
  rcases (show i = 0 ∨ i = 1 ∨ i = 2 ∨ i = 3 by omega) with rfl | rfl | rfl | rfl
  · have := inw_int h0; rw [e0]; rw [k1, k2] at this; exact this
  · have := inw_int h1; rw [e1]; rw [k1, k2] at this; exact this
  · have := inw_int h2; rw [e2]; rw [k1, k2] at this; exact this
  · have := inw_int h3; rw [e3]; rw [k1, k2] at this; exact this
theorem g4 {g h : Nat → Int32} (e0 : g 0 = h 0) (e1 : g 1 = h 1) (e2 : g 2 = h 2) (e3 : g 3 = h 3) : ∀ i, i < 4 → g i = h i := by
  intro i hi
  rcases (show i = 0 ∨ i = 1 ∨ i = 2 ∨ i = 3 by omega) with rfl | rfl | rfl | rfl <;> assumption
