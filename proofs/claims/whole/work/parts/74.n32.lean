/-! ===== own rows: class and reference, 32 ===== -/
-- the class's mixes are all shares
theorem nt_div1 {R : Nat → Nat → Int} {D : Int} (hD : ∀ m ∈ lev 1, D ∣ mnI R 1 m) {T : Nat} (hT : T ∈ lev 0) : ∀ i, i < 4 → D ∣ isum (fun m => NT R 1 T m * R m i) 1 := by
  intro i hi
  simp only [lev, List.mem_cons, List.not_mem_nil, or_false] at hT
  rw [isum_1]
  subst hT
  rcases (show i = 0 ∨ i = 1 ∨ i = 2 ∨ i = 3 by omega) with rfl | rfl | rfl | rfl
  · rw [show NT R 1 0 0 * R 0 0 = mnI R 1 1 by simp [NT, mnI, mexI, skp] <;> grind]; exact hD 1 (by decide)
  · rw [show NT R 1 0 0 * R 0 1 = mnI R 1 2 by simp [NT, mnI, mexI, skp] <;> grind]; exact hD 2 (by decide)
  · rw [show NT R 1 0 0 * R 0 2 = mnI R 1 4 by simp [NT, mnI, mexI, skp] <;> grind]; exact hD 4 (by decide)
  · rw [show NT R 1 0 0 * R 0 3 = mnI R 1 8 by simp [NT, mnI, mexI, skp] <;> grind]; exact hD 8 (by decide)
theorem nt_div2 {R : Nat → Nat → Int} {D : Int} (hD : ∀ m ∈ lev 2, D ∣ mnI R 2 m) {T : Nat} (hT : T ∈ lev 1) : ∀ i, i < 4 → D ∣ isum (fun m => NT R 2 T m * R m i) 2 := by
  intro i hi
  simp only [lev, List.mem_cons, List.not_mem_nil, or_false] at hT
  rw [isum_2]
  rcases hT with rfl | rfl | rfl | rfl
  · rcases (show i = 0 ∨ i = 1 ∨ i = 2 ∨ i = 3 by omega) with rfl | rfl | rfl | rfl
    · rw [show NT R 2 1 0 * R 0 0 + NT R 2 1 1 * R 1 0 = 0 by simp [NT, mnI, mexI, skp] <;> grind]; exact Int.dvd_zero D
    · rw [show NT R 2 1 0 * R 0 1 + NT R 2 1 1 * R 1 1 = -mnI R 2 3 by simp [NT, mnI, mexI, skp] <;> grind]; exact (Int.dvd_neg.mpr (hD 3 (by decide)))
    · rw [show NT R 2 1 0 * R 0 2 + NT R 2 1 1 * R 1 2 = -mnI R 2 5 by simp [NT, mnI, mexI, skp] <;> grind]; exact (Int.dvd_neg.mpr (hD 5 (by decide)))
    · rw [show NT R 2 1 0 * R 0 3 + NT R 2 1 1 * R 1 3 = -mnI R 2 9 by simp [NT, mnI, mexI, skp] <;> grind]; exact (Int.dvd_neg.mpr (hD 9 (by decide)))
  · rcases (show i = 0 ∨ i = 1 ∨ i = 2 ∨ i = 3 by omega) with rfl | rfl | rfl | rfl
    · rw [show NT R 2 2 0 * R 0 0 + NT R 2 2 1 * R 1 0 = mnI R 2 3 by simp [NT, mnI, mexI, skp] <;> grind]; exact hD 3 (by decide)
    · rw [show NT R 2 2 0 * R 0 1 + NT R 2 2 1 * R 1 1 = 0 by simp [NT, mnI, mexI, skp] <;> grind]; exact Int.dvd_zero D
    · rw [show NT R 2 2 0 * R 0 2 + NT R 2 2 1 * R 1 2 = -mnI R 2 6 by simp [NT, mnI, mexI, skp] <;> grind]; exact (Int.dvd_neg.mpr (hD 6 (by decide)))
    · rw [show NT R 2 2 0 * R 0 3 + NT R 2 2 1 * R 1 3 = -mnI R 2 10 by simp [NT, mnI, mexI, skp] <;> grind]; exact (Int.dvd_neg.mpr (hD 10 (by decide)))
  · rcases (show i = 0 ∨ i = 1 ∨ i = 2 ∨ i = 3 by omega) with rfl | rfl | rfl | rfl
    · rw [show NT R 2 4 0 * R 0 0 + NT R 2 4 1 * R 1 0 = mnI R 2 5 by simp [NT, mnI, mexI, skp] <;> grind]; exact hD 5 (by decide)
    · rw [show NT R 2 4 0 * R 0 1 + NT R 2 4 1 * R 1 1 = mnI R 2 6 by simp [NT, mnI, mexI, skp] <;> grind]; exact hD 6 (by decide)
    · rw [show NT R 2 4 0 * R 0 2 + NT R 2 4 1 * R 1 2 = 0 by simp [NT, mnI, mexI, skp] <;> grind]; exact Int.dvd_zero D
    · rw [show NT R 2 4 0 * R 0 3 + NT R 2 4 1 * R 1 3 = -mnI R 2 12 by simp [NT, mnI, mexI, skp] <;> grind]; exact (Int.dvd_neg.mpr (hD 12 (by decide)))
  · rcases (show i = 0 ∨ i = 1 ∨ i = 2 ∨ i = 3 by omega) with rfl | rfl | rfl | rfl
    · rw [show NT R 2 8 0 * R 0 0 + NT R 2 8 1 * R 1 0 = mnI R 2 9 by simp [NT, mnI, mexI, skp] <;> grind]; exact hD 9 (by decide)
    · rw [show NT R 2 8 0 * R 0 1 + NT R 2 8 1 * R 1 1 = mnI R 2 10 by simp [NT, mnI, mexI, skp] <;> grind]; exact hD 10 (by decide)
    · rw [show NT R 2 8 0 * R 0 2 + NT R 2 8 1 * R 1 2 = mnI R 2 12 by simp [NT, mnI, mexI, skp] <;> grind]; exact hD 12 (by decide)
    · rw [show NT R 2 8 0 * R 0 3 + NT R 2 8 1 * R 1 3 = 0 by simp [NT, mnI, mexI, skp] <;> grind]; exact Int.dvd_zero D
theorem nt_div3 {R : Nat → Nat → Int} {D : Int} (hD : ∀ m ∈ lev 3, D ∣ mnI R 3 m) {T : Nat} (hT : T ∈ lev 2) : ∀ i, i < 4 → D ∣ isum (fun m => NT R 3 T m * R m i) 3 := by
  intro i hi
  simp only [lev, List.mem_cons, List.not_mem_nil, or_false] at hT
  rw [isum_3]
  rcases hT with rfl | rfl | rfl | rfl | rfl | rfl
  · rcases (show i = 0 ∨ i = 1 ∨ i = 2 ∨ i = 3 by omega) with rfl | rfl | rfl | rfl
    · rw [show NT R 3 3 0 * R 0 0 + NT R 3 3 1 * R 1 0 + NT R 3 3 2 * R 2 0 = 0 by simp [NT, mnI, mexI, skp] <;> grind]; exact Int.dvd_zero D
    · rw [show NT R 3 3 0 * R 0 1 + NT R 3 3 1 * R 1 1 + NT R 3 3 2 * R 2 1 = 0 by simp [NT, mnI, mexI, skp] <;> grind]; exact Int.dvd_zero D
    · rw [show NT R 3 3 0 * R 0 2 + NT R 3 3 1 * R 1 2 + NT R 3 3 2 * R 2 2 = mnI R 3 7 by simp [NT, mnI, mexI, skp] <;> grind]; exact hD 7 (by decide)
    · rw [show NT R 3 3 0 * R 0 3 + NT R 3 3 1 * R 1 3 + NT R 3 3 2 * R 2 3 = mnI R 3 11 by simp [NT, mnI, mexI, skp] <;> grind]; exact hD 11 (by decide)
  · rcases (show i = 0 ∨ i = 1 ∨ i = 2 ∨ i = 3 by omega) with rfl | rfl | rfl | rfl
    · rw [show NT R 3 5 0 * R 0 0 + NT R 3 5 1 * R 1 0 + NT R 3 5 2 * R 2 0 = 0 by simp [NT, mnI, mexI, skp] <;> grind]; exact Int.dvd_zero D
    · rw [show NT R 3 5 0 * R 0 1 + NT R 3 5 1 * R 1 1 + NT R 3 5 2 * R 2 1 = -mnI R 3 7 by simp [NT, mnI, mexI, skp] <;> grind]; exact (Int.dvd_neg.mpr (hD 7 (by decide)))
    · rw [show NT R 3 5 0 * R 0 2 + NT R 3 5 1 * R 1 2 + NT R 3 5 2 * R 2 2 = 0 by simp [NT, mnI, mexI, skp] <;> grind]; exact Int.dvd_zero D
    · rw [show NT R 3 5 0 * R 0 3 + NT R 3 5 1 * R 1 3 + NT R 3 5 2 * R 2 3 = mnI R 3 13 by simp [NT, mnI, mexI, skp] <;> grind]; exact hD 13 (by decide)
  · rcases (show i = 0 ∨ i = 1 ∨ i = 2 ∨ i = 3 by omega) with rfl | rfl | rfl | rfl
    · rw [show NT R 3 6 0 * R 0 0 + NT R 3 6 1 * R 1 0 + NT R 3 6 2 * R 2 0 = mnI R 3 7 by simp [NT, mnI, mexI, skp] <;> grind]; exact hD 7 (by decide)
    · rw [show NT R 3 6 0 * R 0 1 + NT R 3 6 1 * R 1 1 + NT R 3 6 2 * R 2 1 = 0 by simp [NT, mnI, mexI, skp] <;> grind]; exact Int.dvd_zero D
    · rw [show NT R 3 6 0 * R 0 2 + NT R 3 6 1 * R 1 2 + NT R 3 6 2 * R 2 2 = 0 by simp [NT, mnI, mexI, skp] <;> grind]; exact Int.dvd_zero D
    · rw [show NT R 3 6 0 * R 0 3 + NT R 3 6 1 * R 1 3 + NT R 3 6 2 * R 2 3 = mnI R 3 14 by simp [NT, mnI, mexI, skp] <;> grind]; exact hD 14 (by decide)
  · rcases (show i = 0 ∨ i = 1 ∨ i = 2 ∨ i = 3 by omega) with rfl | rfl | rfl | rfl
    · rw [show NT R 3 9 0 * R 0 0 + NT R 3 9 1 * R 1 0 + NT R 3 9 2 * R 2 0 = 0 by simp [NT, mnI, mexI, skp] <;> grind]; exact Int.dvd_zero D
    · rw [show NT R 3 9 0 * R 0 1 + NT R 3 9 1 * R 1 1 + NT R 3 9 2 * R 2 1 = -mnI R 3 11 by simp [NT, mnI, mexI, skp] <;> grind]; exact (Int.dvd_neg.mpr (hD 11 (by decide)))
    · rw [show NT R 3 9 0 * R 0 2 + NT R 3 9 1 * R 1 2 + NT R 3 9 2 * R 2 2 = -mnI R 3 13 by simp [NT, mnI, mexI, skp] <;> grind]; exact (Int.dvd_neg.mpr (hD 13 (by decide)))
    · rw [show NT R 3 9 0 * R 0 3 + NT R 3 9 1 * R 1 3 + NT R 3 9 2 * R 2 3 = 0 by simp [NT, mnI, mexI, skp] <;> grind]; exact Int.dvd_zero D
  · rcases (show i = 0 ∨ i = 1 ∨ i = 2 ∨ i = 3 by omega) with rfl | rfl | rfl | rfl
    · rw [show NT R 3 10 0 * R 0 0 + NT R 3 10 1 * R 1 0 + NT R 3 10 2 * R 2 0 = mnI R 3 11 by simp [NT, mnI, mexI, skp] <;> grind]; exact hD 11 (by decide)
    · rw [show NT R 3 10 0 * R 0 1 + NT R 3 10 1 * R 1 1 + NT R 3 10 2 * R 2 1 = 0 by simp [NT, mnI, mexI, skp] <;> grind]; exact Int.dvd_zero D
    · rw [show NT R 3 10 0 * R 0 2 + NT R 3 10 1 * R 1 2 + NT R 3 10 2 * R 2 2 = -mnI R 3 14 by simp [NT, mnI, mexI, skp] <;> grind]; exact (Int.dvd_neg.mpr (hD 14 (by decide)))
    · rw [show NT R 3 10 0 * R 0 3 + NT R 3 10 1 * R 1 3 + NT R 3 10 2 * R 2 3 = 0 by simp [NT, mnI, mexI, skp] <;> grind]; exact Int.dvd_zero D
  · rcases (show i = 0 ∨ i = 1 ∨ i = 2 ∨ i = 3 by omega) with rfl | rfl | rfl | rfl
    · rw [show NT R 3 12 0 * R 0 0 + NT R 3 12 1 * R 1 0 + NT R 3 12 2 * R 2 0 = mnI R 3 13 by simp [NT, mnI, mexI, skp] <;> grind]; exact hD 13 (by decide)
    · rw [show NT R 3 12 0 * R 0 1 + NT R 3 12 1 * R 1 1 + NT R 3 12 2 * R 2 1 = mnI R 3 14 by simp [NT, mnI, mexI, skp] <;> grind]; exact hD 14 (by decide)
    · rw [show NT R 3 12 0 * R 0 2 + NT R 3 12 1 * R 1 2 + NT R 3 12 2 * R 2 2 = 0 by simp [NT, mnI, mexI, skp] <;> grind]; exact Int.dvd_zero D
    · rw [show NT R 3 12 0 * R 0 3 + NT R 3 12 1 * R 1 3 + NT R 3 12 2 * R 2 3 = 0 by simp [NT, mnI, mexI, skp] <;> grind]; exact Int.dvd_zero D
theorem nt_div4 {R : Nat → Nat → Int} {D : Int} (hD : ∀ m ∈ lev 4, D ∣ mnI R 4 m) {T : Nat} (hT : T ∈ lev 3) : ∀ i, i < 4 → D ∣ isum (fun m => NT R 4 T m * R m i) 4 := by
  intro i hi
  simp only [lev, List.mem_cons, List.not_mem_nil, or_false] at hT
  rw [isum_4]
  rcases hT with rfl | rfl | rfl | rfl
  · rcases (show i = 0 ∨ i = 1 ∨ i = 2 ∨ i = 3 by omega) with rfl | rfl | rfl | rfl
    · rw [show NT R 4 7 0 * R 0 0 + NT R 4 7 1 * R 1 0 + NT R 4 7 2 * R 2 0 + NT R 4 7 3 * R 3 0 = 0 by simp [NT, mnI, mexI, skp] <;> grind]; exact Int.dvd_zero D
    · rw [show NT R 4 7 0 * R 0 1 + NT R 4 7 1 * R 1 1 + NT R 4 7 2 * R 2 1 + NT R 4 7 3 * R 3 1 = 0 by simp [NT, mnI, mexI, skp] <;> grind]; exact Int.dvd_zero D
    · rw [show NT R 4 7 0 * R 0 2 + NT R 4 7 1 * R 1 2 + NT R 4 7 2 * R 2 2 + NT R 4 7 3 * R 3 2 = 0 by simp [NT, mnI, mexI, skp] <;> grind]; exact Int.dvd_zero D
    · rw [show NT R 4 7 0 * R 0 3 + NT R 4 7 1 * R 1 3 + NT R 4 7 2 * R 2 3 + NT R 4 7 3 * R 3 3 = -mnI R 4 15 by simp [NT, mnI, mexI, skp] <;> grind]; exact (Int.dvd_neg.mpr (hD 15 (by decide)))
  · rcases (show i = 0 ∨ i = 1 ∨ i = 2 ∨ i = 3 by omega) with rfl | rfl | rfl | rfl
    · rw [show NT R 4 11 0 * R 0 0 + NT R 4 11 1 * R 1 0 + NT R 4 11 2 * R 2 0 + NT R 4 11 3 * R 3 0 = 0 by simp [NT, mnI, mexI, skp] <;> grind]; exact Int.dvd_zero D
    · rw [show NT R 4 11 0 * R 0 1 + NT R 4 11 1 * R 1 1 + NT R 4 11 2 * R 2 1 + NT R 4 11 3 * R 3 1 = 0 by simp [NT, mnI, mexI, skp] <;> grind]; exact Int.dvd_zero D
    · rw [show NT R 4 11 0 * R 0 2 + NT R 4 11 1 * R 1 2 + NT R 4 11 2 * R 2 2 + NT R 4 11 3 * R 3 2 = mnI R 4 15 by simp [NT, mnI, mexI, skp] <;> grind]; exact hD 15 (by decide)
    · rw [show NT R 4 11 0 * R 0 3 + NT R 4 11 1 * R 1 3 + NT R 4 11 2 * R 2 3 + NT R 4 11 3 * R 3 3 = 0 by simp [NT, mnI, mexI, skp] <;> grind]; exact Int.dvd_zero D
  · rcases (show i = 0 ∨ i = 1 ∨ i = 2 ∨ i = 3 by omega) with rfl | rfl | rfl | rfl
    · rw [show NT R 4 13 0 * R 0 0 + NT R 4 13 1 * R 1 0 + NT R 4 13 2 * R 2 0 + NT R 4 13 3 * R 3 0 = 0 by simp [NT, mnI, mexI, skp] <;> grind]; exact Int.dvd_zero D
    · rw [show NT R 4 13 0 * R 0 1 + NT R 4 13 1 * R 1 1 + NT R 4 13 2 * R 2 1 + NT R 4 13 3 * R 3 1 = -mnI R 4 15 by simp [NT, mnI, mexI, skp] <;> grind]; exact (Int.dvd_neg.mpr (hD 15 (by decide)))
    · rw [show NT R 4 13 0 * R 0 2 + NT R 4 13 1 * R 1 2 + NT R 4 13 2 * R 2 2 + NT R 4 13 3 * R 3 2 = 0 by simp [NT, mnI, mexI, skp] <;> grind]; exact Int.dvd_zero D
    · rw [show NT R 4 13 0 * R 0 3 + NT R 4 13 1 * R 1 3 + NT R 4 13 2 * R 2 3 + NT R 4 13 3 * R 3 3 = 0 by simp [NT, mnI, mexI, skp] <;> grind]; exact Int.dvd_zero D
  · rcases (show i = 0 ∨ i = 1 ∨ i = 2 ∨ i = 3 by omega) with rfl | rfl | rfl | rfl
    · rw [show NT R 4 14 0 * R 0 0 + NT R 4 14 1 * R 1 0 + NT R 4 14 2 * R 2 0 + NT R 4 14 3 * R 3 0 = mnI R 4 15 by simp [NT, mnI, mexI, skp] <;> grind]; exact hD 15 (by decide)
    · rw [show NT R 4 14 0 * R 0 1 + NT R 4 14 1 * R 1 1 + NT R 4 14 2 * R 2 1 + NT R 4 14 3 * R 3 1 = 0 by simp [NT, mnI, mexI, skp] <;> grind]; exact Int.dvd_zero D
    · rw [show NT R 4 14 0 * R 0 2 + NT R 4 14 1 * R 1 2 + NT R 4 14 2 * R 2 2 + NT R 4 14 3 * R 3 2 = 0 by simp [NT, mnI, mexI, skp] <;> grind]; exact Int.dvd_zero D
    · rw [show NT R 4 14 0 * R 0 3 + NT R 4 14 1 * R 1 3 + NT R 4 14 2 * R 2 3 + NT R 4 14 3 * R 3 3 = 0 by simp [NT, mnI, mexI, skp] <;> grind]; exact Int.dvd_zero D
theorem nt_div {R : Nat → Nat → Int} {D : Int} {k : Nat} (h1 : 1 ≤ k) (h4 : k ≤ 4) (hD : ∀ m ∈ lev k, D ∣ mnI R k m) {T : Nat} (hT : T ∈ lev (k - 1)) : ∀ i, i < 4 → D ∣ isum (fun m => NT R k T m * R m i) k := by
  rcases (show k = 1 ∨ k = 2 ∨ k = 3 ∨ k = 4 by omega) with rfl | rfl | rfl | rfl
  · exact nt_div1 hD hT
  · exact nt_div2 hD hT
  · exact nt_div3 hD hT
  · exact nt_div4 hD hT
theorem fsi_val {ix : Int32} {fa : Nat → Int64} {q k0 : Nat} {f : Nat → Int32} : ∀ t j, fsi ix fa q k0 t f j = if k0 ≤ j ∧ j < k0 + t then f j ||| rsf ix (sgn q (fa (chN j))) <<< (nI (q * 4) &&& 31) else f j
  | 0, j => by rw [if_neg (by omega)]; rfl
  | t + 1, j => by
    rw [fsi_s rfl]
    unfold upd
    have ih := fsi_val (ix := ix) (fa := fa) (q := q) (k0 := k0) (f := f) t
    by_cases e : j = k0 + t
    · rw [if_pos e, ih, if_neg (by omega), if_pos (by omega), e]
    · rw [if_neg e, ih j]
      by_cases w : k0 ≤ j ∧ j < k0 + t
      · rw [if_pos w, if_pos (by omega)]
      · rw [if_neg w, if_neg (by omega)]
theorem z16_at {g : Nat → Int32} : ∀ t, t < 16 → z16 g t = 0 := by
  intro t ht
  unfold z16 upd
  rcases (show t = 0 ∨ t = 1 ∨ t = 2 ∨ t = 3 ∨ t = 4 ∨ t = 5 ∨ t = 6 ∨ t = 7 ∨ t = 8 ∨ t = 9 ∨ t = 10 ∨ t = 11 ∨ t = 12 ∨ t = 13 ∨ t = 14 ∨ t = 15 by omega) with rfl | rfl | rfl | rfl | rfl | rfl | rfl | rfl | rfl | rfl | rfl | rfl | rfl | rfl | rfl | rfl <;> rfl
theorem csN_16 {j : Nat} (h : j ≤ 5) : csN j ≤ 16 := by
  have h1 : ∀ j, j < 6 → csN j ≤ 16 := by decide +kernel
  exact h1 j (by omega)
/-- the shares of a step -/
def rst0 (R : Nat → Nat → Int) (k : Nat) (D : Nat) (T m : Nat) : Nat := (NT R k T m % (D : Int)).toNat
theorem rst0_lt {R : Nat → Nat → Int} {k D T m : Nat} (h1 : 1 ≤ D) : rst0 R k D T m < D ∧ ((rst0 R k D T m : Nat) : Int) = NT R k T m % (D : Int) := by
  have a := Int.emod_nonneg (NT R k T m) (show ¬ (D : Int) = 0 by omega)
  have b := Int.emod_lt_of_pos (NT R k T m) (show (0 : Int) < D by omega)
  unfold rst0
  omega
/-- a simplex of the class, with its INDEX -/
def SPX (pf yf : Nat → Int32) (yn ch k D : Nat) : Prop := (∀ i, i < 4 * yn → pf i = yf i) ∧ (∀ c, c < yn → ∀ i, i < 4 → (wr yf c i).natAbs ≤ 649) ∧ (lst pf ch yn).1 = k ∧ mny ch yn = k ∧ 1 ≤ k ∧ k ≤ 4 ∧ 1 ≤ D ∧ D ≤ 12 ∧ GC (D : Int) (mnI (fun l => wr yf (Jn ch yn l)) k) (lev k)
theorem stp_val {pf yf sf : Nat → Int32} {yn ch k D : Nat} {ek : Nat → Nat} (h : SPX pf yf yn ch k D) (he : ∀ j, j < k → ek j = Jn ch yn j) : ∀ q, q ≤ k → ∀ t, t < 16 → stp (nI D) pf yn ch ek q (z16 sf) t = if csN (k - 1) ≤ t ∧ t < csN k then nI (esum (fun m => rst0 (fun l => wr yf (Jn ch yn l)) k D (chN t) m) q) else 0
  | 0, _, t, ht => by
    show z16 sf t = _
    rw [z16_at t ht]
    split <;> rfl
  | q + 1, hq, t, ht => by
    have ih := stp_val (sf := sf) h he q (by omega)
    obtain ⟨hf, hb, hl, hm, k1, k4, D1, D12, -⟩ := h
    obtain ⟨d1, d2⟩ := lst_del (q := q) hf hb (by rw [hl, hm]) (by omega)
    rw [hm] at d1 d2
    show fsi (nI D) (lst pf (ch ^^^ (ch &&& 2 ^ ek q)) yn).2 q (csN (lst pf (ch ^^^ (ch &&& 2 ^ ek q)) yn).1) (csN ((lst pf (ch ^^^ (ch &&& 2 ^ ek q)) yn).1 + 1) - csN (lst pf (ch ^^^ (ch &&& 2 ^ ek q)) yn).1) (stp (nI D) pf yn ch ek q (z16 sf)) t = _
    rw [he q (by omega), fsi_val, d1, show k - 1 + 1 = k by omega]
    have mono := csN_mono (j := k - 1) (by omega)
    rw [show k - 1 + 1 = k by omega] at mono
    by_cases c : csN (k - 1) ≤ t ∧ t < csN k
    · rw [if_pos (by omega), if_pos c, ih t ht, if_pos c]
      have hT : chN t ∈ lev (k - 1) := by
        have := chN_lev (j := k - 1) (t := t - csN (k - 1)) (by omega) (by rw [show k - 1 + 1 = k by omega]; omega)
        rw [show csN (k - 1) + (t - csN (k - 1)) = t by omega] at this
        exact this
      obtain ⟨v1, v2⟩ := d2 _ hT
      have sv := sgn_val (q := q) (by omega) v2
      have e1 : rsf (nI D) (sgn q ((lst pf (ch ^^^ (ch &&& 2 ^ Jn ch yn q)) yn).2 (chN t))) = nI (rst0 (fun l => wr yf (Jn ch yn l)) k D (chN t) q) := by
        rw [rsf_val D1 D12 (by rw [sv]; split <;> omega), sv, v1]; rfl
      obtain ⟨r1, -⟩ := rst0_lt (R := fun l => wr yf (Jn ch yn l)) (k := k) (T := chN t) (m := q) D1
      rw [e1, show q * 4 = 4 * q by omega, shl4 (by omega) (by omega), nI_or, or_add (esum_lt q (fun m hm9 => by
        have := (rst0_lt (R := fun l => wr yf (Jn ch yn l)) (k := k) (T := chN t) (m := m) D1).1
        show rst0 _ _ _ _ _ < 16
        omega))]
      rfl
    · rw [if_neg (by omega), if_neg c, ih t ht, if_neg c]
-- the mixes
/-- a mix that stands for a whole point -/
def VMX (R : Nat → Nat → Int) (k D A : Nat) : Prop := A < 16 ^ k ∧ (∀ m, m < k → nib A m < D) ∧ inG R k D (fun m => (nib A m : Int))
theorem nib_ext {A B : Nat} : ∀ k, A < 16 ^ k → B < 16 ^ k → (∀ m, m < k → nib A m = nib B m) → A = B
  | 0, ha, hb, _ => by simp at ha hb; omega
  | k + 1, ha, hb, h => by
    have key : ∀ A, A < 16 ^ (k + 1) → A = A % 16 ^ k + nib A k * 16 ^ k := fun A hA => by
      have hp : 0 < 16 ^ k := Nat.pow_pos (by decide)
      have : A / 16 ^ k < 16 := Nat.div_lt_of_lt_mul (by rw [Nat.pow_succ] at hA; exact hA)
      unfold nib
      rw [Nat.mod_eq_of_lt this]
      have := Nat.div_add_mod A (16 ^ k)
      rw [Nat.mul_comm] at this; omega
    have low : ∀ A m, m < k → nib (A % 16 ^ k) m = nib A m := fun A m hm => by
      unfold nib
      have e2 : 16 ^ k = 16 ^ m * (16 * 16 ^ (k - m - 1)) := by rw [← Nat.pow_succ', ← Nat.pow_add]; congr 1; omega
      rw [e2, Nat.mod_mul_right_div_self, Nat.mod_mul_right_mod]
    have hp : 0 < 16 ^ k := Nat.pow_pos (by decide)
    have ih := nib_ext (A := A % 16 ^ k) (B := B % 16 ^ k) k (Nat.mod_lt _ hp) (Nat.mod_lt _ hp) (fun m hm => by rw [low A m hm, low B m hm]; exact h m (by omega))
    rw [key A ha, key B hb, ih, h k (by omega)]
/-- a list of different mixes -/
def VML (R : Nat → Nat → Int) (k D n : Nat) (f : Nat → Int32) (a : Nat → Nat) : Prop := (∀ j, j < n → f j = nI (a j) ∧ VMX R k D (a j)) ∧ ∀ i j, i < j → j < n → ¬ a i = a j
theorem VML.le {R : Nat → Nat → Int} {k D n : Nat} {f : Nat → Int32} {a : Nat → Nat} (h : VML R k D n f a) (hk : k ≤ 4) (D1 : 1 ≤ D) (hD : GC (D : Int) (mnI R k) (lev k)) : n ≤ D := by
  obtain ⟨v, ds⟩ := h
  have hne : ∃ m ∈ lev k, ¬ mnI R k m = 0 := Classical.byContradiction (fun z => by
    have := hD.2.2 0 (fun m hm => by rw [show mnI R k m = 0 from Classical.byContradiction (fun w => z ⟨m, hm, w⟩)]; exact Int.dvd_refl 0)
    have := Int.zero_dvd.mp this
    omega)
  obtain ⟨g, sg, hg, hgc, hsg⟩ := shares_le (R := R) (D := (D : Int)) (by omega) k hk hne
  have eg : g = D := hgc.uniq hD
  subst eg
  refine php1 (O := fun s i => sg (fun m => (nib (a i) m : Int)) = s) (fun s i j hi hj e1 e2 => ?_) (fun i hi => ⟨sg (fun m => (nib (a i) m : Int)), by have := (hsg _ (v i hi).2.2.2).1; omega, rfl⟩)
  have := (hsg _ (v i hi).2.2.2).2 _ (v j hj).2.2.2 (e1.trans e2.symm)
  have e : a i = a j := nib_ext k (v i hi).2.1 (v j hj).2.1 (fun m hm => by have := this m hm; omega)
  refine Classical.byContradiction (fun ne => ?_)
  rcases Nat.lt_or_gt_of_ne ne with z | z
  · exact ds i j z hj e
  · exact ds j i z hi e.symm
theorem im_has {R : Nat → Nat → Int} {k D n A : Nat} {f : Nat → Int32} {a : Nat → Nat} (h : VML R k D n f a) (hk : k ≤ 4) (D1 : 1 ≤ D) (D12 : D ≤ 12) (hD : GC (D : Int) (mnI R k) (lev k)) (hA : VMX R k D A) : ∃ a', VML R k D (imN n f (nI A)) (imF n f (nI A)) a' ∧ n ≤ imN n f (nI A) ∧ (∀ j, j < n → imF n f (nI A) j = f j ∧ a' j = a j) ∧ ∃ j, j < imN n f (nI A) ∧ a' j = A := by
  have l16 := p16 hk
  have add : (∀ j, j < n → ¬ a j = A) → VML R k D (n + 1) (upd f n (nI A)) (updN a n A) := fun hn => by
    refine ⟨fun j hj => ?_, fun i j hij hj => ?_⟩
    · by_cases e : j = n
      · subst e
        unfold upd updN
        rw [if_pos rfl, if_pos rfl]; exact ⟨rfl, hA⟩
      · unfold upd updN
        rw [if_neg e, if_neg e]; exact h.1 j (by omega)
    · show ¬ (if i = n then A else a i) = (if j = n then A else a j)
      by_cases e : j = n
      · rw [if_neg (by omega), if_pos e]; exact hn i (by omega)
      · rw [if_neg (by omega), if_neg e]; exact h.2 i j hij (by omega)
  by_cases c : imC n f (nI A)
  · rw [imN_y c, imF_y c]
    refine ⟨updN a n A, add (fun j hj z => c.1 j hj (by rw [(h.1 j hj).1, z])), by omega, fun j hj => ⟨by unfold upd; rw [if_neg (by omega)], by unfold updN; rw [if_neg (by omega)]⟩, n, by omega, by unfold updN; rw [if_pos rfl]⟩
  · rw [imN_n c, imF_n c]
    refine ⟨a, h, Nat.le_refl n, fun _ _ => ⟨rfl, rfl⟩, ?_⟩
    refine Classical.byContradiction (fun z => ?_)
    have hn : ∀ j, j < n → ¬ a j = A := fun j hj e => z ⟨j, hj, e⟩
    have := (add hn).le hk D1 hD
    refine c ⟨fun j hj e => hn j hj ?_, by omega⟩
    rw [(h.1 j hj).1] at e
    have l1 := (h.1 j hj).2.1
    exact nI_inj (by omega) (by have := hA.1; omega) e
/-- the sum of a mix and a step -/
def amx (D k A B : Nat) : Nat := esum (fun m => (nib A m + nib B m) % D) k
theorem amx_nib {D k A B : Nat} (D1 : 1 ≤ D) (D12 : D ≤ 12) : ∀ m, m < k → nib (amx D k A B) m = (nib A m + nib B m) % D := esum_nib k (fun m _ => by
  have := Nat.mod_lt (nib A m + nib B m) (show D > 0 by omega)
  show (nib A m + nib B m) % D < 16
  omega)
theorem VMX.add {R : Nat → Nat → Int} {k D A B : Nat} (D1 : 1 ≤ D) (D12 : D ≤ 12) (hA : VMX R k D A) (hB : VMX R k D B) : VMX R k D (amx D k A B) := by
  have nb := amx_nib (k := k) (A := A) (B := B) D1 D12
  refine ⟨esum_lt k (fun m _ => by
    have := Nat.mod_lt (nib A m + nib B m) (show D > 0 by omega)
    show (nib A m + nib B m) % D < 16
    omega), fun m hm => by rw [nb m hm]; exact Nat.mod_lt _ (by omega), fun m hm => ?_, ?_⟩
  · show 0 ≤ (nib (amx D k A B) m : Int) ∧ (nib (amx D k A B) m : Int) < D
    rw [nb m hm]
    have := Nat.mod_lt (nib A m + nib B m) (show D > 0 by omega)
    omega
  · obtain ⟨-, -, -, x, hx⟩ := hA
    obtain ⟨-, -, -, y, hy⟩ := hB
    refine ⟨fun i => x i + y i - isum (fun m => (((nib A m + nib B m) / D : Nat) : Int) * R m i) k, fun i hi => ?_⟩
    have h1 := hx i hi
    have h2 := hy i hi
    have h3 : isum (fun m => (nib (amx D k A B) m : Int) * R m i) k = isum (fun m => (nib A m : Int) * R m i) k + isum (fun m => (nib B m : Int) * R m i) k + -(D : Int) * isum (fun m => (((nib A m + nib B m) / D : Nat) : Int) * R m i) k := by
      rw [← isum_mul, ← isum_add, ← isum_add]
      refine isum_congr k (fun m hm => ?_)
      rw [nb m hm]
      have := Nat.div_add_mod (nib A m + nib B m) D
      have e : (((nib A m + nib B m) % D : Nat) : Int) = (nib A m : Int) + nib B m - D * (((nib A m + nib B m) / D : Nat) : Int) := by
        have : ((D * ((nib A m + nib B m) / D) + (nib A m + nib B m) % D : Nat) : Int) = ((nib A m + nib B m : Nat) : Int) := by rw [this]
        rw [Int.natCast_add, Int.natCast_mul, Int.natCast_add] at this
        omega
      rw [e]; grind
    rw [h3, ← h1, ← h2]; grind
/-- all mixes are found -/
theorem fmi_has {R : Nat → Nat → Int} {k D n m : Nat} {f sf : Nat → Int32} {a B : Nat → Nat} (hk : k ≤ 4) (D1 : 1 ≤ D) (D12 : D ≤ 12) (hD : GC (D : Int) (mnI R k) (lev k)) (hB : ∀ t, t < 16 → sf t = nI (B t) ∧ VMX R k D (B t)) (h : VML R k D n f a) (hm : m < n) : ∀ q, q ≤ 16 → ∃ a', VML R k D (fmi (nI D) k sf m q (n, f)).1 (fmi (nI D) k sf m q (n, f)).2 a' ∧ n ≤ (fmi (nI D) k sf m q (n, f)).1 ∧ (∀ j, j < n → (fmi (nI D) k sf m q (n, f)).2 j = f j ∧ a' j = a j) ∧ ∀ t, t < q → ¬ sf t = 0 → ∃ j, j < (fmi (nI D) k sf m q (n, f)).1 ∧ a' j = amx D k (a m) (B t)
  | 0, _ => ⟨a, h, Nat.le_refl n, fun _ _ => ⟨rfl, rfl⟩, fun t ht => absurd ht (by omega)⟩
  | q + 1, hq => by
    obtain ⟨a', v, hn, ho, hc⟩ := fmi_has hk D1 D12 hD hB h hm q (by omega)
    by_cases z : sf q = 0
    · rw [fmi_n z]
      refine ⟨a', v, hn, ho, fun t ht nz => ?_⟩
      by_cases e : t = q
      · rw [e] at nz; exact absurd z nz
      · exact hc t (by omega) nz
    · rw [fmi_y (n := (fmi (nI D) k sf m q (n, f)).1) (f := (fmi (nI D) k sf m q (n, f)).2) rfl z]
      generalize (fmi (nI D) k sf m q (n, f)).1 = n2 at *
      generalize (fmi (nI D) k sf m q (n, f)).2 = f2 at *
      have l16 := p16 hk
      obtain ⟨fm, vm⟩ := h.1 m hm
      obtain ⟨fb, vb⟩ := hB q (by omega)
      have l1 := vm.1
      have l2 := vb.1
      have e : smf (nI D) (f2 m) (sf q) k = nI (amx D k (a m) (B q)) := by
        rw [(ho m hm).1, fm, fb]
        exact smf_val D12 (by omega) (by omega) k hk (fun i hi => ⟨vm.2.1 i hi, vb.2.1 i hi⟩)
      show ∃ a', VML R k D (imN n2 f2 (smf (nI D) (f2 m) (sf q) k)) (imF n2 f2 (smf (nI D) (f2 m) (sf q) k)) a' ∧ _
      simp only [e]
      obtain ⟨a2, v2, hn2, ho2, j2, hj2, ej2⟩ := im_has v hk D1 D12 hD (vm.add D1 D12 vb)
      refine ⟨a2, v2, by omega, fun j hj => ⟨((ho2 j (by omega)).1).trans (ho j hj).1, ((ho2 j (by omega)).2).trans (ho j hj).2⟩, fun t ht nz => ?_⟩
      by_cases w : t = q
      · subst w; exact ⟨j2, hj2, ej2⟩
      · obtain ⟨j, j1, j3⟩ := hc t (by omega) nz
        exact ⟨j, by omega, ((ho2 j j1).2).trans j3⟩
theorem fmo_has {R : Nat → Nat → Int} {k D : Nat} {f0 sf : Nat → Int32} {B : Nat → Nat} (hk : k ≤ 4) (D1 : 1 ≤ D) (D12 : D ≤ 12) (hD : GC (D : Int) (mnI R k) (lev k)) (hB : ∀ t, t < 16 → sf t = nI (B t) ∧ VMX R k D (B t)) (hf : f0 0 = 0) (h0 : VMX R k D 0) : ∀ z, z ≤ 12 → ∃ a, VML R k D (fmo (nI D) k sf z (1, f0)).1 (fmo (nI D) k sf z (1, f0)).2 a ∧ 0 < (fmo (nI D) k sf z (1, f0)).1 ∧ a 0 = 0 ∧ ∀ i, i < z → i < (fmo (nI D) k sf z (1, f0)).1 → ∀ t, t < 16 → ¬ sf t = 0 → ∃ j, j < (fmo (nI D) k sf z (1, f0)).1 ∧ a j = amx D k (a i) (B t)
  | 0, _ => by
    refine ⟨fun _ => 0, ⟨fun j hj => ?_, fun i j hij hj => ?_⟩, by show 0 < 1; decide, rfl, fun i hi => absurd hi (by omega)⟩
    · have hj : j < 1 := hj
      obtain rfl : j = 0 := by omega
      exact ⟨hf, h0⟩
    · have hj : j < 1 := hj
      omega
  | z + 1, hz => by
    obtain ⟨a, v, hp, a0, hc⟩ := fmo_has hk D1 D12 hD hB hf h0 z (by omega)
    by_cases c : z < (fmo (nI D) k sf z (1, f0)).1
    · rw [fmo_s (n := (fmo (nI D) k sf z (1, f0)).1) (f := (fmo (nI D) k sf z (1, f0)).2) (n4 := (fmi (nI D) k sf z 16 ((fmo (nI D) k sf z (1, f0)).1, (fmo (nI D) k sf z (1, f0)).2)).1) (f4 := (fmi (nI D) k sf z 16 ((fmo (nI D) k sf z (1, f0)).1, (fmo (nI D) k sf z (1, f0)).2)).2) rfl c rfl]
      generalize (fmo (nI D) k sf z (1, f0)).1 = n at *
      generalize (fmo (nI D) k sf z (1, f0)).2 = f at *
      obtain ⟨a', v', hn, ho, hc'⟩ := fmi_has hk D1 D12 hD hB v c 16 (Nat.le_refl _)
      generalize (fmi (nI D) k sf z 16 (n, f)).1 = n2 at *
      generalize (fmi (nI D) k sf z 16 (n, f)).2 = f2 at *
      refine ⟨a', v', by show 0 < n2; omega, by rw [(ho 0 hp).2]; exact a0, fun i hi hin t ht nz => ?_⟩
      have hin : i < n2 := hin
      by_cases e : i = z
      · subst e
        rw [(ho i c).2]
        exact hc' t ht nz
      · obtain ⟨j, j1, j2⟩ := hc i (by omega) (by omega) t ht nz
        rw [(ho i (by omega)).2]
        exact ⟨j, by show j < n2; omega, ((ho j j1).2).trans j2⟩
    · have e : fmo (nI D) k sf (z + 1) (1, f0) = fmo (nI D) k sf z (1, f0) := if_neg c
      rw [e]
      exact ⟨a, v, hp, a0, fun i hi hin => hc i (by omega) hin⟩
