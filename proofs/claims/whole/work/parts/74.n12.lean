/-! ===== own rows: class and reference, 12 ===== -/
-- the class's common divisor
theorem mod_half {b r : Nat} (hr : 0 < r) (hrb : r < b) : 2 * (b % r) < b := by
  have h1 := Nat.mod_lt b hr
  by_cases h : 2 * r ≤ b
  · omega
  · have : b % r = b - r := by
      rw [Nat.mod_eq_sub_mod (by omega), Nat.mod_eq_of_lt (by omega)]
    omega
theorem cdv_gcw : ∀ (k n : Nat) (a b : Int64), 0 ≤ a.toInt → 0 ≤ b.toInt → b.toInt.toNat < 2 ^ k → 2 * k ≤ n → cdv n a b = gcw a b
  | 0, n, a, b, _, hb, hk, _ => by
    have : b = 0 := i64_zero.mpr (by omega)
    rw [gcw_0 this, cdv_end (Or.inr this)]
  | k + 1, n, a, b, ha, hb, hk, hn => by
    by_cases h0 : b = 0
    · rw [gcw_0 h0, cdv_end (Or.inr h0)]
    · have hb0 : ¬ b.toInt = 0 := fun z => h0 (i64_zero.mpr z)
      obtain ⟨e1, l1⟩ := lrem_int a b h0
      rw [gcw_s h0, cdv_step (by omega) h0]
      generalize a - a / b * b = r at e1
      have hr0 : 0 ≤ r.toInt := by rw [e1]; exact Int.tmod_nonneg _ ha
      have hrb : r.toInt < b.toInt := by rw [← e1] at l1; omega
      by_cases hr : r = 0
      · rw [gcw_0 hr, cdv_end (Or.inr hr)]
      · have hrz : ¬ r.toInt = 0 := fun z => hr (i64_zero.mpr z)
        obtain ⟨e2, l2⟩ := lrem_int b r hr
        rw [gcw_s hr, cdv_step (by omega) hr]
        have h2 : (b - b / r * r).toInt = ((b.toInt.toNat % r.toInt.toNat : Nat) : Int) := by
          rw [e2]
          rw [Int.tmod_eq_emod_of_nonneg hb, Int.natCast_emod, Int.toNat_of_nonneg hb, Int.toNat_of_nonneg hr0]
        have hh := mod_half (b := b.toInt.toNat) (r := r.toInt.toNat) (by omega) (by omega)
        refine cdv_gcw k (n - 1 - 1) r _ hr0 (by rw [h2]; omega) ?_ (by omega)
        rw [h2, Int.toNat_natCast]
        rw [Nat.pow_succ] at hk
        omega
theorem labs_int {x : Int64} (h : ¬ x.toInt = -2 ^ 63) : (labs x).toInt = x.toInt.natAbs := by
  unfold labs
  have h1 := x.toInt_lt
  have h2 := x.le_toInt
  by_cases e : 0 < x
  · rw [if_pos e]
    rw [Int64.lt_iff_toInt_lt, show (0 : Int64).toInt = 0 by decide] at e
    omega
  · rw [if_neg e, Int64.toInt_neg]
    rw [Int64.lt_iff_toInt_lt, show (0 : Int64).toInt = 0 by decide] at e
    rw [Int.bmod_eq_of_le (by omega) (by omega)]
    omega
/-- g is the common divisor of the numbers f m, m among ms -/
def GC (g : Int) (f : Nat → Int) (ms : List Nat) : Prop := 0 ≤ g ∧ (∀ m ∈ ms, g ∣ f m) ∧ ∀ d : Int, (∀ m ∈ ms, d ∣ f m) → d ∣ g
theorem cdv_step_gcd {d b : Int64} (hd : 0 ≤ d.toInt) (hb : b.toInt.natAbs < 2 ^ 40) : 0 ≤ (cdv 100 d (labs b)).toInt ∧ (cdv 100 d (labs b)).toInt ∣ d.toInt ∧ (cdv 100 d (labs b)).toInt ∣ b.toInt ∧ ∀ e : Int, e ∣ d.toInt → e ∣ b.toInt → e ∣ (cdv 100 d (labs b)).toInt := by
  have hl := labs_int (x := b) (by omega)
  rw [cdv_gcw 40 100 d (labs b) hd (by rw [hl]; omega) (by rw [hl, Int.toNat_natCast]; exact hb) (by decide)]
  obtain ⟨g1, g2⟩ := gcw_dvd _ d (labs b) rfl
  rw [hl] at g2
  refine ⟨gcw_nn _ _ _ rfl hd (by rw [hl]; omega), g1, Int.dvd_natAbs.mp g2, fun e h1 h2 => gcw_of_dvd _ _ _ rfl h1 (by rw [hl]; exact Int.dvd_natAbs.mpr h2)⟩
theorem cdl_fold {f : Nat → Int64} : ∀ (ms : List Nat) (d : Int64), 0 ≤ d.toInt → (∀ m ∈ ms, (f m).toInt.natAbs < 2 ^ 40) → 0 ≤ (ms.foldl (fun d m => cdv 100 d (labs (f m))) d).toInt ∧ (ms.foldl (fun d m => cdv 100 d (labs (f m))) d).toInt ∣ d.toInt ∧ (∀ m ∈ ms, (ms.foldl (fun d m => cdv 100 d (labs (f m))) d).toInt ∣ (f m).toInt) ∧ ∀ e : Int, e ∣ d.toInt → (∀ m ∈ ms, e ∣ (f m).toInt) → e ∣ (ms.foldl (fun d m => cdv 100 d (labs (f m))) d).toInt
  | [], d, hd, _ => ⟨hd, Int.dvd_refl _, fun m h => absurd h List.not_mem_nil, fun e h _ => h⟩
  | m :: ms, d, hd, hb => by
    obtain ⟨a1, a2, a3, a4⟩ := cdv_step_gcd hd (hb m List.mem_cons_self)
    obtain ⟨b1, b2, b3, b4⟩ := cdl_fold (f := f) ms (cdv 100 d (labs (f m))) a1 (fun k hk => hb k (List.mem_cons_of_mem m hk))
    show 0 ≤ (ms.foldl _ (cdv 100 d (labs (f m)))).toInt ∧ (ms.foldl _ (cdv 100 d (labs (f m)))).toInt ∣ _ ∧ (∀ k ∈ m :: ms, (ms.foldl _ (cdv 100 d (labs (f m)))).toInt ∣ _) ∧ ∀ e : Int, e ∣ d.toInt → _ → e ∣ (ms.foldl _ (cdv 100 d (labs (f m)))).toInt
    refine ⟨b1, Int.dvd_trans b2 a2, fun k hk => ?_, fun e h1 h2 => b4 e (a4 e h1 (h2 m List.mem_cons_self)) (fun k hk => h2 k (List.mem_cons_of_mem m hk))⟩
    rcases List.mem_cons.mp hk with rfl | hk
    · exact Int.dvd_trans b2 a3
    · exact b3 k hk
theorem cdl_gcd {f : Nat → Int64} {ms : List Nat} (h : ∀ m ∈ ms, (f m).toInt.natAbs < 2 ^ 40) : GC (cdl f ms).toInt (fun m => (f m).toInt) ms := by
  obtain ⟨a, -, b, c⟩ := cdl_fold ms 0 (by decide) h
  exact ⟨a, b, fun d hd => c d (by rw [show (0 : Int64).toInt = 0 by decide]; exact Int.dvd_zero d) hd⟩
theorem gc4_gcd {v : Int64 × Int64 × Int64 × Int64} (h : ∀ i, i < 4 → (mnv v i).natAbs ≤ 5000) : 0 ≤ (gc4 v).toInt ∧ (∀ i, i < 4 → (gc4 v).toInt ∣ mnv v i) ∧ ∀ d : Int, (∀ i, i < 4 → d ∣ mnv v i) → d ∣ (gc4 v).toInt := by
  have b0 : v.1.toInt.natAbs ≤ 5000 := h 0 (by decide)
  have b1 : v.2.1.toInt.natAbs ≤ 5000 := h 1 (by decide)
  have b2 : v.2.2.1.toInt.natAbs ≤ 5000 := h 2 (by decide)
  have b3 : v.2.2.2.toInt.natAbs ≤ 5000 := h 3 (by decide)
  obtain ⟨d0, d1, d2, d3⟩ := gc4_dvd v
  have n1 := gcv_nn (a := v.1) (b := v.2.1) (by omega) (by omega)
  have n2 := gcv_nn (a := v.2.2.1) (b := v.2.2.2) (by omega) (by omega)
  refine ⟨gcv_nn (by omega) (by omega), fun i hi => ?_, fun d hd => ?_⟩
  · rcases (show i = 0 ∨ i = 1 ∨ i = 2 ∨ i = 3 by omega) with rfl | rfl | rfl | rfl
    · exact d0
    · exact d1
    · exact d2
    · exact d3
  · exact gcv_of_dvd (gcv_of_dvd (hd 0 (by decide)) (hd 1 (by decide))) (gcv_of_dvd (hd 2 (by decide)) (hd 3 (by decide)))
theorem dvd_eq {a b : Int} (ha : 0 ≤ a) (hb : 0 ≤ b) (h1 : a ∣ b) (h2 : b ∣ a) : a = b := Int.dvd_antisymm ha hb h1 h2
-- the class's direction
theorem mnI_crs {z : Nat} (h2 : 2 ≤ z) (h4 : z ≤ 4) (R : Nat → Nat → Int) {i : Nat} (hi : i < z) : (2 ^ z - 1) ^^^ 2 ^ i ∈ lev (z - 1) ∧ (if i % 2 = 0 then (1 : Int) else -1) * mnI R (z - 1) ((2 ^ z - 1) ^^^ 2 ^ i) = crs (R 0) (if z ≤ 2 then un 2 else R 1) (if z ≤ 3 then un 3 else R 2) i := by
  rcases (show z = 2 ∨ z = 3 ∨ z = 4 by omega) with rfl | rfl | rfl
  · rcases (show i = 0 ∨ i = 1 by omega) with rfl | rfl
    · refine ⟨by decide, ?_⟩
      show (if 0 % 2 = 0 then (1 : Int) else -1) * mexI (mnI R 0) (R 0) 2 = _
      simp [mexI, mnI, crs, un]
    · refine ⟨by decide, ?_⟩
      show (if 1 % 2 = 0 then (1 : Int) else -1) * mexI (mnI R 0) (R 0) 1 = _
      simp [mexI, mnI, crs, un]
  · rcases (show i = 0 ∨ i = 1 ∨ i = 2 by omega) with rfl | rfl | rfl
    · refine ⟨by decide, ?_⟩
      show (if 0 % 2 = 0 then (1 : Int) else -1) * mexI (mexI (mnI R 0) (R 0)) (R 1) 6 = _
      simp [mexI, mnI, crs, un]
    · refine ⟨by decide, ?_⟩
      show (if 1 % 2 = 0 then (1 : Int) else -1) * mexI (mexI (mnI R 0) (R 0)) (R 1) 5 = _
      simp [mexI, mnI, crs, un]
    · refine ⟨by decide, ?_⟩
      show (if 2 % 2 = 0 then (1 : Int) else -1) * mexI (mexI (mnI R 0) (R 0)) (R 1) 3 = _
      simp [mexI, mnI, crs, un]
  · rcases (show i = 0 ∨ i = 1 ∨ i = 2 ∨ i = 3 by omega) with rfl | rfl | rfl | rfl
    · refine ⟨by decide, ?_⟩
      show (if 0 % 2 = 0 then (1 : Int) else -1) * mexI (mexI (mexI (mnI R 0) (R 0)) (R 1)) (R 2) 14 = _
      simp [mexI, mnI, crs]; grind
    · refine ⟨by decide, ?_⟩
      show (if 1 % 2 = 0 then (1 : Int) else -1) * mexI (mexI (mexI (mnI R 0) (R 0)) (R 1)) (R 2) 13 = _
      simp [mexI, mnI, crs]; grind
    · refine ⟨by decide, ?_⟩
      show (if 2 % 2 = 0 then (1 : Int) else -1) * mexI (mexI (mexI (mnI R 0) (R 0)) (R 1)) (R 2) 11 = _
      simp [mexI, mnI, crs]; grind
    · refine ⟨by decide, ?_⟩
      show (if 3 % 2 = 0 then (1 : Int) else -1) * mexI (mexI (mexI (mnI R 0) (R 0)) (R 1)) (R 2) 7 = _
      simp [mexI, mnI, crs]; grind
/-- the masks of coordinates that are not there have determinant 0 -/
theorem mnI_hi {z : Nat} (h2 : 2 ≤ z) (h4 : z ≤ 4) {R : Nat → Nat → Int} (hR : ∀ l i, l < z - 1 → z ≤ i → i < 4 → R l i = 0) : ∀ m ∈ lev (z - 1), (∃ i, i < z ∧ m = (2 ^ z - 1) ^^^ 2 ^ i) ∨ mnI R (z - 1) m = 0 := by
  intro m hm
  rcases (show z = 2 ∨ z = 3 ∨ z = 4 by omega) with rfl | rfl | rfl
  · simp only [lev, List.mem_cons, List.not_mem_nil, or_false] at hm
    have a := hR 0 2 (by decide) (by decide) (by decide)
    have b := hR 0 3 (by decide) (by decide) (by decide)
    rcases hm with rfl | rfl | rfl | rfl
    · exact Or.inl ⟨1, by decide, by decide⟩
    · exact Or.inl ⟨0, by decide, by decide⟩
    · exact Or.inr (by show (mnI R 0 0) * R 0 2 = 0; rw [a, Int.mul_zero])
    · exact Or.inr (by show (mnI R 0 0) * R 0 3 = 0; rw [b, Int.mul_zero])
  · simp only [lev, List.mem_cons, List.not_mem_nil, or_false] at hm
    have a := hR 0 3 (by decide) (by decide) (by decide)
    have b := hR 1 3 (by decide) (by decide) (by decide)
    rcases hm with rfl | rfl | rfl | rfl | rfl | rfl
    · exact Or.inl ⟨2, by decide, by decide⟩
    · exact Or.inl ⟨1, by decide, by decide⟩
    · exact Or.inl ⟨0, by decide, by decide⟩
    · exact Or.inr (by show mexI (mexI (mnI R 0) (R 0)) (R 1) 9 = 0; simp [mexI, mnI, a, b])
    · exact Or.inr (by show mexI (mexI (mnI R 0) (R 0)) (R 1) 10 = 0; simp [mexI, mnI, a, b])
    · exact Or.inr (by show mexI (mexI (mnI R 0) (R 0)) (R 1) 12 = 0; simp [mexI, mnI, a, b])
  · simp only [lev, List.mem_cons, List.not_mem_nil, or_false] at hm
    rcases hm with rfl | rfl | rfl | rfl
    · exact Or.inl ⟨3, by decide, by decide⟩
    · exact Or.inl ⟨2, by decide, by decide⟩
    · exact Or.inl ⟨1, by decide, by decide⟩
    · exact Or.inl ⟨0, by decide, by decide⟩
