/-! ===== own rows: class and reference, 06 ===== -/
-- rows of the elimination are primitive, so they stay small
theorem tmod_dvd {d x y : Int} (hx : d ∣ x) (hy : d ∣ y) : d ∣ x.tmod y := by
  have e := Int.tmod_add_tdiv_mul x y
  have h : x.tmod y = x - x.tdiv y * y := by omega
  rw [h]
  exact Int.dvd_sub hx (Int.dvd_mul_of_dvd_right hy)
theorem gcw_of_dvd {d : Int} : ∀ (n : Nat) (x y : Int64), y.toInt.natAbs = n → d ∣ x.toInt → d ∣ y.toInt → d ∣ (gcw x y).toInt := by
  intro n
  induction n using Nat.strongRecOn with
  | ind n ih =>
    intro x y hn hx hy
    by_cases h : y = 0
    · rw [gcw_0 h]; exact hx
    · rw [gcw_s h]
      refine ih _ (by rw [← hn]; exact lrem_less h) y _ rfl hy ?_
      rw [(lrem_int x y h).1]
      exact tmod_dvd hx hy
theorem nabs_of_dvd {d : Int} {a : Int64} (h : d ∣ a.toInt) : d ∣ (nabs a).toInt := by
  unfold nabs
  split
  · exact h
  · rw [Int64.toInt_neg]
    obtain ⟨c, hc⟩ := h
    have h1 := a.toInt_lt
    have h2 := a.le_toInt
    by_cases e : a.toInt = -2 ^ 63
    · rw [e] at hc ⊢
      have : (- (-2 ^ 63 : Int)).bmod (2 ^ 64) = -2 ^ 63 := by decide
      rw [this]; exact ⟨c, hc⟩
    · rw [Int.bmod_eq_of_le (by omega) (by omega)]
      exact Int.dvd_neg.mpr ⟨c, hc⟩
theorem gcv_of_dvd {d : Int} {a b : Int64} (ha : d ∣ a.toInt) (hb : d ∣ b.toInt) : d ∣ (gcv a b).toInt := gcw_of_dvd _ _ _ rfl (nabs_of_dvd ha) (nabs_of_dvd hb)
theorem gcw_nn : ∀ (n : Nat) (x y : Int64), y.toInt.natAbs = n → 0 ≤ x.toInt → 0 ≤ y.toInt → 0 ≤ (gcw x y).toInt := by
  intro n
  induction n using Nat.strongRecOn with
  | ind n ih =>
    intro x y hn hx hy
    by_cases h : y = 0
    · rw [gcw_0 h]; exact hx
    · rw [gcw_s h]
      refine ih _ (by rw [← hn]; exact lrem_less h) y _ rfl hy ?_
      rw [(lrem_int x y h).1]
      exact Int.tmod_nonneg _ hx
theorem nabs_nn {a : Int64} (h : ¬ a.toInt = -2 ^ 63) : 0 ≤ (nabs a).toInt := by
  unfold nabs
  have h1 := a.toInt_lt
  have h2 := a.le_toInt
  by_cases e : lg_cmp a (0 : Int64) ≥ 0
  · rw [if_pos e]
    have h3 : ¬ a < 0 := fun z => Int32.not_lt.mpr e ((lg_cmp_lt a 0).mpr z)
    rw [Int64.lt_iff_toInt_lt, show (0 : Int64).toInt = 0 by decide] at h3
    omega
  · rw [if_neg e, Int64.toInt_neg]
    have h3 : a < 0 := Classical.byContradiction (fun z => e (Int32.not_lt.mp (fun y => z ((lg_cmp_lt a 0).mp y))))
    rw [Int64.lt_iff_toInt_lt, show (0 : Int64).toInt = 0 by decide] at h3
    rw [Int.bmod_eq_of_le (by omega) (by omega)]
    omega
theorem gcv_nn {a b : Int64} (ha : ¬ a.toInt = -2 ^ 63) (hb : ¬ b.toInt = -2 ^ 63) : 0 ≤ (gcv a b).toInt := gcw_nn _ _ _ rfl (nabs_nn ha) (nabs_nn hb)
theorem ls1_gcd {k r : Nat} {a b : Int64} {f : Nat → Int64} (hkr : ¬ k = r) (hb : ∀ i, i < 4 → ¬ (f (4 * k + i) * a - f (4 * r + i) * b).toInt = -2 ^ 63) : ∀ i, i ≤ 4 → 0 ≤ (ls1 k r a b i (f, 0)).2.toInt ∧ ∀ d : Int, (∀ q, q < i → d ∣ (f (4 * k + q) * a - f (4 * r + q) * b).toInt) → d ∣ (ls1 k r a b i (f, 0)).2.toInt
  | 0, _ => ⟨by show 0 ≤ (0 : Int64).toInt; decide, fun d _ => by show d ∣ (0 : Int64).toInt; rw [show (0 : Int64).toInt = 0 by decide]; exact Int.dvd_zero d⟩
  | i + 1, hi => by
    obtain ⟨i1, i2⟩ := ls1_gcd (k := k) (r := r) (a := a) (b := b) (f := f) hkr hb i (by omega)
    have h1 := ls1_at (a := a) (b := b) (f := f) hkr i (4 * k + i) (by omega)
    have h2 := ls1_at (a := a) (b := b) (f := f) hkr i (4 * r + i) (by omega)
    rw [if_neg (by omega)] at h1 h2
    rw [ls1_s (f := (ls1 k r a b i (f, 0)).1) (g := (ls1 k r a b i (f, 0)).2) rfl]
    show 0 ≤ (gcv (ls1 k r a b i (f, 0)).2 (vp_updL _ (4 * k + i) _ (4 * k + i))).toInt ∧ ∀ d : Int, _ → d ∣ (gcv (ls1 k r a b i (f, 0)).2 (vp_updL _ (4 * k + i) _ (4 * k + i))).toInt
    rw [updL_eq, h1, h2]
    refine ⟨gcv_nn (by omega) (hb i (by omega)), fun d hd => gcv_of_dvd (i2 d (fun q hq => hd q (by omega))) (hd i (by omega))⟩
/-- what divides a row that was made divides 1, or the row is 0 -/
theorem lss_prim {k r c B : Nat} {f : Nat → Int64} (hkr : ¬ k = r) (hc : c < 4) (hB : B * B + B * B < 2 ^ 63) (h1 : ∀ i, i < 4 → (f (4 * k + i)).toInt.natAbs ≤ B) (h2 : ∀ i, i < 4 → (f (4 * r + i)).toInt.natAbs ≤ B) :
    (∀ i, i < 4 → lss k r c f (4 * k + i) = 0) ∨ ∀ d : Int, (∀ i, i < 4 → d ∣ (lss k r c f (4 * k + i)).toInt) → d ∣ 1 := by
  have key : ∀ i, i < 4 → (f (4 * k + i) * f (4 * r + c) - f (4 * r + i) * f (4 * k + c)).toInt.natAbs ≤ B * B + B * B := by
    intro i hi
    obtain ⟨a1, a2⟩ := mul64 (h1 i hi) (h2 c hc) (by omega)
    obtain ⟨b1, b2⟩ := mul64 (h2 i hi) (h1 c hc) (by omega)
    obtain ⟨c1, c2⟩ := sub64 a2 b2 hB
    exact c2
  have hd := ls1_dvd (a := f (4 * r + c)) (b := f (4 * k + c)) (f := f) hkr 4 (Nat.le_refl 4)
  have ha := fun j => ls1_at (a := f (4 * r + c)) (b := f (4 * k + c)) (f := f) hkr 4 j (Nat.le_refl 4)
  obtain ⟨g1, g2⟩ := ls1_gcd (a := f (4 * r + c)) (b := f (4 * k + c)) (f := f) hkr (fun i hi => by have := key i hi; omega) 4 (Nat.le_refl 4)
  unfold lss
  generalize ls1 k r (f (4 * r + c)) (f (4 * k + c)) 4 (f, 0) = P at hd ha g1 g2 ⊢
  by_cases hg : 1 < P.2
  · rw [if_pos hg]
    have hg' : 1 < P.2.toInt := by have := Int64.lt_iff_toInt_lt.mp hg; exact this
    have hr : ∀ i, i < 4 → ls2 k P.2 4 P.1 (4 * k + i) = (f (4 * k + i) * f (4 * r + c) - f (4 * r + i) * f (4 * k + c)) / P.2 := by
      intro i hi
      rw [ls2_at, if_pos (by omega), ha, if_pos (by omega), show 4 * k + i - 4 * k = i by omega]
    refine Or.inr (fun d h => ?_)
    have : d * P.2.toInt ∣ P.2.toInt := g2 _ (fun q hq => by
      have e := (div64 hg' (hd q hq)).1
      rw [← e]
      have h9 := h q hq
      rw [hr q hq] at h9
      exact Int.mul_dvd_mul h9 (Int.dvd_refl _))
    obtain ⟨x, hx⟩ := this
    refine ⟨x, ?_⟩
    have : P.2.toInt * (d * x - 1) = 0 := by grind
    rcases Int.mul_eq_zero.mp this with e | e
    · omega
    · omega
  · rw [if_neg hg]
    have hr : ∀ i, i < 4 → P.1 (4 * k + i) = f (4 * k + i) * f (4 * r + c) - f (4 * r + i) * f (4 * k + c) := by
      intro i hi
      rw [ha, if_pos (by omega), show 4 * k + i - 4 * k = i by omega]
    have hle : ¬ 1 < P.2.toInt := fun z => hg (Int64.lt_iff_toInt_lt.mpr z)
    by_cases e : P.2.toInt = 0
    · refine Or.inl (fun i hi => ?_)
      rw [hr i hi, i64_zero]
      have := hd i hi
      rw [e] at this
      exact Int.zero_dvd.mp this
    · have e1 : P.2.toInt = 1 := by omega
      refine Or.inr (fun d h => ?_)
      rw [← e1]
      exact g2 d (fun q hq => by rw [← hr q hq]; exact h q hq)
/-- a primitive row is not larger than a row that it goes into -/
theorem prim_le {a N : Int} {x M : Nat → Int} (ha : ¬ a = 0) (hN : ¬ N = 0) (h : ∀ i, i < 4 → N * x i = a * M i) (hp : ∀ d : Int, (∀ i, i < 4 → d ∣ x i) → d ∣ 1) : ∀ i, i < 4 → (x i).natAbs ≤ (M i).natAbs := by
  have hA : ∀ i, i < 4 → a.natAbs ∣ N.natAbs * (x i).natAbs := fun i hi => by
    rw [← Int.natAbs_mul, Int.natAbs_dvd_natAbs]
    exact ⟨M i, h i hi⟩
  have d1 := Nat.dvd_gcd (hA 0 (by decide)) (hA 1 (by decide))
  have d2 := Nat.dvd_gcd (hA 2 (by decide)) (hA 3 (by decide))
  rw [Nat.gcd_mul_left] at d1 d2
  have d3 := Nat.dvd_gcd d1 d2
  rw [Nat.gcd_mul_left] at d3
  have hG : ∀ i, i < 4 → (((x 0).natAbs.gcd (x 1).natAbs).gcd ((x 2).natAbs.gcd (x 3).natAbs) : Nat) ∣ (x i).natAbs := fun i hi => by
    have l := Nat.gcd_dvd_left ((x 0).natAbs.gcd (x 1).natAbs) ((x 2).natAbs.gcd (x 3).natAbs)
    have r := Nat.gcd_dvd_right ((x 0).natAbs.gcd (x 1).natAbs) ((x 2).natAbs.gcd (x 3).natAbs)
    rcases (show i = 0 ∨ i = 1 ∨ i = 2 ∨ i = 3 by omega) with rfl | rfl | rfl | rfl
    · exact Nat.dvd_trans l (Nat.gcd_dvd_left _ _)
    · exact Nat.dvd_trans l (Nat.gcd_dvd_right _ _)
    · exact Nat.dvd_trans r (Nat.gcd_dvd_left _ _)
    · exact Nat.dvd_trans r (Nat.gcd_dvd_right _ _)
  generalize ((x 0).natAbs.gcd (x 1).natAbs).gcd ((x 2).natAbs.gcd (x 3).natAbs) = G at d3 hG
  have hG1 : G = 1 := by
    have := hp (G : Int) (fun i hi => Int.ofNat_dvd_left.mpr (hG i hi))
    have := Int.ofNat_dvd_left.mp this
    exact Nat.dvd_one.mp this
  rw [hG1, Nat.mul_one] at d3
  obtain ⟨s, hs⟩ := d3
  intro i hi
  have e : N.natAbs * (x i).natAbs = a.natAbs * (M i).natAbs := by rw [← Int.natAbs_mul, ← Int.natAbs_mul, h i hi]
  rw [hs, Nat.mul_assoc] at e
  have a0 : 0 < a.natAbs := by omega
  have e2 := Nat.eq_of_mul_eq_mul_left a0 e
  rw [← e2]
  have s0 : 0 < s := Nat.pos_of_ne_zero (fun z => by rw [z, Nat.mul_zero] at hs; omega)
  exact Nat.le_mul_of_pos_left _ s0
def d3v (u v w : Nat → Int) (i : Nat) : Int := (u 0 * v 1 - u 1 * v 0) * w i - (u 0 * w 1 - u 1 * w 0) * v i + (v 0 * w 1 - v 1 * w 0) * u i
theorem m2_le {a b c d : Int} {B : Nat} (h1 : a.natAbs ≤ B) (h2 : b.natAbs ≤ B) (h3 : c.natAbs ≤ B) (h4 : d.natAbs ≤ B) : (a * b - c * d).natAbs ≤ 2 * (B * B) := by
  have p1 := abs_mul h1 h2
  have p2 := abs_mul h3 h4
  omega
theorem d3v_le {u v w : Nat → Int} {i B : Nat} (hi : i < 4) (hu : ∀ i, i < 4 → (u i).natAbs ≤ B) (hv : ∀ i, i < 4 → (v i).natAbs ≤ B) (hw : ∀ i, i < 4 → (w i).natAbs ≤ B) : (d3v u v w i).natAbs ≤ 6 * (B * B * B) := by
  have q1 := abs_mul (m2_le (hu 0 (by decide)) (hv 1 (by decide)) (hu 1 (by decide)) (hv 0 (by decide))) (hw i hi)
  have q2 := abs_mul (m2_le (hu 0 (by decide)) (hw 1 (by decide)) (hu 1 (by decide)) (hw 0 (by decide))) (hv i hi)
  have q3 := abs_mul (m2_le (hv 0 (by decide)) (hw 1 (by decide)) (hv 1 (by decide)) (hw 0 (by decide))) (hu i hi)
  rw [Nat.mul_assoc] at q1 q2 q3
  unfold d3v
  omega
/-- how large the rows are after c columns -/
def RB (n c r : Nat) (f : Nat → Int64) : Prop :=
  (c = 0 → ∀ k, k < n → ∀ i, i < 4 → (f (4 * k + i)).toInt.natAbs ≤ 649) ∧
  (c = 1 → (∀ k, r ≤ k → k < n → ∀ i, i < 4 → (f (4 * k + i)).toInt.natAbs ≤ 842402) ∧ (r = 0 → ∀ k, k < n → ∀ i, i < 4 → (f (4 * k + i)).toInt.natAbs ≤ 649) ∧ (r = 1 → ∃ u0 : Nat → Int, ¬ u0 0 = 0 ∧ (∀ i, i < 4 → (u0 i).natAbs ≤ 649) ∧ ∀ k, 1 ≤ k → k < n → ∃ (u : Nat → Int) (t : Int), 1 ≤ t ∧ (∀ i, i < 4 → (u i).natAbs ≤ 649) ∧ ∀ i, i < 4 → t * rgI f k i = u i * u0 0 - u0 i * u 0)) ∧
  (c = 2 → ∀ k, r ≤ k → k < n → ∀ i, i < 4 → (f (4 * k + i)).toInt.natAbs ≤ 1640156694)
theorem RB.stay {n c r : Nat} {f : Nat → Int64} (h : RB n c r f) (hr : r ≤ c) : RB n (c + 1) r f := by
  obtain ⟨h1, h2, h3⟩ := h
  refine ⟨fun e => absurd e (by omega), fun e => ?_, fun e => ?_⟩
  · have hc : c = 0 := by omega
    have b := h1 hc
    refine ⟨fun k _ hk i hi => Nat.le_trans (b k hk i hi) (by decide), fun _ => b, fun e => absurd e (by omega)⟩
  · have hc : c = 1 := by omega
    intro k k1 k2 i hi
    exact Nat.le_trans ((h2 hc).1 k k1 k2 i hi) (by decide)
theorem RB.swap {n c r p : Nat} {f : Nat → Int64} (h : RB n c r f) (hr : r ≤ p) (hp : p < n) : RB n c r (swp p r 4 f) := by
  obtain ⟨h1, h2, h3⟩ := h
  have hrow := fun k hk => swp_row (f := f) hp hr k hk
  refine ⟨fun e k hk i hi => ?_, fun e => ⟨fun k k1 hk i hi => ?_, fun e0 k hk i hi => ?_, fun e1 => ?_⟩, fun e k k1 hk i hi => ?_⟩
  · obtain ⟨q, q1, -, -, -, q2⟩ := hrow k hk
    rw [q2 i hi]; exact h1 e q q1 i hi
  · obtain ⟨q, q1, -, q3, -, q2⟩ := hrow k hk
    rw [q2 i hi]; exact (h2 e).1 q (q3 k1) q1 i hi
  · obtain ⟨q, q1, -, -, -, q2⟩ := hrow k hk
    rw [q2 i hi]; exact (h2 e).2.1 e0 q q1 i hi
  · obtain ⟨u0, a1, a2, a3⟩ := (h2 e).2.2 e1
    refine ⟨u0, a1, a2, fun k k1 hk => ?_⟩
    obtain ⟨q, q1, -, q3, -, q2⟩ := hrow k hk
    obtain ⟨u, t, b1, b2, b3⟩ := a3 q (by have := q3 (by omega); omega) q1
    refine ⟨u, t, b1, b2, fun i hi => ?_⟩
    show t * (swp p r 4 f (4 * k + i)).toInt = _
    rw [q2 i hi]; exact b3 i hi
  · obtain ⟨q, q1, -, q3, -, q2⟩ := hrow k hk
    rw [q2 i hi]; exact h3 e q (q3 k1) q1 i hi
theorem RB.elim {n c r : Nat} {f f0 : Nat → Int64} (h : RB n c r f) (hr : r ≤ c) (hc : c < 4) (hn : r < n) (hnz : ¬ f (4 * r + c) = 0) (hz : ∀ k, r ≤ k → k < n → ∀ i, i < c → f (4 * k + i) = 0) : EL n r c f (lsm r c (n - (r + 1)) f) ∧ RB n (c + 1) (r + 1) (lsm r c (n - (r + 1)) f) := by
  obtain ⟨h1, h2, h3⟩ := h
  rcases (show c = 0 ∨ c = 1 ∨ c = 2 ∨ c = 3 by omega) with rfl | rfl | rfl | rfl
  · obtain rfl : r = 0 := by omega
    have b := h1 rfl
    obtain ⟨E, B⟩ := EL.of_bound (r := 0) (c := 0) (B := 649) (f := f) hc hn (by decide) (fun k _ hk => b k hk)
    refine ⟨E, fun e => absurd e (by omega), fun _ => ⟨fun k k1 k2 i hi => B k (by omega) k2 i hi, fun e => absurd e (by omega), fun _ => ?_⟩, fun e => absurd e (by omega)⟩
    refine ⟨rgI f 0, fun z => hnz (i64_zero.mpr z), fun i hi => b 0 hn i hi, fun k k1 k2 => ?_⟩
    obtain ⟨t, t1, t2⟩ := E.2 k (by omega) k2
    exact ⟨rgI f k, t, t1, fun i hi => b k k2 i hi, t2⟩
  · obtain ⟨b1, b2, b3⟩ := h2 rfl
    by_cases e : r = 0
    · subst e
      obtain ⟨E, B⟩ := EL.of_bound (r := 0) (c := 1) (B := 649) (f := f) hc hn (by decide) (fun k _ hk => b2 rfl k hk)
      refine ⟨E, fun e => absurd e (by omega), fun e => absurd e (by omega), fun _ k k1 k2 i hi => Nat.le_trans (B k (by omega) k2 i hi) (by decide)⟩
    · obtain rfl : r = 1 := by omega
      obtain ⟨E, B⟩ := EL.of_bound (r := 1) (c := 1) (B := 842402) (f := f) hc hn (by decide) b1
      refine ⟨E, fun e => absurd e (by omega), fun e => absurd e (by omega), fun _ k k1 k2 i hi => ?_⟩
      obtain ⟨l1, l2⟩ := lsm_rows (r := 1) (c := 1) (f := f) hc (n - (1 + 1))
      have pr := lss_prim (k := k) (r := 1) (c := 1) (B := 842402) (f := f) (by omega) hc (by decide) (b1 k (by omega) k2) (b1 1 (Nat.le_refl 1) hn)
      obtain ⟨u0, v1, v2, v3⟩ := b3 rfl
      obtain ⟨u, t, t1, t2, t3⟩ := v3 k (by omega) k2
      obtain ⟨w, s, s1, s2, s3⟩ := v3 1 (Nat.le_refl 1) hn
      obtain ⟨g, g1, g2⟩ := E.2 k (by omega) k2
      rcases pr with z | pr
      · rw [l2 k (by omega) (by omega) i hi, z i hi]; decide
      · have X : ∀ i, i < 4 → (t * s * g) * rgI (lsm 1 1 (n - (1 + 1)) f) k i = u0 0 * d3v u0 w u i := by
          intro i hi
          have e1 := t3 i hi; have e2 := t3 1 (by decide); have e3 := s3 i hi; have e4 := s3 1 (by decide); have e5 := g2 i hi
          unfold d3v
          have e6 : (t * s * g) * rgI (lsm 1 1 (n - (1 + 1)) f) k i = (t * rgI f k i) * (s * rgI f 1 1) - (s * rgI f 1 i) * (t * rgI f k 1) := by
            rw [show (t * s * g) * rgI (lsm 1 1 (n - (1 + 1)) f) k i = t * s * (g * rgI (lsm 1 1 (n - (1 + 1)) f) k i) by grind, e5]; grind
          rw [e6, e1, e2, e3, e4]; grind
        have := prim_le (a := u0 0) (N := t * s * g) (x := rgI (lsm 1 1 (n - (1 + 1)) f) k) (M := d3v u0 w u) v1 (fun z => by
          rcases Int.mul_eq_zero.mp z with z | z
          · rcases Int.mul_eq_zero.mp z with z | z <;> omega
          · omega) X (fun d hd => pr d (fun i hi => by
            have := hd i hi
            rw [← l2 k (by omega) (by omega) i hi]; exact this)) i hi
        exact Nat.le_trans this (Nat.le_trans (d3v_le hi v2 s2 t2) (by decide))
  · have b := h3 rfl
    obtain ⟨E, B⟩ := EL.of_bound (r := r) (c := 2) (B := 1640156694) (f := f) hc hn (by decide) b
    exact ⟨E, fun e => absurd e (by omega), fun e => absurd e (by omega), fun e => absurd e (by omega)⟩
  · exact ⟨EL.of_last hn hz, fun e => absurd e (by omega), fun e => absurd e (by omega), fun e => absurd e (by omega)⟩
theorem RG.all {n : Nat} {f : Nat → Int64} (hb : ∀ k, k < n → ∀ i, i < 4 → (f (4 * k + i)).toInt.natAbs ≤ 649) : ∀ c, c ≤ 4 → RG n f c (rkf n f c).1 (rkf n f c).2 ∧ RB n c (rkf n f c).1 (rkf n f c).2
  | 0, _ => ⟨⟨Nat.le_refl 0, Nat.zero_le n, fun k hk => Sp.mem hk, fun k hk => Sp.mem hk, fun k _ _ i hi => absurd hi (Nat.not_lt_zero i), fun y _ i hi => absurd hi (Nat.not_lt_zero i)⟩, fun _ => hb, fun e => absurd e (by omega), fun e => absurd e (by omega)⟩
  | c + 1, hc => by
    obtain ⟨ih, ib⟩ := RG.all hb c (by omega)
    rcases pvt_spec (f := (rkf n f c).2) (c := c) (n := n) (n - (rkf n f c).1) (rkf n f c).1 (by have := ih.2.1; omega) with ⟨a, a'⟩ | ⟨a, b, d⟩
    · rw [rkf_n (r := (rkf n f c).1) (g := (rkf n f c).2) rfl rfl (by rw [a]; omega)]
      exact ⟨ih.stay a', ib.stay ih.1⟩
    · rw [rkf_y (r := (rkf n f c).1) (g := (rkf n f c).2) rfl rfl b rfl rfl]
      have sg := ih.swap (by omega) a b
      have sb := ib.swap a b
      have hnz : ¬ swp (pvt (rkf n f c).2 c (n - (rkf n f c).1) (rkf n f c).1) (rkf n f c).1 4 (rkf n f c).2 (4 * (rkf n f c).1 + c) = 0 := by
        rw [(swp_in 4 (Nat.le_refl 4) c (by omega)).1]; exact d
      obtain ⟨E, B⟩ := sb.elim (f0 := f) ih.1 (by omega) (by omega) hnz sg.2.2.2.2.1
      exact ⟨sg.elim (by omega) (by omega) hnz E, B⟩
/-- the reference's rank is the rank -/
theorem rkf_rnk {n : Nat} {f : Nat → Int64} (hb : ∀ k, k < n → ∀ i, i < 4 → (f (4 * k + i)).toInt.natAbs ≤ 649) : RNK n (rgI f) (rkf n f 4).1 := (RG.all hb 4 (Nat.le_refl 4)).1.rnk
