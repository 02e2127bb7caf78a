/-! ===== own rows: class and reference, 11 ===== -/
-- the rows of a set, one by one, and their determinants
def wr (wf : Nat → Int32) (k : Nat) : Nat → Int := fun i => (wf (4 * k + i)).toInt
/-- the places of the set x among the first n -/
def Jn (x n : Nat) : Nat → Nat := (chs x n (0, fun _ => 0)).2
theorem Jn_y {x n : Nat} (e : (x / 2 ^ n) % 2 = 1) : Jn x (n + 1) = updN (Jn x n) (mny x n) n := by
  unfold Jn
  rw [chs_y (n := (chs x n (0, fun _ => 0)).1) (f := (chs x n (0, fun _ => 0)).2) rfl e, chs_cnt]
theorem Jn_n {x n : Nat} (e : ¬ (x / 2 ^ n) % 2 = 1) : Jn x (n + 1) = Jn x n := by
  unfold Jn
  rw [chs_n rfl e]
theorem mny_y {x n : Nat} (e : (x / 2 ^ n) % 2 = 1) : mny x (n + 1) = mny x n + 1 := by
  show mny x n + (x / 2 ^ n) % 2 = _
  rw [e]
theorem mny_n {x n : Nat} (e : ¬ (x / 2 ^ n) % 2 = 1) : mny x (n + 1) = mny x n := by
  show mny x n + (x / 2 ^ n) % 2 = _
  omega
theorem tb_iff {x n : Nat} : x.testBit n = true ↔ (x / 2 ^ n) % 2 = 1 := by
  rw [Nat.testBit_eq_decide_div_mod_eq]; exact decide_eq_true_iff
theorem Jn_spec {x : Nat} : ∀ n, (∀ l, l < mny x n → Jn x n l < n ∧ x.testBit (Jn x n l) = true) ∧ (∀ l l', l < l' → l' < mny x n → Jn x n l < Jn x n l') ∧ ∀ q, q < n → x.testBit q = true → ∃ l, l < mny x n ∧ Jn x n l = q
  | 0 => ⟨fun l h => absurd h (Nat.not_lt_zero l), fun l l' _ h => absurd h (Nat.not_lt_zero l'), fun q h => absurd h (Nat.not_lt_zero q)⟩
  | n + 1 => by
    obtain ⟨h1, h2, h3⟩ := Jn_spec (x := x) n
    by_cases e : (x / 2 ^ n) % 2 = 1
    · rw [Jn_y e, mny_y e]
      unfold updN
      refine ⟨fun l hl => ?_, fun l l' hll hl => ?_, fun q hq hb => ?_⟩
      · by_cases z : l = mny x n
        · rw [if_pos z]; exact ⟨by omega, tb_iff.mpr e⟩
        · rw [if_neg z]
          have := h1 l (by omega)
          exact ⟨by omega, this.2⟩
      · show (if l = mny x n then n else Jn x n l) < (if l' = mny x n then n else Jn x n l')
        rw [if_neg (by omega)]
        by_cases z : l' = mny x n
        · rw [if_pos z]; exact (h1 l (by omega)).1
        · rw [if_neg z]; exact h2 l l' hll (by omega)
      · by_cases z : q = n
        · exact ⟨mny x n, by omega, by show (if _ then _ else _) = q; rw [if_pos rfl, z]⟩
        · obtain ⟨l, l1, l2⟩ := h3 q (by omega) hb
          exact ⟨l, by omega, by show (if _ then _ else _) = q; rw [if_neg (by omega), l2]⟩
    · rw [Jn_n e, mny_n e]
      refine ⟨fun l hl => ?_, h2, fun q hq hb => ?_⟩
      · have := h1 l hl
        exact ⟨by omega, this.2⟩
      · by_cases z : q = n
        · subst z; exact absurd (tb_iff.mp hb) e
        · exact h3 q (by omega) hb
/-- an increasing row of places of x is not longer than x is large, and if it is as long it is all of x -/
theorem inc_le {x : Nat} {J : Nat → Nat} : ∀ n k, (∀ l, l < k → J l < n ∧ x.testBit (J l) = true) → (∀ l l', l < l' → l' < k → J l < J l') → k ≤ mny x n
  | 0, k, h1, _ => by
    rcases Nat.eq_zero_or_pos k with z | z
    · omega
    · exact absurd (h1 0 z).1 (Nat.not_lt_zero _)
  | n + 1, k, h1, h2 => by
    by_cases hk : k = 0
    · omega
    · by_cases hl : J (k - 1) = n
      · have hb := tb_iff.mp (hl ▸ (h1 (k - 1) (by omega)).2)
        have := inc_le n (k - 1) (fun l hl' => ⟨by have := h2 l (k - 1) hl' (by omega); omega, (h1 l (by omega)).2⟩) (fun l l' a b => h2 l l' a (by omega))
        rw [mny_y hb]; omega
      · have := inc_le n k (fun l hl' => ⟨by
          have a := (h1 (k - 1) (by omega)).1
          by_cases z : l = k - 1
          · subst z; omega
          · have := h2 l (k - 1) (by omega) (by omega); omega, (h1 l hl').2⟩) h2
        have : mny x n ≤ mny x (n + 1) := Nat.le_add_right _ _
        omega
theorem inc_eq {x : Nat} {J : Nat → Nat} : ∀ n k, k = mny x n → (∀ l, l < k → J l < n ∧ x.testBit (J l) = true) → (∀ l l', l < l' → l' < k → J l < J l') → ∀ l, l < k → J l = Jn x n l
  | 0, k, hk, _, _, l, hl => absurd hl (by rw [hk]; exact Nat.not_lt_zero l)
  | n + 1, k, hk, h1, h2, l, hl => by
    by_cases e : (x / 2 ^ n) % 2 = 1
    · rw [mny_y e] at hk
      have hlast : J (k - 1) = n := Classical.byContradiction (fun z => by
        have := inc_le (x := x) (J := J) n k (fun l hl' => ⟨by
          have a := (h1 (k - 1) (by omega)).1
          by_cases w : l = k - 1
          · subst w; omega
          · have := h2 l (k - 1) (by omega) (by omega); omega, (h1 l hl').2⟩) h2
        omega)
      rw [Jn_y e]
      unfold updN
      by_cases z : l = mny x n
      · rw [if_pos z, show l = k - 1 by omega]; exact hlast
      · rw [if_neg z]
        exact inc_eq n (k - 1) (by omega) (fun l hl' => ⟨by have := h2 l (k - 1) hl' (by omega); omega, (h1 l (by omega)).2⟩) (fun l l' a b => h2 l l' a (by omega)) l (by omega)
    · rw [mny_n e] at hk
      rw [Jn_n e]
      exact inc_eq n k hk (fun l hl' => ⟨by
        have a := (h1 l hl').1
        have b := (h1 l hl').2
        by_cases w : J l = n
        · rw [w] at b; exact absurd (tb_iff.mp b) e
        · omega, (h1 l hl').2⟩) h2 l hl
-- what the reference puts into its square
theorem mf1_at {wf : Nat → Int32} {r wo : Nat} {p : Nat × (Nat → Int64)} : ∀ i j, (mf1 wf r wo i p).2 j = if p.1 ≤ j ∧ j < p.1 + (if wo < i then i - 1 else i) then (wf (4 * r + skp wo (j - p.1))).toInt64 else p.2 j
  | 0, j => by rw [if_neg (by split <;> omega)]; rfl
  | i + 1, j => by
    by_cases e : i = wo
    · rw [mf1_n rfl e, mf1_at i j, if_neg (show ¬ wo < i by omega), if_pos (show wo < i + 1 by omega)]
      rfl
    · rw [mf1_y (a := (mf1 wf r wo i p).1) (f := (mf1 wf r wo i p).2) rfl e]
      show vp_updL _ _ _ j = _
      rw [mf1_cnt]
      by_cases h : wo < i
      · rw [if_pos h, if_pos (show wo < i + 1 by omega)]
        by_cases z : j = p.1 + (i - 1)
        · subst z
          rw [updL_eq, if_pos (by omega)]
          have : skp wo (p.1 + (i - 1) - p.1) = i := by unfold skp; rw [if_neg (by omega)]; omega
          rw [this]
        · rw [updL_ne z, mf1_at i j, if_pos h]
          by_cases y : p.1 ≤ j ∧ j < p.1 + (i - 1)
          · rw [if_pos y, if_pos (by omega)]
          · rw [if_neg y, if_neg (by omega)]
      · rw [if_neg h, if_neg (show ¬ wo < i + 1 by omega)]
        by_cases z : j = p.1 + i
        · subst z
          rw [updL_eq, if_pos (by omega)]
          have : skp wo (p.1 + i - p.1) = i := by unfold skp; rw [if_pos (by omega)]; omega
          rw [this]
        · rw [updL_ne z, mf1_at i j, if_neg h]
          by_cases y : p.1 ≤ j ∧ j < p.1 + i
          · rw [if_pos y, if_pos (by omega)]
          · rw [if_neg y, if_neg (by omega)]
theorem mf2_at {wf : Nat → Int32} {x zs wo : Nat} {q : Nat → Int64} (h2 : 2 ≤ zs) (hw : wo < zs) : ∀ r l i, l < mny x r → i < zs - 1 → (mf2 wf x zs wo r (0, q)).2 ((zs - 1) * l + i) = (wf (4 * Jn x r l + skp wo i)).toInt64
  | 0, l, i, hl, _ => absurd hl (Nat.not_lt_zero l)
  | r + 1, l, i, hl, hi => by
    by_cases e : (x / 2 ^ r) % 2 = 1
    · rw [mf2_y rfl e rfl, mf1_at, mf2_cnt hw, if_pos hw]
      rw [mny_y e] at hl
      rw [Jn_y e]
      unfold updN
      have c1 : mny x r * (zs - 1) = (zs - 1) * mny x r := Nat.mul_comm _ _
      rw [c1]
      by_cases z : l = mny x r
      · subst z
        rw [if_pos (by omega), if_pos rfl, show (zs - 1) * mny x r + i - (zs - 1) * mny x r = i by omega]
      · rw [if_neg z]
        have : (zs - 1) * (l + 1) ≤ (zs - 1) * mny x r := Nat.mul_le_mul (Nat.le_refl _) (by omega)
        rw [Nat.mul_add, Nat.mul_one] at this
        rw [if_neg (by omega)]
        exact mf2_at h2 hw r l i (by omega) hi
    · rw [mf2_n rfl e, Jn_n e]
      rw [mny_n e] at hl
      exact mf2_at h2 hw r l i hl hi
theorem dtn_congr {n : Nat} {A B : Nat → Nat → Int} (hn : n ≤ 3) (h : ∀ k i, k < n → i < n → A k i = B k i) : dtn n A = dtn n B := by
  rcases (show n = 0 ∨ n = 1 ∨ n = 2 ∨ n = 3 by omega) with rfl | rfl | rfl | rfl
  · rfl
  · show A 0 0 = B 0 0
    exact h 0 0 (by decide) (by decide)
  · show S1 A 1 1 = S1 B 1 1
    unfold S1
    rw [h 0 0 (by decide) (by decide), h 0 1 (by decide) (by decide), h 1 0 (by decide) (by decide), h 1 1 (by decide) (by decide)]
  · show S2 A 2 2 = S2 B 2 2
    unfold S2
    rw [h 0 0 (by decide) (by decide), h 0 1 (by decide) (by decide), h 0 2 (by decide) (by decide), h 1 0 (by decide) (by decide), h 1 1 (by decide) (by decide), h 1 2 (by decide) (by decide), h 2 0 (by decide) (by decide), h 2 1 (by decide) (by decide), h 2 2 (by decide) (by decide)]
theorem mnr_val {wf : Nat → Int32} {rn zs x wo : Nat} {q : Nat → Int64} (h2 : 2 ≤ zs) (h4 : zs ≤ 4) (hr8 : rn ≤ 8) (hr : rowsOK wf rn zs) (hx : setOK rn zs x) (hw : wo < zs) : (mnr wf rn zs x wo q).1.toInt = (if wo % 2 = 0 then 1 else -1) * dtn (zs - 1) (fun l i => wr wf (Jn x rn l) (skp wo i)) := by
  have hf := mf2_le (x := x) (wo := wo) (q := q) h4 (fun r hr1 i hi => ⟨(hr r i hr1 hi).1, (hr r i hr1 hi).2.1⟩) rn (Nat.le_refl rn)
  rw [mf2_all hr8 hx hw] at hf
  have hm : mny x rn = zs - 1 := by rw [← mny_hi hx.1 16 (by omega)]; exact hx.2
  have hd := wth_det (n := zs - 1) (f := (mf2 wf x zs wo rn (0, q)).2) (by omega) (fun j hj => Nat.le_trans (hf j hj) (by decide))
  have hb : (wth (zs - 1) (zs - 1) 0 (mf2 wf x zs wo rn (0, q)).2 1 1).1.toInt.natAbs ≤ 750 := by
    rw [hd]
    exact S_le5 (fun k i _ _ => mat_le hf k i) (by omega) (by omega)
  have he : dtn (zs - 1) (mat (zs - 1) (mf2 wf x zs wo rn (0, q)).2) = dtn (zs - 1) (fun l i => wr wf (Jn x rn l) (skp wo i)) := dtn_congr (by omega) (fun l i hl hi => by
    show (if l < zs - 1 ∧ i < zs - 1 then _ else _) = _
    rw [if_pos ⟨hl, hi⟩, mf2_at h2 hw rn l i (by omega) hi, i32_64]
    rfl)
  rw [he] at hd
  unfold mnr
  show (if wo % 2 = 0 then _ else _ : Int64).toInt = _
  by_cases e : wo % 2 = 0
  · rw [if_pos e, if_pos e, Int.one_mul]; exact hd
  · rw [if_neg e, if_neg e, neg64 hb (by decide), hd]; omega
/-- the three vectors that a set of rows stands for -/
def R1 (zs : Nat) (wf : Nat → Int32) (J : Nat → Nat) : Nat → Int := if zs ≤ 2 then un 2 else wr wf (J 1)
def R2 (zs : Nat) (wf : Nat → Int32) (J : Nat → Nat) : Nat → Int := if zs ≤ 3 then un 3 else wr wf (J 2)
def Nx (zs : Nat) (wf : Nat → Int32) (J : Nat → Nat) : Nat → Int := crs (wr wf (J 0)) (R1 zs wf J) (R2 zs wf J)
def mnv (v : Int64 × Int64 × Int64 × Int64) (i : Nat) : Int := if i = 0 then v.1.toInt else if i = 1 then v.2.1.toInt else if i = 2 then v.2.2.1.toInt else v.2.2.2.toInt
theorem alg_2 (A : Nat → Nat → Int) : ∀ i, i < 2 → (if i % 2 = 0 then (1 : Int) else -1) * A 0 (skp i 0) = crs (A 0) (un 2) (un 3) i := by
  intro i hi
  rcases (show i = 0 ∨ i = 1 by omega) with rfl | rfl <;> simp [crs, un, skp]
theorem alg_3 (A : Nat → Nat → Int) : ∀ i, i < 3 → (if i % 2 = 0 then (1 : Int) else -1) * (A 0 (skp i 0) * A 1 (skp i 1) - A 0 (skp i 1) * A 1 (skp i 0)) = crs (A 0) (A 1) (un 3) i := by
  intro i hi
  rcases (show i = 0 ∨ i = 1 ∨ i = 2 by omega) with rfl | rfl | rfl <;> simp [crs, un, skp] <;> grind
theorem alg_4 (A : Nat → Nat → Int) : ∀ i, i < 4 → (if i % 2 = 0 then (1 : Int) else -1) * (A 2 (skp i 2) * (A 0 (skp i 0) * A 1 (skp i 1) - A 0 (skp i 1) * A 1 (skp i 0)) - A 2 (skp i 1) * (A 0 (skp i 0) * A 1 (skp i 2) - A 0 (skp i 2) * A 1 (skp i 0)) + A 2 (skp i 0) * (A 0 (skp i 1) * A 1 (skp i 2) - A 0 (skp i 2) * A 1 (skp i 1))) = crs (A 0) (A 1) (A 2) i := by
  intro i hi
  rcases (show i = 0 ∨ i = 1 ∨ i = 2 ∨ i = 3 by omega) with rfl | rfl | rfl | rfl <;> simp [crs, skp] <;> grind
theorem dtn_crs {zs : Nat} (h2 : 2 ≤ zs) (h4 : zs ≤ 4) (wf : Nat → Int32) (J : Nat → Nat) {i : Nat} (hi : i < zs) : (if i % 2 = 0 then (1 : Int) else -1) * dtn (zs - 1) (fun l k => wr wf (J l) (skp i k)) = Nx zs wf J i := by
  rcases (show zs = 2 ∨ zs = 3 ∨ zs = 4 by omega) with rfl | rfl | rfl
  · exact alg_2 (fun l => wr wf (J l)) i hi
  · exact alg_3 (fun l => wr wf (J l)) i hi
  · exact alg_4 (fun l => wr wf (J l)) i hi
theorem Nx_hi {zs : Nat} (h2 : 2 ≤ zs) {wf : Nat → Int32} {J : Nat → Nat} {i : Nat} (hi : zs ≤ i) (h : i < 4) : Nx zs wf J i = 0 := by
  rcases (show (zs = 2 ∧ i = 2) ∨ (zs = 2 ∧ i = 3) ∨ (zs = 3 ∧ i = 3) by omega) with ⟨rfl, rfl⟩ | ⟨rfl, rfl⟩ | ⟨rfl, rfl⟩
  · show crs (wr wf (J 0)) (un 2) (un 3) 2 = 0
    simp [crs, un]
  · show crs (wr wf (J 0)) (un 2) (un 3) 3 = 0
    simp [crs, un]
  · show crs (wr wf (J 0)) (wr wf (J 1)) (un 3) 3 = 0
    simp [crs, un]
theorem mn4_at {wf : Nat → Int32} {rn zs x : Nat} {q : Nat → Int64} : ∀ i, i < 4 → ∃ q2, (i < 2 ∨ i < zs → mnv (mn4 wf rn zs x q).1 i = (mnr wf rn zs x i q2).1.toInt) ∧ (2 ≤ i → zs ≤ i → mnv (mn4 wf rn zs x q).1 i = 0) := by
  intro i hi
  rcases (show i = 0 ∨ i = 1 ∨ i = 2 ∨ i = 3 by omega) with rfl | rfl | rfl | rfl
  · exact ⟨q, fun _ => rfl, fun h => absurd h (by decide)⟩
  · exact ⟨_, fun _ => rfl, fun h => absurd h (by decide)⟩
  · refine ⟨(mnr wf rn zs x 1 (mnr wf rn zs x 0 q).2).2, fun h => ?_, fun _ h => ?_⟩
    · show (if zs ≤ 2 then ((0 : Int64), _) else _ : Int64 × (Nat → Int64)).1.toInt = _
      rw [if_neg (by omega)]
    · show (if zs ≤ 2 then ((0 : Int64), _) else _ : Int64 × (Nat → Int64)).1.toInt = _
      rw [if_pos h]; rfl
  · refine ⟨(if zs ≤ 2 then ((0 : Int64), (mnr wf rn zs x 1 (mnr wf rn zs x 0 q).2).2) else mnr wf rn zs x 2 (mnr wf rn zs x 1 (mnr wf rn zs x 0 q).2).2).2, fun h => ?_, fun _ h => ?_⟩
    · show (if zs ≤ 3 then ((0 : Int64), _) else _ : Int64 × (Nat → Int64)).1.toInt = _
      rw [if_neg (by omega)]
    · show (if zs ≤ 3 then ((0 : Int64), _) else _ : Int64 × (Nat → Int64)).1.toInt = _
      rw [if_pos h]; rfl
theorem mn4_val {wf : Nat → Int32} {rn zs x : Nat} {q : Nat → Int64} (h2 : 2 ≤ zs) (h4 : zs ≤ 4) (hr8 : rn ≤ 8) (hr : rowsOK wf rn zs) (hx : setOK rn zs x) : ∀ i, i < 4 → mnv (mn4 wf rn zs x q).1 i = Nx zs wf (Jn x rn) i := by
  intro i hi
  obtain ⟨q2, a, b⟩ := mn4_at (wf := wf) (rn := rn) (zs := zs) (x := x) (q := q) i hi
  by_cases e : i < zs
  · rw [a (Or.inr e), mnr_val h2 h4 hr8 hr hx e]
    exact dtn_crs h2 h4 wf (Jn x rn) e
  · rw [b (by omega) (by omega), Nx_hi h2 (by omega) hi]
