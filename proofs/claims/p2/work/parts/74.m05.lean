/-! ===== own rows: mathematics of the reference, 05 ===== -/
-- what the reference puts into its square, out of rows
theorem i32_64 (x : Int32) : x.toInt64.toInt = x.toInt := Int32.toInt_toInt64 x
theorem mny_hi {x r : Nat} (h : x < 2 ^ r) : ∀ k, r ≤ k → mny x k = mny x r := by
  intro k hk
  induction hk with
  | refl => rfl
  | step hm ih =>
    rename_i k
    show mny x k + (x / 2 ^ k) % 2 = _
    have : x < 2 ^ k := Nat.lt_of_lt_of_le h (Nat.pow_le_pow_right (by decide) hm)
    rw [ih, Nat.div_eq_of_lt this]
    rfl
theorem mf1_cnt {wf : Nat → Int32} {r wo : Nat} {p : Nat × (Nat → Int64)} : ∀ i, (mf1 wf r wo i p).1 = p.1 + (if wo < i then i - 1 else i)
  | 0 => by rw [if_neg (by omega)]; rfl
  | i + 1 => by
    by_cases e : i = wo
    · rw [mf1_n rfl e, mf1_cnt i, if_neg (by omega), if_pos (by omega)]; omega
    · rw [mf1_y (a := (mf1 wf r wo i p).1) (f := (mf1 wf r wo i p).2) rfl e]
      show (mf1 wf r wo i p).1 + 1 = _
      rw [mf1_cnt i]
      by_cases h : wo < i
      · rw [if_pos h, if_pos (by omega)]; omega
      · rw [if_neg h, if_neg (by omega)]; omega
theorem mf1_le {wf : Nat → Int32} {r wo : Nat} {p : Nat × (Nat → Int64)} (hr : ∀ i, i < 4 → -5 ≤ (wf (4 * r + i)).toInt ∧ (wf (4 * r + i)).toInt ≤ 5) (hp : ∀ j, j < p.1 → (p.2 j).toInt.natAbs ≤ 5) : ∀ i, i ≤ 4 → ∀ j, j < (mf1 wf r wo i p).1 → ((mf1 wf r wo i p).2 j).toInt.natAbs ≤ 5
  | 0, _ => hp
  | i + 1, hi => by
    have ih := mf1_le (wo := wo) hr hp i (by omega)
    by_cases e : i = wo
    · rw [mf1_n rfl e]; exact ih
    · rw [mf1_y (a := (mf1 wf r wo i p).1) (f := (mf1 wf r wo i p).2) rfl e]
      intro j hj
      by_cases e2 : j = (mf1 wf r wo i p).1
      · subst e2
        show (vp_updL _ _ _ _).toInt.natAbs ≤ 5
        rw [updL_eq, i32_64]
        have := hr i (by omega)
        omega
      · show (vp_updL _ _ _ _).toInt.natAbs ≤ 5
        rw [updL_ne e2]
        exact ih j (by have : j < (mf1 wf r wo i p).1 + 1 := hj; omega)
theorem mf2_cnt {wf : Nat → Int32} {x zs wo : Nat} {q : Nat → Int64} (hw : wo < zs) : ∀ r, (mf2 wf x zs wo r (0, q)).1 = mny x r * (zs - 1)
  | 0 => (Nat.zero_mul _).symm
  | r + 1 => by
    have hm : mny x (r + 1) = mny x r + (x / 2 ^ r) % 2 := rfl
    by_cases e : (x / 2 ^ r) % 2 = 1
    · rw [mf2_y rfl e rfl, mf1_cnt, mf2_cnt hw r, if_pos hw, hm, e, Nat.succ_mul]
    · rw [mf2_n rfl e, mf2_cnt hw r, hm, show (x / 2 ^ r) % 2 = 0 by omega, Nat.add_zero]
theorem mf2_le {wf : Nat → Int32} {x zs wo rn : Nat} {q : Nat → Int64} (hz : zs ≤ 4) (hr : ∀ r, r < rn → ∀ i, i < 4 → -5 ≤ (wf (4 * r + i)).toInt ∧ (wf (4 * r + i)).toInt ≤ 5) : ∀ r, r ≤ rn → ∀ j, j < (mf2 wf x zs wo r (0, q)).1 → ((mf2 wf x zs wo r (0, q)).2 j).toInt.natAbs ≤ 5
  | 0, _, j, hj => absurd hj (Nat.not_lt_zero j)
  | r + 1, hrn, j, hj => by
    have ih := mf2_le (x := x) (wo := wo) (q := q) hz hr r (by omega)
    by_cases e : (x / 2 ^ r) % 2 = 1
    · rw [mf2_y rfl e rfl] at hj ⊢
      exact mf1_le (hr r (by omega)) ih zs hz j hj
    · rw [mf2_n rfl e] at hj ⊢
      exact ih j hj
theorem neg64 {x : Int64} {B : Nat} (h : x.toInt.natAbs ≤ B) (hB : B < 2 ^ 63) : (-x).toInt = -x.toInt := by
  rw [Int64.toInt_neg]
  apply Int.bmod_eq_of_le <;> omega
/-- a set of zs - 1 of the rows -/
def setOK (rn zs x : Nat) : Prop := x < 2 ^ rn ∧ mny x 16 = zs - 1
theorem mf2_all {wf : Nat → Int32} {x zs wo rn : Nat} {q : Nat → Int64} (hr8 : rn ≤ 8) (hx : setOK rn zs x) (hw : wo < zs) : (mf2 wf x zs wo rn (0, q)).1 = (zs - 1) * (zs - 1) := by
  rw [mf2_cnt hw, ← hx.2, mny_hi hx.1 16 (by omega)]
theorem mnr_le {wf : Nat → Int32} {rn zs x wo : Nat} {q : Nat → Int64} (h2 : 2 ≤ zs) (h4 : zs ≤ 4) (hr8 : rn ≤ 8) (hr : rowsOK wf rn zs) (hx : setOK rn zs x) (hw : wo < zs) : (mnr wf rn zs x wo q).1.toInt.natAbs ≤ 5000 := by
  have hf := mf2_le (x := x) (wo := wo) (q := q) h4 (fun r hr1 i hi => ⟨(hr r i hr1 hi).1, (hr r i hr1 hi).2.1⟩) rn (Nat.le_refl rn)
  rw [mf2_all hr8 hx hw] at hf
  have hb : (wth (zs - 1) (zs - 1) 0 (mf2 wf x zs wo rn (0, q)).2 1 1).1.toInt.natAbs ≤ Bd (zs - 1 - 1) := by
    refine wth_le (by omega) (zs - 1) 0 _ 1 1 (by omega) (fun j hj => hf j hj) ?_ (Or.inl rfl)
    exact Nat.le_trans (show (1 : Int64).toInt.natAbs ≤ 1 by decide) (Bd_1 _)
  have hB : Bd (zs - 1 - 1) ≤ 5000 := Nat.le_trans (Bd_mono (b := 2) (by omega) (by decide)) (by decide)
  unfold mnr
  show (if wo % 2 = 0 then _ else _ : Int64).toInt.natAbs ≤ _
  split
  · omega
  · rw [neg64 hb (by omega)]; omega
theorem mn4_le {wf : Nat → Int32} {rn zs x : Nat} {q : Nat → Int64} (h2 : 2 ≤ zs) (h4 : zs ≤ 4) (hr8 : rn ≤ 8) (hr : rowsOK wf rn zs) (hx : setOK rn zs x) :
    (mn4 wf rn zs x q).1.1.toInt.natAbs ≤ 5000 ∧ (mn4 wf rn zs x q).1.2.1.toInt.natAbs ≤ 5000 ∧ (mn4 wf rn zs x q).1.2.2.1.toInt.natAbs ≤ 5000 ∧ (mn4 wf rn zs x q).1.2.2.2.toInt.natAbs ≤ 5000 ∧ (zs ≤ 2 → (mn4 wf rn zs x q).1.2.2.1 = 0) ∧ (zs ≤ 3 → (mn4 wf rn zs x q).1.2.2.2 = 0) := by
  have hz : (0 : Int64).toInt.natAbs ≤ 5000 := by decide
  unfold mn4
  refine ⟨mnr_le h2 h4 hr8 hr hx (by omega), mnr_le h2 h4 hr8 hr hx (by omega), ?_, ?_, fun h => ?_, fun h => ?_⟩
  · show (if zs ≤ 2 then ((0 : Int64), _) else _ : Int64 × (Nat → Int64)).1.toInt.natAbs ≤ 5000
    split
    · exact hz
    · exact mnr_le h2 h4 hr8 hr hx (by omega)
  · show (if zs ≤ 3 then ((0 : Int64), _) else _ : Int64 × (Nat → Int64)).1.toInt.natAbs ≤ 5000
    split
    · exact hz
    · exact mnr_le h2 h4 hr8 hr hx (by omega)
  · show (if zs ≤ 2 then ((0 : Int64), _) else _ : Int64 × (Nat → Int64)).1 = 0
    rw [if_pos h]
  · show (if zs ≤ 3 then ((0 : Int64), _) else _ : Int64 × (Nat → Int64)).1 = 0
    rw [if_pos h]
theorem sqr_at {wf : Nat → Int32} {q : Nat → Int64} : ∀ (m j : Nat), sqr wf m q j = if j < m then (wf j).toInt64 else q j
  | 0, j => by rw [if_neg (by omega)]; rfl
  | m + 1, j => by
    show vp_updL (sqr wf m q) m (wf m).toInt64 j = _
    by_cases e : j = m
    · subst e; rw [updL_eq, if_pos (by omega)]
    · rw [updL_ne e, sqr_at m j]
      by_cases h : j < m
      · rw [if_pos h, if_pos (by omega)]
      · rw [if_neg h, if_neg (by omega)]
/-- the rows times a vector of whole numbers -/
def wdot (wf : Nat → Int32) (k : Nat) (v : Nat → Int) : Int := (wf (4 * k + 0)).toInt * v 0 + (wf (4 * k + 1)).toInt * v 1 + (wf (4 * k + 2)).toInt * v 2 + (wf (4 * k + 3)).toInt * v 3
theorem pointed {wf : Nat → Int32} {rn zs : Nat} {q0 : Nat → Int64} {v : Nat → Int} (h4 : zs ≤ 4) (hr : rowsOK wf rn zs) (hk : zs ≤ (rkf rn (sqr wf (4 * rn) q0) 4).1) (hz : ∀ i, zs ≤ i → i < 4 → v i = 0) (hd : ∀ k, k < rn → wdot wf k v = 0) : ∀ i, i < 4 → v i = 0 := by
  have hs : ∀ k, k < rn → ∀ i, i < 4 → sqr wf (4 * rn) q0 (4 * k + i) = (wf (4 * k + i)).toInt64 := fun k hk i hi => by rw [sqr_at, if_pos (by omega)]
  have hR : RKI rn zs v 0 0 (sqr wf (4 * rn) q0) := by
    refine ⟨Nat.le_refl 0, Nat.zero_le _, fun k hk i hi => ?_, fun k hk i hi hzi => ?_, fun k hk => ?_, fun _ => ⟨fun j hj => absurd hj (Nat.not_lt_zero j), fun j hj => absurd hj (Nat.not_lt_zero j)⟩⟩
    · rw [hs k hk i hi, i32_64]
      have := hr k i hk hi
      show _ ≤ 5
      omega
    · rw [hs k hk i hi, (hr k i hk hi).2.2 hzi]; rfl
    · unfold rdot
      rw [hs k hk 0 (by decide), hs k hk 1 (by decide), hs k hk 2 (by decide), hs k hk 3 (by decide), i32_64, i32_64, i32_64, i32_64]
      exact hd k hk
  intro i hi
  by_cases e : i < zs
  · exact ker_zero h4 hR hk i e
  · exact hz i (by omega) hi
