/-! ===== own rows: class and reference, 13 ===== -/
-- both take the same directions
theorem mexI_row {f a b : Nat → Int} (h : ∀ i, i < 4 → a i = b i) (m : Nat) : mexI f a m = mexI f b m := by
  unfold mexI
  split <;> simp only [h 0 (by decide), h 1 (by decide), h 2 (by decide), h 3 (by decide)]
theorem mnI_row {R R' : Nat → Nat → Int} : ∀ j, (∀ l, l < j → ∀ i, i < 4 → R l i = R' l i) → mnI R j = mnI R' j
  | 0, _ => rfl
  | j + 1, h => by
    show mexI (mnI R j) (R j) = mexI (mnI R' j) (R' j)
    rw [mnI_row j (fun l hl => h l (by omega))]
    funext m
    exact mexI_row (h j (by omega)) m
theorem setOK.cnt {rn zs x : Nat} (hr8 : rn ≤ 8) (hx : setOK rn zs x) : mny x rn = zs - 1 := by rw [← mny_hi hx.1 16 (by omega)]; exact hx.2
theorem Bj_le {j : Nat} (h : j ≤ 3) : Bj 5 j ≤ 8000 := by
  rcases (show j = 0 ∨ j = 1 ∨ j = 2 ∨ j = 3 by omega) with rfl | rfl | rfl | rfl <;> decide
theorem rwI_wr {pf wf : Nat → Int32} {rn : Nat} (hs : ∀ i, i < 4 * rn → pf i = wf i) {p i : Nat} (hp : p < rn) (hi : i < 4) : rwI pf p i = wr wf p i := by
  show (pf (p * 4 + i)).toInt = (wf (4 * p + i)).toInt
  rw [show p * 4 + i = 4 * p + i by omega, hs _ (by omega)]
theorem cls_yes {pf wf : Nat → Int32} {rn zs x : Nat} (h4 : zs ≤ 4) (hr8 : rn ≤ 8) (hr : rowsOK wf rn zs) (hs : ∀ i, i < 4 * rn → pf i = wf i) (hx : setOK rn zs x) (hl : (lst pf x rn).1 = zs - 1) : (∀ m ∈ lev (zs - 1), ((lst pf x rn).2 m).toInt = mnI (fun l => wr wf (Jn x rn l)) (zs - 1) m ∧ ((lst pf x rn).2 m).toInt.natAbs ≤ 8000) ∧ ∃ m ∈ lev (zs - 1), ¬ mnI (fun l => wr wf (Jn x rn l)) (zs - 1) m = 0 := by
  obtain ⟨Jx, a1, a2, a3, a4, a5⟩ := LST.all (pf := pf) (C := 5) (ch := x) (by decide) rn (fun q hq _ i hi => by
    rw [show q * 4 + i = 4 * q + i by omega, hs _ (by omega)]
    have := hr q i hq hi
    omega)
  rw [hl] at a1 a2 a3 a4
  have hJ := inc_eq (x := x) (J := Jx) rn (zs - 1) (hx.cnt hr8).symm a1 a2
  have hmn : mnI (fun l => rwI pf (Jx l)) (zs - 1) = mnI (fun l => wr wf (Jn x rn l)) (zs - 1) := mnI_row (zs - 1) (fun l hl i hi => by
    show rwI pf (Jx l) i = wr wf (Jn x rn l) i
    rw [← hJ l hl]
    exact rwI_wr hs (a1 l hl).1 hi)
  rw [hmn] at a3 a4
  exact ⟨fun m hm => ⟨(a3 m hm).1, Nat.le_trans (a3 m hm).2 (Bj_le (by omega))⟩, a4⟩
theorem cls_no {pf wf : Nat → Int32} {rn zs x : Nat} (h4 : zs ≤ 4) (hr8 : rn ≤ 8) (hr : rowsOK wf rn zs) (hs : ∀ i, i < 4 * rn → pf i = wf i) (hx : setOK rn zs x) (hl : ¬ (lst pf x rn).1 = zs - 1) : ∀ m ∈ lev (zs - 1), mnI (fun l => wr wf (Jn x rn l)) (zs - 1) m = 0 := by
  obtain ⟨Jx, a1, a2, a3, a4, a5⟩ := LST.all (pf := pf) (C := 5) (ch := x) (by decide) rn (fun q hq _ i hi => by
    rw [show q * 4 + i = 4 * q + i by omega, hs _ (by omega)]
    have := hr q i hq hi
    omega)
  have hle := inc_le (x := x) (J := Jx) rn _ a1 a2
  rw [hx.cnt hr8] at hle
  obtain ⟨j1, j2, j3⟩ := Jn_spec (x := x) rn
  rw [hx.cnt hr8] at j1
  intro m hm
  refine Classical.byContradiction (fun z => hl (Nat.le_antisymm hle ?_))
  have hI := mnI_ind (R := fun l => wr wf (Jn x rn l)) (j := zs - 1) (by omega) ⟨m, hm, z⟩
  exact hI.le (fun l hl => (a5 (Jn x rn l) (j1 l hl).1 (j1 l hl).2).congr (fun i hi => (rwI_wr hs (j1 l hl).1 hi).symm))
theorem mnv_zero {v : Int64 × Int64 × Int64 × Int64} (h : ∀ i, i < 4 → mnv v i = 0) : ¬ 0 < gc4 v := by
  have e0 : v.1 = 0 := i64_zero.mpr (h 0 (by decide))
  have e1 : v.2.1 = 0 := i64_zero.mpr (h 1 (by decide))
  have e2 : v.2.2.1 = 0 := i64_zero.mpr (h 2 (by decide))
  have e3 : v.2.2.2 = 0 := i64_zero.mpr (h 3 (by decide))
  unfold gc4
  rw [e0, e1, e2, e3, gcv_zero, gcv_zero]
  decide
theorem wr_hi {wf : Nat → Int32} {rn zs k i : Nat} (hr : rowsOK wf rn zs) (hk : k < rn) (hi : zs ≤ i) (h4 : i < 4) : wr wf k i = 0 := by
  show (wf (4 * k + i)).toInt = 0
  rw [(hr k i hk h4).2.2 hi]; rfl
theorem Nx_mnI {zs : Nat} (h2 : 2 ≤ zs) (h4 : zs ≤ 4) (wf : Nat → Int32) (J : Nat → Nat) {i : Nat} (hi : i < zs) : (2 ^ zs - 1) ^^^ 2 ^ i ∈ lev (zs - 1) ∧ (if i % 2 = 0 then (1 : Int) else -1) * mnI (fun l => wr wf (J l)) (zs - 1) ((2 ^ zs - 1) ^^^ 2 ^ i) = Nx zs wf J i := mnI_crs h2 h4 (fun l => wr wf (J l)) hi
/-- no direction for the class: none for the reference -/
theorem dir_no {pf wf : Nat → Int32} {rn zs x : Nat} {q : Nat → Int64} (h2 : 2 ≤ zs) (h4 : zs ≤ 4) (hr8 : rn ≤ 8) (hr : rowsOK wf rn zs) (hs : ∀ i, i < 4 * rn → pf i = wf i) (hx : setOK rn zs x) (hl : ¬ (lst pf x rn).1 = zs - 1) : ¬ 0 < gc4 (mn4 wf rn zs x q).1 := by
  refine mnv_zero (fun i hi => ?_)
  rw [mn4_val h2 h4 hr8 hr hx i hi]
  by_cases e : i < zs
  · obtain ⟨a, b⟩ := Nx_mnI h2 h4 wf (Jn x rn) e
    rw [← b, cls_no h4 hr8 hr hs hx hl _ a, Int.mul_zero]
  · exact Nx_hi h2 (by omega) hi
theorem dirg_p_at {f : Nat → Int64} {z i : Nat} {d : Nat → Int32} (h2 : 2 ≤ z) (h4 : z ≤ 4) (hi : i < 4) : dirg_p f z d i = if i < z then dirc f z 1 i else 0 := by
  unfold dirg_p
  rcases (show z = 2 ∨ z = 3 ∨ z = 4 by omega) with rfl | rfl | rfl <;> rcases (show i = 0 ∨ i = 1 ∨ i = 2 ∨ i = 3 by omega) with rfl | rfl | rfl | rfl <;> simp [upd]
theorem dirg_m_at {f : Nat → Int64} {z i : Nat} {d : Nat → Int32} (h2 : 2 ≤ z) (h4 : z ≤ 4) (hi : i < 4) : dirg_m f z d i = if i < z then dirc f z (-1) i else 0 := by
  unfold dirg_m
  rcases (show z = 2 ∨ z = 3 ∨ z = 4 by omega) with rfl | rfl | rfl <;> rcases (show i = 0 ∨ i = 1 ∨ i = 2 ∨ i = 3 by omega) with rfl | rfl | rfl | rfl <;> simp [upd]
theorem dirc_int {f : Nat → Int64} {z i : Nat} {sg : Int32} (hs : sg = 1 ∨ sg = -1) (hf : (f ((2 ^ z - 1) ^^^ 2 ^ i)).toInt.natAbs ≤ 8000) : (dirc f z sg i).toInt = sg.toInt * ((if i % 2 = 0 then (1 : Int) else -1) * (f ((2 ^ z - 1) ^^^ 2 ^ i)).toInt.tdiv (cdl f (lev (z - 1))).toInt) := by
  unfold dirc
  generalize f ((2 ^ z - 1) ^^^ 2 ^ i) = y at hf
  generalize cdl f (lev (z - 1)) = G
  have hq : (y.toInt.tdiv G.toInt).natAbs ≤ 8000 := by
    rw [Int.natAbs_tdiv]
    exact Nat.le_trans (Nat.div_le_self _ _) hf
  have h1 : (y / G).toInt = y.toInt.tdiv G.toInt := by
    rw [Int64.toInt_div]
    apply Int.bmod_eq_of_le <;> omega
  have h2 : (if i % 2 = 0 then y / G else -(y / G)).toInt = (if i % 2 = 0 then (1 : Int) else -1) * y.toInt.tdiv G.toInt := by
    by_cases e : i % 2 = 0
    · rw [if_pos e, if_pos e, h1, Int.one_mul]
    · rw [if_neg e, if_neg e, neg64 (B := 8000) (by rw [h1]; exact hq) (by decide), h1]; omega
  generalize hX : (if i % 2 = 0 then y / G else -(y / G)) = X at h2
  have hb : ((if i % 2 = 0 then (1 : Int) else -1) * y.toInt.tdiv G.toInt).natAbs ≤ 8000 := by
    by_cases e : i % 2 = 0
    · rw [if_pos e, Int.one_mul]; exact hq
    · rw [if_neg e]; omega
  generalize (if i % 2 = 0 then (1 : Int) else -1) * y.toInt.tdiv G.toInt = Y at h2 hb
  have h3 : X.toInt32.toInt = Y := by rw [i32_of64 (by rw [h2]; omega), h2]
  rw [Int32.toInt_mul, h3, Int.mul_comm]
  rcases hs with rfl | rfl
  · rw [show (1 : Int32).toInt = 1 by decide, Int.one_mul]
    apply Int.bmod_eq_of_le <;> omega
  · rw [show (-1 : Int32).toInt = -1 by decide]
    apply Int.bmod_eq_of_le <;> omega
/-- the same directions -/
theorem dir_yes {pf wf : Nat → Int32} {rn zs x : Nat} {q : Nat → Int64} {dg w : Nat → Int32} (h2 : 2 ≤ zs) (h4 : zs ≤ 4) (hr8 : rn ≤ 8) (hr : rowsOK wf rn zs) (hs : ∀ i, i < 4 * rn → pf i = wf i) (hx : setOK rn zs x) (hl : (lst pf x rn).1 = zs - 1) :
    0 < gc4 (mn4 wf rn zs x q).1 ∧ (∀ i, i < 4 → drw_p (lst pf x rn).2 zs dg i = vcs zs w 1 (gc4 (mn4 wf rn zs x q).1) (mn4 wf rn zs x q).1 i) ∧ (∀ i, i < 4 → drw_m (lst pf x rn).2 zs dg i = vcs zs w (-1) (gc4 (mn4 wf rn zs x q).1) (mn4 wf rn zs x q).1 i) := by
  obtain ⟨c1, c2⟩ := cls_yes h4 hr8 hr hs hx hl
  have hv := mn4_val (q := q) h2 h4 hr8 hr hx
  obtain ⟨b0, b1, b2, b3, z2, z3⟩ := mn4_le (q := q) h2 h4 hr8 hr hx
  obtain ⟨j1, j2, j3⟩ := Jn_spec (x := x) rn
  rw [hx.cnt hr8] at j1
  have hR : ∀ l i, l < zs - 1 → zs ≤ i → i < 4 → (fun l => wr wf (Jn x rn l)) l i = 0 := fun l i hl h1 h3 => wr_hi hr (j1 l hl).1 h1 h3
  have hhi := mnI_hi h2 h4 hR
  have vb : ∀ i, i < 4 → (mnv (mn4 wf rn zs x q).1 i).natAbs ≤ 5000 := by
    intro i hi
    rcases (show i = 0 ∨ i = 1 ∨ i = 2 ∨ i = 3 by omega) with rfl | rfl | rfl | rfl
    · exact b0
    · exact b1
    · exact b2
    · exact b3
  obtain ⟨g1, g2, g3⟩ := gc4_gcd vb
  obtain ⟨k1, k2, k3⟩ := cdl_gcd (f := (lst pf x rn).2) (ms := lev (zs - 1)) (fun m hm => by have := (c1 m hm).2; omega)
  generalize hvv : (mn4 wf rn zs x q).1 = v at *
  generalize hff : (lst pf x rn).2 = f at *
  have sgn : ∀ i : Nat, ∀ y : Int, ∀ d : Int, d ∣ (if i % 2 = 0 then (1 : Int) else -1) * y ↔ d ∣ y := fun i y d => by
    by_cases e : i % 2 = 0
    · rw [if_pos e, Int.one_mul]
    · rw [if_neg e, show (-1 : Int) * y = -y by omega]; exact Int.dvd_neg
  have hG : (cdl f (lev (zs - 1))).toInt = (gc4 v).toInt := by
    refine dvd_eq k1 g1 (g3 _ (fun i hi => ?_)) (k3 _ (fun m hm => ?_))
    · rw [hv i hi]
      by_cases e : i < zs
      · obtain ⟨a, b⟩ := Nx_mnI h2 h4 wf (Jn x rn) e
        rw [← b, ← (c1 _ a).1]
        exact (sgn i _ _).mpr (k2 _ a)
      · rw [Nx_hi h2 (by omega) hi]; exact Int.dvd_zero _
    · show (gc4 v).toInt ∣ (f m).toInt
      rw [(c1 m hm).1]
      rcases hhi m hm with ⟨i, hi, rfl⟩ | h0
      · obtain ⟨a, b⟩ := Nx_mnI h2 h4 wf (Jn x rn) hi
        have := g2 i (by omega)
        rw [hv i (by omega), ← b] at this
        exact (sgn i _ _).mp this
      · rw [h0]; exact Int.dvd_zero _
  have hpos : 0 < (gc4 v).toInt := by
    rcases Int.lt_or_eq_of_le g1 with h | h
    · exact h
    · exfalso
      obtain ⟨m, hm, hne⟩ := c2
      have := k2 m hm
      rw [hG, ← h] at this
      have h0 := Int.zero_dvd.mp this
      have h0 : (f m).toInt = 0 := h0
      rw [(c1 m hm).1] at h0
      exact hne h0
  have hg0 : 0 < gc4 v := Int64.lt_iff_toInt_lt.mpr hpos
  have hcne : ¬ cdl f (lev (zs - 1)) = 0 := fun z => by rw [z] at hG; have : (0 : Int64).toInt = 0 := rfl; omega
  have key : ∀ (sg : Int32) (s : Int64) (i : Nat), i < 4 → (sg = 1 ∧ s = 1) ∨ (sg = -1 ∧ s = -1) → (if i < zs then dirc f zs sg i else 0) = vcs zs w s (gc4 v) v i := by
    intro sg s i hi hss
    apply Int32.toInt_inj.mp
    rw [vcs_at h2 (by rcases hss with ⟨-, h⟩ | ⟨-, h⟩; exact Or.inl h; exact Or.inr h) hg0 b0 b1 b2 b3 z2 z3 hi h4]
    have hdw : dirW v (gc4 v) i = (mnv v i).tdiv (gc4 v).toInt := by
      unfold dirW mnv
      split
      · rfl
      · split
        · rfl
        · split <;> rfl
    have hsg : sg.toInt = s.toInt := by rcases hss with ⟨rfl, rfl⟩ | ⟨rfl, rfl⟩ <;> decide
    rw [hdw, hv i hi, ← hsg]
    by_cases e : i < zs
    · obtain ⟨a, b⟩ := Nx_mnI h2 h4 wf (Jn x rn) e
      rw [if_pos e, dirc_int (by rcases hss with ⟨h, -⟩ | ⟨h, -⟩; exact Or.inl h; exact Or.inr h) (c1 _ a).2, hG, ← b, (c1 _ a).1]
      by_cases e2 : i % 2 = 0
      · rw [if_pos e2, Int.one_mul, Int.one_mul]
      · rw [if_neg e2, show (-1 : Int) * mnI (fun l => wr wf (Jn x rn l)) (zs - 1) ((2 ^ zs - 1) ^^^ 2 ^ i) = -(mnI (fun l => wr wf (Jn x rn l)) (zs - 1) ((2 ^ zs - 1) ^^^ 2 ^ i)) by omega, Int.neg_tdiv]
        congr 1
        omega
    · rw [if_neg e, Nx_hi h2 (by omega) hi, Int.zero_tdiv, Int.mul_zero]; rfl
  refine ⟨hg0, fun i hi => ?_, fun i hi => ?_⟩
  · unfold drw_p
    rw [@if_neg _ (Classical.propDecidable _) hcne, dirg_p_at h2 h4 hi]
    exact key 1 1 i hi (Or.inl ⟨rfl, rfl⟩)
  · unfold drw_m
    rw [@if_neg _ (Classical.propDecidable _) hcne, dirg_m_at h2 h4 hi]
    exact key (-1) (-1) i hi (Or.inr ⟨rfl, rfl⟩)
