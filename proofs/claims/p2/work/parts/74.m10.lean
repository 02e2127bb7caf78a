/-! ===== own rows: mathematics of the reference, 10 ===== -/
-- INDEX does not hang on what lay in the arrays
theorem chs_cnt {x : Nat} {ck : Nat → Nat} : ∀ k, (chs x k (0, ck)).1 = mny x k
  | 0 => rfl
  | k + 1 => by
    have hm : mny x (k + 1) = mny x k + (x / 2 ^ k) % 2 := rfl
    by_cases e : (x / 2 ^ k) % 2 = 1
    · rw [chs_y (n := (chs x k (0, ck)).1) (f := (chs x k (0, ck)).2) rfl e]
      show (chs x k (0, ck)).1 + 1 = _
      rw [chs_cnt k, hm, e]
    · rw [chs_n rfl e, chs_cnt k, hm]; omega
theorem chs_in {x : Nat} {ck c2 : Nat → Nat} : ∀ k j, j < mny x k → (chs x k (0, ck)).2 j < k ∧ (chs x k (0, ck)).2 j = (chs x k (0, c2)).2 j
  | 0, j, h => absurd h (Nat.not_lt_zero j)
  | k + 1, j, h => by
    have hm : mny x (k + 1) = mny x k + (x / 2 ^ k) % 2 := rfl
    by_cases e : (x / 2 ^ k) % 2 = 1
    · rw [chs_y (n := (chs x k (0, ck)).1) (f := (chs x k (0, ck)).2) rfl e, chs_y (n := (chs x k (0, c2)).1) (f := (chs x k (0, c2)).2) rfl e]
      show updN _ _ _ _ < _ ∧ updN _ _ _ _ = updN _ _ _ _
      rw [chs_cnt, chs_cnt]
      unfold updN
      by_cases e2 : j = mny x k
      · rw [if_pos e2, if_pos e2]; exact ⟨by omega, rfl⟩
      · rw [if_neg e2, if_neg e2]
        obtain ⟨a, b⟩ := chs_in (x := x) (ck := ck) (c2 := c2) k j (by omega)
        exact ⟨by omega, b⟩
    · rw [chs_n rfl e, chs_n rfl e]
      obtain ⟨a, b⟩ := chs_in (x := x) (ck := ck) (c2 := c2) k j (by omega)
      exact ⟨by omega, b⟩
theorem dt1_all {yf : Nat → Int32} {c y : Nat} {a : Nat} {f g : Nat → Int64} (hc : ∀ i, i < 4 → (yf (4 * c + i)).toInt.natAbs ≤ 750) (hf : ∀ j, j < a → (f j).toInt.natAbs ≤ 750 ∧ f j = g j) : ∀ i, i ≤ 4 → (dt1 yf c y i (a, f)).1 = a + mny y i ∧ (dt1 yf c y i (a, g)).1 = a + mny y i ∧ ∀ j, j < a + mny y i → ((dt1 yf c y i (a, f)).2 j).toInt.natAbs ≤ 750 ∧ (dt1 yf c y i (a, f)).2 j = (dt1 yf c y i (a, g)).2 j
  | 0, _ => ⟨rfl, rfl, hf⟩
  | i + 1, hi => by
    obtain ⟨h1, h2, h3⟩ := dt1_all (y := y) hc hf i (by omega)
    have hm : mny y (i + 1) = mny y i + (y / 2 ^ i) % 2 := rfl
    by_cases e : (y / 2 ^ i) % 2 = 1
    · rw [dt1_y (a := (dt1 yf c y i (a, f)).1) (f := (dt1 yf c y i (a, f)).2) rfl e, dt1_y (a := (dt1 yf c y i (a, g)).1) (f := (dt1 yf c y i (a, g)).2) rfl e, h1, h2, hm, e]
      refine ⟨rfl, rfl, fun j hj => ?_⟩
      show (vp_updL _ _ _ _).toInt.natAbs ≤ 750 ∧ vp_updL _ _ _ _ = vp_updL _ _ _ _
      by_cases e2 : j = a + mny y i
      · subst e2
        rw [updL_eq, updL_eq, i32_64]
        exact ⟨hc i (by omega), rfl⟩
      · rw [updL_ne e2, updL_ne e2]; exact h3 j (by omega)
    · rw [dt1_n rfl e, dt1_n rfl e, hm, show (y / 2 ^ i) % 2 = 0 by omega]
      exact ⟨h1, h2, h3⟩
theorem dt2_all {yf : Nat → Int32} {ck c2 : Nat → Nat} {y yn : Nat} {f g : Nat → Int64} (hy : ∀ c, c < yn → ∀ i, i < 4 → (yf (4 * c + i)).toInt.natAbs ≤ 750) : ∀ n, (∀ j, j < n → ck j < yn ∧ ck j = c2 j) → (dt2 yf ck y n (0, f)).1 = n * mny y 4 ∧ (dt2 yf c2 y n (0, g)).1 = n * mny y 4 ∧ ∀ j, j < n * mny y 4 → ((dt2 yf ck y n (0, f)).2 j).toInt.natAbs ≤ 750 ∧ (dt2 yf ck y n (0, f)).2 j = (dt2 yf c2 y n (0, g)).2 j
  | 0, _ => ⟨(Nat.zero_mul _).symm, (Nat.zero_mul _).symm, fun j hj => absurd hj (by rw [Nat.zero_mul]; omega)⟩
  | n + 1, hk => by
    obtain ⟨h1, h2, h3⟩ := dt2_all (y := y) (f := f) (g := g) hy n (fun j hj => hk j (by omega))
    obtain ⟨k1, k2⟩ := hk n (by omega)
    have e1 : dt2 yf ck y n (0, f) = (n * mny y 4, (dt2 yf ck y n (0, f)).2) := by rw [← h1]
    have e2 : dt2 yf c2 y n (0, g) = (n * mny y 4, (dt2 yf c2 y n (0, g)).2) := by rw [← h2]
    obtain ⟨d1, d2, d3⟩ := dt1_all (y := y) (a := n * mny y 4) (f := (dt2 yf ck y n (0, f)).2) (g := (dt2 yf c2 y n (0, g)).2) (hy _ k1) h3 4 (Nat.le_refl 4)
    have s1 : dt2 yf ck y (n + 1) (0, f) = dt1 yf (ck n) y 4 (n * mny y 4, (dt2 yf ck y n (0, f)).2) := by
      show dt1 yf (ck n) y 4 (dt2 yf ck y n (0, f)) = _
      rw [← e1]
    have s2 : dt2 yf c2 y (n + 1) (0, g) = dt1 yf (ck n) y 4 (n * mny y 4, (dt2 yf c2 y n (0, g)).2) := by
      show dt1 yf (c2 n) y 4 (dt2 yf c2 y n (0, g)) = _
      rw [← e2, k2]
    rw [s1, s2, Nat.succ_mul]
    exact ⟨d1, d2, d3⟩
/-- a choice of n rays, as the first n entries of an array -/
theorem dtm_all {yf : Nat → Int32} {ck c2 : Nat → Nat} {n y yn : Nat} {f g : Nat → Int64} (hn : n ≤ 4) (hy16 : y < 16) (hy : ∀ c, c < yn → ∀ i, i < 4 → (yf (4 * c + i)).toInt.natAbs ≤ 750) (hk : ∀ j, j < n → ck j < yn ∧ ck j = c2 j) (hm : mny y 16 = n) : (dtm yf ck n y f).1 = (dtm yf c2 n y g).1 ∧ (dtm yf ck n y f).1.toInt.natAbs ≤ 7593750000000 := by
  obtain ⟨h1, h2, h3⟩ := dt2_all (y := y) (f := f) (g := g) hy n hk
  have h4 : mny y 4 = n := by rw [← hm, mny_hi (r := 4) hy16 16 (by decide)]
  rw [h4] at h3
  have hA : ∀ j, j < n * n → ((dt2 yf ck y n (0, f)).2 j).toInt.natAbs ≤ 750 := fun j hj => (h3 j hj).1
  have hB : ∀ j, j < n * n → ((dt2 yf c2 y n (0, g)).2 j).toInt.natAbs ≤ 750 := fun j hj => by rw [← (h3 j hj).2]; exact (h3 j hj).1
  have eA := wth_det hn hA
  have eB := wth_det hn hB
  have eM : mat n (dt2 yf ck y n (0, f)).2 = mat n (dt2 yf c2 y n (0, g)).2 := by
    funext k i
    unfold mat
    split
    · rename_i q
      have := Nat.mul_le_mul (Nat.le_refl n) (show k + 1 ≤ n from q.1)
      rw [Nat.mul_succ] at this
      rw [(h3 (n * k + i) (by omega)).2]
    · rfl
  refine ⟨?_, ?_⟩
  · apply Int64.toInt_inj.mp
    show (wth n n 0 (dt2 yf ck y n (0, f)).2 1 1).1.toInt = (wth n n 0 (dt2 yf c2 y n (0, g)).2 1 1).1.toInt
    rw [eA, eB, eM]
  · show (wth n n 0 (dt2 yf ck y n (0, f)).2 1 1).1.toInt.natAbs ≤ _
    rw [eA]
    have hM : ∀ k i, k < 4 → i < 4 → (mat n (dt2 yf ck y n (0, f)).2 k i).natAbs ≤ 750 := fun k i _ _ => mat_le hA k i
    rcases (show n = 0 ∨ n = 1 ∨ n = 2 ∨ n = 3 ∨ n = 4 by omega) with e | e | e | e | e
    · rw [e]; show (1 : Int).natAbs ≤ _; decide
    · subst e; exact Nat.le_trans (Sc_le (c := 0) hM (k := 0) (i := 0) (by decide) (by decide)) (by decide)
    · rw [show ∀ A, dtn n A = Sc 1 A 1 1 from fun A => by rw [e]; rfl]; exact Nat.le_trans (Sc_le (c := 1) hM (by decide) (by decide)) (by decide)
    · rw [show ∀ A, dtn n A = Sc 2 A 2 2 from fun A => by rw [e]; rfl]; exact Nat.le_trans (Sc_le (c := 2) hM (by decide) (by decide)) (by decide)
    · rw [show ∀ A, dtn n A = Sc 3 A 3 3 from fun A => by rw [e]; rfl]; exact Sc_le (c := 3) hM (by decide) (by decide)
-- divisors that are not negative
theorem gcw_pos : ∀ (n : Nat) (x y : Int64), y.toInt.natAbs = n → 0 ≤ x.toInt → 0 ≤ y.toInt → 0 ≤ (gcw x y).toInt := by
  intro n
  induction n using Nat.strongRecOn with
  | ind n ih =>
    intro x y hn hx hy
    by_cases h : y = 0
    · rw [gcw_0 h]; exact hx
    · rw [gcw_s h]
      obtain ⟨h1, h2⟩ := lrem_int x y h
      refine ih _ (by rw [← hn]; exact lrem_less (x := x) h) y _ rfl hy ?_
      rw [h1]
      exact Int.tmod_nonneg _ hx
theorem nabs_pos {a : Int64} (h : ¬ a.toInt = -2 ^ 63) : 0 ≤ (nabs a).toInt := by
  unfold nabs
  by_cases h0 : lg_cmp a (0 : Int64) ≥ 0
  · rw [if_pos h0]
    have : ¬ lg_cmp a 0 < 0 := Int32.not_lt.mpr h0
    rw [lg_cmp_lt, i64_neg] at this
    omega
  · rw [if_neg h0]
    have h1 : a < 0 := (lg_cmp_lt _ _).mp (Int32.not_le.mp h0)
    rw [i64_neg] at h1
    have h2 := a.le_toInt
    rw [Int64.toInt_neg, show (-a.toInt).bmod (2 ^ 64) = -a.toInt from by apply Int.bmod_eq_of_le <;> omega]
    omega
theorem gcv_pos {a b : Int64} (ha : 0 ≤ a.toInt) (hb : b.toInt.natAbs ≤ 7593750000000) : 0 ≤ (gcv a b).toInt := gcw_pos _ _ _ rfl (nabs_pos (by omega)) (nabs_pos (by omega))
theorem ixf_all {yf : Nat → Int32} {ck c2 : Nat → Nat} {sp zs yn : Nat} {f g : Nat → Int64} (hsp : sp ≤ 4) (hz : zs ≤ 4) (hy : ∀ c, c < yn → ∀ i, i < 4 → (yf (4 * c + i)).toInt.natAbs ≤ 750) (hk : ∀ j, j < sp → ck j < yn ∧ ck j = c2 j) : ∀ k, k ≤ 16 → (ixf yf ck sp zs k (0, f)).1 = (ixf yf c2 sp zs k (0, g)).1 ∧ 0 ≤ (ixf yf ck sp zs k (0, f)).1.toInt
  | 0, _ => ⟨rfl, by show 0 ≤ (0 : Int64).toInt; decide⟩
  | k + 1, hk16 => by
    obtain ⟨a, b⟩ := ixf_all (f := f) (g := g) hsp hz hy hk k (by omega)
    by_cases e : mny k 16 = sp ∧ k < 2 ^ zs
    · obtain ⟨d1, d2⟩ := dtm_all (n := sp) (y := k) (f := (ixf yf ck sp zs k (0, f)).2) (g := (ixf yf c2 sp zs k (0, g)).2) hsp (by omega) hy hk e.1
      rw [ixf_y (g := (ixf yf ck sp zs k (0, f)).1) (q := (ixf yf ck sp zs k (0, f)).2) (v := (dtm yf ck sp k (ixf yf ck sp zs k (0, f)).2).1) (q2 := (dtm yf ck sp k (ixf yf ck sp zs k (0, f)).2).2) rfl e.1 e.2 rfl]
      rw [ixf_y (g := (ixf yf c2 sp zs k (0, g)).1) (q := (ixf yf c2 sp zs k (0, g)).2) (v := (dtm yf c2 sp k (ixf yf c2 sp zs k (0, g)).2).1) (q2 := (dtm yf c2 sp k (ixf yf c2 sp zs k (0, g)).2).2) rfl e.1 e.2 rfl]
      exact ⟨by show gcv _ _ = gcv _ _; rw [a, d1], gcv_pos b d2⟩
    · rw [ixf_n rfl e, ixf_n rfl e]; exact ⟨a, b⟩
/-- the largest INDEX is at least each -/
theorem ixd_ge {yf : Nat → Int32} {sp zs yn : Nat} {c0 : Nat → Nat} {q0 : Nat → Int64} (hsp : sp ≤ 4) (hz : zs ≤ 4) (hyn : yn ≤ 8) (hy : ∀ c, c < yn → ∀ i, i < 4 → (yf (4 * c + i)).toInt.natAbs ≤ 750) : ∀ m, m ≤ 2 ^ yn - 1 → ∀ x, 1 ≤ x → x ≤ m → mny x 16 = sp → ∀ (ck : Nat → Nat) (q : Nat → Int64), (ixf yf (chs x yn (0, ck)).2 sp zs 16 (0, q)).1.toInt ≤ (ixd yf yn sp zs m (0, c0, q0)).1.toInt
  | 0, _, x, h1, h2, _ => absurd h2 (by omega)
  | m + 1, hm, x, h1, h2, hx => by
    intro ck q
    by_cases e : mny (1 + m) 16 = sp
    · rw [ixd_y (n2 := (chs (1 + m) yn (0, (ixd yf yn sp zs m (0, c0, q0)).2.1)).1) (g := (ixd yf yn sp zs m (0, c0, q0)).1) (ck := (ixd yf yn sp zs m (0, c0, q0)).2.1) (q := (ixd yf yn sp zs m (0, c0, q0)).2.2) (c2 := (chs (1 + m) yn (0, (ixd yf yn sp zs m (0, c0, q0)).2.1)).2) (i := (ixf yf (chs (1 + m) yn (0, (ixd yf yn sp zs m (0, c0, q0)).2.1)).2 sp zs 16 (0, (ixd yf yn sp zs m (0, c0, q0)).2.2)).1) (q2 := (ixf yf (chs (1 + m) yn (0, (ixd yf yn sp zs m (0, c0, q0)).2.1)).2 sp zs 16 (0, (ixd yf yn sp zs m (0, c0, q0)).2.2)).2) rfl e rfl rfl]
      show _ ≤ (if _ < _ then _ else _ : Int64).toInt
      have key : x = 1 + m → (ixf yf (chs x yn (0, ck)).2 sp zs 16 (0, q)).1 = (ixf yf (chs (1 + m) yn (0, (ixd yf yn sp zs m (0, c0, q0)).2.1)).2 sp zs 16 (0, (ixd yf yn sp zs m (0, c0, q0)).2.2)).1 := by
        intro ex
        subst ex
        have hc : mny (1 + m) yn = sp := by rw [← e, mny_hi (x := 1 + m) (r := yn) (by omega) 16 (by omega)]
        exact (ixf_all hsp hz hy (fun j hj => chs_in yn j (by rw [hc]; exact hj)) 16 (Nat.le_refl 16)).1
      generalize (ixf yf (chs (1 + m) yn (0, (ixd yf yn sp zs m (0, c0, q0)).2.1)).2 sp zs 16 (0, (ixd yf yn sp zs m (0, c0, q0)).2.2)).1 = I9 at *
      by_cases ex : x = 1 + m
      · rw [key ex]
        split
        · exact Int.le_refl _
        · rename_i h; exact Int64.le_iff_toInt_le.mp (Int64.not_lt.mp h)
      · have ih := ixd_ge (c0 := c0) (q0 := q0) hsp hz hyn hy m (by omega) x h1 (by omega) hx ck q
        split
        · rename_i h; have := Int64.lt_iff_toInt_lt.mp h; omega
        · exact ih
    · rw [ixd_n rfl e]
      by_cases ex : x = 1 + m
      · subst ex; exact absurd hx e
      · exact ixd_ge hsp hz hyn hy m (by omega) x h1 (by omega) hx ck q
theorem rkf_le4 (n : Nat) (f : Nat → Int64) : ∀ c, (rkf n f c).1 ≤ c
  | 0 => Nat.le_refl 0
  | c + 1 => by
    have ih := rkf_le4 n f c
    by_cases h : pvt (rkf n f c).2 c (n - (rkf n f c).1) (rkf n f c).1 < n
    · rw [rkf_y (r := (rkf n f c).1) (g := (rkf n f c).2) rfl rfl h rfl rfl]; show _ + 1 ≤ _; omega
    · rw [rkf_n (r := (rkf n f c).1) (g := (rkf n f c).2) rfl rfl h]; show (rkf n f c).1 ≤ _; omega
theorem KMr.sp4 {wf : Nat → Int32} {rn zs rk yn : Nat} {yf tf : Nat → Int32} {sp lg : Nat} (h : KMr wf rn zs rk yn yf tf sp lg) (hp : zs ≤ rk) : sp ≤ 4 := by
  obtain ⟨-, -, h3⟩ := h
  obtain ⟨-, -, ⟨q0, q1, hd⟩, -⟩ := h3 hp
  have e : sp = (dmo yf yn (allx yn) q0).1 := by rw [hd]
  rw [e]
  exact rkf_le4 _ _ 4
/-- INDEX of every choice is small -/
theorem ixf_0 {yf : Nat → Int32} {ck : Nat → Nat} {zs : Nat} {f : Nat → Int64} : ∀ k, (ixf yf ck 0 zs (k + 1) (0, f)).1.toInt ∣ 1
  | 0 => by
    rw [ixf_y (k := 0) (g := 0) (q := f) (v := (dtm yf ck 0 0 f).1) (q2 := (dtm yf ck 0 0 f).2) rfl (by decide) (Nat.two_pow_pos _) rfl]
    exact (gcv_dvd 0 (dtm yf ck 0 0 f).1).2
  | k + 1 => by
    have ih := ixf_0 (yf := yf) (ck := ck) (zs := zs) (f := f) k
    by_cases e : mny (k + 1) 16 = 0 ∧ k + 1 < 2 ^ zs
    · rw [ixf_y (g := (ixf yf ck 0 zs (k + 1) (0, f)).1) (q := (ixf yf ck 0 zs (k + 1) (0, f)).2) (v := (dtm yf ck 0 (k + 1) (ixf yf ck 0 zs (k + 1) (0, f)).2).1) (q2 := (dtm yf ck 0 (k + 1) (ixf yf ck 0 zs (k + 1) (0, f)).2).2) rfl e.1 e.2 rfl]
      exact Int.dvd_trans (gcv_dvd _ _).1 ih
    · rw [ixf_n rfl e]; exact ih
theorem M2 {wf : Nat → Int32} {rn zs rk yn : Nat} {yf tf : Nat → Int32} {sp lg : Nat} (h2 : 2 ≤ zs) (h4 : zs ≤ 4) (hr8 : rn ≤ 8) (hr : rowsOK wf rn zs) (h : KMr wf rn zs rk yn yf tf sp lg) (hp : zs ≤ rk) (hl : lg = 0) : bxh yf yn sp zs := by
  have hR := h.rays h2 h4 hr8 hr hp
  have hsp := h.sp4 hp
  have hy : ∀ c, c < yn → ∀ i, i < 4 → (yf (4 * c + i)).toInt.natAbs ≤ 750 := by
    intro c hc i hi
    have := (hR c hc).1 i hi
    rcases (show i = 0 ∨ i = 1 ∨ i = 2 ∨ i = 3 by omega) with rfl | rfl | rfl | rfl <;> exact this
  obtain ⟨-, -, h3⟩ := h
  obtain ⟨-, -, -, h5⟩ := h3 hp
  obtain ⟨-, hyn, ck0, q0, -, h12⟩ : lg = 0 ∧ yn ≤ 8 ∧ ∃ ck0 q0, (∀ j, ck0 j < 8) ∧ ¬ 12 < (ixd yf yn sp zs (2 ^ yn - 1) (0, ck0, q0)).1 := by
    rcases h5 with h6 | h6
    · exact absurd h6.1 (by omega)
    · exact h6
  intro x ck q hx hm _
  have hc : mny x yn = sp := by rw [← hm, mny_hi (x := x) (r := yn) hx 16 (by omega)]
  have hpos := (ixf_all (ck := (chs x yn (0, ck)).2) (c2 := (chs x yn (0, ck)).2) (f := q) (g := q) hsp h4 hy (fun j hj => chs_in yn j (by rw [hc]; exact hj)) 16 (Nat.le_refl 16)).2
  have h13 : (ixd yf yn sp zs (2 ^ yn - 1) (0, ck0, q0)).1.toInt ≤ 12 := by
    have := Int64.le_iff_toInt_le.mp (Int64.not_lt.mp h12)
    exact this
  have hle : (ixf yf (chs x yn (0, ck)).2 sp zs 16 (0, q)).1.toInt ≤ 12 := by
    by_cases e : x = 0
    · have s0 : sp = 0 := by rw [← hm, e]; decide
      have hd := ixf_0 (yf := yf) (ck := (chs x yn (0, ck)).2) (zs := zs) (f := q) 15
      rw [s0]
      have : (ixf yf (chs x yn (0, ck)).2 0 zs 16 (0, q)).1.toInt ≤ 1 := Int.le_of_dvd (by decide) hd
      omega
    · have := ixd_ge (c0 := ck0) (q0 := q0) hsp h4 hyn hy (2 ^ yn - 1) (Nat.le_refl _) x (by omega) (by omega) hm ck q
      omega
  generalize (ixf yf (chs x yn (0, ck)).2 sp zs 16 (0, q)).1 = v at *
  have e32 : v.toInt32.toInt = v.toInt := i32_of64 (by omega)
  have en : ixn v = v.toInt.toNat := by
    unfold ixn
    show v.toInt32.toInt.toNat = _
    rw [e32]
  refine ⟨?_, by rw [en]; omega⟩
  apply Int32.toInt_inj.mp
  rw [e32, en, nI_toInt (by omega)]
  omega
