/-! ===== own rows: mathematics of the reference, 06 ===== -/
-- at most one ray of a set of rows
theorem gcv_zero : gcv 0 0 = 0 := by
  unfold gcv
  rw [show nabs 0 = 0 by decide, gcw_0 rfl]
theorem i32_of64 {x : Int64} (h : x.toInt.natAbs < 2 ^ 31) : x.toInt32.toInt = x.toInt := by
  rw [Int64.toInt_toInt32]
  apply Int.bmod_eq_of_le <;> omega
/-- the whole number in the direction of the determinants -/
def dirW (v : Int64 × Int64 × Int64 × Int64) (g : Int64) (i : Nat) : Int := if i = 0 then v.1.toInt.tdiv g.toInt else if i = 1 then v.2.1.toInt.tdiv g.toInt else if i = 2 then v.2.2.1.toInt.tdiv g.toInt else v.2.2.2.toInt.tdiv g.toInt
theorem sdiv {x g s : Int64} (hs : s = 1 ∨ s = -1) (hx : x.toInt.natAbs ≤ 5000) (hg : 0 < g) : (s * x / g).toInt32.toInt = s.toInt * x.toInt.tdiv g.toInt ∧ (x.toInt.tdiv g.toInt).natAbs ≤ 5000 := by
  have h1 : s.toInt.natAbs ≤ 1 := by rcases hs with rfl | rfl <;> decide
  obtain ⟨a1, a2⟩ := mul64 h1 hx (by decide)
  have h3 : (x.toInt.tdiv g.toInt).natAbs ≤ 5000 := by rw [Int.natAbs_tdiv]; exact Nat.le_trans (Nat.div_le_self _ _) hx
  have e : (s * x / g).toInt = s.toInt * x.toInt.tdiv g.toInt := by
    rw [Int64.toInt_div, a1]
    have e2 : (s.toInt * x.toInt).tdiv g.toInt = s.toInt * x.toInt.tdiv g.toInt := by
      rcases hs with rfl | rfl
      · rw [show (1 : Int64).toInt = 1 by decide, Int.one_mul, Int.one_mul]
      · rw [show (-1 : Int64).toInt = -1 by decide, Int.neg_mul, Int.neg_mul, Int.one_mul, Int.one_mul, Int.neg_tdiv]
    rw [e2]
    have : (s.toInt * x.toInt.tdiv g.toInt).natAbs ≤ 1 * 5000 := by rw [Int.natAbs_mul]; exact Nat.mul_le_mul h1 h3
    apply Int.bmod_eq_of_le <;> omega
  refine ⟨?_, h3⟩
  have : (s.toInt * x.toInt.tdiv g.toInt).natAbs ≤ 1 * 5000 := by rw [Int.natAbs_mul]; exact Nat.mul_le_mul h1 h3
  rw [i32_of64 (by rw [e]; omega), e]
theorem vcs_at {zs i : Nat} {w : Nat → Int32} {s g : Int64} {v : Int64 × Int64 × Int64 × Int64} (h2 : 2 ≤ zs) (hs : s = 1 ∨ s = -1) (hg : 0 < g) (b0 : v.1.toInt.natAbs ≤ 5000) (b1 : v.2.1.toInt.natAbs ≤ 5000) (b2 : v.2.2.1.toInt.natAbs ≤ 5000) (b3 : v.2.2.2.toInt.natAbs ≤ 5000) (z2 : zs ≤ 2 → v.2.2.1 = 0) (z3 : zs ≤ 3 → v.2.2.2 = 0) (hi : i < 4) (h4 : zs ≤ 4) :
    (vcs zs w s g v i).toInt = s.toInt * dirW v g i := by
  have zz : (0 : Int64).toInt = 0 := by decide
  have z32 : (0 : Int32).toInt = 0 := by decide
  rcases (show i = 0 ∨ i = 1 ∨ i = 2 ∨ i = 3 by omega) with rfl | rfl | rfl | rfl
  · have e : vcs zs w s g v 0 = (s * v.1 / g).toInt32 := by unfold vcs; simp [upd]
    rw [e, (sdiv hs b0 hg).1]; rfl
  · have e : vcs zs w s g v 1 = (s * v.2.1 / g).toInt32 := by unfold vcs; simp [upd]
    rw [e, (sdiv hs b1 hg).1]; rfl
  · have e : vcs zs w s g v 2 = tk_c (nI zs) (s * v.2.2.1 / g).toInt32 := by unfold vcs; simp [upd]
    rw [e]
    show _ = s.toInt * v.2.2.1.toInt.tdiv g.toInt
    unfold tk_c
    by_cases h : zs ≤ 2
    · rw [if_pos (show nI zs ≤ (2 : Int32) from nI_le (a := zs) (b := 2) h (by decide)), z2 h, zz, Int.zero_tdiv, Int.mul_zero]; exact z32
    · rw [if_neg (fun z => h (by have := Int32.le_iff_toInt_le.mp z; rw [nI_toInt (by omega), show (2 : Int32).toInt = 2 by decide] at this; omega)), (sdiv hs b2 hg).1]
  · have e : vcs zs w s g v 3 = tk_d (nI zs) (s * v.2.2.2 / g).toInt32 := by unfold vcs; simp [upd]
    rw [e]
    show _ = s.toInt * v.2.2.2.toInt.tdiv g.toInt
    unfold tk_d
    by_cases h : zs ≤ 3
    · rw [if_pos (show nI zs ≤ (3 : Int32) from nI_le (a := zs) (b := 3) h (by decide)), z3 h, zz, Int.zero_tdiv, Int.mul_zero]; exact z32
    · rw [if_neg (fun z => h (by have := Int32.le_iff_toInt_le.mp z; rw [nI_toInt (by omega), show (3 : Int32).toInt = 3 by decide] at this; omega)), (sdiv hs b3 hg).1]
theorem gc4_dvd (v : Int64 × Int64 × Int64 × Int64) : (gc4 v).toInt ∣ v.1.toInt ∧ (gc4 v).toInt ∣ v.2.1.toInt ∧ (gc4 v).toInt ∣ v.2.2.1.toInt ∧ (gc4 v).toInt ∣ v.2.2.2.toInt := by
  obtain ⟨a, b⟩ := gcv_dvd (gcv v.1 v.2.1) (gcv v.2.2.1 v.2.2.2)
  obtain ⟨c, d⟩ := gcv_dvd v.1 v.2.1
  obtain ⟨e, f⟩ := gcv_dvd v.2.2.1 v.2.2.2
  exact ⟨Int.dvd_trans a c, Int.dvd_trans a d, Int.dvd_trans b e, Int.dvd_trans b f⟩
theorem dirW_ne {v : Int64 × Int64 × Int64 × Int64} (hg : 0 < gc4 v) : ¬ ∀ i, i < 4 → dirW v (gc4 v) i = 0 := by
  intro h
  obtain ⟨d0, d1, d2, d3⟩ := gc4_dvd v
  have key : ∀ x : Int64, (gc4 v).toInt ∣ x.toInt → x.toInt.tdiv (gc4 v).toInt = 0 → x = 0 := fun x hd hx => by
    rw [i64_zero]
    have := Int.tdiv_mul_cancel hd
    rw [hx, Int.zero_mul] at this
    exact this.symm
  have e0 := key _ d0 (h 0 (by decide)); have e1 := key _ d1 (h 1 (by decide)); have e2 := key _ d2 (h 2 (by decide)); have e3 := key _ d3 (h 3 (by decide))
  have : gc4 v = 0 := by unfold gc4; rw [e0, e1, e2, e3, gcv_zero, gcv_zero]
  rw [this] at hg
  exact absurd hg (by decide)
theorem pri_vcs {wf : Nat → Int32} {zs k : Nat} {w : Nat → Int32} {s g : Int64} {v : Int64 × Int64 × Int64 × Int64} (h : ∀ i, i < 4 → (vcs zs w s g v i).toInt = s.toInt * dirW v g i) : pri wf k (vcs zs w s g v) 0 = s.toInt * wdot wf k (dirW v g) := by
  unfold pri wdot
  rw [Nat.zero_add, Nat.zero_add, Nat.zero_add, Nat.zero_add, h 0 (by decide), h 1 (by decide), h 2 (by decide), h 3 (by decide)]
  grind
theorem M1 {wf : Nat → Int32} {rn zs : Nat} {q0 : Nat → Int64} (h2 : 2 ≤ zs) (h4 : zs ≤ 4) (hr8 : rn ≤ 8) (hr : rowsOK wf rn zs) (hk : zs ≤ (rkf rn (sqr wf (4 * rn) q0) 4).1) : one1 wf rn zs := by
  intro x q p hx hx2
  obtain ⟨b0, b1, b2, b3, z2, z3⟩ := mn4_le (q := q) h2 h4 hr8 hr ⟨hx, hx2⟩
  generalize (mn4 wf rn zs x q).1 = v at *
  by_cases hg : 0 < gc4 v
  · have ha : ∀ s w, (s = 1 ∨ s = -1) → ∀ i, i < 4 → (vcs zs w s (gc4 v) v i).toInt = s.toInt * dirW v (gc4 v) i := fun s w hs i hi => vcs_at h2 hs hg b0 b1 b2 b3 z2 z3 hi h4
    have hle : ∀ s p, (ast wf rn zs s (gc4 v) v p).1 ≤ p.1 + 1 := fun s p => by
      by_cases hh : hld wf rn (vcs zs p.2.2 s (gc4 v) v) 0
      · rw [show ast wf rn zs s (gc4 v) v p = _ from ast_y (n := p.1) (f := p.2.1) (w := p.2.2) hh rfl rfl]; exact kyN_le
      · rw [show ast wf rn zs s (gc4 v) v p = _ from ast_n (n := p.1) (f := p.2.1) (w := p.2.2) hh]; exact Nat.le_succ _
    have hno : ∀ s p, ¬ hld wf rn (vcs zs p.2.2 s (gc4 v) v) 0 → (ast wf rn zs s (gc4 v) v p).1 = p.1 := fun s p hh => by
      rw [show ast wf rn zs s (gc4 v) v p = _ from ast_n (n := p.1) (f := p.2.1) (w := p.2.2) hh]
    rw [acr_y hg rfl rfl]
    by_cases hm : hld wf rn (vcs zs p.2.2 (-1) (gc4 v) v) 0
    · by_cases hp : hld wf rn (vcs zs (ast wf rn zs (-1) (gc4 v) v p).2.2 1 (gc4 v) v) 0
      · exfalso
        have hw : ∀ k, k < rn → wdot wf k (dirW v (gc4 v)) = 0 := by
          intro k hk
          have hr5 : ∀ i, i < 4 → -5 ≤ (wf (4 * k + i)).toInt ∧ (wf (4 * k + i)).toInt ≤ 5 := fun i hi => ⟨(hr k i hk hi).1, (hr k i hk hi).2.1⟩
          have a := hm k hk
          have b := hp k hk
          rw [i64_neg, prm_int hr5, pri_vcs (ha (-1) p.2.2 (Or.inr rfl)), show (-1 : Int64).toInt = -1 by decide] at a
          rw [i64_neg, prm_int hr5, pri_vcs (ha 1 _ (Or.inl rfl)), show (1 : Int64).toInt = 1 by decide] at b
          omega
        refine dirW_ne hg (pointed h4 hr hk (fun i h5 h6 => ?_) hw)
        have zz : (0 : Int64).toInt = 0 := by decide
        rcases (show i = 2 ∨ i = 3 by omega) with rfl | rfl
        · show v.2.2.1.toInt.tdiv _ = 0
          rw [z2 h5, zz, Int.zero_tdiv]
        · show v.2.2.2.toInt.tdiv _ = 0
          rw [z3 h5, zz, Int.zero_tdiv]
      · rw [hno 1 _ hp]; exact hle (-1) p
    · have := hle 1 (ast wf rn zs (-1) (gc4 v) v p)
      rw [hno (-1) p hm] at this
      exact this
  · rw [acr_n hg]; exact Nat.le_succ _
