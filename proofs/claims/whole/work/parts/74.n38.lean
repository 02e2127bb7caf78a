/-! ===== own rows: class and reference, 38 ===== -/
-- parts: one pass down does what looking anew each time does
/-- a point goes into the rest -/
def fits (wf pf vf : Nat → Int32) (rn k : Nat) : Prop := ∀ r, r < rn → ¬ prm wf r vf 0 < prm wf r pf (4 * k)
theorem prm_dot0 {wf vf : Nat → Int32} {rn zs r : Nat} (hr : rowsOK wf rn zs) (h : r < rn) : (prm wf r vf 0).toInt = dot4 (wr wf r) (vI vf) := by
  rw [prm_int (fun i hi => ⟨(hr r i h hi).1, (hr r i h hi).2.1⟩)]
  unfold pri dot4
  rw [Nat.zero_add, Nat.zero_add, Nat.zero_add, Nat.zero_add]; rfl
theorem fits_iff {wf pf vf : Nat → Int32} {rn zs k : Nat} (hr : rowsOK wf rn zs) : fits wf pf vf rn k ↔ ∀ r, r < rn → dot4 (wr wf r) (wr pf k) ≤ dot4 (wr wf r) (vI vf) := by
  unfold fits
  constructor
  · intro h r h9
    have := h r h9
    rw [Int64.lt_iff_toInt_lt, prm_dot0 hr h9, prm_dot hr h9] at this; omega
  · intro h r h9
    rw [Int64.lt_iff_toInt_lt, prm_dot0 hr h9, prm_dot hr h9]
    have := h r h9; omega
theorem fdk_top {wf pf vf : Nat → Int32} {rn u : Nat} (hu : fits wf pf vf rn u) : ∀ w, u < w → (∀ k, u < k → k < w → ¬ fits wf pf vf rn k) → fdk wf pf vf rn w = u + 1
  | 0, h, _ => absurd h (Nat.not_lt_zero u)
  | w + 1, h, hn => by
    by_cases e : u = w
    · subst e
      exact fdk_y (u := u + 1) (by omega) hu
    · rw [fdk_s (u := w + 1) (by omega) (hn w (by omega) (by omega))]
      exact fdk_top hu w (by omega) (fun k h1 h2 => hn k h1 (by omega))
/-- what stands while the reference takes points away -/
def RST (wf : Nat → Int32) (rn zs : Nat) (vf : Nat → Int32) (fu : Nat) : Prop := pvi wf rn vf ∧ hts wf vf 0 rn < fu ∧ ∀ i, zs ≤ i → i < 4 → vI vf i = 0
/-- point u is taken away T times -/
theorem ref_take {wf pf : Nat → Int32} {rn zs pt u : Nat} (hr : rowsOK wf rn zs) (hok : pok wf rn pt pf) (hz : ∀ k, k < pt → ∀ i, zs ≤ i → i < 4 → wr pf k i = 0) (hu : u < pt) : ∀ (T : Nat) (vf : Nat → Int32) (n fu : Nat), RST wf rn zs vf fu → (∀ k, u < k → k < pt → ¬ fits wf pf vf rn k) → (∀ r, r < rn → (T : Int) * dot4 (wr wf r) (wr pf u) ≤ dot4 (wr wf r) (vI vf)) → ∃ vf' fu', prs wf pf rn pt fu vf n = prs wf pf rn pt fu' vf' (n + T) ∧ RST wf rn zs vf' fu' ∧ ∀ r, r < rn → dot4 (wr wf r) (vI vf') = dot4 (wr wf r) (vI vf) - (T : Int) * dot4 (wr wf r) (wr pf u)
  | 0, vf, n, fu, h, _, _ => ⟨vf, fu, rfl, h, fun r _ => by rw [show ((0 : Nat) : Int) = 0 from rfl, Int.zero_mul]; omega⟩
  | T + 1, vf, n, fu, h, hn, hT => by
    obtain ⟨p1, p2, p3⟩ := hok u hu
    have pos : ∀ r, r < rn → 0 ≤ dot4 (wr wf r) (wr pf u) := fun r h9 => by
      have := p2 r h9
      rw [i64_neg, prm_dot hr h9] at this; omega
    have hs : ∀ r, r < rn → (T : Int) * dot4 (wr wf r) (wr pf u) + dot4 (wr wf r) (wr pf u) ≤ dot4 (wr wf r) (vI vf) := fun r h9 => by
      have := hT r h9
      rw [show ((T + 1 : Nat) : Int) = (T : Int) + 1 from by omega, Int.add_mul, Int.one_mul] at this; exact this
    have tp : ∀ r, r < rn → 0 ≤ (T : Int) * dot4 (wr wf r) (wr pf u) := fun r h9 => Int.mul_nonneg (by omega) (pos r h9)
    have ft : fits wf pf vf rn u := (fits_iff hr).mpr (fun r h9 => by have := hs r h9; have := tp r h9; omega)
    have nz : ¬ all4 (vf 0) (vf 1) (vf 2) (vf 3) := fun z => by
      have vz : ∀ i, i < 4 → vI vf i = 0 := fun i hi => by
        obtain ⟨z0, z1, z2, z3⟩ := z
        have zero : (0 : Int32).toInt = 0 := by decide
        show (vf i).toInt = 0
        rcases (show i = 0 ∨ i = 1 ∨ i = 2 ∨ i = 3 by omega) with rfl | rfl | rfl | rfl
        · rw [z0, zero]
        · rw [z1, zero]
        · rw [z2, zero]
        · rw [z3, zero]
      have hz0 : ∀ q, q ≤ rn → hts wf pf (4 * u) q = 0 := by
        intro q
        induction q with
        | zero => intro _; rfl
        | succ q ih =>
          intro hq
          show hts wf pf (4 * u) q + (prm wf q pf (4 * u)).toInt.toNat = 0
          rw [ih (by omega), prm_dot hr (show q < rn by omega)]
          have a := hs q (by omega)
          have b := tp q (by omega)
          rw [dot4_z vz] at a
          omega
      have := hz0 rn (Nat.le_refl _)
      omega
    obtain ⟨s1, s2⟩ := par_step hr hok h.1 hu ft
    have e1 := prs_s (wf := wf) (pf := pf) (vf := vf) (rn := rn) (pt := pt) (f := fu) (n := n) (u := u + 1) (by have := h.2.1; omega) nz (fdk_top ft pt hu hn) (by omega)
    rw [show u + 1 - 1 = u from rfl] at e1
    have vb : ∀ i, i < 4 → (vf i).toInt.natAbs ≤ 2000000000 := fun i hi => by have := h.1.1 i hi; omega
    have ev : ∀ i, i < 4 → vI (vsb vf pf u) i = vI vf i - wr pf u i := fun i hi => vsb_int hi (vb i hi) (p1 i hi)
    have ed : ∀ r, dot4 (wr wf r) (vI (vsb vf pf u)) = dot4 (wr wf r) (vI vf) - dot4 (wr wf r) (wr pf u) := fun r => by rw [dot4_cg ev]; exact dot4_sub
    have h' : RST wf rn zs (vsb vf pf u) (fu - 1) := ⟨s1, by have := h.2.1; omega, fun i hi h4 => by rw [ev i h4, h.2.2 i hi h4, hz u hu i hi h4]; rfl⟩
    obtain ⟨vf', fu', q1, q2, q3⟩ := ref_take hr hok hz hu T (vsb vf pf u) (n + 1) (fu - 1) h' (fun k h1 h2 f => hn k h1 h2 ((fits_iff hr).mpr (fun r h9 => by
      have := (fits_iff hr).mp f r h9
      rw [ed r] at this
      have := pos r h9
      omega))) (fun r h9 => by rw [ed r]; have := hs r h9; omega)
    refine ⟨vf', fu', by rw [e1, q1, show n + 1 + T = n + (T + 1) by omega], q2, fun r h9 => ?_⟩
    rw [q3 r h9, ed r, show ((T + 1 : Nat) : Int) = (T : Int) + 1 from by omega, Int.add_mul, Int.one_mul]; omega
/-- the rest, by its heights -/
def RSH (wf : Nat → Int32) (rn : Nat) (vf f : Nat → Int32) : Prop := ∀ r, r < rn → (f r).toInt = dot4 (wr wf r) (vI vf)
theorem quo_nn {a b : Int32} (ha : 0 ≤ a.toInt) (hb : 0 < b.toInt) : 0 ≤ (a / b).toInt ∧ (a / b).toInt * b.toInt ≤ a.toInt ∧ a.toInt < ((a / b).toInt + 1) * b.toInt := by
  have l := a.toInt_lt
  have e0 : a.toInt.tdiv b.toInt = a.toInt / b.toInt := Int.tdiv_eq_ediv_of_nonneg ha
  have e1 : 0 ≤ a.toInt / b.toInt := Int.ediv_nonneg ha (by omega)
  have e2 : a.toInt / b.toInt ≤ a.toInt := Int.ediv_le_self _ ha
  have e3 : (a / b).toInt = a.toInt / b.toInt := by
    rw [Int32.toInt_div, e0]
    apply Int.bmod_eq_of_le <;> omega
  rw [e3]
  exact ⟨e1, Int.ediv_mul_le _ (by omega), Int.lt_ediv_add_one_mul_self _ hb⟩
/-- how often the point goes into the rest -/
theorem tir_val {hh f : Nat → Int32} {u : Nat} : ∀ q, (∀ r, r < q → 0 ≤ (f r).toInt) → ((∀ r, r < q → ¬ 0 < (hh (u * 8 + r)).toInt) ∧ tir hh f u q = -1) ∨ (0 ≤ (tir hh f u q).toInt ∧ (∀ r, r < q → 0 < (hh (u * 8 + r)).toInt → (tir hh f u q).toInt * (hh (u * 8 + r)).toInt ≤ (f r).toInt) ∧ ∃ r, r < q ∧ 0 < (hh (u * 8 + r)).toInt ∧ (f r).toInt < ((tir hh f u q).toInt + 1) * (hh (u * 8 + r)).toInt)
  | 0, _ => Or.inl ⟨fun r hr => absurd hr (Nat.not_lt_zero r), rfl⟩
  | q + 1, hf => by
    have ih := tir_val (hh := hh) (f := f) (u := u) q (fun r hr => hf r (by omega))
    have zero : (0 : Int32).toInt = 0 := by decide
    by_cases c : hh (u * 8 + q) ≤ 0
    · have c2 := Int32.le_iff_toInt_le.mp c
      rw [zero] at c2
      rw [tir_n rfl c]
      rcases ih with ⟨i1, i2⟩ | ⟨i1, i2, r, r1, r2, r3⟩
      · refine Or.inl ⟨fun r hr => ?_, i2⟩
        by_cases e : r = q
        · rw [e]; omega
        · exact i1 r (by omega)
      · refine Or.inr ⟨i1, fun r hr h0 => ?_, r, by omega, r2, r3⟩
        by_cases e : r = q
        · rw [e] at h0; omega
        · exact i2 r (by omega) h0
    · have c2 : 0 < (hh (u * 8 + q)).toInt := by
        refine Int.lt_of_not_ge (fun z => c (Int32.le_iff_toInt_le.mpr ?_))
        rw [zero]; exact z
      obtain ⟨q1, q2, q3⟩ := quo_nn (hf q (by omega)) c2
      rcases ih with ⟨i1, i2⟩ | ⟨i1, i2, r, r1, r2, r3⟩
      · rw [tir_f i2 c (by decide)]
        refine Or.inr ⟨q1, fun r hr h0 => ?_, q, by omega, c2, q3⟩
        by_cases e : r = q
        · rw [e]; exact q2
        · exact absurd h0 (i1 r (by omega))
      · rw [tir_y rfl c (Int32.le_iff_toInt_le.mpr (by rw [zero]; exact i1))]
        unfold jmin
        by_cases m : f q / hh (u * 8 + q) < tir hh f u q
        · rw [if_pos m]
          have m := Int32.lt_iff_toInt_lt.mp m
          refine Or.inr ⟨q1, fun r hr h0 => ?_, q, by omega, c2, q3⟩
          by_cases e : r = q
          · rw [e]; exact q2
          · exact Int.le_trans (Int.mul_le_mul_of_nonneg_right (by omega) (by omega)) (i2 r (by omega) h0)
        · rw [if_neg m]
          have m : ¬ (f q / hh (u * 8 + q)).toInt < (tir hh f u q).toInt := fun z => m (Int32.lt_iff_toInt_lt.mpr z)
          refine Or.inr ⟨i1, fun r hr h0 => ?_, r, by omega, r2, r3⟩
          by_cases e : r = q
          · rw [e]
            exact Int.le_trans (Int.mul_le_mul_of_nonneg_right (by omega) (by omega)) q2
          · exact i2 r (by omega) h0
theorem rsd_at {hh f : Nat → Int32} {tm : Int32} {p : Nat} : ∀ q r, rsd hh tm p q f r = if r < q then f r - tm * hh (p * 8 + r) else f r
  | 0, r => by rw [if_neg (by omega)]; rfl
  | q + 1, r => by
    show upd (rsd hh tm p q f) q (rsd hh tm p q f q - tm * hh (p * 8 + q)) r = _
    unfold upd
    by_cases e : r = q
    · rw [if_pos e, rsd_at q q, if_neg (by omega), if_pos (by omega), e]
    · rw [if_neg e, rsd_at q r]
      by_cases c : r < q
      · rw [if_pos c, if_pos (by omega)]
      · rw [if_neg c, if_neg (by omega)]
theorem cpd_prs {wf pf hh : Nat → Int32} {rn zs pt : Nat} (h2 : 2 ≤ zs) (hr : rowsOK wf rn zs) (hp : Ptd (xn rn zs) (XW wf rn)) (hok : pok wf rn pt pf) (hB : BAS (xn rn zs) (XW wf rn) pt pf) (hh9 : HT wf rn pt pf hh) : ∀ (u : Nat) (f vf : Nat → Int32) (n fu : Nat), u ≤ pt → RST wf rn zs vf fu → RSH wf rn vf f → (∀ k, u ≤ k → k < pt → ¬ fits wf pf vf rn k) → cpd hh rn u f (nI n) = prs wf pf rn pt fu vf n
  | 0, f, vf, n, fu, _, hs, _, hn => by
    show nI n = _
    refine (prs_0 (by have := hs.2.1; omega) (Classical.byContradiction (fun z => ?_))).symm
    have cn : Cn (xn rn zs) (XW wf rn) (vI vf) := (XW_cn h2).mpr ⟨fun r h9 => by
      have := hs.1.2 r h9
      rw [i64_neg, prm_dot0 hr h9] at this; omega, hs.2.2⟩
    have nz : nz4 (vI vf) := Classical.byContradiction (fun w => z (by
      have w := nz4_not w
      have zero : (0 : Int32).toInt = 0 := by decide
      have e : ∀ i, i < 4 → vf i = 0 := fun i hi => Int32.toInt_inj.mp ((w i hi).trans zero.symm)
      exact ⟨e 0 (by decide), e 1 (by decide), e 2 (by decide), e 3 (by decide)⟩))
    obtain ⟨q, hq, hd⟩ := irr_below hp _ _ rfl cn nz
    obtain ⟨k, hk, ek⟩ := hB.2.2 q hq
    refine hn k (Nat.zero_le k) hk ((fits_iff hr).mpr (fun r h9 => ?_))
    rw [dot4_cg ek]
    exact (XW_sub h2 cn hq.1).mp hd r h9
  | u + 1, f, vf, n, fu, hu, hs, hf, hn => by
    show cpd hh rn u (rsd hh (jmax (tir hh f u rn) 0) u rn f) (nI n + jmax (tir hh f u rn) 0) = _
    have fp : ∀ r, r < rn → 0 ≤ (f r).toInt := fun r h9 => by
      rw [hf r h9]
      have := hs.1.2 r h9
      rw [i64_neg, prm_dot0 hr h9] at this; omega
    have hhu := hh9 u (by omega)
    obtain ⟨p1, p2, p3⟩ := hok u (by omega)
    have pos : ∀ r, r < rn → 0 ≤ dot4 (wr wf r) (wr pf u) := fun r h9 => by
      have := p2 r h9
      rw [i64_neg, prm_dot hr h9] at this; omega
    have some1 : ∃ r, r < rn ∧ 0 < dot4 (wr wf r) (wr pf u) := Classical.byContradiction (fun z => by
      have hz0 : ∀ q, q ≤ rn → hts wf pf (4 * u) q = 0 := by
        intro q
        induction q with
        | zero => intro _; rfl
        | succ q ih =>
          intro hq
          show hts wf pf (4 * u) q + (prm wf q pf (4 * u)).toInt.toNat = 0
          rw [ih (by omega), prm_dot hr (show q < rn by omega)]
          have : ¬ 0 < dot4 (wr wf q) (wr pf u) := fun w => z ⟨q, by omega, w⟩
          omega
      have := hz0 rn (Nat.le_refl _)
      omega)
    have zero : (0 : Int32).toInt = 0 := by decide
    obtain ⟨t1, t2, r0, r1, r2, r3⟩ := (tir_val (hh := hh) (f := f) (u := u) rn fp).resolve_left (fun z => by
      obtain ⟨r, r1, r2⟩ := some1
      exact z.1 r r1 (by rw [hhu r r1]; exact r2))
    have ej : jmax (tir hh f u rn) 0 = tir hh f u rn := by
      unfold jmax
      rw [if_neg (fun z => by have := Int32.lt_iff_toInt_lt.mp z; rw [zero] at this; omega)]
    rw [ej]
    generalize tir hh f u rn = tm at *
    have tl := tm.toInt_lt
    have eT : ((tm.toInt.toNat : Nat) : Int) = tm.toInt := Int.toNat_of_nonneg t1
    have et : tm = nI tm.toInt.toNat := by
      apply Int32.toInt_inj.mp
      rw [nI_toInt (by omega), eT]
    have t2' : ∀ r, r < rn → tm.toInt * dot4 (wr wf r) (wr pf u) ≤ dot4 (wr wf r) (vI vf) := fun r h9 => by
      by_cases c : 0 < dot4 (wr wf r) (wr pf u)
      · have := t2 r h9 (by rw [hhu r h9]; exact c)
        rw [hhu r h9, hf r h9] at this; exact this
      · have e : dot4 (wr wf r) (wr pf u) = 0 := by have := pos r h9; omega
        have := fp r h9
        rw [hf r h9] at this
        rw [e, Int.mul_zero]; exact this
    have hzp : ∀ k, k < pt → ∀ i, zs ≤ i → i < 4 → wr pf k i = 0 := fun k hk => ((XW_cn h2).mp (hB.2.1 k hk).1).2
    obtain ⟨vf', fu', q1, q2, q3⟩ := ref_take hr hok hzp (show u < pt by omega) tm.toInt.toNat vf n fu hs (fun k h1 h9 => hn k (by omega) h9) (fun r h9 => by rw [eT]; exact t2' r h9)
    rw [eT] at q3
    have e9 : nI n + tm = nI (n + tm.toInt.toNat) := by rw [← nI_add, ← et]
    rw [q1, e9]
    refine cpd_prs h2 hr hp hok hB hh9 u _ vf' (n + tm.toInt.toNat) fu' (by omega) q2 (fun r h9 => ?_) (fun k h1 h9 ft => ?_)
    · rw [rsd_at, if_pos h9, q3 r h9]
      have b1 := t2' r h9
      have b2 := pos r h9
      have b3 : 0 ≤ tm.toInt * dot4 (wr wf r) (wr pf u) := Int.mul_nonneg t1 b2
      have b4 := (f r).toInt_lt
      have b5 := hf r h9
      have m1 : (tm * hh (u * 8 + r)).toInt = tm.toInt * dot4 (wr wf r) (wr pf u) := by
        rw [Int32.toInt_mul, hhu r h9]
        apply Int.bmod_eq_of_le <;> omega
      rw [sub32 (by rw [m1]; omega) (by rw [m1]; omega), m1, b5]
    · by_cases e : k = u
      · subst e
        have a := (fits_iff hr).mp ft r0 r1
        rw [q3 r0 r1] at a
        rw [hhu r0 r1, hf r0 r1, Int.add_mul, Int.one_mul] at r3
        omega
      · refine hn k (by omega) h9 ((fits_iff hr).mpr (fun r h8 => ?_))
        have a := (fits_iff hr).mp ft r h8
        rw [q3 r h8] at a
        have b3 : 0 ≤ tm.toInt * dot4 (wr wf r) (wr pf u) := Int.mul_nonneg t1 (pos r h8)
        omega
theorem rsi_at {pf g f : Nat → Int32} : ∀ q r, rsi pf g q f r = if r < q then (pr4 pf r g).toInt32 else f r
  | 0, r => by rw [if_neg (by omega)]; rfl
  | q + 1, r => by
    show upd (rsi pf g q f) q (pr4 pf q g).toInt32 r = _
    unfold upd
    by_cases e : r = q
    · rw [if_pos e, if_pos (by omega), e]
    · rw [if_neg e, rsi_at q r]
      by_cases c : r < q
      · rw [if_pos c, if_pos (by omega)]
      · rw [if_neg c, if_neg (by omega)]
theorem RP_holds : RPE := by
  intro d c hd hc hs h3 hk hz hl hf g v0 rs0 hg hw h0 hn
  have hR := desk_rays hd hc hs (by omega) hk hz
  obtain ⟨e0, e1⟩ := RL_holds d c hd hc hs h3 hk hz
  obtain ⟨e2, e3⟩ := e1 hl hf
  obtain ⟨-, b2, b3, -⟩ := desk_bas hd hc hs h3 hk hz (e0.trans hl)
  have hB := ref_bas hc hR hk hz hl hf
  have hok := M3 hc.z2 hc.z4 hc.r8 hc.ro (hc.k1 hk) hz hl (hc.k2 hk hz hl hf)
  obtain ⟨s1, s2, s3⟩ := hs
  have hht : HT c.wf c.rn c.pt c.pf d.hh := fun i hi r hr => by
    rw [b2 i (by omega) r hr]; exact dot4_cg (wr_cg e3 hi)
  have v100 : ∀ i, i < 4 → (v0 i).toInt.natAbs ≤ 100 := fun i hi => by
    by_cases c9 : i < c.zs
    · have := inw_int (hw i c9)
      have m1 : (-(100 : Int32)).toInt = -100 := by decide
      have m2 : (100 : Int32).toInt = 100 := by decide
      rw [m1, m2] at this; omega
    · rw [h0 i (by omega) hi]; decide
  have pv := pvi_of hc.ro hc.r8 v100 hn
  have hl9 := hts_le v100 c.rn (fun r hr i hi => ⟨(hc.ro r i hr hi).1, (hc.ro r i hr hi).2.1⟩)
  have r8 := hc.r8
  rw [b3, e2, show (0 : Int32) = nI 0 from rfl]
  refine cpd_prs hc.z2 hc.ro hR.1.1 hok hB hht c.pt _ v0 0 16001 (Nat.le_refl _) ⟨pv, by omega, fun i hi h4 => by
    show (v0 i).toInt = 0
    rw [h0 i hi h4]; decide⟩ (fun r hr => ?_) (fun k h1 h2 => by omega)
  rw [rsi_at, if_pos hr, pr_same (h := v0) (fun i hi => s3 i (by omega)) hr hg, Int64.toInt_toInt32, prm_dot0 hc.ro hr]
  have := dot4_le (wr_5 hc.ro hr) (show ∀ i, i < 4 → (vI v0 i).natAbs ≤ 100 from v100)
  apply Int.bmod_eq_of_le <;> omega
