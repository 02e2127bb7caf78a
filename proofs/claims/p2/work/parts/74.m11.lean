/-! ===== own rows: mathematics of the reference, 11 ===== -/
-- the reference's points are points of the cone
theorem CP.mono {wf : Nat → Int32} {rn zs B B' : Nat} {a b c d : Int32} (h : CP wf rn zs B a b c d) (hB : B ≤ B') : CP wf rn zs B' a b c d := ⟨fun i hi => Nat.le_trans (h.1 i hi) hB, h.2⟩
theorem tkc_same {zs : Nat} {c : Int32} (h4 : zs ≤ 4) (h : zs ≤ 2 → c = 0) : tk_c (nI zs) c = c := by
  unfold tk_c
  split
  · rename_i z
    have := Int32.le_iff_toInt_le.mp z
    rw [nI_toInt (by omega), show (2 : Int32).toInt = 2 by decide] at this
    exact (h (by omega)).symm
  · rfl
theorem tkd_same {zs : Nat} {c : Int32} (h4 : zs ≤ 4) (h : zs ≤ 3 → c = 0) : tk_d (nI zs) c = c := by
  unfold tk_d
  split
  · rename_i z
    have := Int32.le_iff_toInt_le.mp z
    rw [nI_toInt (by omega), show (3 : Int32).toInt = 3 by decide] at this
    exact (h (by omega)).symm
  · rfl
theorem fpr_CP {wf : Nat → Int32} {rn zs yn : Nat} {yf : Nat → Int32} {p : (Nat × (Nat → Int32)) × (Nat → Int32)} (h4 : zs ≤ 4) (hR : LsP (CP wf rn zs 750) yn yf) (hp : p.1.1 = 0) : ∀ k, k ≤ yn → LsP (CP wf rn zs 20000) (fpr yf (nI zs) k p).1.1 (fpr yf (nI zs) k p).1.2
  | 0, _ => fun k hk => absurd hk (by show ¬ k < p.1.1; omega)
  | k + 1, hk => by
    have ih := fpr_CP (p := p) h4 hR hp k (by omega)
    have hc := hR k (by omega)
    rw [fpr_s (n := (fpr yf (nI zs) k p).1.1) (f := (fpr yf (nI zs) k p).1.2) (v := (fpr yf (nI zs) k p).2) rfl rfl rfl]
    refine LsP.kq ih ?_
    rw [vst_0, vst_1, vst_2, vst_3, tkc_same h4 hc.2.2.2.1, tkd_same h4 hc.2.2.2.2]
    exact hc.mono (by decide)
-- shares
theorem shr_rest {n t : Nat} {s : Nat → Nat} : ∀ k, (shr n k (t, s)).1 = t / n ^ k
  | 0 => by show t = t / 1; rw [Nat.div_one]
  | k + 1 => by
    show (shr n k (t, s)).1 / n = _
    rw [shr_rest k, Nat.div_div_eq_div_mul, Nat.pow_succ]
theorem shr_lt {n t : Nat} {s : Nat → Nat} (hn : 0 < n) : ∀ k j, j < k → (shr n k (t, s)).2 j < n
  | 0, j, h => absurd h (Nat.not_lt_zero j)
  | k + 1, j, h => by
    show updN (shr n k (t, s)).2 k ((shr n k (t, s)).1 % n) j < n
    unfold updN
    split
    · exact Nat.mod_lt _ hn
    · exact shr_lt hn k j (by omega)
theorem shr_zero {n t : Nat} {s : Nat → Nat} : ∀ k, (∀ j, j < k → (shr n k (t, s)).2 j = 0) → t = (shr n k (t, s)).1 * n ^ k
  | 0, _ => by show t = t * 1; omega
  | k + 1, h => by
    have hk : (shr n k (t, s)).1 % n = 0 := by
      have := h k (by omega)
      have e : (shr n (k + 1) (t, s)).2 k = (shr n k (t, s)).1 % n := by
        show updN (shr n k (t, s)).2 k ((shr n k (t, s)).1 % n) k = _
        unfold updN; rw [if_pos rfl]
      rw [← e]; exact this
    have ih := shr_zero k (fun j hj => by
      have := h j (by omega)
      have e : (shr n (k + 1) (t, s)).2 j = (shr n k (t, s)).2 j := by
        show updN (shr n k (t, s)).2 k ((shr n k (t, s)).1 % n) j = _
        unfold updN; rw [if_neg (by omega)]
      rw [← e]; exact this)
    have e1 : (shr n (k + 1) (t, s)).1 = (shr n k (t, s)).1 / n := rfl
    have e2 : (shr n k (t, s)).1 / n * n = (shr n k (t, s)).1 := Nat.div_mul_cancel (Nat.dvd_of_mod_eq_zero hk)
    rw [e1, Nat.pow_succ, Nat.mul_comm (n ^ k) n, ← Nat.mul_assoc, e2]
    exact ih
/-- the sum of shares, in whole numbers -/
def bsI (sk : Nat → Nat) (yf : Nat → Int32) (ck : Nat → Nat) (i : Nat) : Nat → Int
  | 0 => 0
  | k + 1 => bsI sk yf ck i k + (sk k : Int) * (yf (4 * ck k + i)).toInt
theorem bs1_int {sk : Nat → Nat} {yf : Nat → Int32} {ck : Nat → Nat} {i : Nat} : ∀ k, k ≤ 4 → (∀ j, j < k → sk j ≤ 11 ∧ (yf (4 * ck j + i)).toInt.natAbs ≤ 750) → (bs1 sk yf ck i k).toInt = bsI sk yf ck i k ∧ (bsI sk yf ck i k).natAbs ≤ 8250 * k
  | 0, _, _ => ⟨by show (0 : Int32).toInt = 0; decide, Nat.le_refl 0⟩
  | k + 1, hk, h => by
    obtain ⟨a, b⟩ := bs1_int k (by omega) (fun j hj => h j (by omega))
    obtain ⟨c, d⟩ := h k (by omega)
    have hm : ((sk k : Int) * (yf (4 * ck k + i)).toInt).natAbs ≤ 11 * 750 := abs_mul (by omega) d
    have e1 : (nI (sk k) * yf (4 * ck k + i)).toInt = (sk k : Int) * (yf (4 * ck k + i)).toInt := by
      rw [Int32.toInt_mul, nI_toInt (by omega)]
      apply Int.bmod_eq_of_le <;> omega
    show (bs1 sk yf ck i k + nI (sk k) * yf (4 * ck k + i)).toInt = bsI sk yf ck i k + (sk k : Int) * (yf (4 * ck k + i)).toInt ∧ (bsI sk yf ck i k + (sk k : Int) * (yf (4 * ck k + i)).toInt).natAbs ≤ _
    refine ⟨?_, by omega⟩
    rw [Int32.toInt_add, a, e1]
    apply Int.bmod_eq_of_le <;> omega
/-- the shares of the rays' heights -/
def wds (wf : Nat → Int32) (sk : Nat → Nat) (yf : Nat → Int32) (ck : Nat → Nat) (r : Nat) : Nat → Int
  | 0 => 0
  | k + 1 => wds wf sk yf ck r k + (sk k : Int) * wdot wf r (vec4 (yf (4 * ck k + 0)) (yf (4 * ck k + 1)) (yf (4 * ck k + 2)) (yf (4 * ck k + 3)))
theorem bsI_dot {wf : Nat → Int32} {sk : Nat → Nat} {yf : Nat → Int32} {ck : Nat → Nat} {r : Nat} : ∀ k, wdot wf r (fun i => bsI sk yf ck i k) = (wds wf sk yf ck r k) := by
  intro k
  induction k with
  | zero => unfold wdot wds; simp [bsI]
  | succ k ih =>
    unfold wds
    rw [← ih]
    unfold wdot
    show _ * (bsI sk yf ck 0 k + (sk k : Int) * (yf (4 * ck k + 0)).toInt) + _ * (bsI sk yf ck 1 k + (sk k : Int) * (yf (4 * ck k + 1)).toInt) + _ * (bsI sk yf ck 2 k + (sk k : Int) * (yf (4 * ck k + 2)).toInt) + _ * (bsI sk yf ck 3 k + (sk k : Int) * (yf (4 * ck k + 3)).toInt) = _
    unfold vec4
    simp
    grind
theorem wds_pos {wf : Nat → Int32} {sk : Nat → Nat} {yf : Nat → Int32} {ck : Nat → Nat} {r : Nat} : ∀ k, (∀ j, j < k → 0 ≤ wdot wf r (vec4 (yf (4 * ck j + 0)) (yf (4 * ck j + 1)) (yf (4 * ck j + 2)) (yf (4 * ck j + 3)))) → 0 ≤ wds wf sk yf ck r k ∧ ∀ j, j < k → 0 < sk j → 0 < wdot wf r (vec4 (yf (4 * ck j + 0)) (yf (4 * ck j + 1)) (yf (4 * ck j + 2)) (yf (4 * ck j + 3))) → 0 < wds wf sk yf ck r k
  | 0, _ => ⟨Int.le_refl 0, fun j hj => absurd hj (Nat.not_lt_zero j)⟩
  | k + 1, h => by
    obtain ⟨a, b⟩ := wds_pos (sk := sk) k (fun j hj => h j (by omega))
    have hk := h k (by omega)
    have hn : 0 ≤ (sk k : Int) * wdot wf r (vec4 (yf (4 * ck k + 0)) (yf (4 * ck k + 1)) (yf (4 * ck k + 2)) (yf (4 * ck k + 3))) := Int.mul_nonneg (by omega) hk
    unfold wds
    refine ⟨by omega, fun j hj hs hd => ?_⟩
    by_cases e : j = k
    · subst e
      have : 0 < (sk j : Int) * wdot wf r (vec4 (yf (4 * ck j + 0)) (yf (4 * ck j + 1)) (yf (4 * ck j + 2)) (yf (4 * ck j + 3))) := Int.mul_pos (by omega) hd
      omega
    · have := b j (by omega) hs hd
      omega
theorem bxV_at {sk : Nat → Nat} {yf : Nat → Int32} {ck : Nat → Nat} {n sp : Nat} {f : Nat → Int32} : ∀ (m i : Nat), i < m → bxV sk yf ck n sp m f i = bs1 sk yf ck i sp / nI n
  | 0, i, h => absurd h (Nat.not_lt_zero i)
  | m + 1, i, h => by
    show upd (bxV sk yf ck n sp m f) m (bs1 sk yf ck m sp / nI n) i = _
    by_cases e : i = m
    · subst e; rw [updI_eq]
    · rw [updI_ne e]; exact bxV_at m i (by omega)
theorem quo32 {x : Int32} {n : Nat} (hn : 2 ≤ n) (hn2 : n ≤ 12) (hx : x.toInt.natAbs ≤ 33000) (hd : x - x / nI n * nI n = 0) : (x / nI n).toInt * (n : Int) = x.toInt ∧ (x / nI n).toInt.natAbs ≤ 20000 := by
  have hq : (x / nI n).toInt = x.toInt.tdiv (n : Int) := by
    rw [Int32.toInt_div, nI_toInt (by omega)]
    have : (x.toInt.tdiv (n : Int)).natAbs ≤ x.toInt.natAbs := by rw [Int.natAbs_tdiv]; exact Nat.div_le_self _ _
    apply Int.bmod_eq_of_le <;> omega
  have hb : (x.toInt.tdiv (n : Int)).natAbs ≤ 16500 := by
    rw [Int.natAbs_tdiv]
    have e : ((n : Int)).natAbs = n := by omega
    rw [e]
    exact Nat.le_trans (Nat.div_le_div_left hn (by decide)) (by omega)
  have e : x = x / nI n * nI n := by
    have := congrArg (fun z => z + x / nI n * nI n) hd
    simp at this
    exact this
  have e2 : x.toInt = (x / nI n).toInt * (n : Int) := by
    have h1 := congrArg Int32.toInt e
    rw [Int32.toInt_mul, nI_toInt (by omega)] at h1
    have h2 : ((x / nI n).toInt * (n : Int)).natAbs ≤ 16500 * 12 := abs_mul (by rw [hq]; exact hb) (by omega)
    rw [show ((x / nI n).toInt * (n : Int)).bmod (2 ^ 32) = (x / nI n).toInt * (n : Int) from by apply Int.bmod_eq_of_le <;> omega] at h1
    exact h1
  exact ⟨e2.symm, by rw [hq]; omega⟩
theorem box_CP {wf : Nat → Int32} {rn zs yn n sp turn : Nat} {yf : Nat → Int32} {ck s0 : Nat → Nat} {vf : Nat → Int32} (hR : LsP (CP wf rn zs 750) yn yf) (hn : n ≤ 12) (hsp : sp ≤ 4) (hck : ∀ j, j < sp → ck j < yn) (h1 : 1 ≤ turn) (ht : turn < pwn n sp) (hd : ∀ i, i < 4 → bxD (shr n sp (turn, s0)).2 yf ck n sp i) :
    CP wf rn zs 20000 (bxV (shr n sp (turn, s0)).2 yf ck n sp 4 vf 0) (bxV (shr n sp (turn, s0)).2 yf ck n sp 4 vf 1) (bxV (shr n sp (turn, s0)).2 yf ck n sp 4 vf 2) (bxV (shr n sp (turn, s0)).2 yf ck n sp 4 vf 3) := by
  have hn0 : 0 < n := pwn_pos (sp := sp) (by omega)
  have hpw : pwn n sp = n ^ sp := by unfold pwn; rw [if_neg (by omega)]
  rw [hpw] at ht
  have hn2 : 2 ≤ n := by
    by_cases e : n = 1
    · rw [e, Nat.one_pow] at ht; omega
    · omega
  have hlt := shr_lt (t := turn) (s := s0) hn0 sp
  have hex : ∃ j, j < sp ∧ 0 < (shr n sp (turn, s0)).2 j := by
    refine Classical.byContradiction (fun hno => ?_)
    have := shr_zero (n := n) (t := turn) (s := s0) sp (fun j hj => Nat.eq_zero_of_not_pos (fun z => hno ⟨j, hj, z⟩))
    rw [shr_rest, Nat.div_eq_of_lt ht, Nat.zero_mul] at this
    omega
  generalize (shr n sp (turn, s0)).2 = sk at *
  have hv4 : ∀ (j i : Nat), j < sp → i < 4 → (yf (4 * ck j + i)).toInt.natAbs ≤ 750 := by
    intro j i hj hi
    have := (hR (ck j) (hck j hj)).1 i hi
    rcases (show i = 0 ∨ i = 1 ∨ i = 2 ∨ i = 3 by omega) with rfl | rfl | rfl | rfl <;> exact this
  have hb : ∀ i, i < 4 → (bs1 sk yf ck i sp).toInt = bsI sk yf ck i sp ∧ (bsI sk yf ck i sp).natAbs ≤ 8250 * sp := fun i hi => bs1_int sp hsp (fun j hj => ⟨by have := hlt j hj; omega, hv4 j i hj hi⟩)
  have hq : ∀ i, i < 4 → (bs1 sk yf ck i sp / nI n).toInt * (n : Int) = bsI sk yf ck i sp ∧ (bs1 sk yf ck i sp / nI n).toInt.natAbs ≤ 20000 := by
    intro i hi
    obtain ⟨a, b⟩ := hb i hi
    obtain ⟨c, d⟩ := quo32 hn2 hn (x := bs1 sk yf ck i sp) (by omega) (hd i hi)
    exact ⟨by rw [c, a], d⟩
  rw [bxV_at 4 0 (by decide), bxV_at 4 1 (by decide), bxV_at 4 2 (by decide), bxV_at 4 3 (by decide)]
  have hvec : ∀ i, i < 4 → vec4 (bs1 sk yf ck 0 sp / nI n) (bs1 sk yf ck 1 sp / nI n) (bs1 sk yf ck 2 sp / nI n) (bs1 sk yf ck 3 sp / nI n) i = (bs1 sk yf ck i sp / nI n).toInt := by
    intro i hi
    rcases (show i = 0 ∨ i = 1 ∨ i = 2 ∨ i = 3 by omega) with rfl | rfl | rfl | rfl <;> rfl
  have hdot : ∀ r, wdot wf r (vec4 (bs1 sk yf ck 0 sp / nI n) (bs1 sk yf ck 1 sp / nI n) (bs1 sk yf ck 2 sp / nI n) (bs1 sk yf ck 3 sp / nI n)) * (n : Int) = wds wf sk yf ck r sp := by
    intro r
    rw [← bsI_dot]
    unfold wdot
    rw [hvec 0 (by decide), hvec 1 (by decide), hvec 2 (by decide), hvec 3 (by decide)]
    show _ = (wf (4 * r + 0)).toInt * bsI sk yf ck 0 sp + (wf (4 * r + 1)).toInt * bsI sk yf ck 1 sp + (wf (4 * r + 2)).toInt * bsI sk yf ck 2 sp + (wf (4 * r + 3)).toInt * bsI sk yf ck 3 sp
    rw [← (hq 0 (by decide)).1, ← (hq 1 (by decide)).1, ← (hq 2 (by decide)).1, ← (hq 3 (by decide)).1]
    grind
  have hray : ∀ r, r < rn → ∀ j, j < sp → 0 ≤ wdot wf r (vec4 (yf (4 * ck j + 0)) (yf (4 * ck j + 1)) (yf (4 * ck j + 2)) (yf (4 * ck j + 3))) := fun r hr j hj => (hR (ck j) (hck j hj)).2.1 r hr
  have zcol : ∀ i, i < 4 → (∀ j, j < sp → yf (4 * ck j + i) = 0) → bs1 sk yf ck i sp / nI n = 0 := by
    intro i hi hz
    have hz0 : ∀ k, k ≤ sp → bsI sk yf ck i k = 0 := by
      intro k
      induction k with
      | zero => intro _; rfl
      | succ k ih =>
        intro hk
        show bsI sk yf ck i k + (sk k : Int) * (yf (4 * ck k + i)).toInt = 0
        rw [ih (by omega), hz k (by omega), show (0 : Int32).toInt = 0 by decide, Int.mul_zero]; rfl
    have := (hq i hi).1
    rw [hz0 sp (Nat.le_refl sp)] at this
    apply Int32.toInt_inj.mp
    rcases Int.mul_eq_zero.mp this with e | e
    · rw [e]; rfl
    · omega
  refine ⟨fun i hi => by rw [hvec i hi]; exact (hq i hi).2, fun r hr => ?_, ?_, fun h => ?_, fun h => ?_⟩
  · have a := (wds_pos (sk := sk) sp (hray r hr)).1
    rw [← hdot r] at a
    exact Classical.byContradiction (fun hneg => absurd (Int.mul_neg_of_neg_of_pos (by omega : wdot wf r (vec4 (bs1 sk yf ck 0 sp / nI n) (bs1 sk yf ck 1 sp / nI n) (bs1 sk yf ck 2 sp / nI n) (bs1 sk yf ck 3 sp / nI n)) < 0) (by omega : (0 : Int) < (n : Int))) (by omega))
  · obtain ⟨j, hj, hs⟩ := hex
    obtain ⟨r, hr, hpos⟩ := (hR (ck j) (hck j hj)).2.2.1
    have a := (wds_pos (sk := sk) sp (hray r hr)).2 j hj hs hpos
    rw [← hdot r] at a
    refine ⟨r, hr, Classical.byContradiction (fun hneg => ?_)⟩
    have h9 : wdot wf r (vec4 (bs1 sk yf ck 0 sp / nI n) (bs1 sk yf ck 1 sp / nI n) (bs1 sk yf ck 2 sp / nI n) (bs1 sk yf ck 3 sp / nI n)) ≤ 0 := by omega
    exact absurd (Int.mul_nonpos_of_nonpos_of_nonneg h9 (by omega : (0 : Int) ≤ (n : Int))) (by omega)
  · exact zcol 2 (by decide) (fun j hj => (hR (ck j) (hck j hj)).2.2.2.1 h)
  · exact zcol 3 (by decide) (fun j hj => (hR (ck j) (hck j hj)).2.2.2.2 h)
theorem bxl_CP {wf : Nat → Int32} {rn zs yn n sp : Nat} {yf : Nat → Int32} {ck : Nat → Nat} {p : (Nat × (Nat → Int32)) × (Nat → Int32) × (Nat → Nat)} (hR : LsP (CP wf rn zs 750) yn yf) (hn : n ≤ 12) (hsp : sp ≤ 4) (hck : ∀ j, j < sp → ck j < yn) (hp : LsP (CP wf rn zs 20000) p.1.1 p.1.2) : ∀ m, m ≤ pwn n sp - 1 → LsP (CP wf rn zs 20000) (bxl yf ck n sp m p).1.1 (bxl yf ck n sp m p).1.2
  | 0, _ => hp
  | m + 1, hm => by
    have ih := bxl_CP hR hn hsp hck hp m (by omega)
    by_cases hd : ∀ i, i < 4 → bxD (shr n sp (1 + m, (bxl yf ck n sp m p).2.2)).2 yf ck n sp i
    · rw [bxl_y (pt := (bxl yf ck n sp m p).1.1) (pf := (bxl yf ck n sp m p).1.2) (vf := (bxl yf ck n sp m p).2.1) (sk := (bxl yf ck n sp m p).2.2) (r := (shr n sp (1 + m, (bxl yf ck n sp m p).2.2)).1) (s2 := (shr n sp (1 + m, (bxl yf ck n sp m p).2.2)).2) rfl rfl rfl hd rfl rfl]
      exact LsP.kq ih (box_CP hR hn hsp hck (by omega) (by omega) hd)
    · rw [bxl_n (pt := (bxl yf ck n sp m p).1.1) (pf := (bxl yf ck n sp m p).1.2) (vf := (bxl yf ck n sp m p).2.1) (sk := (bxl yf ck n sp m p).2.2) (r := (shr n sp (1 + m, (bxl yf ck n sp m p).2.2)).1) (s2 := (shr n sp (1 + m, (bxl yf ck n sp m p).2.2)).2) rfl rfl rfl hd]
      exact ih
theorem chs_8 {x yn : Nat} {ck : Nat → Nat} (hy : yn ≤ 8) (hc : ∀ j, ck j < 8) : ∀ j, (chs x yn (0, ck)).2 j < 8 := by
  have : ∀ k, k ≤ 8 → ∀ j, (chs x k (0, ck)).2 j < 8 := by
    intro k
    induction k with
    | zero => intro _; exact hc
    | succ k ih =>
      intro hk j
      by_cases e : (x / 2 ^ k) % 2 = 1
      · rw [chs_y (n := (chs x k (0, ck)).1) (f := (chs x k (0, ck)).2) rfl e]
        exact updN_lt (ih (by omega)) (by omega) j
      · rw [chs_n rfl e]; exact ih (by omega) j
  exact this yn hy
theorem fps_CP {wf : Nat → Int32} {rn zs yn sp : Nat} {yf : Nat → Int32} {p : ((Nat × (Nat → Int32)) × (Nat → Int32) × (Nat → Nat)) × (Nat → Nat) × (Nat → Int64)} (hR : LsP (CP wf rn zs 750) yn yf) (hyn : yn ≤ 8) (hsp : sp ≤ 4) (hb : bxh yf yn sp zs) (hck : ∀ j, p.2.1 j < 8) (hp : LsP (CP wf rn zs 20000) p.1.1.1 p.1.1.2) : ∀ m, m ≤ 2 ^ yn - 1 → LsP (CP wf rn zs 20000) (fps yf yn sp zs m p).1.1.1 (fps yf yn sp zs m p).1.1.2 ∧ ∀ j, (fps yf yn sp zs m p).2.1 j < 8
  | 0, _ => ⟨hp, hck⟩
  | m + 1, hm => by
    obtain ⟨ih, ihc⟩ := fps_CP hR hyn hsp hb hck hp m (by omega)
    by_cases e : mny (1 + m) 16 = sp
    · rw [fps_y (n2 := (chs (1 + m) yn (0, (fps yf yn sp zs m p).2.1)).1) (S := (fps yf yn sp zs m p).1) (ck := (fps yf yn sp zs m p).2.1) (q := (fps yf yn sp zs m p).2.2) (c2 := (chs (1 + m) yn (0, (fps yf yn sp zs m p).2.1)).2) (i := (ixf yf (chs (1 + m) yn (0, (fps yf yn sp zs m p).2.1)).2 sp zs 16 (0, (fps yf yn sp zs m p).2.2)).1) (q2 := (ixf yf (chs (1 + m) yn (0, (fps yf yn sp zs m p).2.1)).2 sp zs 16 (0, (fps yf yn sp zs m p).2.2)).2) rfl e rfl rfl rfl]
      have hc : mny (1 + m) yn = sp := by rw [← e, mny_hi (x := 1 + m) (r := yn) (by omega) 16 (by omega)]
      have hn := (hb (1 + m) (fps yf yn sp zs m p).2.1 (fps yf yn sp zs m p).2.2 (by omega) e ihc).2
      refine ⟨bxl_CP hR hn hsp (fun j hj => (chs_in (c2 := (fps yf yn sp zs m p).2.1) yn j (by rw [hc]; exact hj)).1) ih _ (Nat.le_refl _), ?_⟩
      exact chs_8 (by omega) ihc
    · rw [fps_n rfl e]; exact ⟨ih, ihc⟩
theorem cp4_at {f : Nat → Int32} {n k : Nat} (h : n ≤ k) : (∀ i, i < 4 → cp4 f n k (4 * n + i) = f (4 * k + i)) ∧ ∀ j, (j < 4 * n ∨ 4 * n + 4 ≤ j) → cp4 f n k j = f j := by
  have key : ∀ (g : Nat → Int32) (j : Nat), (∀ q, q < 4 → ¬ j = 4 * n + q) → True := fun _ _ _ => trivial
  refine ⟨fun i hi => ?_, fun j hj => ?_⟩
  · unfold cp4
    by_cases e : n = k
    · subst e
      rcases (show i = 0 ∨ i = 1 ∨ i = 2 ∨ i = 3 by omega) with rfl | rfl | rfl | rfl
      · rw [updI_ne (by omega), updI_ne (by omega), updI_ne (by omega), updI_eq]
      · rw [updI_ne (by omega), updI_ne (by omega), updI_eq, updI_ne (by omega)]
      · rw [updI_ne (by omega), updI_eq, updI_ne (by omega), updI_ne (by omega)]
      · rw [updI_eq, updI_ne (by omega), updI_ne (by omega), updI_ne (by omega)]
    · rcases (show i = 0 ∨ i = 1 ∨ i = 2 ∨ i = 3 by omega) with rfl | rfl | rfl | rfl
      · rw [updI_ne (by omega), updI_ne (by omega), updI_ne (by omega), updI_eq]
      · rw [updI_ne (by omega), updI_ne (by omega), updI_eq, updI_ne (by omega)]
      · rw [updI_ne (by omega), updI_eq, updI_ne (by omega), updI_ne (by omega)]
      · rw [updI_eq, updI_ne (by omega), updI_ne (by omega), updI_ne (by omega)]
  · unfold cp4
    rw [updI_ne (by omega), updI_ne (by omega), updI_ne (by omega), updI_ne (by omega)]
theorem cmq_CP {Q : Int32 → Int32 → Int32 → Int32 → Prop} {wf f2 : Nat → Int32} {rn n2 : Nat} (h : LsP Q n2 f2) : ∀ k, k ≤ n2 → (cmq wf f2 rn n2 k (0, f2)).1 ≤ k ∧ LsP Q (cmq wf f2 rn n2 k (0, f2)).1 (cmq wf f2 rn n2 k (0, f2)).2 ∧ ∀ j, 4 * (cmq wf f2 rn n2 k (0, f2)).1 ≤ j → (cmq wf f2 rn n2 k (0, f2)).2 j = f2 j
  | 0, _ => ⟨Nat.le_refl 0, fun k hk => absurd hk (Nat.not_lt_zero k), fun _ _ => rfl⟩
  | k + 1, hk => by
    obtain ⟨a, b, c⟩ := cmq_CP (wf := wf) (rn := rn) h k (by omega)
    by_cases e : smd wf f2 rn n2 k
    · rw [cmq_y rfl e]; exact ⟨by omega, b, c⟩
    · rw [cmq_n (n := (cmq wf f2 rn n2 k (0, f2)).1) (f := (cmq wf f2 rn n2 k (0, f2)).2) rfl e]
      generalize (cmq wf f2 rn n2 k (0, f2)).1 = n at *
      generalize (cmq wf f2 rn n2 k (0, f2)).2 = f at *
      obtain ⟨d1, d2⟩ := cp4_at (f := f) a
      refine ⟨by show n + 1 ≤ k + 1; omega, fun q hq => ?_, fun j hj => ?_⟩
      · show Q (cp4 f n k _) (cp4 f n k _) (cp4 f n k _) (cp4 f n k _)
        have hq : q < n + 1 := hq
        by_cases e2 : q = n
        · subst e2
          rw [d1 0 (by decide), d1 1 (by decide), d1 2 (by decide), d1 3 (by decide), c _ (by omega), c _ (by omega), c _ (by omega), c _ (by omega)]
          exact h k (by omega)
        · rw [d2 _ (by omega), d2 _ (by omega), d2 _ (by omega), d2 _ (by omega)]
          exact b q (by omega)
      · show cp4 f n k j = f2 j
        have hj : 4 * (n + 1) ≤ j := hj
        rw [d2 j (by omega)]; exact c j (by omega)
theorem hts_pos {wf g : Nat → Int32} {a : Nat} : ∀ rn r, r < rn → 0 < (prm wf r g a).toInt → 0 < hts wf g a rn
  | 0, r, h, _ => absurd h (Nat.not_lt_zero r)
  | rn + 1, r, h, hp => by
    show 0 < hts wf g a rn + (prm wf rn g a).toInt.toNat
    by_cases e : r = rn
    · subst e; omega
    · have := hts_pos rn r (by omega) hp; omega
theorem M3 {wf : Nat → Int32} {rn zs rk yn : Nat} {yf tf : Nat → Int32} {sp lg pt : Nat} {pf : Nat → Int32} (h2 : 2 ≤ zs) (h4 : zs ≤ 4) (hr8 : rn ≤ 8) (hr : rowsOK wf rn zs) (h : KMr wf rn zs rk yn yf tf sp lg) (hp : zs ≤ rk) (hl : lg = 0) (hm : KMp wf rn zs yn yf sp pt pf) : pok wf rn pt pf := by
  have hR := h.rays h2 h4 hr8 hr hp
  have hsp := h.sp4 hp
  have hb := M2 h2 h4 hr8 hr h hp hl
  have hyn : yn ≤ 8 := by
    obtain ⟨-, -, h3⟩ := h
    obtain ⟨-, -, -, h5⟩ := h3 hp
    rcases h5 with h6 | h6
    · exact absurd h6.1 (by omega)
    · exact h6.2.1
  obtain ⟨pf0, vf0, f1, v1, f2, v2, s0, s2, c0, c2, q0, q2, n1, n2, hc0, e1, e2, hn2, e3⟩ := hm
  have g1 := fpr_CP (p := ((0, pf0), vf0)) h4 hR rfl yn (Nat.le_refl yn)
  rw [e1] at g1
  have g2 := (fps_CP (p := (((n1, f1), v1, s0), c0, q0)) hR hyn hsp hb hc0 g1 (2 ^ yn - 1) (Nat.le_refl _)).1
  rw [e2] at g2
  have g3 := (cmq_CP (wf := wf) (rn := rn) g2 n2 (Nat.le_refl n2)).2.1
  rw [e3] at g3
  intro k hk
  obtain ⟨a1, a2, a3, -, -⟩ := g3 k hk
  have hv : ∀ i, i < 4 → vec4 (pf (4 * k + 0)) (pf (4 * k + 1)) (pf (4 * k + 2)) (pf (4 * k + 3)) i = (pf (4 * k + i)).toInt := by
    intro i hi
    rcases (show i = 0 ∨ i = 1 ∨ i = 2 ∨ i = 3 by omega) with rfl | rfl | rfl | rfl <;> rfl
  have hd : ∀ r, r < rn → (prm wf r pf (4 * k)).toInt = wdot wf r (vec4 (pf (4 * k + 0)) (pf (4 * k + 1)) (pf (4 * k + 2)) (pf (4 * k + 3))) := by
    intro r hr1
    rw [prm_int (fun i hi => ⟨(hr r i hr1 hi).1, (hr r i hr1 hi).2.1⟩)]
    unfold pri wdot
    rw [hv 0 (by decide), hv 1 (by decide), hv 2 (by decide), hv 3 (by decide)]
  refine ⟨fun i hi => by rw [← hv i hi]; exact a1 i hi, fun r hr1 => ?_, ?_⟩
  · rw [i64_neg, hd r hr1]
    exact Int.not_lt.mpr (a2 r hr1)
  · obtain ⟨r, hr1, hpos⟩ := a3
    exact hts_pos rn r hr1 (by rw [hd r hr1]; exact hpos)
theorem MTH_holds : MTH := ⟨fun wf rn zs q0 h2 h4 h8 hr hk => M1 h2 h4 h8 hr hk, fun wf rn zs rk yn yf tf sp lg h2 h4 h8 hr h hp hl => M2 h2 h4 h8 hr h hp hl, fun wf rn zs rk yn yf tf sp lg pt pf h2 h4 h8 hr h hp hl hm => M3 h2 h4 h8 hr h hp hl hm⟩
