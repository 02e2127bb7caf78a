/-! ===== own rows: class and reference, 36 ===== -/
-- the reference's candidates
/-- INDEX of a choice, as the reference takes it -/
theorem ixn_GC {yf : Nat → Int32} {sp zs yn x : Nat} {ck ck0 : Nat → Nat} {q q0 : Nat → Int64} (hsp : sp ≤ 4) (h2 : 2 ≤ zs) (h4 : zs ≤ 4) (hyn : yn ≤ 8) (hb : ∀ c, c < yn → ∀ i, i < 4 → (wr yf c i).natAbs ≤ 649) (hi : ∀ j, j < yn → ∀ i, zs ≤ i → i < 4 → wr yf j i = 0) (h12 : ¬ 12 < (ixd yf yn sp zs (2 ^ yn - 1) (0, ck0, q0)).1) (x1 : 1 ≤ x) (hx : x < 2 ^ yn) (hm : mny x 16 = sp) : ixn (ixf yf (chs x yn (0, ck)).2 sp zs 16 (0, q)).1 ≤ 12 ∧ GC ((ixn (ixf yf (chs x yn (0, ck)).2 sp zs 16 (0, q)).1 : Nat) : Int) (mnI (fun l => wr yf (Jn x yn l)) sp) (lev sp) := by
  obtain ⟨g, -, -⟩ := index_same (ck := ck) (q := q) (yf' := yf) hsp h2 h4 (by omega) hb hi (fun _ _ => rfl) hx hm
  have h13 : ¬ 12 < (ixd yf yn sp zs (2 ^ yn - 1) (0, ck0, q0)).1.toInt := fun z => h12 (i64_12.mpr z)
  have le := ixd_ge (c0 := ck0) (q0 := q0) hsp h4 hyn (fun c hc i hi => Nat.le_trans (hb c hc i hi) (by decide)) (2 ^ yn - 1) (Nat.le_refl _) x x1 (by omega) hm ck q
  generalize (ixf yf (chs x yn (0, ck)).2 sp zs 16 (0, q)).1 = v at *
  have hp := g.1
  have e32 : v.toInt32.toInt = v.toInt := i32_of64 (by omega)
  have en : ixn v = v.toInt.toNat := by
    unfold ixn
    show v.toInt32.toInt.toNat = _
    rw [e32]
  have e : ((ixn v : Nat) : Int) = v.toInt := by rw [en]; exact Int.toNat_of_nonneg hp
  exact ⟨by omega, by rw [e]; exact g⟩
theorem shr_dgt {n t : Nat} {s : Nat → Nat} : ∀ k j, j < k → (shr n k (t, s)).2 j = t / n ^ j % n
  | 0, j, h => absurd h (Nat.not_lt_zero j)
  | k + 1, j, h => by
    show updN (shr n k (t, s)).2 k ((shr n k (t, s)).1 % n) j = _
    unfold updN
    by_cases e : j = k
    · rw [if_pos e, shr_rest, e]
    · rw [if_neg e]; exact shr_dgt k j (by omega)
/-- a number out of digits -/
def dsum (n : Nat) (s : Nat → Nat) : Nat → Nat
  | 0 => 0
  | k + 1 => dsum n s k + s k * n ^ k
theorem dsum_lt {n : Nat} {s : Nat → Nat} : ∀ k, (∀ m, m < k → s m < n) → dsum n s k < n ^ k
  | 0, _ => by show 0 < 1; decide
  | k + 1, h => by
    have ih := dsum_lt (n := n) (s := s) k (fun m hm => h m (by omega))
    have hk := h k (by omega)
    show dsum n s k + s k * n ^ k < n ^ (k + 1)
    have a : (s k + 1) * n ^ k ≤ n * n ^ k := Nat.mul_le_mul_right _ hk
    rw [Nat.succ_mul] at a
    rw [Nat.pow_succ, Nat.mul_comm (n ^ k) n]; omega
theorem dsum_dgt {n : Nat} {s : Nat → Nat} : ∀ k, (∀ m, m < k → s m < n) → ∀ j, j < k → dsum n s k / n ^ j % n = s j
  | 0, _, j, h => absurd h (Nat.not_lt_zero j)
  | k + 1, h, j, hj => by
    have ih := dsum_dgt (n := n) (s := s) k (fun m hm => h m (by omega))
    have l := dsum_lt (n := n) (s := s) k (fun m hm => h m (by omega))
    have n0 : 0 < n := Nat.lt_of_le_of_lt (Nat.zero_le _) (h k (by omega))
    show (dsum n s k + s k * n ^ k) / n ^ j % n = s j
    by_cases e : j = k
    · subst e
      rw [Nat.add_mul_div_right _ _ (Nat.pow_pos n0), Nat.div_eq_of_lt l, Nat.zero_add]
      exact Nat.mod_eq_of_lt (h j hj)
    · have e1 : s k * n ^ k = (s k * n ^ (k - j - 1) * n) * n ^ j := by
        rw [Nat.mul_assoc, Nat.mul_assoc, ← Nat.pow_succ', ← Nat.pow_add, show k - j - 1 + (j + 1) = k by omega]
      rw [e1, Nat.add_mul_div_right _ _ (Nat.pow_pos n0), Nat.add_mul_mod_self_right]
      exact ih j (by omega)
/-- rays, and whole points with shares below 1 of as many rays as SIZE says -/
def BPT (yf : Nat → Int32) (yn sp : Nat) (u : Nat → Int) : Prop := (∃ j, j < yn ∧ ∀ i, i < 4 → wr yf j i = u i) ∨ ∃ x, x < 2 ^ yn ∧ mny x 16 = sp ∧ ∃ (D : Nat) (s : Nat → Int), 1 ≤ D ∧ D ≤ 12 ∧ GC (D : Int) (mnI (fun l => wr yf (Jn x yn l)) sp) (lev sp) ∧ inG (fun l => wr yf (Jn x yn l)) sp (D : Int) s ∧ ∀ i, i < 4 → (D : Int) * u i = isum (fun l => s l * wr yf (Jn x yn l) i) sp
theorem BPT.ext {yf : Nat → Int32} {yn sp : Nat} : ext4 (BPT yf yn sp) := fun u v e h => by
  rcases h with ⟨j, hj, ej⟩ | ⟨x, hx, hm, D, s, d1, d2, d3, d4, d5⟩
  · exact Or.inl ⟨j, hj, fun i hi => (ej i hi).trans (e i hi)⟩
  · exact Or.inr ⟨x, hx, hm, D, s, d1, d2, d3, d4, fun i hi => by rw [← e i hi]; exact d5 i hi⟩
/-- how many sets below x have sp members -/
def cS (sp : Nat) : Nat → Nat
  | 0 => 0
  | x + 1 => cS sp x + if mny x 16 = sp then 1 else 0
theorem cS_mono {sp : Nat} : ∀ {x y : Nat}, x ≤ y → cS sp x ≤ cS sp y := fun {x y} h => by
  induction y with
  | zero => rw [show x = 0 by omega]; exact Nat.le_refl _
  | succ y ih =>
    by_cases e : x = y + 1
    · rw [e]; exact Nat.le_refl _
    · exact Nat.le_trans (ih (by omega)) (Nat.le_add_right _ _)
theorem cS_lt {sp x y : Nat} (h : x < y) (hx : mny x 16 = sp) : cS sp x < cS sp y := by
  have a := cS_mono (sp := sp) (x := x + 1) (y := y) h
  have b : cS sp (x + 1) = cS sp x + 1 := by show cS sp x + (if mny x 16 = sp then 1 else 0) = _; rw [if_pos hx]
  omega
theorem cS_70 : ∀ sp, sp < 5 → cS sp 256 ≤ 70 := by decide +kernel
/-- the reference's list never gets full -/
theorem BPT.cnt {yf f : Nat → Int32} {yn sp n : Nat} (hyn : yn ≤ 8) (hsp : sp ≤ 4) (hs : SL n f) (hl : ∀ k, k < n → BPT yf yn sp (wr f k)) : n ≤ 848 := by
  have ex : ∀ x : Nat, ∃ sg : (Nat → Int) → Nat, ∀ D : Nat, 1 ≤ D → GC (D : Int) (mnI (fun l => wr yf (Jn x yn l)) sp) (lev sp) → ∀ s, inG (fun l => wr yf (Jn x yn l)) sp (D : Int) s → sg s < D ∧ ∀ r, inG (fun l => wr yf (Jn x yn l)) sp (D : Int) r → sg s = sg r → ∀ m, m < sp → s m = r m := fun x => by
    by_cases c : ∃ D : Nat, 1 ≤ D ∧ GC (D : Int) (mnI (fun l => wr yf (Jn x yn l)) sp) (lev sp)
    · obtain ⟨D, D1, hD⟩ := c
      have hne : ∃ m ∈ lev sp, ¬ mnI (fun l => wr yf (Jn x yn l)) sp m = 0 := Classical.byContradiction (fun z => by
        have := hD.2.2 0 (fun m hm => by rw [show mnI (fun l => wr yf (Jn x yn l)) sp m = 0 from Classical.byContradiction (fun w => z ⟨m, hm, w⟩)]; exact Int.dvd_refl 0)
        have := Int.zero_dvd.mp this
        omega)
      obtain ⟨g, sg, hg, hgc, hsg⟩ := shares_le (R := fun l => wr yf (Jn x yn l)) (D := (D : Int)) (by omega) sp hsp hne
      have eg : g = D := hgc.uniq hD
      refine ⟨sg, fun D' D1' hD' s hs' => ?_⟩
      have ed : (D' : Int) = D := hD'.uniq hD
      rw [ed] at hs' ⊢
      obtain ⟨a, b⟩ := hsg s hs'
      exact ⟨by omega, b⟩
    · exact ⟨fun _ => 0, fun D D1 hD => absurd ⟨D, D1, hD⟩ c⟩
  obtain ⟨SG, hSG⟩ := Classical.axiomOfChoice ex
  have h256 : 2 ^ yn ≤ 2 ^ 8 := Nat.pow_le_pow_right (by decide) hyn
  have c70 := cS_70 sp (by omega)
  refine php1 (M := n) (K := 848) (O := fun t k => (t < 8 ∧ ∀ i, i < 4 → wr yf t i = wr f k i) ∨ ∃ x, x < 2 ^ yn ∧ mny x 16 = sp ∧ ∃ (D : Nat) (s : Nat → Int), 1 ≤ D ∧ D ≤ 12 ∧ GC (D : Int) (mnI (fun l => wr yf (Jn x yn l)) sp) (lev sp) ∧ inG (fun l => wr yf (Jn x yn l)) sp (D : Int) s ∧ (∀ i, i < 4 → (D : Int) * wr f k i = isum (fun l => s l * wr yf (Jn x yn l) i) sp) ∧ t = 8 + 12 * cS sp x + SG x s) (fun t i j hi hj o1 o2 => ?_) (fun i hi => ?_)
  · have fin : (∀ q, q < 4 → wr f i q = wr f j q) → i = j := fun e => Classical.byContradiction (fun ne => hs.ne hi hj ne e)
    rcases o1 with ⟨t8, e1⟩ | ⟨x, hx, hm, D, s, d1, d2, d3, d4, d5, d6⟩
    · rcases o2 with ⟨-, e2⟩ | ⟨x, hx, hm, D, s, d1, d2, d3, d4, d5, d6⟩
      · exact fin (fun q hq => (e1 q hq).symm.trans (e2 q hq))
      · omega
    · rcases o2 with ⟨t8, e2⟩ | ⟨x', hx', hm', D', s', d1', d2', d3', d4', d5', d6'⟩
      · omega
      · have l1 := (hSG x D d1 d3 s d4).1
        have l2 := (hSG x' D' d1' d3' s' d4').1
        have ec : cS sp x = cS sp x' := by omega
        have exx : x = x' := by
          refine Classical.byContradiction (fun ne => ?_)
          rcases Nat.lt_or_gt_of_ne ne with z | z
          · have := cS_lt z hm; omega
          · have := cS_lt z hm'; omega
        subst exx
        have ed : (D' : Int) = D := d3'.uniq d3
        have ed : D' = D := by omega
        subst ed
        have es := (hSG x D' d1 d3 s d4).2 s' d4' (by omega)
        refine fin (fun q hq => Int.eq_of_mul_eq_mul_left (a := (D' : Int)) (by omega) ?_)
        rw [d5 q hq, d5' q hq]
        exact isum_congr sp (fun m hm9 => by rw [es m hm9])
  · rcases hl i hi with ⟨j, hj, ej⟩ | ⟨x, hx, hm, D, s, d1, d2, d3, d4, d5⟩
    · exact ⟨j, by omega, Or.inl ⟨by omega, ej⟩⟩
    · have l1 := (hSG x D d1 d3 s d4).1
      have l2 := cS_lt (sp := sp) (x := x) (y := 256) (by omega) hm
      exact ⟨8 + 12 * cS sp x + SG x s, by omega, Or.inr ⟨x, hx, hm, D, s, d1, d2, d3, d4, d5, rfl⟩⟩
theorem bsI_isum {yf : Nat → Int32} {ck sk : Nat → Nat} {yn x i sp : Nat} {s : Nat → Int} (hck : ∀ j, j < sp → ck j = Jn x yn j) (hsk : ∀ j, j < sp → ((sk j : Nat) : Int) = s j) : ∀ k, k ≤ sp → bsI sk yf ck i k = isum (fun l => s l * wr yf (Jn x yn l) i) k
  | 0, _ => rfl
  | k + 1, hk => by
    show bsI sk yf ck i k + (sk k : Int) * (yf (4 * ck k + i)).toInt = isum (fun l => s l * wr yf (Jn x yn l) i) k + s k * wr yf (Jn x yn k) i
    rw [bsI_isum hck hsk k (by omega), hsk k (by omega), hck k (by omega)]; rfl
/-- the points of one choice -/
theorem bxl_has {yf : Nat → Int32} {yn sp x D : Nat} {ck : Nat → Nat} (hyn : yn ≤ 8) (hsp : sp ≤ 4) (hb : ∀ c, c < yn → ∀ i, i < 4 → (wr yf c i).natAbs ≤ 649) (hx : x < 2 ^ yn) (hm : mny x 16 = sp) (hck : ∀ j, j < sp → ck j = Jn x yn j) (D12 : D ≤ 12) (hD : GC (D : Int) (mnI (fun l => wr yf (Jn x yn l)) sp) (lev sp)) {p : (Nat × (Nat → Int32)) × (Nat → Int32) × (Nat → Nat)} (hs : SL p.1.1 p.1.2) (hl : ∀ k, k < p.1.1 → BPT yf yn sp (wr p.1.2 k)) : ∀ m, m ≤ pwn D sp - 1 → SL (bxl yf ck D sp m p).1.1 (bxl yf ck D sp m p).1.2 ∧ (∀ k, k < (bxl yf ck D sp m p).1.1 → BPT yf yn sp (wr (bxl yf ck D sp m p).1.2 k)) ∧ (∀ u, inL p.1.1 p.1.2 u → inL (bxl yf ck D sp m p).1.1 (bxl yf ck D sp m p).1.2 u) ∧ ∀ t, 1 ≤ t → t ≤ m → ∀ u : Nat → Int, (∀ i, i < 4 → (D : Int) * u i = isum (fun l => ((t / D ^ l % D : Nat) : Int) * wr yf (Jn x yn l) i) sp) → inL (bxl yf ck D sp m p).1.1 (bxl yf ck D sp m p).1.2 u
  | 0, _ => ⟨hs, hl, fun _ h => h, fun t h1 h2 => by omega⟩
  | m + 1, hm9 => by
    obtain ⟨a1, a2, a3, a4⟩ := bxl_has hyn hsp hb hx hm hck D12 hD hs hl m (by omega)
    have D0 : 0 < D := pwn_pos (sp := sp) (by omega)
    have D2 : 2 ≤ D := by
      by_cases e : D = 1
      · have : pwn D sp = 1 := by unfold pwn; rw [if_neg (by omega), e, Nat.one_pow]
        omega
      · omega
    have hmn : mny x yn = sp := by rw [← hm]; exact (mny_hi hx 16 (by omega)).symm
    have dg := shr_dgt (n := D) (t := 1 + m) (s := (bxl yf ck D sp m p).2.2) sp
    have ey : ∀ j, j < sp → ∀ i, i < 4 → (yf (4 * ck j + i)).toInt.natAbs ≤ 750 := fun j hj i hi => by
      rw [hck j hj]
      exact Nat.le_trans (hb _ ((Jn_spec (x := x) yn).1 j (by omega)).1 i hi) (by decide)
    have hlt : ∀ j, j < sp → (1 + m) / D ^ j % D < D := fun j _ => Nat.mod_lt _ D0
    have hS : ∀ i, i < 4 → (bs1 (shr D sp (1 + m, (bxl yf ck D sp m p).2.2)).2 yf ck i sp).toInt = isum (fun l => (((1 + m) / D ^ l % D : Nat) : Int) * wr yf (Jn x yn l) i) sp ∧ (bs1 (shr D sp (1 + m, (bxl yf ck D sp m p).2.2)).2 yf ck i sp).toInt.natAbs ≤ 33000 := fun i hi => by
      obtain ⟨b1, b2⟩ := bs1_int (sk := (shr D sp (1 + m, (bxl yf ck D sp m p).2.2)).2) (yf := yf) (ck := ck) (i := i) sp hsp (fun j hj => ⟨by rw [dg j hj]; have := hlt j hj; omega, ey j hj i hi⟩)
      have b3 := bsI_isum (yf := yf) (sk := (shr D sp (1 + m, (bxl yf ck D sp m p).2.2)).2) (i := i) (s := fun l => (((1 + m) / D ^ l % D : Nat) : Int)) hck (fun j hj => by rw [dg j hj]) sp (Nat.le_refl sp)
      exact ⟨by rw [b1, b3], by rw [b1]; omega⟩
    have hn : (bxl yf ck D sp m p).1.1 < 1000 := by have := BPT.cnt hyn hsp a1 a2; omega
    by_cases hd : ∀ i, i < 4 → bxD (shr D sp (1 + m, (bxl yf ck D sp m p).2.2)).2 yf ck D sp i
    · rw [bxl_y (pt := (bxl yf ck D sp m p).1.1) (pf := (bxl yf ck D sp m p).1.2) (vf := (bxl yf ck D sp m p).2.1) (sk := (bxl yf ck D sp m p).2.2) (r := (shr D sp (1 + m, (bxl yf ck D sp m p).2.2)).1) (s2 := (shr D sp (1 + m, (bxl yf ck D sp m p).2.2)).2) rfl rfl rfl hd rfl rfl]
      have hv : ∀ i, i < 4 → (D : Int) * vI (bxV (shr D sp (1 + m, (bxl yf ck D sp m p).2.2)).2 yf ck D sp 4 (bxl yf ck D sp m p).2.1) i = isum (fun l => (((1 + m) / D ^ l % D : Nat) : Int) * wr yf (Jn x yn l) i) sp := fun i hi => by
        show (D : Int) * (bxV (shr D sp (1 + m, (bxl yf ck D sp m p).2.2)).2 yf ck D sp 4 (bxl yf ck D sp m p).2.1 i).toInt = _
        rw [bxV_at 4 i hi, Int.mul_comm, (quo32 D2 D12 (hS i hi).2 (hd i hi)).1, (hS i hi).1]
      have hB : BPT yf yn sp (vI (bxV (shr D sp (1 + m, (bxl yf ck D sp m p).2.2)).2 yf ck D sp 4 (bxl yf ck D sp m p).2.1)) := Or.inr ⟨x, hx, hm, D, fun l => (((1 + m) / D ^ l % D : Nat) : Int), by omega, D12, hD, ⟨fun j hj => by
        have := hlt j hj
        show 0 ≤ (((1 + m) / D ^ j % D : Nat) : Int) ∧ (((1 + m) / D ^ j % D : Nat) : Int) < D
        omega, _, hv⟩, hv⟩
      obtain ⟨c1, c2, c3, c4, c5, c6⟩ := kq_put BPT.ext hn a1 a2 hB
      refine ⟨c1, c2, fun u hu => c5 u (a3 u hu), fun t t1 t2 u hu => ?_⟩
      by_cases e : t = m + 1
      · refine c6.ex (fun i hi => Int.eq_of_mul_eq_mul_left (a := (D : Int)) (by omega) ?_)
        rw [hv i hi, hu i hi, e, Nat.add_comm m 1]
      · exact c5 u (a4 t t1 (by omega) u hu)
    · rw [bxl_n (pt := (bxl yf ck D sp m p).1.1) (pf := (bxl yf ck D sp m p).1.2) (vf := (bxl yf ck D sp m p).2.1) (sk := (bxl yf ck D sp m p).2.2) (r := (shr D sp (1 + m, (bxl yf ck D sp m p).2.2)).1) (s2 := (shr D sp (1 + m, (bxl yf ck D sp m p).2.2)).2) rfl rfl rfl hd]
      refine ⟨a1, a2, a3, fun t t1 t2 u hu => ?_⟩
      by_cases e : t = m + 1
      · refine absurd (fun i hi => ?_) hd
        obtain ⟨b1, b2⟩ := hS i hi
        have hu := hu i hi
        rw [e, Nat.add_comm m 1, ← b1] at hu
        unfold bxD
        generalize bs1 (shr D sp (1 + m, (bxl yf ck D sp m p).2.2)).2 yf ck i sp = b at *
        have ub : (u i).natAbs ≤ 33000 := by
          have e1 : ((D : Int) * u i).natAbs = D * (u i).natAbs := by rw [Int.natAbs_mul]; rfl
          rw [hu] at e1
          have e2 : 1 * (u i).natAbs ≤ D * (u i).natAbs := Nat.mul_le_mul_right _ (by omega)
          omega
        have q1 : (b / nI D).toInt = u i := by
          rw [Int32.toInt_div, nI_toInt (by omega), ← hu, Int.mul_tdiv_cancel_left _ (by omega)]
          apply Int.bmod_eq_of_le <;> omega
        have q2 : (b / nI D * nI D).toInt = b.toInt := by
          rw [Int32.toInt_mul, q1, nI_toInt (by omega), Int.mul_comm, hu]
          apply Int.bmod_eq_of_le <;> omega
        apply Int32.toInt_inj.mp
        rw [sub32 (by rw [q2]; omega) (by rw [q2]; omega), q2, Int.sub_self]; rfl
      · exact a4 t t1 (by omega) u hu
theorem fps_has {yf : Nat → Int32} {yn sp zs : Nat} {ck0 : Nat → Nat} {q0 : Nat → Int64} (hsp : sp ≤ 4) (h2 : 2 ≤ zs) (h4 : zs ≤ 4) (hyn : yn ≤ 8) (hb : ∀ c, c < yn → ∀ i, i < 4 → (wr yf c i).natAbs ≤ 649) (hi : ∀ j, j < yn → ∀ i, zs ≤ i → i < 4 → wr yf j i = 0) (h12 : ¬ 12 < (ixd yf yn sp zs (2 ^ yn - 1) (0, ck0, q0)).1) {p : ((Nat × (Nat → Int32)) × (Nat → Int32) × (Nat → Nat)) × (Nat → Nat) × (Nat → Int64)} (hs : SL p.1.1.1 p.1.1.2) (hl : ∀ k, k < p.1.1.1 → BPT yf yn sp (wr p.1.1.2 k)) : ∀ m, m ≤ 2 ^ yn - 1 → SL (fps yf yn sp zs m p).1.1.1 (fps yf yn sp zs m p).1.1.2 ∧ (∀ k, k < (fps yf yn sp zs m p).1.1.1 → BPT yf yn sp (wr (fps yf yn sp zs m p).1.1.2 k)) ∧ (∀ u, inL p.1.1.1 p.1.1.2 u → inL (fps yf yn sp zs m p).1.1.1 (fps yf yn sp zs m p).1.1.2 u) ∧ ∀ x, 1 ≤ x → x ≤ m → mny x 16 = sp → ∀ D : Nat, GC (D : Int) (mnI (fun l => wr yf (Jn x yn l)) sp) (lev sp) → ∀ t, 1 ≤ t → t < pwn D sp → ∀ u : Nat → Int, (∀ i, i < 4 → (D : Int) * u i = isum (fun l => ((t / D ^ l % D : Nat) : Int) * wr yf (Jn x yn l) i) sp) → inL (fps yf yn sp zs m p).1.1.1 (fps yf yn sp zs m p).1.1.2 u
  | 0, _ => ⟨hs, hl, fun _ h => h, fun x h1 h2 => by omega⟩
  | m + 1, hm9 => by
    obtain ⟨a1, a2, a3, a4⟩ := fps_has hsp h2 h4 hyn hb hi h12 hs hl m (by omega)
    by_cases e : mny (1 + m) 16 = sp
    · rw [fps_y (n2 := (chs (1 + m) yn (0, (fps yf yn sp zs m p).2.1)).1) (S := (fps yf yn sp zs m p).1) (ck := (fps yf yn sp zs m p).2.1) (q := (fps yf yn sp zs m p).2.2) (c2 := (chs (1 + m) yn (0, (fps yf yn sp zs m p).2.1)).2) (i := (ixf yf (chs (1 + m) yn (0, (fps yf yn sp zs m p).2.1)).2 sp zs 16 (0, (fps yf yn sp zs m p).2.2)).1) (q2 := (ixf yf (chs (1 + m) yn (0, (fps yf yn sp zs m p).2.1)).2 sp zs 16 (0, (fps yf yn sp zs m p).2.2)).2) rfl e rfl rfl rfl]
      have hc : mny (1 + m) yn = sp := by rw [← e, mny_hi (x := 1 + m) (r := yn) (by omega) 16 (by omega)]
      obtain ⟨i1, i2⟩ := ixn_GC (ck := (fps yf yn sp zs m p).2.1) (q := (fps yf yn sp zs m p).2.2) hsp h2 h4 hyn hb hi h12 (x := 1 + m) (by omega) (by omega) e
      obtain ⟨b1, b2, b3, b4⟩ := bxl_has (ck := (chs (1 + m) yn (0, (fps yf yn sp zs m p).2.1)).2) hyn hsp hb (by omega) e (fun j hj => (chs_in (x := 1 + m) (ck := (fps yf yn sp zs m p).2.1) (c2 := fun _ => 0) yn j (by omega)).2) i1 i2 a1 a2 _ (Nat.le_refl _)
      refine ⟨b1, b2, fun u hu => b3 u (a3 u hu), fun x x1 x2 xm D hD t t1 t2 u hu => ?_⟩
      by_cases z : x = m + 1
      · have z : x = 1 + m := by omega
        subst z
        have ed : (D : Int) = _ := hD.uniq i2
        have ed : D = ixn (ixf yf (chs (1 + m) yn (0, (fps yf yn sp zs m p).2.1)).2 sp zs 16 (0, (fps yf yn sp zs m p).2.2)).1 := by omega
        rw [ed] at t2 hu
        exact b4 t t1 (by omega) u hu
      · exact b3 u (a4 x x1 (by omega) xm D hD t t1 t2 u hu)
    · rw [fps_n rfl e]
      refine ⟨a1, a2, a3, fun x x1 x2 xm D hD t t1 t2 u hu => ?_⟩
      by_cases z : x = m + 1
      · exact absurd (by rw [← xm, z, Nat.add_comm]) e
      · exact a4 x x1 (by omega) xm D hD t t1 t2 u hu
theorem fpr_has {yf : Nat → Int32} {yn sp zs : Nat} (hyn : yn ≤ 8) (hsp : sp ≤ 4) (h4 : zs ≤ 4) (hi : ∀ j, j < yn → ∀ i, zs ≤ i → i < 4 → wr yf j i = 0) {p : (Nat × (Nat → Int32)) × (Nat → Int32)} (hp : p.1.1 = 0) : ∀ q, q ≤ yn → SL (fpr yf (nI zs) q p).1.1 (fpr yf (nI zs) q p).1.2 ∧ (∀ k, k < (fpr yf (nI zs) q p).1.1 → BPT yf yn sp (wr (fpr yf (nI zs) q p).1.2 k)) ∧ ∀ j, j < q → inL (fpr yf (nI zs) q p).1.1 (fpr yf (nI zs) q p).1.2 (wr yf j)
  | 0, _ => ⟨fun j k _ hk => absurd hk (by show ¬ k < p.1.1; omega), fun k hk => absurd hk (by show ¬ k < p.1.1; omega), fun j hj => absurd hj (Nat.not_lt_zero j)⟩
  | q + 1, hq => by
    obtain ⟨a1, a2, a3⟩ := fpr_has (sp := sp) hyn hsp h4 hi hp q (by omega)
    rw [fpr_s (n := (fpr yf (nI zs) q p).1.1) (f := (fpr yf (nI zs) q p).1.2) (v := (fpr yf (nI zs) q p).2) rfl rfl rfl]
    have zero : ∀ i, zs ≤ i → i < 4 → yf (4 * q + i) = 0 := fun i h1 h2 => Int32.toInt_inj.mp ((hi q (by omega) i h1 h2).trans (by decide))
    have e : ∀ i, i < 4 → vI (vst (nI zs) (fpr yf (nI zs) q p).2 (yf (4 * q)) (yf (4 * q + 1)) (yf (4 * q + 2)) (yf (4 * q + 3))) i = wr yf q i := fun i hi9 => by
      show (vst (nI zs) (fpr yf (nI zs) q p).2 (yf (4 * q)) (yf (4 * q + 1)) (yf (4 * q + 2)) (yf (4 * q + 3)) i).toInt = (yf (4 * q + i)).toInt
      rcases (show i = 0 ∨ i = 1 ∨ i = 2 ∨ i = 3 by omega) with rfl | rfl | rfl | rfl
      · rw [vst_0]; rfl
      · rw [vst_1]
      · rw [vst_2, tkc_same h4 (fun h => zero 2 h (by decide))]
      · rw [vst_3, tkd_same h4 (fun h => zero 3 h (by decide))]
    have hn : (fpr yf (nI zs) q p).1.1 < 1000 := by have := BPT.cnt hyn hsp a1 a2; omega
    obtain ⟨b1, b2, b3, b4, b5, b6⟩ := kq_put BPT.ext (g := vst (nI zs) (fpr yf (nI zs) q p).2 (yf (4 * q)) (yf (4 * q + 1)) (yf (4 * q + 2)) (yf (4 * q + 3))) hn a1 a2 (Or.inl ⟨q, by omega, fun i hi => (e i hi).symm⟩)
    refine ⟨b1, b2, fun j hj => ?_⟩
    by_cases z : j = q
    · rw [z]; exact b6.ex e
    · exact b5 _ (a3 j (by omega))
/-- what the reference has found, at last -/
theorem ref_bas {c : MC} {yf : Nat → Int32} (hc : MJ c) (hR : RAYS c yf) (hk : c.kn = 1) (hz : c.zs ≤ c.rk) (hlg : c.lg = 0) (hfo : c.fo = 1) : BAS (xn c.rn c.zs) (XW c.wf c.rn) c.pt c.pf := by
  obtain ⟨hX, h12, hb, -, hsp⟩ := id hR
  have hkm := hc.k1 hk
  have hCP := hkm.rays hc.z2 hc.z4 hc.r8 hc.ro hz
  have hbx := M2 hc.z2 hc.z4 hc.r8 hc.ro hkm hz hlg
  obtain ⟨-, -, h3⟩ := hkm
  obtain ⟨-, -, -, h5⟩ := h3 hz
  obtain ⟨-, y8, ck0, q0, -, hix⟩ : c.lg = 0 ∧ c.yn ≤ 8 ∧ ∃ ck0 q0, (∀ j, ck0 j < 8) ∧ ¬ 12 < (ixd c.yf c.yn c.sp c.zs (2 ^ c.yn - 1) (0, ck0, q0)).1 := by
    rcases h5 with h6 | h6
    · exact absurd h6.1 (by omega)
    · exact h6
  have hi : ∀ j, j < c.yn → ∀ i, c.zs ≤ i → i < 4 → wr c.yf j i = 0 := fun j hj => ((XW_cn hc.z2).mp (hX.2.2.1 j hj).1).2
  obtain ⟨pf0, vf0, f1, v1, f2, v2, s0, s2, c0, c2, q1, q2, n1, n2, hc0, e1, e2, hn2, e3⟩ := hc.k2 hk hz hlg hfo
  have g1 := fpr_CP (p := ((0, pf0), vf0)) hc.z4 hCP rfl c.yn (Nat.le_refl c.yn)
  rw [e1] at g1
  have g2 := (fps_CP (p := (((n1, f1), v1, s0), c0, q1)) hCP y8 hc.sp hbx hc0 g1 (2 ^ c.yn - 1) (Nat.le_refl _)).1
  rw [e2] at g2
  have g2 : LsP (CP c.wf c.rn c.zs 20000) n2 f2 := g2
  have k1 := fpr_has (sp := c.sp) (p := ((0, pf0), vf0)) y8 hc.sp hc.z4 hi rfl c.yn (Nat.le_refl _)
  rw [e1] at k1
  obtain ⟨a1, a2, a3⟩ := k1
  have k2 := fps_has (p := (((n1, f1), v1, s0), c0, q1)) hc.sp hc.z2 hc.z4 y8 hb hi hix a1 a2 (2 ^ c.yn - 1) (Nat.le_refl _)
  rw [e2] at k2
  obtain ⟨b1, b2, b3, b4⟩ := k2
  have b1 : SL n2 f2 := b1
  have b3 : ∀ u, inL n1 f1 u → inL n2 f2 u := b3
  have a3 : ∀ j, j < c.yn → inL n1 f1 (wr c.yf j) := a3
  have cnd : CND c.rn c.zs c.wf n2 f2 := by
    refine ⟨b1, fun k hk9 => ?_, fun u hu => ?_⟩
    · obtain ⟨p1, p2, p3, p4, p5⟩ := g2 k hk9
      have v4 := v4_wr f2 k
      have zero : (0 : Int32).toInt = 0 := by decide
      refine ⟨⟨(XW_cn hc.z2).mpr ⟨fun r hr => ?_, fun i hi1 hi2 => ?_⟩, ?_⟩, fun i hi9 => by rw [← v4 i hi9]; exact p1 i hi9⟩
      · have := p2 r hr
        rw [wdot_congr v4] at this; exact this
      · have z2 := hc.z2
        rcases (show i = 2 ∨ i = 3 by omega) with rfl | rfl
        · show (f2 (4 * k + 2)).toInt = 0
          rw [p4 (by omega), zero]
        · show (f2 (4 * k + 3)).toInt = 0
          rw [p5 (by omega), zero]
      · obtain ⟨r, hr, hpos⟩ := p3
        rw [wdot_congr v4] at hpos
        have hpos : 0 < dot4 (wr c.wf r) (wr f2 k) := hpos
        exact nz4_dot (x := wr c.wf r) (by omega)
    · rcases irr_cover hR hu with ⟨j, hj, ej⟩ | ⟨G, ch, rc, hG, sp1, sh⟩
      · exact b3 u ((a3 j hj).ex ej)
      · have cnt := RC.cnt hX (fun j hj => all_bit.mp hj) _ _ _ rc
        have rk := (lst_Rk (pf := c.yf) (m := ch) (fun _ _ => rfl) hb).uniq (rc.rk hX (fun j hj => all_bit.mp hj))
        have lt : ch < 2 ^ c.yn := bits_lt (fun j hj => ((RC.ind hX (fun j hj => all_bit.mp hj) _ _ _ rc).2.1 j hj).1)
        have m16 : mny ch 16 = c.sp := by rw [mny_hi lt 16 (by omega)]; exact cnt
        have ch1 : 1 ≤ ch := by
          refine Nat.pos_of_ne_zero (fun z => ?_)
          rw [z, mny_z] at cnt; omega
        obtain ⟨D12, hD⟩ := ixn_GC (ck := c0) (q := q1) hc.sp hc.z2 hc.z4 y8 hb hi hix ch1 lt m16
        generalize ixn (ixf c.yf (chs ch c.yn (0, c0)).2 c.sp c.zs 16 (0, q1)).1 = D at *
        have D1 : 1 ≤ D := by
          refine Nat.pos_of_ne_zero (fun z => ?_)
          obtain ⟨-, m, hm, hne⟩ := lst_mn (pf := c.yf) (yf := c.yf) (x := ch) (fun _ _ => rfl) hb (rk.trans cnt.symm)
          rw [cnt] at hm hne
          have := hD.2.1 m hm
          rw [z] at this
          exact hne (Int.zero_dvd.mp this)
        obtain ⟨s, -, s1, s3⟩ := sh.parts sp1 hc.sp D1 hD
        have dl : ∀ m, m < c.sp → (s m).toNat < D := fun m hm => by have := s1 m hm; omega
        have lt2 := dsum_lt (n := D) (s := fun m => (s m).toNat) c.sp dl
        have dg := dsum_dgt (n := D) (s := fun m => (s m).toNat) c.sp dl
        have pw : pwn D c.sp = D ^ c.sp := by unfold pwn; rw [if_neg (by omega)]
        refine b4 ch ch1 (by omega) m16 D hD (dsum D (fun m => (s m).toNat) c.sp) ?_ (by rw [pw]; exact lt2) u (fun i hi9 => ?_)
        · refine Nat.pos_of_ne_zero (fun z => ?_)
          obtain ⟨i, hi9, hne⟩ := hu.2.1
          have e := s3 i hi9
          rw [isum_zero c.sp (fun l hl => by
            have d := dg l hl
            rw [z, Nat.zero_div, Nat.zero_mod] at d
            have d : 0 = (s l).toNat := d
            have := s1 l hl
            rw [show s l = 0 by omega, Int.zero_mul])] at e
          rcases Int.mul_eq_zero.mp e with w | w
          · omega
          · exact hne w
        · rw [s3 i hi9]
          refine isum_congr c.sp (fun l hl => ?_)
          show s l * wr c.yf (Jn ch c.yn l) i = ((dsum D (fun m => (s m).toNat) c.sp / D ^ l % D : Nat) : Int) * wr c.yf (Jn ch c.yn l) i
          rw [dg l hl]
          have := s1 l hl
          show _ = (((s l).toNat : Nat) : Int) * _
          rw [Int.toNat_of_nonneg this.1]
  have := cmq_bas hc.z2 hc.ro hX.1 cnd
  rw [e3] at this; exact this
theorem RL_holds : RLE := by
  intro d c hd hc hs h3 hk hz
  have hR := desk_rays hd hc hs (by omega) hk hz
  obtain ⟨e1, e2, -, -⟩ := rays_same hd hc hs (by omega) hk hz
  obtain ⟨-, -, esp⟩ := RY_holds d c hd hc hs (by omega) hk hz
  obtain ⟨-, hB⟩ := hd.k3 h3
  obtain ⟨-, -, h4⟩ := hc.k1 hk
  obtain ⟨-, -, -, h5⟩ := h4 hz
  have hi : ∀ j, j < c.yn → ∀ i, c.zs ≤ i → i < 4 → wr c.yf j i = 0 := fun j hj => ((XW_cn hc.z2).mp (hR.1.2.2.1 j hj).1).2
  have hb := hR.2.2.1
  have elg : d.lg = c.lg := by
    rcases hB with ⟨z1, z2⟩ | ⟨z1, z2, z3, -⟩
    · rw [e1, esp] at z2
      rcases h5 with ⟨w1, -⟩ | ⟨w1, w2, ck0, q0, -, w3⟩
      · omega
      · rcases z2 with z2 | ⟨-, z2⟩
        · omega
        · exact absurd ((lrg_ixd hc.sp hc.z2 hc.z4 w2 hb hi e2).mp z2) w3
    · rw [e1, esp] at z3
      rw [e1] at z2
      rcases h5 with ⟨w1, w2⟩ | ⟨w1, -⟩
      · rcases w2 with w2 | ⟨ck0, q0, -, w2⟩
        · omega
        · exact absurd ((lrg_ixd hc.sp hc.z2 hc.z4 z2 hb hi e2).mpr w2) z3
      · omega
  refine ⟨elg, fun hl hf => ?_⟩
  obtain ⟨b1, -⟩ := desk_bas hd hc hs h3 hk hz (elg.trans hl)
  have b2 := ref_bas hc hR hk hz hl hf
  obtain ⟨u1, u2⟩ := b1.uniq b2
  exact ⟨u1, fun i hi => u2 i (by omega)⟩
