/-! ===== own rows: class and reference, 29 ===== -/
-- the cuts of the class
theorem lowb_v : ∀ m, m < 256 → ¬ m = 0 → ∃ v, v < 8 ∧ lowb m = 2 ^ v ∧ m.testBit v = true ∧ ∀ j, j < v → m.testBit j = false := by decide +kernel
theorem lowb_fst {m : Nat} (h : m < 256) (hz : ¬ m = 0) : ∃ v, v < 8 ∧ lowb m = 2 ^ v ∧ fst1 m v := by
  obtain ⟨v, a, b, c, e⟩ := lowb_v m h hz
  exact ⟨v, a, b, c, fun j hj => by rw [e j hj]; decide⟩
theorem and_pow {m v : Nat} (hm : m < 2 ^ 31) (hv : v < 31) : nI m &&& nI (2 ^ v) = 0 ↔ ¬ m.testBit v = true := by
  rw [nI_and]
  have h1 : m &&& 2 ^ v < 2 ^ 31 := Nat.lt_of_le_of_lt Nat.and_le_left hm
  have e : nI (m &&& 2 ^ v) = 0 ↔ m &&& 2 ^ v = 0 := ⟨fun h => nI_inj h1 (by decide) (show nI (m &&& 2 ^ v) = nI 0 from h), fun h => by rw [h]; rfl⟩
  rw [e]
  constructor
  · intro h b
    have := congrArg (fun x => x.testBit v) h
    simp only [Nat.testBit_and, Nat.zero_testBit, Nat.testBit_two_pow, b] at this
    simp at this
  · intro h
    refine Nat.eq_of_testBit_eq (fun j => ?_)
    rw [Nat.testBit_and, Nat.testBit_two_pow, Nat.zero_testBit]
    by_cases e : v = j
    · subst e; rw [Bool.eq_false_iff.mpr h]; rfl
    · simp [e]
/-- a list of cuts as a tree -/
def TRE (mk dk : Nat → Nat) (fn n : Nat) (f pa : Nat → Nat) : Prop := (0 < n ∧ f 0 = 0) ∧ (∀ j, j < n → f j / 256 < fn) ∧
  (∀ j, 0 < j → j < n → pa j < j ∧ ¬ mk (f (pa j) / 256) = 0 ∧ sdw mk dk (f j / 256) (f (pa j) / 256) (nI (lowb (mk (f (pa j) / 256)))) ∧ f j &&& 255 = (f (pa j) &&& 255) ||| lowb (mk (f (pa j) / 256))) ∧
  (∀ i j, 0 < i → 0 < j → i < n → j < n → pa i = pa j → f i / 256 = f j / 256 → i = j)
/-- sides of a face of rank at most 2 -/
theorem CX.side1 {n N G K K' g v : Nat} {W V : Nat → Nat → Int} (h : CX n W N V) (bG : ∀ j, G.testBit j = true → j < N) (rG : Rk N V G g) (hg : g ≤ 2) (g1 : 1 ≤ g) (fv : fst1 G v) (rK : Rk N V K (g - 1)) (sK : msub K G) (vK : ¬ K.testBit v = true) (rK' : Rk N V K' (g - 1)) (sK' : msub K' G) (vK' : ¬ K'.testBit v = true) : K = K' := by
  rcases (show g = 1 ∨ g = 2 by omega) with rfl | rfl
  · refine bits_eq (N := N) (fun j b => bG j (sK j b)) (fun j b => bG j (sK' j b)) (fun j hj => ⟨fun b => absurd b (rK.zero h hj), fun b => absurd b (rK'.zero h hj)⟩)
  · obtain ⟨u, w, hu, hw, uw, bu, bw, ho⟩ := rG.two h
    have ev : v = u := by
      rcases ho v (bG v fv.1) fv.1 with e | e
      · exact e
      · exact absurd bu (fv.2 u (by omega))
    subst ev
    have one : ∀ K, Rk N V K (2 - 1) → msub K G → ¬ K.testBit v = true → ∀ j, j < N → (K.testBit j = true ↔ j = w) := fun K rK sK vK j hj => by
      obtain ⟨x, hx, bx, hox⟩ := Rk.one h rK
      have ex : x = w := by
        rcases ho x hx (sK x bx) with e | e
        · exact absurd (by rw [← e]; exact bx) vK
        · exact e
      subst ex
      exact ⟨fun b => hox j hj b, fun e => by rw [e]; exact bx⟩
    exact bits_eq (N := N) (fun j b => bG j (sK j b)) (fun j b => bG j (sK' j b)) (fun j hj => (one K rK sK vK j hj).trans (one K' rK' sK' vK' j hj).symm)
/-- what stands of faces and rays, for the cuts -/
def CUTS (d : DC) (c : MC) : Prop := RAYS c d.yf ∧ FACES d c ∧ c.yn ≤ 8 ∧ MJ c ∧ (∀ j, d.dk j < 4096)
theorem CUTS.face {d : DC} {c : MC} (h : CUTS d c) {i : Nat} (hi : i < d.fn) : Cl (xn c.rn c.zs) (XW c.wf c.rn) c.yn (wr c.yf) (d.mk i) ∧ (∀ j, (d.mk i).testBit j = true → j < c.yn) ∧ Rk c.yn (wr c.yf) (d.mk i) (d.dk i) ∧ d.mk i < 256 := by
  obtain ⟨⟨-, -, -, hR, -⟩, ⟨-, hL, -, hD, -⟩, h8, -, -⟩ := h
  obtain ⟨a, b⟩ := hL.2 i hi
  refine ⟨b, a, by rw [hD i hi]; exact hR _, Nat.lt_of_lt_of_le (bits_lt a) ?_⟩
  exact Nat.pow_le_pow_right (n := 2) (i := c.yn) (j := 8) (by decide) h8
theorem CUTS.inj {d : DC} {c : MC} (h : CUTS d c) {i j : Nat} (hi : i < d.fn) (hj : j < d.fn) (e : d.mk i = d.mk j) : i = j := by
  obtain ⟨-, ⟨-, hL, -, -, -⟩, -, -, -⟩ := h
  refine Classical.byContradiction (fun ne => ?_)
  rcases Nat.lt_or_gt_of_ne ne with z | z
  · exact hL.1 i j z hj e
  · exact hL.1 j i z hi e.symm
theorem CUTS.sd {d : DC} {c : MC} (h : CUTS d c) {a b : Nat} (ha : a < d.fn) (hb : b < d.fn) (hz : ¬ d.mk b = 0) : ∃ v, v < 8 ∧ lowb (d.mk b) = 2 ^ v ∧ fst1 (d.mk b) v ∧ 1 ≤ d.dk b ∧ (sdw d.mk d.dk a b (nI (lowb (d.mk b))) ↔ (d.dk a + 1 = d.dk b ∧ msub (d.mk a) (d.mk b) ∧ ¬ (d.mk a).testBit v = true)) := by
  obtain ⟨ca, ba, ra, la⟩ := h.face ha
  obtain ⟨cb, bb, rb, lb⟩ := h.face hb
  obtain ⟨v, v8, ev, fv⟩ := lowb_fst lb hz
  have g1 : 1 ≤ d.dk b := by
    rcases Nat.eq_zero_or_pos (d.dk b) with e | e
    · rw [e] at rb
      exact absurd fv.1 (rb.zero h.1.1 (bb v fv.1))
    · exact e
  have dk9 := h.2.2.2.2
  have d1 := dk9 a
  have d2 := dk9 b
  refine ⟨v, v8, ev, fv, g1, ?_⟩
  unfold sdw
  rw [ev, and_pow (by omega) (by omega), sub_nI (by omega)]
  have e : nI (d.dk a) = nI (d.dk b) - (1 : Int32) ↔ d.dk a + 1 = d.dk b := by
    rw [show (1 : Int32) = nI 1 from rfl, nI_sub g1]
    constructor
    · intro z
      have := nI_inj (show d.dk a < 2 ^ 31 by omega) (show d.dk b - 1 < 2 ^ 31 by omega) z
      omega
    · intro z; rw [show d.dk b - 1 = d.dk a by omega]
  rw [e]
/-- at most 36 cuts, at most nine of them empty -/
theorem CUTS.t36 {d : DC} {c : MC} (h : CUTS d c) {n : Nat} {f pa : Nat → Nat} (t : TRE d.mk d.dk d.fn n f pa) : n ≤ 36 ∧ ∀ (k : Nat) (z : Nat → Nat), (∀ i, i < k → z i < n ∧ d.mk (f (z i) / 256) = 0) → (∀ i j, i < k → j < k → z i = z j → i = j) → k ≤ 9 := by
  obtain ⟨⟨t0, tf0⟩, tf, tp, ti⟩ := t
  obtain ⟨hX, h12, hb, hR, hsp⟩ := h.1
  have hmk0 : d.mk 0 = 2 ^ c.yn - 1 := h.2.1.2.2.2.2
  have face := fun j (hj : j < n) => h.face (tf j hj)
  have ff0 : f 0 / 256 = 0 := by rw [tf0]
  have fn0 : 0 < d.fn := by have := tf 0 t0; rw [ff0] at this; exact this
  have r0 : d.dk 0 = c.sp := by
    have := (h.face fn0).2.2.1
    rw [hmk0] at this
    exact this.uniq hsp
  have al8 : ∀ j, j < n → msub (d.mk (f j / 256)) (2 ^ c.yn - 1) := fun j hj q b => all_bit.mpr ((face j hj).2.1 q b)
  have sub : ∀ j, 0 < j → j < n → pa j < j ∧ pa j < n ∧ ∃ v, fst1 (d.mk (f (pa j) / 256)) v ∧ 1 ≤ d.dk (f (pa j) / 256) ∧ d.dk (f j / 256) + 1 = d.dk (f (pa j) / 256) ∧ msub (d.mk (f j / 256)) (d.mk (f (pa j) / 256)) ∧ ¬ (d.mk (f j / 256)).testBit v = true := fun j h0 hj => by
    obtain ⟨p1, p2, p3, p4⟩ := tp j h0 hj
    have hpn : pa j < n := by omega
    obtain ⟨v, v8, ev, fv, g1, iff⟩ := h.sd (tf j hj) (tf (pa j) hpn) p2
    exact ⟨p1, hpn, v, fv, g1, iff.mp p3⟩
  have lesp : ∀ j, j < n → d.dk (f j / 256) ≤ c.sp := fun j hj => Rk.mono (al8 j hj) (face j hj).2.2.1 hsp
  have root : ∀ j, j < n → d.dk (f j / 256) = c.sp → j = 0 := fun j hj e => by
    refine Classical.byContradiction (fun ne => ?_)
    obtain ⟨p1, hpn, v, fv, g1, e1, -⟩ := sub j (by omega) hj
    have := lesp (pa j) hpn
    omega
  have rk0 : ∀ j, j < n → d.mk (f j / 256) = 0 → d.dk (f j / 256) = 0 := fun j hj e => (face j hj).2.2.1.none (fun q _ b => by rw [e, Nat.zero_testBit] at b; cases b)
  -- sp = 0
  by_cases s0 : c.sp = 0
  · have n1 : n ≤ 1 := by
      refine Classical.byContradiction (fun q => ?_)
      obtain ⟨p1, hpn, v, fv, g1, e1, -⟩ := sub 1 (by omega) (by omega)
      have := lesp (pa 1) hpn
      omega
    refine ⟨by omega, fun k z hz hi => ?_⟩
    refine Classical.byContradiction (fun q => ?_)
    have a := (hz 0 (by omega)).1
    have b := (hz 1 (by omega)).1
    have := hi 0 1 (by omega) (by omega) (by omega)
    omega
  · have hT : ∀ r, r < xn c.rn c.zs → ∀ j, j < c.yn → ((TT (XW c.wf c.rn) (wr c.yf) r c.yn).testBit j = true ↔ dot4 (XW c.wf c.rn r) (wr c.yf j) = 0) := fun r _ j hj => by rw [TT_bit]; exact ⟨fun z => z.2, fun z => ⟨hj, z⟩⟩
    have hTN : ∀ r, r < xn c.rn c.zs → ∀ j, (TT (XW c.wf c.rn) (wr c.yf) r c.yn).testBit j = true → j < c.yn := fun r _ j b => ((TT_bit _ _).mp b).1
    have hd : ∀ r, r < xn c.rn c.zs → ∃ R, Rk c.yn (wr c.yf) (TT (XW c.wf c.rn) (wr c.yf) r c.yn) R := fun r _ => ⟨_, hR _⟩
    have ha : ∀ j, j < c.yn → (2 ^ c.yn - 1).testBit j = true := fun j hj => all_bit.mpr hj
    have hal : ∀ j, (2 ^ c.yn - 1).testBit j = true → j < c.yn := fun j b => all_bit.mp b
    have low : ∀ bs, bs ≤ 2 → ∀ i j, 0 < i → 0 < j → i < n → j < n → pa i = pa j → d.dk (f i / 256) < bs → i = j := fun bs hbs i j hi hj hin hjn hp hlt => by
      obtain ⟨p1, hpn, v, fv, g1, e1, s1, v1⟩ := sub i hi hin
      obtain ⟨p1', hpn', v', fv', g1', e1', s1', v1'⟩ := sub j hj hjn
      rw [← hp] at fv' e1' s1'
      have ev := fv.uniq fv'
      subst ev
      obtain ⟨-, bG, rG, -⟩ := face (pa i) hpn
      have rK := (face i hin).2.2.1
      have rK' := (face j hjn).2.2.1
      have := hX.side1 bG rG (by omega) g1 fv (by rw [show d.dk (f (pa i) / 256) - 1 = d.dk (f i / 256) by omega]; exact rK) s1 v1 (by rw [show d.dk (f (pa i) / 256) - 1 = d.dk (f j / 256) by omega]; exact rK') s1' v1'
      exact ti i j hi hj hin hjn hp (h.inj (tf i hin) (tf j hjn) this)
    -- sides of the whole
    have row : ∀ j, 0 < j → j < n → d.dk (f j / 256) + 1 = c.sp → ∃ r, r < 8 ∧ r < xn c.rn c.zs ∧ ∀ q, q < c.yn → ((d.mk (f j / 256)).testBit q = true ↔ dot4 (XW c.wf c.rn r) (wr c.yf q) = 0) := fun j h0 hj e => by
      obtain ⟨cj, bj, rj, -⟩ := face j hj
      obtain ⟨r, hr, hx⟩ := Cl.side (dm := fun _ => 0) hT hTN hd ha bj cj rj (by rw [e]; exact hsp)
      refine ⟨r, ?_, hr, hx⟩
      by_cases z : r < c.rn
      · have := h.2.2.2.1.r8; omega
      · exfalso
        obtain ⟨q, hq, -, nb⟩ := rj.notall hsp hal (by omega)
        have h2 := h.2.2.2.1.z2
        exact nb ((hx q hq).mpr (XW_hi h2 hr (by omega) ((XW_cn h2).mp (hX.2.2.1 q hq).1).2))
    have par0 : ∀ j, 0 < j → j < n → d.dk (f j / 256) + 1 = c.sp → pa j = 0 := fun j h0 hj e => by
      obtain ⟨p1, hpn, v, fv, g1, e1, -⟩ := sub j h0 hj
      exact root _ hpn (by omega)
    have same : ∀ i j, 0 < i → 0 < j → i < n → j < n → pa i = pa j → d.mk (f i / 256) = d.mk (f j / 256) → i = j := fun i j hi hj hin hjn hp e => ti i j hi hj hin hjn hp (h.inj (tf i hin) (tf j hjn) e)
    have rowown : ∀ r i j, 0 < i → 0 < j → i < n → j < n → d.dk (f i / 256) + 1 = c.sp → d.dk (f j / 256) + 1 = c.sp → (∀ q, q < c.yn → ((d.mk (f i / 256)).testBit q = true ↔ dot4 (XW c.wf c.rn r) (wr c.yf q) = 0)) → (∀ q, q < c.yn → ((d.mk (f j / 256)).testBit q = true ↔ dot4 (XW c.wf c.rn r) (wr c.yf q) = 0)) → i = j := fun r i j hi hj hin hjn ei ej a b =>
      same i j hi hj hin hjn ((par0 i hi hin ei).trans (par0 j hj hjn ej).symm) (bits_eq (N := c.yn) (face i hin).2.1 (face j hjn).2.1 (fun q hq => (a q hq).trans (b q hq).symm))
    have hpa : ∀ j, 0 < j → j < n → pa j < j ∧ d.dk (f j / 256) + 1 = d.dk (f (pa j) / 256) := fun j h0 hj => by
      obtain ⟨p1, hpn, v, fv, g1, e1, -⟩ := sub j h0 hj
      exact ⟨p1, e1⟩
    by_cases s4 : c.sp = 4
    · have z4 := h.1.z4 h.2.2.2.1.z2 h.2.2.2.1.z4 s4
      have en : xn c.rn c.zs = c.rn := by unfold xn; omega
      have hsp4 := hsp
      rw [s4] at hsp4
      have N2 : 2 ≤ c.yn := by
        refine Classical.byContradiction (fun q => ?_)
        have := hsp4.single (u := 0) (fun j hj _ => by omega)
        omega
      obtain ⟨F, P, sw⟩ := sweep hX N2 (fun k hk i hi => by rw [en] at hk; rw [XW_lo hk]; exact wr_5 h.2.2.2.1.ro hk i hi) (fun j hj i hi => Nat.le_trans (hb j hj i hi) (by decide))
      obtain ⟨x1, x2, x3, l1, l2, l3, d1, d2, d3, X1, X2, X3⟩ := three hX (fun m _ => ⟨_, hR m⟩) hT hTN ha hal hsp4 sw
      have h8 := h.2.2.1
      have fst0 : fst1 (2 ^ c.yn - 1) 0 := ⟨ha 0 (by omega), fun j hj => absurd hj (by omega)⟩
      have := tree (n := n) (sp := 4) (bs := 2) (pa := pa) (rk := fun j => d.dk (f j / 256)) (K1 := fun s j => d.dk (f j / 256) + 1 = c.sp ∧ ∀ q, q < c.yn → ((d.mk (f j / 256)).testBit q = true ↔ dot4 (XW c.wf c.rn s) (wr c.yf q) = 0)) (K2 := fun s j => d.dk (f j / 256) = 2 ∧ TP (xn c.rn c.zs) (XW c.wf c.rn) c.yn (wr c.yf) F P s (d.mk (f (pa j) / 256)) (d.mk (f j / 256))) (x1 := x1) (x2 := x2) (x3 := x3) (by decide) (by decide) (by show d.dk (f 0 / 256) = 4; rw [ff0, r0, s4]) hpa (fun i j => low 2 (by decide) i j)
        (fun j h0 hj hlt => by
          have := lesp j hj
          have : ¬ d.dk (f j / 256) = c.sp := fun e => by have := root j hj e; omega
          have hlt : 2 < d.dk (f j / 256) := hlt
          obtain ⟨r, r8, -, hr⟩ := row j h0 hj (by omega)
          exact ⟨r, r8, by omega, hr⟩)
        (fun s i j hi hj hin hjn a b => rowown s i j hi hj hin hjn a.1 b.1 a.2 b.2)
        (fun j h0 hj e => by
          have e : d.dk (f j / 256) = 2 := e
          obtain ⟨p1, hpn, v, fv, g1, e1, s1, v1⟩ := sub j h0 hj
          obtain ⟨cB, bB, rB, -⟩ := face (pa j) hpn
          obtain ⟨cE, bE, rE, -⟩ := face j hj
          obtain ⟨s, hs, tps⟩ := TP.ex hX hT hTN hd ha hal hsp4 sw cB bB (by rw [show 3 = d.dk (f (pa j) / 256) by omega]; exact rB) fv cE bE (by rw [e] at rE; exact rE) s1 v1
          exact ⟨s, by omega, e, tps⟩)
        (fun s i j hi hj hin hjn a b => by
          obtain ⟨eB, eE⟩ := TP.own hX hsp4 a.2 b.2
          obtain ⟨p1, hpn, v, fv, g1, e1, -⟩ := sub i hi hin
          obtain ⟨p1', hpn', v', fv', g1', e1', -⟩ := sub j hj hjn
          have hi3 : d.dk (f (pa i) / 256) + 1 = c.sp := by have := a.1; omega
          have hj3 : d.dk (f (pa j) / 256) + 1 = c.sp := by have := b.1; omega
          have pi0 : 0 < pa i := by
            rcases Nat.eq_zero_or_pos (pa i) with q | q
            · rw [q, ff0, r0] at hi3; omega
            · exact q
          have pj0 : 0 < pa j := by
            rcases Nat.eq_zero_or_pos (pa j) with q | q
            · rw [q, ff0, r0] at hj3; omega
            · exact q
          exact same i j hi hj hin hjn (same _ _ pi0 pj0 hpn hpn' ((par0 _ pi0 hpn hi3).trans (par0 _ pj0 hpn' hj3).symm) eB) eE)
        (by omega) (by omega) (by omega) d1 d2 d3
        (fun j s h0 hj a => by
          obtain ⟨p1, hpn, v, fv, g1, e1, -⟩ := sub j h0 hj
          have hj3 : d.dk (f (pa j) / 256) + 1 = c.sp := by have := a.1; omega
          have pj0 : 0 < pa j := by
            rcases Nat.eq_zero_or_pos (pa j) with q | q
            · rw [q, ff0, r0] at hj3; omega
            · exact q
          have nb : ¬ (d.mk (f (pa j) / 256)).testBit 0 = true := by
            obtain ⟨q1, qpn, w, fw, gw, ew, sw2, vw⟩ := sub (pa j) pj0 hpn
            rw [par0 _ pj0 hpn hj3, ff0, hmk0] at fw
            rw [fw.uniq fst0] at vw
            exact vw
          refine ⟨fun e => ?_, fun e => ?_, fun e => ?_⟩
          · subst e; exact nb (X1.not hX hsp4 a.2 (by omega))
          · subst e; exact nb (X2.not hX hsp4 a.2 (by omega))
          · subst e; exact nb (X3.not hX hsp4 a.2 (by omega)))
      exact ⟨this.1, fun k z hz hi => this.2 k z (fun i hik => ⟨(hz i hik).1, rk0 _ (hz i hik).1 (hz i hik).2⟩) hi⟩
    · have s3 : c.sp ≤ 3 := by have := hsp.le4; omega
      have := tree (n := n) (sp := c.sp) (bs := c.sp - 1) (pa := pa) (rk := fun j => d.dk (f j / 256)) (K1 := fun _ _ => False) (K2 := fun s j => s < 8 ∧ d.dk (f j / 256) + 1 = c.sp ∧ ∀ q, q < c.yn → ((d.mk (f j / 256)).testBit q = true ↔ dot4 (XW c.wf c.rn s) (wr c.yf q) = 0)) (x1 := 8) (x2 := 9) (x3 := 10) (by omega) (by omega) (by show d.dk (f 0 / 256) = c.sp; rw [ff0, r0]) hpa (fun i j => low (c.sp - 1) (by omega) i j)
        (fun j h0 hj hlt => by
          exfalso
          have hlt : c.sp - 1 < d.dk (f j / 256) := hlt
          have := lesp j hj
          have := root j hj (by omega)
          omega)
        (fun s i j _ _ _ _ a _ => a.elim)
        (fun j h0 hj e => by
          have e : d.dk (f j / 256) = c.sp - 1 := e
          obtain ⟨r, r8, -, hr⟩ := row j h0 hj (by omega)
          exact ⟨r, by omega, r8, by omega, hr⟩)
        (fun s i j hi hj hin hjn a b => rowown s i j hi hj hin hjn a.2.1 b.2.1 a.2.2 b.2.2)
        (by decide) (by decide) (by decide) (by decide) (by decide) (by decide)
        (fun j s h0 hj a => by have := a.1; omega)
      exact ⟨this.1, fun k z hz hi => this.2 k z (fun i hik => ⟨(hz i hik).1, rk0 _ (hz i hik).1 (hz i hik).2⟩) hi⟩
