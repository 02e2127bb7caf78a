/-! ===== own rows, laid by wip/tools/g44.py: the whole world of the reference ===== -/
def rowsOK (wf : Nat → Int32) (rn zs : Nat) : Prop := ∀ r i, r < rn → i < 4 → -5 ≤ (wf (4 * r + i)).toInt ∧ (wf (4 * r + i)).toInt ≤ 5 ∧ (zs ≤ i → wf (4 * r + i) = 0)
/-- the sum of the heights of a point -/
def hts (wf g : Nat → Int32) (a : Nat) : Nat → Nat
  | 0 => 0
  | r + 1 => hts wf g a r + (prm wf r g a).toInt.toNat
def pok (wf : Nat → Int32) (rn pt : Nat) (pf : Nat → Int32) : Prop := ∀ k, k < pt → (∀ i, i < 4 → (pf (4 * k + i)).toInt.natAbs ≤ 20000) ∧ (∀ r, r < rn → ¬ prm wf r pf (4 * k) < 0) ∧ 0 < hts wf pf (4 * k) rn
/-- what the mathematics has to say -/
def MTH : Prop := (∀ wf rn zs q0, 2 ≤ zs → zs ≤ 4 → rn ≤ 8 → rowsOK wf rn zs → zs ≤ (rkf rn (sqr wf (4 * rn) q0) 4).1 → one1 wf rn zs) ∧
  (∀ wf rn zs rk yn yf tf sp lg, 2 ≤ zs → zs ≤ 4 → rn ≤ 8 → rowsOK wf rn zs → KMr wf rn zs rk yn yf tf sp lg → zs ≤ rk → lg = 0 → bxh yf yn sp zs) ∧
  (∀ wf rn zs rk yn yf tf sp lg pt pf, 2 ≤ zs → zs ≤ 4 → rn ≤ 8 → rowsOK wf rn zs → KMr wf rn zs rk yn yf tf sp lg → zs ≤ rk → lg = 0 → KMp wf rn zs yn yf sp pt pf → pok wf rn pt pf)
abbrev MA : Type := Nat → Nat
def MA.m0 (a : MA) : Nat := a 0
def MA.rw (a : MA) : Nat := a 1
def MA.ry (a : MA) : Nat := a 2
def MA.ti (a : MA) : Nat := a 3
def MA.po (a : MA) : Nat := a 4
def MA.su (a : MA) : Nat := a 5
def MA.sq (a : MA) : Nat := a 6
def MA.ch (a : MA) : Nat := a 7
def MA.vt (a : MA) : Nat := a 8
def MA.sh (a : MA) : Nat := a 9
abbrev MC : Type := (((((Int32 × Nat) × Nat) × (Nat × Nat)) × (((Nat × Nat) × Nat) × (Nat × Nat))) × (((((Nat → Int32) × (Nat → Int32)) × (Nat → Int32)) × ((Nat → Int32) × (Nat → Int32))) × (((Nat → Int64) × (Nat → Nat)) × ((Nat → Int32) × (Nat → Nat)))))
def MC.th (d : MC) : Int32 := d.1.1.1.1.1
def MC.zs (d : MC) : Nat := d.1.1.1.1.2
def MC.rn (d : MC) : Nat := d.1.1.1.2
def MC.kn (d : MC) : Nat := d.1.1.2.1
def MC.rk (d : MC) : Nat := d.1.1.2.2
def MC.yn (d : MC) : Nat := d.1.2.1.1.1
def MC.sp (d : MC) : Nat := d.1.2.1.1.2
def MC.lg (d : MC) : Nat := d.1.2.1.2
def MC.fo (d : MC) : Nat := d.1.2.2.1
def MC.pt (d : MC) : Nat := d.1.2.2.2
def MC.wf (d : MC) : Nat → Int32 := d.2.1.1.1.1
def MC.yf (d : MC) : Nat → Int32 := d.2.1.1.1.2
def MC.tf (d : MC) : Nat → Int32 := d.2.1.1.2
def MC.pf (d : MC) : Nat → Int32 := d.2.1.2.1
def MC.sf (d : MC) : Nat → Int32 := d.2.1.2.2
def MC.qf (d : MC) : Nat → Int64 := d.2.2.1.1
def MC.ck (d : MC) : Nat → Nat := d.2.2.1.2
def MC.vf (d : MC) : Nat → Int32 := d.2.2.2.1
def MC.sk (d : MC) : Nat → Nat := d.2.2.2.2
def MCmk (th : Int32) (zs : Nat) (rn : Nat) (kn : Nat) (rk : Nat) (yn : Nat) (sp : Nat) (lg : Nat) (fo : Nat) (pt : Nat) (wf : Nat → Int32) (yf : Nat → Int32) (tf : Nat → Int32) (pf : Nat → Int32) (sf : Nat → Int32) (qf : Nat → Int64) (ck : Nat → Nat) (vf : Nat → Int32) (sk : Nat → Nat) : MC := (((((th, zs), rn), (kn, rk)), (((yn, sp), lg), (fo, pt))), ((((wf, yf), tf), (pf, sf)), ((qf, ck), (vf, sk))))
def MJ (cm : MC) : Prop := (2 ≤ cm.zs) ∧ (cm.zs ≤ 4) ∧ (cm.rn ≤ 8) ∧ (cm.kn ≤ 1) ∧ (cm.rk ≤ 4) ∧ (cm.yn ≤ 56) ∧ (cm.sp ≤ 4) ∧ (cm.lg ≤ 1) ∧ (cm.fo ≤ 1) ∧ (cm.pt ≤ 1000) ∧ (∀ j, cm.ck j < 8) ∧ (∀ j, cm.sk j < 12) ∧ (rowsOK cm.wf cm.rn cm.zs) ∧ (cm.kn = 1 → KMr cm.wf cm.rn cm.zs cm.rk cm.yn cm.yf cm.tf cm.sp cm.lg) ∧ (cm.kn = 1 → cm.zs ≤ cm.rk → cm.lg = 0 → cm.fo = 1 → KMp cm.wf cm.rn cm.zs cm.yn cm.yf cm.sp cm.pt cm.pf)
theorem MJ.z2 {cm : MC} (h : MJ cm) : 2 ≤ cm.zs := h.1
theorem MJ.z4 {cm : MC} (h : MJ cm) : cm.zs ≤ 4 := h.2.1
theorem MJ.r8 {cm : MC} (h : MJ cm) : cm.rn ≤ 8 := h.2.2.1
theorem MJ.kn {cm : MC} (h : MJ cm) : cm.kn ≤ 1 := h.2.2.2.1
theorem MJ.rk {cm : MC} (h : MJ cm) : cm.rk ≤ 4 := h.2.2.2.2.1
theorem MJ.yn {cm : MC} (h : MJ cm) : cm.yn ≤ 56 := h.2.2.2.2.2.1
theorem MJ.sp {cm : MC} (h : MJ cm) : cm.sp ≤ 4 := h.2.2.2.2.2.2.1
theorem MJ.lg {cm : MC} (h : MJ cm) : cm.lg ≤ 1 := h.2.2.2.2.2.2.2.1
theorem MJ.fo {cm : MC} (h : MJ cm) : cm.fo ≤ 1 := h.2.2.2.2.2.2.2.2.1
theorem MJ.pt {cm : MC} (h : MJ cm) : cm.pt ≤ 1000 := h.2.2.2.2.2.2.2.2.2.1
theorem MJ.ck {cm : MC} (h : MJ cm) : ∀ j, cm.ck j < 8 := h.2.2.2.2.2.2.2.2.2.2.1
theorem MJ.sk {cm : MC} (h : MJ cm) : ∀ j, cm.sk j < 12 := h.2.2.2.2.2.2.2.2.2.2.2.1
theorem MJ.ro {cm : MC} (h : MJ cm) : rowsOK cm.wf cm.rn cm.zs := h.2.2.2.2.2.2.2.2.2.2.2.2.1
theorem MJ.k1 {cm : MC} (h : MJ cm) : cm.kn = 1 → KMr cm.wf cm.rn cm.zs cm.rk cm.yn cm.yf cm.tf cm.sp cm.lg := h.2.2.2.2.2.2.2.2.2.2.2.2.2.1
theorem MJ.k2 {cm : MC} (h : MJ cm) : cm.kn = 1 → cm.zs ≤ cm.rk → cm.lg = 0 → cm.fo = 1 → KMp cm.wf cm.rn cm.zs cm.yn cm.yf cm.sp cm.pt cm.pf := h.2.2.2.2.2.2.2.2.2.2.2.2.2.2
/-- the same rows -/
def MS (c e : MC) : Prop := e.zs = c.zs ∧ e.rn = c.rn ∧ e.wf = c.wf
theorem MS.rf (c : MC) : MS c c := ⟨rfl, rfl, rfl⟩
theorem MS.tr {a b c : MC} (h : MS a b) (h2 : MS b c) : MS a c := ⟨h2.1.trans h.1, h2.2.1.trans h.2.1, h2.2.2.trans h.2.2⟩
set_option maxHeartbeats 4000000 in
set_option maxRecDepth 100000 in
theorem c_M_pointed1 {l : Launch} {s0 : State} {b0 : Addr} {D : va_G} {cI cJ cZ : ClassId} {tC tS : Nat} (E : gE l s0 b0 D cI cJ cZ tC tS) (sz : Nat) (am : MA) (cm : MC) (hT9 : MTH) (hJ : MJ cm) : cx_M l s0 D kl y_M_pointed b_M_pointed 2 (some .boolean) ({ frames := 5, cells := 0, slots := 0, locals := 132 } : Room) 0 0 [.ref am.m0, .int (1 : Int32)] [(am.m0, .inr (7, [.int cm.th, .int (nI cm.zs), .int (nI cm.rn), .ref am.rw, .int (nI cm.kn), .int (nI cm.rk), .int (nI cm.yn), .ref am.ry, .int (nI cm.sp), .int (nI cm.lg), .ref am.ti, .int (nI cm.fo), .int (nI cm.pt), .ref am.po, .ref am.su, .ref am.sq, .ref am.ch, .ref am.vt, .ref am.sh])), (am.rw, .inl (cI, 32, .inl cm.wf)), (am.ry, .inl (cI, 256, .inl cm.yf)), (am.ti, .inl (cI, 8, .inl cm.tf)), (am.po, .inl (cI, 4000, .inl cm.pf)), (am.su, .inl (cZ, 1000, .inl cm.sf)), (am.sq, .inl (cJ, 256, .inr (.inl cm.qf))), (am.ch, .inl (cI, 8, .inl (nf cm.ck))), (am.vt, .inl (cI, 4, .inl cm.vf)), (am.sh, .inl (cI, 4, .inl (nf cm.sk)))] sz (fun o9 t9 w9 => (∃ (c9 : MC), o9 = .returned (some (.int (1 : Int32))) ∧ MJ c9 ∧ MS cm c9 ∧ c9.kn = 1 ∧ c9.zs ≤ c9.rk ∧ c9.th = 0 ∧ w9 = [(am.m0, .inr (7, [.int c9.th, .int (nI c9.zs), .int (nI c9.rn), .ref am.rw, .int (nI c9.kn), .int (nI c9.rk), .int (nI c9.yn), .ref am.ry, .int (nI c9.sp), .int (nI c9.lg), .ref am.ti, .int (nI c9.fo), .int (nI c9.pt), .ref am.po, .ref am.su, .ref am.sq, .ref am.ch, .ref am.vt, .ref am.sh])), (am.rw, .inl (cI, 32, .inl c9.wf)), (am.ry, .inl (cI, 256, .inl c9.yf)), (am.ti, .inl (cI, 8, .inl c9.tf)), (am.po, .inl (cI, 4000, .inl c9.pf)), (am.su, .inl (cZ, 1000, .inl c9.sf)), (am.sq, .inl (cJ, 256, .inr (.inl c9.qf))), (am.ch, .inl (cI, 8, .inl (nf c9.ck))), (am.vt, .inl (cI, 4, .inl c9.vf)), (am.sh, .inl (cI, 4, .inl (nf c9.sk)))]) ∨ (∃ (c9 : MC), o9 = .returned (some (.int (0 : Int32))) ∧ MJ c9 ∧ MS cm c9 ∧ c9.kn = 1 ∧ c9.rk < c9.zs ∧ c9.th = 1 ∧ w9 = [(am.m0, .inr (7, [.int c9.th, .int (nI c9.zs), .int (nI c9.rn), .ref am.rw, .int (nI c9.kn), .int (nI c9.rk), .int (nI c9.yn), .ref am.ry, .int (nI c9.sp), .int (nI c9.lg), .ref am.ti, .int (nI c9.fo), .int (nI c9.pt), .ref am.po, .ref am.su, .ref am.sq, .ref am.ch, .ref am.vt, .ref am.sh])), (am.rw, .inl (cI, 32, .inl c9.wf)), (am.ry, .inl (cI, 256, .inl c9.yf)), (am.ti, .inl (cI, 8, .inl c9.tf)), (am.po, .inl (cI, 4000, .inl c9.pf)), (am.su, .inl (cZ, 1000, .inl c9.sf)), (am.sq, .inl (cJ, 256, .inr (.inl c9.qf))), (am.ch, .inl (cI, 8, .inl (nf c9.ck))), (am.vt, .inl (cI, 4, .inl c9.vf)), (am.sh, .inl (cI, 4, .inl (nf c9.sk)))])) := by
  refine tx_ofW (cc := b_M_pointed) (maxL := 2) (ret := (some .boolean)) (by decide) rfl ?_
  intro p e s m args below meth c s₁ B hml hT hv
  obtain ⟨rfl, hsz, hP, hD0, hx0⟩ := hv
  have hx := B.exec
  have hb := B.bytes
  have hr := B.returns
  have G := E.2.1
  have hown : s.vm.findClass cn_M = some m.cls := findClass_of_methodNamed B.named
  have hlocks := B.notSynchronized
  have hK := va_K.moved hx0.1.alike E.2.2.1
  have hf_M : ∀ w99 ∈ u_ws cn_M ft_M 19, w99.before ([.ref am.m0, .int (1 : Int32)] : List Value).toArray s = true := fun w99 h99 => gw.at G hx0 (fw_M w99 h99) (fo_M w99 h99) _
  subst hsz
  have hA0 := cx_new hD0 hx0.2.1
  have hD := hD0.self (sz := s.heap.size)
  generalize hAe : va_A [(am.m0, .inr (7, [.int cm.th, .int (nI cm.zs), .int (nI cm.rn), .ref am.rw, .int (nI cm.kn), .int (nI cm.rk), .int (nI cm.yn), .ref am.ry, .int (nI cm.sp), .int (nI cm.lg), .ref am.ti, .int (nI cm.fo), .int (nI cm.pt), .ref am.po, .ref am.su, .ref am.sq, .ref am.ch, .ref am.vt, .ref am.sh])), (am.rw, .inl (cI, 32, .inl cm.wf)), (am.ry, .inl (cI, 256, .inl cm.yf)), (am.ti, .inl (cI, 8, .inl cm.tf)), (am.po, .inl (cI, 4000, .inl cm.pf)), (am.su, .inl (cZ, 1000, .inl cm.sf)), (am.sq, .inl (cJ, 256, .inr (.inl cm.qf))), (am.ch, .inl (cI, 8, .inl (nf cm.ck))), (am.vt, .inl (cI, 4, .inl cm.vf)), (am.sh, .inl (cI, 4, .inl (nf cm.sk)))] s.heap.size = A at hD hA0 ⊢
  have hA : ∀ q : Nat, s.heap.size ≤ q → A q := fun q h => by rw [← hAe]; exact Or.inr h
  have hS : va_S A s.heap s.heap [] := va_S.rf
  have hl := lv_entry ([.ref am.m0, .int (1 : Int32)]) (n := 2) (Nat.le_of_ble_eq_true rfl)
  rw [lg_entry_eq]
  generalize (lg_sl ([.ref am.m0, .int (1 : Int32)]) ++ List.replicate (2 - (lg_sl ([.ref am.m0, .int (1 : Int32)])).length) Slot.unset).toArray = ls at hl ⊢
  have hl : lv_has ls 2 [(0, .ref am.m0), (1, .int (1 : Int32))] := hl
  have hP : va_P D kl [(am.m0, .inr (7, [.int cm.th, .int (nI cm.zs), .int (nI cm.rn), .ref am.rw, .int (nI cm.kn), .int (nI cm.rk), .int (nI cm.yn), .ref am.ry, .int (nI cm.sp), .int (nI cm.lg), .ref am.ti, .int (nI cm.fo), .int (nI cm.pt), .ref am.po, .ref am.su, .ref am.sq, .ref am.ch, .ref am.vt, .ref am.sh])), (am.rw, .inl (cI, 32, .inl cm.wf)), (am.ry, .inl (cI, 256, .inl cm.yf)), (am.ti, .inl (cI, 8, .inl cm.tf)), (am.po, .inl (cI, 4000, .inl cm.pf)), (am.su, .inl (cZ, 1000, .inl cm.sf)), (am.sq, .inl (cJ, 256, .inr (.inl cm.qf))), (am.ch, .inl (cI, 8, .inl (nf cm.ck))), (am.vt, .inl (cI, 4, .inl cm.vf)), (am.sh, .inl (cI, 4, .inl (nf cm.sk)))] s.heap := hP
  have hml : c.maxLocals = 2 := hml
  have hz2 := hJ.z2
  have hz4 := hJ.z4
  have hr8 := hJ.r8
  have hkn := hJ.kn
  have hrk := hJ.rk
  have hyn := hJ.yn
  have hsp := hJ.sp
  have hlg := hJ.lg
  have hfo := hJ.fo
  have hpt := hJ.pt
  have hck := hJ.ck
  have hsk := hJ.sk
  have hro := hJ.ro
  refine lv_aload_n hx hb d_M_pointed_0 rfl (lv_at hl 0 rfl) ?_
  by_cases h_1 : cm.kn = 0
  · refine cx_call (D := D) (cl := kl) (ws := _) (wc := [(am.m0, .inr (7, [.int cm.th, .int (nI cm.zs), .int (nI cm.rn), .ref am.rw, .int (nI cm.kn), .int (nI cm.rk), .int (nI cm.yn), .ref am.ry, .int (nI cm.sp), .int (nI cm.lg), .ref am.ti, .int (nI cm.fo), .int (nI cm.pt), .ref am.po, .ref am.su, .ref am.sq, .ref am.ch, .ref am.vt, .ref am.sh])), (am.rw, .inl (cI, 32, .inl cm.wf)), (am.ry, .inl (cI, 256, .inl cm.yf)), (am.ti, .inl (cI, 8, .inl cm.tf)), (am.vt, .inl (cI, 4, .inl cm.vf)), (am.sq, .inl (cJ, 256, .inr (.inl cm.qf))), (am.ch, .inl (cI, 8, .inl (nf cm.ck)))]) (wr := [(am.po, .inl (cI, 4000, .inl cm.pf)), (am.su, .inl (cZ, 1000, .inl cm.sf)), (am.sh, .inl (cI, 4, .inl (nf cm.sk)))]) (tx_runV (C := cn_M) (b := am.m0) (As := []) (rest := []) hx hb hml hown (c_M_know_u E s.heap.size am.m0 am.rw am.ry am.ti am.po am.su am.sq am.ch am.vt am.sh cm.th (nI cm.rk) (nI cm.yn) (nI cm.sp) (nI cm.lg) (nI cm.fo) (nI cm.pt) cm.zs cm.rn cm.kn cm.wf cm.yf cm.tf cm.vf cm.qf cm.ck h_1 hz2 hz4 hr8 hck (fun q0 hq => hT9.1 _ _ _ q0 hz2 hz4 hr8 hro hq)) (cx_C (b0 := b0) G hx0 mw_806 mw_9 ny_M_know (by decide)) (gw.at G hx0 mw_803 rfl _) (gw.at G hx0 mw_805 rfl _) (gw.at G hx0 ms_M_know rfl _) ⟨cx_blind, va_recv hK hP (q0 := 0) (ci := 7) (q := (cn_M, ft_M, 19)) rfl rfl, (cx_pre (s := s) hx0 hP hD hS hA0 [0, 1, 2, 3, 8, 6, 7] rfl rfl (by decide))⟩ rfl rfl hl.1 rfl (lv_room (Nat.le_of_ble_eq_true rfl)) d_M_pointed_1 ⟨by decide, by decide⟩) hP hD hS hA [0, 1, 2, 3, 8, 6, 7] [4, 5, 9] rfl rfl (by decide) (by decide) (fun v t w1 H locs ht hW9 hp hP hD hS => ?_) (fun x t w1 H locs ht hW9 hp hP hD hS => by obtain ⟨_, _, _, _, _, _, _, _, _, h9, -⟩ := hp; cases h9)
    obtain ⟨rk9_2, yn9_3, sp9_4, lg9_5, yf9_6, tf9_7, vf9_8, q9_9, c9_10, h9, f_11, f_12, f_13, f_14, f_15, f_16, rfl⟩ := hp
    cases h9
    refine W.eq (g2 := F0 m 4 ls []) rfl ?_
    refine W.widen (k := 0) (n := 0) (by decide) (by decide) ?_
    have hP : va_P D kl [(am.po, .inl (cI, 4000, .inl cm.pf)), (am.su, .inl (cZ, 1000, .inl cm.sf)), (am.sh, .inl (cI, 4, .inl (nf cm.sk))), (am.m0, .inr (7, [.int cm.th, .int (nI cm.zs), .int (nI cm.rn), .ref am.rw, .int (1 : Int32), .int (nI rk9_2), .int (nI yn9_3), .ref am.ry, .int (nI sp9_4), .int (nI lg9_5), .ref am.ti, .int (0 : Int32), .int (nI cm.pt), .ref am.po, .ref am.su, .ref am.sq, .ref am.ch, .ref am.vt, .ref am.sh])), (am.rw, .inl (cI, 32, .inl cm.wf)), (am.ry, .inl (cI, 256, .inl yf9_6)), (am.ti, .inl (cI, 8, .inl tf9_7)), (am.vt, .inl (cI, 4, .inl vf9_8)), (am.sq, .inl (cJ, 256, .inr (.inl q9_9))), (am.ch, .inl (cI, 8, .inl (nf c9_10)))] H := hP
    have hD : va_D A [(am.po, .inl (cI, 4000, .inl cm.pf)), (am.su, .inl (cZ, 1000, .inl cm.sf)), (am.sh, .inl (cI, 4, .inl (nf cm.sk))), (am.m0, .inr (7, [.int cm.th, .int (nI cm.zs), .int (nI cm.rn), .ref am.rw, .int (1 : Int32), .int (nI rk9_2), .int (nI yn9_3), .ref am.ry, .int (nI sp9_4), .int (nI lg9_5), .ref am.ti, .int (0 : Int32), .int (nI cm.pt), .ref am.po, .ref am.su, .ref am.sq, .ref am.ch, .ref am.vt, .ref am.sh])), (am.rw, .inl (cI, 32, .inl cm.wf)), (am.ry, .inl (cI, 256, .inl yf9_6)), (am.ti, .inl (cI, 8, .inl tf9_7)), (am.vt, .inl (cI, 4, .inl vf9_8)), (am.sq, .inl (cJ, 256, .inr (.inl q9_9))), (am.ch, .inl (cI, 8, .inl (nf c9_10)))] := hD
    obtain ⟨c_17, hc_17⟩ : ∃ x99 : MC, x99 = (MCmk cm.th cm.zs cm.rn 1 rk9_2 yn9_3 sp9_4 lg9_5 0 cm.pt cm.wf yf9_6 tf9_7 cm.pf cm.sf q9_9 c9_10 vf9_8 cm.sk) := ⟨_, rfl⟩
    have hP : va_P D kl [(am.po, .inl (cI, 4000, .inl c_17.pf)), (am.su, .inl (cZ, 1000, .inl c_17.sf)), (am.sh, .inl (cI, 4, .inl (nf c_17.sk))), (am.m0, .inr (7, [.int c_17.th, .int (nI c_17.zs), .int (nI c_17.rn), .ref am.rw, .int (nI c_17.kn), .int (nI c_17.rk), .int (nI c_17.yn), .ref am.ry, .int (nI c_17.sp), .int (nI c_17.lg), .ref am.ti, .int (nI c_17.fo), .int (nI c_17.pt), .ref am.po, .ref am.su, .ref am.sq, .ref am.ch, .ref am.vt, .ref am.sh])), (am.rw, .inl (cI, 32, .inl c_17.wf)), (am.ry, .inl (cI, 256, .inl c_17.yf)), (am.ti, .inl (cI, 8, .inl c_17.tf)), (am.vt, .inl (cI, 4, .inl c_17.vf)), (am.sq, .inl (cJ, 256, .inr (.inl c_17.qf))), (am.ch, .inl (cI, 8, .inl (nf c_17.ck)))] H := by subst hc_17; exact hP
    have hD : va_D A [(am.po, .inl (cI, 4000, .inl c_17.pf)), (am.su, .inl (cZ, 1000, .inl c_17.sf)), (am.sh, .inl (cI, 4, .inl (nf c_17.sk))), (am.m0, .inr (7, [.int c_17.th, .int (nI c_17.zs), .int (nI c_17.rn), .ref am.rw, .int (nI c_17.kn), .int (nI c_17.rk), .int (nI c_17.yn), .ref am.ry, .int (nI c_17.sp), .int (nI c_17.lg), .ref am.ti, .int (nI c_17.fo), .int (nI c_17.pt), .ref am.po, .ref am.su, .ref am.sq, .ref am.ch, .ref am.vt, .ref am.sh])), (am.rw, .inl (cI, 32, .inl c_17.wf)), (am.ry, .inl (cI, 256, .inl c_17.yf)), (am.ti, .inl (cI, 8, .inl c_17.tf)), (am.vt, .inl (cI, 4, .inl c_17.vf)), (am.sq, .inl (cJ, 256, .inr (.inl c_17.qf))), (am.ch, .inl (cI, 8, .inl (nf c_17.ck)))] := by subst hc_17; exact hD
    have hJ1 : MJ c_17 := by subst hc_17; exact ⟨hz2, hz4, hr8, Nat.le_refl 1, f_12, f_13, f_14, f_15, Nat.zero_le _, hpt, f_16, hsk, hro, fun _ => f_11, fun _ _ _ z9 => absurd (show 0 = 1 from z9) (by decide)⟩
    have hk1 : c_17.kn = 1 := by subst hc_17; exact rfl
    have hS1 : MS cm c_17 := by subst hc_17; exact ⟨rfl, rfl, rfl⟩
    have ht1 : c_17.th = cm.th := by subst hc_17; exact rfl
    have hz2 := hJ1.z2
    have hz4 := hJ1.z4
    have hr8 := hJ1.r8
    have hkn := hJ1.kn
    have hrk := hJ1.rk
    have hyn := hJ1.yn
    have hsp := hJ1.sp
    have hlg := hJ1.lg
    have hfo := hJ1.fo
    have hpt := hJ1.pt
    have hck := hJ1.ck
    have hsk := hJ1.sk
    have hro := hJ1.ro
    refine lv_aload_n hx hb d_M_pointed_4 rfl (lv_at hl 0 rfl) ?_
    refine lv_aload_n hx hb d_M_pointed_5 rfl (lv_at hl 0 rfl) ?_
    refine va_get (D := D) (ci := 7) (v := .int (nI c_17.rk)) (C := cn_M) (T := ft_M) (N := 19) hx hb hf_M (fun _ h => h) hown hK hP 3 rfl rfl 5 (by decide) (gw.at G hx0 mw_718 rfl _) (fun _ h9 => h9) rfl d_M_pointed_6 ?_
    refine lv_aload_n hx hb d_M_pointed_9 rfl (lv_at hl 0 rfl) ?_
    refine va_get (D := D) (ci := 7) (v := .int (nI c_17.zs)) (C := cn_M) (T := ft_M) (N := 19) hx hb hf_M (fun _ h => h) hown hK hP 3 rfl rfl 1 (by decide) (gw.at G hx0 mw_714 rfl _) (fun _ h9 => h9) rfl d_M_pointed_10 ?_
    refine lv_icmp_ge (tgt := 20) hx hb d_M_pointed_13 (by decide) (fun h_18 => ?_) (fun h_18 => ?_)
    · have h_18 : c_17.zs ≤ c_17.rk := (nI_leI (a := c_17.zs) (b := c_17.rk) (by omega) (by omega)).mp h_18
      refine lv_iconst (v := (0 : Int32)) hx hb d_M_pointed_20 (by decide) ?_
      refine va_put (D := D) (ci := 7) (v := .int (0 : Int32)) (ty := .int) (C := cn_M) (T := ft_M) (N := 19) hx hb hf_M (fun _ h => h) fy_M fk_M fn_M hown hK hP hD hS 3 rfl rfl 0 (by decide) (gw.at G hx0 mw_713 rfl _) (fun _ h9 => h9) rfl (by decide +kernel) rfl rfl (Nat.le_of_ble_eq_true rfl) d_M_pointed_21 (fun H locs hP hD hS => ?_)
      have hP : va_P D kl [(am.po, .inl (cI, 4000, .inl c_17.pf)), (am.su, .inl (cZ, 1000, .inl c_17.sf)), (am.sh, .inl (cI, 4, .inl (nf c_17.sk))), (am.m0, .inr (7, [.int (0 : Int32), .int (nI c_17.zs), .int (nI c_17.rn), .ref am.rw, .int (nI c_17.kn), .int (nI c_17.rk), .int (nI c_17.yn), .ref am.ry, .int (nI c_17.sp), .int (nI c_17.lg), .ref am.ti, .int (nI c_17.fo), .int (nI c_17.pt), .ref am.po, .ref am.su, .ref am.sq, .ref am.ch, .ref am.vt, .ref am.sh])), (am.rw, .inl (cI, 32, .inl c_17.wf)), (am.ry, .inl (cI, 256, .inl c_17.yf)), (am.ti, .inl (cI, 8, .inl c_17.tf)), (am.vt, .inl (cI, 4, .inl c_17.vf)), (am.sq, .inl (cJ, 256, .inr (.inl c_17.qf))), (am.ch, .inl (cI, 8, .inl (nf c_17.ck)))] H := hP
      have hD : va_D A [(am.po, .inl (cI, 4000, .inl c_17.pf)), (am.su, .inl (cZ, 1000, .inl c_17.sf)), (am.sh, .inl (cI, 4, .inl (nf c_17.sk))), (am.m0, .inr (7, [.int (0 : Int32), .int (nI c_17.zs), .int (nI c_17.rn), .ref am.rw, .int (nI c_17.kn), .int (nI c_17.rk), .int (nI c_17.yn), .ref am.ry, .int (nI c_17.sp), .int (nI c_17.lg), .ref am.ti, .int (nI c_17.fo), .int (nI c_17.pt), .ref am.po, .ref am.su, .ref am.sq, .ref am.ch, .ref am.vt, .ref am.sh])), (am.rw, .inl (cI, 32, .inl c_17.wf)), (am.ry, .inl (cI, 256, .inl c_17.yf)), (am.ti, .inl (cI, 8, .inl c_17.tf)), (am.vt, .inl (cI, 4, .inl c_17.vf)), (am.sq, .inl (cJ, 256, .inr (.inl c_17.qf))), (am.ch, .inl (cI, 8, .inl (nf c_17.ck)))] := hD
      refine lv_aload_n hx hb d_M_pointed_24 rfl (lv_at hl 0 rfl) ?_
      refine va_get (D := D) (ci := 7) (v := .int (0 : Int32)) (C := cn_M) (T := ft_M) (N := 19) hx hb hf_M (fun _ h => h) hown hK hP 3 rfl rfl 0 (by decide) (gw.at G hx0 mw_713 rfl _) (fun _ h9 => h9) rfl d_M_pointed_25 ?_
      refine lv_if_ne (tgt := 35) hx hb d_M_pointed_28 (by decide) (fun h99 => absurd h99 (by decide)) (fun _ => ?_)
      refine lv_iconst (v := (1 : Int32)) hx hb d_M_pointed_31 (by decide) ?_
      refine lv_goto (tgt := 36) hx hb d_M_pointed_32 (by decide) ?_
      exact tx_mono (fun _ h => tx_Z.of h) (W.zret (v := (1 : Int32)) hx hb hr (by decide) (fun t ht hW => ⟨⟨[(am.m0, .inr (7, [.int (0 : Int32), .int (nI c_17.zs), .int (nI c_17.rn), .ref am.rw, .int (nI c_17.kn), .int (nI c_17.rk), .int (nI c_17.yn), .ref am.ry, .int (nI c_17.sp), .int (nI c_17.lg), .ref am.ti, .int (nI c_17.fo), .int (nI c_17.pt), .ref am.po, .ref am.su, .ref am.sq, .ref am.ch, .ref am.vt, .ref am.sh])), (am.rw, .inl (cI, 32, .inl c_17.wf)), (am.ry, .inl (cI, 256, .inl c_17.yf)), (am.ti, .inl (cI, 8, .inl c_17.tf)), (am.po, .inl (cI, 4000, .inl c_17.pf)), (am.su, .inl (cZ, 1000, .inl c_17.sf)), (am.sq, .inl (cJ, 256, .inr (.inl c_17.qf))), (am.ch, .inl (cI, 8, .inl (nf c_17.ck))), (am.vt, .inl (cI, 4, .inl c_17.vf)), (am.sh, .inl (cI, 4, .inl (nf c_17.sk)))], Or.inl (⟨(MCmk (0 : Int32) c_17.zs c_17.rn c_17.kn c_17.rk c_17.yn c_17.sp c_17.lg c_17.fo c_17.pt c_17.wf c_17.yf c_17.tf c_17.pf c_17.sf c_17.qf c_17.ck c_17.vf c_17.sk), rfl, hJ1, hS1, hk1, (show _ by first | exact h_18 | exact Nat.not_le.mp h_18), rfl, rfl⟩), by rw [ht]; exact hP.sub [3, 4, 5, 6, 0, 1, 8, 9, 7, 2] rfl, hD.sub [3, 4, 5, 6, 0, 1, 8, 9, 7, 2] (by decide) rfl⟩, hS.F ht⟩) hS.2.2 d_M_pointed_36)
    · have h_18 : ¬ (c_17.zs ≤ c_17.rk) := fun z99 => h_18 ((nI_leI (a := c_17.zs) (b := c_17.rk) (by omega) (by omega)).mpr z99)
      refine lv_iload_n hx hb d_M_pointed_16 rfl (lv_at hl 1 rfl) ?_
      refine lv_goto (tgt := 21) hx hb d_M_pointed_17 (by decide) ?_
      refine va_put (D := D) (ci := 7) (v := .int (1 : Int32)) (ty := .int) (C := cn_M) (T := ft_M) (N := 19) hx hb hf_M (fun _ h => h) fy_M fk_M fn_M hown hK hP hD hS 3 rfl rfl 0 (by decide) (gw.at G hx0 mw_713 rfl _) (fun _ h9 => h9) rfl (by decide +kernel) rfl rfl (Nat.le_of_ble_eq_true rfl) d_M_pointed_21 (fun H locs hP hD hS => ?_)
      have hP : va_P D kl [(am.po, .inl (cI, 4000, .inl c_17.pf)), (am.su, .inl (cZ, 1000, .inl c_17.sf)), (am.sh, .inl (cI, 4, .inl (nf c_17.sk))), (am.m0, .inr (7, [.int (1 : Int32), .int (nI c_17.zs), .int (nI c_17.rn), .ref am.rw, .int (nI c_17.kn), .int (nI c_17.rk), .int (nI c_17.yn), .ref am.ry, .int (nI c_17.sp), .int (nI c_17.lg), .ref am.ti, .int (nI c_17.fo), .int (nI c_17.pt), .ref am.po, .ref am.su, .ref am.sq, .ref am.ch, .ref am.vt, .ref am.sh])), (am.rw, .inl (cI, 32, .inl c_17.wf)), (am.ry, .inl (cI, 256, .inl c_17.yf)), (am.ti, .inl (cI, 8, .inl c_17.tf)), (am.vt, .inl (cI, 4, .inl c_17.vf)), (am.sq, .inl (cJ, 256, .inr (.inl c_17.qf))), (am.ch, .inl (cI, 8, .inl (nf c_17.ck)))] H := hP
      have hD : va_D A [(am.po, .inl (cI, 4000, .inl c_17.pf)), (am.su, .inl (cZ, 1000, .inl c_17.sf)), (am.sh, .inl (cI, 4, .inl (nf c_17.sk))), (am.m0, .inr (7, [.int (1 : Int32), .int (nI c_17.zs), .int (nI c_17.rn), .ref am.rw, .int (nI c_17.kn), .int (nI c_17.rk), .int (nI c_17.yn), .ref am.ry, .int (nI c_17.sp), .int (nI c_17.lg), .ref am.ti, .int (nI c_17.fo), .int (nI c_17.pt), .ref am.po, .ref am.su, .ref am.sq, .ref am.ch, .ref am.vt, .ref am.sh])), (am.rw, .inl (cI, 32, .inl c_17.wf)), (am.ry, .inl (cI, 256, .inl c_17.yf)), (am.ti, .inl (cI, 8, .inl c_17.tf)), (am.vt, .inl (cI, 4, .inl c_17.vf)), (am.sq, .inl (cJ, 256, .inr (.inl c_17.qf))), (am.ch, .inl (cI, 8, .inl (nf c_17.ck)))] := hD
      refine lv_aload_n hx hb d_M_pointed_24 rfl (lv_at hl 0 rfl) ?_
      refine va_get (D := D) (ci := 7) (v := .int (1 : Int32)) (C := cn_M) (T := ft_M) (N := 19) hx hb hf_M (fun _ h => h) hown hK hP 3 rfl rfl 0 (by decide) (gw.at G hx0 mw_713 rfl _) (fun _ h9 => h9) rfl d_M_pointed_25 ?_
      refine lv_if_ne (tgt := 35) hx hb d_M_pointed_28 (by decide) (fun _ => ?_) (fun h99 => absurd h99 (by decide))
      refine lv_iconst (v := (0 : Int32)) hx hb d_M_pointed_35 (by decide) ?_
      exact tx_mono (fun _ h => tx_Z.of h) (W.zret (v := (0 : Int32)) hx hb hr (by decide) (fun t ht hW => ⟨⟨[(am.m0, .inr (7, [.int (1 : Int32), .int (nI c_17.zs), .int (nI c_17.rn), .ref am.rw, .int (nI c_17.kn), .int (nI c_17.rk), .int (nI c_17.yn), .ref am.ry, .int (nI c_17.sp), .int (nI c_17.lg), .ref am.ti, .int (nI c_17.fo), .int (nI c_17.pt), .ref am.po, .ref am.su, .ref am.sq, .ref am.ch, .ref am.vt, .ref am.sh])), (am.rw, .inl (cI, 32, .inl c_17.wf)), (am.ry, .inl (cI, 256, .inl c_17.yf)), (am.ti, .inl (cI, 8, .inl c_17.tf)), (am.po, .inl (cI, 4000, .inl c_17.pf)), (am.su, .inl (cZ, 1000, .inl c_17.sf)), (am.sq, .inl (cJ, 256, .inr (.inl c_17.qf))), (am.ch, .inl (cI, 8, .inl (nf c_17.ck))), (am.vt, .inl (cI, 4, .inl c_17.vf)), (am.sh, .inl (cI, 4, .inl (nf c_17.sk)))], Or.inr (⟨(MCmk (1 : Int32) c_17.zs c_17.rn c_17.kn c_17.rk c_17.yn c_17.sp c_17.lg c_17.fo c_17.pt c_17.wf c_17.yf c_17.tf c_17.pf c_17.sf c_17.qf c_17.ck c_17.vf c_17.sk), rfl, hJ1, hS1, hk1, (show _ by first | exact h_18 | exact Nat.not_le.mp h_18), rfl, rfl⟩), by rw [ht]; exact hP.sub [3, 4, 5, 6, 0, 1, 8, 9, 7, 2] rfl, hD.sub [3, 4, 5, 6, 0, 1, 8, 9, 7, 2] (by decide) rfl⟩, hS.F ht⟩) hS.2.2 d_M_pointed_36)
  · refine cx_call (D := D) (cl := kl) (ws := _) (wc := [(am.m0, .inr (7, [.int cm.th, .int (nI cm.zs), .int (nI cm.rn), .ref am.rw, .int (nI cm.kn), .int (nI cm.rk), .int (nI cm.yn), .ref am.ry, .int (nI cm.sp), .int (nI cm.lg), .ref am.ti, .int (nI cm.fo), .int (nI cm.pt), .ref am.po, .ref am.su, .ref am.sq, .ref am.ch, .ref am.vt, .ref am.sh]))]) (wr := [(am.rw, .inl (cI, 32, .inl cm.wf)), (am.ry, .inl (cI, 256, .inl cm.yf)), (am.ti, .inl (cI, 8, .inl cm.tf)), (am.po, .inl (cI, 4000, .inl cm.pf)), (am.su, .inl (cZ, 1000, .inl cm.sf)), (am.sq, .inl (cJ, 256, .inr (.inl cm.qf))), (am.ch, .inl (cI, 8, .inl (nf cm.ck))), (am.vt, .inl (cI, 4, .inl cm.vf)), (am.sh, .inl (cI, 4, .inl (nf cm.sk)))]) (tx_runV (C := cn_M) (b := am.m0) (As := []) (rest := []) hx hb hml hown (c_M_know_k E s.heap.size am.m0 am.rw am.ry am.ti am.po am.su am.sq am.ch am.vt am.sh cm.th (nI cm.zs) (nI cm.rn) (nI cm.rk) (nI cm.yn) (nI cm.sp) (nI cm.lg) (nI cm.fo) (nI cm.pt) cm.kn (by omega)) (cx_C (b0 := b0) G hx0 mw_806 mw_9 ny_M_know (by decide)) (gw.at G hx0 mw_803 rfl _) (gw.at G hx0 mw_805 rfl _) (gw.at G hx0 ms_M_know rfl _) ⟨cx_blind, va_recv hK hP (q0 := 0) (ci := 7) (q := (cn_M, ft_M, 19)) rfl rfl, (cx_pre (s := s) hx0 hP hD hS hA0 [0] rfl rfl (by decide))⟩ rfl rfl hl.1 rfl (lv_room (Nat.le_of_ble_eq_true rfl)) d_M_pointed_1 ⟨by decide, by decide⟩) hP hD hS hA [0] [1, 2, 3, 4, 5, 6, 7, 8, 9] rfl rfl (by decide) (by decide) (fun v t w1 H locs ht hW9 hp hP hD hS => ?_) (fun x t w1 H locs ht hW9 hp hP hD hS => by obtain ⟨h9, -⟩ := hp; cases h9)
    obtain ⟨h9, rfl⟩ := hp
    cases h9
    refine W.eq (g2 := F0 m 4 ls []) rfl ?_
    refine W.widen (k := 0) (n := 0) (by decide) (by decide) ?_
    have hP : va_P D kl [(am.rw, .inl (cI, 32, .inl cm.wf)), (am.ry, .inl (cI, 256, .inl cm.yf)), (am.ti, .inl (cI, 8, .inl cm.tf)), (am.po, .inl (cI, 4000, .inl cm.pf)), (am.su, .inl (cZ, 1000, .inl cm.sf)), (am.sq, .inl (cJ, 256, .inr (.inl cm.qf))), (am.ch, .inl (cI, 8, .inl (nf cm.ck))), (am.vt, .inl (cI, 4, .inl cm.vf)), (am.sh, .inl (cI, 4, .inl (nf cm.sk))), (am.m0, .inr (7, [.int cm.th, .int (nI cm.zs), .int (nI cm.rn), .ref am.rw, .int (nI cm.kn), .int (nI cm.rk), .int (nI cm.yn), .ref am.ry, .int (nI cm.sp), .int (nI cm.lg), .ref am.ti, .int (nI cm.fo), .int (nI cm.pt), .ref am.po, .ref am.su, .ref am.sq, .ref am.ch, .ref am.vt, .ref am.sh]))] H := hP
    have hD : va_D A [(am.rw, .inl (cI, 32, .inl cm.wf)), (am.ry, .inl (cI, 256, .inl cm.yf)), (am.ti, .inl (cI, 8, .inl cm.tf)), (am.po, .inl (cI, 4000, .inl cm.pf)), (am.su, .inl (cZ, 1000, .inl cm.sf)), (am.sq, .inl (cJ, 256, .inr (.inl cm.qf))), (am.ch, .inl (cI, 8, .inl (nf cm.ck))), (am.vt, .inl (cI, 4, .inl cm.vf)), (am.sh, .inl (cI, 4, .inl (nf cm.sk))), (am.m0, .inr (7, [.int cm.th, .int (nI cm.zs), .int (nI cm.rn), .ref am.rw, .int (nI cm.kn), .int (nI cm.rk), .int (nI cm.yn), .ref am.ry, .int (nI cm.sp), .int (nI cm.lg), .ref am.ti, .int (nI cm.fo), .int (nI cm.pt), .ref am.po, .ref am.su, .ref am.sq, .ref am.ch, .ref am.vt, .ref am.sh]))] := hD
    obtain ⟨c_19, hc_19⟩ : ∃ x99 : MC, x99 = (MCmk cm.th cm.zs cm.rn cm.kn cm.rk cm.yn cm.sp cm.lg cm.fo cm.pt cm.wf cm.yf cm.tf cm.pf cm.sf cm.qf cm.ck cm.vf cm.sk) := ⟨_, rfl⟩
    have hP : va_P D kl [(am.rw, .inl (cI, 32, .inl c_19.wf)), (am.ry, .inl (cI, 256, .inl c_19.yf)), (am.ti, .inl (cI, 8, .inl c_19.tf)), (am.po, .inl (cI, 4000, .inl c_19.pf)), (am.su, .inl (cZ, 1000, .inl c_19.sf)), (am.sq, .inl (cJ, 256, .inr (.inl c_19.qf))), (am.ch, .inl (cI, 8, .inl (nf c_19.ck))), (am.vt, .inl (cI, 4, .inl c_19.vf)), (am.sh, .inl (cI, 4, .inl (nf c_19.sk))), (am.m0, .inr (7, [.int c_19.th, .int (nI c_19.zs), .int (nI c_19.rn), .ref am.rw, .int (nI c_19.kn), .int (nI c_19.rk), .int (nI c_19.yn), .ref am.ry, .int (nI c_19.sp), .int (nI c_19.lg), .ref am.ti, .int (nI c_19.fo), .int (nI c_19.pt), .ref am.po, .ref am.su, .ref am.sq, .ref am.ch, .ref am.vt, .ref am.sh]))] H := by subst hc_19; exact hP
    have hD : va_D A [(am.rw, .inl (cI, 32, .inl c_19.wf)), (am.ry, .inl (cI, 256, .inl c_19.yf)), (am.ti, .inl (cI, 8, .inl c_19.tf)), (am.po, .inl (cI, 4000, .inl c_19.pf)), (am.su, .inl (cZ, 1000, .inl c_19.sf)), (am.sq, .inl (cJ, 256, .inr (.inl c_19.qf))), (am.ch, .inl (cI, 8, .inl (nf c_19.ck))), (am.vt, .inl (cI, 4, .inl c_19.vf)), (am.sh, .inl (cI, 4, .inl (nf c_19.sk))), (am.m0, .inr (7, [.int c_19.th, .int (nI c_19.zs), .int (nI c_19.rn), .ref am.rw, .int (nI c_19.kn), .int (nI c_19.rk), .int (nI c_19.yn), .ref am.ry, .int (nI c_19.sp), .int (nI c_19.lg), .ref am.ti, .int (nI c_19.fo), .int (nI c_19.pt), .ref am.po, .ref am.su, .ref am.sq, .ref am.ch, .ref am.vt, .ref am.sh]))] := by subst hc_19; exact hD
    have hJ1 : MJ c_19 := by subst hc_19; exact hJ
    have hk1 : c_19.kn = 1 := by subst hc_19; exact (show cm.kn = 1 by omega)
    have hS1 : MS cm c_19 := by subst hc_19; exact ⟨rfl, rfl, rfl⟩
    have ht1 : c_19.th = cm.th := by subst hc_19; exact rfl
    have hz2 := hJ1.z2
    have hz4 := hJ1.z4
    have hr8 := hJ1.r8
    have hkn := hJ1.kn
    have hrk := hJ1.rk
    have hyn := hJ1.yn
    have hsp := hJ1.sp
    have hlg := hJ1.lg
    have hfo := hJ1.fo
    have hpt := hJ1.pt
    have hck := hJ1.ck
    have hsk := hJ1.sk
    have hro := hJ1.ro
    refine lv_aload_n hx hb d_M_pointed_4 rfl (lv_at hl 0 rfl) ?_
    refine lv_aload_n hx hb d_M_pointed_5 rfl (lv_at hl 0 rfl) ?_
    refine va_get (D := D) (ci := 7) (v := .int (nI c_19.rk)) (C := cn_M) (T := ft_M) (N := 19) hx hb hf_M (fun _ h => h) hown hK hP 9 rfl rfl 5 (by decide) (gw.at G hx0 mw_718 rfl _) (fun _ h9 => h9) rfl d_M_pointed_6 ?_
    refine lv_aload_n hx hb d_M_pointed_9 rfl (lv_at hl 0 rfl) ?_
    refine va_get (D := D) (ci := 7) (v := .int (nI c_19.zs)) (C := cn_M) (T := ft_M) (N := 19) hx hb hf_M (fun _ h => h) hown hK hP 9 rfl rfl 1 (by decide) (gw.at G hx0 mw_714 rfl _) (fun _ h9 => h9) rfl d_M_pointed_10 ?_
    refine lv_icmp_ge (tgt := 20) hx hb d_M_pointed_13 (by decide) (fun h_20 => ?_) (fun h_20 => ?_)
    · have h_20 : c_19.zs ≤ c_19.rk := (nI_leI (a := c_19.zs) (b := c_19.rk) (by omega) (by omega)).mp h_20
      refine lv_iconst (v := (0 : Int32)) hx hb d_M_pointed_20 (by decide) ?_
      refine va_put (D := D) (ci := 7) (v := .int (0 : Int32)) (ty := .int) (C := cn_M) (T := ft_M) (N := 19) hx hb hf_M (fun _ h => h) fy_M fk_M fn_M hown hK hP hD hS 9 rfl rfl 0 (by decide) (gw.at G hx0 mw_713 rfl _) (fun _ h9 => h9) rfl (by decide +kernel) rfl rfl (Nat.le_of_ble_eq_true rfl) d_M_pointed_21 (fun H locs hP hD hS => ?_)
      have hP : va_P D kl [(am.rw, .inl (cI, 32, .inl c_19.wf)), (am.ry, .inl (cI, 256, .inl c_19.yf)), (am.ti, .inl (cI, 8, .inl c_19.tf)), (am.po, .inl (cI, 4000, .inl c_19.pf)), (am.su, .inl (cZ, 1000, .inl c_19.sf)), (am.sq, .inl (cJ, 256, .inr (.inl c_19.qf))), (am.ch, .inl (cI, 8, .inl (nf c_19.ck))), (am.vt, .inl (cI, 4, .inl c_19.vf)), (am.sh, .inl (cI, 4, .inl (nf c_19.sk))), (am.m0, .inr (7, [.int (0 : Int32), .int (nI c_19.zs), .int (nI c_19.rn), .ref am.rw, .int (nI c_19.kn), .int (nI c_19.rk), .int (nI c_19.yn), .ref am.ry, .int (nI c_19.sp), .int (nI c_19.lg), .ref am.ti, .int (nI c_19.fo), .int (nI c_19.pt), .ref am.po, .ref am.su, .ref am.sq, .ref am.ch, .ref am.vt, .ref am.sh]))] H := hP
      have hD : va_D A [(am.rw, .inl (cI, 32, .inl c_19.wf)), (am.ry, .inl (cI, 256, .inl c_19.yf)), (am.ti, .inl (cI, 8, .inl c_19.tf)), (am.po, .inl (cI, 4000, .inl c_19.pf)), (am.su, .inl (cZ, 1000, .inl c_19.sf)), (am.sq, .inl (cJ, 256, .inr (.inl c_19.qf))), (am.ch, .inl (cI, 8, .inl (nf c_19.ck))), (am.vt, .inl (cI, 4, .inl c_19.vf)), (am.sh, .inl (cI, 4, .inl (nf c_19.sk))), (am.m0, .inr (7, [.int (0 : Int32), .int (nI c_19.zs), .int (nI c_19.rn), .ref am.rw, .int (nI c_19.kn), .int (nI c_19.rk), .int (nI c_19.yn), .ref am.ry, .int (nI c_19.sp), .int (nI c_19.lg), .ref am.ti, .int (nI c_19.fo), .int (nI c_19.pt), .ref am.po, .ref am.su, .ref am.sq, .ref am.ch, .ref am.vt, .ref am.sh]))] := hD
      refine lv_aload_n hx hb d_M_pointed_24 rfl (lv_at hl 0 rfl) ?_
      refine va_get (D := D) (ci := 7) (v := .int (0 : Int32)) (C := cn_M) (T := ft_M) (N := 19) hx hb hf_M (fun _ h => h) hown hK hP 9 rfl rfl 0 (by decide) (gw.at G hx0 mw_713 rfl _) (fun _ h9 => h9) rfl d_M_pointed_25 ?_
      refine lv_if_ne (tgt := 35) hx hb d_M_pointed_28 (by decide) (fun h99 => absurd h99 (by decide)) (fun _ => ?_)
      refine lv_iconst (v := (1 : Int32)) hx hb d_M_pointed_31 (by decide) ?_
      refine lv_goto (tgt := 36) hx hb d_M_pointed_32 (by decide) ?_
      exact tx_mono (fun _ h => tx_Z.of h) (W.zret (v := (1 : Int32)) hx hb hr (by decide) (fun t ht hW => ⟨⟨[(am.m0, .inr (7, [.int (0 : Int32), .int (nI c_19.zs), .int (nI c_19.rn), .ref am.rw, .int (nI c_19.kn), .int (nI c_19.rk), .int (nI c_19.yn), .ref am.ry, .int (nI c_19.sp), .int (nI c_19.lg), .ref am.ti, .int (nI c_19.fo), .int (nI c_19.pt), .ref am.po, .ref am.su, .ref am.sq, .ref am.ch, .ref am.vt, .ref am.sh])), (am.rw, .inl (cI, 32, .inl c_19.wf)), (am.ry, .inl (cI, 256, .inl c_19.yf)), (am.ti, .inl (cI, 8, .inl c_19.tf)), (am.po, .inl (cI, 4000, .inl c_19.pf)), (am.su, .inl (cZ, 1000, .inl c_19.sf)), (am.sq, .inl (cJ, 256, .inr (.inl c_19.qf))), (am.ch, .inl (cI, 8, .inl (nf c_19.ck))), (am.vt, .inl (cI, 4, .inl c_19.vf)), (am.sh, .inl (cI, 4, .inl (nf c_19.sk)))], Or.inl (⟨(MCmk (0 : Int32) c_19.zs c_19.rn c_19.kn c_19.rk c_19.yn c_19.sp c_19.lg c_19.fo c_19.pt c_19.wf c_19.yf c_19.tf c_19.pf c_19.sf c_19.qf c_19.ck c_19.vf c_19.sk), rfl, hJ1, hS1, hk1, (show _ by first | exact h_20 | exact Nat.not_le.mp h_20), rfl, rfl⟩), by rw [ht]; exact hP.sub [9, 0, 1, 2, 3, 4, 5, 6, 7, 8] rfl, hD.sub [9, 0, 1, 2, 3, 4, 5, 6, 7, 8] (by decide) rfl⟩, hS.F ht⟩) hS.2.2 d_M_pointed_36)
    · have h_20 : ¬ (c_19.zs ≤ c_19.rk) := fun z99 => h_20 ((nI_leI (a := c_19.zs) (b := c_19.rk) (by omega) (by omega)).mpr z99)
      refine lv_iload_n hx hb d_M_pointed_16 rfl (lv_at hl 1 rfl) ?_
      refine lv_goto (tgt := 21) hx hb d_M_pointed_17 (by decide) ?_
      refine va_put (D := D) (ci := 7) (v := .int (1 : Int32)) (ty := .int) (C := cn_M) (T := ft_M) (N := 19) hx hb hf_M (fun _ h => h) fy_M fk_M fn_M hown hK hP hD hS 9 rfl rfl 0 (by decide) (gw.at G hx0 mw_713 rfl _) (fun _ h9 => h9) rfl (by decide +kernel) rfl rfl (Nat.le_of_ble_eq_true rfl) d_M_pointed_21 (fun H locs hP hD hS => ?_)
      have hP : va_P D kl [(am.rw, .inl (cI, 32, .inl c_19.wf)), (am.ry, .inl (cI, 256, .inl c_19.yf)), (am.ti, .inl (cI, 8, .inl c_19.tf)), (am.po, .inl (cI, 4000, .inl c_19.pf)), (am.su, .inl (cZ, 1000, .inl c_19.sf)), (am.sq, .inl (cJ, 256, .inr (.inl c_19.qf))), (am.ch, .inl (cI, 8, .inl (nf c_19.ck))), (am.vt, .inl (cI, 4, .inl c_19.vf)), (am.sh, .inl (cI, 4, .inl (nf c_19.sk))), (am.m0, .inr (7, [.int (1 : Int32), .int (nI c_19.zs), .int (nI c_19.rn), .ref am.rw, .int (nI c_19.kn), .int (nI c_19.rk), .int (nI c_19.yn), .ref am.ry, .int (nI c_19.sp), .int (nI c_19.lg), .ref am.ti, .int (nI c_19.fo), .int (nI c_19.pt), .ref am.po, .ref am.su, .ref am.sq, .ref am.ch, .ref am.vt, .ref am.sh]))] H := hP
      have hD : va_D A [(am.rw, .inl (cI, 32, .inl c_19.wf)), (am.ry, .inl (cI, 256, .inl c_19.yf)), (am.ti, .inl (cI, 8, .inl c_19.tf)), (am.po, .inl (cI, 4000, .inl c_19.pf)), (am.su, .inl (cZ, 1000, .inl c_19.sf)), (am.sq, .inl (cJ, 256, .inr (.inl c_19.qf))), (am.ch, .inl (cI, 8, .inl (nf c_19.ck))), (am.vt, .inl (cI, 4, .inl c_19.vf)), (am.sh, .inl (cI, 4, .inl (nf c_19.sk))), (am.m0, .inr (7, [.int (1 : Int32), .int (nI c_19.zs), .int (nI c_19.rn), .ref am.rw, .int (nI c_19.kn), .int (nI c_19.rk), .int (nI c_19.yn), .ref am.ry, .int (nI c_19.sp), .int (nI c_19.lg), .ref am.ti, .int (nI c_19.fo), .int (nI c_19.pt), .ref am.po, .ref am.su, .ref am.sq, .ref am.ch, .ref am.vt, .ref am.sh]))] := hD
      refine lv_aload_n hx hb d_M_pointed_24 rfl (lv_at hl 0 rfl) ?_
      refine va_get (D := D) (ci := 7) (v := .int (1 : Int32)) (C := cn_M) (T := ft_M) (N := 19) hx hb hf_M (fun _ h => h) hown hK hP 9 rfl rfl 0 (by decide) (gw.at G hx0 mw_713 rfl _) (fun _ h9 => h9) rfl d_M_pointed_25 ?_
      refine lv_if_ne (tgt := 35) hx hb d_M_pointed_28 (by decide) (fun _ => ?_) (fun h99 => absurd h99 (by decide))
      refine lv_iconst (v := (0 : Int32)) hx hb d_M_pointed_35 (by decide) ?_
      exact tx_mono (fun _ h => tx_Z.of h) (W.zret (v := (0 : Int32)) hx hb hr (by decide) (fun t ht hW => ⟨⟨[(am.m0, .inr (7, [.int (1 : Int32), .int (nI c_19.zs), .int (nI c_19.rn), .ref am.rw, .int (nI c_19.kn), .int (nI c_19.rk), .int (nI c_19.yn), .ref am.ry, .int (nI c_19.sp), .int (nI c_19.lg), .ref am.ti, .int (nI c_19.fo), .int (nI c_19.pt), .ref am.po, .ref am.su, .ref am.sq, .ref am.ch, .ref am.vt, .ref am.sh])), (am.rw, .inl (cI, 32, .inl c_19.wf)), (am.ry, .inl (cI, 256, .inl c_19.yf)), (am.ti, .inl (cI, 8, .inl c_19.tf)), (am.po, .inl (cI, 4000, .inl c_19.pf)), (am.su, .inl (cZ, 1000, .inl c_19.sf)), (am.sq, .inl (cJ, 256, .inr (.inl c_19.qf))), (am.ch, .inl (cI, 8, .inl (nf c_19.ck))), (am.vt, .inl (cI, 4, .inl c_19.vf)), (am.sh, .inl (cI, 4, .inl (nf c_19.sk)))], Or.inr (⟨(MCmk (1 : Int32) c_19.zs c_19.rn c_19.kn c_19.rk c_19.yn c_19.sp c_19.lg c_19.fo c_19.pt c_19.wf c_19.yf c_19.tf c_19.pf c_19.sf c_19.qf c_19.ck c_19.vf c_19.sk), rfl, hJ1, hS1, hk1, (show _ by first | exact h_20 | exact Nat.not_le.mp h_20), rfl, rfl⟩), by rw [ht]; exact hP.sub [9, 0, 1, 2, 3, 4, 5, 6, 7, 8] rfl, hD.sub [9, 0, 1, 2, 3, 4, 5, 6, 7, 8] (by decide) rfl⟩, hS.F ht⟩) hS.2.2 d_M_pointed_36)

set_option maxHeartbeats 4000000 in
set_option maxRecDepth 100000 in
theorem c_M_pointed2 {l : Launch} {s0 : State} {b0 : Addr} {D : va_G} {cI cJ cZ : ClassId} {tC tS : Nat} (E : gE l s0 b0 D cI cJ cZ tC tS) (sz : Nat) (am : MA) (cm : MC) (hT9 : MTH) (hJ : MJ cm) : cx_M l s0 D kl y_M_pointed b_M_pointed 2 (some .boolean) ({ frames := 5, cells := 0, slots := 0, locals := 132 } : Room) 0 0 [.ref am.m0, .int (2 : Int32)] [(am.m0, .inr (7, [.int cm.th, .int (nI cm.zs), .int (nI cm.rn), .ref am.rw, .int (nI cm.kn), .int (nI cm.rk), .int (nI cm.yn), .ref am.ry, .int (nI cm.sp), .int (nI cm.lg), .ref am.ti, .int (nI cm.fo), .int (nI cm.pt), .ref am.po, .ref am.su, .ref am.sq, .ref am.ch, .ref am.vt, .ref am.sh])), (am.rw, .inl (cI, 32, .inl cm.wf)), (am.ry, .inl (cI, 256, .inl cm.yf)), (am.ti, .inl (cI, 8, .inl cm.tf)), (am.po, .inl (cI, 4000, .inl cm.pf)), (am.su, .inl (cZ, 1000, .inl cm.sf)), (am.sq, .inl (cJ, 256, .inr (.inl cm.qf))), (am.ch, .inl (cI, 8, .inl (nf cm.ck))), (am.vt, .inl (cI, 4, .inl cm.vf)), (am.sh, .inl (cI, 4, .inl (nf cm.sk)))] sz (fun o9 t9 w9 => (∃ (c9 : MC), o9 = .returned (some (.int (1 : Int32))) ∧ MJ c9 ∧ MS cm c9 ∧ c9.kn = 1 ∧ c9.zs ≤ c9.rk ∧ c9.th = 0 ∧ w9 = [(am.m0, .inr (7, [.int c9.th, .int (nI c9.zs), .int (nI c9.rn), .ref am.rw, .int (nI c9.kn), .int (nI c9.rk), .int (nI c9.yn), .ref am.ry, .int (nI c9.sp), .int (nI c9.lg), .ref am.ti, .int (nI c9.fo), .int (nI c9.pt), .ref am.po, .ref am.su, .ref am.sq, .ref am.ch, .ref am.vt, .ref am.sh])), (am.rw, .inl (cI, 32, .inl c9.wf)), (am.ry, .inl (cI, 256, .inl c9.yf)), (am.ti, .inl (cI, 8, .inl c9.tf)), (am.po, .inl (cI, 4000, .inl c9.pf)), (am.su, .inl (cZ, 1000, .inl c9.sf)), (am.sq, .inl (cJ, 256, .inr (.inl c9.qf))), (am.ch, .inl (cI, 8, .inl (nf c9.ck))), (am.vt, .inl (cI, 4, .inl c9.vf)), (am.sh, .inl (cI, 4, .inl (nf c9.sk)))]) ∨ (∃ (c9 : MC), o9 = .returned (some (.int (0 : Int32))) ∧ MJ c9 ∧ MS cm c9 ∧ c9.kn = 1 ∧ c9.rk < c9.zs ∧ c9.th = 2 ∧ w9 = [(am.m0, .inr (7, [.int c9.th, .int (nI c9.zs), .int (nI c9.rn), .ref am.rw, .int (nI c9.kn), .int (nI c9.rk), .int (nI c9.yn), .ref am.ry, .int (nI c9.sp), .int (nI c9.lg), .ref am.ti, .int (nI c9.fo), .int (nI c9.pt), .ref am.po, .ref am.su, .ref am.sq, .ref am.ch, .ref am.vt, .ref am.sh])), (am.rw, .inl (cI, 32, .inl c9.wf)), (am.ry, .inl (cI, 256, .inl c9.yf)), (am.ti, .inl (cI, 8, .inl c9.tf)), (am.po, .inl (cI, 4000, .inl c9.pf)), (am.su, .inl (cZ, 1000, .inl c9.sf)), (am.sq, .inl (cJ, 256, .inr (.inl c9.qf))), (am.ch, .inl (cI, 8, .inl (nf c9.ck))), (am.vt, .inl (cI, 4, .inl c9.vf)), (am.sh, .inl (cI, 4, .inl (nf c9.sk)))])) := by
  refine tx_ofW (cc := b_M_pointed) (maxL := 2) (ret := (some .boolean)) (by decide) rfl ?_
  intro p e s m args below meth c s₁ B hml hT hv
  obtain ⟨rfl, hsz, hP, hD0, hx0⟩ := hv
  have hx := B.exec
  have hb := B.bytes
  have hr := B.returns
  have G := E.2.1
  have hown : s.vm.findClass cn_M = some m.cls := findClass_of_methodNamed B.named
  have hlocks := B.notSynchronized
  have hK := va_K.moved hx0.1.alike E.2.2.1
  have hf_M : ∀ w99 ∈ u_ws cn_M ft_M 19, w99.before ([.ref am.m0, .int (2 : Int32)] : List Value).toArray s = true := fun w99 h99 => gw.at G hx0 (fw_M w99 h99) (fo_M w99 h99) _
  subst hsz
  have hA0 := cx_new hD0 hx0.2.1
  have hD := hD0.self (sz := s.heap.size)
  generalize hAe : va_A [(am.m0, .inr (7, [.int cm.th, .int (nI cm.zs), .int (nI cm.rn), .ref am.rw, .int (nI cm.kn), .int (nI cm.rk), .int (nI cm.yn), .ref am.ry, .int (nI cm.sp), .int (nI cm.lg), .ref am.ti, .int (nI cm.fo), .int (nI cm.pt), .ref am.po, .ref am.su, .ref am.sq, .ref am.ch, .ref am.vt, .ref am.sh])), (am.rw, .inl (cI, 32, .inl cm.wf)), (am.ry, .inl (cI, 256, .inl cm.yf)), (am.ti, .inl (cI, 8, .inl cm.tf)), (am.po, .inl (cI, 4000, .inl cm.pf)), (am.su, .inl (cZ, 1000, .inl cm.sf)), (am.sq, .inl (cJ, 256, .inr (.inl cm.qf))), (am.ch, .inl (cI, 8, .inl (nf cm.ck))), (am.vt, .inl (cI, 4, .inl cm.vf)), (am.sh, .inl (cI, 4, .inl (nf cm.sk)))] s.heap.size = A at hD hA0 ⊢
  have hA : ∀ q : Nat, s.heap.size ≤ q → A q := fun q h => by rw [← hAe]; exact Or.inr h
  have hS : va_S A s.heap s.heap [] := va_S.rf
  have hl := lv_entry ([.ref am.m0, .int (2 : Int32)]) (n := 2) (Nat.le_of_ble_eq_true rfl)
  rw [lg_entry_eq]
  generalize (lg_sl ([.ref am.m0, .int (2 : Int32)]) ++ List.replicate (2 - (lg_sl ([.ref am.m0, .int (2 : Int32)])).length) Slot.unset).toArray = ls at hl ⊢
  have hl : lv_has ls 2 [(0, .ref am.m0), (1, .int (2 : Int32))] := hl
  have hP : va_P D kl [(am.m0, .inr (7, [.int cm.th, .int (nI cm.zs), .int (nI cm.rn), .ref am.rw, .int (nI cm.kn), .int (nI cm.rk), .int (nI cm.yn), .ref am.ry, .int (nI cm.sp), .int (nI cm.lg), .ref am.ti, .int (nI cm.fo), .int (nI cm.pt), .ref am.po, .ref am.su, .ref am.sq, .ref am.ch, .ref am.vt, .ref am.sh])), (am.rw, .inl (cI, 32, .inl cm.wf)), (am.ry, .inl (cI, 256, .inl cm.yf)), (am.ti, .inl (cI, 8, .inl cm.tf)), (am.po, .inl (cI, 4000, .inl cm.pf)), (am.su, .inl (cZ, 1000, .inl cm.sf)), (am.sq, .inl (cJ, 256, .inr (.inl cm.qf))), (am.ch, .inl (cI, 8, .inl (nf cm.ck))), (am.vt, .inl (cI, 4, .inl cm.vf)), (am.sh, .inl (cI, 4, .inl (nf cm.sk)))] s.heap := hP
  have hml : c.maxLocals = 2 := hml
  have hz2 := hJ.z2
  have hz4 := hJ.z4
  have hr8 := hJ.r8
  have hkn := hJ.kn
  have hrk := hJ.rk
  have hyn := hJ.yn
  have hsp := hJ.sp
  have hlg := hJ.lg
  have hfo := hJ.fo
  have hpt := hJ.pt
  have hck := hJ.ck
  have hsk := hJ.sk
  have hro := hJ.ro
  refine lv_aload_n hx hb d_M_pointed_0 rfl (lv_at hl 0 rfl) ?_
  by_cases h_1 : cm.kn = 0
  · refine cx_call (D := D) (cl := kl) (ws := _) (wc := [(am.m0, .inr (7, [.int cm.th, .int (nI cm.zs), .int (nI cm.rn), .ref am.rw, .int (nI cm.kn), .int (nI cm.rk), .int (nI cm.yn), .ref am.ry, .int (nI cm.sp), .int (nI cm.lg), .ref am.ti, .int (nI cm.fo), .int (nI cm.pt), .ref am.po, .ref am.su, .ref am.sq, .ref am.ch, .ref am.vt, .ref am.sh])), (am.rw, .inl (cI, 32, .inl cm.wf)), (am.ry, .inl (cI, 256, .inl cm.yf)), (am.ti, .inl (cI, 8, .inl cm.tf)), (am.vt, .inl (cI, 4, .inl cm.vf)), (am.sq, .inl (cJ, 256, .inr (.inl cm.qf))), (am.ch, .inl (cI, 8, .inl (nf cm.ck)))]) (wr := [(am.po, .inl (cI, 4000, .inl cm.pf)), (am.su, .inl (cZ, 1000, .inl cm.sf)), (am.sh, .inl (cI, 4, .inl (nf cm.sk)))]) (tx_runV (C := cn_M) (b := am.m0) (As := []) (rest := []) hx hb hml hown (c_M_know_u E s.heap.size am.m0 am.rw am.ry am.ti am.po am.su am.sq am.ch am.vt am.sh cm.th (nI cm.rk) (nI cm.yn) (nI cm.sp) (nI cm.lg) (nI cm.fo) (nI cm.pt) cm.zs cm.rn cm.kn cm.wf cm.yf cm.tf cm.vf cm.qf cm.ck h_1 hz2 hz4 hr8 hck (fun q0 hq => hT9.1 _ _ _ q0 hz2 hz4 hr8 hro hq)) (cx_C (b0 := b0) G hx0 mw_806 mw_9 ny_M_know (by decide)) (gw.at G hx0 mw_803 rfl _) (gw.at G hx0 mw_805 rfl _) (gw.at G hx0 ms_M_know rfl _) ⟨cx_blind, va_recv hK hP (q0 := 0) (ci := 7) (q := (cn_M, ft_M, 19)) rfl rfl, (cx_pre (s := s) hx0 hP hD hS hA0 [0, 1, 2, 3, 8, 6, 7] rfl rfl (by decide))⟩ rfl rfl hl.1 rfl (lv_room (Nat.le_of_ble_eq_true rfl)) d_M_pointed_1 ⟨by decide, by decide⟩) hP hD hS hA [0, 1, 2, 3, 8, 6, 7] [4, 5, 9] rfl rfl (by decide) (by decide) (fun v t w1 H locs ht hW9 hp hP hD hS => ?_) (fun x t w1 H locs ht hW9 hp hP hD hS => by obtain ⟨_, _, _, _, _, _, _, _, _, h9, -⟩ := hp; cases h9)
    obtain ⟨rk9_2, yn9_3, sp9_4, lg9_5, yf9_6, tf9_7, vf9_8, q9_9, c9_10, h9, f_11, f_12, f_13, f_14, f_15, f_16, rfl⟩ := hp
    cases h9
    refine W.eq (g2 := F0 m 4 ls []) rfl ?_
    refine W.widen (k := 0) (n := 0) (by decide) (by decide) ?_
    have hP : va_P D kl [(am.po, .inl (cI, 4000, .inl cm.pf)), (am.su, .inl (cZ, 1000, .inl cm.sf)), (am.sh, .inl (cI, 4, .inl (nf cm.sk))), (am.m0, .inr (7, [.int cm.th, .int (nI cm.zs), .int (nI cm.rn), .ref am.rw, .int (1 : Int32), .int (nI rk9_2), .int (nI yn9_3), .ref am.ry, .int (nI sp9_4), .int (nI lg9_5), .ref am.ti, .int (0 : Int32), .int (nI cm.pt), .ref am.po, .ref am.su, .ref am.sq, .ref am.ch, .ref am.vt, .ref am.sh])), (am.rw, .inl (cI, 32, .inl cm.wf)), (am.ry, .inl (cI, 256, .inl yf9_6)), (am.ti, .inl (cI, 8, .inl tf9_7)), (am.vt, .inl (cI, 4, .inl vf9_8)), (am.sq, .inl (cJ, 256, .inr (.inl q9_9))), (am.ch, .inl (cI, 8, .inl (nf c9_10)))] H := hP
    have hD : va_D A [(am.po, .inl (cI, 4000, .inl cm.pf)), (am.su, .inl (cZ, 1000, .inl cm.sf)), (am.sh, .inl (cI, 4, .inl (nf cm.sk))), (am.m0, .inr (7, [.int cm.th, .int (nI cm.zs), .int (nI cm.rn), .ref am.rw, .int (1 : Int32), .int (nI rk9_2), .int (nI yn9_3), .ref am.ry, .int (nI sp9_4), .int (nI lg9_5), .ref am.ti, .int (0 : Int32), .int (nI cm.pt), .ref am.po, .ref am.su, .ref am.sq, .ref am.ch, .ref am.vt, .ref am.sh])), (am.rw, .inl (cI, 32, .inl cm.wf)), (am.ry, .inl (cI, 256, .inl yf9_6)), (am.ti, .inl (cI, 8, .inl tf9_7)), (am.vt, .inl (cI, 4, .inl vf9_8)), (am.sq, .inl (cJ, 256, .inr (.inl q9_9))), (am.ch, .inl (cI, 8, .inl (nf c9_10)))] := hD
    obtain ⟨c_17, hc_17⟩ : ∃ x99 : MC, x99 = (MCmk cm.th cm.zs cm.rn 1 rk9_2 yn9_3 sp9_4 lg9_5 0 cm.pt cm.wf yf9_6 tf9_7 cm.pf cm.sf q9_9 c9_10 vf9_8 cm.sk) := ⟨_, rfl⟩
    have hP : va_P D kl [(am.po, .inl (cI, 4000, .inl c_17.pf)), (am.su, .inl (cZ, 1000, .inl c_17.sf)), (am.sh, .inl (cI, 4, .inl (nf c_17.sk))), (am.m0, .inr (7, [.int c_17.th, .int (nI c_17.zs), .int (nI c_17.rn), .ref am.rw, .int (nI c_17.kn), .int (nI c_17.rk), .int (nI c_17.yn), .ref am.ry, .int (nI c_17.sp), .int (nI c_17.lg), .ref am.ti, .int (nI c_17.fo), .int (nI c_17.pt), .ref am.po, .ref am.su, .ref am.sq, .ref am.ch, .ref am.vt, .ref am.sh])), (am.rw, .inl (cI, 32, .inl c_17.wf)), (am.ry, .inl (cI, 256, .inl c_17.yf)), (am.ti, .inl (cI, 8, .inl c_17.tf)), (am.vt, .inl (cI, 4, .inl c_17.vf)), (am.sq, .inl (cJ, 256, .inr (.inl c_17.qf))), (am.ch, .inl (cI, 8, .inl (nf c_17.ck)))] H := by subst hc_17; exact hP
    have hD : va_D A [(am.po, .inl (cI, 4000, .inl c_17.pf)), (am.su, .inl (cZ, 1000, .inl c_17.sf)), (am.sh, .inl (cI, 4, .inl (nf c_17.sk))), (am.m0, .inr (7, [.int c_17.th, .int (nI c_17.zs), .int (nI c_17.rn), .ref am.rw, .int (nI c_17.kn), .int (nI c_17.rk), .int (nI c_17.yn), .ref am.ry, .int (nI c_17.sp), .int (nI c_17.lg), .ref am.ti, .int (nI c_17.fo), .int (nI c_17.pt), .ref am.po, .ref am.su, .ref am.sq, .ref am.ch, .ref am.vt, .ref am.sh])), (am.rw, .inl (cI, 32, .inl c_17.wf)), (am.ry, .inl (cI, 256, .inl c_17.yf)), (am.ti, .inl (cI, 8, .inl c_17.tf)), (am.vt, .inl (cI, 4, .inl c_17.vf)), (am.sq, .inl (cJ, 256, .inr (.inl c_17.qf))), (am.ch, .inl (cI, 8, .inl (nf c_17.ck)))] := by subst hc_17; exact hD
    have hJ1 : MJ c_17 := by subst hc_17; exact ⟨hz2, hz4, hr8, Nat.le_refl 1, f_12, f_13, f_14, f_15, Nat.zero_le _, hpt, f_16, hsk, hro, fun _ => f_11, fun _ _ _ z9 => absurd (show 0 = 1 from z9) (by decide)⟩
    have hk1 : c_17.kn = 1 := by subst hc_17; exact rfl
    have hS1 : MS cm c_17 := by subst hc_17; exact ⟨rfl, rfl, rfl⟩
    have ht1 : c_17.th = cm.th := by subst hc_17; exact rfl
    have hz2 := hJ1.z2
    have hz4 := hJ1.z4
    have hr8 := hJ1.r8
    have hkn := hJ1.kn
    have hrk := hJ1.rk
    have hyn := hJ1.yn
    have hsp := hJ1.sp
    have hlg := hJ1.lg
    have hfo := hJ1.fo
    have hpt := hJ1.pt
    have hck := hJ1.ck
    have hsk := hJ1.sk
    have hro := hJ1.ro
    refine lv_aload_n hx hb d_M_pointed_4 rfl (lv_at hl 0 rfl) ?_
    refine lv_aload_n hx hb d_M_pointed_5 rfl (lv_at hl 0 rfl) ?_
    refine va_get (D := D) (ci := 7) (v := .int (nI c_17.rk)) (C := cn_M) (T := ft_M) (N := 19) hx hb hf_M (fun _ h => h) hown hK hP 3 rfl rfl 5 (by decide) (gw.at G hx0 mw_718 rfl _) (fun _ h9 => h9) rfl d_M_pointed_6 ?_
    refine lv_aload_n hx hb d_M_pointed_9 rfl (lv_at hl 0 rfl) ?_
    refine va_get (D := D) (ci := 7) (v := .int (nI c_17.zs)) (C := cn_M) (T := ft_M) (N := 19) hx hb hf_M (fun _ h => h) hown hK hP 3 rfl rfl 1 (by decide) (gw.at G hx0 mw_714 rfl _) (fun _ h9 => h9) rfl d_M_pointed_10 ?_
    refine lv_icmp_ge (tgt := 20) hx hb d_M_pointed_13 (by decide) (fun h_18 => ?_) (fun h_18 => ?_)
    · have h_18 : c_17.zs ≤ c_17.rk := (nI_leI (a := c_17.zs) (b := c_17.rk) (by omega) (by omega)).mp h_18
      refine lv_iconst (v := (0 : Int32)) hx hb d_M_pointed_20 (by decide) ?_
      refine va_put (D := D) (ci := 7) (v := .int (0 : Int32)) (ty := .int) (C := cn_M) (T := ft_M) (N := 19) hx hb hf_M (fun _ h => h) fy_M fk_M fn_M hown hK hP hD hS 3 rfl rfl 0 (by decide) (gw.at G hx0 mw_713 rfl _) (fun _ h9 => h9) rfl (by decide +kernel) rfl rfl (Nat.le_of_ble_eq_true rfl) d_M_pointed_21 (fun H locs hP hD hS => ?_)
      have hP : va_P D kl [(am.po, .inl (cI, 4000, .inl c_17.pf)), (am.su, .inl (cZ, 1000, .inl c_17.sf)), (am.sh, .inl (cI, 4, .inl (nf c_17.sk))), (am.m0, .inr (7, [.int (0 : Int32), .int (nI c_17.zs), .int (nI c_17.rn), .ref am.rw, .int (nI c_17.kn), .int (nI c_17.rk), .int (nI c_17.yn), .ref am.ry, .int (nI c_17.sp), .int (nI c_17.lg), .ref am.ti, .int (nI c_17.fo), .int (nI c_17.pt), .ref am.po, .ref am.su, .ref am.sq, .ref am.ch, .ref am.vt, .ref am.sh])), (am.rw, .inl (cI, 32, .inl c_17.wf)), (am.ry, .inl (cI, 256, .inl c_17.yf)), (am.ti, .inl (cI, 8, .inl c_17.tf)), (am.vt, .inl (cI, 4, .inl c_17.vf)), (am.sq, .inl (cJ, 256, .inr (.inl c_17.qf))), (am.ch, .inl (cI, 8, .inl (nf c_17.ck)))] H := hP
      have hD : va_D A [(am.po, .inl (cI, 4000, .inl c_17.pf)), (am.su, .inl (cZ, 1000, .inl c_17.sf)), (am.sh, .inl (cI, 4, .inl (nf c_17.sk))), (am.m0, .inr (7, [.int (0 : Int32), .int (nI c_17.zs), .int (nI c_17.rn), .ref am.rw, .int (nI c_17.kn), .int (nI c_17.rk), .int (nI c_17.yn), .ref am.ry, .int (nI c_17.sp), .int (nI c_17.lg), .ref am.ti, .int (nI c_17.fo), .int (nI c_17.pt), .ref am.po, .ref am.su, .ref am.sq, .ref am.ch, .ref am.vt, .ref am.sh])), (am.rw, .inl (cI, 32, .inl c_17.wf)), (am.ry, .inl (cI, 256, .inl c_17.yf)), (am.ti, .inl (cI, 8, .inl c_17.tf)), (am.vt, .inl (cI, 4, .inl c_17.vf)), (am.sq, .inl (cJ, 256, .inr (.inl c_17.qf))), (am.ch, .inl (cI, 8, .inl (nf c_17.ck)))] := hD
      refine lv_aload_n hx hb d_M_pointed_24 rfl (lv_at hl 0 rfl) ?_
      refine va_get (D := D) (ci := 7) (v := .int (0 : Int32)) (C := cn_M) (T := ft_M) (N := 19) hx hb hf_M (fun _ h => h) hown hK hP 3 rfl rfl 0 (by decide) (gw.at G hx0 mw_713 rfl _) (fun _ h9 => h9) rfl d_M_pointed_25 ?_
      refine lv_if_ne (tgt := 35) hx hb d_M_pointed_28 (by decide) (fun h99 => absurd h99 (by decide)) (fun _ => ?_)
      refine lv_iconst (v := (1 : Int32)) hx hb d_M_pointed_31 (by decide) ?_
      refine lv_goto (tgt := 36) hx hb d_M_pointed_32 (by decide) ?_
      exact tx_mono (fun _ h => tx_Z.of h) (W.zret (v := (1 : Int32)) hx hb hr (by decide) (fun t ht hW => ⟨⟨[(am.m0, .inr (7, [.int (0 : Int32), .int (nI c_17.zs), .int (nI c_17.rn), .ref am.rw, .int (nI c_17.kn), .int (nI c_17.rk), .int (nI c_17.yn), .ref am.ry, .int (nI c_17.sp), .int (nI c_17.lg), .ref am.ti, .int (nI c_17.fo), .int (nI c_17.pt), .ref am.po, .ref am.su, .ref am.sq, .ref am.ch, .ref am.vt, .ref am.sh])), (am.rw, .inl (cI, 32, .inl c_17.wf)), (am.ry, .inl (cI, 256, .inl c_17.yf)), (am.ti, .inl (cI, 8, .inl c_17.tf)), (am.po, .inl (cI, 4000, .inl c_17.pf)), (am.su, .inl (cZ, 1000, .inl c_17.sf)), (am.sq, .inl (cJ, 256, .inr (.inl c_17.qf))), (am.ch, .inl (cI, 8, .inl (nf c_17.ck))), (am.vt, .inl (cI, 4, .inl c_17.vf)), (am.sh, .inl (cI, 4, .inl (nf c_17.sk)))], Or.inl (⟨(MCmk (0 : Int32) c_17.zs c_17.rn c_17.kn c_17.rk c_17.yn c_17.sp c_17.lg c_17.fo c_17.pt c_17.wf c_17.yf c_17.tf c_17.pf c_17.sf c_17.qf c_17.ck c_17.vf c_17.sk), rfl, hJ1, hS1, hk1, (show _ by first | exact h_18 | exact Nat.not_le.mp h_18), rfl, rfl⟩), by rw [ht]; exact hP.sub [3, 4, 5, 6, 0, 1, 8, 9, 7, 2] rfl, hD.sub [3, 4, 5, 6, 0, 1, 8, 9, 7, 2] (by decide) rfl⟩, hS.F ht⟩) hS.2.2 d_M_pointed_36)
    · have h_18 : ¬ (c_17.zs ≤ c_17.rk) := fun z99 => h_18 ((nI_leI (a := c_17.zs) (b := c_17.rk) (by omega) (by omega)).mpr z99)
      refine lv_iload_n hx hb d_M_pointed_16 rfl (lv_at hl 1 rfl) ?_
      refine lv_goto (tgt := 21) hx hb d_M_pointed_17 (by decide) ?_
      refine va_put (D := D) (ci := 7) (v := .int (2 : Int32)) (ty := .int) (C := cn_M) (T := ft_M) (N := 19) hx hb hf_M (fun _ h => h) fy_M fk_M fn_M hown hK hP hD hS 3 rfl rfl 0 (by decide) (gw.at G hx0 mw_713 rfl _) (fun _ h9 => h9) rfl (by decide +kernel) rfl rfl (Nat.le_of_ble_eq_true rfl) d_M_pointed_21 (fun H locs hP hD hS => ?_)
      have hP : va_P D kl [(am.po, .inl (cI, 4000, .inl c_17.pf)), (am.su, .inl (cZ, 1000, .inl c_17.sf)), (am.sh, .inl (cI, 4, .inl (nf c_17.sk))), (am.m0, .inr (7, [.int (2 : Int32), .int (nI c_17.zs), .int (nI c_17.rn), .ref am.rw, .int (nI c_17.kn), .int (nI c_17.rk), .int (nI c_17.yn), .ref am.ry, .int (nI c_17.sp), .int (nI c_17.lg), .ref am.ti, .int (nI c_17.fo), .int (nI c_17.pt), .ref am.po, .ref am.su, .ref am.sq, .ref am.ch, .ref am.vt, .ref am.sh])), (am.rw, .inl (cI, 32, .inl c_17.wf)), (am.ry, .inl (cI, 256, .inl c_17.yf)), (am.ti, .inl (cI, 8, .inl c_17.tf)), (am.vt, .inl (cI, 4, .inl c_17.vf)), (am.sq, .inl (cJ, 256, .inr (.inl c_17.qf))), (am.ch, .inl (cI, 8, .inl (nf c_17.ck)))] H := hP
      have hD : va_D A [(am.po, .inl (cI, 4000, .inl c_17.pf)), (am.su, .inl (cZ, 1000, .inl c_17.sf)), (am.sh, .inl (cI, 4, .inl (nf c_17.sk))), (am.m0, .inr (7, [.int (2 : Int32), .int (nI c_17.zs), .int (nI c_17.rn), .ref am.rw, .int (nI c_17.kn), .int (nI c_17.rk), .int (nI c_17.yn), .ref am.ry, .int (nI c_17.sp), .int (nI c_17.lg), .ref am.ti, .int (nI c_17.fo), .int (nI c_17.pt), .ref am.po, .ref am.su, .ref am.sq, .ref am.ch, .ref am.vt, .ref am.sh])), (am.rw, .inl (cI, 32, .inl c_17.wf)), (am.ry, .inl (cI, 256, .inl c_17.yf)), (am.ti, .inl (cI, 8, .inl c_17.tf)), (am.vt, .inl (cI, 4, .inl c_17.vf)), (am.sq, .inl (cJ, 256, .inr (.inl c_17.qf))), (am.ch, .inl (cI, 8, .inl (nf c_17.ck)))] := hD
      refine lv_aload_n hx hb d_M_pointed_24 rfl (lv_at hl 0 rfl) ?_
      refine va_get (D := D) (ci := 7) (v := .int (2 : Int32)) (C := cn_M) (T := ft_M) (N := 19) hx hb hf_M (fun _ h => h) hown hK hP 3 rfl rfl 0 (by decide) (gw.at G hx0 mw_713 rfl _) (fun _ h9 => h9) rfl d_M_pointed_25 ?_
      refine lv_if_ne (tgt := 35) hx hb d_M_pointed_28 (by decide) (fun _ => ?_) (fun h99 => absurd h99 (by decide))
      refine lv_iconst (v := (0 : Int32)) hx hb d_M_pointed_35 (by decide) ?_
      exact tx_mono (fun _ h => tx_Z.of h) (W.zret (v := (0 : Int32)) hx hb hr (by decide) (fun t ht hW => ⟨⟨[(am.m0, .inr (7, [.int (2 : Int32), .int (nI c_17.zs), .int (nI c_17.rn), .ref am.rw, .int (nI c_17.kn), .int (nI c_17.rk), .int (nI c_17.yn), .ref am.ry, .int (nI c_17.sp), .int (nI c_17.lg), .ref am.ti, .int (nI c_17.fo), .int (nI c_17.pt), .ref am.po, .ref am.su, .ref am.sq, .ref am.ch, .ref am.vt, .ref am.sh])), (am.rw, .inl (cI, 32, .inl c_17.wf)), (am.ry, .inl (cI, 256, .inl c_17.yf)), (am.ti, .inl (cI, 8, .inl c_17.tf)), (am.po, .inl (cI, 4000, .inl c_17.pf)), (am.su, .inl (cZ, 1000, .inl c_17.sf)), (am.sq, .inl (cJ, 256, .inr (.inl c_17.qf))), (am.ch, .inl (cI, 8, .inl (nf c_17.ck))), (am.vt, .inl (cI, 4, .inl c_17.vf)), (am.sh, .inl (cI, 4, .inl (nf c_17.sk)))], Or.inr (⟨(MCmk (2 : Int32) c_17.zs c_17.rn c_17.kn c_17.rk c_17.yn c_17.sp c_17.lg c_17.fo c_17.pt c_17.wf c_17.yf c_17.tf c_17.pf c_17.sf c_17.qf c_17.ck c_17.vf c_17.sk), rfl, hJ1, hS1, hk1, (show _ by first | exact h_18 | exact Nat.not_le.mp h_18), rfl, rfl⟩), by rw [ht]; exact hP.sub [3, 4, 5, 6, 0, 1, 8, 9, 7, 2] rfl, hD.sub [3, 4, 5, 6, 0, 1, 8, 9, 7, 2] (by decide) rfl⟩, hS.F ht⟩) hS.2.2 d_M_pointed_36)
  · refine cx_call (D := D) (cl := kl) (ws := _) (wc := [(am.m0, .inr (7, [.int cm.th, .int (nI cm.zs), .int (nI cm.rn), .ref am.rw, .int (nI cm.kn), .int (nI cm.rk), .int (nI cm.yn), .ref am.ry, .int (nI cm.sp), .int (nI cm.lg), .ref am.ti, .int (nI cm.fo), .int (nI cm.pt), .ref am.po, .ref am.su, .ref am.sq, .ref am.ch, .ref am.vt, .ref am.sh]))]) (wr := [(am.rw, .inl (cI, 32, .inl cm.wf)), (am.ry, .inl (cI, 256, .inl cm.yf)), (am.ti, .inl (cI, 8, .inl cm.tf)), (am.po, .inl (cI, 4000, .inl cm.pf)), (am.su, .inl (cZ, 1000, .inl cm.sf)), (am.sq, .inl (cJ, 256, .inr (.inl cm.qf))), (am.ch, .inl (cI, 8, .inl (nf cm.ck))), (am.vt, .inl (cI, 4, .inl cm.vf)), (am.sh, .inl (cI, 4, .inl (nf cm.sk)))]) (tx_runV (C := cn_M) (b := am.m0) (As := []) (rest := []) hx hb hml hown (c_M_know_k E s.heap.size am.m0 am.rw am.ry am.ti am.po am.su am.sq am.ch am.vt am.sh cm.th (nI cm.zs) (nI cm.rn) (nI cm.rk) (nI cm.yn) (nI cm.sp) (nI cm.lg) (nI cm.fo) (nI cm.pt) cm.kn (by omega)) (cx_C (b0 := b0) G hx0 mw_806 mw_9 ny_M_know (by decide)) (gw.at G hx0 mw_803 rfl _) (gw.at G hx0 mw_805 rfl _) (gw.at G hx0 ms_M_know rfl _) ⟨cx_blind, va_recv hK hP (q0 := 0) (ci := 7) (q := (cn_M, ft_M, 19)) rfl rfl, (cx_pre (s := s) hx0 hP hD hS hA0 [0] rfl rfl (by decide))⟩ rfl rfl hl.1 rfl (lv_room (Nat.le_of_ble_eq_true rfl)) d_M_pointed_1 ⟨by decide, by decide⟩) hP hD hS hA [0] [1, 2, 3, 4, 5, 6, 7, 8, 9] rfl rfl (by decide) (by decide) (fun v t w1 H locs ht hW9 hp hP hD hS => ?_) (fun x t w1 H locs ht hW9 hp hP hD hS => by obtain ⟨h9, -⟩ := hp; cases h9)
    obtain ⟨h9, rfl⟩ := hp
    cases h9
    refine W.eq (g2 := F0 m 4 ls []) rfl ?_
    refine W.widen (k := 0) (n := 0) (by decide) (by decide) ?_
    have hP : va_P D kl [(am.rw, .inl (cI, 32, .inl cm.wf)), (am.ry, .inl (cI, 256, .inl cm.yf)), (am.ti, .inl (cI, 8, .inl cm.tf)), (am.po, .inl (cI, 4000, .inl cm.pf)), (am.su, .inl (cZ, 1000, .inl cm.sf)), (am.sq, .inl (cJ, 256, .inr (.inl cm.qf))), (am.ch, .inl (cI, 8, .inl (nf cm.ck))), (am.vt, .inl (cI, 4, .inl cm.vf)), (am.sh, .inl (cI, 4, .inl (nf cm.sk))), (am.m0, .inr (7, [.int cm.th, .int (nI cm.zs), .int (nI cm.rn), .ref am.rw, .int (nI cm.kn), .int (nI cm.rk), .int (nI cm.yn), .ref am.ry, .int (nI cm.sp), .int (nI cm.lg), .ref am.ti, .int (nI cm.fo), .int (nI cm.pt), .ref am.po, .ref am.su, .ref am.sq, .ref am.ch, .ref am.vt, .ref am.sh]))] H := hP
    have hD : va_D A [(am.rw, .inl (cI, 32, .inl cm.wf)), (am.ry, .inl (cI, 256, .inl cm.yf)), (am.ti, .inl (cI, 8, .inl cm.tf)), (am.po, .inl (cI, 4000, .inl cm.pf)), (am.su, .inl (cZ, 1000, .inl cm.sf)), (am.sq, .inl (cJ, 256, .inr (.inl cm.qf))), (am.ch, .inl (cI, 8, .inl (nf cm.ck))), (am.vt, .inl (cI, 4, .inl cm.vf)), (am.sh, .inl (cI, 4, .inl (nf cm.sk))), (am.m0, .inr (7, [.int cm.th, .int (nI cm.zs), .int (nI cm.rn), .ref am.rw, .int (nI cm.kn), .int (nI cm.rk), .int (nI cm.yn), .ref am.ry, .int (nI cm.sp), .int (nI cm.lg), .ref am.ti, .int (nI cm.fo), .int (nI cm.pt), .ref am.po, .ref am.su, .ref am.sq, .ref am.ch, .ref am.vt, .ref am.sh]))] := hD
    obtain ⟨c_19, hc_19⟩ : ∃ x99 : MC, x99 = (MCmk cm.th cm.zs cm.rn cm.kn cm.rk cm.yn cm.sp cm.lg cm.fo cm.pt cm.wf cm.yf cm.tf cm.pf cm.sf cm.qf cm.ck cm.vf cm.sk) := ⟨_, rfl⟩
    have hP : va_P D kl [(am.rw, .inl (cI, 32, .inl c_19.wf)), (am.ry, .inl (cI, 256, .inl c_19.yf)), (am.ti, .inl (cI, 8, .inl c_19.tf)), (am.po, .inl (cI, 4000, .inl c_19.pf)), (am.su, .inl (cZ, 1000, .inl c_19.sf)), (am.sq, .inl (cJ, 256, .inr (.inl c_19.qf))), (am.ch, .inl (cI, 8, .inl (nf c_19.ck))), (am.vt, .inl (cI, 4, .inl c_19.vf)), (am.sh, .inl (cI, 4, .inl (nf c_19.sk))), (am.m0, .inr (7, [.int c_19.th, .int (nI c_19.zs), .int (nI c_19.rn), .ref am.rw, .int (nI c_19.kn), .int (nI c_19.rk), .int (nI c_19.yn), .ref am.ry, .int (nI c_19.sp), .int (nI c_19.lg), .ref am.ti, .int (nI c_19.fo), .int (nI c_19.pt), .ref am.po, .ref am.su, .ref am.sq, .ref am.ch, .ref am.vt, .ref am.sh]))] H := by subst hc_19; exact hP
    have hD : va_D A [(am.rw, .inl (cI, 32, .inl c_19.wf)), (am.ry, .inl (cI, 256, .inl c_19.yf)), (am.ti, .inl (cI, 8, .inl c_19.tf)), (am.po, .inl (cI, 4000, .inl c_19.pf)), (am.su, .inl (cZ, 1000, .inl c_19.sf)), (am.sq, .inl (cJ, 256, .inr (.inl c_19.qf))), (am.ch, .inl (cI, 8, .inl (nf c_19.ck))), (am.vt, .inl (cI, 4, .inl c_19.vf)), (am.sh, .inl (cI, 4, .inl (nf c_19.sk))), (am.m0, .inr (7, [.int c_19.th, .int (nI c_19.zs), .int (nI c_19.rn), .ref am.rw, .int (nI c_19.kn), .int (nI c_19.rk), .int (nI c_19.yn), .ref am.ry, .int (nI c_19.sp), .int (nI c_19.lg), .ref am.ti, .int (nI c_19.fo), .int (nI c_19.pt), .ref am.po, .ref am.su, .ref am.sq, .ref am.ch, .ref am.vt, .ref am.sh]))] := by subst hc_19; exact hD
    have hJ1 : MJ c_19 := by subst hc_19; exact hJ
    have hk1 : c_19.kn = 1 := by subst hc_19; exact (show cm.kn = 1 by omega)
    have hS1 : MS cm c_19 := by subst hc_19; exact ⟨rfl, rfl, rfl⟩
    have ht1 : c_19.th = cm.th := by subst hc_19; exact rfl
    have hz2 := hJ1.z2
    have hz4 := hJ1.z4
    have hr8 := hJ1.r8
    have hkn := hJ1.kn
    have hrk := hJ1.rk
    have hyn := hJ1.yn
    have hsp := hJ1.sp
    have hlg := hJ1.lg
    have hfo := hJ1.fo
    have hpt := hJ1.pt
    have hck := hJ1.ck
    have hsk := hJ1.sk
    have hro := hJ1.ro
    refine lv_aload_n hx hb d_M_pointed_4 rfl (lv_at hl 0 rfl) ?_
    refine lv_aload_n hx hb d_M_pointed_5 rfl (lv_at hl 0 rfl) ?_
    refine va_get (D := D) (ci := 7) (v := .int (nI c_19.rk)) (C := cn_M) (T := ft_M) (N := 19) hx hb hf_M (fun _ h => h) hown hK hP 9 rfl rfl 5 (by decide) (gw.at G hx0 mw_718 rfl _) (fun _ h9 => h9) rfl d_M_pointed_6 ?_
    refine lv_aload_n hx hb d_M_pointed_9 rfl (lv_at hl 0 rfl) ?_
    refine va_get (D := D) (ci := 7) (v := .int (nI c_19.zs)) (C := cn_M) (T := ft_M) (N := 19) hx hb hf_M (fun _ h => h) hown hK hP 9 rfl rfl 1 (by decide) (gw.at G hx0 mw_714 rfl _) (fun _ h9 => h9) rfl d_M_pointed_10 ?_
    refine lv_icmp_ge (tgt := 20) hx hb d_M_pointed_13 (by decide) (fun h_20 => ?_) (fun h_20 => ?_)
    · have h_20 : c_19.zs ≤ c_19.rk := (nI_leI (a := c_19.zs) (b := c_19.rk) (by omega) (by omega)).mp h_20
      refine lv_iconst (v := (0 : Int32)) hx hb d_M_pointed_20 (by decide) ?_
      refine va_put (D := D) (ci := 7) (v := .int (0 : Int32)) (ty := .int) (C := cn_M) (T := ft_M) (N := 19) hx hb hf_M (fun _ h => h) fy_M fk_M fn_M hown hK hP hD hS 9 rfl rfl 0 (by decide) (gw.at G hx0 mw_713 rfl _) (fun _ h9 => h9) rfl (by decide +kernel) rfl rfl (Nat.le_of_ble_eq_true rfl) d_M_pointed_21 (fun H locs hP hD hS => ?_)
      have hP : va_P D kl [(am.rw, .inl (cI, 32, .inl c_19.wf)), (am.ry, .inl (cI, 256, .inl c_19.yf)), (am.ti, .inl (cI, 8, .inl c_19.tf)), (am.po, .inl (cI, 4000, .inl c_19.pf)), (am.su, .inl (cZ, 1000, .inl c_19.sf)), (am.sq, .inl (cJ, 256, .inr (.inl c_19.qf))), (am.ch, .inl (cI, 8, .inl (nf c_19.ck))), (am.vt, .inl (cI, 4, .inl c_19.vf)), (am.sh, .inl (cI, 4, .inl (nf c_19.sk))), (am.m0, .inr (7, [.int (0 : Int32), .int (nI c_19.zs), .int (nI c_19.rn), .ref am.rw, .int (nI c_19.kn), .int (nI c_19.rk), .int (nI c_19.yn), .ref am.ry, .int (nI c_19.sp), .int (nI c_19.lg), .ref am.ti, .int (nI c_19.fo), .int (nI c_19.pt), .ref am.po, .ref am.su, .ref am.sq, .ref am.ch, .ref am.vt, .ref am.sh]))] H := hP
      have hD : va_D A [(am.rw, .inl (cI, 32, .inl c_19.wf)), (am.ry, .inl (cI, 256, .inl c_19.yf)), (am.ti, .inl (cI, 8, .inl c_19.tf)), (am.po, .inl (cI, 4000, .inl c_19.pf)), (am.su, .inl (cZ, 1000, .inl c_19.sf)), (am.sq, .inl (cJ, 256, .inr (.inl c_19.qf))), (am.ch, .inl (cI, 8, .inl (nf c_19.ck))), (am.vt, .inl (cI, 4, .inl c_19.vf)), (am.sh, .inl (cI, 4, .inl (nf c_19.sk))), (am.m0, .inr (7, [.int (0 : Int32), .int (nI c_19.zs), .int (nI c_19.rn), .ref am.rw, .int (nI c_19.kn), .int (nI c_19.rk), .int (nI c_19.yn), .ref am.ry, .int (nI c_19.sp), .int (nI c_19.lg), .ref am.ti, .int (nI c_19.fo), .int (nI c_19.pt), .ref am.po, .ref am.su, .ref am.sq, .ref am.ch, .ref am.vt, .ref am.sh]))] := hD
      refine lv_aload_n hx hb d_M_pointed_24 rfl (lv_at hl 0 rfl) ?_
      refine va_get (D := D) (ci := 7) (v := .int (0 : Int32)) (C := cn_M) (T := ft_M) (N := 19) hx hb hf_M (fun _ h => h) hown hK hP 9 rfl rfl 0 (by decide) (gw.at G hx0 mw_713 rfl _) (fun _ h9 => h9) rfl d_M_pointed_25 ?_
      refine lv_if_ne (tgt := 35) hx hb d_M_pointed_28 (by decide) (fun h99 => absurd h99 (by decide)) (fun _ => ?_)
      refine lv_iconst (v := (1 : Int32)) hx hb d_M_pointed_31 (by decide) ?_
      refine lv_goto (tgt := 36) hx hb d_M_pointed_32 (by decide) ?_
      exact tx_mono (fun _ h => tx_Z.of h) (W.zret (v := (1 : Int32)) hx hb hr (by decide) (fun t ht hW => ⟨⟨[(am.m0, .inr (7, [.int (0 : Int32), .int (nI c_19.zs), .int (nI c_19.rn), .ref am.rw, .int (nI c_19.kn), .int (nI c_19.rk), .int (nI c_19.yn), .ref am.ry, .int (nI c_19.sp), .int (nI c_19.lg), .ref am.ti, .int (nI c_19.fo), .int (nI c_19.pt), .ref am.po, .ref am.su, .ref am.sq, .ref am.ch, .ref am.vt, .ref am.sh])), (am.rw, .inl (cI, 32, .inl c_19.wf)), (am.ry, .inl (cI, 256, .inl c_19.yf)), (am.ti, .inl (cI, 8, .inl c_19.tf)), (am.po, .inl (cI, 4000, .inl c_19.pf)), (am.su, .inl (cZ, 1000, .inl c_19.sf)), (am.sq, .inl (cJ, 256, .inr (.inl c_19.qf))), (am.ch, .inl (cI, 8, .inl (nf c_19.ck))), (am.vt, .inl (cI, 4, .inl c_19.vf)), (am.sh, .inl (cI, 4, .inl (nf c_19.sk)))], Or.inl (⟨(MCmk (0 : Int32) c_19.zs c_19.rn c_19.kn c_19.rk c_19.yn c_19.sp c_19.lg c_19.fo c_19.pt c_19.wf c_19.yf c_19.tf c_19.pf c_19.sf c_19.qf c_19.ck c_19.vf c_19.sk), rfl, hJ1, hS1, hk1, (show _ by first | exact h_20 | exact Nat.not_le.mp h_20), rfl, rfl⟩), by rw [ht]; exact hP.sub [9, 0, 1, 2, 3, 4, 5, 6, 7, 8] rfl, hD.sub [9, 0, 1, 2, 3, 4, 5, 6, 7, 8] (by decide) rfl⟩, hS.F ht⟩) hS.2.2 d_M_pointed_36)
    · have h_20 : ¬ (c_19.zs ≤ c_19.rk) := fun z99 => h_20 ((nI_leI (a := c_19.zs) (b := c_19.rk) (by omega) (by omega)).mpr z99)
      refine lv_iload_n hx hb d_M_pointed_16 rfl (lv_at hl 1 rfl) ?_
      refine lv_goto (tgt := 21) hx hb d_M_pointed_17 (by decide) ?_
      refine va_put (D := D) (ci := 7) (v := .int (2 : Int32)) (ty := .int) (C := cn_M) (T := ft_M) (N := 19) hx hb hf_M (fun _ h => h) fy_M fk_M fn_M hown hK hP hD hS 9 rfl rfl 0 (by decide) (gw.at G hx0 mw_713 rfl _) (fun _ h9 => h9) rfl (by decide +kernel) rfl rfl (Nat.le_of_ble_eq_true rfl) d_M_pointed_21 (fun H locs hP hD hS => ?_)
      have hP : va_P D kl [(am.rw, .inl (cI, 32, .inl c_19.wf)), (am.ry, .inl (cI, 256, .inl c_19.yf)), (am.ti, .inl (cI, 8, .inl c_19.tf)), (am.po, .inl (cI, 4000, .inl c_19.pf)), (am.su, .inl (cZ, 1000, .inl c_19.sf)), (am.sq, .inl (cJ, 256, .inr (.inl c_19.qf))), (am.ch, .inl (cI, 8, .inl (nf c_19.ck))), (am.vt, .inl (cI, 4, .inl c_19.vf)), (am.sh, .inl (cI, 4, .inl (nf c_19.sk))), (am.m0, .inr (7, [.int (2 : Int32), .int (nI c_19.zs), .int (nI c_19.rn), .ref am.rw, .int (nI c_19.kn), .int (nI c_19.rk), .int (nI c_19.yn), .ref am.ry, .int (nI c_19.sp), .int (nI c_19.lg), .ref am.ti, .int (nI c_19.fo), .int (nI c_19.pt), .ref am.po, .ref am.su, .ref am.sq, .ref am.ch, .ref am.vt, .ref am.sh]))] H := hP
      have hD : va_D A [(am.rw, .inl (cI, 32, .inl c_19.wf)), (am.ry, .inl (cI, 256, .inl c_19.yf)), (am.ti, .inl (cI, 8, .inl c_19.tf)), (am.po, .inl (cI, 4000, .inl c_19.pf)), (am.su, .inl (cZ, 1000, .inl c_19.sf)), (am.sq, .inl (cJ, 256, .inr (.inl c_19.qf))), (am.ch, .inl (cI, 8, .inl (nf c_19.ck))), (am.vt, .inl (cI, 4, .inl c_19.vf)), (am.sh, .inl (cI, 4, .inl (nf c_19.sk))), (am.m0, .inr (7, [.int (2 : Int32), .int (nI c_19.zs), .int (nI c_19.rn), .ref am.rw, .int (nI c_19.kn), .int (nI c_19.rk), .int (nI c_19.yn), .ref am.ry, .int (nI c_19.sp), .int (nI c_19.lg), .ref am.ti, .int (nI c_19.fo), .int (nI c_19.pt), .ref am.po, .ref am.su, .ref am.sq, .ref am.ch, .ref am.vt, .ref am.sh]))] := hD
      refine lv_aload_n hx hb d_M_pointed_24 rfl (lv_at hl 0 rfl) ?_
      refine va_get (D := D) (ci := 7) (v := .int (2 : Int32)) (C := cn_M) (T := ft_M) (N := 19) hx hb hf_M (fun _ h => h) hown hK hP 9 rfl rfl 0 (by decide) (gw.at G hx0 mw_713 rfl _) (fun _ h9 => h9) rfl d_M_pointed_25 ?_
      refine lv_if_ne (tgt := 35) hx hb d_M_pointed_28 (by decide) (fun _ => ?_) (fun h99 => absurd h99 (by decide))
      refine lv_iconst (v := (0 : Int32)) hx hb d_M_pointed_35 (by decide) ?_
      exact tx_mono (fun _ h => tx_Z.of h) (W.zret (v := (0 : Int32)) hx hb hr (by decide) (fun t ht hW => ⟨⟨[(am.m0, .inr (7, [.int (2 : Int32), .int (nI c_19.zs), .int (nI c_19.rn), .ref am.rw, .int (nI c_19.kn), .int (nI c_19.rk), .int (nI c_19.yn), .ref am.ry, .int (nI c_19.sp), .int (nI c_19.lg), .ref am.ti, .int (nI c_19.fo), .int (nI c_19.pt), .ref am.po, .ref am.su, .ref am.sq, .ref am.ch, .ref am.vt, .ref am.sh])), (am.rw, .inl (cI, 32, .inl c_19.wf)), (am.ry, .inl (cI, 256, .inl c_19.yf)), (am.ti, .inl (cI, 8, .inl c_19.tf)), (am.po, .inl (cI, 4000, .inl c_19.pf)), (am.su, .inl (cZ, 1000, .inl c_19.sf)), (am.sq, .inl (cJ, 256, .inr (.inl c_19.qf))), (am.ch, .inl (cI, 8, .inl (nf c_19.ck))), (am.vt, .inl (cI, 4, .inl c_19.vf)), (am.sh, .inl (cI, 4, .inl (nf c_19.sk)))], Or.inr (⟨(MCmk (2 : Int32) c_19.zs c_19.rn c_19.kn c_19.rk c_19.yn c_19.sp c_19.lg c_19.fo c_19.pt c_19.wf c_19.yf c_19.tf c_19.pf c_19.sf c_19.qf c_19.ck c_19.vf c_19.sk), rfl, hJ1, hS1, hk1, (show _ by first | exact h_20 | exact Nat.not_le.mp h_20), rfl, rfl⟩), by rw [ht]; exact hP.sub [9, 0, 1, 2, 3, 4, 5, 6, 7, 8] rfl, hD.sub [9, 0, 1, 2, 3, 4, 5, 6, 7, 8] (by decide) rfl⟩, hS.F ht⟩) hS.2.2 d_M_pointed_36)

set_option maxHeartbeats 4000000 in
set_option maxRecDepth 100000 in
theorem c_M_based1 {l : Launch} {s0 : State} {b0 : Addr} {D : va_G} {cI cJ cZ : ClassId} {tC tS : Nat} (E : gE l s0 b0 D cI cJ cZ tC tS) (sz : Nat) (am : MA) (cm : MC) (hT9 : MTH) (hJ : MJ cm) : cx_M l s0 D kl y_M_based b_M_based 2 (some .boolean) ({ frames := 6, cells := 0, slots := 0, locals := 153 } : Room) 0 0 [.ref am.m0, .int (1 : Int32)] [(am.m0, .inr (7, [.int cm.th, .int (nI cm.zs), .int (nI cm.rn), .ref am.rw, .int (nI cm.kn), .int (nI cm.rk), .int (nI cm.yn), .ref am.ry, .int (nI cm.sp), .int (nI cm.lg), .ref am.ti, .int (nI cm.fo), .int (nI cm.pt), .ref am.po, .ref am.su, .ref am.sq, .ref am.ch, .ref am.vt, .ref am.sh])), (am.rw, .inl (cI, 32, .inl cm.wf)), (am.ry, .inl (cI, 256, .inl cm.yf)), (am.ti, .inl (cI, 8, .inl cm.tf)), (am.po, .inl (cI, 4000, .inl cm.pf)), (am.su, .inl (cZ, 1000, .inl cm.sf)), (am.sq, .inl (cJ, 256, .inr (.inl cm.qf))), (am.ch, .inl (cI, 8, .inl (nf cm.ck))), (am.vt, .inl (cI, 4, .inl cm.vf)), (am.sh, .inl (cI, 4, .inl (nf cm.sk)))] sz (fun o9 t9 w9 => (∃ (c9 : MC), o9 = .returned (some (.int (1 : Int32))) ∧ MJ c9 ∧ MS cm c9 ∧ c9.kn = 1 ∧ c9.zs ≤ c9.rk ∧ c9.lg = 0 ∧ c9.fo = 1 ∧ c9.th = 0 ∧ w9 = [(am.m0, .inr (7, [.int c9.th, .int (nI c9.zs), .int (nI c9.rn), .ref am.rw, .int (nI c9.kn), .int (nI c9.rk), .int (nI c9.yn), .ref am.ry, .int (nI c9.sp), .int (nI c9.lg), .ref am.ti, .int (nI c9.fo), .int (nI c9.pt), .ref am.po, .ref am.su, .ref am.sq, .ref am.ch, .ref am.vt, .ref am.sh])), (am.rw, .inl (cI, 32, .inl c9.wf)), (am.ry, .inl (cI, 256, .inl c9.yf)), (am.ti, .inl (cI, 8, .inl c9.tf)), (am.po, .inl (cI, 4000, .inl c9.pf)), (am.su, .inl (cZ, 1000, .inl c9.sf)), (am.sq, .inl (cJ, 256, .inr (.inl c9.qf))), (am.ch, .inl (cI, 8, .inl (nf c9.ck))), (am.vt, .inl (cI, 4, .inl c9.vf)), (am.sh, .inl (cI, 4, .inl (nf c9.sk)))]) ∨ (∃ (c9 : MC), o9 = .returned (some (.int (0 : Int32))) ∧ MJ c9 ∧ MS cm c9 ∧ c9.kn = 1 ∧ (c9.rk < c9.zs ∨ (c9.zs ≤ c9.rk ∧ c9.lg = 1)) ∧ c9.th = 1 ∧ w9 = [(am.m0, .inr (7, [.int c9.th, .int (nI c9.zs), .int (nI c9.rn), .ref am.rw, .int (nI c9.kn), .int (nI c9.rk), .int (nI c9.yn), .ref am.ry, .int (nI c9.sp), .int (nI c9.lg), .ref am.ti, .int (nI c9.fo), .int (nI c9.pt), .ref am.po, .ref am.su, .ref am.sq, .ref am.ch, .ref am.vt, .ref am.sh])), (am.rw, .inl (cI, 32, .inl c9.wf)), (am.ry, .inl (cI, 256, .inl c9.yf)), (am.ti, .inl (cI, 8, .inl c9.tf)), (am.po, .inl (cI, 4000, .inl c9.pf)), (am.su, .inl (cZ, 1000, .inl c9.sf)), (am.sq, .inl (cJ, 256, .inr (.inl c9.qf))), (am.ch, .inl (cI, 8, .inl (nf c9.ck))), (am.vt, .inl (cI, 4, .inl c9.vf)), (am.sh, .inl (cI, 4, .inl (nf c9.sk)))])) := by
  refine tx_ofW (cc := b_M_based) (maxL := 2) (ret := (some .boolean)) (by decide) rfl ?_
  intro p e s m args below meth c s₁ B hml hT hv
  obtain ⟨rfl, hsz, hP, hD0, hx0⟩ := hv
  have hx := B.exec
  have hb := B.bytes
  have hr := B.returns
  have G := E.2.1
  have hown : s.vm.findClass cn_M = some m.cls := findClass_of_methodNamed B.named
  have hlocks := B.notSynchronized
  have hK := va_K.moved hx0.1.alike E.2.2.1
  have hf_M : ∀ w99 ∈ u_ws cn_M ft_M 19, w99.before ([.ref am.m0, .int (1 : Int32)] : List Value).toArray s = true := fun w99 h99 => gw.at G hx0 (fw_M w99 h99) (fo_M w99 h99) _
  subst hsz
  have hA0 := cx_new hD0 hx0.2.1
  have hD := hD0.self (sz := s.heap.size)
  generalize hAe : va_A [(am.m0, .inr (7, [.int cm.th, .int (nI cm.zs), .int (nI cm.rn), .ref am.rw, .int (nI cm.kn), .int (nI cm.rk), .int (nI cm.yn), .ref am.ry, .int (nI cm.sp), .int (nI cm.lg), .ref am.ti, .int (nI cm.fo), .int (nI cm.pt), .ref am.po, .ref am.su, .ref am.sq, .ref am.ch, .ref am.vt, .ref am.sh])), (am.rw, .inl (cI, 32, .inl cm.wf)), (am.ry, .inl (cI, 256, .inl cm.yf)), (am.ti, .inl (cI, 8, .inl cm.tf)), (am.po, .inl (cI, 4000, .inl cm.pf)), (am.su, .inl (cZ, 1000, .inl cm.sf)), (am.sq, .inl (cJ, 256, .inr (.inl cm.qf))), (am.ch, .inl (cI, 8, .inl (nf cm.ck))), (am.vt, .inl (cI, 4, .inl cm.vf)), (am.sh, .inl (cI, 4, .inl (nf cm.sk)))] s.heap.size = A at hD hA0 ⊢
  have hA : ∀ q : Nat, s.heap.size ≤ q → A q := fun q h => by rw [← hAe]; exact Or.inr h
  have hS : va_S A s.heap s.heap [] := va_S.rf
  have hl := lv_entry ([.ref am.m0, .int (1 : Int32)]) (n := 2) (Nat.le_of_ble_eq_true rfl)
  rw [lg_entry_eq]
  generalize (lg_sl ([.ref am.m0, .int (1 : Int32)]) ++ List.replicate (2 - (lg_sl ([.ref am.m0, .int (1 : Int32)])).length) Slot.unset).toArray = ls at hl ⊢
  have hl : lv_has ls 2 [(0, .ref am.m0), (1, .int (1 : Int32))] := hl
  have hP : va_P D kl [(am.m0, .inr (7, [.int cm.th, .int (nI cm.zs), .int (nI cm.rn), .ref am.rw, .int (nI cm.kn), .int (nI cm.rk), .int (nI cm.yn), .ref am.ry, .int (nI cm.sp), .int (nI cm.lg), .ref am.ti, .int (nI cm.fo), .int (nI cm.pt), .ref am.po, .ref am.su, .ref am.sq, .ref am.ch, .ref am.vt, .ref am.sh])), (am.rw, .inl (cI, 32, .inl cm.wf)), (am.ry, .inl (cI, 256, .inl cm.yf)), (am.ti, .inl (cI, 8, .inl cm.tf)), (am.po, .inl (cI, 4000, .inl cm.pf)), (am.su, .inl (cZ, 1000, .inl cm.sf)), (am.sq, .inl (cJ, 256, .inr (.inl cm.qf))), (am.ch, .inl (cI, 8, .inl (nf cm.ck))), (am.vt, .inl (cI, 4, .inl cm.vf)), (am.sh, .inl (cI, 4, .inl (nf cm.sk)))] s.heap := hP
  have hml : c.maxLocals = 2 := hml
  have hz2 := hJ.z2
  have hz4 := hJ.z4
  have hr8 := hJ.r8
  have hkn := hJ.kn
  have hrk := hJ.rk
  have hyn := hJ.yn
  have hsp := hJ.sp
  have hlg := hJ.lg
  have hfo := hJ.fo
  have hpt := hJ.pt
  have hck := hJ.ck
  have hsk := hJ.sk
  have hro := hJ.ro
  refine lv_aload_n hx hb d_M_based_0 rfl (lv_at hl 0 rfl) ?_
  refine lv_iload_n hx hb d_M_based_1 rfl (lv_at hl 1 rfl) ?_
  refine cx_call (D := D) (cl := kl) (ws := _) (wc := [(am.m0, .inr (7, [.int cm.th, .int (nI cm.zs), .int (nI cm.rn), .ref am.rw, .int (nI cm.kn), .int (nI cm.rk), .int (nI cm.yn), .ref am.ry, .int (nI cm.sp), .int (nI cm.lg), .ref am.ti, .int (nI cm.fo), .int (nI cm.pt), .ref am.po, .ref am.su, .ref am.sq, .ref am.ch, .ref am.vt, .ref am.sh])), (am.rw, .inl (cI, 32, .inl cm.wf)), (am.ry, .inl (cI, 256, .inl cm.yf)), (am.ti, .inl (cI, 8, .inl cm.tf)), (am.po, .inl (cI, 4000, .inl cm.pf)), (am.su, .inl (cZ, 1000, .inl cm.sf)), (am.sq, .inl (cJ, 256, .inr (.inl cm.qf))), (am.ch, .inl (cI, 8, .inl (nf cm.ck))), (am.vt, .inl (cI, 4, .inl cm.vf)), (am.sh, .inl (cI, 4, .inl (nf cm.sk)))]) (wr := []) (tx_runV (C := cn_M) (b := am.m0) (As := [.int (1 : Int32)]) (rest := []) hx hb hml hown (c_M_pointed1 E s.heap.size am cm hT9 hJ) (cx_C (b0 := b0) G hx0 mw_881 mw_9 ny_M_pointed (by decide)) (gw.at G hx0 mw_878 rfl _) (gw.at G hx0 mw_880 rfl _) (gw.at G hx0 ms_M_pointed rfl _) ⟨cx_blind, va_recv hK hP (q0 := 0) (ci := 7) (q := (cn_M, ft_M, 19)) rfl rfl, (cx_pre (s := s) hx0 hP hD hS hA0 [0, 1, 2, 3, 4, 5, 6, 7, 8, 9] rfl rfl (by decide))⟩ rfl rfl hl.1 rfl (lv_room (Nat.le_of_ble_eq_true rfl)) d_M_based_2 ⟨by decide, by decide⟩) hP hD hS hA [0, 1, 2, 3, 4, 5, 6, 7, 8, 9] [] rfl rfl (by decide) (by decide) (fun v t w1 H locs ht hW9 hp hP hD hS => ?_) (fun x t w1 H locs ht hW9 hp hP hD hS => ?_)
  · rcases hp with hp | hp
    · obtain ⟨c9_1, h9, f_2, f_3, f_4, f_5, f_6, rfl⟩ := hp
      cases h9
      refine W.eq (g2 := F0 m 5 ls [.int (1 : Int32)]) rfl ?_
      refine W.widen (k := 0) (n := 0) (by decide) (by decide) ?_
      have hP : va_P D kl [(am.m0, .inr (7, [.int c9_1.th, .int (nI c9_1.zs), .int (nI c9_1.rn), .ref am.rw, .int (nI c9_1.kn), .int (nI c9_1.rk), .int (nI c9_1.yn), .ref am.ry, .int (nI c9_1.sp), .int (nI c9_1.lg), .ref am.ti, .int (nI c9_1.fo), .int (nI c9_1.pt), .ref am.po, .ref am.su, .ref am.sq, .ref am.ch, .ref am.vt, .ref am.sh])), (am.rw, .inl (cI, 32, .inl c9_1.wf)), (am.ry, .inl (cI, 256, .inl c9_1.yf)), (am.ti, .inl (cI, 8, .inl c9_1.tf)), (am.po, .inl (cI, 4000, .inl c9_1.pf)), (am.su, .inl (cZ, 1000, .inl c9_1.sf)), (am.sq, .inl (cJ, 256, .inr (.inl c9_1.qf))), (am.ch, .inl (cI, 8, .inl (nf c9_1.ck))), (am.vt, .inl (cI, 4, .inl c9_1.vf)), (am.sh, .inl (cI, 4, .inl (nf c9_1.sk)))] H := hP
      have hD : va_D A [(am.m0, .inr (7, [.int c9_1.th, .int (nI c9_1.zs), .int (nI c9_1.rn), .ref am.rw, .int (nI c9_1.kn), .int (nI c9_1.rk), .int (nI c9_1.yn), .ref am.ry, .int (nI c9_1.sp), .int (nI c9_1.lg), .ref am.ti, .int (nI c9_1.fo), .int (nI c9_1.pt), .ref am.po, .ref am.su, .ref am.sq, .ref am.ch, .ref am.vt, .ref am.sh])), (am.rw, .inl (cI, 32, .inl c9_1.wf)), (am.ry, .inl (cI, 256, .inl c9_1.yf)), (am.ti, .inl (cI, 8, .inl c9_1.tf)), (am.po, .inl (cI, 4000, .inl c9_1.pf)), (am.su, .inl (cZ, 1000, .inl c9_1.sf)), (am.sq, .inl (cJ, 256, .inr (.inl c9_1.qf))), (am.ch, .inl (cI, 8, .inl (nf c9_1.ck))), (am.vt, .inl (cI, 4, .inl c9_1.vf)), (am.sh, .inl (cI, 4, .inl (nf c9_1.sk)))] := hD
      have hJ1 := f_2
      have hS1 := f_3
      have hk1 : c9_1.kn = 1 := f_4
      have hz2 := hJ1.z2
      have hz4 := hJ1.z4
      have hr8 := hJ1.r8
      have hkn := hJ1.kn
      have hrk := hJ1.rk
      have hyn := hJ1.yn
      have hsp := hJ1.sp
      have hlg := hJ1.lg
      have hfo := hJ1.fo
      have hpt := hJ1.pt
      have hck := hJ1.ck
      have hsk := hJ1.sk
      have hro := hJ1.ro
      refine lv_if_ne (tgt := 10) hx hb d_M_based_5 (by decide) (fun _ => ?_) (fun h99 => absurd h99 (by decide))
      refine lv_aload_n hx hb d_M_based_10 rfl (lv_at hl 0 rfl) ?_
      refine lv_aload_n hx hb d_M_based_11 rfl (lv_at hl 0 rfl) ?_
      refine va_get (D := D) (ci := 7) (v := .int (nI c9_1.lg)) (C := cn_M) (T := ft_M) (N := 19) hx hb hf_M (fun _ h => h) hown hK hP 0 rfl rfl 9 (by decide) (gw.at G hx0 mw_722 rfl _) (fun _ h9 => h9) rfl d_M_based_12 ?_
      refine lv_if_eq (tgt := 22) hx hb d_M_based_15 (by decide) (fun h_7 => ?_) (fun h_7 => ?_)
      · have h_7 : c9_1.lg = 0 := (nI_eq (a := c9_1.lg) (b := 0) (by omega) (by omega)).mp h_7
        refine lv_iconst (v := (0 : Int32)) hx hb d_M_based_22 (by decide) ?_
        refine va_put (D := D) (ci := 7) (v := .int (0 : Int32)) (ty := .int) (C := cn_M) (T := ft_M) (N := 19) hx hb hf_M (fun _ h => h) fy_M fk_M fn_M hown hK hP hD hS 0 rfl rfl 0 (by decide) (gw.at G hx0 mw_713 rfl _) (fun _ h9 => h9) rfl (by decide +kernel) rfl rfl (Nat.le_of_ble_eq_true rfl) d_M_based_23 (fun H locs hP hD hS => ?_)
        have hP : va_P D kl [(am.m0, .inr (7, [.int (0 : Int32), .int (nI c9_1.zs), .int (nI c9_1.rn), .ref am.rw, .int (nI c9_1.kn), .int (nI c9_1.rk), .int (nI c9_1.yn), .ref am.ry, .int (nI c9_1.sp), .int (nI c9_1.lg), .ref am.ti, .int (nI c9_1.fo), .int (nI c9_1.pt), .ref am.po, .ref am.su, .ref am.sq, .ref am.ch, .ref am.vt, .ref am.sh])), (am.rw, .inl (cI, 32, .inl c9_1.wf)), (am.ry, .inl (cI, 256, .inl c9_1.yf)), (am.ti, .inl (cI, 8, .inl c9_1.tf)), (am.po, .inl (cI, 4000, .inl c9_1.pf)), (am.su, .inl (cZ, 1000, .inl c9_1.sf)), (am.sq, .inl (cJ, 256, .inr (.inl c9_1.qf))), (am.ch, .inl (cI, 8, .inl (nf c9_1.ck))), (am.vt, .inl (cI, 4, .inl c9_1.vf)), (am.sh, .inl (cI, 4, .inl (nf c9_1.sk)))] H := hP
        have hD : va_D A [(am.m0, .inr (7, [.int (0 : Int32), .int (nI c9_1.zs), .int (nI c9_1.rn), .ref am.rw, .int (nI c9_1.kn), .int (nI c9_1.rk), .int (nI c9_1.yn), .ref am.ry, .int (nI c9_1.sp), .int (nI c9_1.lg), .ref am.ti, .int (nI c9_1.fo), .int (nI c9_1.pt), .ref am.po, .ref am.su, .ref am.sq, .ref am.ch, .ref am.vt, .ref am.sh])), (am.rw, .inl (cI, 32, .inl c9_1.wf)), (am.ry, .inl (cI, 256, .inl c9_1.yf)), (am.ti, .inl (cI, 8, .inl c9_1.tf)), (am.po, .inl (cI, 4000, .inl c9_1.pf)), (am.su, .inl (cZ, 1000, .inl c9_1.sf)), (am.sq, .inl (cJ, 256, .inr (.inl c9_1.qf))), (am.ch, .inl (cI, 8, .inl (nf c9_1.ck))), (am.vt, .inl (cI, 4, .inl c9_1.vf)), (am.sh, .inl (cI, 4, .inl (nf c9_1.sk)))] := hD
        refine lv_aload_n hx hb d_M_based_26 rfl (lv_at hl 0 rfl) ?_
        refine va_get (D := D) (ci := 7) (v := .int (nI c9_1.lg)) (C := cn_M) (T := ft_M) (N := 19) hx hb hf_M (fun _ h => h) hown hK hP 0 rfl rfl 9 (by decide) (gw.at G hx0 mw_722 rfl _) (fun _ h9 => h9) rfl d_M_based_27 ?_
        refine lv_if_ne (tgt := 37) hx hb d_M_based_30 (by decide) (fun h99 => absurd h99 (not_not_intro ((nI_eq (a := c9_1.lg) (b := 0) (by omega) (by omega)).mpr (by omega)))) (fun _ => ?_)
        have hlg0 : c9_1.lg = 0 := by have z9 := h_7; omega
        have hyn8 : c9_1.yn ≤ 8 := by obtain ⟨-, -, z9⟩ := hJ1.k1 hk1; obtain ⟨-, -, -, z8⟩ := z9 f_5; rcases z8 with z7 | z7; exact absurd z7.1 (by rw [hlg0]; decide); exact z7.2.1
        refine lv_aload_n hx hb d_M_based_33 rfl (lv_at hl 0 rfl) ?_
        by_cases h_8 : c9_1.fo = 0
        · refine cx_call (D := D) (cl := kl) (ws := _) (wc := [(am.m0, .inr (7, [.int (0 : Int32), .int (nI c9_1.zs), .int (nI c9_1.rn), .ref am.rw, .int (nI c9_1.kn), .int (nI c9_1.rk), .int (nI c9_1.yn), .ref am.ry, .int (nI c9_1.sp), .int (nI c9_1.lg), .ref am.ti, .int (nI c9_1.fo), .int (nI c9_1.pt), .ref am.po, .ref am.su, .ref am.sq, .ref am.ch, .ref am.vt, .ref am.sh])), (am.rw, .inl (cI, 32, .inl c9_1.wf)), (am.ry, .inl (cI, 256, .inl c9_1.yf)), (am.po, .inl (cI, 4000, .inl c9_1.pf)), (am.vt, .inl (cI, 4, .inl c9_1.vf)), (am.su, .inl (cZ, 1000, .inl c9_1.sf)), (am.sq, .inl (cJ, 256, .inr (.inl c9_1.qf))), (am.ch, .inl (cI, 8, .inl (nf c9_1.ck))), (am.sh, .inl (cI, 4, .inl (nf c9_1.sk)))]) (wr := [(am.ti, .inl (cI, 8, .inl c9_1.tf))]) (tx_runV (C := cn_M) (b := am.m0) (As := []) (rest := []) hx hb hml hown (c_M_find_u E H.size am.m0 am.rw am.ry am.ti am.po am.su am.sq am.ch am.vt am.sh (0 : Int32) (nI c9_1.rk) (nI c9_1.lg) (nI c9_1.pt) c9_1.zs c9_1.rn c9_1.kn c9_1.fo c9_1.yn c9_1.sp c9_1.wf c9_1.yf c9_1.pf c9_1.vf c9_1.sf c9_1.qf c9_1.ck c9_1.sk hk1 h_8 hz4 hr8 hyn8 hsp hck hsk (hT9.2.1 _ _ _ _ _ _ _ _ _ hz2 hz4 hr8 hro (hJ1.k1 hk1) f_5 hlg0)) (cx_C (b0 := b0) G hx0 mw_909 mw_9 ny_M_find (by decide)) (gw.at G hx0 mw_906 rfl _) (gw.at G hx0 mw_908 rfl _) (gw.at G hx0 ms_M_find rfl _) ⟨cx_blind, va_recv hK hP (q0 := 0) (ci := 7) (q := (cn_M, ft_M, 19)) rfl rfl, (cx_pre (s := s) hx0 hP hD hS hA0 [0, 1, 2, 4, 8, 5, 6, 7, 9] rfl rfl (by decide))⟩ rfl rfl hl.1 rfl (lv_room (Nat.le_of_ble_eq_true rfl)) d_M_based_34 ⟨by decide, by decide⟩) hP hD hS hA [0, 1, 2, 4, 8, 5, 6, 7, 9] [3] rfl rfl (by decide) (by decide) (fun v t w1 H locs ht hW9 hp hP hD hS => ?_) (fun x t w1 H locs ht hW9 hp hP hD hS => by obtain ⟨_, _, _, _, _, _, _, h9, -⟩ := hp; cases h9)
          obtain ⟨pt9_9, pf9_10, vf9_11, sf9_12, q9_13, c9_14, s9_15, h9, f_16, f_17, f_18, f_19, rfl⟩ := hp
          cases h9
          refine W.eq (g2 := F0 m 37 ls []) rfl ?_
          refine W.widen (k := 0) (n := 0) (by decide) (by decide) ?_
          have hP : va_P D kl [(am.ti, .inl (cI, 8, .inl c9_1.tf)), (am.m0, .inr (7, [.int (0 : Int32), .int (nI c9_1.zs), .int (nI c9_1.rn), .ref am.rw, .int (nI c9_1.kn), .int (nI c9_1.rk), .int (nI c9_1.yn), .ref am.ry, .int (nI c9_1.sp), .int (nI c9_1.lg), .ref am.ti, .int (1 : Int32), .int (nI pt9_9), .ref am.po, .ref am.su, .ref am.sq, .ref am.ch, .ref am.vt, .ref am.sh])), (am.rw, .inl (cI, 32, .inl c9_1.wf)), (am.ry, .inl (cI, 256, .inl c9_1.yf)), (am.po, .inl (cI, 4000, .inl pf9_10)), (am.vt, .inl (cI, 4, .inl vf9_11)), (am.su, .inl (cZ, 1000, .inl sf9_12)), (am.sq, .inl (cJ, 256, .inr (.inl q9_13))), (am.ch, .inl (cI, 8, .inl (nf c9_14))), (am.sh, .inl (cI, 4, .inl (nf s9_15)))] H := hP
          have hD : va_D A [(am.ti, .inl (cI, 8, .inl c9_1.tf)), (am.m0, .inr (7, [.int (0 : Int32), .int (nI c9_1.zs), .int (nI c9_1.rn), .ref am.rw, .int (nI c9_1.kn), .int (nI c9_1.rk), .int (nI c9_1.yn), .ref am.ry, .int (nI c9_1.sp), .int (nI c9_1.lg), .ref am.ti, .int (1 : Int32), .int (nI pt9_9), .ref am.po, .ref am.su, .ref am.sq, .ref am.ch, .ref am.vt, .ref am.sh])), (am.rw, .inl (cI, 32, .inl c9_1.wf)), (am.ry, .inl (cI, 256, .inl c9_1.yf)), (am.po, .inl (cI, 4000, .inl pf9_10)), (am.vt, .inl (cI, 4, .inl vf9_11)), (am.su, .inl (cZ, 1000, .inl sf9_12)), (am.sq, .inl (cJ, 256, .inr (.inl q9_13))), (am.ch, .inl (cI, 8, .inl (nf c9_14))), (am.sh, .inl (cI, 4, .inl (nf s9_15)))] := hD
          obtain ⟨c_20, hc_20⟩ : ∃ x99 : MC, x99 = (MCmk (0 : Int32) c9_1.zs c9_1.rn c9_1.kn c9_1.rk c9_1.yn c9_1.sp c9_1.lg 1 pt9_9 c9_1.wf c9_1.yf c9_1.tf pf9_10 sf9_12 q9_13 c9_14 vf9_11 s9_15) := ⟨_, rfl⟩
          have hP : va_P D kl [(am.ti, .inl (cI, 8, .inl c_20.tf)), (am.m0, .inr (7, [.int c_20.th, .int (nI c_20.zs), .int (nI c_20.rn), .ref am.rw, .int (nI c_20.kn), .int (nI c_20.rk), .int (nI c_20.yn), .ref am.ry, .int (nI c_20.sp), .int (nI c_20.lg), .ref am.ti, .int (nI c_20.fo), .int (nI c_20.pt), .ref am.po, .ref am.su, .ref am.sq, .ref am.ch, .ref am.vt, .ref am.sh])), (am.rw, .inl (cI, 32, .inl c_20.wf)), (am.ry, .inl (cI, 256, .inl c_20.yf)), (am.po, .inl (cI, 4000, .inl c_20.pf)), (am.vt, .inl (cI, 4, .inl c_20.vf)), (am.su, .inl (cZ, 1000, .inl c_20.sf)), (am.sq, .inl (cJ, 256, .inr (.inl c_20.qf))), (am.ch, .inl (cI, 8, .inl (nf c_20.ck))), (am.sh, .inl (cI, 4, .inl (nf c_20.sk)))] H := by subst hc_20; exact hP
          have hD : va_D A [(am.ti, .inl (cI, 8, .inl c_20.tf)), (am.m0, .inr (7, [.int c_20.th, .int (nI c_20.zs), .int (nI c_20.rn), .ref am.rw, .int (nI c_20.kn), .int (nI c_20.rk), .int (nI c_20.yn), .ref am.ry, .int (nI c_20.sp), .int (nI c_20.lg), .ref am.ti, .int (nI c_20.fo), .int (nI c_20.pt), .ref am.po, .ref am.su, .ref am.sq, .ref am.ch, .ref am.vt, .ref am.sh])), (am.rw, .inl (cI, 32, .inl c_20.wf)), (am.ry, .inl (cI, 256, .inl c_20.yf)), (am.po, .inl (cI, 4000, .inl c_20.pf)), (am.vt, .inl (cI, 4, .inl c_20.vf)), (am.su, .inl (cZ, 1000, .inl c_20.sf)), (am.sq, .inl (cJ, 256, .inr (.inl c_20.qf))), (am.ch, .inl (cI, 8, .inl (nf c_20.ck))), (am.sh, .inl (cI, 4, .inl (nf c_20.sk)))] := by subst hc_20; exact hD
          have hJ2 : MJ c_20 := by subst hc_20; exact ⟨hz2, hz4, hr8, hkn, hrk, hyn, hsp, hlg, Nat.le_refl 1, f_17, f_18, f_19, hro, hJ1.k1, fun _ _ _ _ => f_16⟩
          have hf1 : c_20.fo = 1 := by subst hc_20; exact rfl
          have hk2 : c_20.kn = 1 := by subst hc_20; exact hk1
          have hS2 : MS cm c_20 := by subst hc_20; exact hS1
          have hp2 : c_20.zs ≤ c_20.rk := by subst hc_20; exact f_5
          have hl2 : c_20.lg = 0 := by subst hc_20; exact hlg0
          have ht2 : c_20.th = (0 : Int32) := by subst hc_20; exact rfl
          have hz2 := hJ2.z2
          have hz4 := hJ2.z4
          have hr8 := hJ2.r8
          have hkn := hJ2.kn
          have hrk := hJ2.rk
          have hyn := hJ2.yn
          have hsp := hJ2.sp
          have hlg := hJ2.lg
          have hfo := hJ2.fo
          have hpt := hJ2.pt
          have hck := hJ2.ck
          have hsk := hJ2.sk
          have hro := hJ2.ro
          refine lv_aload_n hx hb d_M_based_37 rfl (lv_at hl 0 rfl) ?_
          refine va_get (D := D) (ci := 7) (v := .int (nI c_20.lg)) (C := cn_M) (T := ft_M) (N := 19) hx hb hf_M (fun _ h => h) hown hK hP 1 rfl rfl 9 (by decide) (gw.at G hx0 mw_722 rfl _) (fun _ h9 => h9) rfl d_M_based_38 ?_
          refine lv_if_ne (tgt := 48) hx hb d_M_based_41 (by decide) (fun h99 => absurd h99 (not_not_intro ((nI_eq (a := c_20.lg) (b := 0) (by omega) (by omega)).mpr (by omega)))) (fun _ => ?_)
          refine lv_iconst (v := (1 : Int32)) hx hb d_M_based_44 (by decide) ?_
          refine lv_goto (tgt := 49) hx hb d_M_based_45 (by decide) ?_
          exact tx_mono (fun _ h => tx_Z.of h) (W.zret (v := (1 : Int32)) hx hb hr (by decide) (fun t ht hW => ⟨⟨[(am.m0, .inr (7, [.int c_20.th, .int (nI c_20.zs), .int (nI c_20.rn), .ref am.rw, .int (nI c_20.kn), .int (nI c_20.rk), .int (nI c_20.yn), .ref am.ry, .int (nI c_20.sp), .int (nI c_20.lg), .ref am.ti, .int (nI c_20.fo), .int (nI c_20.pt), .ref am.po, .ref am.su, .ref am.sq, .ref am.ch, .ref am.vt, .ref am.sh])), (am.rw, .inl (cI, 32, .inl c_20.wf)), (am.ry, .inl (cI, 256, .inl c_20.yf)), (am.ti, .inl (cI, 8, .inl c_20.tf)), (am.po, .inl (cI, 4000, .inl c_20.pf)), (am.su, .inl (cZ, 1000, .inl c_20.sf)), (am.sq, .inl (cJ, 256, .inr (.inl c_20.qf))), (am.ch, .inl (cI, 8, .inl (nf c_20.ck))), (am.vt, .inl (cI, 4, .inl c_20.vf)), (am.sh, .inl (cI, 4, .inl (nf c_20.sk)))], Or.inl (⟨c_20, rfl, hJ2, hS2, hk2, hp2, hl2, hf1, ht2, rfl⟩), by rw [ht]; exact hP.sub [1, 2, 3, 0, 4, 6, 7, 8, 5, 9] rfl, hD.sub [1, 2, 3, 0, 4, 6, 7, 8, 5, 9] (by decide) rfl⟩, hS.F ht⟩) hS.2.2 d_M_based_49)
        · refine cx_call (D := D) (cl := kl) (ws := _) (wc := [(am.m0, .inr (7, [.int (0 : Int32), .int (nI c9_1.zs), .int (nI c9_1.rn), .ref am.rw, .int (nI c9_1.kn), .int (nI c9_1.rk), .int (nI c9_1.yn), .ref am.ry, .int (nI c9_1.sp), .int (nI c9_1.lg), .ref am.ti, .int (nI c9_1.fo), .int (nI c9_1.pt), .ref am.po, .ref am.su, .ref am.sq, .ref am.ch, .ref am.vt, .ref am.sh]))]) (wr := [(am.rw, .inl (cI, 32, .inl c9_1.wf)), (am.ry, .inl (cI, 256, .inl c9_1.yf)), (am.ti, .inl (cI, 8, .inl c9_1.tf)), (am.po, .inl (cI, 4000, .inl c9_1.pf)), (am.su, .inl (cZ, 1000, .inl c9_1.sf)), (am.sq, .inl (cJ, 256, .inr (.inl c9_1.qf))), (am.ch, .inl (cI, 8, .inl (nf c9_1.ck))), (am.vt, .inl (cI, 4, .inl c9_1.vf)), (am.sh, .inl (cI, 4, .inl (nf c9_1.sk)))]) (tx_runV (C := cn_M) (b := am.m0) (As := []) (rest := []) hx hb hml hown (c_M_find_k E H.size am.m0 am.rw am.ry am.ti am.po am.su am.sq am.ch am.vt am.sh (0 : Int32) (nI c9_1.rk) (nI c9_1.lg) (nI c9_1.pt) c9_1.zs c9_1.rn c9_1.kn c9_1.fo c9_1.yn c9_1.sp hk1 (by omega)) (cx_C (b0 := b0) G hx0 mw_909 mw_9 ny_M_find (by decide)) (gw.at G hx0 mw_906 rfl _) (gw.at G hx0 mw_908 rfl _) (gw.at G hx0 ms_M_find rfl _) ⟨cx_blind, va_recv hK hP (q0 := 0) (ci := 7) (q := (cn_M, ft_M, 19)) rfl rfl, (cx_pre (s := s) hx0 hP hD hS hA0 [0] rfl rfl (by decide))⟩ rfl rfl hl.1 rfl (lv_room (Nat.le_of_ble_eq_true rfl)) d_M_based_34 ⟨by decide, by decide⟩) hP hD hS hA [0] [1, 2, 3, 4, 5, 6, 7, 8, 9] rfl rfl (by decide) (by decide) (fun v t w1 H locs ht hW9 hp hP hD hS => ?_) (fun x t w1 H locs ht hW9 hp hP hD hS => by obtain ⟨h9, -⟩ := hp; cases h9)
          obtain ⟨h9, rfl⟩ := hp
          cases h9
          refine W.eq (g2 := F0 m 37 ls []) rfl ?_
          refine W.widen (k := 0) (n := 0) (by decide) (by decide) ?_
          have hP : va_P D kl [(am.rw, .inl (cI, 32, .inl c9_1.wf)), (am.ry, .inl (cI, 256, .inl c9_1.yf)), (am.ti, .inl (cI, 8, .inl c9_1.tf)), (am.po, .inl (cI, 4000, .inl c9_1.pf)), (am.su, .inl (cZ, 1000, .inl c9_1.sf)), (am.sq, .inl (cJ, 256, .inr (.inl c9_1.qf))), (am.ch, .inl (cI, 8, .inl (nf c9_1.ck))), (am.vt, .inl (cI, 4, .inl c9_1.vf)), (am.sh, .inl (cI, 4, .inl (nf c9_1.sk))), (am.m0, .inr (7, [.int (0 : Int32), .int (nI c9_1.zs), .int (nI c9_1.rn), .ref am.rw, .int (nI c9_1.kn), .int (nI c9_1.rk), .int (nI c9_1.yn), .ref am.ry, .int (nI c9_1.sp), .int (nI c9_1.lg), .ref am.ti, .int (nI c9_1.fo), .int (nI c9_1.pt), .ref am.po, .ref am.su, .ref am.sq, .ref am.ch, .ref am.vt, .ref am.sh]))] H := hP
          have hD : va_D A [(am.rw, .inl (cI, 32, .inl c9_1.wf)), (am.ry, .inl (cI, 256, .inl c9_1.yf)), (am.ti, .inl (cI, 8, .inl c9_1.tf)), (am.po, .inl (cI, 4000, .inl c9_1.pf)), (am.su, .inl (cZ, 1000, .inl c9_1.sf)), (am.sq, .inl (cJ, 256, .inr (.inl c9_1.qf))), (am.ch, .inl (cI, 8, .inl (nf c9_1.ck))), (am.vt, .inl (cI, 4, .inl c9_1.vf)), (am.sh, .inl (cI, 4, .inl (nf c9_1.sk))), (am.m0, .inr (7, [.int (0 : Int32), .int (nI c9_1.zs), .int (nI c9_1.rn), .ref am.rw, .int (nI c9_1.kn), .int (nI c9_1.rk), .int (nI c9_1.yn), .ref am.ry, .int (nI c9_1.sp), .int (nI c9_1.lg), .ref am.ti, .int (nI c9_1.fo), .int (nI c9_1.pt), .ref am.po, .ref am.su, .ref am.sq, .ref am.ch, .ref am.vt, .ref am.sh]))] := hD
          obtain ⟨c_21, hc_21⟩ : ∃ x99 : MC, x99 = (MCmk (0 : Int32) c9_1.zs c9_1.rn c9_1.kn c9_1.rk c9_1.yn c9_1.sp c9_1.lg c9_1.fo c9_1.pt c9_1.wf c9_1.yf c9_1.tf c9_1.pf c9_1.sf c9_1.qf c9_1.ck c9_1.vf c9_1.sk) := ⟨_, rfl⟩
          have hP : va_P D kl [(am.rw, .inl (cI, 32, .inl c_21.wf)), (am.ry, .inl (cI, 256, .inl c_21.yf)), (am.ti, .inl (cI, 8, .inl c_21.tf)), (am.po, .inl (cI, 4000, .inl c_21.pf)), (am.su, .inl (cZ, 1000, .inl c_21.sf)), (am.sq, .inl (cJ, 256, .inr (.inl c_21.qf))), (am.ch, .inl (cI, 8, .inl (nf c_21.ck))), (am.vt, .inl (cI, 4, .inl c_21.vf)), (am.sh, .inl (cI, 4, .inl (nf c_21.sk))), (am.m0, .inr (7, [.int c_21.th, .int (nI c_21.zs), .int (nI c_21.rn), .ref am.rw, .int (nI c_21.kn), .int (nI c_21.rk), .int (nI c_21.yn), .ref am.ry, .int (nI c_21.sp), .int (nI c_21.lg), .ref am.ti, .int (nI c_21.fo), .int (nI c_21.pt), .ref am.po, .ref am.su, .ref am.sq, .ref am.ch, .ref am.vt, .ref am.sh]))] H := by subst hc_21; exact hP
          have hD : va_D A [(am.rw, .inl (cI, 32, .inl c_21.wf)), (am.ry, .inl (cI, 256, .inl c_21.yf)), (am.ti, .inl (cI, 8, .inl c_21.tf)), (am.po, .inl (cI, 4000, .inl c_21.pf)), (am.su, .inl (cZ, 1000, .inl c_21.sf)), (am.sq, .inl (cJ, 256, .inr (.inl c_21.qf))), (am.ch, .inl (cI, 8, .inl (nf c_21.ck))), (am.vt, .inl (cI, 4, .inl c_21.vf)), (am.sh, .inl (cI, 4, .inl (nf c_21.sk))), (am.m0, .inr (7, [.int c_21.th, .int (nI c_21.zs), .int (nI c_21.rn), .ref am.rw, .int (nI c_21.kn), .int (nI c_21.rk), .int (nI c_21.yn), .ref am.ry, .int (nI c_21.sp), .int (nI c_21.lg), .ref am.ti, .int (nI c_21.fo), .int (nI c_21.pt), .ref am.po, .ref am.su, .ref am.sq, .ref am.ch, .ref am.vt, .ref am.sh]))] := by subst hc_21; exact hD
          have hJ2 : MJ c_21 := by subst hc_21; exact hJ1
          have hf1 : c_21.fo = 1 := by subst hc_21; exact (show c9_1.fo = 1 by omega)
          have hk2 : c_21.kn = 1 := by subst hc_21; exact hk1
          have hS2 : MS cm c_21 := by subst hc_21; exact hS1
          have hp2 : c_21.zs ≤ c_21.rk := by subst hc_21; exact f_5
          have hl2 : c_21.lg = 0 := by subst hc_21; exact hlg0
          have ht2 : c_21.th = (0 : Int32) := by subst hc_21; exact rfl
          have hz2 := hJ2.z2
          have hz4 := hJ2.z4
          have hr8 := hJ2.r8
          have hkn := hJ2.kn
          have hrk := hJ2.rk
          have hyn := hJ2.yn
          have hsp := hJ2.sp
          have hlg := hJ2.lg
          have hfo := hJ2.fo
          have hpt := hJ2.pt
          have hck := hJ2.ck
          have hsk := hJ2.sk
          have hro := hJ2.ro
          refine lv_aload_n hx hb d_M_based_37 rfl (lv_at hl 0 rfl) ?_
          refine va_get (D := D) (ci := 7) (v := .int (nI c_21.lg)) (C := cn_M) (T := ft_M) (N := 19) hx hb hf_M (fun _ h => h) hown hK hP 9 rfl rfl 9 (by decide) (gw.at G hx0 mw_722 rfl _) (fun _ h9 => h9) rfl d_M_based_38 ?_
          refine lv_if_ne (tgt := 48) hx hb d_M_based_41 (by decide) (fun h99 => absurd h99 (not_not_intro ((nI_eq (a := c_21.lg) (b := 0) (by omega) (by omega)).mpr (by omega)))) (fun _ => ?_)
          refine lv_iconst (v := (1 : Int32)) hx hb d_M_based_44 (by decide) ?_
          refine lv_goto (tgt := 49) hx hb d_M_based_45 (by decide) ?_
          exact tx_mono (fun _ h => tx_Z.of h) (W.zret (v := (1 : Int32)) hx hb hr (by decide) (fun t ht hW => ⟨⟨[(am.m0, .inr (7, [.int c_21.th, .int (nI c_21.zs), .int (nI c_21.rn), .ref am.rw, .int (nI c_21.kn), .int (nI c_21.rk), .int (nI c_21.yn), .ref am.ry, .int (nI c_21.sp), .int (nI c_21.lg), .ref am.ti, .int (nI c_21.fo), .int (nI c_21.pt), .ref am.po, .ref am.su, .ref am.sq, .ref am.ch, .ref am.vt, .ref am.sh])), (am.rw, .inl (cI, 32, .inl c_21.wf)), (am.ry, .inl (cI, 256, .inl c_21.yf)), (am.ti, .inl (cI, 8, .inl c_21.tf)), (am.po, .inl (cI, 4000, .inl c_21.pf)), (am.su, .inl (cZ, 1000, .inl c_21.sf)), (am.sq, .inl (cJ, 256, .inr (.inl c_21.qf))), (am.ch, .inl (cI, 8, .inl (nf c_21.ck))), (am.vt, .inl (cI, 4, .inl c_21.vf)), (am.sh, .inl (cI, 4, .inl (nf c_21.sk)))], Or.inl (⟨c_21, rfl, hJ2, hS2, hk2, hp2, hl2, hf1, ht2, rfl⟩), by rw [ht]; exact hP.sub [9, 0, 1, 2, 3, 4, 5, 6, 7, 8] rfl, hD.sub [9, 0, 1, 2, 3, 4, 5, 6, 7, 8] (by decide) rfl⟩, hS.F ht⟩) hS.2.2 d_M_based_49)
      · have h_7 : ¬ (c9_1.lg = 0) := fun z99 => h_7 ((nI_eq (a := c9_1.lg) (b := 0) (by omega) (by omega)).mpr z99)
        refine lv_iload_n hx hb d_M_based_18 rfl (lv_at hl 1 rfl) ?_
        refine lv_goto (tgt := 23) hx hb d_M_based_19 (by decide) ?_
        refine va_put (D := D) (ci := 7) (v := .int (1 : Int32)) (ty := .int) (C := cn_M) (T := ft_M) (N := 19) hx hb hf_M (fun _ h => h) fy_M fk_M fn_M hown hK hP hD hS 0 rfl rfl 0 (by decide) (gw.at G hx0 mw_713 rfl _) (fun _ h9 => h9) rfl (by decide +kernel) rfl rfl (Nat.le_of_ble_eq_true rfl) d_M_based_23 (fun H locs hP hD hS => ?_)
        have hP : va_P D kl [(am.m0, .inr (7, [.int (1 : Int32), .int (nI c9_1.zs), .int (nI c9_1.rn), .ref am.rw, .int (nI c9_1.kn), .int (nI c9_1.rk), .int (nI c9_1.yn), .ref am.ry, .int (nI c9_1.sp), .int (nI c9_1.lg), .ref am.ti, .int (nI c9_1.fo), .int (nI c9_1.pt), .ref am.po, .ref am.su, .ref am.sq, .ref am.ch, .ref am.vt, .ref am.sh])), (am.rw, .inl (cI, 32, .inl c9_1.wf)), (am.ry, .inl (cI, 256, .inl c9_1.yf)), (am.ti, .inl (cI, 8, .inl c9_1.tf)), (am.po, .inl (cI, 4000, .inl c9_1.pf)), (am.su, .inl (cZ, 1000, .inl c9_1.sf)), (am.sq, .inl (cJ, 256, .inr (.inl c9_1.qf))), (am.ch, .inl (cI, 8, .inl (nf c9_1.ck))), (am.vt, .inl (cI, 4, .inl c9_1.vf)), (am.sh, .inl (cI, 4, .inl (nf c9_1.sk)))] H := hP
        have hD : va_D A [(am.m0, .inr (7, [.int (1 : Int32), .int (nI c9_1.zs), .int (nI c9_1.rn), .ref am.rw, .int (nI c9_1.kn), .int (nI c9_1.rk), .int (nI c9_1.yn), .ref am.ry, .int (nI c9_1.sp), .int (nI c9_1.lg), .ref am.ti, .int (nI c9_1.fo), .int (nI c9_1.pt), .ref am.po, .ref am.su, .ref am.sq, .ref am.ch, .ref am.vt, .ref am.sh])), (am.rw, .inl (cI, 32, .inl c9_1.wf)), (am.ry, .inl (cI, 256, .inl c9_1.yf)), (am.ti, .inl (cI, 8, .inl c9_1.tf)), (am.po, .inl (cI, 4000, .inl c9_1.pf)), (am.su, .inl (cZ, 1000, .inl c9_1.sf)), (am.sq, .inl (cJ, 256, .inr (.inl c9_1.qf))), (am.ch, .inl (cI, 8, .inl (nf c9_1.ck))), (am.vt, .inl (cI, 4, .inl c9_1.vf)), (am.sh, .inl (cI, 4, .inl (nf c9_1.sk)))] := hD
        refine lv_aload_n hx hb d_M_based_26 rfl (lv_at hl 0 rfl) ?_
        refine va_get (D := D) (ci := 7) (v := .int (nI c9_1.lg)) (C := cn_M) (T := ft_M) (N := 19) hx hb hf_M (fun _ h => h) hown hK hP 0 rfl rfl 9 (by decide) (gw.at G hx0 mw_722 rfl _) (fun _ h9 => h9) rfl d_M_based_27 ?_
        refine lv_if_ne (tgt := 37) hx hb d_M_based_30 (by decide) (fun _ => ?_) (fun h99 => absurd h99 (fun z99 => absurd ((nI_eq (a := c9_1.lg) (b := 0) (by omega) (by omega)).mp z99) (by omega)))
        refine lv_aload_n hx hb d_M_based_37 rfl (lv_at hl 0 rfl) ?_
        refine va_get (D := D) (ci := 7) (v := .int (nI c9_1.lg)) (C := cn_M) (T := ft_M) (N := 19) hx hb hf_M (fun _ h => h) hown hK hP 0 rfl rfl 9 (by decide) (gw.at G hx0 mw_722 rfl _) (fun _ h9 => h9) rfl d_M_based_38 ?_
        refine lv_if_ne (tgt := 48) hx hb d_M_based_41 (by decide) (fun _ => ?_) (fun h99 => absurd h99 (fun z99 => absurd ((nI_eq (a := c9_1.lg) (b := 0) (by omega) (by omega)).mp z99) (by omega)))
        refine lv_iconst (v := (0 : Int32)) hx hb d_M_based_48 (by decide) ?_
        exact tx_mono (fun _ h => tx_Z.of h) (W.zret (v := (0 : Int32)) hx hb hr (by decide) (fun t ht hW => ⟨⟨[(am.m0, .inr (7, [.int (1 : Int32), .int (nI c9_1.zs), .int (nI c9_1.rn), .ref am.rw, .int (nI c9_1.kn), .int (nI c9_1.rk), .int (nI c9_1.yn), .ref am.ry, .int (nI c9_1.sp), .int (nI c9_1.lg), .ref am.ti, .int (nI c9_1.fo), .int (nI c9_1.pt), .ref am.po, .ref am.su, .ref am.sq, .ref am.ch, .ref am.vt, .ref am.sh])), (am.rw, .inl (cI, 32, .inl c9_1.wf)), (am.ry, .inl (cI, 256, .inl c9_1.yf)), (am.ti, .inl (cI, 8, .inl c9_1.tf)), (am.po, .inl (cI, 4000, .inl c9_1.pf)), (am.su, .inl (cZ, 1000, .inl c9_1.sf)), (am.sq, .inl (cJ, 256, .inr (.inl c9_1.qf))), (am.ch, .inl (cI, 8, .inl (nf c9_1.ck))), (am.vt, .inl (cI, 4, .inl c9_1.vf)), (am.sh, .inl (cI, 4, .inl (nf c9_1.sk)))], Or.inr (⟨(MCmk (1 : Int32) c9_1.zs c9_1.rn c9_1.kn c9_1.rk c9_1.yn c9_1.sp c9_1.lg c9_1.fo c9_1.pt c9_1.wf c9_1.yf c9_1.tf c9_1.pf c9_1.sf c9_1.qf c9_1.ck c9_1.vf c9_1.sk), rfl, hJ1, hS1, hk1, Or.inr ⟨f_5, (show c9_1.lg = 1 by have z9 := h_7; omega)⟩, rfl, rfl⟩), by rw [ht]; exact hP.sub [0, 1, 2, 3, 4, 5, 6, 7, 8, 9] rfl, hD.sub [0, 1, 2, 3, 4, 5, 6, 7, 8, 9] (by decide) rfl⟩, hS.F ht⟩) hS.2.2 d_M_based_49)
    · obtain ⟨c9_22, h9, f_23, f_24, f_25, f_26, f_27, rfl⟩ := hp
      cases h9
      refine W.eq (g2 := F0 m 5 ls [.int (0 : Int32)]) rfl ?_
      refine W.widen (k := 0) (n := 0) (by decide) (by decide) ?_
      have hP : va_P D kl [(am.m0, .inr (7, [.int c9_22.th, .int (nI c9_22.zs), .int (nI c9_22.rn), .ref am.rw, .int (nI c9_22.kn), .int (nI c9_22.rk), .int (nI c9_22.yn), .ref am.ry, .int (nI c9_22.sp), .int (nI c9_22.lg), .ref am.ti, .int (nI c9_22.fo), .int (nI c9_22.pt), .ref am.po, .ref am.su, .ref am.sq, .ref am.ch, .ref am.vt, .ref am.sh])), (am.rw, .inl (cI, 32, .inl c9_22.wf)), (am.ry, .inl (cI, 256, .inl c9_22.yf)), (am.ti, .inl (cI, 8, .inl c9_22.tf)), (am.po, .inl (cI, 4000, .inl c9_22.pf)), (am.su, .inl (cZ, 1000, .inl c9_22.sf)), (am.sq, .inl (cJ, 256, .inr (.inl c9_22.qf))), (am.ch, .inl (cI, 8, .inl (nf c9_22.ck))), (am.vt, .inl (cI, 4, .inl c9_22.vf)), (am.sh, .inl (cI, 4, .inl (nf c9_22.sk)))] H := hP
      have hD : va_D A [(am.m0, .inr (7, [.int c9_22.th, .int (nI c9_22.zs), .int (nI c9_22.rn), .ref am.rw, .int (nI c9_22.kn), .int (nI c9_22.rk), .int (nI c9_22.yn), .ref am.ry, .int (nI c9_22.sp), .int (nI c9_22.lg), .ref am.ti, .int (nI c9_22.fo), .int (nI c9_22.pt), .ref am.po, .ref am.su, .ref am.sq, .ref am.ch, .ref am.vt, .ref am.sh])), (am.rw, .inl (cI, 32, .inl c9_22.wf)), (am.ry, .inl (cI, 256, .inl c9_22.yf)), (am.ti, .inl (cI, 8, .inl c9_22.tf)), (am.po, .inl (cI, 4000, .inl c9_22.pf)), (am.su, .inl (cZ, 1000, .inl c9_22.sf)), (am.sq, .inl (cJ, 256, .inr (.inl c9_22.qf))), (am.ch, .inl (cI, 8, .inl (nf c9_22.ck))), (am.vt, .inl (cI, 4, .inl c9_22.vf)), (am.sh, .inl (cI, 4, .inl (nf c9_22.sk)))] := hD
      have hJ1 := f_23
      have hS1 := f_24
      have hk1 : c9_22.kn = 1 := f_25
      have hz2 := hJ1.z2
      have hz4 := hJ1.z4
      have hr8 := hJ1.r8
      have hkn := hJ1.kn
      have hrk := hJ1.rk
      have hyn := hJ1.yn
      have hsp := hJ1.sp
      have hlg := hJ1.lg
      have hfo := hJ1.fo
      have hpt := hJ1.pt
      have hck := hJ1.ck
      have hsk := hJ1.sk
      have hro := hJ1.ro
      refine lv_if_ne (tgt := 10) hx hb d_M_based_5 (by decide) (fun h99 => absurd h99 (by decide)) (fun _ => ?_)
      refine lv_iconst (v := (0 : Int32)) hx hb d_M_based_8 (by decide) ?_
      exact tx_mono (fun _ h => tx_Z.of h) (W.zret (v := (0 : Int32)) hx hb hr (by decide) (fun t ht hW => ⟨⟨[(am.m0, .inr (7, [.int c9_22.th, .int (nI c9_22.zs), .int (nI c9_22.rn), .ref am.rw, .int (nI c9_22.kn), .int (nI c9_22.rk), .int (nI c9_22.yn), .ref am.ry, .int (nI c9_22.sp), .int (nI c9_22.lg), .ref am.ti, .int (nI c9_22.fo), .int (nI c9_22.pt), .ref am.po, .ref am.su, .ref am.sq, .ref am.ch, .ref am.vt, .ref am.sh])), (am.rw, .inl (cI, 32, .inl c9_22.wf)), (am.ry, .inl (cI, 256, .inl c9_22.yf)), (am.ti, .inl (cI, 8, .inl c9_22.tf)), (am.po, .inl (cI, 4000, .inl c9_22.pf)), (am.su, .inl (cZ, 1000, .inl c9_22.sf)), (am.sq, .inl (cJ, 256, .inr (.inl c9_22.qf))), (am.ch, .inl (cI, 8, .inl (nf c9_22.ck))), (am.vt, .inl (cI, 4, .inl c9_22.vf)), (am.sh, .inl (cI, 4, .inl (nf c9_22.sk)))], Or.inr (⟨c9_22, rfl, hJ1, hS1, hk1, Or.inl f_26, f_27, rfl⟩), by rw [ht]; exact hP.sub [0, 1, 2, 3, 4, 5, 6, 7, 8, 9] rfl, hD.sub [0, 1, 2, 3, 4, 5, 6, 7, 8, 9] (by decide) rfl⟩, hS.F ht⟩) hS.2.2 d_M_based_9)
  · rcases hp with hp | hp
    · obtain ⟨_, h9, -⟩ := hp; cases h9
    · obtain ⟨_, h9, -⟩ := hp; cases h9

set_option maxHeartbeats 4000000 in
set_option maxRecDepth 100000 in
theorem c_M_based2 {l : Launch} {s0 : State} {b0 : Addr} {D : va_G} {cI cJ cZ : ClassId} {tC tS : Nat} (E : gE l s0 b0 D cI cJ cZ tC tS) (sz : Nat) (am : MA) (cm : MC) (hT9 : MTH) (hJ : MJ cm) : cx_M l s0 D kl y_M_based b_M_based 2 (some .boolean) ({ frames := 6, cells := 0, slots := 0, locals := 153 } : Room) 0 0 [.ref am.m0, .int (2 : Int32)] [(am.m0, .inr (7, [.int cm.th, .int (nI cm.zs), .int (nI cm.rn), .ref am.rw, .int (nI cm.kn), .int (nI cm.rk), .int (nI cm.yn), .ref am.ry, .int (nI cm.sp), .int (nI cm.lg), .ref am.ti, .int (nI cm.fo), .int (nI cm.pt), .ref am.po, .ref am.su, .ref am.sq, .ref am.ch, .ref am.vt, .ref am.sh])), (am.rw, .inl (cI, 32, .inl cm.wf)), (am.ry, .inl (cI, 256, .inl cm.yf)), (am.ti, .inl (cI, 8, .inl cm.tf)), (am.po, .inl (cI, 4000, .inl cm.pf)), (am.su, .inl (cZ, 1000, .inl cm.sf)), (am.sq, .inl (cJ, 256, .inr (.inl cm.qf))), (am.ch, .inl (cI, 8, .inl (nf cm.ck))), (am.vt, .inl (cI, 4, .inl cm.vf)), (am.sh, .inl (cI, 4, .inl (nf cm.sk)))] sz (fun o9 t9 w9 => (∃ (c9 : MC), o9 = .returned (some (.int (1 : Int32))) ∧ MJ c9 ∧ MS cm c9 ∧ c9.kn = 1 ∧ c9.zs ≤ c9.rk ∧ c9.lg = 0 ∧ c9.fo = 1 ∧ c9.th = 0 ∧ w9 = [(am.m0, .inr (7, [.int c9.th, .int (nI c9.zs), .int (nI c9.rn), .ref am.rw, .int (nI c9.kn), .int (nI c9.rk), .int (nI c9.yn), .ref am.ry, .int (nI c9.sp), .int (nI c9.lg), .ref am.ti, .int (nI c9.fo), .int (nI c9.pt), .ref am.po, .ref am.su, .ref am.sq, .ref am.ch, .ref am.vt, .ref am.sh])), (am.rw, .inl (cI, 32, .inl c9.wf)), (am.ry, .inl (cI, 256, .inl c9.yf)), (am.ti, .inl (cI, 8, .inl c9.tf)), (am.po, .inl (cI, 4000, .inl c9.pf)), (am.su, .inl (cZ, 1000, .inl c9.sf)), (am.sq, .inl (cJ, 256, .inr (.inl c9.qf))), (am.ch, .inl (cI, 8, .inl (nf c9.ck))), (am.vt, .inl (cI, 4, .inl c9.vf)), (am.sh, .inl (cI, 4, .inl (nf c9.sk)))]) ∨ (∃ (c9 : MC), o9 = .returned (some (.int (0 : Int32))) ∧ MJ c9 ∧ MS cm c9 ∧ c9.kn = 1 ∧ (c9.rk < c9.zs ∨ (c9.zs ≤ c9.rk ∧ c9.lg = 1)) ∧ c9.th = 2 ∧ w9 = [(am.m0, .inr (7, [.int c9.th, .int (nI c9.zs), .int (nI c9.rn), .ref am.rw, .int (nI c9.kn), .int (nI c9.rk), .int (nI c9.yn), .ref am.ry, .int (nI c9.sp), .int (nI c9.lg), .ref am.ti, .int (nI c9.fo), .int (nI c9.pt), .ref am.po, .ref am.su, .ref am.sq, .ref am.ch, .ref am.vt, .ref am.sh])), (am.rw, .inl (cI, 32, .inl c9.wf)), (am.ry, .inl (cI, 256, .inl c9.yf)), (am.ti, .inl (cI, 8, .inl c9.tf)), (am.po, .inl (cI, 4000, .inl c9.pf)), (am.su, .inl (cZ, 1000, .inl c9.sf)), (am.sq, .inl (cJ, 256, .inr (.inl c9.qf))), (am.ch, .inl (cI, 8, .inl (nf c9.ck))), (am.vt, .inl (cI, 4, .inl c9.vf)), (am.sh, .inl (cI, 4, .inl (nf c9.sk)))])) := by
  refine tx_ofW (cc := b_M_based) (maxL := 2) (ret := (some .boolean)) (by decide) rfl ?_
  intro p e s m args below meth c s₁ B hml hT hv
  obtain ⟨rfl, hsz, hP, hD0, hx0⟩ := hv
  have hx := B.exec
  have hb := B.bytes
  have hr := B.returns
  have G := E.2.1
  have hown : s.vm.findClass cn_M = some m.cls := findClass_of_methodNamed B.named
  have hlocks := B.notSynchronized
  have hK := va_K.moved hx0.1.alike E.2.2.1
  have hf_M : ∀ w99 ∈ u_ws cn_M ft_M 19, w99.before ([.ref am.m0, .int (2 : Int32)] : List Value).toArray s = true := fun w99 h99 => gw.at G hx0 (fw_M w99 h99) (fo_M w99 h99) _
  subst hsz
  have hA0 := cx_new hD0 hx0.2.1
  have hD := hD0.self (sz := s.heap.size)
  generalize hAe : va_A [(am.m0, .inr (7, [.int cm.th, .int (nI cm.zs), .int (nI cm.rn), .ref am.rw, .int (nI cm.kn), .int (nI cm.rk), .int (nI cm.yn), .ref am.ry, .int (nI cm.sp), .int (nI cm.lg), .ref am.ti, .int (nI cm.fo), .int (nI cm.pt), .ref am.po, .ref am.su, .ref am.sq, .ref am.ch, .ref am.vt, .ref am.sh])), (am.rw, .inl (cI, 32, .inl cm.wf)), (am.ry, .inl (cI, 256, .inl cm.yf)), (am.ti, .inl (cI, 8, .inl cm.tf)), (am.po, .inl (cI, 4000, .inl cm.pf)), (am.su, .inl (cZ, 1000, .inl cm.sf)), (am.sq, .inl (cJ, 256, .inr (.inl cm.qf))), (am.ch, .inl (cI, 8, .inl (nf cm.ck))), (am.vt, .inl (cI, 4, .inl cm.vf)), (am.sh, .inl (cI, 4, .inl (nf cm.sk)))] s.heap.size = A at hD hA0 ⊢
  have hA : ∀ q : Nat, s.heap.size ≤ q → A q := fun q h => by rw [← hAe]; exact Or.inr h
  have hS : va_S A s.heap s.heap [] := va_S.rf
  have hl := lv_entry ([.ref am.m0, .int (2 : Int32)]) (n := 2) (Nat.le_of_ble_eq_true rfl)
  rw [lg_entry_eq]
  generalize (lg_sl ([.ref am.m0, .int (2 : Int32)]) ++ List.replicate (2 - (lg_sl ([.ref am.m0, .int (2 : Int32)])).length) Slot.unset).toArray = ls at hl ⊢
  have hl : lv_has ls 2 [(0, .ref am.m0), (1, .int (2 : Int32))] := hl
  have hP : va_P D kl [(am.m0, .inr (7, [.int cm.th, .int (nI cm.zs), .int (nI cm.rn), .ref am.rw, .int (nI cm.kn), .int (nI cm.rk), .int (nI cm.yn), .ref am.ry, .int (nI cm.sp), .int (nI cm.lg), .ref am.ti, .int (nI cm.fo), .int (nI cm.pt), .ref am.po, .ref am.su, .ref am.sq, .ref am.ch, .ref am.vt, .ref am.sh])), (am.rw, .inl (cI, 32, .inl cm.wf)), (am.ry, .inl (cI, 256, .inl cm.yf)), (am.ti, .inl (cI, 8, .inl cm.tf)), (am.po, .inl (cI, 4000, .inl cm.pf)), (am.su, .inl (cZ, 1000, .inl cm.sf)), (am.sq, .inl (cJ, 256, .inr (.inl cm.qf))), (am.ch, .inl (cI, 8, .inl (nf cm.ck))), (am.vt, .inl (cI, 4, .inl cm.vf)), (am.sh, .inl (cI, 4, .inl (nf cm.sk)))] s.heap := hP
  have hml : c.maxLocals = 2 := hml
  have hz2 := hJ.z2
  have hz4 := hJ.z4
  have hr8 := hJ.r8
  have hkn := hJ.kn
  have hrk := hJ.rk
  have hyn := hJ.yn
  have hsp := hJ.sp
  have hlg := hJ.lg
  have hfo := hJ.fo
  have hpt := hJ.pt
  have hck := hJ.ck
  have hsk := hJ.sk
  have hro := hJ.ro
  refine lv_aload_n hx hb d_M_based_0 rfl (lv_at hl 0 rfl) ?_
  refine lv_iload_n hx hb d_M_based_1 rfl (lv_at hl 1 rfl) ?_
  refine cx_call (D := D) (cl := kl) (ws := _) (wc := [(am.m0, .inr (7, [.int cm.th, .int (nI cm.zs), .int (nI cm.rn), .ref am.rw, .int (nI cm.kn), .int (nI cm.rk), .int (nI cm.yn), .ref am.ry, .int (nI cm.sp), .int (nI cm.lg), .ref am.ti, .int (nI cm.fo), .int (nI cm.pt), .ref am.po, .ref am.su, .ref am.sq, .ref am.ch, .ref am.vt, .ref am.sh])), (am.rw, .inl (cI, 32, .inl cm.wf)), (am.ry, .inl (cI, 256, .inl cm.yf)), (am.ti, .inl (cI, 8, .inl cm.tf)), (am.po, .inl (cI, 4000, .inl cm.pf)), (am.su, .inl (cZ, 1000, .inl cm.sf)), (am.sq, .inl (cJ, 256, .inr (.inl cm.qf))), (am.ch, .inl (cI, 8, .inl (nf cm.ck))), (am.vt, .inl (cI, 4, .inl cm.vf)), (am.sh, .inl (cI, 4, .inl (nf cm.sk)))]) (wr := []) (tx_runV (C := cn_M) (b := am.m0) (As := [.int (2 : Int32)]) (rest := []) hx hb hml hown (c_M_pointed2 E s.heap.size am cm hT9 hJ) (cx_C (b0 := b0) G hx0 mw_881 mw_9 ny_M_pointed (by decide)) (gw.at G hx0 mw_878 rfl _) (gw.at G hx0 mw_880 rfl _) (gw.at G hx0 ms_M_pointed rfl _) ⟨cx_blind, va_recv hK hP (q0 := 0) (ci := 7) (q := (cn_M, ft_M, 19)) rfl rfl, (cx_pre (s := s) hx0 hP hD hS hA0 [0, 1, 2, 3, 4, 5, 6, 7, 8, 9] rfl rfl (by decide))⟩ rfl rfl hl.1 rfl (lv_room (Nat.le_of_ble_eq_true rfl)) d_M_based_2 ⟨by decide, by decide⟩) hP hD hS hA [0, 1, 2, 3, 4, 5, 6, 7, 8, 9] [] rfl rfl (by decide) (by decide) (fun v t w1 H locs ht hW9 hp hP hD hS => ?_) (fun x t w1 H locs ht hW9 hp hP hD hS => ?_)
  · rcases hp with hp | hp
    · obtain ⟨c9_1, h9, f_2, f_3, f_4, f_5, f_6, rfl⟩ := hp
      cases h9
      refine W.eq (g2 := F0 m 5 ls [.int (1 : Int32)]) rfl ?_
      refine W.widen (k := 0) (n := 0) (by decide) (by decide) ?_
      have hP : va_P D kl [(am.m0, .inr (7, [.int c9_1.th, .int (nI c9_1.zs), .int (nI c9_1.rn), .ref am.rw, .int (nI c9_1.kn), .int (nI c9_1.rk), .int (nI c9_1.yn), .ref am.ry, .int (nI c9_1.sp), .int (nI c9_1.lg), .ref am.ti, .int (nI c9_1.fo), .int (nI c9_1.pt), .ref am.po, .ref am.su, .ref am.sq, .ref am.ch, .ref am.vt, .ref am.sh])), (am.rw, .inl (cI, 32, .inl c9_1.wf)), (am.ry, .inl (cI, 256, .inl c9_1.yf)), (am.ti, .inl (cI, 8, .inl c9_1.tf)), (am.po, .inl (cI, 4000, .inl c9_1.pf)), (am.su, .inl (cZ, 1000, .inl c9_1.sf)), (am.sq, .inl (cJ, 256, .inr (.inl c9_1.qf))), (am.ch, .inl (cI, 8, .inl (nf c9_1.ck))), (am.vt, .inl (cI, 4, .inl c9_1.vf)), (am.sh, .inl (cI, 4, .inl (nf c9_1.sk)))] H := hP
      have hD : va_D A [(am.m0, .inr (7, [.int c9_1.th, .int (nI c9_1.zs), .int (nI c9_1.rn), .ref am.rw, .int (nI c9_1.kn), .int (nI c9_1.rk), .int (nI c9_1.yn), .ref am.ry, .int (nI c9_1.sp), .int (nI c9_1.lg), .ref am.ti, .int (nI c9_1.fo), .int (nI c9_1.pt), .ref am.po, .ref am.su, .ref am.sq, .ref am.ch, .ref am.vt, .ref am.sh])), (am.rw, .inl (cI, 32, .inl c9_1.wf)), (am.ry, .inl (cI, 256, .inl c9_1.yf)), (am.ti, .inl (cI, 8, .inl c9_1.tf)), (am.po, .inl (cI, 4000, .inl c9_1.pf)), (am.su, .inl (cZ, 1000, .inl c9_1.sf)), (am.sq, .inl (cJ, 256, .inr (.inl c9_1.qf))), (am.ch, .inl (cI, 8, .inl (nf c9_1.ck))), (am.vt, .inl (cI, 4, .inl c9_1.vf)), (am.sh, .inl (cI, 4, .inl (nf c9_1.sk)))] := hD
      have hJ1 := f_2
      have hS1 := f_3
      have hk1 : c9_1.kn = 1 := f_4
      have hz2 := hJ1.z2
      have hz4 := hJ1.z4
      have hr8 := hJ1.r8
      have hkn := hJ1.kn
      have hrk := hJ1.rk
      have hyn := hJ1.yn
      have hsp := hJ1.sp
      have hlg := hJ1.lg
      have hfo := hJ1.fo
      have hpt := hJ1.pt
      have hck := hJ1.ck
      have hsk := hJ1.sk
      have hro := hJ1.ro
      refine lv_if_ne (tgt := 10) hx hb d_M_based_5 (by decide) (fun _ => ?_) (fun h99 => absurd h99 (by decide))
      refine lv_aload_n hx hb d_M_based_10 rfl (lv_at hl 0 rfl) ?_
      refine lv_aload_n hx hb d_M_based_11 rfl (lv_at hl 0 rfl) ?_
      refine va_get (D := D) (ci := 7) (v := .int (nI c9_1.lg)) (C := cn_M) (T := ft_M) (N := 19) hx hb hf_M (fun _ h => h) hown hK hP 0 rfl rfl 9 (by decide) (gw.at G hx0 mw_722 rfl _) (fun _ h9 => h9) rfl d_M_based_12 ?_
      refine lv_if_eq (tgt := 22) hx hb d_M_based_15 (by decide) (fun h_7 => ?_) (fun h_7 => ?_)
      · have h_7 : c9_1.lg = 0 := (nI_eq (a := c9_1.lg) (b := 0) (by omega) (by omega)).mp h_7
        refine lv_iconst (v := (0 : Int32)) hx hb d_M_based_22 (by decide) ?_
        refine va_put (D := D) (ci := 7) (v := .int (0 : Int32)) (ty := .int) (C := cn_M) (T := ft_M) (N := 19) hx hb hf_M (fun _ h => h) fy_M fk_M fn_M hown hK hP hD hS 0 rfl rfl 0 (by decide) (gw.at G hx0 mw_713 rfl _) (fun _ h9 => h9) rfl (by decide +kernel) rfl rfl (Nat.le_of_ble_eq_true rfl) d_M_based_23 (fun H locs hP hD hS => ?_)
        have hP : va_P D kl [(am.m0, .inr (7, [.int (0 : Int32), .int (nI c9_1.zs), .int (nI c9_1.rn), .ref am.rw, .int (nI c9_1.kn), .int (nI c9_1.rk), .int (nI c9_1.yn), .ref am.ry, .int (nI c9_1.sp), .int (nI c9_1.lg), .ref am.ti, .int (nI c9_1.fo), .int (nI c9_1.pt), .ref am.po, .ref am.su, .ref am.sq, .ref am.ch, .ref am.vt, .ref am.sh])), (am.rw, .inl (cI, 32, .inl c9_1.wf)), (am.ry, .inl (cI, 256, .inl c9_1.yf)), (am.ti, .inl (cI, 8, .inl c9_1.tf)), (am.po, .inl (cI, 4000, .inl c9_1.pf)), (am.su, .inl (cZ, 1000, .inl c9_1.sf)), (am.sq, .inl (cJ, 256, .inr (.inl c9_1.qf))), (am.ch, .inl (cI, 8, .inl (nf c9_1.ck))), (am.vt, .inl (cI, 4, .inl c9_1.vf)), (am.sh, .inl (cI, 4, .inl (nf c9_1.sk)))] H := hP
        have hD : va_D A [(am.m0, .inr (7, [.int (0 : Int32), .int (nI c9_1.zs), .int (nI c9_1.rn), .ref am.rw, .int (nI c9_1.kn), .int (nI c9_1.rk), .int (nI c9_1.yn), .ref am.ry, .int (nI c9_1.sp), .int (nI c9_1.lg), .ref am.ti, .int (nI c9_1.fo), .int (nI c9_1.pt), .ref am.po, .ref am.su, .ref am.sq, .ref am.ch, .ref am.vt, .ref am.sh])), (am.rw, .inl (cI, 32, .inl c9_1.wf)), (am.ry, .inl (cI, 256, .inl c9_1.yf)), (am.ti, .inl (cI, 8, .inl c9_1.tf)), (am.po, .inl (cI, 4000, .inl c9_1.pf)), (am.su, .inl (cZ, 1000, .inl c9_1.sf)), (am.sq, .inl (cJ, 256, .inr (.inl c9_1.qf))), (am.ch, .inl (cI, 8, .inl (nf c9_1.ck))), (am.vt, .inl (cI, 4, .inl c9_1.vf)), (am.sh, .inl (cI, 4, .inl (nf c9_1.sk)))] := hD
        refine lv_aload_n hx hb d_M_based_26 rfl (lv_at hl 0 rfl) ?_
        refine va_get (D := D) (ci := 7) (v := .int (nI c9_1.lg)) (C := cn_M) (T := ft_M) (N := 19) hx hb hf_M (fun _ h => h) hown hK hP 0 rfl rfl 9 (by decide) (gw.at G hx0 mw_722 rfl _) (fun _ h9 => h9) rfl d_M_based_27 ?_
        refine lv_if_ne (tgt := 37) hx hb d_M_based_30 (by decide) (fun h99 => absurd h99 (not_not_intro ((nI_eq (a := c9_1.lg) (b := 0) (by omega) (by omega)).mpr (by omega)))) (fun _ => ?_)
        have hlg0 : c9_1.lg = 0 := by have z9 := h_7; omega
        have hyn8 : c9_1.yn ≤ 8 := by obtain ⟨-, -, z9⟩ := hJ1.k1 hk1; obtain ⟨-, -, -, z8⟩ := z9 f_5; rcases z8 with z7 | z7; exact absurd z7.1 (by rw [hlg0]; decide); exact z7.2.1
        refine lv_aload_n hx hb d_M_based_33 rfl (lv_at hl 0 rfl) ?_
        by_cases h_8 : c9_1.fo = 0
        · refine cx_call (D := D) (cl := kl) (ws := _) (wc := [(am.m0, .inr (7, [.int (0 : Int32), .int (nI c9_1.zs), .int (nI c9_1.rn), .ref am.rw, .int (nI c9_1.kn), .int (nI c9_1.rk), .int (nI c9_1.yn), .ref am.ry, .int (nI c9_1.sp), .int (nI c9_1.lg), .ref am.ti, .int (nI c9_1.fo), .int (nI c9_1.pt), .ref am.po, .ref am.su, .ref am.sq, .ref am.ch, .ref am.vt, .ref am.sh])), (am.rw, .inl (cI, 32, .inl c9_1.wf)), (am.ry, .inl (cI, 256, .inl c9_1.yf)), (am.po, .inl (cI, 4000, .inl c9_1.pf)), (am.vt, .inl (cI, 4, .inl c9_1.vf)), (am.su, .inl (cZ, 1000, .inl c9_1.sf)), (am.sq, .inl (cJ, 256, .inr (.inl c9_1.qf))), (am.ch, .inl (cI, 8, .inl (nf c9_1.ck))), (am.sh, .inl (cI, 4, .inl (nf c9_1.sk)))]) (wr := [(am.ti, .inl (cI, 8, .inl c9_1.tf))]) (tx_runV (C := cn_M) (b := am.m0) (As := []) (rest := []) hx hb hml hown (c_M_find_u E H.size am.m0 am.rw am.ry am.ti am.po am.su am.sq am.ch am.vt am.sh (0 : Int32) (nI c9_1.rk) (nI c9_1.lg) (nI c9_1.pt) c9_1.zs c9_1.rn c9_1.kn c9_1.fo c9_1.yn c9_1.sp c9_1.wf c9_1.yf c9_1.pf c9_1.vf c9_1.sf c9_1.qf c9_1.ck c9_1.sk hk1 h_8 hz4 hr8 hyn8 hsp hck hsk (hT9.2.1 _ _ _ _ _ _ _ _ _ hz2 hz4 hr8 hro (hJ1.k1 hk1) f_5 hlg0)) (cx_C (b0 := b0) G hx0 mw_909 mw_9 ny_M_find (by decide)) (gw.at G hx0 mw_906 rfl _) (gw.at G hx0 mw_908 rfl _) (gw.at G hx0 ms_M_find rfl _) ⟨cx_blind, va_recv hK hP (q0 := 0) (ci := 7) (q := (cn_M, ft_M, 19)) rfl rfl, (cx_pre (s := s) hx0 hP hD hS hA0 [0, 1, 2, 4, 8, 5, 6, 7, 9] rfl rfl (by decide))⟩ rfl rfl hl.1 rfl (lv_room (Nat.le_of_ble_eq_true rfl)) d_M_based_34 ⟨by decide, by decide⟩) hP hD hS hA [0, 1, 2, 4, 8, 5, 6, 7, 9] [3] rfl rfl (by decide) (by decide) (fun v t w1 H locs ht hW9 hp hP hD hS => ?_) (fun x t w1 H locs ht hW9 hp hP hD hS => by obtain ⟨_, _, _, _, _, _, _, h9, -⟩ := hp; cases h9)
          obtain ⟨pt9_9, pf9_10, vf9_11, sf9_12, q9_13, c9_14, s9_15, h9, f_16, f_17, f_18, f_19, rfl⟩ := hp
          cases h9
          refine W.eq (g2 := F0 m 37 ls []) rfl ?_
          refine W.widen (k := 0) (n := 0) (by decide) (by decide) ?_
          have hP : va_P D kl [(am.ti, .inl (cI, 8, .inl c9_1.tf)), (am.m0, .inr (7, [.int (0 : Int32), .int (nI c9_1.zs), .int (nI c9_1.rn), .ref am.rw, .int (nI c9_1.kn), .int (nI c9_1.rk), .int (nI c9_1.yn), .ref am.ry, .int (nI c9_1.sp), .int (nI c9_1.lg), .ref am.ti, .int (1 : Int32), .int (nI pt9_9), .ref am.po, .ref am.su, .ref am.sq, .ref am.ch, .ref am.vt, .ref am.sh])), (am.rw, .inl (cI, 32, .inl c9_1.wf)), (am.ry, .inl (cI, 256, .inl c9_1.yf)), (am.po, .inl (cI, 4000, .inl pf9_10)), (am.vt, .inl (cI, 4, .inl vf9_11)), (am.su, .inl (cZ, 1000, .inl sf9_12)), (am.sq, .inl (cJ, 256, .inr (.inl q9_13))), (am.ch, .inl (cI, 8, .inl (nf c9_14))), (am.sh, .inl (cI, 4, .inl (nf s9_15)))] H := hP
          have hD : va_D A [(am.ti, .inl (cI, 8, .inl c9_1.tf)), (am.m0, .inr (7, [.int (0 : Int32), .int (nI c9_1.zs), .int (nI c9_1.rn), .ref am.rw, .int (nI c9_1.kn), .int (nI c9_1.rk), .int (nI c9_1.yn), .ref am.ry, .int (nI c9_1.sp), .int (nI c9_1.lg), .ref am.ti, .int (1 : Int32), .int (nI pt9_9), .ref am.po, .ref am.su, .ref am.sq, .ref am.ch, .ref am.vt, .ref am.sh])), (am.rw, .inl (cI, 32, .inl c9_1.wf)), (am.ry, .inl (cI, 256, .inl c9_1.yf)), (am.po, .inl (cI, 4000, .inl pf9_10)), (am.vt, .inl (cI, 4, .inl vf9_11)), (am.su, .inl (cZ, 1000, .inl sf9_12)), (am.sq, .inl (cJ, 256, .inr (.inl q9_13))), (am.ch, .inl (cI, 8, .inl (nf c9_14))), (am.sh, .inl (cI, 4, .inl (nf s9_15)))] := hD
          obtain ⟨c_20, hc_20⟩ : ∃ x99 : MC, x99 = (MCmk (0 : Int32) c9_1.zs c9_1.rn c9_1.kn c9_1.rk c9_1.yn c9_1.sp c9_1.lg 1 pt9_9 c9_1.wf c9_1.yf c9_1.tf pf9_10 sf9_12 q9_13 c9_14 vf9_11 s9_15) := ⟨_, rfl⟩
          have hP : va_P D kl [(am.ti, .inl (cI, 8, .inl c_20.tf)), (am.m0, .inr (7, [.int c_20.th, .int (nI c_20.zs), .int (nI c_20.rn), .ref am.rw, .int (nI c_20.kn), .int (nI c_20.rk), .int (nI c_20.yn), .ref am.ry, .int (nI c_20.sp), .int (nI c_20.lg), .ref am.ti, .int (nI c_20.fo), .int (nI c_20.pt), .ref am.po, .ref am.su, .ref am.sq, .ref am.ch, .ref am.vt, .ref am.sh])), (am.rw, .inl (cI, 32, .inl c_20.wf)), (am.ry, .inl (cI, 256, .inl c_20.yf)), (am.po, .inl (cI, 4000, .inl c_20.pf)), (am.vt, .inl (cI, 4, .inl c_20.vf)), (am.su, .inl (cZ, 1000, .inl c_20.sf)), (am.sq, .inl (cJ, 256, .inr (.inl c_20.qf))), (am.ch, .inl (cI, 8, .inl (nf c_20.ck))), (am.sh, .inl (cI, 4, .inl (nf c_20.sk)))] H := by subst hc_20; exact hP
          have hD : va_D A [(am.ti, .inl (cI, 8, .inl c_20.tf)), (am.m0, .inr (7, [.int c_20.th, .int (nI c_20.zs), .int (nI c_20.rn), .ref am.rw, .int (nI c_20.kn), .int (nI c_20.rk), .int (nI c_20.yn), .ref am.ry, .int (nI c_20.sp), .int (nI c_20.lg), .ref am.ti, .int (nI c_20.fo), .int (nI c_20.pt), .ref am.po, .ref am.su, .ref am.sq, .ref am.ch, .ref am.vt, .ref am.sh])), (am.rw, .inl (cI, 32, .inl c_20.wf)), (am.ry, .inl (cI, 256, .inl c_20.yf)), (am.po, .inl (cI, 4000, .inl c_20.pf)), (am.vt, .inl (cI, 4, .inl c_20.vf)), (am.su, .inl (cZ, 1000, .inl c_20.sf)), (am.sq, .inl (cJ, 256, .inr (.inl c_20.qf))), (am.ch, .inl (cI, 8, .inl (nf c_20.ck))), (am.sh, .inl (cI, 4, .inl (nf c_20.sk)))] := by subst hc_20; exact hD
          have hJ2 : MJ c_20 := by subst hc_20; exact ⟨hz2, hz4, hr8, hkn, hrk, hyn, hsp, hlg, Nat.le_refl 1, f_17, f_18, f_19, hro, hJ1.k1, fun _ _ _ _ => f_16⟩
          have hf1 : c_20.fo = 1 := by subst hc_20; exact rfl
          have hk2 : c_20.kn = 1 := by subst hc_20; exact hk1
          have hS2 : MS cm c_20 := by subst hc_20; exact hS1
          have hp2 : c_20.zs ≤ c_20.rk := by subst hc_20; exact f_5
          have hl2 : c_20.lg = 0 := by subst hc_20; exact hlg0
          have ht2 : c_20.th = (0 : Int32) := by subst hc_20; exact rfl
          have hz2 := hJ2.z2
          have hz4 := hJ2.z4
          have hr8 := hJ2.r8
          have hkn := hJ2.kn
          have hrk := hJ2.rk
          have hyn := hJ2.yn
          have hsp := hJ2.sp
          have hlg := hJ2.lg
          have hfo := hJ2.fo
          have hpt := hJ2.pt
          have hck := hJ2.ck
          have hsk := hJ2.sk
          have hro := hJ2.ro
          refine lv_aload_n hx hb d_M_based_37 rfl (lv_at hl 0 rfl) ?_
          refine va_get (D := D) (ci := 7) (v := .int (nI c_20.lg)) (C := cn_M) (T := ft_M) (N := 19) hx hb hf_M (fun _ h => h) hown hK hP 1 rfl rfl 9 (by decide) (gw.at G hx0 mw_722 rfl _) (fun _ h9 => h9) rfl d_M_based_38 ?_
          refine lv_if_ne (tgt := 48) hx hb d_M_based_41 (by decide) (fun h99 => absurd h99 (not_not_intro ((nI_eq (a := c_20.lg) (b := 0) (by omega) (by omega)).mpr (by omega)))) (fun _ => ?_)
          refine lv_iconst (v := (1 : Int32)) hx hb d_M_based_44 (by decide) ?_
          refine lv_goto (tgt := 49) hx hb d_M_based_45 (by decide) ?_
          exact tx_mono (fun _ h => tx_Z.of h) (W.zret (v := (1 : Int32)) hx hb hr (by decide) (fun t ht hW => ⟨⟨[(am.m0, .inr (7, [.int c_20.th, .int (nI c_20.zs), .int (nI c_20.rn), .ref am.rw, .int (nI c_20.kn), .int (nI c_20.rk), .int (nI c_20.yn), .ref am.ry, .int (nI c_20.sp), .int (nI c_20.lg), .ref am.ti, .int (nI c_20.fo), .int (nI c_20.pt), .ref am.po, .ref am.su, .ref am.sq, .ref am.ch, .ref am.vt, .ref am.sh])), (am.rw, .inl (cI, 32, .inl c_20.wf)), (am.ry, .inl (cI, 256, .inl c_20.yf)), (am.ti, .inl (cI, 8, .inl c_20.tf)), (am.po, .inl (cI, 4000, .inl c_20.pf)), (am.su, .inl (cZ, 1000, .inl c_20.sf)), (am.sq, .inl (cJ, 256, .inr (.inl c_20.qf))), (am.ch, .inl (cI, 8, .inl (nf c_20.ck))), (am.vt, .inl (cI, 4, .inl c_20.vf)), (am.sh, .inl (cI, 4, .inl (nf c_20.sk)))], Or.inl (⟨c_20, rfl, hJ2, hS2, hk2, hp2, hl2, hf1, ht2, rfl⟩), by rw [ht]; exact hP.sub [1, 2, 3, 0, 4, 6, 7, 8, 5, 9] rfl, hD.sub [1, 2, 3, 0, 4, 6, 7, 8, 5, 9] (by decide) rfl⟩, hS.F ht⟩) hS.2.2 d_M_based_49)
        · refine cx_call (D := D) (cl := kl) (ws := _) (wc := [(am.m0, .inr (7, [.int (0 : Int32), .int (nI c9_1.zs), .int (nI c9_1.rn), .ref am.rw, .int (nI c9_1.kn), .int (nI c9_1.rk), .int (nI c9_1.yn), .ref am.ry, .int (nI c9_1.sp), .int (nI c9_1.lg), .ref am.ti, .int (nI c9_1.fo), .int (nI c9_1.pt), .ref am.po, .ref am.su, .ref am.sq, .ref am.ch, .ref am.vt, .ref am.sh]))]) (wr := [(am.rw, .inl (cI, 32, .inl c9_1.wf)), (am.ry, .inl (cI, 256, .inl c9_1.yf)), (am.ti, .inl (cI, 8, .inl c9_1.tf)), (am.po, .inl (cI, 4000, .inl c9_1.pf)), (am.su, .inl (cZ, 1000, .inl c9_1.sf)), (am.sq, .inl (cJ, 256, .inr (.inl c9_1.qf))), (am.ch, .inl (cI, 8, .inl (nf c9_1.ck))), (am.vt, .inl (cI, 4, .inl c9_1.vf)), (am.sh, .inl (cI, 4, .inl (nf c9_1.sk)))]) (tx_runV (C := cn_M) (b := am.m0) (As := []) (rest := []) hx hb hml hown (c_M_find_k E H.size am.m0 am.rw am.ry am.ti am.po am.su am.sq am.ch am.vt am.sh (0 : Int32) (nI c9_1.rk) (nI c9_1.lg) (nI c9_1.pt) c9_1.zs c9_1.rn c9_1.kn c9_1.fo c9_1.yn c9_1.sp hk1 (by omega)) (cx_C (b0 := b0) G hx0 mw_909 mw_9 ny_M_find (by decide)) (gw.at G hx0 mw_906 rfl _) (gw.at G hx0 mw_908 rfl _) (gw.at G hx0 ms_M_find rfl _) ⟨cx_blind, va_recv hK hP (q0 := 0) (ci := 7) (q := (cn_M, ft_M, 19)) rfl rfl, (cx_pre (s := s) hx0 hP hD hS hA0 [0] rfl rfl (by decide))⟩ rfl rfl hl.1 rfl (lv_room (Nat.le_of_ble_eq_true rfl)) d_M_based_34 ⟨by decide, by decide⟩) hP hD hS hA [0] [1, 2, 3, 4, 5, 6, 7, 8, 9] rfl rfl (by decide) (by decide) (fun v t w1 H locs ht hW9 hp hP hD hS => ?_) (fun x t w1 H locs ht hW9 hp hP hD hS => by obtain ⟨h9, -⟩ := hp; cases h9)
          obtain ⟨h9, rfl⟩ := hp
          cases h9
          refine W.eq (g2 := F0 m 37 ls []) rfl ?_
          refine W.widen (k := 0) (n := 0) (by decide) (by decide) ?_
          have hP : va_P D kl [(am.rw, .inl (cI, 32, .inl c9_1.wf)), (am.ry, .inl (cI, 256, .inl c9_1.yf)), (am.ti, .inl (cI, 8, .inl c9_1.tf)), (am.po, .inl (cI, 4000, .inl c9_1.pf)), (am.su, .inl (cZ, 1000, .inl c9_1.sf)), (am.sq, .inl (cJ, 256, .inr (.inl c9_1.qf))), (am.ch, .inl (cI, 8, .inl (nf c9_1.ck))), (am.vt, .inl (cI, 4, .inl c9_1.vf)), (am.sh, .inl (cI, 4, .inl (nf c9_1.sk))), (am.m0, .inr (7, [.int (0 : Int32), .int (nI c9_1.zs), .int (nI c9_1.rn), .ref am.rw, .int (nI c9_1.kn), .int (nI c9_1.rk), .int (nI c9_1.yn), .ref am.ry, .int (nI c9_1.sp), .int (nI c9_1.lg), .ref am.ti, .int (nI c9_1.fo), .int (nI c9_1.pt), .ref am.po, .ref am.su, .ref am.sq, .ref am.ch, .ref am.vt, .ref am.sh]))] H := hP
          have hD : va_D A [(am.rw, .inl (cI, 32, .inl c9_1.wf)), (am.ry, .inl (cI, 256, .inl c9_1.yf)), (am.ti, .inl (cI, 8, .inl c9_1.tf)), (am.po, .inl (cI, 4000, .inl c9_1.pf)), (am.su, .inl (cZ, 1000, .inl c9_1.sf)), (am.sq, .inl (cJ, 256, .inr (.inl c9_1.qf))), (am.ch, .inl (cI, 8, .inl (nf c9_1.ck))), (am.vt, .inl (cI, 4, .inl c9_1.vf)), (am.sh, .inl (cI, 4, .inl (nf c9_1.sk))), (am.m0, .inr (7, [.int (0 : Int32), .int (nI c9_1.zs), .int (nI c9_1.rn), .ref am.rw, .int (nI c9_1.kn), .int (nI c9_1.rk), .int (nI c9_1.yn), .ref am.ry, .int (nI c9_1.sp), .int (nI c9_1.lg), .ref am.ti, .int (nI c9_1.fo), .int (nI c9_1.pt), .ref am.po, .ref am.su, .ref am.sq, .ref am.ch, .ref am.vt, .ref am.sh]))] := hD
          obtain ⟨c_21, hc_21⟩ : ∃ x99 : MC, x99 = (MCmk (0 : Int32) c9_1.zs c9_1.rn c9_1.kn c9_1.rk c9_1.yn c9_1.sp c9_1.lg c9_1.fo c9_1.pt c9_1.wf c9_1.yf c9_1.tf c9_1.pf c9_1.sf c9_1.qf c9_1.ck c9_1.vf c9_1.sk) := ⟨_, rfl⟩
          have hP : va_P D kl [(am.rw, .inl (cI, 32, .inl c_21.wf)), (am.ry, .inl (cI, 256, .inl c_21.yf)), (am.ti, .inl (cI, 8, .inl c_21.tf)), (am.po, .inl (cI, 4000, .inl c_21.pf)), (am.su, .inl (cZ, 1000, .inl c_21.sf)), (am.sq, .inl (cJ, 256, .inr (.inl c_21.qf))), (am.ch, .inl (cI, 8, .inl (nf c_21.ck))), (am.vt, .inl (cI, 4, .inl c_21.vf)), (am.sh, .inl (cI, 4, .inl (nf c_21.sk))), (am.m0, .inr (7, [.int c_21.th, .int (nI c_21.zs), .int (nI c_21.rn), .ref am.rw, .int (nI c_21.kn), .int (nI c_21.rk), .int (nI c_21.yn), .ref am.ry, .int (nI c_21.sp), .int (nI c_21.lg), .ref am.ti, .int (nI c_21.fo), .int (nI c_21.pt), .ref am.po, .ref am.su, .ref am.sq, .ref am.ch, .ref am.vt, .ref am.sh]))] H := by subst hc_21; exact hP
          have hD : va_D A [(am.rw, .inl (cI, 32, .inl c_21.wf)), (am.ry, .inl (cI, 256, .inl c_21.yf)), (am.ti, .inl (cI, 8, .inl c_21.tf)), (am.po, .inl (cI, 4000, .inl c_21.pf)), (am.su, .inl (cZ, 1000, .inl c_21.sf)), (am.sq, .inl (cJ, 256, .inr (.inl c_21.qf))), (am.ch, .inl (cI, 8, .inl (nf c_21.ck))), (am.vt, .inl (cI, 4, .inl c_21.vf)), (am.sh, .inl (cI, 4, .inl (nf c_21.sk))), (am.m0, .inr (7, [.int c_21.th, .int (nI c_21.zs), .int (nI c_21.rn), .ref am.rw, .int (nI c_21.kn), .int (nI c_21.rk), .int (nI c_21.yn), .ref am.ry, .int (nI c_21.sp), .int (nI c_21.lg), .ref am.ti, .int (nI c_21.fo), .int (nI c_21.pt), .ref am.po, .ref am.su, .ref am.sq, .ref am.ch, .ref am.vt, .ref am.sh]))] := by subst hc_21; exact hD
          have hJ2 : MJ c_21 := by subst hc_21; exact hJ1
          have hf1 : c_21.fo = 1 := by subst hc_21; exact (show c9_1.fo = 1 by omega)
          have hk2 : c_21.kn = 1 := by subst hc_21; exact hk1
          have hS2 : MS cm c_21 := by subst hc_21; exact hS1
          have hp2 : c_21.zs ≤ c_21.rk := by subst hc_21; exact f_5
          have hl2 : c_21.lg = 0 := by subst hc_21; exact hlg0
          have ht2 : c_21.th = (0 : Int32) := by subst hc_21; exact rfl
          have hz2 := hJ2.z2
          have hz4 := hJ2.z4
          have hr8 := hJ2.r8
          have hkn := hJ2.kn
          have hrk := hJ2.rk
          have hyn := hJ2.yn
          have hsp := hJ2.sp
          have hlg := hJ2.lg
          have hfo := hJ2.fo
          have hpt := hJ2.pt
          have hck := hJ2.ck
          have hsk := hJ2.sk
          have hro := hJ2.ro
          refine lv_aload_n hx hb d_M_based_37 rfl (lv_at hl 0 rfl) ?_
          refine va_get (D := D) (ci := 7) (v := .int (nI c_21.lg)) (C := cn_M) (T := ft_M) (N := 19) hx hb hf_M (fun _ h => h) hown hK hP 9 rfl rfl 9 (by decide) (gw.at G hx0 mw_722 rfl _) (fun _ h9 => h9) rfl d_M_based_38 ?_
          refine lv_if_ne (tgt := 48) hx hb d_M_based_41 (by decide) (fun h99 => absurd h99 (not_not_intro ((nI_eq (a := c_21.lg) (b := 0) (by omega) (by omega)).mpr (by omega)))) (fun _ => ?_)
          refine lv_iconst (v := (1 : Int32)) hx hb d_M_based_44 (by decide) ?_
          refine lv_goto (tgt := 49) hx hb d_M_based_45 (by decide) ?_
          exact tx_mono (fun _ h => tx_Z.of h) (W.zret (v := (1 : Int32)) hx hb hr (by decide) (fun t ht hW => ⟨⟨[(am.m0, .inr (7, [.int c_21.th, .int (nI c_21.zs), .int (nI c_21.rn), .ref am.rw, .int (nI c_21.kn), .int (nI c_21.rk), .int (nI c_21.yn), .ref am.ry, .int (nI c_21.sp), .int (nI c_21.lg), .ref am.ti, .int (nI c_21.fo), .int (nI c_21.pt), .ref am.po, .ref am.su, .ref am.sq, .ref am.ch, .ref am.vt, .ref am.sh])), (am.rw, .inl (cI, 32, .inl c_21.wf)), (am.ry, .inl (cI, 256, .inl c_21.yf)), (am.ti, .inl (cI, 8, .inl c_21.tf)), (am.po, .inl (cI, 4000, .inl c_21.pf)), (am.su, .inl (cZ, 1000, .inl c_21.sf)), (am.sq, .inl (cJ, 256, .inr (.inl c_21.qf))), (am.ch, .inl (cI, 8, .inl (nf c_21.ck))), (am.vt, .inl (cI, 4, .inl c_21.vf)), (am.sh, .inl (cI, 4, .inl (nf c_21.sk)))], Or.inl (⟨c_21, rfl, hJ2, hS2, hk2, hp2, hl2, hf1, ht2, rfl⟩), by rw [ht]; exact hP.sub [9, 0, 1, 2, 3, 4, 5, 6, 7, 8] rfl, hD.sub [9, 0, 1, 2, 3, 4, 5, 6, 7, 8] (by decide) rfl⟩, hS.F ht⟩) hS.2.2 d_M_based_49)
      · have h_7 : ¬ (c9_1.lg = 0) := fun z99 => h_7 ((nI_eq (a := c9_1.lg) (b := 0) (by omega) (by omega)).mpr z99)
        refine lv_iload_n hx hb d_M_based_18 rfl (lv_at hl 1 rfl) ?_
        refine lv_goto (tgt := 23) hx hb d_M_based_19 (by decide) ?_
        refine va_put (D := D) (ci := 7) (v := .int (2 : Int32)) (ty := .int) (C := cn_M) (T := ft_M) (N := 19) hx hb hf_M (fun _ h => h) fy_M fk_M fn_M hown hK hP hD hS 0 rfl rfl 0 (by decide) (gw.at G hx0 mw_713 rfl _) (fun _ h9 => h9) rfl (by decide +kernel) rfl rfl (Nat.le_of_ble_eq_true rfl) d_M_based_23 (fun H locs hP hD hS => ?_)
        have hP : va_P D kl [(am.m0, .inr (7, [.int (2 : Int32), .int (nI c9_1.zs), .int (nI c9_1.rn), .ref am.rw, .int (nI c9_1.kn), .int (nI c9_1.rk), .int (nI c9_1.yn), .ref am.ry, .int (nI c9_1.sp), .int (nI c9_1.lg), .ref am.ti, .int (nI c9_1.fo), .int (nI c9_1.pt), .ref am.po, .ref am.su, .ref am.sq, .ref am.ch, .ref am.vt, .ref am.sh])), (am.rw, .inl (cI, 32, .inl c9_1.wf)), (am.ry, .inl (cI, 256, .inl c9_1.yf)), (am.ti, .inl (cI, 8, .inl c9_1.tf)), (am.po, .inl (cI, 4000, .inl c9_1.pf)), (am.su, .inl (cZ, 1000, .inl c9_1.sf)), (am.sq, .inl (cJ, 256, .inr (.inl c9_1.qf))), (am.ch, .inl (cI, 8, .inl (nf c9_1.ck))), (am.vt, .inl (cI, 4, .inl c9_1.vf)), (am.sh, .inl (cI, 4, .inl (nf c9_1.sk)))] H := hP
        have hD : va_D A [(am.m0, .inr (7, [.int (2 : Int32), .int (nI c9_1.zs), .int (nI c9_1.rn), .ref am.rw, .int (nI c9_1.kn), .int (nI c9_1.rk), .int (nI c9_1.yn), .ref am.ry, .int (nI c9_1.sp), .int (nI c9_1.lg), .ref am.ti, .int (nI c9_1.fo), .int (nI c9_1.pt), .ref am.po, .ref am.su, .ref am.sq, .ref am.ch, .ref am.vt, .ref am.sh])), (am.rw, .inl (cI, 32, .inl c9_1.wf)), (am.ry, .inl (cI, 256, .inl c9_1.yf)), (am.ti, .inl (cI, 8, .inl c9_1.tf)), (am.po, .inl (cI, 4000, .inl c9_1.pf)), (am.su, .inl (cZ, 1000, .inl c9_1.sf)), (am.sq, .inl (cJ, 256, .inr (.inl c9_1.qf))), (am.ch, .inl (cI, 8, .inl (nf c9_1.ck))), (am.vt, .inl (cI, 4, .inl c9_1.vf)), (am.sh, .inl (cI, 4, .inl (nf c9_1.sk)))] := hD
        refine lv_aload_n hx hb d_M_based_26 rfl (lv_at hl 0 rfl) ?_
        refine va_get (D := D) (ci := 7) (v := .int (nI c9_1.lg)) (C := cn_M) (T := ft_M) (N := 19) hx hb hf_M (fun _ h => h) hown hK hP 0 rfl rfl 9 (by decide) (gw.at G hx0 mw_722 rfl _) (fun _ h9 => h9) rfl d_M_based_27 ?_
        refine lv_if_ne (tgt := 37) hx hb d_M_based_30 (by decide) (fun _ => ?_) (fun h99 => absurd h99 (fun z99 => absurd ((nI_eq (a := c9_1.lg) (b := 0) (by omega) (by omega)).mp z99) (by omega)))
        refine lv_aload_n hx hb d_M_based_37 rfl (lv_at hl 0 rfl) ?_
        refine va_get (D := D) (ci := 7) (v := .int (nI c9_1.lg)) (C := cn_M) (T := ft_M) (N := 19) hx hb hf_M (fun _ h => h) hown hK hP 0 rfl rfl 9 (by decide) (gw.at G hx0 mw_722 rfl _) (fun _ h9 => h9) rfl d_M_based_38 ?_
        refine lv_if_ne (tgt := 48) hx hb d_M_based_41 (by decide) (fun _ => ?_) (fun h99 => absurd h99 (fun z99 => absurd ((nI_eq (a := c9_1.lg) (b := 0) (by omega) (by omega)).mp z99) (by omega)))
        refine lv_iconst (v := (0 : Int32)) hx hb d_M_based_48 (by decide) ?_
        exact tx_mono (fun _ h => tx_Z.of h) (W.zret (v := (0 : Int32)) hx hb hr (by decide) (fun t ht hW => ⟨⟨[(am.m0, .inr (7, [.int (2 : Int32), .int (nI c9_1.zs), .int (nI c9_1.rn), .ref am.rw, .int (nI c9_1.kn), .int (nI c9_1.rk), .int (nI c9_1.yn), .ref am.ry, .int (nI c9_1.sp), .int (nI c9_1.lg), .ref am.ti, .int (nI c9_1.fo), .int (nI c9_1.pt), .ref am.po, .ref am.su, .ref am.sq, .ref am.ch, .ref am.vt, .ref am.sh])), (am.rw, .inl (cI, 32, .inl c9_1.wf)), (am.ry, .inl (cI, 256, .inl c9_1.yf)), (am.ti, .inl (cI, 8, .inl c9_1.tf)), (am.po, .inl (cI, 4000, .inl c9_1.pf)), (am.su, .inl (cZ, 1000, .inl c9_1.sf)), (am.sq, .inl (cJ, 256, .inr (.inl c9_1.qf))), (am.ch, .inl (cI, 8, .inl (nf c9_1.ck))), (am.vt, .inl (cI, 4, .inl c9_1.vf)), (am.sh, .inl (cI, 4, .inl (nf c9_1.sk)))], Or.inr (⟨(MCmk (2 : Int32) c9_1.zs c9_1.rn c9_1.kn c9_1.rk c9_1.yn c9_1.sp c9_1.lg c9_1.fo c9_1.pt c9_1.wf c9_1.yf c9_1.tf c9_1.pf c9_1.sf c9_1.qf c9_1.ck c9_1.vf c9_1.sk), rfl, hJ1, hS1, hk1, Or.inr ⟨f_5, (show c9_1.lg = 1 by have z9 := h_7; omega)⟩, rfl, rfl⟩), by rw [ht]; exact hP.sub [0, 1, 2, 3, 4, 5, 6, 7, 8, 9] rfl, hD.sub [0, 1, 2, 3, 4, 5, 6, 7, 8, 9] (by decide) rfl⟩, hS.F ht⟩) hS.2.2 d_M_based_49)
    · obtain ⟨c9_22, h9, f_23, f_24, f_25, f_26, f_27, rfl⟩ := hp
      cases h9
      refine W.eq (g2 := F0 m 5 ls [.int (0 : Int32)]) rfl ?_
      refine W.widen (k := 0) (n := 0) (by decide) (by decide) ?_
      have hP : va_P D kl [(am.m0, .inr (7, [.int c9_22.th, .int (nI c9_22.zs), .int (nI c9_22.rn), .ref am.rw, .int (nI c9_22.kn), .int (nI c9_22.rk), .int (nI c9_22.yn), .ref am.ry, .int (nI c9_22.sp), .int (nI c9_22.lg), .ref am.ti, .int (nI c9_22.fo), .int (nI c9_22.pt), .ref am.po, .ref am.su, .ref am.sq, .ref am.ch, .ref am.vt, .ref am.sh])), (am.rw, .inl (cI, 32, .inl c9_22.wf)), (am.ry, .inl (cI, 256, .inl c9_22.yf)), (am.ti, .inl (cI, 8, .inl c9_22.tf)), (am.po, .inl (cI, 4000, .inl c9_22.pf)), (am.su, .inl (cZ, 1000, .inl c9_22.sf)), (am.sq, .inl (cJ, 256, .inr (.inl c9_22.qf))), (am.ch, .inl (cI, 8, .inl (nf c9_22.ck))), (am.vt, .inl (cI, 4, .inl c9_22.vf)), (am.sh, .inl (cI, 4, .inl (nf c9_22.sk)))] H := hP
      have hD : va_D A [(am.m0, .inr (7, [.int c9_22.th, .int (nI c9_22.zs), .int (nI c9_22.rn), .ref am.rw, .int (nI c9_22.kn), .int (nI c9_22.rk), .int (nI c9_22.yn), .ref am.ry, .int (nI c9_22.sp), .int (nI c9_22.lg), .ref am.ti, .int (nI c9_22.fo), .int (nI c9_22.pt), .ref am.po, .ref am.su, .ref am.sq, .ref am.ch, .ref am.vt, .ref am.sh])), (am.rw, .inl (cI, 32, .inl c9_22.wf)), (am.ry, .inl (cI, 256, .inl c9_22.yf)), (am.ti, .inl (cI, 8, .inl c9_22.tf)), (am.po, .inl (cI, 4000, .inl c9_22.pf)), (am.su, .inl (cZ, 1000, .inl c9_22.sf)), (am.sq, .inl (cJ, 256, .inr (.inl c9_22.qf))), (am.ch, .inl (cI, 8, .inl (nf c9_22.ck))), (am.vt, .inl (cI, 4, .inl c9_22.vf)), (am.sh, .inl (cI, 4, .inl (nf c9_22.sk)))] := hD
      have hJ1 := f_23
      have hS1 := f_24
      have hk1 : c9_22.kn = 1 := f_25
      have hz2 := hJ1.z2
      have hz4 := hJ1.z4
      have hr8 := hJ1.r8
      have hkn := hJ1.kn
      have hrk := hJ1.rk
      have hyn := hJ1.yn
      have hsp := hJ1.sp
      have hlg := hJ1.lg
      have hfo := hJ1.fo
      have hpt := hJ1.pt
      have hck := hJ1.ck
      have hsk := hJ1.sk
      have hro := hJ1.ro
      refine lv_if_ne (tgt := 10) hx hb d_M_based_5 (by decide) (fun h99 => absurd h99 (by decide)) (fun _ => ?_)
      refine lv_iconst (v := (0 : Int32)) hx hb d_M_based_8 (by decide) ?_
      exact tx_mono (fun _ h => tx_Z.of h) (W.zret (v := (0 : Int32)) hx hb hr (by decide) (fun t ht hW => ⟨⟨[(am.m0, .inr (7, [.int c9_22.th, .int (nI c9_22.zs), .int (nI c9_22.rn), .ref am.rw, .int (nI c9_22.kn), .int (nI c9_22.rk), .int (nI c9_22.yn), .ref am.ry, .int (nI c9_22.sp), .int (nI c9_22.lg), .ref am.ti, .int (nI c9_22.fo), .int (nI c9_22.pt), .ref am.po, .ref am.su, .ref am.sq, .ref am.ch, .ref am.vt, .ref am.sh])), (am.rw, .inl (cI, 32, .inl c9_22.wf)), (am.ry, .inl (cI, 256, .inl c9_22.yf)), (am.ti, .inl (cI, 8, .inl c9_22.tf)), (am.po, .inl (cI, 4000, .inl c9_22.pf)), (am.su, .inl (cZ, 1000, .inl c9_22.sf)), (am.sq, .inl (cJ, 256, .inr (.inl c9_22.qf))), (am.ch, .inl (cI, 8, .inl (nf c9_22.ck))), (am.vt, .inl (cI, 4, .inl c9_22.vf)), (am.sh, .inl (cI, 4, .inl (nf c9_22.sk)))], Or.inr (⟨c9_22, rfl, hJ1, hS1, hk1, Or.inl f_26, f_27, rfl⟩), by rw [ht]; exact hP.sub [0, 1, 2, 3, 4, 5, 6, 7, 8, 9] rfl, hD.sub [0, 1, 2, 3, 4, 5, 6, 7, 8, 9] (by decide) rfl⟩, hS.F ht⟩) hS.2.2 d_M_based_9)
  · rcases hp with hp | hp
    · obtain ⟨_, h9, -⟩ := hp; cases h9
    · obtain ⟨_, h9, -⟩ := hp; cases h9

