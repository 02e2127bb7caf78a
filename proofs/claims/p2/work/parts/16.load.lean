/-! ===== own rows, laid by wip/tools/sym.py: Minors.load ===== -/
set_option maxHeartbeats 4000000 in
set_option maxRecDepth 100000 in
theorem c_D_hasBit_y {l : Launch} {s0 : State} {b0 : Addr} {D : va_G} {cI cJ cZ : ClassId} {tC tS : Nat} (E : gE l s0 b0 D cI cJ cZ tC tS) (sz : Nat) (ch : Nat) (pp : Nat) (hch : ch < 2 ^ 31) (hpp : pp < 31) (h : ch.testBit pp = true) : cx_M l s0 D kl y_D_hasBit b_D_hasBit 2 (some .boolean) ({ frames := 0, cells := 0, slots := 0, locals := 0 } : Room) 0 0 [.int (nI ch), .int (nI pp)] [] sz (fun o9 _ w9 => o9 = .returned (some (.int (1 : Int32))) ∧ w9 = []) := by
  refine tx_ofW (cc := b_D_hasBit) (maxL := 2) (ret := (some .boolean)) (by decide) rfl ?_
  intro p e s m args below meth c s₁ B hml hT hv
  obtain ⟨rfl, hsz, hP, hD0, hx0⟩ := hv
  have hx := B.exec
  have hb := B.bytes
  have hr := B.returns
  have G := E.2.1
  have hown : s.vm.findClass cn_D = some m.cls := findClass_of_methodNamed B.named
  have hlocks := B.notSynchronized
  have hK := va_K.moved hx0.1.alike E.2.2.1
  subst hsz
  have hA0 := cx_new hD0 hx0.2.1
  have hD := hD0.self (sz := s.heap.size)
  generalize hAe : va_A [] s.heap.size = A at hD hA0 ⊢
  have hA : ∀ q : Nat, s.heap.size ≤ q → A q := fun q h => by rw [← hAe]; exact Or.inr h
  have hS : va_S A s.heap s.heap [] := va_S.rf
  have hl := lv_entry ([.int (nI ch), .int (nI pp)]) (n := 2) (Nat.le_of_ble_eq_true rfl)
  rw [lg_entry_eq]
  generalize (lg_sl ([.int (nI ch), .int (nI pp)]) ++ List.replicate (2 - (lg_sl ([.int (nI ch), .int (nI pp)])).length) Slot.unset).toArray = ls at hl ⊢
  have hl : lv_has ls 2 [(0, .int (nI ch)), (1, .int (nI pp))] := hl
  have hP : va_P D kl [] s.heap := hP
  have hml : c.maxLocals = 2 := hml
  refine lv_iload_n hx hb d_D_hasBit_0 rfl (lv_at hl 0 rfl) ?_
  refine lv_iload_n hx hb d_D_hasBit_1 rfl (lv_at hl 1 rfl) ?_
  refine lv_ishr hx hb d_D_hasBit_2 ?_
  refine tp_i (y := nI (ch / 2 ^ pp)) (nI_shr (n := ch) (p := pp) (by omega) (by omega)) ?_
  refine lv_iconst (v := (1 : Int32)) hx hb d_D_hasBit_3 (by decide) ?_
  refine lv_iand hx hb d_D_hasBit_4 ?_
  refine lv_if_eq (tgt := 12) hx hb d_D_hasBit_5 (by decide) (fun h99 => absurd h99 (hb_y (by omega) h)) (fun _ => ?_)
  refine lv_iconst (v := (1 : Int32)) hx hb d_D_hasBit_8 (by decide) ?_
  refine lv_goto (tgt := 13) hx hb d_D_hasBit_9 (by decide) ?_
  exact tx_mono (fun _ h => tx_Z.of h) (W.zret (v := (1 : Int32)) hx hb hr (by decide) (fun t ht hW => ⟨⟨[], ⟨rfl, rfl⟩, by rw [ht]; exact hP.sub [] rfl, hD.sub [] (by decide) rfl⟩, hS.F ht⟩) hS.2.2 d_D_hasBit_13)

set_option maxHeartbeats 4000000 in
set_option maxRecDepth 100000 in
theorem c_D_hasBit_n {l : Launch} {s0 : State} {b0 : Addr} {D : va_G} {cI cJ cZ : ClassId} {tC tS : Nat} (E : gE l s0 b0 D cI cJ cZ tC tS) (sz : Nat) (ch : Nat) (pp : Nat) (hch : ch < 2 ^ 31) (hpp : pp < 31) (h : ¬ ch.testBit pp = true) : cx_M l s0 D kl y_D_hasBit b_D_hasBit 2 (some .boolean) ({ frames := 0, cells := 0, slots := 0, locals := 0 } : Room) 0 0 [.int (nI ch), .int (nI pp)] [] sz (fun o9 _ w9 => o9 = .returned (some (.int (0 : Int32))) ∧ w9 = []) := by
  refine tx_ofW (cc := b_D_hasBit) (maxL := 2) (ret := (some .boolean)) (by decide) rfl ?_
  intro p e s m args below meth c s₁ B hml hT hv
  obtain ⟨rfl, hsz, hP, hD0, hx0⟩ := hv
  have hx := B.exec
  have hb := B.bytes
  have hr := B.returns
  have G := E.2.1
  have hown : s.vm.findClass cn_D = some m.cls := findClass_of_methodNamed B.named
  have hlocks := B.notSynchronized
  have hK := va_K.moved hx0.1.alike E.2.2.1
  subst hsz
  have hA0 := cx_new hD0 hx0.2.1
  have hD := hD0.self (sz := s.heap.size)
  generalize hAe : va_A [] s.heap.size = A at hD hA0 ⊢
  have hA : ∀ q : Nat, s.heap.size ≤ q → A q := fun q h => by rw [← hAe]; exact Or.inr h
  have hS : va_S A s.heap s.heap [] := va_S.rf
  have hl := lv_entry ([.int (nI ch), .int (nI pp)]) (n := 2) (Nat.le_of_ble_eq_true rfl)
  rw [lg_entry_eq]
  generalize (lg_sl ([.int (nI ch), .int (nI pp)]) ++ List.replicate (2 - (lg_sl ([.int (nI ch), .int (nI pp)])).length) Slot.unset).toArray = ls at hl ⊢
  have hl : lv_has ls 2 [(0, .int (nI ch)), (1, .int (nI pp))] := hl
  have hP : va_P D kl [] s.heap := hP
  have hml : c.maxLocals = 2 := hml
  refine lv_iload_n hx hb d_D_hasBit_0 rfl (lv_at hl 0 rfl) ?_
  refine lv_iload_n hx hb d_D_hasBit_1 rfl (lv_at hl 1 rfl) ?_
  refine lv_ishr hx hb d_D_hasBit_2 ?_
  refine tp_i (y := nI (ch / 2 ^ pp)) (nI_shr (n := ch) (p := pp) (by omega) (by omega)) ?_
  refine lv_iconst (v := (1 : Int32)) hx hb d_D_hasBit_3 (by decide) ?_
  refine lv_iand hx hb d_D_hasBit_4 ?_
  refine lv_if_eq (tgt := 12) hx hb d_D_hasBit_5 (by decide) (fun _ => ?_) (fun h99 => absurd h99 (not_not_intro (hb_n (by omega) h)))
  refine lv_iconst (v := (0 : Int32)) hx hb d_D_hasBit_12 (by decide) ?_
  exact tx_mono (fun _ h => tx_Z.of h) (W.zret (v := (0 : Int32)) hx hb hr (by decide) (fun t ht hW => ⟨⟨[], ⟨rfl, rfl⟩, by rw [ht]; exact hP.sub [] rfl, hD.sub [] (by decide) rfl⟩, hS.F ht⟩) hS.2.2 d_D_hasBit_13)

set_option maxHeartbeats 4000000 in
set_option maxRecDepth 100000 in
theorem c_D_maskOf {l : Launch} {s0 : State} {b0 : Addr} {D : va_G} {cI cJ cZ : ClassId} {tC tS : Nat} (E : gE l s0 b0 D cI cJ cZ tC tS) (sz : Nat) (n : Nat) (hn : n ≤ 12) : cx_M l s0 D kl y_D_maskOfAll b_D_maskOfAll 1 (some .int) ({ frames := 0, cells := 0, slots := 0, locals := 0 } : Room) 0 0 [.int (nI n)] [] sz (fun o9 _ w9 => o9 = .returned (some (.int (nI (2 ^ n - 1)))) ∧ w9 = []) := by
  refine tx_ofW (cc := b_D_maskOfAll) (maxL := 1) (ret := (some .int)) (by decide) rfl ?_
  intro p e s m args below meth c s₁ B hml hT hv
  obtain ⟨rfl, hsz, hP, hD0, hx0⟩ := hv
  have hx := B.exec
  have hb := B.bytes
  have hr := B.returns
  have G := E.2.1
  have hown : s.vm.findClass cn_D = some m.cls := findClass_of_methodNamed B.named
  have hlocks := B.notSynchronized
  have hK := va_K.moved hx0.1.alike E.2.2.1
  subst hsz
  have hA0 := cx_new hD0 hx0.2.1
  have hD := hD0.self (sz := s.heap.size)
  generalize hAe : va_A [] s.heap.size = A at hD hA0 ⊢
  have hA : ∀ q : Nat, s.heap.size ≤ q → A q := fun q h => by rw [← hAe]; exact Or.inr h
  have hS : va_S A s.heap s.heap [] := va_S.rf
  have hl := lv_entry ([.int (nI n)]) (n := 1) (Nat.le_of_ble_eq_true rfl)
  rw [lg_entry_eq]
  generalize (lg_sl ([.int (nI n)]) ++ List.replicate (1 - (lg_sl ([.int (nI n)])).length) Slot.unset).toArray = ls at hl ⊢
  have hl : lv_has ls 1 [(0, .int (nI n))] := hl
  have hP : va_P D kl [] s.heap := hP
  have hml : c.maxLocals = 1 := hml
  have h2n : 1 ≤ 2 ^ n := Nat.one_le_two_pow
  refine lv_iconst (v := (1 : Int32)) hx hb d_D_maskOfAll_0 (by decide) ?_
  refine lv_iload_n hx hb d_D_maskOfAll_1 rfl (lv_at hl 0 rfl) ?_
  refine lv_ishl hx hb d_D_maskOfAll_2 ?_
  refine tp_i (y := nI (2 ^ n)) (nI_shl (k := n) (by omega)) ?_
  refine lv_iconst (v := (1 : Int32)) hx hb d_D_maskOfAll_3 (by decide) ?_
  refine lv_isub hx hb d_D_maskOfAll_4 ?_
  refine tp_i (y := nI ((2 ^ n) - 1)) (nI_sub (a := 2 ^ n) (b := 1) (by omega)) ?_
  exact tx_mono (fun _ h => tx_Z.of h) (W.iret (v := nI ((2 ^ n) - 1)) hx hb hr (fun t ht hW => ⟨⟨[], ⟨rfl, rfl⟩, by rw [ht]; exact hP.sub [] rfl, hD.sub [] (by decide) rfl⟩, hS.F ht⟩) hS.2.2 d_D_maskOfAll_5)

theorem c_MI_join_y {l : Launch} {s0 : State} {b0 : Addr} {D : va_G} {cI cJ cZ : ClassId} {tC tS : Nat} (E : gE l s0 b0 D cI cJ cZ tC tS) (sz : Nat) (mi : Nat) (cu : Nat) (nx : Nat) (cf : Nat → Int64) (nf : Nat → Int64) (pl : Nat) (pa : Nat) (ct : Nat) (mo : Nat) (pz : Nat) (pf : Nat → Int32) (w : Nat) (j : Nat) (hpz : pz = mo * 4) (hmo : mo ≤ 107) (hct : ct ≤ mo) (hw : w < mo) (hj : j < 4) (h : indep j cf (rowAt pf w)) : cx_M l s0 D kl y_MI_join b_MI_join 11 none ({ frames := 0, cells := 0, slots := 0, locals := 0 } : Room) 0 0 [.ref mi, .ref pl, .int (nI w)] [(mi, .inr (2, [.ref cu, .ref nx, .int (nI j)])), (cu, .inl (cJ, 16, .inr (.inl cf))), (nx, .inl (cJ, 16, .inr (.inl nf))), (pl, .inr (1, [.ref pa, .int (nI ct), .int (nI mo)])), (pa, .inl (cI, pz, .inl pf))] sz (fun o9 _ w9 => o9 = .returned none ∧ w9 = [(mi, .inr (2, [.ref nx, .ref cu, .int (nI (j + 1))])), (cu, .inl (cJ, 16, .inr (.inl cf))), (nx, .inl (cJ, 16, .inr (.inl (mfill cf nf (rowAt pf w) (lev (j + 1)))))), (pl, .inr (1, [.ref pa, .int (nI ct), .int (nI mo)])), (pa, .inl (cI, pz, .inl pf))]) := by
  rcases (show j = 0 ∨ j = 1 ∨ j = 2 ∨ j = 3 by omega) with rfl | rfl | rfl | rfl
  · exact c_MI_join0_y E sz mi cu nx cf nf pl pa ct mo pz pf w hpz hmo hct hw h
  · exact c_MI_join1_y E sz mi cu nx cf nf pl pa ct mo pz pf w hpz hmo hct hw h
  · exact c_MI_join2_y E sz mi cu nx cf nf pl pa ct mo pz pf w hpz hmo hct hw h
  · exact c_MI_join3_y E sz mi cu nx cf nf pl pa ct mo pz pf w hpz hmo hct hw h

theorem c_MI_join_n {l : Launch} {s0 : State} {b0 : Addr} {D : va_G} {cI cJ cZ : ClassId} {tC tS : Nat} (E : gE l s0 b0 D cI cJ cZ tC tS) (sz : Nat) (mi : Nat) (cu : Nat) (nx : Nat) (cf : Nat → Int64) (nf : Nat → Int64) (pl : Nat) (pa : Nat) (ct : Nat) (mo : Nat) (pz : Nat) (pf : Nat → Int32) (w : Nat) (j : Nat) (hpz : pz = mo * 4) (hmo : mo ≤ 107) (hct : ct ≤ mo) (hw : w < mo) (hj : j < 4) (h : ¬ indep j cf (rowAt pf w)) : cx_M l s0 D kl y_MI_join b_MI_join 11 none ({ frames := 0, cells := 0, slots := 0, locals := 0 } : Room) 0 0 [.ref mi, .ref pl, .int (nI w)] [(mi, .inr (2, [.ref cu, .ref nx, .int (nI j)])), (cu, .inl (cJ, 16, .inr (.inl cf))), (nx, .inl (cJ, 16, .inr (.inl nf))), (pl, .inr (1, [.ref pa, .int (nI ct), .int (nI mo)])), (pa, .inl (cI, pz, .inl pf))] sz (fun o9 _ w9 => o9 = .returned none ∧ w9 = [(mi, .inr (2, [.ref cu, .ref nx, .int (nI j)])), (cu, .inl (cJ, 16, .inr (.inl cf))), (nx, .inl (cJ, 16, .inr (.inl (mfill cf nf (rowAt pf w) (lev (j + 1)))))), (pl, .inr (1, [.ref pa, .int (nI ct), .int (nI mo)])), (pa, .inl (cI, pz, .inl pf))]) := by
  rcases (show j = 0 ∨ j = 1 ∨ j = 2 ∨ j = 3 by omega) with rfl | rfl | rfl | rfl
  · exact c_MI_join0_n E sz mi cu nx cf nf pl pa ct mo pz pf w hpz hmo hct hw h
  · exact c_MI_join1_n E sz mi cu nx cf nf pl pa ct mo pz pf w hpz hmo hct hw h
  · exact c_MI_join2_n E sz mi cu nx cf nf pl pa ct mo pz pf w hpz hmo hct hw h
  · exact c_MI_join3_n E sz mi cu nx cf nf pl pa ct mo pz pf w hpz hmo hct hw h

set_option maxHeartbeats 4000000 in
set_option maxRecDepth 100000 in
theorem c_MI_load {l : Launch} {s0 : State} {b0 : Addr} {D : va_G} {cI cJ cZ : ClassId} {tC tS : Nat} (E : gE l s0 b0 D cI cJ cZ tC tS) (sz : Nat) (mi : Nat) (cu : Nat) (nx : Nat) (cf : Nat → Int64) (nf : Nat → Int64) (jz : Int32) (pl : Nat) (pa : Nat) (ct : Nat) (mo : Nat) (pz : Nat) (pf : Nat → Int32) (ch : Nat) (hpz : pz = mo * 4) (hmo : mo ≤ 107) (hct : ct ≤ mo) (hc12 : ct ≤ 12) (hch : ch < 2 ^ 31) : cx_M l s0 D kl y_MI_load b_MI_load 4 (some .int) ({ frames := 1, cells := 0, slots := 0, locals := 30 } : Room) 0 0 [.ref mi, .ref pl, .int (nI ch)] [(mi, .inr (2, [.ref cu, .ref nx, .int jz])), (cu, .inl (cJ, 16, .inr (.inl cf))), (nx, .inl (cJ, 16, .inr (.inl nf))), (pl, .inr (1, [.ref pa, .int (nI ct), .int (nI mo)])), (pa, .inl (cI, pz, .inl pf))] sz (fun o9 _ w9 => ∃ (ca : Nat) (nb : Nat) (fa : Nat → Int64) (fb : Nat → Int64), o9 = .returned (some (.int (nI ((lst pf ch ct).1)))) ∧ (∀ m ∈ lev (lst pf ch ct).1, fa m = (lst pf ch ct).2 m) ∧ w9 = [(mi, .inr (2, [.ref ca, .ref nb, .int (nI ((lst pf ch ct).1))])), (ca, .inl (cJ, 16, .inr (.inl fa))), (nb, .inl (cJ, 16, .inr (.inl fb))), (pl, .inr (1, [.ref pa, .int (nI ct), .int (nI mo)])), (pa, .inl (cI, pz, .inl pf))]) := by
  refine tx_ofW (cc := b_MI_load) (maxL := 4) (ret := (some .int)) (by decide) rfl ?_
  intro p e s m args below meth c s₁ B hml hT hv
  obtain ⟨rfl, hsz, hP, hD0, hx0⟩ := hv
  have hx := B.exec
  have hb := B.bytes
  have hr := B.returns
  have G := E.2.1
  have hown : s.vm.findClass cn_MI = some m.cls := findClass_of_methodNamed B.named
  have hlocks := B.notSynchronized
  have hK := va_K.moved hx0.1.alike E.2.2.1
  have hf_MI : ∀ w99 ∈ u_ws cn_MI ft_MI 3, w99.before ([.ref mi, .ref pl, .int (nI ch)] : List Value).toArray s = true := fun w99 h99 => gw.at G hx0 (fw_MI w99 h99) (fo_MI w99 h99) _
  have hf_PL : ∀ w99 ∈ u_ws cn_PL ft_PL 3, w99.before ([.ref mi, .ref pl, .int (nI ch)] : List Value).toArray s = true := fun w99 h99 => gw.at G hx0 (fw_PL w99 h99) (fo_PL w99 h99) _
  subst hsz
  have hA0 := cx_new hD0 hx0.2.1
  have hD := hD0.self (sz := s.heap.size)
  generalize hAe : va_A [(mi, .inr (2, [.ref cu, .ref nx, .int jz])), (cu, .inl (cJ, 16, .inr (.inl cf))), (nx, .inl (cJ, 16, .inr (.inl nf))), (pl, .inr (1, [.ref pa, .int (nI ct), .int (nI mo)])), (pa, .inl (cI, pz, .inl pf))] s.heap.size = A at hD hA0 ⊢
  have hA : ∀ q : Nat, s.heap.size ≤ q → A q := fun q h => by rw [← hAe]; exact Or.inr h
  have hS : va_S A s.heap s.heap [] := va_S.rf
  have hl := lv_entry ([.ref mi, .ref pl, .int (nI ch)]) (n := 4) (Nat.le_of_ble_eq_true rfl)
  rw [lg_entry_eq]
  generalize (lg_sl ([.ref mi, .ref pl, .int (nI ch)]) ++ List.replicate (4 - (lg_sl ([.ref mi, .ref pl, .int (nI ch)])).length) Slot.unset).toArray = ls at hl ⊢
  have hl : lv_has ls 4 [(0, .ref mi), (1, .ref pl), (2, .int (nI ch))] := hl
  have hP : va_P D kl [(mi, .inr (2, [.ref cu, .ref nx, .int jz])), (cu, .inl (cJ, 16, .inr (.inl cf))), (nx, .inl (cJ, 16, .inr (.inl nf))), (pl, .inr (1, [.ref pa, .int (nI ct), .int (nI mo)])), (pa, .inl (cI, pz, .inl pf))] s.heap := hP
  have hml : c.maxLocals = 4 := hml
  generalize hQe : tx_Z below (cx_Q D kl A (fun o9 _ w9 => ∃ (ca : Nat) (nb : Nat) (fa : Nat → Int64) (fb : Nat → Int64), o9 = .returned (some (.int (nI ((lst pf ch ct).1)))) ∧ (∀ m ∈ lev (lst pf ch ct).1, fa m = (lst pf ch ct).2 m) ∧ w9 = [(mi, .inr (2, [.ref ca, .ref nb, .int (nI ((lst pf ch ct).1))])), (ca, .inl (cJ, 16, .inr (.inl fa))), (nb, .inl (cJ, 16, .inr (.inl fb))), (pl, .inr (1, [.ref pa, .int (nI ct), .int (nI mo)])), (pa, .inl (cI, pz, .inl pf))])) ([.ref mi, .ref pl, .int (nI ch)] : List Value).toArray s 0 0 A = Q
  refine lv_aload_n hx hb d_MI_load_0 rfl (lv_at hl 0 rfl) ?_
  refine lv_iconst (v := (0 : Int32)) hx hb d_MI_load_1 (by decide) ?_
  refine va_put (D := D) (ci := 2) (v := .int (0 : Int32)) (ty := .int) (C := cn_MI) (T := ft_MI) (N := 3) hx hb hf_MI (fun _ h => h) fy_MI fk_MI fn_MI hown hK hP hD hS 0 rfl rfl 2 (by decide) (gw.at G hx0 mw_66 rfl _) (fun _ h9 => h9) rfl (by decide +kernel) rfl rfl (Nat.le_of_ble_eq_true rfl) d_MI_load_2 (fun H locs hP hD hS => ?_)
  have hP : va_P D kl [(mi, .inr (2, [.ref cu, .ref nx, .int (0 : Int32)])), (cu, .inl (cJ, 16, .inr (.inl cf))), (nx, .inl (cJ, 16, .inr (.inl nf))), (pl, .inr (1, [.ref pa, .int (nI ct), .int (nI mo)])), (pa, .inl (cI, pz, .inl pf))] H := hP
  have hD : va_D A [(mi, .inr (2, [.ref cu, .ref nx, .int (0 : Int32)])), (cu, .inl (cJ, 16, .inr (.inl cf))), (nx, .inl (cJ, 16, .inr (.inl nf))), (pl, .inr (1, [.ref pa, .int (nI ct), .int (nI mo)])), (pa, .inl (cI, pz, .inl pf))] := hD
  refine lv_aload_n hx hb d_MI_load_5 rfl (lv_at hl 0 rfl) ?_
  refine va_get (D := D) (ci := 2) (v := .ref cu) (C := cn_MI) (T := ft_MI) (N := 3) hx hb hf_MI (fun _ h => h) hown hK hP 0 rfl rfl 0 (by decide) (gw.at G hx0 mw_64 rfl _) (fun _ h9 => h9) rfl d_MI_load_6 ?_
  refine lv_iconst (v := (0 : Int32)) hx hb d_MI_load_9 (by decide) ?_
  refine lv_lconst (v := (1 : Int64)) hx hb d_MI_load_10 (by decide) ?_
  refine va_last hx hb hK hP hD hS 1 1 rfl rfl (vp_in_iff.mpr (by decide)) d_MI_load_11 (fun H locs hP hD hS => ?_)
  have hP : va_P D kl [(mi, .inr (2, [.ref cu, .ref nx, .int (0 : Int32)])), (cu, .inl (cJ, 16, .inr (.inl (vp_updL cf 0 (1 : Int64))))), (nx, .inl (cJ, 16, .inr (.inl nf))), (pl, .inr (1, [.ref pa, .int (nI ct), .int (nI mo)])), (pa, .inl (cI, pz, .inl pf))] H := hP
  have hD : va_D A [(mi, .inr (2, [.ref cu, .ref nx, .int (0 : Int32)])), (cu, .inl (cJ, 16, .inr (.inl (vp_updL cf 0 (1 : Int64))))), (nx, .inl (cJ, 16, .inr (.inl nf))), (pl, .inr (1, [.ref pa, .int (nI ct), .int (nI mo)])), (pa, .inl (cI, pz, .inl pf))] := hD
  refine lv_iconst (v := (0 : Int32)) hx hb d_MI_load_12 (by decide) ?_
  refine lv_istore_n (lv' := [(3, .int (0 : Int32)), (0, .ref mi), (1, .ref pl), (2, .int (nI ch))]) hx hb d_MI_load_13 rfl hl (by decide) rfl (fun ls hl => ?_)
  have lp_14 : ∀ (n9 : Nat) (z : Nat) (ca : Nat) (nb : Nat) (fa : Nat → Int64) (fb : Nat → Int64) (j : Nat) (ls : Array Slot) (H : Heap) (locs : List Loc), ct - z = n9 → ((lst pf ch z).1 = j) → (∀ m ∈ lev j, fa m = (lst pf ch z).2 m) → (z ≤ ct) → (j ≤ 4) → lv_has ls 4 [(3, .int (nI z)), (0, .ref mi), (1, .ref pl), (2, .int (nI ch))] → va_P D kl [(mi, .inr (2, [.ref ca, .ref nb, .int (nI j)])), (ca, .inl (cJ, 16, .inr (.inl fa))), (nb, .inl (cJ, 16, .inr (.inl fb))), (pl, .inr (1, [.ref pa, .int (nI ct), .int (nI mo)])), (pa, .inl (cI, pz, .inl pf))] H → va_D A [(mi, .inr (2, [.ref ca, .ref nb, .int (nI j)])), (ca, .inl (cJ, 16, .inr (.inl fa))), (nb, .inl (cJ, 16, .inr (.inl fb))), (pl, .inr (1, [.ref pa, .int (nI ct), .int (nI mo)])), (pa, .inl (cI, pz, .inl pf))] → va_S A s.heap H locs → W p l e ({ frames := 1, cells := 0, slots := 0, locals := 30 } : Room) s m ([.ref mi, .ref pl, .int (nI ch)] : List Value).toArray below meth c H locs 0 0 Q (F0 m 14 ls []) := by
    intro n9
    induction n9 using Nat.strongRecOn with
    | ind n9 ih_14 =>
      intro z ca nb fa fb j ls H locs hm_14 hj hf hz hj4 hl hP hD hS
      refine lv_iload_n hx hb d_MI_load_14 rfl (lv_at hl 0 rfl) ?_
      refine lv_aload_n hx hb d_MI_load_15 rfl (lv_at hl 2 rfl) ?_
      refine va_get (D := D) (ci := 1) (v := .int (nI ct)) (C := cn_PL) (T := ft_PL) (N := 3) hx hb hf_PL (fun _ h => h) hown hK hP 3 rfl rfl 1 (by decide) (gw.at G hx0 mw_44 rfl _) (fun _ h9 => h9) rfl d_MI_load_16 ?_
      refine lv_icmp_ge (tgt := 50) hx hb d_MI_load_19 (by decide) (fun h_1 => ?_) (fun h_1 => ?_)
      · have h_1 : ct ≤ z := (nI_leI (a := ct) (b := z) (by omega) (by omega)).mp h_1
        have hfin : lst pf ch ct = lst pf ch z := by rw [show ct = z by omega]
        have hj9 : (lst pf ch ct).1 = j := by rw [hfin]; exact hj
        have hf9 : ∀ m ∈ lev (lst pf ch ct).1, fa m = (lst pf ch ct).2 m := by rw [hj9, hfin]; exact hf
        subst hj9
        refine lv_aload_n hx hb d_MI_load_50 rfl (lv_at hl 1 rfl) ?_
        refine va_get (D := D) (ci := 2) (v := .int (nI ((lst pf ch ct).1))) (C := cn_MI) (T := ft_MI) (N := 3) hx hb hf_MI (fun _ h => h) hown hK hP 0 rfl rfl 2 (by decide) (gw.at G hx0 mw_66 rfl _) (fun _ h9 => h9) rfl d_MI_load_51 ?_
        rw [← hQe]
        exact tx_mono (fun _ h => tx_Z.of h) (W.iret (v := nI ((lst pf ch ct).1)) hx hb hr (fun t ht hW => ⟨⟨[(mi, .inr (2, [.ref ca, .ref nb, .int (nI ((lst pf ch ct).1))])), (ca, .inl (cJ, 16, .inr (.inl fa))), (nb, .inl (cJ, 16, .inr (.inl fb))), (pl, .inr (1, [.ref pa, .int (nI ct), .int (nI mo)])), (pa, .inl (cI, pz, .inl pf))], ⟨ca, nb, fa, fb, rfl, hf9, rfl⟩, by rw [ht]; exact hP.sub [0, 1, 2, 3, 4] rfl, hD.sub [0, 1, 2, 3, 4] (by decide) rfl⟩, hS.F ht⟩) hS.2.2 d_MI_load_54)
      · have h_1 : ¬ (ct ≤ z) := fun z99 => h_1 ((nI_leI (a := ct) (b := z) (by omega) (by omega)).mpr z99)
        refine lv_aload_n hx hb d_MI_load_22 rfl (lv_at hl 1 rfl) ?_
        refine va_get (D := D) (ci := 2) (v := .int (nI j)) (C := cn_MI) (T := ft_MI) (N := 3) hx hb hf_MI (fun _ h => h) hown hK hP 0 rfl rfl 2 (by decide) (gw.at G hx0 mw_66 rfl _) (fun _ h9 => h9) rfl d_MI_load_23 ?_
        refine lv_iconst (v := (4 : Int32)) hx hb d_MI_load_26 (by decide) ?_
        refine lv_icmp_ge (tgt := 50) hx hb d_MI_load_27 (by decide) (fun h_2 => ?_) (fun h_2 => ?_)
        · have h_2 : 4 ≤ j := (nI_leI (a := 4) (b := j) (by omega) (by omega)).mp h_2
          have hfin : lst pf ch ct = lst pf ch z := lst_stay (by rw [hj]; omega) hz
          have hj9 : (lst pf ch ct).1 = j := by rw [hfin]; exact hj
          have hf9 : ∀ m ∈ lev (lst pf ch ct).1, fa m = (lst pf ch ct).2 m := by rw [hj9, hfin]; exact hf
          subst hj9
          refine lv_aload_n hx hb d_MI_load_50 rfl (lv_at hl 1 rfl) ?_
          refine va_get (D := D) (ci := 2) (v := .int (nI ((lst pf ch ct).1))) (C := cn_MI) (T := ft_MI) (N := 3) hx hb hf_MI (fun _ h => h) hown hK hP 0 rfl rfl 2 (by decide) (gw.at G hx0 mw_66 rfl _) (fun _ h9 => h9) rfl d_MI_load_51 ?_
          rw [← hQe]
          exact tx_mono (fun _ h => tx_Z.of h) (W.iret (v := nI ((lst pf ch ct).1)) hx hb hr (fun t ht hW => ⟨⟨[(mi, .inr (2, [.ref ca, .ref nb, .int (nI ((lst pf ch ct).1))])), (ca, .inl (cJ, 16, .inr (.inl fa))), (nb, .inl (cJ, 16, .inr (.inl fb))), (pl, .inr (1, [.ref pa, .int (nI ct), .int (nI mo)])), (pa, .inl (cI, pz, .inl pf))], ⟨ca, nb, fa, fb, rfl, hf9, rfl⟩, by rw [ht]; exact hP.sub [0, 1, 2, 3, 4] rfl, hD.sub [0, 1, 2, 3, 4] (by decide) rfl⟩, hS.F ht⟩) hS.2.2 d_MI_load_54)
        · have h_2 : ¬ (4 ≤ j) := fun z99 => h_2 ((nI_leI (a := 4) (b := j) (by omega) (by omega)).mpr z99)
          refine lv_iload_n hx hb d_MI_load_30 rfl (lv_at hl 3 rfl) ?_
          refine lv_iload_n hx hb d_MI_load_31 rfl (lv_at hl 0 rfl) ?_
          by_cases h_3 : ch.testBit z = true
          · refine cx_call (D := D) (cl := kl) (ws := _) (wc := []) (wr := [(mi, .inr (2, [.ref ca, .ref nb, .int (nI j)])), (ca, .inl (cJ, 16, .inr (.inl fa))), (nb, .inl (cJ, 16, .inr (.inl fb))), (pl, .inr (1, [.ref pa, .int (nI ct), .int (nI mo)])), (pa, .inl (cI, pz, .inl pf))]) (tx_runSN (As := [.int (nI ch), .int (nI z)]) (rest := []) hx hb hml hown (c_D_hasBit_y E H.size ch z hch (by omega) h_3) (cx_C (b0 := b0) G hx0 mw_372 mw_1 ny_D_hasBit (by decide)) (gw.at G hx0 mw_370 rfl _) (gw.at G hx0 mw_371 rfl _) (gw.at G hx0 mw_1 rfl _) ⟨cx_blind, (cx_pre (s := s) hx0 hP hD hS hA0 [] rfl rfl (by decide))⟩ rfl rfl hl.1 rfl (lv_room (Nat.le_of_ble_eq_true rfl)) d_MI_load_32 ⟨by decide, by decide⟩) hP hD hS hA [] [0, 1, 2, 3, 4] rfl rfl (by decide) (by decide) (fun v t w1 H locs ht hW9 hp hP hD hS => ?_) (fun x t w1 H locs ht hW9 hp hP hD hS => by obtain ⟨h9, -⟩ := hp; cases h9)
            obtain ⟨h9, rfl⟩ := hp
            cases h9
            refine W.eq (g2 := F0 m 35 ls [.int (1 : Int32)]) rfl ?_
            refine W.widen (k := 0) (n := 0) (by decide) (by decide) ?_
            have hP : va_P D kl [(mi, .inr (2, [.ref ca, .ref nb, .int (nI j)])), (ca, .inl (cJ, 16, .inr (.inl fa))), (nb, .inl (cJ, 16, .inr (.inl fb))), (pl, .inr (1, [.ref pa, .int (nI ct), .int (nI mo)])), (pa, .inl (cI, pz, .inl pf))] H := hP
            have hD : va_D A [(mi, .inr (2, [.ref ca, .ref nb, .int (nI j)])), (ca, .inl (cJ, 16, .inr (.inl fa))), (nb, .inl (cJ, 16, .inr (.inl fb))), (pl, .inr (1, [.ref pa, .int (nI ct), .int (nI mo)])), (pa, .inl (cI, pz, .inl pf))] := hD
            refine lv_if_eq (tgt := 44) hx hb d_MI_load_35 (by decide) (fun h99 => absurd h99 (by decide)) (fun _ => ?_)
            refine lv_aload_n hx hb d_MI_load_38 rfl (lv_at hl 1 rfl) ?_
            refine lv_aload_n hx hb d_MI_load_39 rfl (lv_at hl 2 rfl) ?_
            refine lv_iload_n hx hb d_MI_load_40 rfl (lv_at hl 0 rfl) ?_
            by_cases h_4 : indep j fa (rowAt pf z)
            · refine cx_call (D := D) (cl := kl) (ws := _) (wc := [(mi, .inr (2, [.ref ca, .ref nb, .int (nI j)])), (ca, .inl (cJ, 16, .inr (.inl fa))), (nb, .inl (cJ, 16, .inr (.inl fb))), (pl, .inr (1, [.ref pa, .int (nI ct), .int (nI mo)])), (pa, .inl (cI, pz, .inl pf))]) (wr := []) (tx_runV (C := cn_MI) (b := mi) (As := [.ref pl, .int (nI z)]) (rest := []) hx hb hml hown (c_MI_join_y E H.size mi ca nb fa fb pl pa ct mo pz pf z j hpz hmo hct (by omega) (by omega) h_4) (cx_C (b0 := b0) G hx0 mw_376 mw_4 ny_MI_join (by decide)) (gw.at G hx0 mw_373 rfl _) (gw.at G hx0 mw_375 rfl _) (gw.at G hx0 ms_MI_join rfl _) ⟨cx_blind, va_recv hK hP (q0 := 0) (ci := 2) (q := (cn_MI, ft_MI, 3)) rfl rfl, (cx_pre (s := s) hx0 hP hD hS hA0 [0, 1, 2, 3, 4] rfl rfl (by decide))⟩ rfl rfl hl.1 rfl (lv_room (Nat.le_of_ble_eq_true rfl)) d_MI_load_41 ⟨by decide, by decide⟩) hP hD hS hA [0, 1, 2, 3, 4] [] rfl rfl (by decide) (by decide) (fun v t w1 H locs ht hW9 hp hP hD hS => ?_) (fun x t w1 H locs ht hW9 hp hP hD hS => by obtain ⟨h9, -⟩ := hp; cases h9)
              obtain ⟨h9, rfl⟩ := hp
              cases h9
              refine W.eq (g2 := F0 m 44 ls []) rfl ?_
              refine W.widen (k := 0) (n := 0) (by decide) (by decide) ?_
              have hP : va_P D kl [(mi, .inr (2, [.ref nb, .ref ca, .int (nI (j + 1))])), (ca, .inl (cJ, 16, .inr (.inl fa))), (nb, .inl (cJ, 16, .inr (.inl (mfill fa fb (rowAt pf z) (lev (j + 1)))))), (pl, .inr (1, [.ref pa, .int (nI ct), .int (nI mo)])), (pa, .inl (cI, pz, .inl pf))] H := hP
              have hD : va_D A [(mi, .inr (2, [.ref nb, .ref ca, .int (nI (j + 1))])), (ca, .inl (cJ, 16, .inr (.inl fa))), (nb, .inl (cJ, 16, .inr (.inl (mfill fa fb (rowAt pf z) (lev (j + 1)))))), (pl, .inr (1, [.ref pa, .int (nI ct), .int (nI mo)])), (pa, .inl (cI, pz, .inl pf))] := hD
              refine lv_iinc (lv' := [(3, .int (nI (z + 1))), (0, .ref mi), (1, .ref pl), (2, .int (nI ch))]) (k := 0) (v := nI (z + 1)) hx hb d_MI_load_44 hl rfl (nI_add z 1) (by decide) rfl (fun ls hl => ?_)
              refine lv_goto (tgt := 14) hx hb d_MI_load_47 (by decide) ?_
              exact ih_14 _ (by omega) (z + 1) nb ca (mfill fa fb (rowAt pf z) (lev (j + 1))) fa (j + 1) ls H locs rfl ((lst_yes (fb := fb) hj hf (by omega) h_3 h_4).1) ((lst_yes (fb := fb) hj hf (by omega) h_3 h_4).2) (by omega) (by omega) (lv_sub hl [0, 1, 2, 3] rfl) (hP.sub [0, 2, 1, 3, 4] rfl) (hD.sub [0, 2, 1, 3, 4] (by decide) rfl) hS
            · refine cx_call (D := D) (cl := kl) (ws := _) (wc := [(mi, .inr (2, [.ref ca, .ref nb, .int (nI j)])), (ca, .inl (cJ, 16, .inr (.inl fa))), (nb, .inl (cJ, 16, .inr (.inl fb))), (pl, .inr (1, [.ref pa, .int (nI ct), .int (nI mo)])), (pa, .inl (cI, pz, .inl pf))]) (wr := []) (tx_runV (C := cn_MI) (b := mi) (As := [.ref pl, .int (nI z)]) (rest := []) hx hb hml hown (c_MI_join_n E H.size mi ca nb fa fb pl pa ct mo pz pf z j hpz hmo hct (by omega) (by omega) h_4) (cx_C (b0 := b0) G hx0 mw_376 mw_4 ny_MI_join (by decide)) (gw.at G hx0 mw_373 rfl _) (gw.at G hx0 mw_375 rfl _) (gw.at G hx0 ms_MI_join rfl _) ⟨cx_blind, va_recv hK hP (q0 := 0) (ci := 2) (q := (cn_MI, ft_MI, 3)) rfl rfl, (cx_pre (s := s) hx0 hP hD hS hA0 [0, 1, 2, 3, 4] rfl rfl (by decide))⟩ rfl rfl hl.1 rfl (lv_room (Nat.le_of_ble_eq_true rfl)) d_MI_load_41 ⟨by decide, by decide⟩) hP hD hS hA [0, 1, 2, 3, 4] [] rfl rfl (by decide) (by decide) (fun v t w1 H locs ht hW9 hp hP hD hS => ?_) (fun x t w1 H locs ht hW9 hp hP hD hS => by obtain ⟨h9, -⟩ := hp; cases h9)
              obtain ⟨h9, rfl⟩ := hp
              cases h9
              refine W.eq (g2 := F0 m 44 ls []) rfl ?_
              refine W.widen (k := 0) (n := 0) (by decide) (by decide) ?_
              have hP : va_P D kl [(mi, .inr (2, [.ref ca, .ref nb, .int (nI j)])), (ca, .inl (cJ, 16, .inr (.inl fa))), (nb, .inl (cJ, 16, .inr (.inl (mfill fa fb (rowAt pf z) (lev (j + 1)))))), (pl, .inr (1, [.ref pa, .int (nI ct), .int (nI mo)])), (pa, .inl (cI, pz, .inl pf))] H := hP
              have hD : va_D A [(mi, .inr (2, [.ref ca, .ref nb, .int (nI j)])), (ca, .inl (cJ, 16, .inr (.inl fa))), (nb, .inl (cJ, 16, .inr (.inl (mfill fa fb (rowAt pf z) (lev (j + 1)))))), (pl, .inr (1, [.ref pa, .int (nI ct), .int (nI mo)])), (pa, .inl (cI, pz, .inl pf))] := hD
              refine lv_iinc (lv' := [(3, .int (nI (z + 1))), (0, .ref mi), (1, .ref pl), (2, .int (nI ch))]) (k := 0) (v := nI (z + 1)) hx hb d_MI_load_44 hl rfl (nI_add z 1) (by decide) rfl (fun ls hl => ?_)
              refine lv_goto (tgt := 14) hx hb d_MI_load_47 (by decide) ?_
              exact ih_14 _ (by omega) (z + 1) ca nb fa (mfill fa fb (rowAt pf z) (lev (j + 1))) j ls H locs rfl (by rw [lst_no hj hf h_4]; exact hj) (by rw [lst_no hj hf h_4]; exact hf) (by omega) (by omega) (lv_sub hl [0, 1, 2, 3] rfl) (hP.sub [0, 1, 2, 3, 4] rfl) (hD.sub [0, 1, 2, 3, 4] (by decide) rfl) hS
          · refine cx_call (D := D) (cl := kl) (ws := _) (wc := []) (wr := [(mi, .inr (2, [.ref ca, .ref nb, .int (nI j)])), (ca, .inl (cJ, 16, .inr (.inl fa))), (nb, .inl (cJ, 16, .inr (.inl fb))), (pl, .inr (1, [.ref pa, .int (nI ct), .int (nI mo)])), (pa, .inl (cI, pz, .inl pf))]) (tx_runSN (As := [.int (nI ch), .int (nI z)]) (rest := []) hx hb hml hown (c_D_hasBit_n E H.size ch z hch (by omega) h_3) (cx_C (b0 := b0) G hx0 mw_372 mw_1 ny_D_hasBit (by decide)) (gw.at G hx0 mw_370 rfl _) (gw.at G hx0 mw_371 rfl _) (gw.at G hx0 mw_1 rfl _) ⟨cx_blind, (cx_pre (s := s) hx0 hP hD hS hA0 [] rfl rfl (by decide))⟩ rfl rfl hl.1 rfl (lv_room (Nat.le_of_ble_eq_true rfl)) d_MI_load_32 ⟨by decide, by decide⟩) hP hD hS hA [] [0, 1, 2, 3, 4] rfl rfl (by decide) (by decide) (fun v t w1 H locs ht hW9 hp hP hD hS => ?_) (fun x t w1 H locs ht hW9 hp hP hD hS => by obtain ⟨h9, -⟩ := hp; cases h9)
            obtain ⟨h9, rfl⟩ := hp
            cases h9
            refine W.eq (g2 := F0 m 35 ls [.int (0 : Int32)]) rfl ?_
            refine W.widen (k := 0) (n := 0) (by decide) (by decide) ?_
            have hP : va_P D kl [(mi, .inr (2, [.ref ca, .ref nb, .int (nI j)])), (ca, .inl (cJ, 16, .inr (.inl fa))), (nb, .inl (cJ, 16, .inr (.inl fb))), (pl, .inr (1, [.ref pa, .int (nI ct), .int (nI mo)])), (pa, .inl (cI, pz, .inl pf))] H := hP
            have hD : va_D A [(mi, .inr (2, [.ref ca, .ref nb, .int (nI j)])), (ca, .inl (cJ, 16, .inr (.inl fa))), (nb, .inl (cJ, 16, .inr (.inl fb))), (pl, .inr (1, [.ref pa, .int (nI ct), .int (nI mo)])), (pa, .inl (cI, pz, .inl pf))] := hD
            refine lv_if_eq (tgt := 44) hx hb d_MI_load_35 (by decide) (fun _ => ?_) (fun h99 => absurd h99 (by decide))
            refine lv_iinc (lv' := [(3, .int (nI (z + 1))), (0, .ref mi), (1, .ref pl), (2, .int (nI ch))]) (k := 0) (v := nI (z + 1)) hx hb d_MI_load_44 hl rfl (nI_add z 1) (by decide) rfl (fun ls hl => ?_)
            refine lv_goto (tgt := 14) hx hb d_MI_load_47 (by decide) ?_
            exact ih_14 _ (by omega) (z + 1) ca nb fa fb j ls H locs rfl (by rw [lst_n (fun z99 => h_3 z99.2.1)]; exact hj) (by rw [lst_n (fun z99 => h_3 z99.2.1)]; exact hf) (by omega) (by omega) (lv_sub hl [0, 1, 2, 3] rfl) (hP.sub [0, 1, 2, 3, 4] rfl) (hD.sub [0, 1, 2, 3, 4] (by decide) rfl) hS
  exact lp_14 _ 0 cu nx (vp_updL cf 0 (1 : Int64)) nf 0 ls H locs rfl rfl (by intro m hm; simp only [lev, List.mem_cons, List.not_mem_nil, or_false] at hm; subst hm; rfl) (Nat.zero_le _) (Nat.zero_le _) (lv_sub hl [0, 1, 2, 3] rfl) (hP.sub [0, 1, 2, 3, 4] rfl) (hD.sub [0, 1, 2, 3, 4] (by decide) rfl) hS

