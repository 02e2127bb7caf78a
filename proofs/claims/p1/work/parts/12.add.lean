/-! ===== own rows, laid by wip/tools/sym.py: add on a fresh object ===== -/
set_option maxHeartbeats 4000000 in
set_option maxRecDepth 100000 in
theorem c_D_hasBit10 {l : Launch} {s0 : State} {b0 : Addr} {D : va_G} {cI cJ cZ : ClassId} {tC tS : Nat} (E : gE l s0 b0 D cI cJ cZ tC tS) (sz : Nat)  : cx_M l s0 D kl y_D_hasBit b_D_hasBit 2 (some .boolean) ({ frames := 0, cells := 0, slots := 0, locals := 0 } : Room) 0 0 [.int (1 : Int32), .int (0 : Int32)] [] sz (fun o9 _ w9 => o9 = .returned (some (.int (1 : Int32))) ∧ w9 = []) := by
  refine tx_ofW (cc := b_D_hasBit) (maxL := 2) (ret := (some .boolean)) (by decide) rfl ?_
  intro p e s m args below meth c s₁ B hml hT hv
  obtain ⟨rfl, hsz, hP, hD0, hx0⟩ := hv
  have hx := B.exec
  have hb := B.bytes
  have hr := B.returns
  have G := E.2.1
  have hown : s.vm.findClass cn_D = some m.cls := findClass_of_methodNamed B.named
  have hlocks := B.notSynchronized
  have hK := va_K.moved hx0.1.alike E.2.2.1
  subst hsz
  have hA0 := cx_new hD0 hx0.2.1
  have hD := hD0.self (sz := s.heap.size)
  generalize hAe : va_A [] s.heap.size = A at hD hA0 ⊢
  have hA : ∀ q : Nat, s.heap.size ≤ q → A q := fun q h => by rw [← hAe]; exact Or.inr h
  have hS : va_S A s.heap s.heap [] := va_S.rf
  have hl := lv_entry ([.int (1 : Int32), .int (0 : Int32)]) (n := 2) (Nat.le_of_ble_eq_true rfl)
  rw [lg_entry_eq]
  generalize (lg_sl ([.int (1 : Int32), .int (0 : Int32)]) ++ List.replicate (2 - (lg_sl ([.int (1 : Int32), .int (0 : Int32)])).length) Slot.unset).toArray = ls at hl ⊢
  have hl : lv_has ls 2 [(0, .int (1 : Int32)), (1, .int (0 : Int32))] := hl
  have hP : va_P D kl [] s.heap := hP
  have hml : c.maxLocals = 2 := hml
  refine lv_iload_n hx hb d_D_hasBit_0 rfl (lv_at hl 0 rfl) ?_
  refine lv_iload_n hx hb d_D_hasBit_1 rfl (lv_at hl 1 rfl) ?_
  refine lv_ishr hx hb d_D_hasBit_2 ?_
  refine tp_i (y := (1 : Int32)) (by decide) ?_
  refine lv_iconst (v := (1 : Int32)) hx hb d_D_hasBit_3 (by decide) ?_
  refine lv_iand hx hb d_D_hasBit_4 ?_
  refine tp_i (y := (1 : Int32)) (by decide) ?_
  refine lv_if_eq (tgt := 12) hx hb d_D_hasBit_5 (by decide) (fun h99 => absurd h99 (by decide)) (fun _ => ?_)
  refine lv_iconst (v := (1 : Int32)) hx hb d_D_hasBit_8 (by decide) ?_
  refine lv_goto (tgt := 13) hx hb d_D_hasBit_9 (by decide) ?_
  exact tx_mono (fun _ h => tx_Z.of h) (W.zret (v := (1 : Int32)) hx hb hr (by decide) (fun t ht hW => ⟨⟨[], ⟨rfl, rfl⟩, by rw [ht]; exact hP.sub [] rfl, hD.sub [] (by decide) rfl⟩, hS.F ht⟩) hS.2.2 d_D_hasBit_13)

set_option maxHeartbeats 4000000 in
set_option maxRecDepth 100000 in
theorem c_PL_putAt0 {l : Launch} {s0 : State} {b0 : Addr} {D : va_G} {cI cJ cZ : ClassId} {tC tS : Nat} (E : gE l s0 b0 D cI cJ cZ tC tS) (sz : Nat) (rl : Nat) (rc : Nat) (gv : Nat) (rf : Nat → Int32) (g : Nat → Int32) : cx_M l s0 D kl y_PL_putAt b_PL_putAt 4 none ({ frames := 1, cells := 0, slots := 0, locals := 40 } : Room) 0 0 [.ref rl, .int (0 : Int32), .ref gv] [(rl, .inr (1, [.ref rc, .int (0 : Int32), .int (8 : Int32)])), (rc, .inl (cI, 32, .inl rf)), (gv, .inl (cI, 4, .inl g))] sz (fun o9 _ w9 => o9 = .returned none ∧ w9 = [(rl, .inr (1, [.ref rc, .int (1 : Int32), .int (8 : Int32)])), (rc, .inl (cI, 32, .inl (va_cpy g (va_cpy rf rf 0 4 0) 0 0 4))), (gv, .inl (cI, 4, .inl g))]) := by
  refine tx_ofW (cc := b_PL_putAt) (maxL := 4) (ret := none) (by decide) rfl ?_
  intro p e s m args below meth c s₁ B hml hT hv
  obtain ⟨rfl, hsz, hP, hD0, hx0⟩ := hv
  have hx := B.exec
  have hb := B.bytes
  have hr := B.returns
  have G := E.2.1
  have hown : s.vm.findClass cn_PL = some m.cls := findClass_of_methodNamed B.named
  have hlocks := B.notSynchronized
  have hK := va_K.moved hx0.1.alike E.2.2.1
  have hf_PL : ∀ w99 ∈ u_ws cn_PL ft_PL 3, w99.before ([.ref rl, .int (0 : Int32), .ref gv] : List Value).toArray s = true := fun w99 h99 => gw.at G hx0 (fw_PL w99 h99) (fo_PL w99 h99) _
  subst hsz
  have hA0 := cx_new hD0 hx0.2.1
  have hD := hD0.self (sz := s.heap.size)
  generalize hAe : va_A [(rl, .inr (1, [.ref rc, .int (0 : Int32), .int (8 : Int32)])), (rc, .inl (cI, 32, .inl rf)), (gv, .inl (cI, 4, .inl g))] s.heap.size = A at hD hA0 ⊢
  have hA : ∀ q : Nat, s.heap.size ≤ q → A q := fun q h => by rw [← hAe]; exact Or.inr h
  have hS : va_S A s.heap s.heap [] := va_S.rf
  have hl := lv_entry ([.ref rl, .int (0 : Int32), .ref gv]) (n := 4) (Nat.le_of_ble_eq_true rfl)
  rw [lg_entry_eq]
  generalize (lg_sl ([.ref rl, .int (0 : Int32), .ref gv]) ++ List.replicate (4 - (lg_sl ([.ref rl, .int (0 : Int32), .ref gv])).length) Slot.unset).toArray = ls at hl ⊢
  have hl : lv_has ls 4 [(0, .ref rl), (1, .int (0 : Int32)), (2, .ref gv)] := hl
  have hP : va_P D kl [(rl, .inr (1, [.ref rc, .int (0 : Int32), .int (8 : Int32)])), (rc, .inl (cI, 32, .inl rf)), (gv, .inl (cI, 4, .inl g))] s.heap := hP
  have hml : c.maxLocals = 4 := hml
  refine lv_aload_n hx hb d_PL_putAt_0 rfl (lv_at hl 0 rfl) ?_
  refine va_get (D := D) (ci := 1) (v := .int (0 : Int32)) (C := cn_PL) (T := ft_PL) (N := 3) hx hb hf_PL (fun _ h => h) hown hK hP 0 rfl rfl 1 (by decide) (gw.at G hx0 mw_42 rfl _) (fun _ h9 => h9) rfl d_PL_putAt_1 ?_
  refine lv_aload_n hx hb d_PL_putAt_4 rfl (lv_at hl 0 rfl) ?_
  refine va_get (D := D) (ci := 1) (v := .int (8 : Int32)) (C := cn_PL) (T := ft_PL) (N := 3) hx hb hf_PL (fun _ h => h) hown hK hP 0 rfl rfl 2 (by decide) (gw.at G hx0 mw_47 rfl _) (fun _ h9 => h9) rfl d_PL_putAt_5 ?_
  refine lv_icmp_lt (tgt := 12) hx hb d_PL_putAt_8 (by decide) (fun _ => ?_) (fun h99 => absurd h99 (by decide))
  refine lv_iload_n hx hb d_PL_putAt_12 rfl (lv_at hl 1 rfl) ?_
  refine lv_iconst (v := (4 : Int32)) hx hb d_PL_putAt_13 (by decide) ?_
  refine lv_imul hx hb d_PL_putAt_14 ?_
  refine tp_i (y := (0 : Int32)) (by decide) ?_
  refine lv_istore_n (lv' := [(3, .int (0 : Int32)), (0, .ref rl), (1, .int (0 : Int32)), (2, .ref gv)]) hx hb d_PL_putAt_15 rfl hl (by decide) rfl (fun ls hl => ?_)
  refine lv_aload_n hx hb d_PL_putAt_16 rfl (lv_at hl 1 rfl) ?_
  refine va_get (D := D) (ci := 1) (v := .ref rc) (C := cn_PL) (T := ft_PL) (N := 3) hx hb hf_PL (fun _ h => h) hown hK hP 0 rfl rfl 0 (by decide) (gw.at G hx0 mw_39 rfl _) (fun _ h9 => h9) rfl d_PL_putAt_17 ?_
  refine lv_iload_n hx hb d_PL_putAt_20 rfl (lv_at hl 0 rfl) ?_
  refine lv_aload_n hx hb d_PL_putAt_21 rfl (lv_at hl 1 rfl) ?_
  refine va_get (D := D) (ci := 1) (v := .ref rc) (C := cn_PL) (T := ft_PL) (N := 3) hx hb hf_PL (fun _ h => h) hown hK hP 0 rfl rfl 0 (by decide) (gw.at G hx0 mw_39 rfl _) (fun _ h9 => h9) rfl d_PL_putAt_22 ?_
  refine lv_iload_n hx hb d_PL_putAt_25 rfl (lv_at hl 0 rfl) ?_
  refine lv_iconst (v := (4 : Int32)) hx hb d_PL_putAt_26 (by decide) ?_
  refine lv_iadd hx hb d_PL_putAt_27 ?_
  refine tp_i (y := (4 : Int32)) (by decide) ?_
  refine lv_aload_n hx hb d_PL_putAt_28 rfl (lv_at hl 1 rfl) ?_
  refine va_get (D := D) (ci := 1) (v := .int (0 : Int32)) (C := cn_PL) (T := ft_PL) (N := 3) hx hb hf_PL (fun _ h => h) hown hK hP 0 rfl rfl 1 (by decide) (gw.at G hx0 mw_42 rfl _) (fun _ h9 => h9) rfl d_PL_putAt_29 ?_
  refine lv_iconst (v := (4 : Int32)) hx hb d_PL_putAt_32 (by decide) ?_
  refine lv_imul hx hb d_PL_putAt_33 ?_
  refine tp_i (y := (0 : Int32)) (by decide) ?_
  refine lv_iload_n hx hb d_PL_putAt_34 rfl (lv_at hl 0 rfl) ?_
  refine lv_isub hx hb d_PL_putAt_35 ?_
  refine tp_i (y := (0 : Int32)) (by decide) ?_
  refine va_copyi hx hb (hml.trans hl.1.symm) hown (gw.at G hx0 mw_356 rfl _) (gw.at G hx0 mw_358 rfl _) (gw.at G hx0 mw_357 rfl _) (gw.at G hx0 mw_15 rfl _) hK hP hD hS 1 1 0 0 rfl rfl rfl rfl rfl (by decide) (by decide) (by decide) (by decide) (by decide) (fun _ _ => rfl) (by decide) (by decide) d_PL_putAt_36 (fun H locs hP hD hS => ?_)
  have hP : va_P D kl [(rl, .inr (1, [.ref rc, .int (0 : Int32), .int (8 : Int32)])), (rc, .inl (cI, 32, .inl (va_cpy rf rf 0 4 0))), (gv, .inl (cI, 4, .inl g))] H := hP
  have hD : va_D A [(rl, .inr (1, [.ref rc, .int (0 : Int32), .int (8 : Int32)])), (rc, .inl (cI, 32, .inl (va_cpy rf rf 0 4 0))), (gv, .inl (cI, 4, .inl g))] := hD
  refine lv_aload_n hx hb d_PL_putAt_39 rfl (lv_at hl 3 rfl) ?_
  refine lv_iconst (v := (0 : Int32)) hx hb d_PL_putAt_40 (by decide) ?_
  refine lv_aload_n hx hb d_PL_putAt_41 rfl (lv_at hl 1 rfl) ?_
  refine va_get (D := D) (ci := 1) (v := .ref rc) (C := cn_PL) (T := ft_PL) (N := 3) hx hb hf_PL (fun _ h => h) hown hK hP 0 rfl rfl 0 (by decide) (gw.at G hx0 mw_39 rfl _) (fun _ h9 => h9) rfl d_PL_putAt_42 ?_
  refine lv_iload_n hx hb d_PL_putAt_45 rfl (lv_at hl 0 rfl) ?_
  refine lv_iconst (v := (4 : Int32)) hx hb d_PL_putAt_46 (by decide) ?_
  refine va_copyi hx hb (hml.trans hl.1.symm) hown (gw.at G hx0 mw_356 rfl _) (gw.at G hx0 mw_358 rfl _) (gw.at G hx0 mw_357 rfl _) (gw.at G hx0 mw_15 rfl _) hK hP hD hS 2 1 0 0 rfl rfl rfl rfl rfl (by decide) (by decide) (by decide) (by decide) (by decide) (fun _ _ => rfl) (by decide) (by decide) d_PL_putAt_47 (fun H locs hP hD hS => ?_)
  have hP : va_P D kl [(rl, .inr (1, [.ref rc, .int (0 : Int32), .int (8 : Int32)])), (rc, .inl (cI, 32, .inl (va_cpy g (va_cpy rf rf 0 4 0) 0 0 4))), (gv, .inl (cI, 4, .inl g))] H := hP
  have hD : va_D A [(rl, .inr (1, [.ref rc, .int (0 : Int32), .int (8 : Int32)])), (rc, .inl (cI, 32, .inl (va_cpy g (va_cpy rf rf 0 4 0) 0 0 4))), (gv, .inl (cI, 4, .inl g))] := hD
  refine lv_aload_n hx hb d_PL_putAt_50 rfl (lv_at hl 1 rfl) ?_
  refine lv_dup hx hb d_PL_putAt_51 rfl ?_
  refine va_get (D := D) (ci := 1) (v := .int (0 : Int32)) (C := cn_PL) (T := ft_PL) (N := 3) hx hb hf_PL (fun _ h => h) hown hK hP 0 rfl rfl 1 (by decide) (gw.at G hx0 mw_42 rfl _) (fun _ h9 => h9) rfl d_PL_putAt_52 ?_
  refine lv_iconst (v := (1 : Int32)) hx hb d_PL_putAt_55 (by decide) ?_
  refine lv_iadd hx hb d_PL_putAt_56 ?_
  refine tp_i (y := (1 : Int32)) (by decide) ?_
  refine va_put (D := D) (ci := 1) (v := .int (1 : Int32)) (ty := .int) (C := cn_PL) (T := ft_PL) (N := 3) hx hb hf_PL (fun _ h => h) fy_PL fk_PL fn_PL hown hK hP hD hS 0 rfl rfl 1 (by decide) (gw.at G hx0 mw_42 rfl _) (fun _ h9 => h9) rfl (by decide +kernel) rfl rfl (Nat.le_of_ble_eq_true rfl) d_PL_putAt_57 (fun H locs hP hD hS => ?_)
  have hP : va_P D kl [(rl, .inr (1, [.ref rc, .int (1 : Int32), .int (8 : Int32)])), (rc, .inl (cI, 32, .inl (va_cpy g (va_cpy rf rf 0 4 0) 0 0 4))), (gv, .inl (cI, 4, .inl g))] H := hP
  have hD : va_D A [(rl, .inr (1, [.ref rc, .int (1 : Int32), .int (8 : Int32)])), (rc, .inl (cI, 32, .inl (va_cpy g (va_cpy rf rf 0 4 0) 0 0 4))), (gv, .inl (cI, 4, .inl g))] := hD
  exact tx_mono (fun _ h => tx_Z.of h) (W.vret hx hb hr (fun t ht hW => ⟨⟨[(rl, .inr (1, [.ref rc, .int (1 : Int32), .int (8 : Int32)])), (rc, .inl (cI, 32, .inl (va_cpy g (va_cpy rf rf 0 4 0) 0 0 4))), (gv, .inl (cI, 4, .inl g))], ⟨rfl, rfl⟩, by rw [ht]; exact hP.sub [0, 1, 2] rfl, hD.sub [0, 1, 2] (by decide) rfl⟩, hS.F ht⟩) hS.2.2 d_PL_putAt_60)

set_option maxHeartbeats 4000000 in
set_option maxRecDepth 100000 in
theorem c_MI_join0 {l : Launch} {s0 : State} {b0 : Addr} {D : va_G} {cI cJ cZ : ClassId} {tC tS : Nat} (E : gE l s0 b0 D cI cJ cZ tC tS) (sz : Nat) (mi : Nat) (cu : Nat) (nx : Nat) (rl : Nat) (rc : Nat) (cf : Nat → Int64) (nf : Nat → Int64) (rf : Nat → Int32) : cx_M l s0 D kl y_MI_join b_MI_join 11 none ({ frames := 0, cells := 0, slots := 0, locals := 0 } : Room) 0 0 [.ref mi, .ref rl, .int (0 : Int32)] [(mi, .inr (2, [.ref cu, .ref nx, .int (0 : Int32)])), (cu, .inl (cJ, 16, .inr (.inl (vp_updL cf 0 (1 : Int64))))), (nx, .inl (cJ, 16, .inr (.inl nf))), (rl, .inr (1, [.ref rc, .int (1 : Int32), .int (8 : Int32)])), (rc, .inl (cI, 32, .inl rf))] sz (fun o9 _ w9 => ∃ (ca : Nat) (nb : Nat) (fa : Nat → Int64) (fb : Nat → Int64) (jo : Int32), o9 = .returned none ∧ w9 = [(mi, .inr (2, [.ref ca, .ref nb, .int jo])), (ca, .inl (cJ, 16, .inr (.inl fa))), (nb, .inl (cJ, 16, .inr (.inl fb))), (rl, .inr (1, [.ref rc, .int (1 : Int32), .int (8 : Int32)])), (rc, .inl (cI, 32, .inl rf))]) := by
  refine tx_ofW (cc := b_MI_join) (maxL := 11) (ret := none) (by decide) rfl ?_
  intro p e s m args below meth c s₁ B hml hT hv
  obtain ⟨rfl, hsz, hP, hD0, hx0⟩ := hv
  have hx := B.exec
  have hb := B.bytes
  have hr := B.returns
  have G := E.2.1
  have hown : s.vm.findClass cn_MI = some m.cls := findClass_of_methodNamed B.named
  have hlocks := B.notSynchronized
  have hK := va_K.moved hx0.1.alike E.2.2.1
  have hf_MI : ∀ w99 ∈ u_ws cn_MI ft_MI 3, w99.before ([.ref mi, .ref rl, .int (0 : Int32)] : List Value).toArray s = true := fun w99 h99 => gw.at G hx0 (fw_MI w99 h99) (fo_MI w99 h99) _
  have hf_PL : ∀ w99 ∈ u_ws cn_PL ft_PL 3, w99.before ([.ref mi, .ref rl, .int (0 : Int32)] : List Value).toArray s = true := fun w99 h99 => gw.at G hx0 (fw_PL w99 h99) (fo_PL w99 h99) _
  subst hsz
  have hA0 := cx_new hD0 hx0.2.1
  have hD := hD0.self (sz := s.heap.size)
  generalize hAe : va_A [(mi, .inr (2, [.ref cu, .ref nx, .int (0 : Int32)])), (cu, .inl (cJ, 16, .inr (.inl (vp_updL cf 0 (1 : Int64))))), (nx, .inl (cJ, 16, .inr (.inl nf))), (rl, .inr (1, [.ref rc, .int (1 : Int32), .int (8 : Int32)])), (rc, .inl (cI, 32, .inl rf))] s.heap.size = A at hD hA0 ⊢
  have hA : ∀ q : Nat, s.heap.size ≤ q → A q := fun q h => by rw [← hAe]; exact Or.inr h
  have hS : va_S A s.heap s.heap [] := va_S.rf
  obtain ⟨hZC, hTC, hZS, hTS⟩ := gz.at E.2.2.2.1 hx0 hA0
  have hl := lv_entry ([.ref mi, .ref rl, .int (0 : Int32)]) (n := 11) (Nat.le_of_ble_eq_true rfl)
  rw [lg_entry_eq]
  generalize (lg_sl ([.ref mi, .ref rl, .int (0 : Int32)]) ++ List.replicate (11 - (lg_sl ([.ref mi, .ref rl, .int (0 : Int32)])).length) Slot.unset).toArray = ls at hl ⊢
  have hl : lv_has ls 11 [(0, .ref mi), (1, .ref rl), (2, .int (0 : Int32))] := hl
  have hP : va_P D kl [(mi, .inr (2, [.ref cu, .ref nx, .int (0 : Int32)])), (cu, .inl (cJ, 16, .inr (.inl (vp_updL cf 0 (1 : Int64))))), (nx, .inl (cJ, 16, .inr (.inl nf))), (rl, .inr (1, [.ref rc, .int (1 : Int32), .int (8 : Int32)])), (rc, .inl (cI, 32, .inl rf))] s.heap := hP
  have hml : c.maxLocals = 11 := hml
  refine lv_iconst (v := (0 : Int32)) hx hb d_MI_join_0 (by decide) ?_
  refine lv_istore_n (lv' := [(3, .int (0 : Int32)), (0, .ref mi), (1, .ref rl), (2, .int (0 : Int32))]) hx hb d_MI_join_1 rfl hl (by decide) rfl (fun ls hl => ?_)
  refine va_getsN hx hb hZS hS hown (gw.at G hx0 mw_377 rfl _) (fun _ h9 => h9) d_MI_join_2 ?_
  refine lv_aload_n hx hb d_MI_join_5 rfl (lv_at hl 1 rfl) ?_
  refine va_get (D := D) (ci := 2) (v := .int (0 : Int32)) (C := cn_MI) (T := ft_MI) (N := 3) hx hb hf_MI (fun _ h => h) hown hK hP 0 rfl rfl 2 (by decide) (gw.at G hx0 mw_66 rfl _) (fun _ h9 => h9) rfl d_MI_join_6 ?_
  refine lv_iconst (v := (2 : Int32)) hx hb d_MI_join_9 (by decide) ?_
  refine lv_iadd hx hb d_MI_join_10 ?_
  refine tp_i (y := (2 : Int32)) (by decide) ?_
  refine va_ti hx hb hTS hS (vp_in_iff.mpr (by decide)) (v := .int (5 : Int32)) (by decide) d_MI_join_11 ?_
  refine lv_istore (lv' := [(4, .int (5 : Int32)), (3, .int (0 : Int32)), (0, .ref mi), (1, .ref rl), (2, .int (0 : Int32))]) hx hb d_MI_join_12 hl (by decide) rfl (fun ls hl => ?_)
  refine va_getsN hx hb hZS hS hown (gw.at G hx0 mw_377 rfl _) (fun _ h9 => h9) d_MI_join_14 ?_
  refine lv_aload_n hx hb d_MI_join_17 rfl (lv_at hl 2 rfl) ?_
  refine va_get (D := D) (ci := 2) (v := .int (0 : Int32)) (C := cn_MI) (T := ft_MI) (N := 3) hx hb hf_MI (fun _ h => h) hown hK hP 0 rfl rfl 2 (by decide) (gw.at G hx0 mw_66 rfl _) (fun _ h9 => h9) rfl d_MI_join_18 ?_
  refine lv_iconst (v := (1 : Int32)) hx hb d_MI_join_21 (by decide) ?_
  refine lv_iadd hx hb d_MI_join_22 ?_
  refine tp_i (y := (1 : Int32)) (by decide) ?_
  refine va_ti hx hb hTS hS (vp_in_iff.mpr (by decide)) (v := .int (1 : Int32)) (by decide) d_MI_join_23 ?_
  refine lv_istore (lv' := [(5, .int (1 : Int32)), (4, .int (5 : Int32)), (3, .int (0 : Int32)), (0, .ref mi), (1, .ref rl), (2, .int (0 : Int32))]) hx hb d_MI_join_24 hl (by decide) rfl (fun ls hl => ?_)
  refine lv_iload hx hb d_MI_join_26 (lv_at hl 0 rfl) ?_
  refine lv_iload hx hb d_MI_join_28 (lv_at hl 1 rfl) ?_
  refine lv_icmp_ge (tgt := 142) hx hb d_MI_join_30 (by decide) (fun h99 => absurd h99 (by decide)) (fun _ => ?_)
  refine va_getsN hx hb hZC hS hown (gw.at G hx0 mw_62 rfl _) (fun _ h9 => h9) d_MI_join_33 ?_
  refine lv_iload hx hb d_MI_join_36 (lv_at hl 0 rfl) ?_
  refine va_ti hx hb hTC hS (vp_in_iff.mpr (by decide)) (v := .int (1 : Int32)) (by decide) d_MI_join_38 ?_
  refine lv_istore (lv' := [(6, .int (1 : Int32)), (5, .int (1 : Int32)), (4, .int (5 : Int32)), (3, .int (0 : Int32)), (0, .ref mi), (1, .ref rl), (2, .int (0 : Int32))]) hx hb d_MI_join_39 hl (by decide) rfl (fun ls hl => ?_)
  refine lv_lconst (v := (0 : Int64)) hx hb d_MI_join_41 (by decide) ?_
  refine lv_lstore (lv' := [(7, .long (0 : Int64)), (6, .int (1 : Int32)), (5, .int (1 : Int32)), (4, .int (5 : Int32)), (3, .int (0 : Int32)), (0, .ref mi), (1, .ref rl), (2, .int (0 : Int32))]) hx hb d_MI_join_42 hl (by decide) rfl (fun ls hl => ?_)
  refine lv_iconst (v := (1 : Int32)) hx hb d_MI_join_44 (by decide) ?_
  refine lv_istore (lv' := [(9, .int (1 : Int32)), (7, .long (0 : Int64)), (6, .int (1 : Int32)), (5, .int (1 : Int32)), (4, .int (5 : Int32)), (3, .int (0 : Int32)), (0, .ref mi), (1, .ref rl), (2, .int (0 : Int32))]) hx hb d_MI_join_45 hl (by decide) rfl (fun ls hl => ?_)
  refine lv_iconst (v := (3 : Int32)) hx hb d_MI_join_47 (by decide) ?_
  refine lv_istore (lv' := [(10, .int (3 : Int32)), (9, .int (1 : Int32)), (7, .long (0 : Int64)), (6, .int (1 : Int32)), (5, .int (1 : Int32)), (4, .int (5 : Int32)), (3, .int (0 : Int32)), (0, .ref mi), (1, .ref rl), (2, .int (0 : Int32))]) hx hb d_MI_join_48 hl (by decide) rfl (fun ls hl => ?_)
  refine lv_iload hx hb d_MI_join_50 (lv_at hl 0 rfl) ?_
  refine lv_if_lt (tgt := 110) hx hb d_MI_join_52 (by decide) (fun h99 => absurd h99 (by decide)) (fun _ => ?_)
  refine lv_iload hx hb d_MI_join_55 (lv_at hl 3 rfl) ?_
  refine lv_iload hx hb d_MI_join_57 (lv_at hl 0 rfl) ?_
  refine lv_ishr hx hb d_MI_join_59 ?_
  refine tp_i (y := (0 : Int32)) (by decide) ?_
  refine lv_iconst (v := (1 : Int32)) hx hb d_MI_join_60 (by decide) ?_
  refine lv_iand hx hb d_MI_join_61 ?_
  refine tp_i (y := (0 : Int32)) (by decide) ?_
  refine lv_if_eq (tgt := 104) hx hb d_MI_join_62 (by decide) (fun _ => ?_) (fun h99 => absurd h99 (by decide))
  refine lv_iinc (lv' := [(10, .int (2 : Int32)), (9, .int (1 : Int32)), (7, .long (0 : Int64)), (6, .int (1 : Int32)), (5, .int (1 : Int32)), (4, .int (5 : Int32)), (3, .int (0 : Int32)), (0, .ref mi), (1, .ref rl), (2, .int (0 : Int32))]) (k := 0) (v := (2 : Int32)) hx hb d_MI_join_104 hl rfl (by decide) (by decide) rfl (fun ls hl => ?_)
  refine lv_goto (tgt := 50) hx hb d_MI_join_107 (by decide) ?_
  refine lv_iload hx hb d_MI_join_50 (lv_at hl 0 rfl) ?_
  refine lv_if_lt (tgt := 110) hx hb d_MI_join_52 (by decide) (fun h99 => absurd h99 (by decide)) (fun _ => ?_)
  refine lv_iload hx hb d_MI_join_55 (lv_at hl 3 rfl) ?_
  refine lv_iload hx hb d_MI_join_57 (lv_at hl 0 rfl) ?_
  refine lv_ishr hx hb d_MI_join_59 ?_
  refine tp_i (y := (0 : Int32)) (by decide) ?_
  refine lv_iconst (v := (1 : Int32)) hx hb d_MI_join_60 (by decide) ?_
  refine lv_iand hx hb d_MI_join_61 ?_
  refine tp_i (y := (0 : Int32)) (by decide) ?_
  refine lv_if_eq (tgt := 104) hx hb d_MI_join_62 (by decide) (fun _ => ?_) (fun h99 => absurd h99 (by decide))
  refine lv_iinc (lv' := [(10, .int (1 : Int32)), (9, .int (1 : Int32)), (7, .long (0 : Int64)), (6, .int (1 : Int32)), (5, .int (1 : Int32)), (4, .int (5 : Int32)), (3, .int (0 : Int32)), (0, .ref mi), (1, .ref rl), (2, .int (0 : Int32))]) (k := 0) (v := (1 : Int32)) hx hb d_MI_join_104 hl rfl (by decide) (by decide) rfl (fun ls hl => ?_)
  refine lv_goto (tgt := 50) hx hb d_MI_join_107 (by decide) ?_
  refine lv_iload hx hb d_MI_join_50 (lv_at hl 0 rfl) ?_
  refine lv_if_lt (tgt := 110) hx hb d_MI_join_52 (by decide) (fun h99 => absurd h99 (by decide)) (fun _ => ?_)
  refine lv_iload hx hb d_MI_join_55 (lv_at hl 3 rfl) ?_
  refine lv_iload hx hb d_MI_join_57 (lv_at hl 0 rfl) ?_
  refine lv_ishr hx hb d_MI_join_59 ?_
  refine tp_i (y := (0 : Int32)) (by decide) ?_
  refine lv_iconst (v := (1 : Int32)) hx hb d_MI_join_60 (by decide) ?_
  refine lv_iand hx hb d_MI_join_61 ?_
  refine tp_i (y := (0 : Int32)) (by decide) ?_
  refine lv_if_eq (tgt := 104) hx hb d_MI_join_62 (by decide) (fun _ => ?_) (fun h99 => absurd h99 (by decide))
  refine lv_iinc (lv' := [(10, .int (0 : Int32)), (9, .int (1 : Int32)), (7, .long (0 : Int64)), (6, .int (1 : Int32)), (5, .int (1 : Int32)), (4, .int (5 : Int32)), (3, .int (0 : Int32)), (0, .ref mi), (1, .ref rl), (2, .int (0 : Int32))]) (k := 0) (v := (0 : Int32)) hx hb d_MI_join_104 hl rfl (by decide) (by decide) rfl (fun ls hl => ?_)
  refine lv_goto (tgt := 50) hx hb d_MI_join_107 (by decide) ?_
  refine lv_iload hx hb d_MI_join_50 (lv_at hl 0 rfl) ?_
  refine lv_if_lt (tgt := 110) hx hb d_MI_join_52 (by decide) (fun h99 => absurd h99 (by decide)) (fun _ => ?_)
  refine lv_iload hx hb d_MI_join_55 (lv_at hl 3 rfl) ?_
  refine lv_iload hx hb d_MI_join_57 (lv_at hl 0 rfl) ?_
  refine lv_ishr hx hb d_MI_join_59 ?_
  refine tp_i (y := (1 : Int32)) (by decide) ?_
  refine lv_iconst (v := (1 : Int32)) hx hb d_MI_join_60 (by decide) ?_
  refine lv_iand hx hb d_MI_join_61 ?_
  refine tp_i (y := (1 : Int32)) (by decide) ?_
  refine lv_if_eq (tgt := 104) hx hb d_MI_join_62 (by decide) (fun h99 => absurd h99 (by decide)) (fun _ => ?_)
  refine lv_lload hx hb d_MI_join_65 (lv_at hl 2 rfl) ?_
  refine lv_iload hx hb d_MI_join_67 (lv_at hl 1 rfl) ?_
  refine lv_i2l (v := (1 : Int64)) hx hb d_MI_join_69 (by decide) ?_
  refine lv_aload_n hx hb d_MI_join_70 rfl (lv_at hl 7 rfl) ?_
  refine va_get (D := D) (ci := 2) (v := .ref cu) (C := cn_MI) (T := ft_MI) (N := 3) hx hb hf_MI (fun _ h => h) hown hK hP 0 rfl rfl 0 (by decide) (gw.at G hx0 mw_64 rfl _) (fun _ h9 => h9) rfl d_MI_join_71 ?_
  refine lv_iload hx hb d_MI_join_74 (lv_at hl 3 rfl) ?_
  refine lv_iconst (v := (1 : Int32)) hx hb d_MI_join_76 (by decide) ?_
  refine lv_iload hx hb d_MI_join_77 (lv_at hl 0 rfl) ?_
  refine lv_ishl hx hb d_MI_join_79 ?_
  refine tp_i (y := (1 : Int32)) (by decide) ?_
  refine lv_ixor hx hb d_MI_join_80 ?_
  refine tp_i (y := (0 : Int32)) (by decide) ?_
  refine va_lald hx hb hK hP 1 1 rfl rfl (vp_in_iff.mpr (by decide)) d_MI_join_81 ?_
  refine tp_l (y := (1 : Int64)) (by rfl) ?_
  refine lv_lmul hx hb d_MI_join_82 ?_
  refine tp_l (y := (1 : Int64)) (by decide) ?_
  refine lv_aload_n hx hb d_MI_join_83 rfl (lv_at hl 8 rfl) ?_
  refine va_get (D := D) (ci := 1) (v := .ref rc) (C := cn_PL) (T := ft_PL) (N := 3) hx hb hf_PL (fun _ h => h) hown hK hP 3 rfl rfl 0 (by decide) (gw.at G hx0 mw_40 rfl _) (fun _ h9 => h9) rfl d_MI_join_84 ?_
  refine lv_iload_n hx hb d_MI_join_87 rfl (lv_at hl 9 rfl) ?_
  refine lv_iconst (v := (4 : Int32)) hx hb d_MI_join_88 (by decide) ?_
  refine lv_imul hx hb d_MI_join_89 ?_
  refine tp_i (y := (0 : Int32)) (by decide) ?_
  refine lv_iload hx hb d_MI_join_90 (lv_at hl 0 rfl) ?_
  refine lv_iadd hx hb d_MI_join_92 ?_
  refine tp_i (y := (0 : Int32)) (by decide) ?_
  refine va_iald hx hb hK hP 4 0 rfl rfl (vp_in_iff.mpr (by decide)) d_MI_join_93 ?_
  refine tp_i (y := rf 0) (by rfl) ?_
  refine lv_i2l (v := (rf 0).toInt64) hx hb d_MI_join_94 rfl ?_
  refine lv_lmul hx hb d_MI_join_95 ?_
  refine lv_ladd hx hb d_MI_join_96 ?_
  refine lv_lstore (lv' := [(7, .long ((0 : Int64) + ((1 : Int64) * ((rf 0).toInt64)))), (10, .int (0 : Int32)), (9, .int (1 : Int32)), (6, .int (1 : Int32)), (5, .int (1 : Int32)), (4, .int (5 : Int32)), (3, .int (0 : Int32)), (0, .ref mi), (1, .ref rl), (2, .int (0 : Int32))]) hx hb d_MI_join_97 hl (by decide) rfl (fun ls hl => ?_)
  refine lv_iload hx hb d_MI_join_99 (lv_at hl 2 rfl) ?_
  refine lv_ineg hx hb d_MI_join_101 ?_
  refine tp_i (y := (-1 : Int32)) (by decide) ?_
  refine lv_istore (lv' := [(9, .int (-1 : Int32)), (7, .long ((0 : Int64) + ((1 : Int64) * ((rf 0).toInt64)))), (10, .int (0 : Int32)), (6, .int (1 : Int32)), (5, .int (1 : Int32)), (4, .int (5 : Int32)), (3, .int (0 : Int32)), (0, .ref mi), (1, .ref rl), (2, .int (0 : Int32))]) hx hb d_MI_join_102 hl (by decide) rfl (fun ls hl => ?_)
  refine lv_iinc (lv' := [(10, .int (-1 : Int32)), (9, .int (-1 : Int32)), (7, .long ((0 : Int64) + ((1 : Int64) * ((rf 0).toInt64)))), (6, .int (1 : Int32)), (5, .int (1 : Int32)), (4, .int (5 : Int32)), (3, .int (0 : Int32)), (0, .ref mi), (1, .ref rl), (2, .int (0 : Int32))]) (k := 2) (v := (-1 : Int32)) hx hb d_MI_join_104 hl rfl (by decide) (by decide) rfl (fun ls hl => ?_)
  refine lv_goto (tgt := 50) hx hb d_MI_join_107 (by decide) ?_
  refine lv_iload hx hb d_MI_join_50 (lv_at hl 0 rfl) ?_
  refine lv_if_lt (tgt := 110) hx hb d_MI_join_52 (by decide) (fun _ => ?_) (fun h99 => absurd h99 (by decide))
  refine lv_aload_n hx hb d_MI_join_110 rfl (lv_at hl 7 rfl) ?_
  refine va_get (D := D) (ci := 2) (v := .ref nx) (C := cn_MI) (T := ft_MI) (N := 3) hx hb hf_MI (fun _ h => h) hown hK hP 0 rfl rfl 1 (by decide) (gw.at G hx0 mw_65 rfl _) (fun _ h9 => h9) rfl d_MI_join_111 ?_
  refine lv_iload hx hb d_MI_join_114 (lv_at hl 3 rfl) ?_
  refine lv_lload hx hb d_MI_join_116 (lv_at hl 2 rfl) ?_
  refine va_last hx hb hK hP hD hS 2 1 rfl rfl (vp_in_iff.mpr (by decide)) d_MI_join_118 (fun H locs hP hD hS => ?_)
  have hP : va_P D kl [(mi, .inr (2, [.ref cu, .ref nx, .int (0 : Int32)])), (cu, .inl (cJ, 16, .inr (.inl (vp_updL cf 0 (1 : Int64))))), (nx, .inl (cJ, 16, .inr (.inl (vp_updL nf 1 ((0 : Int64) + ((1 : Int64) * ((rf 0).toInt64))))))), (rl, .inr (1, [.ref rc, .int (1 : Int32), .int (8 : Int32)])), (rc, .inl (cI, 32, .inl rf))] H := hP
  have hD : va_D A [(mi, .inr (2, [.ref cu, .ref nx, .int (0 : Int32)])), (cu, .inl (cJ, 16, .inr (.inl (vp_updL cf 0 (1 : Int64))))), (nx, .inl (cJ, 16, .inr (.inl (vp_updL nf 1 ((0 : Int64) + ((1 : Int64) * ((rf 0).toInt64))))))), (rl, .inr (1, [.ref rc, .int (1 : Int32), .int (8 : Int32)])), (rc, .inl (cI, 32, .inl rf))] := hD
  refine lv_iload_n hx hb d_MI_join_119 rfl (lv_at hl 6 rfl) ?_
  refine lv_if_ne (tgt := 130) hx hb d_MI_join_120 (by decide) (fun h99 => absurd h99 (by decide)) (fun _ => ?_)
  refine lv_lload hx hb d_MI_join_123 (lv_at hl 2 rfl) ?_
  refine lv_lconst (v := (0 : Int64)) hx hb d_MI_join_125 (by decide) ?_
  refine W.lcmp hx hb d_MI_join_126 ?_
  refine lv_if_eq (tgt := 134) hx hb d_MI_join_127 (by decide) (fun h_1 => ?_) (fun h_1 => ?_)
  · refine lv_iconst (v := (0 : Int32)) hx hb d_MI_join_134 (by decide) ?_
    refine lv_istore_n (lv' := [(3, .int (0 : Int32)), (10, .int (-1 : Int32)), (9, .int (-1 : Int32)), (7, .long ((0 : Int64) + ((1 : Int64) * ((rf 0).toInt64)))), (6, .int (1 : Int32)), (5, .int (1 : Int32)), (4, .int (5 : Int32)), (0, .ref mi), (1, .ref rl), (2, .int (0 : Int32))]) hx hb d_MI_join_135 rfl hl (by decide) rfl (fun ls hl => ?_)
    refine lv_iinc (lv' := [(5, .int (2 : Int32)), (3, .int (0 : Int32)), (10, .int (-1 : Int32)), (9, .int (-1 : Int32)), (7, .long ((0 : Int64) + ((1 : Int64) * ((rf 0).toInt64)))), (6, .int (1 : Int32)), (4, .int (5 : Int32)), (0, .ref mi), (1, .ref rl), (2, .int (0 : Int32))]) (k := 5) (v := (2 : Int32)) hx hb d_MI_join_136 hl rfl (by decide) (by decide) rfl (fun ls hl => ?_)
    refine lv_goto (tgt := 26) hx hb d_MI_join_139 (by decide) ?_
    refine lv_iload hx hb d_MI_join_26 (lv_at hl 0 rfl) ?_
    refine lv_iload hx hb d_MI_join_28 (lv_at hl 6 rfl) ?_
    refine lv_icmp_ge (tgt := 142) hx hb d_MI_join_30 (by decide) (fun h99 => absurd h99 (by decide)) (fun _ => ?_)
    refine va_getsN hx hb hZC hS hown (gw.at G hx0 mw_62 rfl _) (fun _ h9 => h9) d_MI_join_33 ?_
    refine lv_iload hx hb d_MI_join_36 (lv_at hl 0 rfl) ?_
    refine va_ti hx hb hTC hS (vp_in_iff.mpr (by decide)) (v := .int (2 : Int32)) (by decide) d_MI_join_38 ?_
    refine lv_istore (lv' := [(6, .int (2 : Int32)), (5, .int (2 : Int32)), (3, .int (0 : Int32)), (10, .int (-1 : Int32)), (9, .int (-1 : Int32)), (7, .long ((0 : Int64) + ((1 : Int64) * ((rf 0).toInt64)))), (4, .int (5 : Int32)), (0, .ref mi), (1, .ref rl), (2, .int (0 : Int32))]) hx hb d_MI_join_39 hl (by decide) rfl (fun ls hl => ?_)
    refine lv_lconst (v := (0 : Int64)) hx hb d_MI_join_41 (by decide) ?_
    refine lv_lstore (lv' := [(7, .long (0 : Int64)), (6, .int (2 : Int32)), (5, .int (2 : Int32)), (3, .int (0 : Int32)), (10, .int (-1 : Int32)), (9, .int (-1 : Int32)), (4, .int (5 : Int32)), (0, .ref mi), (1, .ref rl), (2, .int (0 : Int32))]) hx hb d_MI_join_42 hl (by decide) rfl (fun ls hl => ?_)
    refine lv_iconst (v := (1 : Int32)) hx hb d_MI_join_44 (by decide) ?_
    refine lv_istore (lv' := [(9, .int (1 : Int32)), (7, .long (0 : Int64)), (6, .int (2 : Int32)), (5, .int (2 : Int32)), (3, .int (0 : Int32)), (10, .int (-1 : Int32)), (4, .int (5 : Int32)), (0, .ref mi), (1, .ref rl), (2, .int (0 : Int32))]) hx hb d_MI_join_45 hl (by decide) rfl (fun ls hl => ?_)
    refine lv_iconst (v := (3 : Int32)) hx hb d_MI_join_47 (by decide) ?_
    refine lv_istore (lv' := [(10, .int (3 : Int32)), (9, .int (1 : Int32)), (7, .long (0 : Int64)), (6, .int (2 : Int32)), (5, .int (2 : Int32)), (3, .int (0 : Int32)), (4, .int (5 : Int32)), (0, .ref mi), (1, .ref rl), (2, .int (0 : Int32))]) hx hb d_MI_join_48 hl (by decide) rfl (fun ls hl => ?_)
    refine lv_iload hx hb d_MI_join_50 (lv_at hl 0 rfl) ?_
    refine lv_if_lt (tgt := 110) hx hb d_MI_join_52 (by decide) (fun h99 => absurd h99 (by decide)) (fun _ => ?_)
    refine lv_iload hx hb d_MI_join_55 (lv_at hl 3 rfl) ?_
    refine lv_iload hx hb d_MI_join_57 (lv_at hl 0 rfl) ?_
    refine lv_ishr hx hb d_MI_join_59 ?_
    refine tp_i (y := (0 : Int32)) (by decide) ?_
    refine lv_iconst (v := (1 : Int32)) hx hb d_MI_join_60 (by decide) ?_
    refine lv_iand hx hb d_MI_join_61 ?_
    refine tp_i (y := (0 : Int32)) (by decide) ?_
    refine lv_if_eq (tgt := 104) hx hb d_MI_join_62 (by decide) (fun _ => ?_) (fun h99 => absurd h99 (by decide))
    refine lv_iinc (lv' := [(10, .int (2 : Int32)), (9, .int (1 : Int32)), (7, .long (0 : Int64)), (6, .int (2 : Int32)), (5, .int (2 : Int32)), (3, .int (0 : Int32)), (4, .int (5 : Int32)), (0, .ref mi), (1, .ref rl), (2, .int (0 : Int32))]) (k := 0) (v := (2 : Int32)) hx hb d_MI_join_104 hl rfl (by decide) (by decide) rfl (fun ls hl => ?_)
    refine lv_goto (tgt := 50) hx hb d_MI_join_107 (by decide) ?_
    refine lv_iload hx hb d_MI_join_50 (lv_at hl 0 rfl) ?_
    refine lv_if_lt (tgt := 110) hx hb d_MI_join_52 (by decide) (fun h99 => absurd h99 (by decide)) (fun _ => ?_)
    refine lv_iload hx hb d_MI_join_55 (lv_at hl 3 rfl) ?_
    refine lv_iload hx hb d_MI_join_57 (lv_at hl 0 rfl) ?_
    refine lv_ishr hx hb d_MI_join_59 ?_
    refine tp_i (y := (0 : Int32)) (by decide) ?_
    refine lv_iconst (v := (1 : Int32)) hx hb d_MI_join_60 (by decide) ?_
    refine lv_iand hx hb d_MI_join_61 ?_
    refine tp_i (y := (0 : Int32)) (by decide) ?_
    refine lv_if_eq (tgt := 104) hx hb d_MI_join_62 (by decide) (fun _ => ?_) (fun h99 => absurd h99 (by decide))
    refine lv_iinc (lv' := [(10, .int (1 : Int32)), (9, .int (1 : Int32)), (7, .long (0 : Int64)), (6, .int (2 : Int32)), (5, .int (2 : Int32)), (3, .int (0 : Int32)), (4, .int (5 : Int32)), (0, .ref mi), (1, .ref rl), (2, .int (0 : Int32))]) (k := 0) (v := (1 : Int32)) hx hb d_MI_join_104 hl rfl (by decide) (by decide) rfl (fun ls hl => ?_)
    refine lv_goto (tgt := 50) hx hb d_MI_join_107 (by decide) ?_
    refine lv_iload hx hb d_MI_join_50 (lv_at hl 0 rfl) ?_
    refine lv_if_lt (tgt := 110) hx hb d_MI_join_52 (by decide) (fun h99 => absurd h99 (by decide)) (fun _ => ?_)
    refine lv_iload hx hb d_MI_join_55 (lv_at hl 3 rfl) ?_
    refine lv_iload hx hb d_MI_join_57 (lv_at hl 0 rfl) ?_
    refine lv_ishr hx hb d_MI_join_59 ?_
    refine tp_i (y := (1 : Int32)) (by decide) ?_
    refine lv_iconst (v := (1 : Int32)) hx hb d_MI_join_60 (by decide) ?_
    refine lv_iand hx hb d_MI_join_61 ?_
    refine tp_i (y := (1 : Int32)) (by decide) ?_
    refine lv_if_eq (tgt := 104) hx hb d_MI_join_62 (by decide) (fun h99 => absurd h99 (by decide)) (fun _ => ?_)
    refine lv_lload hx hb d_MI_join_65 (lv_at hl 2 rfl) ?_
    refine lv_iload hx hb d_MI_join_67 (lv_at hl 1 rfl) ?_
    refine lv_i2l (v := (1 : Int64)) hx hb d_MI_join_69 (by decide) ?_
    refine lv_aload_n hx hb d_MI_join_70 rfl (lv_at hl 7 rfl) ?_
    refine va_get (D := D) (ci := 2) (v := .ref cu) (C := cn_MI) (T := ft_MI) (N := 3) hx hb hf_MI (fun _ h => h) hown hK hP 0 rfl rfl 0 (by decide) (gw.at G hx0 mw_64 rfl _) (fun _ h9 => h9) rfl d_MI_join_71 ?_
    refine lv_iload hx hb d_MI_join_74 (lv_at hl 3 rfl) ?_
    refine lv_iconst (v := (1 : Int32)) hx hb d_MI_join_76 (by decide) ?_
    refine lv_iload hx hb d_MI_join_77 (lv_at hl 0 rfl) ?_
    refine lv_ishl hx hb d_MI_join_79 ?_
    refine tp_i (y := (2 : Int32)) (by decide) ?_
    refine lv_ixor hx hb d_MI_join_80 ?_
    refine tp_i (y := (0 : Int32)) (by decide) ?_
    refine va_lald hx hb hK hP 1 1 rfl rfl (vp_in_iff.mpr (by decide)) d_MI_join_81 ?_
    refine tp_l (y := (1 : Int64)) (by rfl) ?_
    refine lv_lmul hx hb d_MI_join_82 ?_
    refine tp_l (y := (1 : Int64)) (by decide) ?_
    refine lv_aload_n hx hb d_MI_join_83 rfl (lv_at hl 8 rfl) ?_
    refine va_get (D := D) (ci := 1) (v := .ref rc) (C := cn_PL) (T := ft_PL) (N := 3) hx hb hf_PL (fun _ h => h) hown hK hP 3 rfl rfl 0 (by decide) (gw.at G hx0 mw_40 rfl _) (fun _ h9 => h9) rfl d_MI_join_84 ?_
    refine lv_iload_n hx hb d_MI_join_87 rfl (lv_at hl 9 rfl) ?_
    refine lv_iconst (v := (4 : Int32)) hx hb d_MI_join_88 (by decide) ?_
    refine lv_imul hx hb d_MI_join_89 ?_
    refine tp_i (y := (0 : Int32)) (by decide) ?_
    refine lv_iload hx hb d_MI_join_90 (lv_at hl 0 rfl) ?_
    refine lv_iadd hx hb d_MI_join_92 ?_
    refine tp_i (y := (1 : Int32)) (by decide) ?_
    refine va_iald hx hb hK hP 4 0 rfl rfl (vp_in_iff.mpr (by decide)) d_MI_join_93 ?_
    refine tp_i (y := rf 1) (by rfl) ?_
    refine lv_i2l (v := (rf 1).toInt64) hx hb d_MI_join_94 rfl ?_
    refine lv_lmul hx hb d_MI_join_95 ?_
    refine lv_ladd hx hb d_MI_join_96 ?_
    refine lv_lstore (lv' := [(7, .long ((0 : Int64) + ((1 : Int64) * ((rf 1).toInt64)))), (10, .int (1 : Int32)), (9, .int (1 : Int32)), (6, .int (2 : Int32)), (5, .int (2 : Int32)), (3, .int (0 : Int32)), (4, .int (5 : Int32)), (0, .ref mi), (1, .ref rl), (2, .int (0 : Int32))]) hx hb d_MI_join_97 hl (by decide) rfl (fun ls hl => ?_)
    refine lv_iload hx hb d_MI_join_99 (lv_at hl 2 rfl) ?_
    refine lv_ineg hx hb d_MI_join_101 ?_
    refine tp_i (y := (-1 : Int32)) (by decide) ?_
    refine lv_istore (lv' := [(9, .int (-1 : Int32)), (7, .long ((0 : Int64) + ((1 : Int64) * ((rf 1).toInt64)))), (10, .int (1 : Int32)), (6, .int (2 : Int32)), (5, .int (2 : Int32)), (3, .int (0 : Int32)), (4, .int (5 : Int32)), (0, .ref mi), (1, .ref rl), (2, .int (0 : Int32))]) hx hb d_MI_join_102 hl (by decide) rfl (fun ls hl => ?_)
    refine lv_iinc (lv' := [(10, .int (0 : Int32)), (9, .int (-1 : Int32)), (7, .long ((0 : Int64) + ((1 : Int64) * ((rf 1).toInt64)))), (6, .int (2 : Int32)), (5, .int (2 : Int32)), (3, .int (0 : Int32)), (4, .int (5 : Int32)), (0, .ref mi), (1, .ref rl), (2, .int (0 : Int32))]) (k := 2) (v := (0 : Int32)) hx hb d_MI_join_104 hl rfl (by decide) (by decide) rfl (fun ls hl => ?_)
    refine lv_goto (tgt := 50) hx hb d_MI_join_107 (by decide) ?_
    refine lv_iload hx hb d_MI_join_50 (lv_at hl 0 rfl) ?_
    refine lv_if_lt (tgt := 110) hx hb d_MI_join_52 (by decide) (fun h99 => absurd h99 (by decide)) (fun _ => ?_)
    refine lv_iload hx hb d_MI_join_55 (lv_at hl 3 rfl) ?_
    refine lv_iload hx hb d_MI_join_57 (lv_at hl 0 rfl) ?_
    refine lv_ishr hx hb d_MI_join_59 ?_
    refine tp_i (y := (2 : Int32)) (by decide) ?_
    refine lv_iconst (v := (1 : Int32)) hx hb d_MI_join_60 (by decide) ?_
    refine lv_iand hx hb d_MI_join_61 ?_
    refine tp_i (y := (0 : Int32)) (by decide) ?_
    refine lv_if_eq (tgt := 104) hx hb d_MI_join_62 (by decide) (fun _ => ?_) (fun h99 => absurd h99 (by decide))
    refine lv_iinc (lv' := [(10, .int (-1 : Int32)), (9, .int (-1 : Int32)), (7, .long ((0 : Int64) + ((1 : Int64) * ((rf 1).toInt64)))), (6, .int (2 : Int32)), (5, .int (2 : Int32)), (3, .int (0 : Int32)), (4, .int (5 : Int32)), (0, .ref mi), (1, .ref rl), (2, .int (0 : Int32))]) (k := 0) (v := (-1 : Int32)) hx hb d_MI_join_104 hl rfl (by decide) (by decide) rfl (fun ls hl => ?_)
    refine lv_goto (tgt := 50) hx hb d_MI_join_107 (by decide) ?_
    refine lv_iload hx hb d_MI_join_50 (lv_at hl 0 rfl) ?_
    refine lv_if_lt (tgt := 110) hx hb d_MI_join_52 (by decide) (fun _ => ?_) (fun h99 => absurd h99 (by decide))
    refine lv_aload_n hx hb d_MI_join_110 rfl (lv_at hl 7 rfl) ?_
    refine va_get (D := D) (ci := 2) (v := .ref nx) (C := cn_MI) (T := ft_MI) (N := 3) hx hb hf_MI (fun _ h => h) hown hK hP 0 rfl rfl 1 (by decide) (gw.at G hx0 mw_65 rfl _) (fun _ h9 => h9) rfl d_MI_join_111 ?_
    refine lv_iload hx hb d_MI_join_114 (lv_at hl 3 rfl) ?_
    refine lv_lload hx hb d_MI_join_116 (lv_at hl 2 rfl) ?_
    refine va_last hx hb hK hP hD hS 2 1 rfl rfl (vp_in_iff.mpr (by decide)) d_MI_join_118 (fun H locs hP hD hS => ?_)
    have hP : va_P D kl [(mi, .inr (2, [.ref cu, .ref nx, .int (0 : Int32)])), (cu, .inl (cJ, 16, .inr (.inl (vp_updL cf 0 (1 : Int64))))), (nx, .inl (cJ, 16, .inr (.inl (vp_updL (vp_updL nf 1 ((0 : Int64) + ((1 : Int64) * ((rf 0).toInt64)))) 2 ((0 : Int64) + ((1 : Int64) * ((rf 1).toInt64))))))), (rl, .inr (1, [.ref rc, .int (1 : Int32), .int (8 : Int32)])), (rc, .inl (cI, 32, .inl rf))] H := hP
    have hD : va_D A [(mi, .inr (2, [.ref cu, .ref nx, .int (0 : Int32)])), (cu, .inl (cJ, 16, .inr (.inl (vp_updL cf 0 (1 : Int64))))), (nx, .inl (cJ, 16, .inr (.inl (vp_updL (vp_updL nf 1 ((0 : Int64) + ((1 : Int64) * ((rf 0).toInt64)))) 2 ((0 : Int64) + ((1 : Int64) * ((rf 1).toInt64))))))), (rl, .inr (1, [.ref rc, .int (1 : Int32), .int (8 : Int32)])), (rc, .inl (cI, 32, .inl rf))] := hD
    refine lv_iload_n hx hb d_MI_join_119 rfl (lv_at hl 5 rfl) ?_
    refine lv_if_ne (tgt := 130) hx hb d_MI_join_120 (by decide) (fun h99 => absurd h99 (by decide)) (fun _ => ?_)
    refine lv_lload hx hb d_MI_join_123 (lv_at hl 2 rfl) ?_
    refine lv_lconst (v := (0 : Int64)) hx hb d_MI_join_125 (by decide) ?_
    refine W.lcmp hx hb d_MI_join_126 ?_
    refine lv_if_eq (tgt := 134) hx hb d_MI_join_127 (by decide) (fun h_2 => ?_) (fun h_2 => ?_)
    · refine lv_iconst (v := (0 : Int32)) hx hb d_MI_join_134 (by decide) ?_
      refine lv_istore_n (lv' := [(3, .int (0 : Int32)), (10, .int (-1 : Int32)), (9, .int (-1 : Int32)), (7, .long ((0 : Int64) + ((1 : Int64) * ((rf 1).toInt64)))), (6, .int (2 : Int32)), (5, .int (2 : Int32)), (4, .int (5 : Int32)), (0, .ref mi), (1, .ref rl), (2, .int (0 : Int32))]) hx hb d_MI_join_135 rfl hl (by decide) rfl (fun ls hl => ?_)
      refine lv_iinc (lv' := [(5, .int (3 : Int32)), (3, .int (0 : Int32)), (10, .int (-1 : Int32)), (9, .int (-1 : Int32)), (7, .long ((0 : Int64) + ((1 : Int64) * ((rf 1).toInt64)))), (6, .int (2 : Int32)), (4, .int (5 : Int32)), (0, .ref mi), (1, .ref rl), (2, .int (0 : Int32))]) (k := 5) (v := (3 : Int32)) hx hb d_MI_join_136 hl rfl (by decide) (by decide) rfl (fun ls hl => ?_)
      refine lv_goto (tgt := 26) hx hb d_MI_join_139 (by decide) ?_
      refine lv_iload hx hb d_MI_join_26 (lv_at hl 0 rfl) ?_
      refine lv_iload hx hb d_MI_join_28 (lv_at hl 6 rfl) ?_
      refine lv_icmp_ge (tgt := 142) hx hb d_MI_join_30 (by decide) (fun h99 => absurd h99 (by decide)) (fun _ => ?_)
      refine va_getsN hx hb hZC hS hown (gw.at G hx0 mw_62 rfl _) (fun _ h9 => h9) d_MI_join_33 ?_
      refine lv_iload hx hb d_MI_join_36 (lv_at hl 0 rfl) ?_
      refine va_ti hx hb hTC hS (vp_in_iff.mpr (by decide)) (v := .int (4 : Int32)) (by decide) d_MI_join_38 ?_
      refine lv_istore (lv' := [(6, .int (4 : Int32)), (5, .int (3 : Int32)), (3, .int (0 : Int32)), (10, .int (-1 : Int32)), (9, .int (-1 : Int32)), (7, .long ((0 : Int64) + ((1 : Int64) * ((rf 1).toInt64)))), (4, .int (5 : Int32)), (0, .ref mi), (1, .ref rl), (2, .int (0 : Int32))]) hx hb d_MI_join_39 hl (by decide) rfl (fun ls hl => ?_)
      refine lv_lconst (v := (0 : Int64)) hx hb d_MI_join_41 (by decide) ?_
      refine lv_lstore (lv' := [(7, .long (0 : Int64)), (6, .int (4 : Int32)), (5, .int (3 : Int32)), (3, .int (0 : Int32)), (10, .int (-1 : Int32)), (9, .int (-1 : Int32)), (4, .int (5 : Int32)), (0, .ref mi), (1, .ref rl), (2, .int (0 : Int32))]) hx hb d_MI_join_42 hl (by decide) rfl (fun ls hl => ?_)
      refine lv_iconst (v := (1 : Int32)) hx hb d_MI_join_44 (by decide) ?_
      refine lv_istore (lv' := [(9, .int (1 : Int32)), (7, .long (0 : Int64)), (6, .int (4 : Int32)), (5, .int (3 : Int32)), (3, .int (0 : Int32)), (10, .int (-1 : Int32)), (4, .int (5 : Int32)), (0, .ref mi), (1, .ref rl), (2, .int (0 : Int32))]) hx hb d_MI_join_45 hl (by decide) rfl (fun ls hl => ?_)
      refine lv_iconst (v := (3 : Int32)) hx hb d_MI_join_47 (by decide) ?_
      refine lv_istore (lv' := [(10, .int (3 : Int32)), (9, .int (1 : Int32)), (7, .long (0 : Int64)), (6, .int (4 : Int32)), (5, .int (3 : Int32)), (3, .int (0 : Int32)), (4, .int (5 : Int32)), (0, .ref mi), (1, .ref rl), (2, .int (0 : Int32))]) hx hb d_MI_join_48 hl (by decide) rfl (fun ls hl => ?_)
      refine lv_iload hx hb d_MI_join_50 (lv_at hl 0 rfl) ?_
      refine lv_if_lt (tgt := 110) hx hb d_MI_join_52 (by decide) (fun h99 => absurd h99 (by decide)) (fun _ => ?_)
      refine lv_iload hx hb d_MI_join_55 (lv_at hl 3 rfl) ?_
      refine lv_iload hx hb d_MI_join_57 (lv_at hl 0 rfl) ?_
      refine lv_ishr hx hb d_MI_join_59 ?_
      refine tp_i (y := (0 : Int32)) (by decide) ?_
      refine lv_iconst (v := (1 : Int32)) hx hb d_MI_join_60 (by decide) ?_
      refine lv_iand hx hb d_MI_join_61 ?_
      refine tp_i (y := (0 : Int32)) (by decide) ?_
      refine lv_if_eq (tgt := 104) hx hb d_MI_join_62 (by decide) (fun _ => ?_) (fun h99 => absurd h99 (by decide))
      refine lv_iinc (lv' := [(10, .int (2 : Int32)), (9, .int (1 : Int32)), (7, .long (0 : Int64)), (6, .int (4 : Int32)), (5, .int (3 : Int32)), (3, .int (0 : Int32)), (4, .int (5 : Int32)), (0, .ref mi), (1, .ref rl), (2, .int (0 : Int32))]) (k := 0) (v := (2 : Int32)) hx hb d_MI_join_104 hl rfl (by decide) (by decide) rfl (fun ls hl => ?_)
      refine lv_goto (tgt := 50) hx hb d_MI_join_107 (by decide) ?_
      refine lv_iload hx hb d_MI_join_50 (lv_at hl 0 rfl) ?_
      refine lv_if_lt (tgt := 110) hx hb d_MI_join_52 (by decide) (fun h99 => absurd h99 (by decide)) (fun _ => ?_)
      refine lv_iload hx hb d_MI_join_55 (lv_at hl 3 rfl) ?_
      refine lv_iload hx hb d_MI_join_57 (lv_at hl 0 rfl) ?_
      refine lv_ishr hx hb d_MI_join_59 ?_
      refine tp_i (y := (1 : Int32)) (by decide) ?_
      refine lv_iconst (v := (1 : Int32)) hx hb d_MI_join_60 (by decide) ?_
      refine lv_iand hx hb d_MI_join_61 ?_
      refine tp_i (y := (1 : Int32)) (by decide) ?_
      refine lv_if_eq (tgt := 104) hx hb d_MI_join_62 (by decide) (fun h99 => absurd h99 (by decide)) (fun _ => ?_)
      refine lv_lload hx hb d_MI_join_65 (lv_at hl 2 rfl) ?_
      refine lv_iload hx hb d_MI_join_67 (lv_at hl 1 rfl) ?_
      refine lv_i2l (v := (1 : Int64)) hx hb d_MI_join_69 (by decide) ?_
      refine lv_aload_n hx hb d_MI_join_70 rfl (lv_at hl 7 rfl) ?_
      refine va_get (D := D) (ci := 2) (v := .ref cu) (C := cn_MI) (T := ft_MI) (N := 3) hx hb hf_MI (fun _ h => h) hown hK hP 0 rfl rfl 0 (by decide) (gw.at G hx0 mw_64 rfl _) (fun _ h9 => h9) rfl d_MI_join_71 ?_
      refine lv_iload hx hb d_MI_join_74 (lv_at hl 3 rfl) ?_
      refine lv_iconst (v := (1 : Int32)) hx hb d_MI_join_76 (by decide) ?_
      refine lv_iload hx hb d_MI_join_77 (lv_at hl 0 rfl) ?_
      refine lv_ishl hx hb d_MI_join_79 ?_
      refine tp_i (y := (4 : Int32)) (by decide) ?_
      refine lv_ixor hx hb d_MI_join_80 ?_
      refine tp_i (y := (0 : Int32)) (by decide) ?_
      refine va_lald hx hb hK hP 1 1 rfl rfl (vp_in_iff.mpr (by decide)) d_MI_join_81 ?_
      refine tp_l (y := (1 : Int64)) (by rfl) ?_
      refine lv_lmul hx hb d_MI_join_82 ?_
      refine tp_l (y := (1 : Int64)) (by decide) ?_
      refine lv_aload_n hx hb d_MI_join_83 rfl (lv_at hl 8 rfl) ?_
      refine va_get (D := D) (ci := 1) (v := .ref rc) (C := cn_PL) (T := ft_PL) (N := 3) hx hb hf_PL (fun _ h => h) hown hK hP 3 rfl rfl 0 (by decide) (gw.at G hx0 mw_40 rfl _) (fun _ h9 => h9) rfl d_MI_join_84 ?_
      refine lv_iload_n hx hb d_MI_join_87 rfl (lv_at hl 9 rfl) ?_
      refine lv_iconst (v := (4 : Int32)) hx hb d_MI_join_88 (by decide) ?_
      refine lv_imul hx hb d_MI_join_89 ?_
      refine tp_i (y := (0 : Int32)) (by decide) ?_
      refine lv_iload hx hb d_MI_join_90 (lv_at hl 0 rfl) ?_
      refine lv_iadd hx hb d_MI_join_92 ?_
      refine tp_i (y := (2 : Int32)) (by decide) ?_
      refine va_iald hx hb hK hP 4 0 rfl rfl (vp_in_iff.mpr (by decide)) d_MI_join_93 ?_
      refine tp_i (y := rf 2) (by rfl) ?_
      refine lv_i2l (v := (rf 2).toInt64) hx hb d_MI_join_94 rfl ?_
      refine lv_lmul hx hb d_MI_join_95 ?_
      refine lv_ladd hx hb d_MI_join_96 ?_
      refine lv_lstore (lv' := [(7, .long ((0 : Int64) + ((1 : Int64) * ((rf 2).toInt64)))), (10, .int (2 : Int32)), (9, .int (1 : Int32)), (6, .int (4 : Int32)), (5, .int (3 : Int32)), (3, .int (0 : Int32)), (4, .int (5 : Int32)), (0, .ref mi), (1, .ref rl), (2, .int (0 : Int32))]) hx hb d_MI_join_97 hl (by decide) rfl (fun ls hl => ?_)
      refine lv_iload hx hb d_MI_join_99 (lv_at hl 2 rfl) ?_
      refine lv_ineg hx hb d_MI_join_101 ?_
      refine tp_i (y := (-1 : Int32)) (by decide) ?_
      refine lv_istore (lv' := [(9, .int (-1 : Int32)), (7, .long ((0 : Int64) + ((1 : Int64) * ((rf 2).toInt64)))), (10, .int (2 : Int32)), (6, .int (4 : Int32)), (5, .int (3 : Int32)), (3, .int (0 : Int32)), (4, .int (5 : Int32)), (0, .ref mi), (1, .ref rl), (2, .int (0 : Int32))]) hx hb d_MI_join_102 hl (by decide) rfl (fun ls hl => ?_)
      refine lv_iinc (lv' := [(10, .int (1 : Int32)), (9, .int (-1 : Int32)), (7, .long ((0 : Int64) + ((1 : Int64) * ((rf 2).toInt64)))), (6, .int (4 : Int32)), (5, .int (3 : Int32)), (3, .int (0 : Int32)), (4, .int (5 : Int32)), (0, .ref mi), (1, .ref rl), (2, .int (0 : Int32))]) (k := 2) (v := (1 : Int32)) hx hb d_MI_join_104 hl rfl (by decide) (by decide) rfl (fun ls hl => ?_)
      refine lv_goto (tgt := 50) hx hb d_MI_join_107 (by decide) ?_
      refine lv_iload hx hb d_MI_join_50 (lv_at hl 0 rfl) ?_
      refine lv_if_lt (tgt := 110) hx hb d_MI_join_52 (by decide) (fun h99 => absurd h99 (by decide)) (fun _ => ?_)
      refine lv_iload hx hb d_MI_join_55 (lv_at hl 3 rfl) ?_
      refine lv_iload hx hb d_MI_join_57 (lv_at hl 0 rfl) ?_
      refine lv_ishr hx hb d_MI_join_59 ?_
      refine tp_i (y := (2 : Int32)) (by decide) ?_
      refine lv_iconst (v := (1 : Int32)) hx hb d_MI_join_60 (by decide) ?_
      refine lv_iand hx hb d_MI_join_61 ?_
      refine tp_i (y := (0 : Int32)) (by decide) ?_
      refine lv_if_eq (tgt := 104) hx hb d_MI_join_62 (by decide) (fun _ => ?_) (fun h99 => absurd h99 (by decide))
      refine lv_iinc (lv' := [(10, .int (0 : Int32)), (9, .int (-1 : Int32)), (7, .long ((0 : Int64) + ((1 : Int64) * ((rf 2).toInt64)))), (6, .int (4 : Int32)), (5, .int (3 : Int32)), (3, .int (0 : Int32)), (4, .int (5 : Int32)), (0, .ref mi), (1, .ref rl), (2, .int (0 : Int32))]) (k := 0) (v := (0 : Int32)) hx hb d_MI_join_104 hl rfl (by decide) (by decide) rfl (fun ls hl => ?_)
      refine lv_goto (tgt := 50) hx hb d_MI_join_107 (by decide) ?_
      refine lv_iload hx hb d_MI_join_50 (lv_at hl 0 rfl) ?_
      refine lv_if_lt (tgt := 110) hx hb d_MI_join_52 (by decide) (fun h99 => absurd h99 (by decide)) (fun _ => ?_)
      refine lv_iload hx hb d_MI_join_55 (lv_at hl 3 rfl) ?_
      refine lv_iload hx hb d_MI_join_57 (lv_at hl 0 rfl) ?_
      refine lv_ishr hx hb d_MI_join_59 ?_
      refine tp_i (y := (4 : Int32)) (by decide) ?_
      refine lv_iconst (v := (1 : Int32)) hx hb d_MI_join_60 (by decide) ?_
      refine lv_iand hx hb d_MI_join_61 ?_
      refine tp_i (y := (0 : Int32)) (by decide) ?_
      refine lv_if_eq (tgt := 104) hx hb d_MI_join_62 (by decide) (fun _ => ?_) (fun h99 => absurd h99 (by decide))
      refine lv_iinc (lv' := [(10, .int (-1 : Int32)), (9, .int (-1 : Int32)), (7, .long ((0 : Int64) + ((1 : Int64) * ((rf 2).toInt64)))), (6, .int (4 : Int32)), (5, .int (3 : Int32)), (3, .int (0 : Int32)), (4, .int (5 : Int32)), (0, .ref mi), (1, .ref rl), (2, .int (0 : Int32))]) (k := 0) (v := (-1 : Int32)) hx hb d_MI_join_104 hl rfl (by decide) (by decide) rfl (fun ls hl => ?_)
      refine lv_goto (tgt := 50) hx hb d_MI_join_107 (by decide) ?_
      refine lv_iload hx hb d_MI_join_50 (lv_at hl 0 rfl) ?_
      refine lv_if_lt (tgt := 110) hx hb d_MI_join_52 (by decide) (fun _ => ?_) (fun h99 => absurd h99 (by decide))
      refine lv_aload_n hx hb d_MI_join_110 rfl (lv_at hl 7 rfl) ?_
      refine va_get (D := D) (ci := 2) (v := .ref nx) (C := cn_MI) (T := ft_MI) (N := 3) hx hb hf_MI (fun _ h => h) hown hK hP 0 rfl rfl 1 (by decide) (gw.at G hx0 mw_65 rfl _) (fun _ h9 => h9) rfl d_MI_join_111 ?_
      refine lv_iload hx hb d_MI_join_114 (lv_at hl 3 rfl) ?_
      refine lv_lload hx hb d_MI_join_116 (lv_at hl 2 rfl) ?_
      refine va_last hx hb hK hP hD hS 2 1 rfl rfl (vp_in_iff.mpr (by decide)) d_MI_join_118 (fun H locs hP hD hS => ?_)
      have hP : va_P D kl [(mi, .inr (2, [.ref cu, .ref nx, .int (0 : Int32)])), (cu, .inl (cJ, 16, .inr (.inl (vp_updL cf 0 (1 : Int64))))), (nx, .inl (cJ, 16, .inr (.inl (vp_updL (vp_updL (vp_updL nf 1 ((0 : Int64) + ((1 : Int64) * ((rf 0).toInt64)))) 2 ((0 : Int64) + ((1 : Int64) * ((rf 1).toInt64)))) 4 ((0 : Int64) + ((1 : Int64) * ((rf 2).toInt64))))))), (rl, .inr (1, [.ref rc, .int (1 : Int32), .int (8 : Int32)])), (rc, .inl (cI, 32, .inl rf))] H := hP
      have hD : va_D A [(mi, .inr (2, [.ref cu, .ref nx, .int (0 : Int32)])), (cu, .inl (cJ, 16, .inr (.inl (vp_updL cf 0 (1 : Int64))))), (nx, .inl (cJ, 16, .inr (.inl (vp_updL (vp_updL (vp_updL nf 1 ((0 : Int64) + ((1 : Int64) * ((rf 0).toInt64)))) 2 ((0 : Int64) + ((1 : Int64) * ((rf 1).toInt64)))) 4 ((0 : Int64) + ((1 : Int64) * ((rf 2).toInt64))))))), (rl, .inr (1, [.ref rc, .int (1 : Int32), .int (8 : Int32)])), (rc, .inl (cI, 32, .inl rf))] := hD
      refine lv_iload_n hx hb d_MI_join_119 rfl (lv_at hl 5 rfl) ?_
      refine lv_if_ne (tgt := 130) hx hb d_MI_join_120 (by decide) (fun h99 => absurd h99 (by decide)) (fun _ => ?_)
      refine lv_lload hx hb d_MI_join_123 (lv_at hl 2 rfl) ?_
      refine lv_lconst (v := (0 : Int64)) hx hb d_MI_join_125 (by decide) ?_
      refine W.lcmp hx hb d_MI_join_126 ?_
      refine lv_if_eq (tgt := 134) hx hb d_MI_join_127 (by decide) (fun h_3 => ?_) (fun h_3 => ?_)
      · refine lv_iconst (v := (0 : Int32)) hx hb d_MI_join_134 (by decide) ?_
        refine lv_istore_n (lv' := [(3, .int (0 : Int32)), (10, .int (-1 : Int32)), (9, .int (-1 : Int32)), (7, .long ((0 : Int64) + ((1 : Int64) * ((rf 2).toInt64)))), (6, .int (4 : Int32)), (5, .int (3 : Int32)), (4, .int (5 : Int32)), (0, .ref mi), (1, .ref rl), (2, .int (0 : Int32))]) hx hb d_MI_join_135 rfl hl (by decide) rfl (fun ls hl => ?_)
        refine lv_iinc (lv' := [(5, .int (4 : Int32)), (3, .int (0 : Int32)), (10, .int (-1 : Int32)), (9, .int (-1 : Int32)), (7, .long ((0 : Int64) + ((1 : Int64) * ((rf 2).toInt64)))), (6, .int (4 : Int32)), (4, .int (5 : Int32)), (0, .ref mi), (1, .ref rl), (2, .int (0 : Int32))]) (k := 5) (v := (4 : Int32)) hx hb d_MI_join_136 hl rfl (by decide) (by decide) rfl (fun ls hl => ?_)
        refine lv_goto (tgt := 26) hx hb d_MI_join_139 (by decide) ?_
        refine lv_iload hx hb d_MI_join_26 (lv_at hl 0 rfl) ?_
        refine lv_iload hx hb d_MI_join_28 (lv_at hl 6 rfl) ?_
        refine lv_icmp_ge (tgt := 142) hx hb d_MI_join_30 (by decide) (fun h99 => absurd h99 (by decide)) (fun _ => ?_)
        refine va_getsN hx hb hZC hS hown (gw.at G hx0 mw_62 rfl _) (fun _ h9 => h9) d_MI_join_33 ?_
        refine lv_iload hx hb d_MI_join_36 (lv_at hl 0 rfl) ?_
        refine va_ti hx hb hTC hS (vp_in_iff.mpr (by decide)) (v := .int (8 : Int32)) (by decide) d_MI_join_38 ?_
        refine lv_istore (lv' := [(6, .int (8 : Int32)), (5, .int (4 : Int32)), (3, .int (0 : Int32)), (10, .int (-1 : Int32)), (9, .int (-1 : Int32)), (7, .long ((0 : Int64) + ((1 : Int64) * ((rf 2).toInt64)))), (4, .int (5 : Int32)), (0, .ref mi), (1, .ref rl), (2, .int (0 : Int32))]) hx hb d_MI_join_39 hl (by decide) rfl (fun ls hl => ?_)
        refine lv_lconst (v := (0 : Int64)) hx hb d_MI_join_41 (by decide) ?_
        refine lv_lstore (lv' := [(7, .long (0 : Int64)), (6, .int (8 : Int32)), (5, .int (4 : Int32)), (3, .int (0 : Int32)), (10, .int (-1 : Int32)), (9, .int (-1 : Int32)), (4, .int (5 : Int32)), (0, .ref mi), (1, .ref rl), (2, .int (0 : Int32))]) hx hb d_MI_join_42 hl (by decide) rfl (fun ls hl => ?_)
        refine lv_iconst (v := (1 : Int32)) hx hb d_MI_join_44 (by decide) ?_
        refine lv_istore (lv' := [(9, .int (1 : Int32)), (7, .long (0 : Int64)), (6, .int (8 : Int32)), (5, .int (4 : Int32)), (3, .int (0 : Int32)), (10, .int (-1 : Int32)), (4, .int (5 : Int32)), (0, .ref mi), (1, .ref rl), (2, .int (0 : Int32))]) hx hb d_MI_join_45 hl (by decide) rfl (fun ls hl => ?_)
        refine lv_iconst (v := (3 : Int32)) hx hb d_MI_join_47 (by decide) ?_
        refine lv_istore (lv' := [(10, .int (3 : Int32)), (9, .int (1 : Int32)), (7, .long (0 : Int64)), (6, .int (8 : Int32)), (5, .int (4 : Int32)), (3, .int (0 : Int32)), (4, .int (5 : Int32)), (0, .ref mi), (1, .ref rl), (2, .int (0 : Int32))]) hx hb d_MI_join_48 hl (by decide) rfl (fun ls hl => ?_)
        refine lv_iload hx hb d_MI_join_50 (lv_at hl 0 rfl) ?_
        refine lv_if_lt (tgt := 110) hx hb d_MI_join_52 (by decide) (fun h99 => absurd h99 (by decide)) (fun _ => ?_)
        refine lv_iload hx hb d_MI_join_55 (lv_at hl 3 rfl) ?_
        refine lv_iload hx hb d_MI_join_57 (lv_at hl 0 rfl) ?_
        refine lv_ishr hx hb d_MI_join_59 ?_
        refine tp_i (y := (1 : Int32)) (by decide) ?_
        refine lv_iconst (v := (1 : Int32)) hx hb d_MI_join_60 (by decide) ?_
        refine lv_iand hx hb d_MI_join_61 ?_
        refine tp_i (y := (1 : Int32)) (by decide) ?_
        refine lv_if_eq (tgt := 104) hx hb d_MI_join_62 (by decide) (fun h99 => absurd h99 (by decide)) (fun _ => ?_)
        refine lv_lload hx hb d_MI_join_65 (lv_at hl 2 rfl) ?_
        refine lv_iload hx hb d_MI_join_67 (lv_at hl 1 rfl) ?_
        refine lv_i2l (v := (1 : Int64)) hx hb d_MI_join_69 (by decide) ?_
        refine lv_aload_n hx hb d_MI_join_70 rfl (lv_at hl 7 rfl) ?_
        refine va_get (D := D) (ci := 2) (v := .ref cu) (C := cn_MI) (T := ft_MI) (N := 3) hx hb hf_MI (fun _ h => h) hown hK hP 0 rfl rfl 0 (by decide) (gw.at G hx0 mw_64 rfl _) (fun _ h9 => h9) rfl d_MI_join_71 ?_
        refine lv_iload hx hb d_MI_join_74 (lv_at hl 3 rfl) ?_
        refine lv_iconst (v := (1 : Int32)) hx hb d_MI_join_76 (by decide) ?_
        refine lv_iload hx hb d_MI_join_77 (lv_at hl 0 rfl) ?_
        refine lv_ishl hx hb d_MI_join_79 ?_
        refine tp_i (y := (8 : Int32)) (by decide) ?_
        refine lv_ixor hx hb d_MI_join_80 ?_
        refine tp_i (y := (0 : Int32)) (by decide) ?_
        refine va_lald hx hb hK hP 1 1 rfl rfl (vp_in_iff.mpr (by decide)) d_MI_join_81 ?_
        refine tp_l (y := (1 : Int64)) (by rfl) ?_
        refine lv_lmul hx hb d_MI_join_82 ?_
        refine tp_l (y := (1 : Int64)) (by decide) ?_
        refine lv_aload_n hx hb d_MI_join_83 rfl (lv_at hl 8 rfl) ?_
        refine va_get (D := D) (ci := 1) (v := .ref rc) (C := cn_PL) (T := ft_PL) (N := 3) hx hb hf_PL (fun _ h => h) hown hK hP 3 rfl rfl 0 (by decide) (gw.at G hx0 mw_40 rfl _) (fun _ h9 => h9) rfl d_MI_join_84 ?_
        refine lv_iload_n hx hb d_MI_join_87 rfl (lv_at hl 9 rfl) ?_
        refine lv_iconst (v := (4 : Int32)) hx hb d_MI_join_88 (by decide) ?_
        refine lv_imul hx hb d_MI_join_89 ?_
        refine tp_i (y := (0 : Int32)) (by decide) ?_
        refine lv_iload hx hb d_MI_join_90 (lv_at hl 0 rfl) ?_
        refine lv_iadd hx hb d_MI_join_92 ?_
        refine tp_i (y := (3 : Int32)) (by decide) ?_
        refine va_iald hx hb hK hP 4 0 rfl rfl (vp_in_iff.mpr (by decide)) d_MI_join_93 ?_
        refine tp_i (y := rf 3) (by rfl) ?_
        refine lv_i2l (v := (rf 3).toInt64) hx hb d_MI_join_94 rfl ?_
        refine lv_lmul hx hb d_MI_join_95 ?_
        refine lv_ladd hx hb d_MI_join_96 ?_
        refine lv_lstore (lv' := [(7, .long ((0 : Int64) + ((1 : Int64) * ((rf 3).toInt64)))), (10, .int (3 : Int32)), (9, .int (1 : Int32)), (6, .int (8 : Int32)), (5, .int (4 : Int32)), (3, .int (0 : Int32)), (4, .int (5 : Int32)), (0, .ref mi), (1, .ref rl), (2, .int (0 : Int32))]) hx hb d_MI_join_97 hl (by decide) rfl (fun ls hl => ?_)
        refine lv_iload hx hb d_MI_join_99 (lv_at hl 2 rfl) ?_
        refine lv_ineg hx hb d_MI_join_101 ?_
        refine tp_i (y := (-1 : Int32)) (by decide) ?_
        refine lv_istore (lv' := [(9, .int (-1 : Int32)), (7, .long ((0 : Int64) + ((1 : Int64) * ((rf 3).toInt64)))), (10, .int (3 : Int32)), (6, .int (8 : Int32)), (5, .int (4 : Int32)), (3, .int (0 : Int32)), (4, .int (5 : Int32)), (0, .ref mi), (1, .ref rl), (2, .int (0 : Int32))]) hx hb d_MI_join_102 hl (by decide) rfl (fun ls hl => ?_)
        refine lv_iinc (lv' := [(10, .int (2 : Int32)), (9, .int (-1 : Int32)), (7, .long ((0 : Int64) + ((1 : Int64) * ((rf 3).toInt64)))), (6, .int (8 : Int32)), (5, .int (4 : Int32)), (3, .int (0 : Int32)), (4, .int (5 : Int32)), (0, .ref mi), (1, .ref rl), (2, .int (0 : Int32))]) (k := 2) (v := (2 : Int32)) hx hb d_MI_join_104 hl rfl (by decide) (by decide) rfl (fun ls hl => ?_)
        refine lv_goto (tgt := 50) hx hb d_MI_join_107 (by decide) ?_
        refine lv_iload hx hb d_MI_join_50 (lv_at hl 0 rfl) ?_
        refine lv_if_lt (tgt := 110) hx hb d_MI_join_52 (by decide) (fun h99 => absurd h99 (by decide)) (fun _ => ?_)
        refine lv_iload hx hb d_MI_join_55 (lv_at hl 3 rfl) ?_
        refine lv_iload hx hb d_MI_join_57 (lv_at hl 0 rfl) ?_
        refine lv_ishr hx hb d_MI_join_59 ?_
        refine tp_i (y := (2 : Int32)) (by decide) ?_
        refine lv_iconst (v := (1 : Int32)) hx hb d_MI_join_60 (by decide) ?_
        refine lv_iand hx hb d_MI_join_61 ?_
        refine tp_i (y := (0 : Int32)) (by decide) ?_
        refine lv_if_eq (tgt := 104) hx hb d_MI_join_62 (by decide) (fun _ => ?_) (fun h99 => absurd h99 (by decide))
        refine lv_iinc (lv' := [(10, .int (1 : Int32)), (9, .int (-1 : Int32)), (7, .long ((0 : Int64) + ((1 : Int64) * ((rf 3).toInt64)))), (6, .int (8 : Int32)), (5, .int (4 : Int32)), (3, .int (0 : Int32)), (4, .int (5 : Int32)), (0, .ref mi), (1, .ref rl), (2, .int (0 : Int32))]) (k := 0) (v := (1 : Int32)) hx hb d_MI_join_104 hl rfl (by decide) (by decide) rfl (fun ls hl => ?_)
        refine lv_goto (tgt := 50) hx hb d_MI_join_107 (by decide) ?_
        refine lv_iload hx hb d_MI_join_50 (lv_at hl 0 rfl) ?_
        refine lv_if_lt (tgt := 110) hx hb d_MI_join_52 (by decide) (fun h99 => absurd h99 (by decide)) (fun _ => ?_)
        refine lv_iload hx hb d_MI_join_55 (lv_at hl 3 rfl) ?_
        refine lv_iload hx hb d_MI_join_57 (lv_at hl 0 rfl) ?_
        refine lv_ishr hx hb d_MI_join_59 ?_
        refine tp_i (y := (4 : Int32)) (by decide) ?_
        refine lv_iconst (v := (1 : Int32)) hx hb d_MI_join_60 (by decide) ?_
        refine lv_iand hx hb d_MI_join_61 ?_
        refine tp_i (y := (0 : Int32)) (by decide) ?_
        refine lv_if_eq (tgt := 104) hx hb d_MI_join_62 (by decide) (fun _ => ?_) (fun h99 => absurd h99 (by decide))
        refine lv_iinc (lv' := [(10, .int (0 : Int32)), (9, .int (-1 : Int32)), (7, .long ((0 : Int64) + ((1 : Int64) * ((rf 3).toInt64)))), (6, .int (8 : Int32)), (5, .int (4 : Int32)), (3, .int (0 : Int32)), (4, .int (5 : Int32)), (0, .ref mi), (1, .ref rl), (2, .int (0 : Int32))]) (k := 0) (v := (0 : Int32)) hx hb d_MI_join_104 hl rfl (by decide) (by decide) rfl (fun ls hl => ?_)
        refine lv_goto (tgt := 50) hx hb d_MI_join_107 (by decide) ?_
        refine lv_iload hx hb d_MI_join_50 (lv_at hl 0 rfl) ?_
        refine lv_if_lt (tgt := 110) hx hb d_MI_join_52 (by decide) (fun h99 => absurd h99 (by decide)) (fun _ => ?_)
        refine lv_iload hx hb d_MI_join_55 (lv_at hl 3 rfl) ?_
        refine lv_iload hx hb d_MI_join_57 (lv_at hl 0 rfl) ?_
        refine lv_ishr hx hb d_MI_join_59 ?_
        refine tp_i (y := (8 : Int32)) (by decide) ?_
        refine lv_iconst (v := (1 : Int32)) hx hb d_MI_join_60 (by decide) ?_
        refine lv_iand hx hb d_MI_join_61 ?_
        refine tp_i (y := (0 : Int32)) (by decide) ?_
        refine lv_if_eq (tgt := 104) hx hb d_MI_join_62 (by decide) (fun _ => ?_) (fun h99 => absurd h99 (by decide))
        refine lv_iinc (lv' := [(10, .int (-1 : Int32)), (9, .int (-1 : Int32)), (7, .long ((0 : Int64) + ((1 : Int64) * ((rf 3).toInt64)))), (6, .int (8 : Int32)), (5, .int (4 : Int32)), (3, .int (0 : Int32)), (4, .int (5 : Int32)), (0, .ref mi), (1, .ref rl), (2, .int (0 : Int32))]) (k := 0) (v := (-1 : Int32)) hx hb d_MI_join_104 hl rfl (by decide) (by decide) rfl (fun ls hl => ?_)
        refine lv_goto (tgt := 50) hx hb d_MI_join_107 (by decide) ?_
        refine lv_iload hx hb d_MI_join_50 (lv_at hl 0 rfl) ?_
        refine lv_if_lt (tgt := 110) hx hb d_MI_join_52 (by decide) (fun _ => ?_) (fun h99 => absurd h99 (by decide))
        refine lv_aload_n hx hb d_MI_join_110 rfl (lv_at hl 7 rfl) ?_
        refine va_get (D := D) (ci := 2) (v := .ref nx) (C := cn_MI) (T := ft_MI) (N := 3) hx hb hf_MI (fun _ h => h) hown hK hP 0 rfl rfl 1 (by decide) (gw.at G hx0 mw_65 rfl _) (fun _ h9 => h9) rfl d_MI_join_111 ?_
        refine lv_iload hx hb d_MI_join_114 (lv_at hl 3 rfl) ?_
        refine lv_lload hx hb d_MI_join_116 (lv_at hl 2 rfl) ?_
        refine va_last hx hb hK hP hD hS 2 1 rfl rfl (vp_in_iff.mpr (by decide)) d_MI_join_118 (fun H locs hP hD hS => ?_)
        have hP : va_P D kl [(mi, .inr (2, [.ref cu, .ref nx, .int (0 : Int32)])), (cu, .inl (cJ, 16, .inr (.inl (vp_updL cf 0 (1 : Int64))))), (nx, .inl (cJ, 16, .inr (.inl (vp_updL (vp_updL (vp_updL (vp_updL nf 1 ((0 : Int64) + ((1 : Int64) * ((rf 0).toInt64)))) 2 ((0 : Int64) + ((1 : Int64) * ((rf 1).toInt64)))) 4 ((0 : Int64) + ((1 : Int64) * ((rf 2).toInt64)))) 8 ((0 : Int64) + ((1 : Int64) * ((rf 3).toInt64))))))), (rl, .inr (1, [.ref rc, .int (1 : Int32), .int (8 : Int32)])), (rc, .inl (cI, 32, .inl rf))] H := hP
        have hD : va_D A [(mi, .inr (2, [.ref cu, .ref nx, .int (0 : Int32)])), (cu, .inl (cJ, 16, .inr (.inl (vp_updL cf 0 (1 : Int64))))), (nx, .inl (cJ, 16, .inr (.inl (vp_updL (vp_updL (vp_updL (vp_updL nf 1 ((0 : Int64) + ((1 : Int64) * ((rf 0).toInt64)))) 2 ((0 : Int64) + ((1 : Int64) * ((rf 1).toInt64)))) 4 ((0 : Int64) + ((1 : Int64) * ((rf 2).toInt64)))) 8 ((0 : Int64) + ((1 : Int64) * ((rf 3).toInt64))))))), (rl, .inr (1, [.ref rc, .int (1 : Int32), .int (8 : Int32)])), (rc, .inl (cI, 32, .inl rf))] := hD
        refine lv_iload_n hx hb d_MI_join_119 rfl (lv_at hl 5 rfl) ?_
        refine lv_if_ne (tgt := 130) hx hb d_MI_join_120 (by decide) (fun h99 => absurd h99 (by decide)) (fun _ => ?_)
        refine lv_lload hx hb d_MI_join_123 (lv_at hl 2 rfl) ?_
        refine lv_lconst (v := (0 : Int64)) hx hb d_MI_join_125 (by decide) ?_
        refine W.lcmp hx hb d_MI_join_126 ?_
        refine lv_if_eq (tgt := 134) hx hb d_MI_join_127 (by decide) (fun h_4 => ?_) (fun h_4 => ?_)
        · refine lv_iconst (v := (0 : Int32)) hx hb d_MI_join_134 (by decide) ?_
          refine lv_istore_n (lv' := [(3, .int (0 : Int32)), (10, .int (-1 : Int32)), (9, .int (-1 : Int32)), (7, .long ((0 : Int64) + ((1 : Int64) * ((rf 3).toInt64)))), (6, .int (8 : Int32)), (5, .int (4 : Int32)), (4, .int (5 : Int32)), (0, .ref mi), (1, .ref rl), (2, .int (0 : Int32))]) hx hb d_MI_join_135 rfl hl (by decide) rfl (fun ls hl => ?_)
          refine lv_iinc (lv' := [(5, .int (5 : Int32)), (3, .int (0 : Int32)), (10, .int (-1 : Int32)), (9, .int (-1 : Int32)), (7, .long ((0 : Int64) + ((1 : Int64) * ((rf 3).toInt64)))), (6, .int (8 : Int32)), (4, .int (5 : Int32)), (0, .ref mi), (1, .ref rl), (2, .int (0 : Int32))]) (k := 5) (v := (5 : Int32)) hx hb d_MI_join_136 hl rfl (by decide) (by decide) rfl (fun ls hl => ?_)
          refine lv_goto (tgt := 26) hx hb d_MI_join_139 (by decide) ?_
          refine lv_iload hx hb d_MI_join_26 (lv_at hl 0 rfl) ?_
          refine lv_iload hx hb d_MI_join_28 (lv_at hl 6 rfl) ?_
          refine lv_icmp_ge (tgt := 142) hx hb d_MI_join_30 (by decide) (fun _ => ?_) (fun h99 => absurd h99 (by decide))
          refine lv_iload_n hx hb d_MI_join_142 rfl (lv_at hl 1 rfl) ?_
          refine lv_if_eq (tgt := 176) hx hb d_MI_join_143 (by decide) (fun _ => ?_) (fun h99 => absurd h99 (by decide))
          exact tx_mono (fun _ h => tx_Z.of h) (W.vret hx hb hr (fun t ht hW => ⟨⟨[(mi, .inr (2, [.ref cu, .ref nx, .int (0 : Int32)])), (cu, .inl (cJ, 16, .inr (.inl (vp_updL cf 0 (1 : Int64))))), (nx, .inl (cJ, 16, .inr (.inl (vp_updL (vp_updL (vp_updL (vp_updL nf 1 ((0 : Int64) + ((1 : Int64) * ((rf 0).toInt64)))) 2 ((0 : Int64) + ((1 : Int64) * ((rf 1).toInt64)))) 4 ((0 : Int64) + ((1 : Int64) * ((rf 2).toInt64)))) 8 ((0 : Int64) + ((1 : Int64) * ((rf 3).toInt64))))))), (rl, .inr (1, [.ref rc, .int (1 : Int32), .int (8 : Int32)])), (rc, .inl (cI, 32, .inl rf))], ⟨cu, nx, (vp_updL cf 0 (1 : Int64)), (vp_updL (vp_updL (vp_updL (vp_updL nf 1 ((0 : Int64) + ((1 : Int64) * ((rf 0).toInt64)))) 2 ((0 : Int64) + ((1 : Int64) * ((rf 1).toInt64)))) 4 ((0 : Int64) + ((1 : Int64) * ((rf 2).toInt64)))) 8 ((0 : Int64) + ((1 : Int64) * ((rf 3).toInt64)))), (0 : Int32), rfl, rfl⟩, by rw [ht]; exact hP.sub [0, 1, 2, 3, 4] rfl, hD.sub [0, 1, 2, 3, 4] (by decide) rfl⟩, hS.F ht⟩) hS.2.2 d_MI_join_176)
        · refine lv_iconst (v := (1 : Int32)) hx hb d_MI_join_130 (by decide) ?_
          refine lv_goto (tgt := 135) hx hb d_MI_join_131 (by decide) ?_
          refine lv_istore_n (lv' := [(3, .int (1 : Int32)), (10, .int (-1 : Int32)), (9, .int (-1 : Int32)), (7, .long ((0 : Int64) + ((1 : Int64) * ((rf 3).toInt64)))), (6, .int (8 : Int32)), (5, .int (4 : Int32)), (4, .int (5 : Int32)), (0, .ref mi), (1, .ref rl), (2, .int (0 : Int32))]) hx hb d_MI_join_135 rfl hl (by decide) rfl (fun ls hl => ?_)
          refine lv_iinc (lv' := [(5, .int (5 : Int32)), (3, .int (1 : Int32)), (10, .int (-1 : Int32)), (9, .int (-1 : Int32)), (7, .long ((0 : Int64) + ((1 : Int64) * ((rf 3).toInt64)))), (6, .int (8 : Int32)), (4, .int (5 : Int32)), (0, .ref mi), (1, .ref rl), (2, .int (0 : Int32))]) (k := 5) (v := (5 : Int32)) hx hb d_MI_join_136 hl rfl (by decide) (by decide) rfl (fun ls hl => ?_)
          refine lv_goto (tgt := 26) hx hb d_MI_join_139 (by decide) ?_
          refine lv_iload hx hb d_MI_join_26 (lv_at hl 0 rfl) ?_
          refine lv_iload hx hb d_MI_join_28 (lv_at hl 6 rfl) ?_
          refine lv_icmp_ge (tgt := 142) hx hb d_MI_join_30 (by decide) (fun _ => ?_) (fun h99 => absurd h99 (by decide))
          refine lv_iload_n hx hb d_MI_join_142 rfl (lv_at hl 1 rfl) ?_
          refine lv_if_eq (tgt := 176) hx hb d_MI_join_143 (by decide) (fun h99 => absurd h99 (by decide)) (fun _ => ?_)
          refine lv_aload_n hx hb d_MI_join_146 rfl (lv_at hl 7 rfl) ?_
          refine va_get (D := D) (ci := 2) (v := .ref cu) (C := cn_MI) (T := ft_MI) (N := 3) hx hb hf_MI (fun _ h => h) hown hK hP 0 rfl rfl 0 (by decide) (gw.at G hx0 mw_64 rfl _) (fun _ h9 => h9) rfl d_MI_join_147 ?_
          refine lv_astore (lv' := [(5, .ref cu), (3, .int (1 : Int32)), (10, .int (-1 : Int32)), (9, .int (-1 : Int32)), (7, .long ((0 : Int64) + ((1 : Int64) * ((rf 3).toInt64)))), (6, .int (8 : Int32)), (4, .int (5 : Int32)), (0, .ref mi), (1, .ref rl), (2, .int (0 : Int32))]) hx hb d_MI_join_150 hl (by decide) rfl (fun ls hl => ?_)
          refine lv_aload_n hx hb d_MI_join_152 rfl (lv_at hl 7 rfl) ?_
          refine lv_aload_n hx hb d_MI_join_153 rfl (lv_at hl 7 rfl) ?_
          refine va_get (D := D) (ci := 2) (v := .ref nx) (C := cn_MI) (T := ft_MI) (N := 3) hx hb hf_MI (fun _ h => h) hown hK hP 0 rfl rfl 1 (by decide) (gw.at G hx0 mw_65 rfl _) (fun _ h9 => h9) rfl d_MI_join_154 ?_
          refine va_put (D := D) (ci := 2) (v := .ref nx) (ty := .array .long) (C := cn_MI) (T := ft_MI) (N := 3) hx hb hf_MI (fun _ h => h) fy_MI fk_MI fn_MI hown hK hP hD hS 0 rfl rfl 0 (by decide) (gw.at G hx0 mw_64 rfl _) (fun _ h9 => h9) rfl (by decide +kernel) rfl rfl (Nat.le_of_ble_eq_true rfl) d_MI_join_157 (fun H locs hP hD hS => ?_)
          have hP : va_P D kl [(mi, .inr (2, [.ref nx, .ref nx, .int (0 : Int32)])), (cu, .inl (cJ, 16, .inr (.inl (vp_updL cf 0 (1 : Int64))))), (nx, .inl (cJ, 16, .inr (.inl (vp_updL (vp_updL (vp_updL (vp_updL nf 1 ((0 : Int64) + ((1 : Int64) * ((rf 0).toInt64)))) 2 ((0 : Int64) + ((1 : Int64) * ((rf 1).toInt64)))) 4 ((0 : Int64) + ((1 : Int64) * ((rf 2).toInt64)))) 8 ((0 : Int64) + ((1 : Int64) * ((rf 3).toInt64))))))), (rl, .inr (1, [.ref rc, .int (1 : Int32), .int (8 : Int32)])), (rc, .inl (cI, 32, .inl rf))] H := hP
          have hD : va_D A [(mi, .inr (2, [.ref nx, .ref nx, .int (0 : Int32)])), (cu, .inl (cJ, 16, .inr (.inl (vp_updL cf 0 (1 : Int64))))), (nx, .inl (cJ, 16, .inr (.inl (vp_updL (vp_updL (vp_updL (vp_updL nf 1 ((0 : Int64) + ((1 : Int64) * ((rf 0).toInt64)))) 2 ((0 : Int64) + ((1 : Int64) * ((rf 1).toInt64)))) 4 ((0 : Int64) + ((1 : Int64) * ((rf 2).toInt64)))) 8 ((0 : Int64) + ((1 : Int64) * ((rf 3).toInt64))))))), (rl, .inr (1, [.ref rc, .int (1 : Int32), .int (8 : Int32)])), (rc, .inl (cI, 32, .inl rf))] := hD
          refine lv_aload_n hx hb d_MI_join_160 rfl (lv_at hl 7 rfl) ?_
          refine lv_aload hx hb d_MI_join_161 (lv_at hl 0 rfl) ?_
          refine va_put (D := D) (ci := 2) (v := .ref cu) (ty := .array .long) (C := cn_MI) (T := ft_MI) (N := 3) hx hb hf_MI (fun _ h => h) fy_MI fk_MI fn_MI hown hK hP hD hS 0 rfl rfl 1 (by decide) (gw.at G hx0 mw_65 rfl _) (fun _ h9 => h9) rfl (by decide +kernel) rfl rfl (Nat.le_of_ble_eq_true rfl) d_MI_join_163 (fun H locs hP hD hS => ?_)
          have hP : va_P D kl [(mi, .inr (2, [.ref nx, .ref cu, .int (0 : Int32)])), (cu, .inl (cJ, 16, .inr (.inl (vp_updL cf 0 (1 : Int64))))), (nx, .inl (cJ, 16, .inr (.inl (vp_updL (vp_updL (vp_updL (vp_updL nf 1 ((0 : Int64) + ((1 : Int64) * ((rf 0).toInt64)))) 2 ((0 : Int64) + ((1 : Int64) * ((rf 1).toInt64)))) 4 ((0 : Int64) + ((1 : Int64) * ((rf 2).toInt64)))) 8 ((0 : Int64) + ((1 : Int64) * ((rf 3).toInt64))))))), (rl, .inr (1, [.ref rc, .int (1 : Int32), .int (8 : Int32)])), (rc, .inl (cI, 32, .inl rf))] H := hP
          have hD : va_D A [(mi, .inr (2, [.ref nx, .ref cu, .int (0 : Int32)])), (cu, .inl (cJ, 16, .inr (.inl (vp_updL cf 0 (1 : Int64))))), (nx, .inl (cJ, 16, .inr (.inl (vp_updL (vp_updL (vp_updL (vp_updL nf 1 ((0 : Int64) + ((1 : Int64) * ((rf 0).toInt64)))) 2 ((0 : Int64) + ((1 : Int64) * ((rf 1).toInt64)))) 4 ((0 : Int64) + ((1 : Int64) * ((rf 2).toInt64)))) 8 ((0 : Int64) + ((1 : Int64) * ((rf 3).toInt64))))))), (rl, .inr (1, [.ref rc, .int (1 : Int32), .int (8 : Int32)])), (rc, .inl (cI, 32, .inl rf))] := hD
          refine lv_aload_n hx hb d_MI_join_166 rfl (lv_at hl 7 rfl) ?_
          refine lv_dup hx hb d_MI_join_167 rfl ?_
          refine va_get (D := D) (ci := 2) (v := .int (0 : Int32)) (C := cn_MI) (T := ft_MI) (N := 3) hx hb hf_MI (fun _ h => h) hown hK hP 0 rfl rfl 2 (by decide) (gw.at G hx0 mw_66 rfl _) (fun _ h9 => h9) rfl d_MI_join_168 ?_
          refine lv_iconst (v := (1 : Int32)) hx hb d_MI_join_171 (by decide) ?_
          refine lv_iadd hx hb d_MI_join_172 ?_
          refine tp_i (y := (1 : Int32)) (by decide) ?_
          refine va_put (D := D) (ci := 2) (v := .int (1 : Int32)) (ty := .int) (C := cn_MI) (T := ft_MI) (N := 3) hx hb hf_MI (fun _ h => h) fy_MI fk_MI fn_MI hown hK hP hD hS 0 rfl rfl 2 (by decide) (gw.at G hx0 mw_66 rfl _) (fun _ h9 => h9) rfl (by decide +kernel) rfl rfl (Nat.le_of_ble_eq_true rfl) d_MI_join_173 (fun H locs hP hD hS => ?_)
          have hP : va_P D kl [(mi, .inr (2, [.ref nx, .ref cu, .int (1 : Int32)])), (cu, .inl (cJ, 16, .inr (.inl (vp_updL cf 0 (1 : Int64))))), (nx, .inl (cJ, 16, .inr (.inl (vp_updL (vp_updL (vp_updL (vp_updL nf 1 ((0 : Int64) + ((1 : Int64) * ((rf 0).toInt64)))) 2 ((0 : Int64) + ((1 : Int64) * ((rf 1).toInt64)))) 4 ((0 : Int64) + ((1 : Int64) * ((rf 2).toInt64)))) 8 ((0 : Int64) + ((1 : Int64) * ((rf 3).toInt64))))))), (rl, .inr (1, [.ref rc, .int (1 : Int32), .int (8 : Int32)])), (rc, .inl (cI, 32, .inl rf))] H := hP
          have hD : va_D A [(mi, .inr (2, [.ref nx, .ref cu, .int (1 : Int32)])), (cu, .inl (cJ, 16, .inr (.inl (vp_updL cf 0 (1 : Int64))))), (nx, .inl (cJ, 16, .inr (.inl (vp_updL (vp_updL (vp_updL (vp_updL nf 1 ((0 : Int64) + ((1 : Int64) * ((rf 0).toInt64)))) 2 ((0 : Int64) + ((1 : Int64) * ((rf 1).toInt64)))) 4 ((0 : Int64) + ((1 : Int64) * ((rf 2).toInt64)))) 8 ((0 : Int64) + ((1 : Int64) * ((rf 3).toInt64))))))), (rl, .inr (1, [.ref rc, .int (1 : Int32), .int (8 : Int32)])), (rc, .inl (cI, 32, .inl rf))] := hD
          exact tx_mono (fun _ h => tx_Z.of h) (W.vret hx hb hr (fun t ht hW => ⟨⟨[(mi, .inr (2, [.ref nx, .ref cu, .int (1 : Int32)])), (nx, .inl (cJ, 16, .inr (.inl (vp_updL (vp_updL (vp_updL (vp_updL nf 1 ((0 : Int64) + ((1 : Int64) * ((rf 0).toInt64)))) 2 ((0 : Int64) + ((1 : Int64) * ((rf 1).toInt64)))) 4 ((0 : Int64) + ((1 : Int64) * ((rf 2).toInt64)))) 8 ((0 : Int64) + ((1 : Int64) * ((rf 3).toInt64))))))), (cu, .inl (cJ, 16, .inr (.inl (vp_updL cf 0 (1 : Int64))))), (rl, .inr (1, [.ref rc, .int (1 : Int32), .int (8 : Int32)])), (rc, .inl (cI, 32, .inl rf))], ⟨nx, cu, (vp_updL (vp_updL (vp_updL (vp_updL nf 1 ((0 : Int64) + ((1 : Int64) * ((rf 0).toInt64)))) 2 ((0 : Int64) + ((1 : Int64) * ((rf 1).toInt64)))) 4 ((0 : Int64) + ((1 : Int64) * ((rf 2).toInt64)))) 8 ((0 : Int64) + ((1 : Int64) * ((rf 3).toInt64)))), (vp_updL cf 0 (1 : Int64)), (1 : Int32), rfl, rfl⟩, by rw [ht]; exact hP.sub [0, 2, 1, 3, 4] rfl, hD.sub [0, 2, 1, 3, 4] (by decide) rfl⟩, hS.F ht⟩) hS.2.2 d_MI_join_176)
      · refine lv_iconst (v := (1 : Int32)) hx hb d_MI_join_130 (by decide) ?_
        refine lv_goto (tgt := 135) hx hb d_MI_join_131 (by decide) ?_
        refine lv_istore_n (lv' := [(3, .int (1 : Int32)), (10, .int (-1 : Int32)), (9, .int (-1 : Int32)), (7, .long ((0 : Int64) + ((1 : Int64) * ((rf 2).toInt64)))), (6, .int (4 : Int32)), (5, .int (3 : Int32)), (4, .int (5 : Int32)), (0, .ref mi), (1, .ref rl), (2, .int (0 : Int32))]) hx hb d_MI_join_135 rfl hl (by decide) rfl (fun ls hl => ?_)
        refine lv_iinc (lv' := [(5, .int (4 : Int32)), (3, .int (1 : Int32)), (10, .int (-1 : Int32)), (9, .int (-1 : Int32)), (7, .long ((0 : Int64) + ((1 : Int64) * ((rf 2).toInt64)))), (6, .int (4 : Int32)), (4, .int (5 : Int32)), (0, .ref mi), (1, .ref rl), (2, .int (0 : Int32))]) (k := 5) (v := (4 : Int32)) hx hb d_MI_join_136 hl rfl (by decide) (by decide) rfl (fun ls hl => ?_)
        refine lv_goto (tgt := 26) hx hb d_MI_join_139 (by decide) ?_
        refine lv_iload hx hb d_MI_join_26 (lv_at hl 0 rfl) ?_
        refine lv_iload hx hb d_MI_join_28 (lv_at hl 6 rfl) ?_
        refine lv_icmp_ge (tgt := 142) hx hb d_MI_join_30 (by decide) (fun h99 => absurd h99 (by decide)) (fun _ => ?_)
        refine va_getsN hx hb hZC hS hown (gw.at G hx0 mw_62 rfl _) (fun _ h9 => h9) d_MI_join_33 ?_
        refine lv_iload hx hb d_MI_join_36 (lv_at hl 0 rfl) ?_
        refine va_ti hx hb hTC hS (vp_in_iff.mpr (by decide)) (v := .int (8 : Int32)) (by decide) d_MI_join_38 ?_
        refine lv_istore (lv' := [(6, .int (8 : Int32)), (5, .int (4 : Int32)), (3, .int (1 : Int32)), (10, .int (-1 : Int32)), (9, .int (-1 : Int32)), (7, .long ((0 : Int64) + ((1 : Int64) * ((rf 2).toInt64)))), (4, .int (5 : Int32)), (0, .ref mi), (1, .ref rl), (2, .int (0 : Int32))]) hx hb d_MI_join_39 hl (by decide) rfl (fun ls hl => ?_)
        refine lv_lconst (v := (0 : Int64)) hx hb d_MI_join_41 (by decide) ?_
        refine lv_lstore (lv' := [(7, .long (0 : Int64)), (6, .int (8 : Int32)), (5, .int (4 : Int32)), (3, .int (1 : Int32)), (10, .int (-1 : Int32)), (9, .int (-1 : Int32)), (4, .int (5 : Int32)), (0, .ref mi), (1, .ref rl), (2, .int (0 : Int32))]) hx hb d_MI_join_42 hl (by decide) rfl (fun ls hl => ?_)
        refine lv_iconst (v := (1 : Int32)) hx hb d_MI_join_44 (by decide) ?_
        refine lv_istore (lv' := [(9, .int (1 : Int32)), (7, .long (0 : Int64)), (6, .int (8 : Int32)), (5, .int (4 : Int32)), (3, .int (1 : Int32)), (10, .int (-1 : Int32)), (4, .int (5 : Int32)), (0, .ref mi), (1, .ref rl), (2, .int (0 : Int32))]) hx hb d_MI_join_45 hl (by decide) rfl (fun ls hl => ?_)
        refine lv_iconst (v := (3 : Int32)) hx hb d_MI_join_47 (by decide) ?_
        refine lv_istore (lv' := [(10, .int (3 : Int32)), (9, .int (1 : Int32)), (7, .long (0 : Int64)), (6, .int (8 : Int32)), (5, .int (4 : Int32)), (3, .int (1 : Int32)), (4, .int (5 : Int32)), (0, .ref mi), (1, .ref rl), (2, .int (0 : Int32))]) hx hb d_MI_join_48 hl (by decide) rfl (fun ls hl => ?_)
        refine lv_iload hx hb d_MI_join_50 (lv_at hl 0 rfl) ?_
        refine lv_if_lt (tgt := 110) hx hb d_MI_join_52 (by decide) (fun h99 => absurd h99 (by decide)) (fun _ => ?_)
        refine lv_iload hx hb d_MI_join_55 (lv_at hl 3 rfl) ?_
        refine lv_iload hx hb d_MI_join_57 (lv_at hl 0 rfl) ?_
        refine lv_ishr hx hb d_MI_join_59 ?_
        refine tp_i (y := (1 : Int32)) (by decide) ?_
        refine lv_iconst (v := (1 : Int32)) hx hb d_MI_join_60 (by decide) ?_
        refine lv_iand hx hb d_MI_join_61 ?_
        refine tp_i (y := (1 : Int32)) (by decide) ?_
        refine lv_if_eq (tgt := 104) hx hb d_MI_join_62 (by decide) (fun h99 => absurd h99 (by decide)) (fun _ => ?_)
        refine lv_lload hx hb d_MI_join_65 (lv_at hl 2 rfl) ?_
        refine lv_iload hx hb d_MI_join_67 (lv_at hl 1 rfl) ?_
        refine lv_i2l (v := (1 : Int64)) hx hb d_MI_join_69 (by decide) ?_
        refine lv_aload_n hx hb d_MI_join_70 rfl (lv_at hl 7 rfl) ?_
        refine va_get (D := D) (ci := 2) (v := .ref cu) (C := cn_MI) (T := ft_MI) (N := 3) hx hb hf_MI (fun _ h => h) hown hK hP 0 rfl rfl 0 (by decide) (gw.at G hx0 mw_64 rfl _) (fun _ h9 => h9) rfl d_MI_join_71 ?_
        refine lv_iload hx hb d_MI_join_74 (lv_at hl 3 rfl) ?_
        refine lv_iconst (v := (1 : Int32)) hx hb d_MI_join_76 (by decide) ?_
        refine lv_iload hx hb d_MI_join_77 (lv_at hl 0 rfl) ?_
        refine lv_ishl hx hb d_MI_join_79 ?_
        refine tp_i (y := (8 : Int32)) (by decide) ?_
        refine lv_ixor hx hb d_MI_join_80 ?_
        refine tp_i (y := (0 : Int32)) (by decide) ?_
        refine va_lald hx hb hK hP 1 1 rfl rfl (vp_in_iff.mpr (by decide)) d_MI_join_81 ?_
        refine tp_l (y := (1 : Int64)) (by rfl) ?_
        refine lv_lmul hx hb d_MI_join_82 ?_
        refine tp_l (y := (1 : Int64)) (by decide) ?_
        refine lv_aload_n hx hb d_MI_join_83 rfl (lv_at hl 8 rfl) ?_
        refine va_get (D := D) (ci := 1) (v := .ref rc) (C := cn_PL) (T := ft_PL) (N := 3) hx hb hf_PL (fun _ h => h) hown hK hP 3 rfl rfl 0 (by decide) (gw.at G hx0 mw_40 rfl _) (fun _ h9 => h9) rfl d_MI_join_84 ?_
        refine lv_iload_n hx hb d_MI_join_87 rfl (lv_at hl 9 rfl) ?_
        refine lv_iconst (v := (4 : Int32)) hx hb d_MI_join_88 (by decide) ?_
        refine lv_imul hx hb d_MI_join_89 ?_
        refine tp_i (y := (0 : Int32)) (by decide) ?_
        refine lv_iload hx hb d_MI_join_90 (lv_at hl 0 rfl) ?_
        refine lv_iadd hx hb d_MI_join_92 ?_
        refine tp_i (y := (3 : Int32)) (by decide) ?_
        refine va_iald hx hb hK hP 4 0 rfl rfl (vp_in_iff.mpr (by decide)) d_MI_join_93 ?_
        refine tp_i (y := rf 3) (by rfl) ?_
        refine lv_i2l (v := (rf 3).toInt64) hx hb d_MI_join_94 rfl ?_
        refine lv_lmul hx hb d_MI_join_95 ?_
        refine lv_ladd hx hb d_MI_join_96 ?_
        refine lv_lstore (lv' := [(7, .long ((0 : Int64) + ((1 : Int64) * ((rf 3).toInt64)))), (10, .int (3 : Int32)), (9, .int (1 : Int32)), (6, .int (8 : Int32)), (5, .int (4 : Int32)), (3, .int (1 : Int32)), (4, .int (5 : Int32)), (0, .ref mi), (1, .ref rl), (2, .int (0 : Int32))]) hx hb d_MI_join_97 hl (by decide) rfl (fun ls hl => ?_)
        refine lv_iload hx hb d_MI_join_99 (lv_at hl 2 rfl) ?_
        refine lv_ineg hx hb d_MI_join_101 ?_
        refine tp_i (y := (-1 : Int32)) (by decide) ?_
        refine lv_istore (lv' := [(9, .int (-1 : Int32)), (7, .long ((0 : Int64) + ((1 : Int64) * ((rf 3).toInt64)))), (10, .int (3 : Int32)), (6, .int (8 : Int32)), (5, .int (4 : Int32)), (3, .int (1 : Int32)), (4, .int (5 : Int32)), (0, .ref mi), (1, .ref rl), (2, .int (0 : Int32))]) hx hb d_MI_join_102 hl (by decide) rfl (fun ls hl => ?_)
        refine lv_iinc (lv' := [(10, .int (2 : Int32)), (9, .int (-1 : Int32)), (7, .long ((0 : Int64) + ((1 : Int64) * ((rf 3).toInt64)))), (6, .int (8 : Int32)), (5, .int (4 : Int32)), (3, .int (1 : Int32)), (4, .int (5 : Int32)), (0, .ref mi), (1, .ref rl), (2, .int (0 : Int32))]) (k := 2) (v := (2 : Int32)) hx hb d_MI_join_104 hl rfl (by decide) (by decide) rfl (fun ls hl => ?_)
        refine lv_goto (tgt := 50) hx hb d_MI_join_107 (by decide) ?_
        refine lv_iload hx hb d_MI_join_50 (lv_at hl 0 rfl) ?_
        refine lv_if_lt (tgt := 110) hx hb d_MI_join_52 (by decide) (fun h99 => absurd h99 (by decide)) (fun _ => ?_)
        refine lv_iload hx hb d_MI_join_55 (lv_at hl 3 rfl) ?_
        refine lv_iload hx hb d_MI_join_57 (lv_at hl 0 rfl) ?_
        refine lv_ishr hx hb d_MI_join_59 ?_
        refine tp_i (y := (2 : Int32)) (by decide) ?_
        refine lv_iconst (v := (1 : Int32)) hx hb d_MI_join_60 (by decide) ?_
        refine lv_iand hx hb d_MI_join_61 ?_
        refine tp_i (y := (0 : Int32)) (by decide) ?_
        refine lv_if_eq (tgt := 104) hx hb d_MI_join_62 (by decide) (fun _ => ?_) (fun h99 => absurd h99 (by decide))
        refine lv_iinc (lv' := [(10, .int (1 : Int32)), (9, .int (-1 : Int32)), (7, .long ((0 : Int64) + ((1 : Int64) * ((rf 3).toInt64)))), (6, .int (8 : Int32)), (5, .int (4 : Int32)), (3, .int (1 : Int32)), (4, .int (5 : Int32)), (0, .ref mi), (1, .ref rl), (2, .int (0 : Int32))]) (k := 0) (v := (1 : Int32)) hx hb d_MI_join_104 hl rfl (by decide) (by decide) rfl (fun ls hl => ?_)
        refine lv_goto (tgt := 50) hx hb d_MI_join_107 (by decide) ?_
        refine lv_iload hx hb d_MI_join_50 (lv_at hl 0 rfl) ?_
        refine lv_if_lt (tgt := 110) hx hb d_MI_join_52 (by decide) (fun h99 => absurd h99 (by decide)) (fun _ => ?_)
        refine lv_iload hx hb d_MI_join_55 (lv_at hl 3 rfl) ?_
        refine lv_iload hx hb d_MI_join_57 (lv_at hl 0 rfl) ?_
        refine lv_ishr hx hb d_MI_join_59 ?_
        refine tp_i (y := (4 : Int32)) (by decide) ?_
        refine lv_iconst (v := (1 : Int32)) hx hb d_MI_join_60 (by decide) ?_
        refine lv_iand hx hb d_MI_join_61 ?_
        refine tp_i (y := (0 : Int32)) (by decide) ?_
        refine lv_if_eq (tgt := 104) hx hb d_MI_join_62 (by decide) (fun _ => ?_) (fun h99 => absurd h99 (by decide))
        refine lv_iinc (lv' := [(10, .int (0 : Int32)), (9, .int (-1 : Int32)), (7, .long ((0 : Int64) + ((1 : Int64) * ((rf 3).toInt64)))), (6, .int (8 : Int32)), (5, .int (4 : Int32)), (3, .int (1 : Int32)), (4, .int (5 : Int32)), (0, .ref mi), (1, .ref rl), (2, .int (0 : Int32))]) (k := 0) (v := (0 : Int32)) hx hb d_MI_join_104 hl rfl (by decide) (by decide) rfl (fun ls hl => ?_)
        refine lv_goto (tgt := 50) hx hb d_MI_join_107 (by decide) ?_
        refine lv_iload hx hb d_MI_join_50 (lv_at hl 0 rfl) ?_
        refine lv_if_lt (tgt := 110) hx hb d_MI_join_52 (by decide) (fun h99 => absurd h99 (by decide)) (fun _ => ?_)
        refine lv_iload hx hb d_MI_join_55 (lv_at hl 3 rfl) ?_
        refine lv_iload hx hb d_MI_join_57 (lv_at hl 0 rfl) ?_
        refine lv_ishr hx hb d_MI_join_59 ?_
        refine tp_i (y := (8 : Int32)) (by decide) ?_
        refine lv_iconst (v := (1 : Int32)) hx hb d_MI_join_60 (by decide) ?_
        refine lv_iand hx hb d_MI_join_61 ?_
        refine tp_i (y := (0 : Int32)) (by decide) ?_
        refine lv_if_eq (tgt := 104) hx hb d_MI_join_62 (by decide) (fun _ => ?_) (fun h99 => absurd h99 (by decide))
        refine lv_iinc (lv' := [(10, .int (-1 : Int32)), (9, .int (-1 : Int32)), (7, .long ((0 : Int64) + ((1 : Int64) * ((rf 3).toInt64)))), (6, .int (8 : Int32)), (5, .int (4 : Int32)), (3, .int (1 : Int32)), (4, .int (5 : Int32)), (0, .ref mi), (1, .ref rl), (2, .int (0 : Int32))]) (k := 0) (v := (-1 : Int32)) hx hb d_MI_join_104 hl rfl (by decide) (by decide) rfl (fun ls hl => ?_)
        refine lv_goto (tgt := 50) hx hb d_MI_join_107 (by decide) ?_
        refine lv_iload hx hb d_MI_join_50 (lv_at hl 0 rfl) ?_
        refine lv_if_lt (tgt := 110) hx hb d_MI_join_52 (by decide) (fun _ => ?_) (fun h99 => absurd h99 (by decide))
        refine lv_aload_n hx hb d_MI_join_110 rfl (lv_at hl 7 rfl) ?_
        refine va_get (D := D) (ci := 2) (v := .ref nx) (C := cn_MI) (T := ft_MI) (N := 3) hx hb hf_MI (fun _ h => h) hown hK hP 0 rfl rfl 1 (by decide) (gw.at G hx0 mw_65 rfl _) (fun _ h9 => h9) rfl d_MI_join_111 ?_
        refine lv_iload hx hb d_MI_join_114 (lv_at hl 3 rfl) ?_
        refine lv_lload hx hb d_MI_join_116 (lv_at hl 2 rfl) ?_
        refine va_last hx hb hK hP hD hS 2 1 rfl rfl (vp_in_iff.mpr (by decide)) d_MI_join_118 (fun H locs hP hD hS => ?_)
        have hP : va_P D kl [(mi, .inr (2, [.ref cu, .ref nx, .int (0 : Int32)])), (cu, .inl (cJ, 16, .inr (.inl (vp_updL cf 0 (1 : Int64))))), (nx, .inl (cJ, 16, .inr (.inl (vp_updL (vp_updL (vp_updL (vp_updL nf 1 ((0 : Int64) + ((1 : Int64) * ((rf 0).toInt64)))) 2 ((0 : Int64) + ((1 : Int64) * ((rf 1).toInt64)))) 4 ((0 : Int64) + ((1 : Int64) * ((rf 2).toInt64)))) 8 ((0 : Int64) + ((1 : Int64) * ((rf 3).toInt64))))))), (rl, .inr (1, [.ref rc, .int (1 : Int32), .int (8 : Int32)])), (rc, .inl (cI, 32, .inl rf))] H := hP
        have hD : va_D A [(mi, .inr (2, [.ref cu, .ref nx, .int (0 : Int32)])), (cu, .inl (cJ, 16, .inr (.inl (vp_updL cf 0 (1 : Int64))))), (nx, .inl (cJ, 16, .inr (.inl (vp_updL (vp_updL (vp_updL (vp_updL nf 1 ((0 : Int64) + ((1 : Int64) * ((rf 0).toInt64)))) 2 ((0 : Int64) + ((1 : Int64) * ((rf 1).toInt64)))) 4 ((0 : Int64) + ((1 : Int64) * ((rf 2).toInt64)))) 8 ((0 : Int64) + ((1 : Int64) * ((rf 3).toInt64))))))), (rl, .inr (1, [.ref rc, .int (1 : Int32), .int (8 : Int32)])), (rc, .inl (cI, 32, .inl rf))] := hD
        refine lv_iload_n hx hb d_MI_join_119 rfl (lv_at hl 5 rfl) ?_
        refine lv_if_ne (tgt := 130) hx hb d_MI_join_120 (by decide) (fun _ => ?_) (fun h99 => absurd h99 (by decide))
        refine lv_iconst (v := (1 : Int32)) hx hb d_MI_join_130 (by decide) ?_
        refine lv_goto (tgt := 135) hx hb d_MI_join_131 (by decide) ?_
        refine lv_istore_n (lv' := [(3, .int (1 : Int32)), (10, .int (-1 : Int32)), (9, .int (-1 : Int32)), (7, .long ((0 : Int64) + ((1 : Int64) * ((rf 3).toInt64)))), (6, .int (8 : Int32)), (5, .int (4 : Int32)), (4, .int (5 : Int32)), (0, .ref mi), (1, .ref rl), (2, .int (0 : Int32))]) hx hb d_MI_join_135 rfl hl (by decide) rfl (fun ls hl => ?_)
        refine lv_iinc (lv' := [(5, .int (5 : Int32)), (3, .int (1 : Int32)), (10, .int (-1 : Int32)), (9, .int (-1 : Int32)), (7, .long ((0 : Int64) + ((1 : Int64) * ((rf 3).toInt64)))), (6, .int (8 : Int32)), (4, .int (5 : Int32)), (0, .ref mi), (1, .ref rl), (2, .int (0 : Int32))]) (k := 5) (v := (5 : Int32)) hx hb d_MI_join_136 hl rfl (by decide) (by decide) rfl (fun ls hl => ?_)
        refine lv_goto (tgt := 26) hx hb d_MI_join_139 (by decide) ?_
        refine lv_iload hx hb d_MI_join_26 (lv_at hl 0 rfl) ?_
        refine lv_iload hx hb d_MI_join_28 (lv_at hl 6 rfl) ?_
        refine lv_icmp_ge (tgt := 142) hx hb d_MI_join_30 (by decide) (fun _ => ?_) (fun h99 => absurd h99 (by decide))
        refine lv_iload_n hx hb d_MI_join_142 rfl (lv_at hl 1 rfl) ?_
        refine lv_if_eq (tgt := 176) hx hb d_MI_join_143 (by decide) (fun h99 => absurd h99 (by decide)) (fun _ => ?_)
        refine lv_aload_n hx hb d_MI_join_146 rfl (lv_at hl 7 rfl) ?_
        refine va_get (D := D) (ci := 2) (v := .ref cu) (C := cn_MI) (T := ft_MI) (N := 3) hx hb hf_MI (fun _ h => h) hown hK hP 0 rfl rfl 0 (by decide) (gw.at G hx0 mw_64 rfl _) (fun _ h9 => h9) rfl d_MI_join_147 ?_
        refine lv_astore (lv' := [(5, .ref cu), (3, .int (1 : Int32)), (10, .int (-1 : Int32)), (9, .int (-1 : Int32)), (7, .long ((0 : Int64) + ((1 : Int64) * ((rf 3).toInt64)))), (6, .int (8 : Int32)), (4, .int (5 : Int32)), (0, .ref mi), (1, .ref rl), (2, .int (0 : Int32))]) hx hb d_MI_join_150 hl (by decide) rfl (fun ls hl => ?_)
        refine lv_aload_n hx hb d_MI_join_152 rfl (lv_at hl 7 rfl) ?_
        refine lv_aload_n hx hb d_MI_join_153 rfl (lv_at hl 7 rfl) ?_
        refine va_get (D := D) (ci := 2) (v := .ref nx) (C := cn_MI) (T := ft_MI) (N := 3) hx hb hf_MI (fun _ h => h) hown hK hP 0 rfl rfl 1 (by decide) (gw.at G hx0 mw_65 rfl _) (fun _ h9 => h9) rfl d_MI_join_154 ?_
        refine va_put (D := D) (ci := 2) (v := .ref nx) (ty := .array .long) (C := cn_MI) (T := ft_MI) (N := 3) hx hb hf_MI (fun _ h => h) fy_MI fk_MI fn_MI hown hK hP hD hS 0 rfl rfl 0 (by decide) (gw.at G hx0 mw_64 rfl _) (fun _ h9 => h9) rfl (by decide +kernel) rfl rfl (Nat.le_of_ble_eq_true rfl) d_MI_join_157 (fun H locs hP hD hS => ?_)
        have hP : va_P D kl [(mi, .inr (2, [.ref nx, .ref nx, .int (0 : Int32)])), (cu, .inl (cJ, 16, .inr (.inl (vp_updL cf 0 (1 : Int64))))), (nx, .inl (cJ, 16, .inr (.inl (vp_updL (vp_updL (vp_updL (vp_updL nf 1 ((0 : Int64) + ((1 : Int64) * ((rf 0).toInt64)))) 2 ((0 : Int64) + ((1 : Int64) * ((rf 1).toInt64)))) 4 ((0 : Int64) + ((1 : Int64) * ((rf 2).toInt64)))) 8 ((0 : Int64) + ((1 : Int64) * ((rf 3).toInt64))))))), (rl, .inr (1, [.ref rc, .int (1 : Int32), .int (8 : Int32)])), (rc, .inl (cI, 32, .inl rf))] H := hP
        have hD : va_D A [(mi, .inr (2, [.ref nx, .ref nx, .int (0 : Int32)])), (cu, .inl (cJ, 16, .inr (.inl (vp_updL cf 0 (1 : Int64))))), (nx, .inl (cJ, 16, .inr (.inl (vp_updL (vp_updL (vp_updL (vp_updL nf 1 ((0 : Int64) + ((1 : Int64) * ((rf 0).toInt64)))) 2 ((0 : Int64) + ((1 : Int64) * ((rf 1).toInt64)))) 4 ((0 : Int64) + ((1 : Int64) * ((rf 2).toInt64)))) 8 ((0 : Int64) + ((1 : Int64) * ((rf 3).toInt64))))))), (rl, .inr (1, [.ref rc, .int (1 : Int32), .int (8 : Int32)])), (rc, .inl (cI, 32, .inl rf))] := hD
        refine lv_aload_n hx hb d_MI_join_160 rfl (lv_at hl 7 rfl) ?_
        refine lv_aload hx hb d_MI_join_161 (lv_at hl 0 rfl) ?_
        refine va_put (D := D) (ci := 2) (v := .ref cu) (ty := .array .long) (C := cn_MI) (T := ft_MI) (N := 3) hx hb hf_MI (fun _ h => h) fy_MI fk_MI fn_MI hown hK hP hD hS 0 rfl rfl 1 (by decide) (gw.at G hx0 mw_65 rfl _) (fun _ h9 => h9) rfl (by decide +kernel) rfl rfl (Nat.le_of_ble_eq_true rfl) d_MI_join_163 (fun H locs hP hD hS => ?_)
        have hP : va_P D kl [(mi, .inr (2, [.ref nx, .ref cu, .int (0 : Int32)])), (cu, .inl (cJ, 16, .inr (.inl (vp_updL cf 0 (1 : Int64))))), (nx, .inl (cJ, 16, .inr (.inl (vp_updL (vp_updL (vp_updL (vp_updL nf 1 ((0 : Int64) + ((1 : Int64) * ((rf 0).toInt64)))) 2 ((0 : Int64) + ((1 : Int64) * ((rf 1).toInt64)))) 4 ((0 : Int64) + ((1 : Int64) * ((rf 2).toInt64)))) 8 ((0 : Int64) + ((1 : Int64) * ((rf 3).toInt64))))))), (rl, .inr (1, [.ref rc, .int (1 : Int32), .int (8 : Int32)])), (rc, .inl (cI, 32, .inl rf))] H := hP
        have hD : va_D A [(mi, .inr (2, [.ref nx, .ref cu, .int (0 : Int32)])), (cu, .inl (cJ, 16, .inr (.inl (vp_updL cf 0 (1 : Int64))))), (nx, .inl (cJ, 16, .inr (.inl (vp_updL (vp_updL (vp_updL (vp_updL nf 1 ((0 : Int64) + ((1 : Int64) * ((rf 0).toInt64)))) 2 ((0 : Int64) + ((1 : Int64) * ((rf 1).toInt64)))) 4 ((0 : Int64) + ((1 : Int64) * ((rf 2).toInt64)))) 8 ((0 : Int64) + ((1 : Int64) * ((rf 3).toInt64))))))), (rl, .inr (1, [.ref rc, .int (1 : Int32), .int (8 : Int32)])), (rc, .inl (cI, 32, .inl rf))] := hD
        refine lv_aload_n hx hb d_MI_join_166 rfl (lv_at hl 7 rfl) ?_
        refine lv_dup hx hb d_MI_join_167 rfl ?_
        refine va_get (D := D) (ci := 2) (v := .int (0 : Int32)) (C := cn_MI) (T := ft_MI) (N := 3) hx hb hf_MI (fun _ h => h) hown hK hP 0 rfl rfl 2 (by decide) (gw.at G hx0 mw_66 rfl _) (fun _ h9 => h9) rfl d_MI_join_168 ?_
        refine lv_iconst (v := (1 : Int32)) hx hb d_MI_join_171 (by decide) ?_
        refine lv_iadd hx hb d_MI_join_172 ?_
        refine tp_i (y := (1 : Int32)) (by decide) ?_
        refine va_put (D := D) (ci := 2) (v := .int (1 : Int32)) (ty := .int) (C := cn_MI) (T := ft_MI) (N := 3) hx hb hf_MI (fun _ h => h) fy_MI fk_MI fn_MI hown hK hP hD hS 0 rfl rfl 2 (by decide) (gw.at G hx0 mw_66 rfl _) (fun _ h9 => h9) rfl (by decide +kernel) rfl rfl (Nat.le_of_ble_eq_true rfl) d_MI_join_173 (fun H locs hP hD hS => ?_)
        have hP : va_P D kl [(mi, .inr (2, [.ref nx, .ref cu, .int (1 : Int32)])), (cu, .inl (cJ, 16, .inr (.inl (vp_updL cf 0 (1 : Int64))))), (nx, .inl (cJ, 16, .inr (.inl (vp_updL (vp_updL (vp_updL (vp_updL nf 1 ((0 : Int64) + ((1 : Int64) * ((rf 0).toInt64)))) 2 ((0 : Int64) + ((1 : Int64) * ((rf 1).toInt64)))) 4 ((0 : Int64) + ((1 : Int64) * ((rf 2).toInt64)))) 8 ((0 : Int64) + ((1 : Int64) * ((rf 3).toInt64))))))), (rl, .inr (1, [.ref rc, .int (1 : Int32), .int (8 : Int32)])), (rc, .inl (cI, 32, .inl rf))] H := hP
        have hD : va_D A [(mi, .inr (2, [.ref nx, .ref cu, .int (1 : Int32)])), (cu, .inl (cJ, 16, .inr (.inl (vp_updL cf 0 (1 : Int64))))), (nx, .inl (cJ, 16, .inr (.inl (vp_updL (vp_updL (vp_updL (vp_updL nf 1 ((0 : Int64) + ((1 : Int64) * ((rf 0).toInt64)))) 2 ((0 : Int64) + ((1 : Int64) * ((rf 1).toInt64)))) 4 ((0 : Int64) + ((1 : Int64) * ((rf 2).toInt64)))) 8 ((0 : Int64) + ((1 : Int64) * ((rf 3).toInt64))))))), (rl, .inr (1, [.ref rc, .int (1 : Int32), .int (8 : Int32)])), (rc, .inl (cI, 32, .inl rf))] := hD
        exact tx_mono (fun _ h => tx_Z.of h) (W.vret hx hb hr (fun t ht hW => ⟨⟨[(mi, .inr (2, [.ref nx, .ref cu, .int (1 : Int32)])), (nx, .inl (cJ, 16, .inr (.inl (vp_updL (vp_updL (vp_updL (vp_updL nf 1 ((0 : Int64) + ((1 : Int64) * ((rf 0).toInt64)))) 2 ((0 : Int64) + ((1 : Int64) * ((rf 1).toInt64)))) 4 ((0 : Int64) + ((1 : Int64) * ((rf 2).toInt64)))) 8 ((0 : Int64) + ((1 : Int64) * ((rf 3).toInt64))))))), (cu, .inl (cJ, 16, .inr (.inl (vp_updL cf 0 (1 : Int64))))), (rl, .inr (1, [.ref rc, .int (1 : Int32), .int (8 : Int32)])), (rc, .inl (cI, 32, .inl rf))], ⟨nx, cu, (vp_updL (vp_updL (vp_updL (vp_updL nf 1 ((0 : Int64) + ((1 : Int64) * ((rf 0).toInt64)))) 2 ((0 : Int64) + ((1 : Int64) * ((rf 1).toInt64)))) 4 ((0 : Int64) + ((1 : Int64) * ((rf 2).toInt64)))) 8 ((0 : Int64) + ((1 : Int64) * ((rf 3).toInt64)))), (vp_updL cf 0 (1 : Int64)), (1 : Int32), rfl, rfl⟩, by rw [ht]; exact hP.sub [0, 2, 1, 3, 4] rfl, hD.sub [0, 2, 1, 3, 4] (by decide) rfl⟩, hS.F ht⟩) hS.2.2 d_MI_join_176)
    · refine lv_iconst (v := (1 : Int32)) hx hb d_MI_join_130 (by decide) ?_
      refine lv_goto (tgt := 135) hx hb d_MI_join_131 (by decide) ?_
      refine lv_istore_n (lv' := [(3, .int (1 : Int32)), (10, .int (-1 : Int32)), (9, .int (-1 : Int32)), (7, .long ((0 : Int64) + ((1 : Int64) * ((rf 1).toInt64)))), (6, .int (2 : Int32)), (5, .int (2 : Int32)), (4, .int (5 : Int32)), (0, .ref mi), (1, .ref rl), (2, .int (0 : Int32))]) hx hb d_MI_join_135 rfl hl (by decide) rfl (fun ls hl => ?_)
      refine lv_iinc (lv' := [(5, .int (3 : Int32)), (3, .int (1 : Int32)), (10, .int (-1 : Int32)), (9, .int (-1 : Int32)), (7, .long ((0 : Int64) + ((1 : Int64) * ((rf 1).toInt64)))), (6, .int (2 : Int32)), (4, .int (5 : Int32)), (0, .ref mi), (1, .ref rl), (2, .int (0 : Int32))]) (k := 5) (v := (3 : Int32)) hx hb d_MI_join_136 hl rfl (by decide) (by decide) rfl (fun ls hl => ?_)
      refine lv_goto (tgt := 26) hx hb d_MI_join_139 (by decide) ?_
      refine lv_iload hx hb d_MI_join_26 (lv_at hl 0 rfl) ?_
      refine lv_iload hx hb d_MI_join_28 (lv_at hl 6 rfl) ?_
      refine lv_icmp_ge (tgt := 142) hx hb d_MI_join_30 (by decide) (fun h99 => absurd h99 (by decide)) (fun _ => ?_)
      refine va_getsN hx hb hZC hS hown (gw.at G hx0 mw_62 rfl _) (fun _ h9 => h9) d_MI_join_33 ?_
      refine lv_iload hx hb d_MI_join_36 (lv_at hl 0 rfl) ?_
      refine va_ti hx hb hTC hS (vp_in_iff.mpr (by decide)) (v := .int (4 : Int32)) (by decide) d_MI_join_38 ?_
      refine lv_istore (lv' := [(6, .int (4 : Int32)), (5, .int (3 : Int32)), (3, .int (1 : Int32)), (10, .int (-1 : Int32)), (9, .int (-1 : Int32)), (7, .long ((0 : Int64) + ((1 : Int64) * ((rf 1).toInt64)))), (4, .int (5 : Int32)), (0, .ref mi), (1, .ref rl), (2, .int (0 : Int32))]) hx hb d_MI_join_39 hl (by decide) rfl (fun ls hl => ?_)
      refine lv_lconst (v := (0 : Int64)) hx hb d_MI_join_41 (by decide) ?_
      refine lv_lstore (lv' := [(7, .long (0 : Int64)), (6, .int (4 : Int32)), (5, .int (3 : Int32)), (3, .int (1 : Int32)), (10, .int (-1 : Int32)), (9, .int (-1 : Int32)), (4, .int (5 : Int32)), (0, .ref mi), (1, .ref rl), (2, .int (0 : Int32))]) hx hb d_MI_join_42 hl (by decide) rfl (fun ls hl => ?_)
      refine lv_iconst (v := (1 : Int32)) hx hb d_MI_join_44 (by decide) ?_
      refine lv_istore (lv' := [(9, .int (1 : Int32)), (7, .long (0 : Int64)), (6, .int (4 : Int32)), (5, .int (3 : Int32)), (3, .int (1 : Int32)), (10, .int (-1 : Int32)), (4, .int (5 : Int32)), (0, .ref mi), (1, .ref rl), (2, .int (0 : Int32))]) hx hb d_MI_join_45 hl (by decide) rfl (fun ls hl => ?_)
      refine lv_iconst (v := (3 : Int32)) hx hb d_MI_join_47 (by decide) ?_
      refine lv_istore (lv' := [(10, .int (3 : Int32)), (9, .int (1 : Int32)), (7, .long (0 : Int64)), (6, .int (4 : Int32)), (5, .int (3 : Int32)), (3, .int (1 : Int32)), (4, .int (5 : Int32)), (0, .ref mi), (1, .ref rl), (2, .int (0 : Int32))]) hx hb d_MI_join_48 hl (by decide) rfl (fun ls hl => ?_)
      refine lv_iload hx hb d_MI_join_50 (lv_at hl 0 rfl) ?_
      refine lv_if_lt (tgt := 110) hx hb d_MI_join_52 (by decide) (fun h99 => absurd h99 (by decide)) (fun _ => ?_)
      refine lv_iload hx hb d_MI_join_55 (lv_at hl 3 rfl) ?_
      refine lv_iload hx hb d_MI_join_57 (lv_at hl 0 rfl) ?_
      refine lv_ishr hx hb d_MI_join_59 ?_
      refine tp_i (y := (0 : Int32)) (by decide) ?_
      refine lv_iconst (v := (1 : Int32)) hx hb d_MI_join_60 (by decide) ?_
      refine lv_iand hx hb d_MI_join_61 ?_
      refine tp_i (y := (0 : Int32)) (by decide) ?_
      refine lv_if_eq (tgt := 104) hx hb d_MI_join_62 (by decide) (fun _ => ?_) (fun h99 => absurd h99 (by decide))
      refine lv_iinc (lv' := [(10, .int (2 : Int32)), (9, .int (1 : Int32)), (7, .long (0 : Int64)), (6, .int (4 : Int32)), (5, .int (3 : Int32)), (3, .int (1 : Int32)), (4, .int (5 : Int32)), (0, .ref mi), (1, .ref rl), (2, .int (0 : Int32))]) (k := 0) (v := (2 : Int32)) hx hb d_MI_join_104 hl rfl (by decide) (by decide) rfl (fun ls hl => ?_)
      refine lv_goto (tgt := 50) hx hb d_MI_join_107 (by decide) ?_
      refine lv_iload hx hb d_MI_join_50 (lv_at hl 0 rfl) ?_
      refine lv_if_lt (tgt := 110) hx hb d_MI_join_52 (by decide) (fun h99 => absurd h99 (by decide)) (fun _ => ?_)
      refine lv_iload hx hb d_MI_join_55 (lv_at hl 3 rfl) ?_
      refine lv_iload hx hb d_MI_join_57 (lv_at hl 0 rfl) ?_
      refine lv_ishr hx hb d_MI_join_59 ?_
      refine tp_i (y := (1 : Int32)) (by decide) ?_
      refine lv_iconst (v := (1 : Int32)) hx hb d_MI_join_60 (by decide) ?_
      refine lv_iand hx hb d_MI_join_61 ?_
      refine tp_i (y := (1 : Int32)) (by decide) ?_
      refine lv_if_eq (tgt := 104) hx hb d_MI_join_62 (by decide) (fun h99 => absurd h99 (by decide)) (fun _ => ?_)
      refine lv_lload hx hb d_MI_join_65 (lv_at hl 2 rfl) ?_
      refine lv_iload hx hb d_MI_join_67 (lv_at hl 1 rfl) ?_
      refine lv_i2l (v := (1 : Int64)) hx hb d_MI_join_69 (by decide) ?_
      refine lv_aload_n hx hb d_MI_join_70 rfl (lv_at hl 7 rfl) ?_
      refine va_get (D := D) (ci := 2) (v := .ref cu) (C := cn_MI) (T := ft_MI) (N := 3) hx hb hf_MI (fun _ h => h) hown hK hP 0 rfl rfl 0 (by decide) (gw.at G hx0 mw_64 rfl _) (fun _ h9 => h9) rfl d_MI_join_71 ?_
      refine lv_iload hx hb d_MI_join_74 (lv_at hl 3 rfl) ?_
      refine lv_iconst (v := (1 : Int32)) hx hb d_MI_join_76 (by decide) ?_
      refine lv_iload hx hb d_MI_join_77 (lv_at hl 0 rfl) ?_
      refine lv_ishl hx hb d_MI_join_79 ?_
      refine tp_i (y := (4 : Int32)) (by decide) ?_
      refine lv_ixor hx hb d_MI_join_80 ?_
      refine tp_i (y := (0 : Int32)) (by decide) ?_
      refine va_lald hx hb hK hP 1 1 rfl rfl (vp_in_iff.mpr (by decide)) d_MI_join_81 ?_
      refine tp_l (y := (1 : Int64)) (by rfl) ?_
      refine lv_lmul hx hb d_MI_join_82 ?_
      refine tp_l (y := (1 : Int64)) (by decide) ?_
      refine lv_aload_n hx hb d_MI_join_83 rfl (lv_at hl 8 rfl) ?_
      refine va_get (D := D) (ci := 1) (v := .ref rc) (C := cn_PL) (T := ft_PL) (N := 3) hx hb hf_PL (fun _ h => h) hown hK hP 3 rfl rfl 0 (by decide) (gw.at G hx0 mw_40 rfl _) (fun _ h9 => h9) rfl d_MI_join_84 ?_
      refine lv_iload_n hx hb d_MI_join_87 rfl (lv_at hl 9 rfl) ?_
      refine lv_iconst (v := (4 : Int32)) hx hb d_MI_join_88 (by decide) ?_
      refine lv_imul hx hb d_MI_join_89 ?_
      refine tp_i (y := (0 : Int32)) (by decide) ?_
      refine lv_iload hx hb d_MI_join_90 (lv_at hl 0 rfl) ?_
      refine lv_iadd hx hb d_MI_join_92 ?_
      refine tp_i (y := (2 : Int32)) (by decide) ?_
      refine va_iald hx hb hK hP 4 0 rfl rfl (vp_in_iff.mpr (by decide)) d_MI_join_93 ?_
      refine tp_i (y := rf 2) (by rfl) ?_
      refine lv_i2l (v := (rf 2).toInt64) hx hb d_MI_join_94 rfl ?_
      refine lv_lmul hx hb d_MI_join_95 ?_
      refine lv_ladd hx hb d_MI_join_96 ?_
      refine lv_lstore (lv' := [(7, .long ((0 : Int64) + ((1 : Int64) * ((rf 2).toInt64)))), (10, .int (2 : Int32)), (9, .int (1 : Int32)), (6, .int (4 : Int32)), (5, .int (3 : Int32)), (3, .int (1 : Int32)), (4, .int (5 : Int32)), (0, .ref mi), (1, .ref rl), (2, .int (0 : Int32))]) hx hb d_MI_join_97 hl (by decide) rfl (fun ls hl => ?_)
      refine lv_iload hx hb d_MI_join_99 (lv_at hl 2 rfl) ?_
      refine lv_ineg hx hb d_MI_join_101 ?_
      refine tp_i (y := (-1 : Int32)) (by decide) ?_
      refine lv_istore (lv' := [(9, .int (-1 : Int32)), (7, .long ((0 : Int64) + ((1 : Int64) * ((rf 2).toInt64)))), (10, .int (2 : Int32)), (6, .int (4 : Int32)), (5, .int (3 : Int32)), (3, .int (1 : Int32)), (4, .int (5 : Int32)), (0, .ref mi), (1, .ref rl), (2, .int (0 : Int32))]) hx hb d_MI_join_102 hl (by decide) rfl (fun ls hl => ?_)
      refine lv_iinc (lv' := [(10, .int (1 : Int32)), (9, .int (-1 : Int32)), (7, .long ((0 : Int64) + ((1 : Int64) * ((rf 2).toInt64)))), (6, .int (4 : Int32)), (5, .int (3 : Int32)), (3, .int (1 : Int32)), (4, .int (5 : Int32)), (0, .ref mi), (1, .ref rl), (2, .int (0 : Int32))]) (k := 2) (v := (1 : Int32)) hx hb d_MI_join_104 hl rfl (by decide) (by decide) rfl (fun ls hl => ?_)
      refine lv_goto (tgt := 50) hx hb d_MI_join_107 (by decide) ?_
      refine lv_iload hx hb d_MI_join_50 (lv_at hl 0 rfl) ?_
      refine lv_if_lt (tgt := 110) hx hb d_MI_join_52 (by decide) (fun h99 => absurd h99 (by decide)) (fun _ => ?_)
      refine lv_iload hx hb d_MI_join_55 (lv_at hl 3 rfl) ?_
      refine lv_iload hx hb d_MI_join_57 (lv_at hl 0 rfl) ?_
      refine lv_ishr hx hb d_MI_join_59 ?_
      refine tp_i (y := (2 : Int32)) (by decide) ?_
      refine lv_iconst (v := (1 : Int32)) hx hb d_MI_join_60 (by decide) ?_
      refine lv_iand hx hb d_MI_join_61 ?_
      refine tp_i (y := (0 : Int32)) (by decide) ?_
      refine lv_if_eq (tgt := 104) hx hb d_MI_join_62 (by decide) (fun _ => ?_) (fun h99 => absurd h99 (by decide))
      refine lv_iinc (lv' := [(10, .int (0 : Int32)), (9, .int (-1 : Int32)), (7, .long ((0 : Int64) + ((1 : Int64) * ((rf 2).toInt64)))), (6, .int (4 : Int32)), (5, .int (3 : Int32)), (3, .int (1 : Int32)), (4, .int (5 : Int32)), (0, .ref mi), (1, .ref rl), (2, .int (0 : Int32))]) (k := 0) (v := (0 : Int32)) hx hb d_MI_join_104 hl rfl (by decide) (by decide) rfl (fun ls hl => ?_)
      refine lv_goto (tgt := 50) hx hb d_MI_join_107 (by decide) ?_
      refine lv_iload hx hb d_MI_join_50 (lv_at hl 0 rfl) ?_
      refine lv_if_lt (tgt := 110) hx hb d_MI_join_52 (by decide) (fun h99 => absurd h99 (by decide)) (fun _ => ?_)
      refine lv_iload hx hb d_MI_join_55 (lv_at hl 3 rfl) ?_
      refine lv_iload hx hb d_MI_join_57 (lv_at hl 0 rfl) ?_
      refine lv_ishr hx hb d_MI_join_59 ?_
      refine tp_i (y := (4 : Int32)) (by decide) ?_
      refine lv_iconst (v := (1 : Int32)) hx hb d_MI_join_60 (by decide) ?_
      refine lv_iand hx hb d_MI_join_61 ?_
      refine tp_i (y := (0 : Int32)) (by decide) ?_
      refine lv_if_eq (tgt := 104) hx hb d_MI_join_62 (by decide) (fun _ => ?_) (fun h99 => absurd h99 (by decide))
      refine lv_iinc (lv' := [(10, .int (-1 : Int32)), (9, .int (-1 : Int32)), (7, .long ((0 : Int64) + ((1 : Int64) * ((rf 2).toInt64)))), (6, .int (4 : Int32)), (5, .int (3 : Int32)), (3, .int (1 : Int32)), (4, .int (5 : Int32)), (0, .ref mi), (1, .ref rl), (2, .int (0 : Int32))]) (k := 0) (v := (-1 : Int32)) hx hb d_MI_join_104 hl rfl (by decide) (by decide) rfl (fun ls hl => ?_)
      refine lv_goto (tgt := 50) hx hb d_MI_join_107 (by decide) ?_
      refine lv_iload hx hb d_MI_join_50 (lv_at hl 0 rfl) ?_
      refine lv_if_lt (tgt := 110) hx hb d_MI_join_52 (by decide) (fun _ => ?_) (fun h99 => absurd h99 (by decide))
      refine lv_aload_n hx hb d_MI_join_110 rfl (lv_at hl 7 rfl) ?_
      refine va_get (D := D) (ci := 2) (v := .ref nx) (C := cn_MI) (T := ft_MI) (N := 3) hx hb hf_MI (fun _ h => h) hown hK hP 0 rfl rfl 1 (by decide) (gw.at G hx0 mw_65 rfl _) (fun _ h9 => h9) rfl d_MI_join_111 ?_
      refine lv_iload hx hb d_MI_join_114 (lv_at hl 3 rfl) ?_
      refine lv_lload hx hb d_MI_join_116 (lv_at hl 2 rfl) ?_
      refine va_last hx hb hK hP hD hS 2 1 rfl rfl (vp_in_iff.mpr (by decide)) d_MI_join_118 (fun H locs hP hD hS => ?_)
      have hP : va_P D kl [(mi, .inr (2, [.ref cu, .ref nx, .int (0 : Int32)])), (cu, .inl (cJ, 16, .inr (.inl (vp_updL cf 0 (1 : Int64))))), (nx, .inl (cJ, 16, .inr (.inl (vp_updL (vp_updL (vp_updL nf 1 ((0 : Int64) + ((1 : Int64) * ((rf 0).toInt64)))) 2 ((0 : Int64) + ((1 : Int64) * ((rf 1).toInt64)))) 4 ((0 : Int64) + ((1 : Int64) * ((rf 2).toInt64))))))), (rl, .inr (1, [.ref rc, .int (1 : Int32), .int (8 : Int32)])), (rc, .inl (cI, 32, .inl rf))] H := hP
      have hD : va_D A [(mi, .inr (2, [.ref cu, .ref nx, .int (0 : Int32)])), (cu, .inl (cJ, 16, .inr (.inl (vp_updL cf 0 (1 : Int64))))), (nx, .inl (cJ, 16, .inr (.inl (vp_updL (vp_updL (vp_updL nf 1 ((0 : Int64) + ((1 : Int64) * ((rf 0).toInt64)))) 2 ((0 : Int64) + ((1 : Int64) * ((rf 1).toInt64)))) 4 ((0 : Int64) + ((1 : Int64) * ((rf 2).toInt64))))))), (rl, .inr (1, [.ref rc, .int (1 : Int32), .int (8 : Int32)])), (rc, .inl (cI, 32, .inl rf))] := hD
      refine lv_iload_n hx hb d_MI_join_119 rfl (lv_at hl 5 rfl) ?_
      refine lv_if_ne (tgt := 130) hx hb d_MI_join_120 (by decide) (fun _ => ?_) (fun h99 => absurd h99 (by decide))
      refine lv_iconst (v := (1 : Int32)) hx hb d_MI_join_130 (by decide) ?_
      refine lv_goto (tgt := 135) hx hb d_MI_join_131 (by decide) ?_
      refine lv_istore_n (lv' := [(3, .int (1 : Int32)), (10, .int (-1 : Int32)), (9, .int (-1 : Int32)), (7, .long ((0 : Int64) + ((1 : Int64) * ((rf 2).toInt64)))), (6, .int (4 : Int32)), (5, .int (3 : Int32)), (4, .int (5 : Int32)), (0, .ref mi), (1, .ref rl), (2, .int (0 : Int32))]) hx hb d_MI_join_135 rfl hl (by decide) rfl (fun ls hl => ?_)
      refine lv_iinc (lv' := [(5, .int (4 : Int32)), (3, .int (1 : Int32)), (10, .int (-1 : Int32)), (9, .int (-1 : Int32)), (7, .long ((0 : Int64) + ((1 : Int64) * ((rf 2).toInt64)))), (6, .int (4 : Int32)), (4, .int (5 : Int32)), (0, .ref mi), (1, .ref rl), (2, .int (0 : Int32))]) (k := 5) (v := (4 : Int32)) hx hb d_MI_join_136 hl rfl (by decide) (by decide) rfl (fun ls hl => ?_)
      refine lv_goto (tgt := 26) hx hb d_MI_join_139 (by decide) ?_
      refine lv_iload hx hb d_MI_join_26 (lv_at hl 0 rfl) ?_
      refine lv_iload hx hb d_MI_join_28 (lv_at hl 6 rfl) ?_
      refine lv_icmp_ge (tgt := 142) hx hb d_MI_join_30 (by decide) (fun h99 => absurd h99 (by decide)) (fun _ => ?_)
      refine va_getsN hx hb hZC hS hown (gw.at G hx0 mw_62 rfl _) (fun _ h9 => h9) d_MI_join_33 ?_
      refine lv_iload hx hb d_MI_join_36 (lv_at hl 0 rfl) ?_
      refine va_ti hx hb hTC hS (vp_in_iff.mpr (by decide)) (v := .int (8 : Int32)) (by decide) d_MI_join_38 ?_
      refine lv_istore (lv' := [(6, .int (8 : Int32)), (5, .int (4 : Int32)), (3, .int (1 : Int32)), (10, .int (-1 : Int32)), (9, .int (-1 : Int32)), (7, .long ((0 : Int64) + ((1 : Int64) * ((rf 2).toInt64)))), (4, .int (5 : Int32)), (0, .ref mi), (1, .ref rl), (2, .int (0 : Int32))]) hx hb d_MI_join_39 hl (by decide) rfl (fun ls hl => ?_)
      refine lv_lconst (v := (0 : Int64)) hx hb d_MI_join_41 (by decide) ?_
      refine lv_lstore (lv' := [(7, .long (0 : Int64)), (6, .int (8 : Int32)), (5, .int (4 : Int32)), (3, .int (1 : Int32)), (10, .int (-1 : Int32)), (9, .int (-1 : Int32)), (4, .int (5 : Int32)), (0, .ref mi), (1, .ref rl), (2, .int (0 : Int32))]) hx hb d_MI_join_42 hl (by decide) rfl (fun ls hl => ?_)
      refine lv_iconst (v := (1 : Int32)) hx hb d_MI_join_44 (by decide) ?_
      refine lv_istore (lv' := [(9, .int (1 : Int32)), (7, .long (0 : Int64)), (6, .int (8 : Int32)), (5, .int (4 : Int32)), (3, .int (1 : Int32)), (10, .int (-1 : Int32)), (4, .int (5 : Int32)), (0, .ref mi), (1, .ref rl), (2, .int (0 : Int32))]) hx hb d_MI_join_45 hl (by decide) rfl (fun ls hl => ?_)
      refine lv_iconst (v := (3 : Int32)) hx hb d_MI_join_47 (by decide) ?_
      refine lv_istore (lv' := [(10, .int (3 : Int32)), (9, .int (1 : Int32)), (7, .long (0 : Int64)), (6, .int (8 : Int32)), (5, .int (4 : Int32)), (3, .int (1 : Int32)), (4, .int (5 : Int32)), (0, .ref mi), (1, .ref rl), (2, .int (0 : Int32))]) hx hb d_MI_join_48 hl (by decide) rfl (fun ls hl => ?_)
      refine lv_iload hx hb d_MI_join_50 (lv_at hl 0 rfl) ?_
      refine lv_if_lt (tgt := 110) hx hb d_MI_join_52 (by decide) (fun h99 => absurd h99 (by decide)) (fun _ => ?_)
      refine lv_iload hx hb d_MI_join_55 (lv_at hl 3 rfl) ?_
      refine lv_iload hx hb d_MI_join_57 (lv_at hl 0 rfl) ?_
      refine lv_ishr hx hb d_MI_join_59 ?_
      refine tp_i (y := (1 : Int32)) (by decide) ?_
      refine lv_iconst (v := (1 : Int32)) hx hb d_MI_join_60 (by decide) ?_
      refine lv_iand hx hb d_MI_join_61 ?_
      refine tp_i (y := (1 : Int32)) (by decide) ?_
      refine lv_if_eq (tgt := 104) hx hb d_MI_join_62 (by decide) (fun h99 => absurd h99 (by decide)) (fun _ => ?_)
      refine lv_lload hx hb d_MI_join_65 (lv_at hl 2 rfl) ?_
      refine lv_iload hx hb d_MI_join_67 (lv_at hl 1 rfl) ?_
      refine lv_i2l (v := (1 : Int64)) hx hb d_MI_join_69 (by decide) ?_
      refine lv_aload_n hx hb d_MI_join_70 rfl (lv_at hl 7 rfl) ?_
      refine va_get (D := D) (ci := 2) (v := .ref cu) (C := cn_MI) (T := ft_MI) (N := 3) hx hb hf_MI (fun _ h => h) hown hK hP 0 rfl rfl 0 (by decide) (gw.at G hx0 mw_64 rfl _) (fun _ h9 => h9) rfl d_MI_join_71 ?_
      refine lv_iload hx hb d_MI_join_74 (lv_at hl 3 rfl) ?_
      refine lv_iconst (v := (1 : Int32)) hx hb d_MI_join_76 (by decide) ?_
      refine lv_iload hx hb d_MI_join_77 (lv_at hl 0 rfl) ?_
      refine lv_ishl hx hb d_MI_join_79 ?_
      refine tp_i (y := (8 : Int32)) (by decide) ?_
      refine lv_ixor hx hb d_MI_join_80 ?_
      refine tp_i (y := (0 : Int32)) (by decide) ?_
      refine va_lald hx hb hK hP 1 1 rfl rfl (vp_in_iff.mpr (by decide)) d_MI_join_81 ?_
      refine tp_l (y := (1 : Int64)) (by rfl) ?_
      refine lv_lmul hx hb d_MI_join_82 ?_
      refine tp_l (y := (1 : Int64)) (by decide) ?_
      refine lv_aload_n hx hb d_MI_join_83 rfl (lv_at hl 8 rfl) ?_
      refine va_get (D := D) (ci := 1) (v := .ref rc) (C := cn_PL) (T := ft_PL) (N := 3) hx hb hf_PL (fun _ h => h) hown hK hP 3 rfl rfl 0 (by decide) (gw.at G hx0 mw_40 rfl _) (fun _ h9 => h9) rfl d_MI_join_84 ?_
      refine lv_iload_n hx hb d_MI_join_87 rfl (lv_at hl 9 rfl) ?_
      refine lv_iconst (v := (4 : Int32)) hx hb d_MI_join_88 (by decide) ?_
      refine lv_imul hx hb d_MI_join_89 ?_
      refine tp_i (y := (0 : Int32)) (by decide) ?_
      refine lv_iload hx hb d_MI_join_90 (lv_at hl 0 rfl) ?_
      refine lv_iadd hx hb d_MI_join_92 ?_
      refine tp_i (y := (3 : Int32)) (by decide) ?_
      refine va_iald hx hb hK hP 4 0 rfl rfl (vp_in_iff.mpr (by decide)) d_MI_join_93 ?_
      refine tp_i (y := rf 3) (by rfl) ?_
      refine lv_i2l (v := (rf 3).toInt64) hx hb d_MI_join_94 rfl ?_
      refine lv_lmul hx hb d_MI_join_95 ?_
      refine lv_ladd hx hb d_MI_join_96 ?_
      refine lv_lstore (lv' := [(7, .long ((0 : Int64) + ((1 : Int64) * ((rf 3).toInt64)))), (10, .int (3 : Int32)), (9, .int (1 : Int32)), (6, .int (8 : Int32)), (5, .int (4 : Int32)), (3, .int (1 : Int32)), (4, .int (5 : Int32)), (0, .ref mi), (1, .ref rl), (2, .int (0 : Int32))]) hx hb d_MI_join_97 hl (by decide) rfl (fun ls hl => ?_)
      refine lv_iload hx hb d_MI_join_99 (lv_at hl 2 rfl) ?_
      refine lv_ineg hx hb d_MI_join_101 ?_
      refine tp_i (y := (-1 : Int32)) (by decide) ?_
      refine lv_istore (lv' := [(9, .int (-1 : Int32)), (7, .long ((0 : Int64) + ((1 : Int64) * ((rf 3).toInt64)))), (10, .int (3 : Int32)), (6, .int (8 : Int32)), (5, .int (4 : Int32)), (3, .int (1 : Int32)), (4, .int (5 : Int32)), (0, .ref mi), (1, .ref rl), (2, .int (0 : Int32))]) hx hb d_MI_join_102 hl (by decide) rfl (fun ls hl => ?_)
      refine lv_iinc (lv' := [(10, .int (2 : Int32)), (9, .int (-1 : Int32)), (7, .long ((0 : Int64) + ((1 : Int64) * ((rf 3).toInt64)))), (6, .int (8 : Int32)), (5, .int (4 : Int32)), (3, .int (1 : Int32)), (4, .int (5 : Int32)), (0, .ref mi), (1, .ref rl), (2, .int (0 : Int32))]) (k := 2) (v := (2 : Int32)) hx hb d_MI_join_104 hl rfl (by decide) (by decide) rfl (fun ls hl => ?_)
      refine lv_goto (tgt := 50) hx hb d_MI_join_107 (by decide) ?_
      refine lv_iload hx hb d_MI_join_50 (lv_at hl 0 rfl) ?_
      refine lv_if_lt (tgt := 110) hx hb d_MI_join_52 (by decide) (fun h99 => absurd h99 (by decide)) (fun _ => ?_)
      refine lv_iload hx hb d_MI_join_55 (lv_at hl 3 rfl) ?_
      refine lv_iload hx hb d_MI_join_57 (lv_at hl 0 rfl) ?_
      refine lv_ishr hx hb d_MI_join_59 ?_
      refine tp_i (y := (2 : Int32)) (by decide) ?_
      refine lv_iconst (v := (1 : Int32)) hx hb d_MI_join_60 (by decide) ?_
      refine lv_iand hx hb d_MI_join_61 ?_
      refine tp_i (y := (0 : Int32)) (by decide) ?_
      refine lv_if_eq (tgt := 104) hx hb d_MI_join_62 (by decide) (fun _ => ?_) (fun h99 => absurd h99 (by decide))
      refine lv_iinc (lv' := [(10, .int (1 : Int32)), (9, .int (-1 : Int32)), (7, .long ((0 : Int64) + ((1 : Int64) * ((rf 3).toInt64)))), (6, .int (8 : Int32)), (5, .int (4 : Int32)), (3, .int (1 : Int32)), (4, .int (5 : Int32)), (0, .ref mi), (1, .ref rl), (2, .int (0 : Int32))]) (k := 0) (v := (1 : Int32)) hx hb d_MI_join_104 hl rfl (by decide) (by decide) rfl (fun ls hl => ?_)
      refine lv_goto (tgt := 50) hx hb d_MI_join_107 (by decide) ?_
      refine lv_iload hx hb d_MI_join_50 (lv_at hl 0 rfl) ?_
      refine lv_if_lt (tgt := 110) hx hb d_MI_join_52 (by decide) (fun h99 => absurd h99 (by decide)) (fun _ => ?_)
      refine lv_iload hx hb d_MI_join_55 (lv_at hl 3 rfl) ?_
      refine lv_iload hx hb d_MI_join_57 (lv_at hl 0 rfl) ?_
      refine lv_ishr hx hb d_MI_join_59 ?_
      refine tp_i (y := (4 : Int32)) (by decide) ?_
      refine lv_iconst (v := (1 : Int32)) hx hb d_MI_join_60 (by decide) ?_
      refine lv_iand hx hb d_MI_join_61 ?_
      refine tp_i (y := (0 : Int32)) (by decide) ?_
      refine lv_if_eq (tgt := 104) hx hb d_MI_join_62 (by decide) (fun _ => ?_) (fun h99 => absurd h99 (by decide))
      refine lv_iinc (lv' := [(10, .int (0 : Int32)), (9, .int (-1 : Int32)), (7, .long ((0 : Int64) + ((1 : Int64) * ((rf 3).toInt64)))), (6, .int (8 : Int32)), (5, .int (4 : Int32)), (3, .int (1 : Int32)), (4, .int (5 : Int32)), (0, .ref mi), (1, .ref rl), (2, .int (0 : Int32))]) (k := 0) (v := (0 : Int32)) hx hb d_MI_join_104 hl rfl (by decide) (by decide) rfl (fun ls hl => ?_)
      refine lv_goto (tgt := 50) hx hb d_MI_join_107 (by decide) ?_
      refine lv_iload hx hb d_MI_join_50 (lv_at hl 0 rfl) ?_
      refine lv_if_lt (tgt := 110) hx hb d_MI_join_52 (by decide) (fun h99 => absurd h99 (by decide)) (fun _ => ?_)
      refine lv_iload hx hb d_MI_join_55 (lv_at hl 3 rfl) ?_
      refine lv_iload hx hb d_MI_join_57 (lv_at hl 0 rfl) ?_
      refine lv_ishr hx hb d_MI_join_59 ?_
      refine tp_i (y := (8 : Int32)) (by decide) ?_
      refine lv_iconst (v := (1 : Int32)) hx hb d_MI_join_60 (by decide) ?_
      refine lv_iand hx hb d_MI_join_61 ?_
      refine tp_i (y := (0 : Int32)) (by decide) ?_
      refine lv_if_eq (tgt := 104) hx hb d_MI_join_62 (by decide) (fun _ => ?_) (fun h99 => absurd h99 (by decide))
      refine lv_iinc (lv' := [(10, .int (-1 : Int32)), (9, .int (-1 : Int32)), (7, .long ((0 : Int64) + ((1 : Int64) * ((rf 3).toInt64)))), (6, .int (8 : Int32)), (5, .int (4 : Int32)), (3, .int (1 : Int32)), (4, .int (5 : Int32)), (0, .ref mi), (1, .ref rl), (2, .int (0 : Int32))]) (k := 0) (v := (-1 : Int32)) hx hb d_MI_join_104 hl rfl (by decide) (by decide) rfl (fun ls hl => ?_)
      refine lv_goto (tgt := 50) hx hb d_MI_join_107 (by decide) ?_
      refine lv_iload hx hb d_MI_join_50 (lv_at hl 0 rfl) ?_
      refine lv_if_lt (tgt := 110) hx hb d_MI_join_52 (by decide) (fun _ => ?_) (fun h99 => absurd h99 (by decide))
      refine lv_aload_n hx hb d_MI_join_110 rfl (lv_at hl 7 rfl) ?_
      refine va_get (D := D) (ci := 2) (v := .ref nx) (C := cn_MI) (T := ft_MI) (N := 3) hx hb hf_MI (fun _ h => h) hown hK hP 0 rfl rfl 1 (by decide) (gw.at G hx0 mw_65 rfl _) (fun _ h9 => h9) rfl d_MI_join_111 ?_
      refine lv_iload hx hb d_MI_join_114 (lv_at hl 3 rfl) ?_
      refine lv_lload hx hb d_MI_join_116 (lv_at hl 2 rfl) ?_
      refine va_last hx hb hK hP hD hS 2 1 rfl rfl (vp_in_iff.mpr (by decide)) d_MI_join_118 (fun H locs hP hD hS => ?_)
      have hP : va_P D kl [(mi, .inr (2, [.ref cu, .ref nx, .int (0 : Int32)])), (cu, .inl (cJ, 16, .inr (.inl (vp_updL cf 0 (1 : Int64))))), (nx, .inl (cJ, 16, .inr (.inl (vp_updL (vp_updL (vp_updL (vp_updL nf 1 ((0 : Int64) + ((1 : Int64) * ((rf 0).toInt64)))) 2 ((0 : Int64) + ((1 : Int64) * ((rf 1).toInt64)))) 4 ((0 : Int64) + ((1 : Int64) * ((rf 2).toInt64)))) 8 ((0 : Int64) + ((1 : Int64) * ((rf 3).toInt64))))))), (rl, .inr (1, [.ref rc, .int (1 : Int32), .int (8 : Int32)])), (rc, .inl (cI, 32, .inl rf))] H := hP
      have hD : va_D A [(mi, .inr (2, [.ref cu, .ref nx, .int (0 : Int32)])), (cu, .inl (cJ, 16, .inr (.inl (vp_updL cf 0 (1 : Int64))))), (nx, .inl (cJ, 16, .inr (.inl (vp_updL (vp_updL (vp_updL (vp_updL nf 1 ((0 : Int64) + ((1 : Int64) * ((rf 0).toInt64)))) 2 ((0 : Int64) + ((1 : Int64) * ((rf 1).toInt64)))) 4 ((0 : Int64) + ((1 : Int64) * ((rf 2).toInt64)))) 8 ((0 : Int64) + ((1 : Int64) * ((rf 3).toInt64))))))), (rl, .inr (1, [.ref rc, .int (1 : Int32), .int (8 : Int32)])), (rc, .inl (cI, 32, .inl rf))] := hD
      refine lv_iload_n hx hb d_MI_join_119 rfl (lv_at hl 5 rfl) ?_
      refine lv_if_ne (tgt := 130) hx hb d_MI_join_120 (by decide) (fun _ => ?_) (fun h99 => absurd h99 (by decide))
      refine lv_iconst (v := (1 : Int32)) hx hb d_MI_join_130 (by decide) ?_
      refine lv_goto (tgt := 135) hx hb d_MI_join_131 (by decide) ?_
      refine lv_istore_n (lv' := [(3, .int (1 : Int32)), (10, .int (-1 : Int32)), (9, .int (-1 : Int32)), (7, .long ((0 : Int64) + ((1 : Int64) * ((rf 3).toInt64)))), (6, .int (8 : Int32)), (5, .int (4 : Int32)), (4, .int (5 : Int32)), (0, .ref mi), (1, .ref rl), (2, .int (0 : Int32))]) hx hb d_MI_join_135 rfl hl (by decide) rfl (fun ls hl => ?_)
      refine lv_iinc (lv' := [(5, .int (5 : Int32)), (3, .int (1 : Int32)), (10, .int (-1 : Int32)), (9, .int (-1 : Int32)), (7, .long ((0 : Int64) + ((1 : Int64) * ((rf 3).toInt64)))), (6, .int (8 : Int32)), (4, .int (5 : Int32)), (0, .ref mi), (1, .ref rl), (2, .int (0 : Int32))]) (k := 5) (v := (5 : Int32)) hx hb d_MI_join_136 hl rfl (by decide) (by decide) rfl (fun ls hl => ?_)
      refine lv_goto (tgt := 26) hx hb d_MI_join_139 (by decide) ?_
      refine lv_iload hx hb d_MI_join_26 (lv_at hl 0 rfl) ?_
      refine lv_iload hx hb d_MI_join_28 (lv_at hl 6 rfl) ?_
      refine lv_icmp_ge (tgt := 142) hx hb d_MI_join_30 (by decide) (fun _ => ?_) (fun h99 => absurd h99 (by decide))
      refine lv_iload_n hx hb d_MI_join_142 rfl (lv_at hl 1 rfl) ?_
      refine lv_if_eq (tgt := 176) hx hb d_MI_join_143 (by decide) (fun h99 => absurd h99 (by decide)) (fun _ => ?_)
      refine lv_aload_n hx hb d_MI_join_146 rfl (lv_at hl 7 rfl) ?_
      refine va_get (D := D) (ci := 2) (v := .ref cu) (C := cn_MI) (T := ft_MI) (N := 3) hx hb hf_MI (fun _ h => h) hown hK hP 0 rfl rfl 0 (by decide) (gw.at G hx0 mw_64 rfl _) (fun _ h9 => h9) rfl d_MI_join_147 ?_
      refine lv_astore (lv' := [(5, .ref cu), (3, .int (1 : Int32)), (10, .int (-1 : Int32)), (9, .int (-1 : Int32)), (7, .long ((0 : Int64) + ((1 : Int64) * ((rf 3).toInt64)))), (6, .int (8 : Int32)), (4, .int (5 : Int32)), (0, .ref mi), (1, .ref rl), (2, .int (0 : Int32))]) hx hb d_MI_join_150 hl (by decide) rfl (fun ls hl => ?_)
      refine lv_aload_n hx hb d_MI_join_152 rfl (lv_at hl 7 rfl) ?_
      refine lv_aload_n hx hb d_MI_join_153 rfl (lv_at hl 7 rfl) ?_
      refine va_get (D := D) (ci := 2) (v := .ref nx) (C := cn_MI) (T := ft_MI) (N := 3) hx hb hf_MI (fun _ h => h) hown hK hP 0 rfl rfl 1 (by decide) (gw.at G hx0 mw_65 rfl _) (fun _ h9 => h9) rfl d_MI_join_154 ?_
      refine va_put (D := D) (ci := 2) (v := .ref nx) (ty := .array .long) (C := cn_MI) (T := ft_MI) (N := 3) hx hb hf_MI (fun _ h => h) fy_MI fk_MI fn_MI hown hK hP hD hS 0 rfl rfl 0 (by decide) (gw.at G hx0 mw_64 rfl _) (fun _ h9 => h9) rfl (by decide +kernel) rfl rfl (Nat.le_of_ble_eq_true rfl) d_MI_join_157 (fun H locs hP hD hS => ?_)
      have hP : va_P D kl [(mi, .inr (2, [.ref nx, .ref nx, .int (0 : Int32)])), (cu, .inl (cJ, 16, .inr (.inl (vp_updL cf 0 (1 : Int64))))), (nx, .inl (cJ, 16, .inr (.inl (vp_updL (vp_updL (vp_updL (vp_updL nf 1 ((0 : Int64) + ((1 : Int64) * ((rf 0).toInt64)))) 2 ((0 : Int64) + ((1 : Int64) * ((rf 1).toInt64)))) 4 ((0 : Int64) + ((1 : Int64) * ((rf 2).toInt64)))) 8 ((0 : Int64) + ((1 : Int64) * ((rf 3).toInt64))))))), (rl, .inr (1, [.ref rc, .int (1 : Int32), .int (8 : Int32)])), (rc, .inl (cI, 32, .inl rf))] H := hP
      have hD : va_D A [(mi, .inr (2, [.ref nx, .ref nx, .int (0 : Int32)])), (cu, .inl (cJ, 16, .inr (.inl (vp_updL cf 0 (1 : Int64))))), (nx, .inl (cJ, 16, .inr (.inl (vp_updL (vp_updL (vp_updL (vp_updL nf 1 ((0 : Int64) + ((1 : Int64) * ((rf 0).toInt64)))) 2 ((0 : Int64) + ((1 : Int64) * ((rf 1).toInt64)))) 4 ((0 : Int64) + ((1 : Int64) * ((rf 2).toInt64)))) 8 ((0 : Int64) + ((1 : Int64) * ((rf 3).toInt64))))))), (rl, .inr (1, [.ref rc, .int (1 : Int32), .int (8 : Int32)])), (rc, .inl (cI, 32, .inl rf))] := hD
      refine lv_aload_n hx hb d_MI_join_160 rfl (lv_at hl 7 rfl) ?_
      refine lv_aload hx hb d_MI_join_161 (lv_at hl 0 rfl) ?_
      refine va_put (D := D) (ci := 2) (v := .ref cu) (ty := .array .long) (C := cn_MI) (T := ft_MI) (N := 3) hx hb hf_MI (fun _ h => h) fy_MI fk_MI fn_MI hown hK hP hD hS 0 rfl rfl 1 (by decide) (gw.at G hx0 mw_65 rfl _) (fun _ h9 => h9) rfl (by decide +kernel) rfl rfl (Nat.le_of_ble_eq_true rfl) d_MI_join_163 (fun H locs hP hD hS => ?_)
      have hP : va_P D kl [(mi, .inr (2, [.ref nx, .ref cu, .int (0 : Int32)])), (cu, .inl (cJ, 16, .inr (.inl (vp_updL cf 0 (1 : Int64))))), (nx, .inl (cJ, 16, .inr (.inl (vp_updL (vp_updL (vp_updL (vp_updL nf 1 ((0 : Int64) + ((1 : Int64) * ((rf 0).toInt64)))) 2 ((0 : Int64) + ((1 : Int64) * ((rf 1).toInt64)))) 4 ((0 : Int64) + ((1 : Int64) * ((rf 2).toInt64)))) 8 ((0 : Int64) + ((1 : Int64) * ((rf 3).toInt64))))))), (rl, .inr (1, [.ref rc, .int (1 : Int32), .int (8 : Int32)])), (rc, .inl (cI, 32, .inl rf))] H := hP
      have hD : va_D A [(mi, .inr (2, [.ref nx, .ref cu, .int (0 : Int32)])), (cu, .inl (cJ, 16, .inr (.inl (vp_updL cf 0 (1 : Int64))))), (nx, .inl (cJ, 16, .inr (.inl (vp_updL (vp_updL (vp_updL (vp_updL nf 1 ((0 : Int64) + ((1 : Int64) * ((rf 0).toInt64)))) 2 ((0 : Int64) + ((1 : Int64) * ((rf 1).toInt64)))) 4 ((0 : Int64) + ((1 : Int64) * ((rf 2).toInt64)))) 8 ((0 : Int64) + ((1 : Int64) * ((rf 3).toInt64))))))), (rl, .inr (1, [.ref rc, .int (1 : Int32), .int (8 : Int32)])), (rc, .inl (cI, 32, .inl rf))] := hD
      refine lv_aload_n hx hb d_MI_join_166 rfl (lv_at hl 7 rfl) ?_
      refine lv_dup hx hb d_MI_join_167 rfl ?_
      refine va_get (D := D) (ci := 2) (v := .int (0 : Int32)) (C := cn_MI) (T := ft_MI) (N := 3) hx hb hf_MI (fun _ h => h) hown hK hP 0 rfl rfl 2 (by decide) (gw.at G hx0 mw_66 rfl _) (fun _ h9 => h9) rfl d_MI_join_168 ?_
      refine lv_iconst (v := (1 : Int32)) hx hb d_MI_join_171 (by decide) ?_
      refine lv_iadd hx hb d_MI_join_172 ?_
      refine tp_i (y := (1 : Int32)) (by decide) ?_
      refine va_put (D := D) (ci := 2) (v := .int (1 : Int32)) (ty := .int) (C := cn_MI) (T := ft_MI) (N := 3) hx hb hf_MI (fun _ h => h) fy_MI fk_MI fn_MI hown hK hP hD hS 0 rfl rfl 2 (by decide) (gw.at G hx0 mw_66 rfl _) (fun _ h9 => h9) rfl (by decide +kernel) rfl rfl (Nat.le_of_ble_eq_true rfl) d_MI_join_173 (fun H locs hP hD hS => ?_)
      have hP : va_P D kl [(mi, .inr (2, [.ref nx, .ref cu, .int (1 : Int32)])), (cu, .inl (cJ, 16, .inr (.inl (vp_updL cf 0 (1 : Int64))))), (nx, .inl (cJ, 16, .inr (.inl (vp_updL (vp_updL (vp_updL (vp_updL nf 1 ((0 : Int64) + ((1 : Int64) * ((rf 0).toInt64)))) 2 ((0 : Int64) + ((1 : Int64) * ((rf 1).toInt64)))) 4 ((0 : Int64) + ((1 : Int64) * ((rf 2).toInt64)))) 8 ((0 : Int64) + ((1 : Int64) * ((rf 3).toInt64))))))), (rl, .inr (1, [.ref rc, .int (1 : Int32), .int (8 : Int32)])), (rc, .inl (cI, 32, .inl rf))] H := hP
      have hD : va_D A [(mi, .inr (2, [.ref nx, .ref cu, .int (1 : Int32)])), (cu, .inl (cJ, 16, .inr (.inl (vp_updL cf 0 (1 : Int64))))), (nx, .inl (cJ, 16, .inr (.inl (vp_updL (vp_updL (vp_updL (vp_updL nf 1 ((0 : Int64) + ((1 : Int64) * ((rf 0).toInt64)))) 2 ((0 : Int64) + ((1 : Int64) * ((rf 1).toInt64)))) 4 ((0 : Int64) + ((1 : Int64) * ((rf 2).toInt64)))) 8 ((0 : Int64) + ((1 : Int64) * ((rf 3).toInt64))))))), (rl, .inr (1, [.ref rc, .int (1 : Int32), .int (8 : Int32)])), (rc, .inl (cI, 32, .inl rf))] := hD
      exact tx_mono (fun _ h => tx_Z.of h) (W.vret hx hb hr (fun t ht hW => ⟨⟨[(mi, .inr (2, [.ref nx, .ref cu, .int (1 : Int32)])), (nx, .inl (cJ, 16, .inr (.inl (vp_updL (vp_updL (vp_updL (vp_updL nf 1 ((0 : Int64) + ((1 : Int64) * ((rf 0).toInt64)))) 2 ((0 : Int64) + ((1 : Int64) * ((rf 1).toInt64)))) 4 ((0 : Int64) + ((1 : Int64) * ((rf 2).toInt64)))) 8 ((0 : Int64) + ((1 : Int64) * ((rf 3).toInt64))))))), (cu, .inl (cJ, 16, .inr (.inl (vp_updL cf 0 (1 : Int64))))), (rl, .inr (1, [.ref rc, .int (1 : Int32), .int (8 : Int32)])), (rc, .inl (cI, 32, .inl rf))], ⟨nx, cu, (vp_updL (vp_updL (vp_updL (vp_updL nf 1 ((0 : Int64) + ((1 : Int64) * ((rf 0).toInt64)))) 2 ((0 : Int64) + ((1 : Int64) * ((rf 1).toInt64)))) 4 ((0 : Int64) + ((1 : Int64) * ((rf 2).toInt64)))) 8 ((0 : Int64) + ((1 : Int64) * ((rf 3).toInt64)))), (vp_updL cf 0 (1 : Int64)), (1 : Int32), rfl, rfl⟩, by rw [ht]; exact hP.sub [0, 2, 1, 3, 4] rfl, hD.sub [0, 2, 1, 3, 4] (by decide) rfl⟩, hS.F ht⟩) hS.2.2 d_MI_join_176)
  · refine lv_iconst (v := (1 : Int32)) hx hb d_MI_join_130 (by decide) ?_
    refine lv_goto (tgt := 135) hx hb d_MI_join_131 (by decide) ?_
    refine lv_istore_n (lv' := [(3, .int (1 : Int32)), (10, .int (-1 : Int32)), (9, .int (-1 : Int32)), (7, .long ((0 : Int64) + ((1 : Int64) * ((rf 0).toInt64)))), (6, .int (1 : Int32)), (5, .int (1 : Int32)), (4, .int (5 : Int32)), (0, .ref mi), (1, .ref rl), (2, .int (0 : Int32))]) hx hb d_MI_join_135 rfl hl (by decide) rfl (fun ls hl => ?_)
    refine lv_iinc (lv' := [(5, .int (2 : Int32)), (3, .int (1 : Int32)), (10, .int (-1 : Int32)), (9, .int (-1 : Int32)), (7, .long ((0 : Int64) + ((1 : Int64) * ((rf 0).toInt64)))), (6, .int (1 : Int32)), (4, .int (5 : Int32)), (0, .ref mi), (1, .ref rl), (2, .int (0 : Int32))]) (k := 5) (v := (2 : Int32)) hx hb d_MI_join_136 hl rfl (by decide) (by decide) rfl (fun ls hl => ?_)
    refine lv_goto (tgt := 26) hx hb d_MI_join_139 (by decide) ?_
    refine lv_iload hx hb d_MI_join_26 (lv_at hl 0 rfl) ?_
    refine lv_iload hx hb d_MI_join_28 (lv_at hl 6 rfl) ?_
    refine lv_icmp_ge (tgt := 142) hx hb d_MI_join_30 (by decide) (fun h99 => absurd h99 (by decide)) (fun _ => ?_)
    refine va_getsN hx hb hZC hS hown (gw.at G hx0 mw_62 rfl _) (fun _ h9 => h9) d_MI_join_33 ?_
    refine lv_iload hx hb d_MI_join_36 (lv_at hl 0 rfl) ?_
    refine va_ti hx hb hTC hS (vp_in_iff.mpr (by decide)) (v := .int (2 : Int32)) (by decide) d_MI_join_38 ?_
    refine lv_istore (lv' := [(6, .int (2 : Int32)), (5, .int (2 : Int32)), (3, .int (1 : Int32)), (10, .int (-1 : Int32)), (9, .int (-1 : Int32)), (7, .long ((0 : Int64) + ((1 : Int64) * ((rf 0).toInt64)))), (4, .int (5 : Int32)), (0, .ref mi), (1, .ref rl), (2, .int (0 : Int32))]) hx hb d_MI_join_39 hl (by decide) rfl (fun ls hl => ?_)
    refine lv_lconst (v := (0 : Int64)) hx hb d_MI_join_41 (by decide) ?_
    refine lv_lstore (lv' := [(7, .long (0 : Int64)), (6, .int (2 : Int32)), (5, .int (2 : Int32)), (3, .int (1 : Int32)), (10, .int (-1 : Int32)), (9, .int (-1 : Int32)), (4, .int (5 : Int32)), (0, .ref mi), (1, .ref rl), (2, .int (0 : Int32))]) hx hb d_MI_join_42 hl (by decide) rfl (fun ls hl => ?_)
    refine lv_iconst (v := (1 : Int32)) hx hb d_MI_join_44 (by decide) ?_
    refine lv_istore (lv' := [(9, .int (1 : Int32)), (7, .long (0 : Int64)), (6, .int (2 : Int32)), (5, .int (2 : Int32)), (3, .int (1 : Int32)), (10, .int (-1 : Int32)), (4, .int (5 : Int32)), (0, .ref mi), (1, .ref rl), (2, .int (0 : Int32))]) hx hb d_MI_join_45 hl (by decide) rfl (fun ls hl => ?_)
    refine lv_iconst (v := (3 : Int32)) hx hb d_MI_join_47 (by decide) ?_
    refine lv_istore (lv' := [(10, .int (3 : Int32)), (9, .int (1 : Int32)), (7, .long (0 : Int64)), (6, .int (2 : Int32)), (5, .int (2 : Int32)), (3, .int (1 : Int32)), (4, .int (5 : Int32)), (0, .ref mi), (1, .ref rl), (2, .int (0 : Int32))]) hx hb d_MI_join_48 hl (by decide) rfl (fun ls hl => ?_)
    refine lv_iload hx hb d_MI_join_50 (lv_at hl 0 rfl) ?_
    refine lv_if_lt (tgt := 110) hx hb d_MI_join_52 (by decide) (fun h99 => absurd h99 (by decide)) (fun _ => ?_)
    refine lv_iload hx hb d_MI_join_55 (lv_at hl 3 rfl) ?_
    refine lv_iload hx hb d_MI_join_57 (lv_at hl 0 rfl) ?_
    refine lv_ishr hx hb d_MI_join_59 ?_
    refine tp_i (y := (0 : Int32)) (by decide) ?_
    refine lv_iconst (v := (1 : Int32)) hx hb d_MI_join_60 (by decide) ?_
    refine lv_iand hx hb d_MI_join_61 ?_
    refine tp_i (y := (0 : Int32)) (by decide) ?_
    refine lv_if_eq (tgt := 104) hx hb d_MI_join_62 (by decide) (fun _ => ?_) (fun h99 => absurd h99 (by decide))
    refine lv_iinc (lv' := [(10, .int (2 : Int32)), (9, .int (1 : Int32)), (7, .long (0 : Int64)), (6, .int (2 : Int32)), (5, .int (2 : Int32)), (3, .int (1 : Int32)), (4, .int (5 : Int32)), (0, .ref mi), (1, .ref rl), (2, .int (0 : Int32))]) (k := 0) (v := (2 : Int32)) hx hb d_MI_join_104 hl rfl (by decide) (by decide) rfl (fun ls hl => ?_)
    refine lv_goto (tgt := 50) hx hb d_MI_join_107 (by decide) ?_
    refine lv_iload hx hb d_MI_join_50 (lv_at hl 0 rfl) ?_
    refine lv_if_lt (tgt := 110) hx hb d_MI_join_52 (by decide) (fun h99 => absurd h99 (by decide)) (fun _ => ?_)
    refine lv_iload hx hb d_MI_join_55 (lv_at hl 3 rfl) ?_
    refine lv_iload hx hb d_MI_join_57 (lv_at hl 0 rfl) ?_
    refine lv_ishr hx hb d_MI_join_59 ?_
    refine tp_i (y := (0 : Int32)) (by decide) ?_
    refine lv_iconst (v := (1 : Int32)) hx hb d_MI_join_60 (by decide) ?_
    refine lv_iand hx hb d_MI_join_61 ?_
    refine tp_i (y := (0 : Int32)) (by decide) ?_
    refine lv_if_eq (tgt := 104) hx hb d_MI_join_62 (by decide) (fun _ => ?_) (fun h99 => absurd h99 (by decide))
    refine lv_iinc (lv' := [(10, .int (1 : Int32)), (9, .int (1 : Int32)), (7, .long (0 : Int64)), (6, .int (2 : Int32)), (5, .int (2 : Int32)), (3, .int (1 : Int32)), (4, .int (5 : Int32)), (0, .ref mi), (1, .ref rl), (2, .int (0 : Int32))]) (k := 0) (v := (1 : Int32)) hx hb d_MI_join_104 hl rfl (by decide) (by decide) rfl (fun ls hl => ?_)
    refine lv_goto (tgt := 50) hx hb d_MI_join_107 (by decide) ?_
    refine lv_iload hx hb d_MI_join_50 (lv_at hl 0 rfl) ?_
    refine lv_if_lt (tgt := 110) hx hb d_MI_join_52 (by decide) (fun h99 => absurd h99 (by decide)) (fun _ => ?_)
    refine lv_iload hx hb d_MI_join_55 (lv_at hl 3 rfl) ?_
    refine lv_iload hx hb d_MI_join_57 (lv_at hl 0 rfl) ?_
    refine lv_ishr hx hb d_MI_join_59 ?_
    refine tp_i (y := (1 : Int32)) (by decide) ?_
    refine lv_iconst (v := (1 : Int32)) hx hb d_MI_join_60 (by decide) ?_
    refine lv_iand hx hb d_MI_join_61 ?_
    refine tp_i (y := (1 : Int32)) (by decide) ?_
    refine lv_if_eq (tgt := 104) hx hb d_MI_join_62 (by decide) (fun h99 => absurd h99 (by decide)) (fun _ => ?_)
    refine lv_lload hx hb d_MI_join_65 (lv_at hl 2 rfl) ?_
    refine lv_iload hx hb d_MI_join_67 (lv_at hl 1 rfl) ?_
    refine lv_i2l (v := (1 : Int64)) hx hb d_MI_join_69 (by decide) ?_
    refine lv_aload_n hx hb d_MI_join_70 rfl (lv_at hl 7 rfl) ?_
    refine va_get (D := D) (ci := 2) (v := .ref cu) (C := cn_MI) (T := ft_MI) (N := 3) hx hb hf_MI (fun _ h => h) hown hK hP 0 rfl rfl 0 (by decide) (gw.at G hx0 mw_64 rfl _) (fun _ h9 => h9) rfl d_MI_join_71 ?_
    refine lv_iload hx hb d_MI_join_74 (lv_at hl 3 rfl) ?_
    refine lv_iconst (v := (1 : Int32)) hx hb d_MI_join_76 (by decide) ?_
    refine lv_iload hx hb d_MI_join_77 (lv_at hl 0 rfl) ?_
    refine lv_ishl hx hb d_MI_join_79 ?_
    refine tp_i (y := (2 : Int32)) (by decide) ?_
    refine lv_ixor hx hb d_MI_join_80 ?_
    refine tp_i (y := (0 : Int32)) (by decide) ?_
    refine va_lald hx hb hK hP 1 1 rfl rfl (vp_in_iff.mpr (by decide)) d_MI_join_81 ?_
    refine tp_l (y := (1 : Int64)) (by rfl) ?_
    refine lv_lmul hx hb d_MI_join_82 ?_
    refine tp_l (y := (1 : Int64)) (by decide) ?_
    refine lv_aload_n hx hb d_MI_join_83 rfl (lv_at hl 8 rfl) ?_
    refine va_get (D := D) (ci := 1) (v := .ref rc) (C := cn_PL) (T := ft_PL) (N := 3) hx hb hf_PL (fun _ h => h) hown hK hP 3 rfl rfl 0 (by decide) (gw.at G hx0 mw_40 rfl _) (fun _ h9 => h9) rfl d_MI_join_84 ?_
    refine lv_iload_n hx hb d_MI_join_87 rfl (lv_at hl 9 rfl) ?_
    refine lv_iconst (v := (4 : Int32)) hx hb d_MI_join_88 (by decide) ?_
    refine lv_imul hx hb d_MI_join_89 ?_
    refine tp_i (y := (0 : Int32)) (by decide) ?_
    refine lv_iload hx hb d_MI_join_90 (lv_at hl 0 rfl) ?_
    refine lv_iadd hx hb d_MI_join_92 ?_
    refine tp_i (y := (1 : Int32)) (by decide) ?_
    refine va_iald hx hb hK hP 4 0 rfl rfl (vp_in_iff.mpr (by decide)) d_MI_join_93 ?_
    refine tp_i (y := rf 1) (by rfl) ?_
    refine lv_i2l (v := (rf 1).toInt64) hx hb d_MI_join_94 rfl ?_
    refine lv_lmul hx hb d_MI_join_95 ?_
    refine lv_ladd hx hb d_MI_join_96 ?_
    refine lv_lstore (lv' := [(7, .long ((0 : Int64) + ((1 : Int64) * ((rf 1).toInt64)))), (10, .int (1 : Int32)), (9, .int (1 : Int32)), (6, .int (2 : Int32)), (5, .int (2 : Int32)), (3, .int (1 : Int32)), (4, .int (5 : Int32)), (0, .ref mi), (1, .ref rl), (2, .int (0 : Int32))]) hx hb d_MI_join_97 hl (by decide) rfl (fun ls hl => ?_)
    refine lv_iload hx hb d_MI_join_99 (lv_at hl 2 rfl) ?_
    refine lv_ineg hx hb d_MI_join_101 ?_
    refine tp_i (y := (-1 : Int32)) (by decide) ?_
    refine lv_istore (lv' := [(9, .int (-1 : Int32)), (7, .long ((0 : Int64) + ((1 : Int64) * ((rf 1).toInt64)))), (10, .int (1 : Int32)), (6, .int (2 : Int32)), (5, .int (2 : Int32)), (3, .int (1 : Int32)), (4, .int (5 : Int32)), (0, .ref mi), (1, .ref rl), (2, .int (0 : Int32))]) hx hb d_MI_join_102 hl (by decide) rfl (fun ls hl => ?_)
    refine lv_iinc (lv' := [(10, .int (0 : Int32)), (9, .int (-1 : Int32)), (7, .long ((0 : Int64) + ((1 : Int64) * ((rf 1).toInt64)))), (6, .int (2 : Int32)), (5, .int (2 : Int32)), (3, .int (1 : Int32)), (4, .int (5 : Int32)), (0, .ref mi), (1, .ref rl), (2, .int (0 : Int32))]) (k := 2) (v := (0 : Int32)) hx hb d_MI_join_104 hl rfl (by decide) (by decide) rfl (fun ls hl => ?_)
    refine lv_goto (tgt := 50) hx hb d_MI_join_107 (by decide) ?_
    refine lv_iload hx hb d_MI_join_50 (lv_at hl 0 rfl) ?_
    refine lv_if_lt (tgt := 110) hx hb d_MI_join_52 (by decide) (fun h99 => absurd h99 (by decide)) (fun _ => ?_)
    refine lv_iload hx hb d_MI_join_55 (lv_at hl 3 rfl) ?_
    refine lv_iload hx hb d_MI_join_57 (lv_at hl 0 rfl) ?_
    refine lv_ishr hx hb d_MI_join_59 ?_
    refine tp_i (y := (2 : Int32)) (by decide) ?_
    refine lv_iconst (v := (1 : Int32)) hx hb d_MI_join_60 (by decide) ?_
    refine lv_iand hx hb d_MI_join_61 ?_
    refine tp_i (y := (0 : Int32)) (by decide) ?_
    refine lv_if_eq (tgt := 104) hx hb d_MI_join_62 (by decide) (fun _ => ?_) (fun h99 => absurd h99 (by decide))
    refine lv_iinc (lv' := [(10, .int (-1 : Int32)), (9, .int (-1 : Int32)), (7, .long ((0 : Int64) + ((1 : Int64) * ((rf 1).toInt64)))), (6, .int (2 : Int32)), (5, .int (2 : Int32)), (3, .int (1 : Int32)), (4, .int (5 : Int32)), (0, .ref mi), (1, .ref rl), (2, .int (0 : Int32))]) (k := 0) (v := (-1 : Int32)) hx hb d_MI_join_104 hl rfl (by decide) (by decide) rfl (fun ls hl => ?_)
    refine lv_goto (tgt := 50) hx hb d_MI_join_107 (by decide) ?_
    refine lv_iload hx hb d_MI_join_50 (lv_at hl 0 rfl) ?_
    refine lv_if_lt (tgt := 110) hx hb d_MI_join_52 (by decide) (fun _ => ?_) (fun h99 => absurd h99 (by decide))
    refine lv_aload_n hx hb d_MI_join_110 rfl (lv_at hl 7 rfl) ?_
    refine va_get (D := D) (ci := 2) (v := .ref nx) (C := cn_MI) (T := ft_MI) (N := 3) hx hb hf_MI (fun _ h => h) hown hK hP 0 rfl rfl 1 (by decide) (gw.at G hx0 mw_65 rfl _) (fun _ h9 => h9) rfl d_MI_join_111 ?_
    refine lv_iload hx hb d_MI_join_114 (lv_at hl 3 rfl) ?_
    refine lv_lload hx hb d_MI_join_116 (lv_at hl 2 rfl) ?_
    refine va_last hx hb hK hP hD hS 2 1 rfl rfl (vp_in_iff.mpr (by decide)) d_MI_join_118 (fun H locs hP hD hS => ?_)
    have hP : va_P D kl [(mi, .inr (2, [.ref cu, .ref nx, .int (0 : Int32)])), (cu, .inl (cJ, 16, .inr (.inl (vp_updL cf 0 (1 : Int64))))), (nx, .inl (cJ, 16, .inr (.inl (vp_updL (vp_updL nf 1 ((0 : Int64) + ((1 : Int64) * ((rf 0).toInt64)))) 2 ((0 : Int64) + ((1 : Int64) * ((rf 1).toInt64))))))), (rl, .inr (1, [.ref rc, .int (1 : Int32), .int (8 : Int32)])), (rc, .inl (cI, 32, .inl rf))] H := hP
    have hD : va_D A [(mi, .inr (2, [.ref cu, .ref nx, .int (0 : Int32)])), (cu, .inl (cJ, 16, .inr (.inl (vp_updL cf 0 (1 : Int64))))), (nx, .inl (cJ, 16, .inr (.inl (vp_updL (vp_updL nf 1 ((0 : Int64) + ((1 : Int64) * ((rf 0).toInt64)))) 2 ((0 : Int64) + ((1 : Int64) * ((rf 1).toInt64))))))), (rl, .inr (1, [.ref rc, .int (1 : Int32), .int (8 : Int32)])), (rc, .inl (cI, 32, .inl rf))] := hD
    refine lv_iload_n hx hb d_MI_join_119 rfl (lv_at hl 5 rfl) ?_
    refine lv_if_ne (tgt := 130) hx hb d_MI_join_120 (by decide) (fun _ => ?_) (fun h99 => absurd h99 (by decide))
    refine lv_iconst (v := (1 : Int32)) hx hb d_MI_join_130 (by decide) ?_
    refine lv_goto (tgt := 135) hx hb d_MI_join_131 (by decide) ?_
    refine lv_istore_n (lv' := [(3, .int (1 : Int32)), (10, .int (-1 : Int32)), (9, .int (-1 : Int32)), (7, .long ((0 : Int64) + ((1 : Int64) * ((rf 1).toInt64)))), (6, .int (2 : Int32)), (5, .int (2 : Int32)), (4, .int (5 : Int32)), (0, .ref mi), (1, .ref rl), (2, .int (0 : Int32))]) hx hb d_MI_join_135 rfl hl (by decide) rfl (fun ls hl => ?_)
    refine lv_iinc (lv' := [(5, .int (3 : Int32)), (3, .int (1 : Int32)), (10, .int (-1 : Int32)), (9, .int (-1 : Int32)), (7, .long ((0 : Int64) + ((1 : Int64) * ((rf 1).toInt64)))), (6, .int (2 : Int32)), (4, .int (5 : Int32)), (0, .ref mi), (1, .ref rl), (2, .int (0 : Int32))]) (k := 5) (v := (3 : Int32)) hx hb d_MI_join_136 hl rfl (by decide) (by decide) rfl (fun ls hl => ?_)
    refine lv_goto (tgt := 26) hx hb d_MI_join_139 (by decide) ?_
    refine lv_iload hx hb d_MI_join_26 (lv_at hl 0 rfl) ?_
    refine lv_iload hx hb d_MI_join_28 (lv_at hl 6 rfl) ?_
    refine lv_icmp_ge (tgt := 142) hx hb d_MI_join_30 (by decide) (fun h99 => absurd h99 (by decide)) (fun _ => ?_)
    refine va_getsN hx hb hZC hS hown (gw.at G hx0 mw_62 rfl _) (fun _ h9 => h9) d_MI_join_33 ?_
    refine lv_iload hx hb d_MI_join_36 (lv_at hl 0 rfl) ?_
    refine va_ti hx hb hTC hS (vp_in_iff.mpr (by decide)) (v := .int (4 : Int32)) (by decide) d_MI_join_38 ?_
    refine lv_istore (lv' := [(6, .int (4 : Int32)), (5, .int (3 : Int32)), (3, .int (1 : Int32)), (10, .int (-1 : Int32)), (9, .int (-1 : Int32)), (7, .long ((0 : Int64) + ((1 : Int64) * ((rf 1).toInt64)))), (4, .int (5 : Int32)), (0, .ref mi), (1, .ref rl), (2, .int (0 : Int32))]) hx hb d_MI_join_39 hl (by decide) rfl (fun ls hl => ?_)
    refine lv_lconst (v := (0 : Int64)) hx hb d_MI_join_41 (by decide) ?_
    refine lv_lstore (lv' := [(7, .long (0 : Int64)), (6, .int (4 : Int32)), (5, .int (3 : Int32)), (3, .int (1 : Int32)), (10, .int (-1 : Int32)), (9, .int (-1 : Int32)), (4, .int (5 : Int32)), (0, .ref mi), (1, .ref rl), (2, .int (0 : Int32))]) hx hb d_MI_join_42 hl (by decide) rfl (fun ls hl => ?_)
    refine lv_iconst (v := (1 : Int32)) hx hb d_MI_join_44 (by decide) ?_
    refine lv_istore (lv' := [(9, .int (1 : Int32)), (7, .long (0 : Int64)), (6, .int (4 : Int32)), (5, .int (3 : Int32)), (3, .int (1 : Int32)), (10, .int (-1 : Int32)), (4, .int (5 : Int32)), (0, .ref mi), (1, .ref rl), (2, .int (0 : Int32))]) hx hb d_MI_join_45 hl (by decide) rfl (fun ls hl => ?_)
    refine lv_iconst (v := (3 : Int32)) hx hb d_MI_join_47 (by decide) ?_
    refine lv_istore (lv' := [(10, .int (3 : Int32)), (9, .int (1 : Int32)), (7, .long (0 : Int64)), (6, .int (4 : Int32)), (5, .int (3 : Int32)), (3, .int (1 : Int32)), (4, .int (5 : Int32)), (0, .ref mi), (1, .ref rl), (2, .int (0 : Int32))]) hx hb d_MI_join_48 hl (by decide) rfl (fun ls hl => ?_)
    refine lv_iload hx hb d_MI_join_50 (lv_at hl 0 rfl) ?_
    refine lv_if_lt (tgt := 110) hx hb d_MI_join_52 (by decide) (fun h99 => absurd h99 (by decide)) (fun _ => ?_)
    refine lv_iload hx hb d_MI_join_55 (lv_at hl 3 rfl) ?_
    refine lv_iload hx hb d_MI_join_57 (lv_at hl 0 rfl) ?_
    refine lv_ishr hx hb d_MI_join_59 ?_
    refine tp_i (y := (0 : Int32)) (by decide) ?_
    refine lv_iconst (v := (1 : Int32)) hx hb d_MI_join_60 (by decide) ?_
    refine lv_iand hx hb d_MI_join_61 ?_
    refine tp_i (y := (0 : Int32)) (by decide) ?_
    refine lv_if_eq (tgt := 104) hx hb d_MI_join_62 (by decide) (fun _ => ?_) (fun h99 => absurd h99 (by decide))
    refine lv_iinc (lv' := [(10, .int (2 : Int32)), (9, .int (1 : Int32)), (7, .long (0 : Int64)), (6, .int (4 : Int32)), (5, .int (3 : Int32)), (3, .int (1 : Int32)), (4, .int (5 : Int32)), (0, .ref mi), (1, .ref rl), (2, .int (0 : Int32))]) (k := 0) (v := (2 : Int32)) hx hb d_MI_join_104 hl rfl (by decide) (by decide) rfl (fun ls hl => ?_)
    refine lv_goto (tgt := 50) hx hb d_MI_join_107 (by decide) ?_
    refine lv_iload hx hb d_MI_join_50 (lv_at hl 0 rfl) ?_
    refine lv_if_lt (tgt := 110) hx hb d_MI_join_52 (by decide) (fun h99 => absurd h99 (by decide)) (fun _ => ?_)
    refine lv_iload hx hb d_MI_join_55 (lv_at hl 3 rfl) ?_
    refine lv_iload hx hb d_MI_join_57 (lv_at hl 0 rfl) ?_
    refine lv_ishr hx hb d_MI_join_59 ?_
    refine tp_i (y := (1 : Int32)) (by decide) ?_
    refine lv_iconst (v := (1 : Int32)) hx hb d_MI_join_60 (by decide) ?_
    refine lv_iand hx hb d_MI_join_61 ?_
    refine tp_i (y := (1 : Int32)) (by decide) ?_
    refine lv_if_eq (tgt := 104) hx hb d_MI_join_62 (by decide) (fun h99 => absurd h99 (by decide)) (fun _ => ?_)
    refine lv_lload hx hb d_MI_join_65 (lv_at hl 2 rfl) ?_
    refine lv_iload hx hb d_MI_join_67 (lv_at hl 1 rfl) ?_
    refine lv_i2l (v := (1 : Int64)) hx hb d_MI_join_69 (by decide) ?_
    refine lv_aload_n hx hb d_MI_join_70 rfl (lv_at hl 7 rfl) ?_
    refine va_get (D := D) (ci := 2) (v := .ref cu) (C := cn_MI) (T := ft_MI) (N := 3) hx hb hf_MI (fun _ h => h) hown hK hP 0 rfl rfl 0 (by decide) (gw.at G hx0 mw_64 rfl _) (fun _ h9 => h9) rfl d_MI_join_71 ?_
    refine lv_iload hx hb d_MI_join_74 (lv_at hl 3 rfl) ?_
    refine lv_iconst (v := (1 : Int32)) hx hb d_MI_join_76 (by decide) ?_
    refine lv_iload hx hb d_MI_join_77 (lv_at hl 0 rfl) ?_
    refine lv_ishl hx hb d_MI_join_79 ?_
    refine tp_i (y := (4 : Int32)) (by decide) ?_
    refine lv_ixor hx hb d_MI_join_80 ?_
    refine tp_i (y := (0 : Int32)) (by decide) ?_
    refine va_lald hx hb hK hP 1 1 rfl rfl (vp_in_iff.mpr (by decide)) d_MI_join_81 ?_
    refine tp_l (y := (1 : Int64)) (by rfl) ?_
    refine lv_lmul hx hb d_MI_join_82 ?_
    refine tp_l (y := (1 : Int64)) (by decide) ?_
    refine lv_aload_n hx hb d_MI_join_83 rfl (lv_at hl 8 rfl) ?_
    refine va_get (D := D) (ci := 1) (v := .ref rc) (C := cn_PL) (T := ft_PL) (N := 3) hx hb hf_PL (fun _ h => h) hown hK hP 3 rfl rfl 0 (by decide) (gw.at G hx0 mw_40 rfl _) (fun _ h9 => h9) rfl d_MI_join_84 ?_
    refine lv_iload_n hx hb d_MI_join_87 rfl (lv_at hl 9 rfl) ?_
    refine lv_iconst (v := (4 : Int32)) hx hb d_MI_join_88 (by decide) ?_
    refine lv_imul hx hb d_MI_join_89 ?_
    refine tp_i (y := (0 : Int32)) (by decide) ?_
    refine lv_iload hx hb d_MI_join_90 (lv_at hl 0 rfl) ?_
    refine lv_iadd hx hb d_MI_join_92 ?_
    refine tp_i (y := (2 : Int32)) (by decide) ?_
    refine va_iald hx hb hK hP 4 0 rfl rfl (vp_in_iff.mpr (by decide)) d_MI_join_93 ?_
    refine tp_i (y := rf 2) (by rfl) ?_
    refine lv_i2l (v := (rf 2).toInt64) hx hb d_MI_join_94 rfl ?_
    refine lv_lmul hx hb d_MI_join_95 ?_
    refine lv_ladd hx hb d_MI_join_96 ?_
    refine lv_lstore (lv' := [(7, .long ((0 : Int64) + ((1 : Int64) * ((rf 2).toInt64)))), (10, .int (2 : Int32)), (9, .int (1 : Int32)), (6, .int (4 : Int32)), (5, .int (3 : Int32)), (3, .int (1 : Int32)), (4, .int (5 : Int32)), (0, .ref mi), (1, .ref rl), (2, .int (0 : Int32))]) hx hb d_MI_join_97 hl (by decide) rfl (fun ls hl => ?_)
    refine lv_iload hx hb d_MI_join_99 (lv_at hl 2 rfl) ?_
    refine lv_ineg hx hb d_MI_join_101 ?_
    refine tp_i (y := (-1 : Int32)) (by decide) ?_
    refine lv_istore (lv' := [(9, .int (-1 : Int32)), (7, .long ((0 : Int64) + ((1 : Int64) * ((rf 2).toInt64)))), (10, .int (2 : Int32)), (6, .int (4 : Int32)), (5, .int (3 : Int32)), (3, .int (1 : Int32)), (4, .int (5 : Int32)), (0, .ref mi), (1, .ref rl), (2, .int (0 : Int32))]) hx hb d_MI_join_102 hl (by decide) rfl (fun ls hl => ?_)
    refine lv_iinc (lv' := [(10, .int (1 : Int32)), (9, .int (-1 : Int32)), (7, .long ((0 : Int64) + ((1 : Int64) * ((rf 2).toInt64)))), (6, .int (4 : Int32)), (5, .int (3 : Int32)), (3, .int (1 : Int32)), (4, .int (5 : Int32)), (0, .ref mi), (1, .ref rl), (2, .int (0 : Int32))]) (k := 2) (v := (1 : Int32)) hx hb d_MI_join_104 hl rfl (by decide) (by decide) rfl (fun ls hl => ?_)
    refine lv_goto (tgt := 50) hx hb d_MI_join_107 (by decide) ?_
    refine lv_iload hx hb d_MI_join_50 (lv_at hl 0 rfl) ?_
    refine lv_if_lt (tgt := 110) hx hb d_MI_join_52 (by decide) (fun h99 => absurd h99 (by decide)) (fun _ => ?_)
    refine lv_iload hx hb d_MI_join_55 (lv_at hl 3 rfl) ?_
    refine lv_iload hx hb d_MI_join_57 (lv_at hl 0 rfl) ?_
    refine lv_ishr hx hb d_MI_join_59 ?_
    refine tp_i (y := (2 : Int32)) (by decide) ?_
    refine lv_iconst (v := (1 : Int32)) hx hb d_MI_join_60 (by decide) ?_
    refine lv_iand hx hb d_MI_join_61 ?_
    refine tp_i (y := (0 : Int32)) (by decide) ?_
    refine lv_if_eq (tgt := 104) hx hb d_MI_join_62 (by decide) (fun _ => ?_) (fun h99 => absurd h99 (by decide))
    refine lv_iinc (lv' := [(10, .int (0 : Int32)), (9, .int (-1 : Int32)), (7, .long ((0 : Int64) + ((1 : Int64) * ((rf 2).toInt64)))), (6, .int (4 : Int32)), (5, .int (3 : Int32)), (3, .int (1 : Int32)), (4, .int (5 : Int32)), (0, .ref mi), (1, .ref rl), (2, .int (0 : Int32))]) (k := 0) (v := (0 : Int32)) hx hb d_MI_join_104 hl rfl (by decide) (by decide) rfl (fun ls hl => ?_)
    refine lv_goto (tgt := 50) hx hb d_MI_join_107 (by decide) ?_
    refine lv_iload hx hb d_MI_join_50 (lv_at hl 0 rfl) ?_
    refine lv_if_lt (tgt := 110) hx hb d_MI_join_52 (by decide) (fun h99 => absurd h99 (by decide)) (fun _ => ?_)
    refine lv_iload hx hb d_MI_join_55 (lv_at hl 3 rfl) ?_
    refine lv_iload hx hb d_MI_join_57 (lv_at hl 0 rfl) ?_
    refine lv_ishr hx hb d_MI_join_59 ?_
    refine tp_i (y := (4 : Int32)) (by decide) ?_
    refine lv_iconst (v := (1 : Int32)) hx hb d_MI_join_60 (by decide) ?_
    refine lv_iand hx hb d_MI_join_61 ?_
    refine tp_i (y := (0 : Int32)) (by decide) ?_
    refine lv_if_eq (tgt := 104) hx hb d_MI_join_62 (by decide) (fun _ => ?_) (fun h99 => absurd h99 (by decide))
    refine lv_iinc (lv' := [(10, .int (-1 : Int32)), (9, .int (-1 : Int32)), (7, .long ((0 : Int64) + ((1 : Int64) * ((rf 2).toInt64)))), (6, .int (4 : Int32)), (5, .int (3 : Int32)), (3, .int (1 : Int32)), (4, .int (5 : Int32)), (0, .ref mi), (1, .ref rl), (2, .int (0 : Int32))]) (k := 0) (v := (-1 : Int32)) hx hb d_MI_join_104 hl rfl (by decide) (by decide) rfl (fun ls hl => ?_)
    refine lv_goto (tgt := 50) hx hb d_MI_join_107 (by decide) ?_
    refine lv_iload hx hb d_MI_join_50 (lv_at hl 0 rfl) ?_
    refine lv_if_lt (tgt := 110) hx hb d_MI_join_52 (by decide) (fun _ => ?_) (fun h99 => absurd h99 (by decide))
    refine lv_aload_n hx hb d_MI_join_110 rfl (lv_at hl 7 rfl) ?_
    refine va_get (D := D) (ci := 2) (v := .ref nx) (C := cn_MI) (T := ft_MI) (N := 3) hx hb hf_MI (fun _ h => h) hown hK hP 0 rfl rfl 1 (by decide) (gw.at G hx0 mw_65 rfl _) (fun _ h9 => h9) rfl d_MI_join_111 ?_
    refine lv_iload hx hb d_MI_join_114 (lv_at hl 3 rfl) ?_
    refine lv_lload hx hb d_MI_join_116 (lv_at hl 2 rfl) ?_
    refine va_last hx hb hK hP hD hS 2 1 rfl rfl (vp_in_iff.mpr (by decide)) d_MI_join_118 (fun H locs hP hD hS => ?_)
    have hP : va_P D kl [(mi, .inr (2, [.ref cu, .ref nx, .int (0 : Int32)])), (cu, .inl (cJ, 16, .inr (.inl (vp_updL cf 0 (1 : Int64))))), (nx, .inl (cJ, 16, .inr (.inl (vp_updL (vp_updL (vp_updL nf 1 ((0 : Int64) + ((1 : Int64) * ((rf 0).toInt64)))) 2 ((0 : Int64) + ((1 : Int64) * ((rf 1).toInt64)))) 4 ((0 : Int64) + ((1 : Int64) * ((rf 2).toInt64))))))), (rl, .inr (1, [.ref rc, .int (1 : Int32), .int (8 : Int32)])), (rc, .inl (cI, 32, .inl rf))] H := hP
    have hD : va_D A [(mi, .inr (2, [.ref cu, .ref nx, .int (0 : Int32)])), (cu, .inl (cJ, 16, .inr (.inl (vp_updL cf 0 (1 : Int64))))), (nx, .inl (cJ, 16, .inr (.inl (vp_updL (vp_updL (vp_updL nf 1 ((0 : Int64) + ((1 : Int64) * ((rf 0).toInt64)))) 2 ((0 : Int64) + ((1 : Int64) * ((rf 1).toInt64)))) 4 ((0 : Int64) + ((1 : Int64) * ((rf 2).toInt64))))))), (rl, .inr (1, [.ref rc, .int (1 : Int32), .int (8 : Int32)])), (rc, .inl (cI, 32, .inl rf))] := hD
    refine lv_iload_n hx hb d_MI_join_119 rfl (lv_at hl 5 rfl) ?_
    refine lv_if_ne (tgt := 130) hx hb d_MI_join_120 (by decide) (fun _ => ?_) (fun h99 => absurd h99 (by decide))
    refine lv_iconst (v := (1 : Int32)) hx hb d_MI_join_130 (by decide) ?_
    refine lv_goto (tgt := 135) hx hb d_MI_join_131 (by decide) ?_
    refine lv_istore_n (lv' := [(3, .int (1 : Int32)), (10, .int (-1 : Int32)), (9, .int (-1 : Int32)), (7, .long ((0 : Int64) + ((1 : Int64) * ((rf 2).toInt64)))), (6, .int (4 : Int32)), (5, .int (3 : Int32)), (4, .int (5 : Int32)), (0, .ref mi), (1, .ref rl), (2, .int (0 : Int32))]) hx hb d_MI_join_135 rfl hl (by decide) rfl (fun ls hl => ?_)
    refine lv_iinc (lv' := [(5, .int (4 : Int32)), (3, .int (1 : Int32)), (10, .int (-1 : Int32)), (9, .int (-1 : Int32)), (7, .long ((0 : Int64) + ((1 : Int64) * ((rf 2).toInt64)))), (6, .int (4 : Int32)), (4, .int (5 : Int32)), (0, .ref mi), (1, .ref rl), (2, .int (0 : Int32))]) (k := 5) (v := (4 : Int32)) hx hb d_MI_join_136 hl rfl (by decide) (by decide) rfl (fun ls hl => ?_)
    refine lv_goto (tgt := 26) hx hb d_MI_join_139 (by decide) ?_
    refine lv_iload hx hb d_MI_join_26 (lv_at hl 0 rfl) ?_
    refine lv_iload hx hb d_MI_join_28 (lv_at hl 6 rfl) ?_
    refine lv_icmp_ge (tgt := 142) hx hb d_MI_join_30 (by decide) (fun h99 => absurd h99 (by decide)) (fun _ => ?_)
    refine va_getsN hx hb hZC hS hown (gw.at G hx0 mw_62 rfl _) (fun _ h9 => h9) d_MI_join_33 ?_
    refine lv_iload hx hb d_MI_join_36 (lv_at hl 0 rfl) ?_
    refine va_ti hx hb hTC hS (vp_in_iff.mpr (by decide)) (v := .int (8 : Int32)) (by decide) d_MI_join_38 ?_
    refine lv_istore (lv' := [(6, .int (8 : Int32)), (5, .int (4 : Int32)), (3, .int (1 : Int32)), (10, .int (-1 : Int32)), (9, .int (-1 : Int32)), (7, .long ((0 : Int64) + ((1 : Int64) * ((rf 2).toInt64)))), (4, .int (5 : Int32)), (0, .ref mi), (1, .ref rl), (2, .int (0 : Int32))]) hx hb d_MI_join_39 hl (by decide) rfl (fun ls hl => ?_)
    refine lv_lconst (v := (0 : Int64)) hx hb d_MI_join_41 (by decide) ?_
    refine lv_lstore (lv' := [(7, .long (0 : Int64)), (6, .int (8 : Int32)), (5, .int (4 : Int32)), (3, .int (1 : Int32)), (10, .int (-1 : Int32)), (9, .int (-1 : Int32)), (4, .int (5 : Int32)), (0, .ref mi), (1, .ref rl), (2, .int (0 : Int32))]) hx hb d_MI_join_42 hl (by decide) rfl (fun ls hl => ?_)
    refine lv_iconst (v := (1 : Int32)) hx hb d_MI_join_44 (by decide) ?_
    refine lv_istore (lv' := [(9, .int (1 : Int32)), (7, .long (0 : Int64)), (6, .int (8 : Int32)), (5, .int (4 : Int32)), (3, .int (1 : Int32)), (10, .int (-1 : Int32)), (4, .int (5 : Int32)), (0, .ref mi), (1, .ref rl), (2, .int (0 : Int32))]) hx hb d_MI_join_45 hl (by decide) rfl (fun ls hl => ?_)
    refine lv_iconst (v := (3 : Int32)) hx hb d_MI_join_47 (by decide) ?_
    refine lv_istore (lv' := [(10, .int (3 : Int32)), (9, .int (1 : Int32)), (7, .long (0 : Int64)), (6, .int (8 : Int32)), (5, .int (4 : Int32)), (3, .int (1 : Int32)), (4, .int (5 : Int32)), (0, .ref mi), (1, .ref rl), (2, .int (0 : Int32))]) hx hb d_MI_join_48 hl (by decide) rfl (fun ls hl => ?_)
    refine lv_iload hx hb d_MI_join_50 (lv_at hl 0 rfl) ?_
    refine lv_if_lt (tgt := 110) hx hb d_MI_join_52 (by decide) (fun h99 => absurd h99 (by decide)) (fun _ => ?_)
    refine lv_iload hx hb d_MI_join_55 (lv_at hl 3 rfl) ?_
    refine lv_iload hx hb d_MI_join_57 (lv_at hl 0 rfl) ?_
    refine lv_ishr hx hb d_MI_join_59 ?_
    refine tp_i (y := (1 : Int32)) (by decide) ?_
    refine lv_iconst (v := (1 : Int32)) hx hb d_MI_join_60 (by decide) ?_
    refine lv_iand hx hb d_MI_join_61 ?_
    refine tp_i (y := (1 : Int32)) (by decide) ?_
    refine lv_if_eq (tgt := 104) hx hb d_MI_join_62 (by decide) (fun h99 => absurd h99 (by decide)) (fun _ => ?_)
    refine lv_lload hx hb d_MI_join_65 (lv_at hl 2 rfl) ?_
    refine lv_iload hx hb d_MI_join_67 (lv_at hl 1 rfl) ?_
    refine lv_i2l (v := (1 : Int64)) hx hb d_MI_join_69 (by decide) ?_
    refine lv_aload_n hx hb d_MI_join_70 rfl (lv_at hl 7 rfl) ?_
    refine va_get (D := D) (ci := 2) (v := .ref cu) (C := cn_MI) (T := ft_MI) (N := 3) hx hb hf_MI (fun _ h => h) hown hK hP 0 rfl rfl 0 (by decide) (gw.at G hx0 mw_64 rfl _) (fun _ h9 => h9) rfl d_MI_join_71 ?_
    refine lv_iload hx hb d_MI_join_74 (lv_at hl 3 rfl) ?_
    refine lv_iconst (v := (1 : Int32)) hx hb d_MI_join_76 (by decide) ?_
    refine lv_iload hx hb d_MI_join_77 (lv_at hl 0 rfl) ?_
    refine lv_ishl hx hb d_MI_join_79 ?_
    refine tp_i (y := (8 : Int32)) (by decide) ?_
    refine lv_ixor hx hb d_MI_join_80 ?_
    refine tp_i (y := (0 : Int32)) (by decide) ?_
    refine va_lald hx hb hK hP 1 1 rfl rfl (vp_in_iff.mpr (by decide)) d_MI_join_81 ?_
    refine tp_l (y := (1 : Int64)) (by rfl) ?_
    refine lv_lmul hx hb d_MI_join_82 ?_
    refine tp_l (y := (1 : Int64)) (by decide) ?_
    refine lv_aload_n hx hb d_MI_join_83 rfl (lv_at hl 8 rfl) ?_
    refine va_get (D := D) (ci := 1) (v := .ref rc) (C := cn_PL) (T := ft_PL) (N := 3) hx hb hf_PL (fun _ h => h) hown hK hP 3 rfl rfl 0 (by decide) (gw.at G hx0 mw_40 rfl _) (fun _ h9 => h9) rfl d_MI_join_84 ?_
    refine lv_iload_n hx hb d_MI_join_87 rfl (lv_at hl 9 rfl) ?_
    refine lv_iconst (v := (4 : Int32)) hx hb d_MI_join_88 (by decide) ?_
    refine lv_imul hx hb d_MI_join_89 ?_
    refine tp_i (y := (0 : Int32)) (by decide) ?_
    refine lv_iload hx hb d_MI_join_90 (lv_at hl 0 rfl) ?_
    refine lv_iadd hx hb d_MI_join_92 ?_
    refine tp_i (y := (3 : Int32)) (by decide) ?_
    refine va_iald hx hb hK hP 4 0 rfl rfl (vp_in_iff.mpr (by decide)) d_MI_join_93 ?_
    refine tp_i (y := rf 3) (by rfl) ?_
    refine lv_i2l (v := (rf 3).toInt64) hx hb d_MI_join_94 rfl ?_
    refine lv_lmul hx hb d_MI_join_95 ?_
    refine lv_ladd hx hb d_MI_join_96 ?_
    refine lv_lstore (lv' := [(7, .long ((0 : Int64) + ((1 : Int64) * ((rf 3).toInt64)))), (10, .int (3 : Int32)), (9, .int (1 : Int32)), (6, .int (8 : Int32)), (5, .int (4 : Int32)), (3, .int (1 : Int32)), (4, .int (5 : Int32)), (0, .ref mi), (1, .ref rl), (2, .int (0 : Int32))]) hx hb d_MI_join_97 hl (by decide) rfl (fun ls hl => ?_)
    refine lv_iload hx hb d_MI_join_99 (lv_at hl 2 rfl) ?_
    refine lv_ineg hx hb d_MI_join_101 ?_
    refine tp_i (y := (-1 : Int32)) (by decide) ?_
    refine lv_istore (lv' := [(9, .int (-1 : Int32)), (7, .long ((0 : Int64) + ((1 : Int64) * ((rf 3).toInt64)))), (10, .int (3 : Int32)), (6, .int (8 : Int32)), (5, .int (4 : Int32)), (3, .int (1 : Int32)), (4, .int (5 : Int32)), (0, .ref mi), (1, .ref rl), (2, .int (0 : Int32))]) hx hb d_MI_join_102 hl (by decide) rfl (fun ls hl => ?_)
    refine lv_iinc (lv' := [(10, .int (2 : Int32)), (9, .int (-1 : Int32)), (7, .long ((0 : Int64) + ((1 : Int64) * ((rf 3).toInt64)))), (6, .int (8 : Int32)), (5, .int (4 : Int32)), (3, .int (1 : Int32)), (4, .int (5 : Int32)), (0, .ref mi), (1, .ref rl), (2, .int (0 : Int32))]) (k := 2) (v := (2 : Int32)) hx hb d_MI_join_104 hl rfl (by decide) (by decide) rfl (fun ls hl => ?_)
    refine lv_goto (tgt := 50) hx hb d_MI_join_107 (by decide) ?_
    refine lv_iload hx hb d_MI_join_50 (lv_at hl 0 rfl) ?_
    refine lv_if_lt (tgt := 110) hx hb d_MI_join_52 (by decide) (fun h99 => absurd h99 (by decide)) (fun _ => ?_)
    refine lv_iload hx hb d_MI_join_55 (lv_at hl 3 rfl) ?_
    refine lv_iload hx hb d_MI_join_57 (lv_at hl 0 rfl) ?_
    refine lv_ishr hx hb d_MI_join_59 ?_
    refine tp_i (y := (2 : Int32)) (by decide) ?_
    refine lv_iconst (v := (1 : Int32)) hx hb d_MI_join_60 (by decide) ?_
    refine lv_iand hx hb d_MI_join_61 ?_
    refine tp_i (y := (0 : Int32)) (by decide) ?_
    refine lv_if_eq (tgt := 104) hx hb d_MI_join_62 (by decide) (fun _ => ?_) (fun h99 => absurd h99 (by decide))
    refine lv_iinc (lv' := [(10, .int (1 : Int32)), (9, .int (-1 : Int32)), (7, .long ((0 : Int64) + ((1 : Int64) * ((rf 3).toInt64)))), (6, .int (8 : Int32)), (5, .int (4 : Int32)), (3, .int (1 : Int32)), (4, .int (5 : Int32)), (0, .ref mi), (1, .ref rl), (2, .int (0 : Int32))]) (k := 0) (v := (1 : Int32)) hx hb d_MI_join_104 hl rfl (by decide) (by decide) rfl (fun ls hl => ?_)
    refine lv_goto (tgt := 50) hx hb d_MI_join_107 (by decide) ?_
    refine lv_iload hx hb d_MI_join_50 (lv_at hl 0 rfl) ?_
    refine lv_if_lt (tgt := 110) hx hb d_MI_join_52 (by decide) (fun h99 => absurd h99 (by decide)) (fun _ => ?_)
    refine lv_iload hx hb d_MI_join_55 (lv_at hl 3 rfl) ?_
    refine lv_iload hx hb d_MI_join_57 (lv_at hl 0 rfl) ?_
    refine lv_ishr hx hb d_MI_join_59 ?_
    refine tp_i (y := (4 : Int32)) (by decide) ?_
    refine lv_iconst (v := (1 : Int32)) hx hb d_MI_join_60 (by decide) ?_
    refine lv_iand hx hb d_MI_join_61 ?_
    refine tp_i (y := (0 : Int32)) (by decide) ?_
    refine lv_if_eq (tgt := 104) hx hb d_MI_join_62 (by decide) (fun _ => ?_) (fun h99 => absurd h99 (by decide))
    refine lv_iinc (lv' := [(10, .int (0 : Int32)), (9, .int (-1 : Int32)), (7, .long ((0 : Int64) + ((1 : Int64) * ((rf 3).toInt64)))), (6, .int (8 : Int32)), (5, .int (4 : Int32)), (3, .int (1 : Int32)), (4, .int (5 : Int32)), (0, .ref mi), (1, .ref rl), (2, .int (0 : Int32))]) (k := 0) (v := (0 : Int32)) hx hb d_MI_join_104 hl rfl (by decide) (by decide) rfl (fun ls hl => ?_)
    refine lv_goto (tgt := 50) hx hb d_MI_join_107 (by decide) ?_
    refine lv_iload hx hb d_MI_join_50 (lv_at hl 0 rfl) ?_
    refine lv_if_lt (tgt := 110) hx hb d_MI_join_52 (by decide) (fun h99 => absurd h99 (by decide)) (fun _ => ?_)
    refine lv_iload hx hb d_MI_join_55 (lv_at hl 3 rfl) ?_
    refine lv_iload hx hb d_MI_join_57 (lv_at hl 0 rfl) ?_
    refine lv_ishr hx hb d_MI_join_59 ?_
    refine tp_i (y := (8 : Int32)) (by decide) ?_
    refine lv_iconst (v := (1 : Int32)) hx hb d_MI_join_60 (by decide) ?_
    refine lv_iand hx hb d_MI_join_61 ?_
    refine tp_i (y := (0 : Int32)) (by decide) ?_
    refine lv_if_eq (tgt := 104) hx hb d_MI_join_62 (by decide) (fun _ => ?_) (fun h99 => absurd h99 (by decide))
    refine lv_iinc (lv' := [(10, .int (-1 : Int32)), (9, .int (-1 : Int32)), (7, .long ((0 : Int64) + ((1 : Int64) * ((rf 3).toInt64)))), (6, .int (8 : Int32)), (5, .int (4 : Int32)), (3, .int (1 : Int32)), (4, .int (5 : Int32)), (0, .ref mi), (1, .ref rl), (2, .int (0 : Int32))]) (k := 0) (v := (-1 : Int32)) hx hb d_MI_join_104 hl rfl (by decide) (by decide) rfl (fun ls hl => ?_)
    refine lv_goto (tgt := 50) hx hb d_MI_join_107 (by decide) ?_
    refine lv_iload hx hb d_MI_join_50 (lv_at hl 0 rfl) ?_
    refine lv_if_lt (tgt := 110) hx hb d_MI_join_52 (by decide) (fun _ => ?_) (fun h99 => absurd h99 (by decide))
    refine lv_aload_n hx hb d_MI_join_110 rfl (lv_at hl 7 rfl) ?_
    refine va_get (D := D) (ci := 2) (v := .ref nx) (C := cn_MI) (T := ft_MI) (N := 3) hx hb hf_MI (fun _ h => h) hown hK hP 0 rfl rfl 1 (by decide) (gw.at G hx0 mw_65 rfl _) (fun _ h9 => h9) rfl d_MI_join_111 ?_
    refine lv_iload hx hb d_MI_join_114 (lv_at hl 3 rfl) ?_
    refine lv_lload hx hb d_MI_join_116 (lv_at hl 2 rfl) ?_
    refine va_last hx hb hK hP hD hS 2 1 rfl rfl (vp_in_iff.mpr (by decide)) d_MI_join_118 (fun H locs hP hD hS => ?_)
    have hP : va_P D kl [(mi, .inr (2, [.ref cu, .ref nx, .int (0 : Int32)])), (cu, .inl (cJ, 16, .inr (.inl (vp_updL cf 0 (1 : Int64))))), (nx, .inl (cJ, 16, .inr (.inl (vp_updL (vp_updL (vp_updL (vp_updL nf 1 ((0 : Int64) + ((1 : Int64) * ((rf 0).toInt64)))) 2 ((0 : Int64) + ((1 : Int64) * ((rf 1).toInt64)))) 4 ((0 : Int64) + ((1 : Int64) * ((rf 2).toInt64)))) 8 ((0 : Int64) + ((1 : Int64) * ((rf 3).toInt64))))))), (rl, .inr (1, [.ref rc, .int (1 : Int32), .int (8 : Int32)])), (rc, .inl (cI, 32, .inl rf))] H := hP
    have hD : va_D A [(mi, .inr (2, [.ref cu, .ref nx, .int (0 : Int32)])), (cu, .inl (cJ, 16, .inr (.inl (vp_updL cf 0 (1 : Int64))))), (nx, .inl (cJ, 16, .inr (.inl (vp_updL (vp_updL (vp_updL (vp_updL nf 1 ((0 : Int64) + ((1 : Int64) * ((rf 0).toInt64)))) 2 ((0 : Int64) + ((1 : Int64) * ((rf 1).toInt64)))) 4 ((0 : Int64) + ((1 : Int64) * ((rf 2).toInt64)))) 8 ((0 : Int64) + ((1 : Int64) * ((rf 3).toInt64))))))), (rl, .inr (1, [.ref rc, .int (1 : Int32), .int (8 : Int32)])), (rc, .inl (cI, 32, .inl rf))] := hD
    refine lv_iload_n hx hb d_MI_join_119 rfl (lv_at hl 5 rfl) ?_
    refine lv_if_ne (tgt := 130) hx hb d_MI_join_120 (by decide) (fun _ => ?_) (fun h99 => absurd h99 (by decide))
    refine lv_iconst (v := (1 : Int32)) hx hb d_MI_join_130 (by decide) ?_
    refine lv_goto (tgt := 135) hx hb d_MI_join_131 (by decide) ?_
    refine lv_istore_n (lv' := [(3, .int (1 : Int32)), (10, .int (-1 : Int32)), (9, .int (-1 : Int32)), (7, .long ((0 : Int64) + ((1 : Int64) * ((rf 3).toInt64)))), (6, .int (8 : Int32)), (5, .int (4 : Int32)), (4, .int (5 : Int32)), (0, .ref mi), (1, .ref rl), (2, .int (0 : Int32))]) hx hb d_MI_join_135 rfl hl (by decide) rfl (fun ls hl => ?_)
    refine lv_iinc (lv' := [(5, .int (5 : Int32)), (3, .int (1 : Int32)), (10, .int (-1 : Int32)), (9, .int (-1 : Int32)), (7, .long ((0 : Int64) + ((1 : Int64) * ((rf 3).toInt64)))), (6, .int (8 : Int32)), (4, .int (5 : Int32)), (0, .ref mi), (1, .ref rl), (2, .int (0 : Int32))]) (k := 5) (v := (5 : Int32)) hx hb d_MI_join_136 hl rfl (by decide) (by decide) rfl (fun ls hl => ?_)
    refine lv_goto (tgt := 26) hx hb d_MI_join_139 (by decide) ?_
    refine lv_iload hx hb d_MI_join_26 (lv_at hl 0 rfl) ?_
    refine lv_iload hx hb d_MI_join_28 (lv_at hl 6 rfl) ?_
    refine lv_icmp_ge (tgt := 142) hx hb d_MI_join_30 (by decide) (fun _ => ?_) (fun h99 => absurd h99 (by decide))
    refine lv_iload_n hx hb d_MI_join_142 rfl (lv_at hl 1 rfl) ?_
    refine lv_if_eq (tgt := 176) hx hb d_MI_join_143 (by decide) (fun h99 => absurd h99 (by decide)) (fun _ => ?_)
    refine lv_aload_n hx hb d_MI_join_146 rfl (lv_at hl 7 rfl) ?_
    refine va_get (D := D) (ci := 2) (v := .ref cu) (C := cn_MI) (T := ft_MI) (N := 3) hx hb hf_MI (fun _ h => h) hown hK hP 0 rfl rfl 0 (by decide) (gw.at G hx0 mw_64 rfl _) (fun _ h9 => h9) rfl d_MI_join_147 ?_
    refine lv_astore (lv' := [(5, .ref cu), (3, .int (1 : Int32)), (10, .int (-1 : Int32)), (9, .int (-1 : Int32)), (7, .long ((0 : Int64) + ((1 : Int64) * ((rf 3).toInt64)))), (6, .int (8 : Int32)), (4, .int (5 : Int32)), (0, .ref mi), (1, .ref rl), (2, .int (0 : Int32))]) hx hb d_MI_join_150 hl (by decide) rfl (fun ls hl => ?_)
    refine lv_aload_n hx hb d_MI_join_152 rfl (lv_at hl 7 rfl) ?_
    refine lv_aload_n hx hb d_MI_join_153 rfl (lv_at hl 7 rfl) ?_
    refine va_get (D := D) (ci := 2) (v := .ref nx) (C := cn_MI) (T := ft_MI) (N := 3) hx hb hf_MI (fun _ h => h) hown hK hP 0 rfl rfl 1 (by decide) (gw.at G hx0 mw_65 rfl _) (fun _ h9 => h9) rfl d_MI_join_154 ?_
    refine va_put (D := D) (ci := 2) (v := .ref nx) (ty := .array .long) (C := cn_MI) (T := ft_MI) (N := 3) hx hb hf_MI (fun _ h => h) fy_MI fk_MI fn_MI hown hK hP hD hS 0 rfl rfl 0 (by decide) (gw.at G hx0 mw_64 rfl _) (fun _ h9 => h9) rfl (by decide +kernel) rfl rfl (Nat.le_of_ble_eq_true rfl) d_MI_join_157 (fun H locs hP hD hS => ?_)
    have hP : va_P D kl [(mi, .inr (2, [.ref nx, .ref nx, .int (0 : Int32)])), (cu, .inl (cJ, 16, .inr (.inl (vp_updL cf 0 (1 : Int64))))), (nx, .inl (cJ, 16, .inr (.inl (vp_updL (vp_updL (vp_updL (vp_updL nf 1 ((0 : Int64) + ((1 : Int64) * ((rf 0).toInt64)))) 2 ((0 : Int64) + ((1 : Int64) * ((rf 1).toInt64)))) 4 ((0 : Int64) + ((1 : Int64) * ((rf 2).toInt64)))) 8 ((0 : Int64) + ((1 : Int64) * ((rf 3).toInt64))))))), (rl, .inr (1, [.ref rc, .int (1 : Int32), .int (8 : Int32)])), (rc, .inl (cI, 32, .inl rf))] H := hP
    have hD : va_D A [(mi, .inr (2, [.ref nx, .ref nx, .int (0 : Int32)])), (cu, .inl (cJ, 16, .inr (.inl (vp_updL cf 0 (1 : Int64))))), (nx, .inl (cJ, 16, .inr (.inl (vp_updL (vp_updL (vp_updL (vp_updL nf 1 ((0 : Int64) + ((1 : Int64) * ((rf 0).toInt64)))) 2 ((0 : Int64) + ((1 : Int64) * ((rf 1).toInt64)))) 4 ((0 : Int64) + ((1 : Int64) * ((rf 2).toInt64)))) 8 ((0 : Int64) + ((1 : Int64) * ((rf 3).toInt64))))))), (rl, .inr (1, [.ref rc, .int (1 : Int32), .int (8 : Int32)])), (rc, .inl (cI, 32, .inl rf))] := hD
    refine lv_aload_n hx hb d_MI_join_160 rfl (lv_at hl 7 rfl) ?_
    refine lv_aload hx hb d_MI_join_161 (lv_at hl 0 rfl) ?_
    refine va_put (D := D) (ci := 2) (v := .ref cu) (ty := .array .long) (C := cn_MI) (T := ft_MI) (N := 3) hx hb hf_MI (fun _ h => h) fy_MI fk_MI fn_MI hown hK hP hD hS 0 rfl rfl 1 (by decide) (gw.at G hx0 mw_65 rfl _) (fun _ h9 => h9) rfl (by decide +kernel) rfl rfl (Nat.le_of_ble_eq_true rfl) d_MI_join_163 (fun H locs hP hD hS => ?_)
    have hP : va_P D kl [(mi, .inr (2, [.ref nx, .ref cu, .int (0 : Int32)])), (cu, .inl (cJ, 16, .inr (.inl (vp_updL cf 0 (1 : Int64))))), (nx, .inl (cJ, 16, .inr (.inl (vp_updL (vp_updL (vp_updL (vp_updL nf 1 ((0 : Int64) + ((1 : Int64) * ((rf 0).toInt64)))) 2 ((0 : Int64) + ((1 : Int64) * ((rf 1).toInt64)))) 4 ((0 : Int64) + ((1 : Int64) * ((rf 2).toInt64)))) 8 ((0 : Int64) + ((1 : Int64) * ((rf 3).toInt64))))))), (rl, .inr (1, [.ref rc, .int (1 : Int32), .int (8 : Int32)])), (rc, .inl (cI, 32, .inl rf))] H := hP
    have hD : va_D A [(mi, .inr (2, [.ref nx, .ref cu, .int (0 : Int32)])), (cu, .inl (cJ, 16, .inr (.inl (vp_updL cf 0 (1 : Int64))))), (nx, .inl (cJ, 16, .inr (.inl (vp_updL (vp_updL (vp_updL (vp_updL nf 1 ((0 : Int64) + ((1 : Int64) * ((rf 0).toInt64)))) 2 ((0 : Int64) + ((1 : Int64) * ((rf 1).toInt64)))) 4 ((0 : Int64) + ((1 : Int64) * ((rf 2).toInt64)))) 8 ((0 : Int64) + ((1 : Int64) * ((rf 3).toInt64))))))), (rl, .inr (1, [.ref rc, .int (1 : Int32), .int (8 : Int32)])), (rc, .inl (cI, 32, .inl rf))] := hD
    refine lv_aload_n hx hb d_MI_join_166 rfl (lv_at hl 7 rfl) ?_
    refine lv_dup hx hb d_MI_join_167 rfl ?_
    refine va_get (D := D) (ci := 2) (v := .int (0 : Int32)) (C := cn_MI) (T := ft_MI) (N := 3) hx hb hf_MI (fun _ h => h) hown hK hP 0 rfl rfl 2 (by decide) (gw.at G hx0 mw_66 rfl _) (fun _ h9 => h9) rfl d_MI_join_168 ?_
    refine lv_iconst (v := (1 : Int32)) hx hb d_MI_join_171 (by decide) ?_
    refine lv_iadd hx hb d_MI_join_172 ?_
    refine tp_i (y := (1 : Int32)) (by decide) ?_
    refine va_put (D := D) (ci := 2) (v := .int (1 : Int32)) (ty := .int) (C := cn_MI) (T := ft_MI) (N := 3) hx hb hf_MI (fun _ h => h) fy_MI fk_MI fn_MI hown hK hP hD hS 0 rfl rfl 2 (by decide) (gw.at G hx0 mw_66 rfl _) (fun _ h9 => h9) rfl (by decide +kernel) rfl rfl (Nat.le_of_ble_eq_true rfl) d_MI_join_173 (fun H locs hP hD hS => ?_)
    have hP : va_P D kl [(mi, .inr (2, [.ref nx, .ref cu, .int (1 : Int32)])), (cu, .inl (cJ, 16, .inr (.inl (vp_updL cf 0 (1 : Int64))))), (nx, .inl (cJ, 16, .inr (.inl (vp_updL (vp_updL (vp_updL (vp_updL nf 1 ((0 : Int64) + ((1 : Int64) * ((rf 0).toInt64)))) 2 ((0 : Int64) + ((1 : Int64) * ((rf 1).toInt64)))) 4 ((0 : Int64) + ((1 : Int64) * ((rf 2).toInt64)))) 8 ((0 : Int64) + ((1 : Int64) * ((rf 3).toInt64))))))), (rl, .inr (1, [.ref rc, .int (1 : Int32), .int (8 : Int32)])), (rc, .inl (cI, 32, .inl rf))] H := hP
    have hD : va_D A [(mi, .inr (2, [.ref nx, .ref cu, .int (1 : Int32)])), (cu, .inl (cJ, 16, .inr (.inl (vp_updL cf 0 (1 : Int64))))), (nx, .inl (cJ, 16, .inr (.inl (vp_updL (vp_updL (vp_updL (vp_updL nf 1 ((0 : Int64) + ((1 : Int64) * ((rf 0).toInt64)))) 2 ((0 : Int64) + ((1 : Int64) * ((rf 1).toInt64)))) 4 ((0 : Int64) + ((1 : Int64) * ((rf 2).toInt64)))) 8 ((0 : Int64) + ((1 : Int64) * ((rf 3).toInt64))))))), (rl, .inr (1, [.ref rc, .int (1 : Int32), .int (8 : Int32)])), (rc, .inl (cI, 32, .inl rf))] := hD
    exact tx_mono (fun _ h => tx_Z.of h) (W.vret hx hb hr (fun t ht hW => ⟨⟨[(mi, .inr (2, [.ref nx, .ref cu, .int (1 : Int32)])), (nx, .inl (cJ, 16, .inr (.inl (vp_updL (vp_updL (vp_updL (vp_updL nf 1 ((0 : Int64) + ((1 : Int64) * ((rf 0).toInt64)))) 2 ((0 : Int64) + ((1 : Int64) * ((rf 1).toInt64)))) 4 ((0 : Int64) + ((1 : Int64) * ((rf 2).toInt64)))) 8 ((0 : Int64) + ((1 : Int64) * ((rf 3).toInt64))))))), (cu, .inl (cJ, 16, .inr (.inl (vp_updL cf 0 (1 : Int64))))), (rl, .inr (1, [.ref rc, .int (1 : Int32), .int (8 : Int32)])), (rc, .inl (cI, 32, .inl rf))], ⟨nx, cu, (vp_updL (vp_updL (vp_updL (vp_updL nf 1 ((0 : Int64) + ((1 : Int64) * ((rf 0).toInt64)))) 2 ((0 : Int64) + ((1 : Int64) * ((rf 1).toInt64)))) 4 ((0 : Int64) + ((1 : Int64) * ((rf 2).toInt64)))) 8 ((0 : Int64) + ((1 : Int64) * ((rf 3).toInt64)))), (vp_updL cf 0 (1 : Int64)), (1 : Int32), rfl, rfl⟩, by rw [ht]; exact hP.sub [0, 2, 1, 3, 4] rfl, hD.sub [0, 2, 1, 3, 4] (by decide) rfl⟩, hS.F ht⟩) hS.2.2 d_MI_join_176)

set_option maxHeartbeats 4000000 in
set_option maxRecDepth 100000 in
theorem c_MI_load0 {l : Launch} {s0 : State} {b0 : Addr} {D : va_G} {cI cJ cZ : ClassId} {tC tS : Nat} (E : gE l s0 b0 D cI cJ cZ tC tS) (sz : Nat) (mi : Nat) (cu : Nat) (nx : Nat) (rl : Nat) (rc : Nat) (cf : Nat → Int64) (nf : Nat → Int64) (rf : Nat → Int32) (jz : Int32) : cx_M l s0 D kl y_MI_load b_MI_load 4 (some .int) ({ frames := 1, cells := 0, slots := 0, locals := 30 } : Room) 0 0 [.ref mi, .ref rl, .int (1 : Int32)] [(mi, .inr (2, [.ref cu, .ref nx, .int jz])), (cu, .inl (cJ, 16, .inr (.inl cf))), (nx, .inl (cJ, 16, .inr (.inl nf))), (rl, .inr (1, [.ref rc, .int (1 : Int32), .int (8 : Int32)])), (rc, .inl (cI, 32, .inl rf))] sz (fun o9 _ w9 => ∃ (ca : Nat) (nb : Nat) (fa : Nat → Int64) (fb : Nat → Int64) (jo : Int32), o9 = .returned (some (.int jo)) ∧ w9 = [(mi, .inr (2, [.ref ca, .ref nb, .int jo])), (ca, .inl (cJ, 16, .inr (.inl fa))), (nb, .inl (cJ, 16, .inr (.inl fb))), (rl, .inr (1, [.ref rc, .int (1 : Int32), .int (8 : Int32)])), (rc, .inl (cI, 32, .inl rf))]) := by
  refine tx_ofW (cc := b_MI_load) (maxL := 4) (ret := (some .int)) (by decide) rfl ?_
  intro p e s m args below meth c s₁ B hml hT hv
  obtain ⟨rfl, hsz, hP, hD0, hx0⟩ := hv
  have hx := B.exec
  have hb := B.bytes
  have hr := B.returns
  have G := E.2.1
  have hown : s.vm.findClass cn_MI = some m.cls := findClass_of_methodNamed B.named
  have hlocks := B.notSynchronized
  have hK := va_K.moved hx0.1.alike E.2.2.1
  have hf_MI : ∀ w99 ∈ u_ws cn_MI ft_MI 3, w99.before ([.ref mi, .ref rl, .int (1 : Int32)] : List Value).toArray s = true := fun w99 h99 => gw.at G hx0 (fw_MI w99 h99) (fo_MI w99 h99) _
  have hf_PL : ∀ w99 ∈ u_ws cn_PL ft_PL 3, w99.before ([.ref mi, .ref rl, .int (1 : Int32)] : List Value).toArray s = true := fun w99 h99 => gw.at G hx0 (fw_PL w99 h99) (fo_PL w99 h99) _
  subst hsz
  have hA0 := cx_new hD0 hx0.2.1
  have hD := hD0.self (sz := s.heap.size)
  generalize hAe : va_A [(mi, .inr (2, [.ref cu, .ref nx, .int jz])), (cu, .inl (cJ, 16, .inr (.inl cf))), (nx, .inl (cJ, 16, .inr (.inl nf))), (rl, .inr (1, [.ref rc, .int (1 : Int32), .int (8 : Int32)])), (rc, .inl (cI, 32, .inl rf))] s.heap.size = A at hD hA0 ⊢
  have hA : ∀ q : Nat, s.heap.size ≤ q → A q := fun q h => by rw [← hAe]; exact Or.inr h
  have hS : va_S A s.heap s.heap [] := va_S.rf
  have hl := lv_entry ([.ref mi, .ref rl, .int (1 : Int32)]) (n := 4) (Nat.le_of_ble_eq_true rfl)
  rw [lg_entry_eq]
  generalize (lg_sl ([.ref mi, .ref rl, .int (1 : Int32)]) ++ List.replicate (4 - (lg_sl ([.ref mi, .ref rl, .int (1 : Int32)])).length) Slot.unset).toArray = ls at hl ⊢
  have hl : lv_has ls 4 [(0, .ref mi), (1, .ref rl), (2, .int (1 : Int32))] := hl
  have hP : va_P D kl [(mi, .inr (2, [.ref cu, .ref nx, .int jz])), (cu, .inl (cJ, 16, .inr (.inl cf))), (nx, .inl (cJ, 16, .inr (.inl nf))), (rl, .inr (1, [.ref rc, .int (1 : Int32), .int (8 : Int32)])), (rc, .inl (cI, 32, .inl rf))] s.heap := hP
  have hml : c.maxLocals = 4 := hml
  refine lv_aload_n hx hb d_MI_load_0 rfl (lv_at hl 0 rfl) ?_
  refine lv_iconst (v := (0 : Int32)) hx hb d_MI_load_1 (by decide) ?_
  refine va_put (D := D) (ci := 2) (v := .int (0 : Int32)) (ty := .int) (C := cn_MI) (T := ft_MI) (N := 3) hx hb hf_MI (fun _ h => h) fy_MI fk_MI fn_MI hown hK hP hD hS 0 rfl rfl 2 (by decide) (gw.at G hx0 mw_66 rfl _) (fun _ h9 => h9) rfl (by decide +kernel) rfl rfl (Nat.le_of_ble_eq_true rfl) d_MI_load_2 (fun H locs hP hD hS => ?_)
  have hP : va_P D kl [(mi, .inr (2, [.ref cu, .ref nx, .int (0 : Int32)])), (cu, .inl (cJ, 16, .inr (.inl cf))), (nx, .inl (cJ, 16, .inr (.inl nf))), (rl, .inr (1, [.ref rc, .int (1 : Int32), .int (8 : Int32)])), (rc, .inl (cI, 32, .inl rf))] H := hP
  have hD : va_D A [(mi, .inr (2, [.ref cu, .ref nx, .int (0 : Int32)])), (cu, .inl (cJ, 16, .inr (.inl cf))), (nx, .inl (cJ, 16, .inr (.inl nf))), (rl, .inr (1, [.ref rc, .int (1 : Int32), .int (8 : Int32)])), (rc, .inl (cI, 32, .inl rf))] := hD
  refine lv_aload_n hx hb d_MI_load_5 rfl (lv_at hl 0 rfl) ?_
  refine va_get (D := D) (ci := 2) (v := .ref cu) (C := cn_MI) (T := ft_MI) (N := 3) hx hb hf_MI (fun _ h => h) hown hK hP 0 rfl rfl 0 (by decide) (gw.at G hx0 mw_64 rfl _) (fun _ h9 => h9) rfl d_MI_load_6 ?_
  refine lv_iconst (v := (0 : Int32)) hx hb d_MI_load_9 (by decide) ?_
  refine lv_lconst (v := (1 : Int64)) hx hb d_MI_load_10 (by decide) ?_
  refine va_last hx hb hK hP hD hS 1 1 rfl rfl (vp_in_iff.mpr (by decide)) d_MI_load_11 (fun H locs hP hD hS => ?_)
  have hP : va_P D kl [(mi, .inr (2, [.ref cu, .ref nx, .int (0 : Int32)])), (cu, .inl (cJ, 16, .inr (.inl (vp_updL cf 0 (1 : Int64))))), (nx, .inl (cJ, 16, .inr (.inl nf))), (rl, .inr (1, [.ref rc, .int (1 : Int32), .int (8 : Int32)])), (rc, .inl (cI, 32, .inl rf))] H := hP
  have hD : va_D A [(mi, .inr (2, [.ref cu, .ref nx, .int (0 : Int32)])), (cu, .inl (cJ, 16, .inr (.inl (vp_updL cf 0 (1 : Int64))))), (nx, .inl (cJ, 16, .inr (.inl nf))), (rl, .inr (1, [.ref rc, .int (1 : Int32), .int (8 : Int32)])), (rc, .inl (cI, 32, .inl rf))] := hD
  refine lv_iconst (v := (0 : Int32)) hx hb d_MI_load_12 (by decide) ?_
  refine lv_istore_n (lv' := [(3, .int (0 : Int32)), (0, .ref mi), (1, .ref rl), (2, .int (1 : Int32))]) hx hb d_MI_load_13 rfl hl (by decide) rfl (fun ls hl => ?_)
  refine lv_iload_n hx hb d_MI_load_14 rfl (lv_at hl 0 rfl) ?_
  refine lv_aload_n hx hb d_MI_load_15 rfl (lv_at hl 2 rfl) ?_
  refine va_get (D := D) (ci := 1) (v := .int (1 : Int32)) (C := cn_PL) (T := ft_PL) (N := 3) hx hb hf_PL (fun _ h => h) hown hK hP 3 rfl rfl 1 (by decide) (gw.at G hx0 mw_44 rfl _) (fun _ h9 => h9) rfl d_MI_load_16 ?_
  refine lv_icmp_ge (tgt := 50) hx hb d_MI_load_19 (by decide) (fun h99 => absurd h99 (by decide)) (fun _ => ?_)
  refine lv_aload_n hx hb d_MI_load_22 rfl (lv_at hl 1 rfl) ?_
  refine va_get (D := D) (ci := 2) (v := .int (0 : Int32)) (C := cn_MI) (T := ft_MI) (N := 3) hx hb hf_MI (fun _ h => h) hown hK hP 0 rfl rfl 2 (by decide) (gw.at G hx0 mw_66 rfl _) (fun _ h9 => h9) rfl d_MI_load_23 ?_
  refine lv_iconst (v := (4 : Int32)) hx hb d_MI_load_26 (by decide) ?_
  refine lv_icmp_ge (tgt := 50) hx hb d_MI_load_27 (by decide) (fun h99 => absurd h99 (by decide)) (fun _ => ?_)
  refine lv_iload_n hx hb d_MI_load_30 rfl (lv_at hl 3 rfl) ?_
  refine lv_iload_n hx hb d_MI_load_31 rfl (lv_at hl 0 rfl) ?_
  refine cx_call (D := D) (cl := kl) (ws := _) (wc := []) (wr := [(mi, .inr (2, [.ref cu, .ref nx, .int (0 : Int32)])), (cu, .inl (cJ, 16, .inr (.inl (vp_updL cf 0 (1 : Int64))))), (nx, .inl (cJ, 16, .inr (.inl nf))), (rl, .inr (1, [.ref rc, .int (1 : Int32), .int (8 : Int32)])), (rc, .inl (cI, 32, .inl rf))]) (tx_runSN (As := [.int (1 : Int32), .int (0 : Int32)]) (rest := []) hx hb hml hown (c_D_hasBit10 E H.size  ) (cx_C (b0 := b0) G hx0 mw_372 mw_1 ny_D_hasBit (by decide)) (gw.at G hx0 mw_370 rfl _) (gw.at G hx0 mw_371 rfl _) (gw.at G hx0 mw_1 rfl _) ⟨cx_blind, (cx_pre (s := s) hx0 hP hD hS hA0 [] rfl rfl (by decide))⟩ rfl rfl hl.1 rfl (lv_room (Nat.le_of_ble_eq_true rfl)) d_MI_load_32 ⟨by decide, by decide⟩) hP hD hS hA [] [0, 1, 2, 3, 4] rfl rfl (by decide) (by decide) (fun v t w1 H locs ht hW9 hp hP hD hS => ?_) (fun x t w1 H locs ht hW9 hp hP hD hS => by obtain ⟨h9, -⟩ := hp; cases h9)
  obtain ⟨h9, rfl⟩ := hp
  cases h9
  refine W.eq (g2 := F0 m 35 ls [.int (1 : Int32)]) rfl ?_
  refine W.widen (k := 0) (n := 0) (by decide) (by decide) ?_
  have hP : va_P D kl [(mi, .inr (2, [.ref cu, .ref nx, .int (0 : Int32)])), (cu, .inl (cJ, 16, .inr (.inl (vp_updL cf 0 (1 : Int64))))), (nx, .inl (cJ, 16, .inr (.inl nf))), (rl, .inr (1, [.ref rc, .int (1 : Int32), .int (8 : Int32)])), (rc, .inl (cI, 32, .inl rf))] H := hP
  have hD : va_D A [(mi, .inr (2, [.ref cu, .ref nx, .int (0 : Int32)])), (cu, .inl (cJ, 16, .inr (.inl (vp_updL cf 0 (1 : Int64))))), (nx, .inl (cJ, 16, .inr (.inl nf))), (rl, .inr (1, [.ref rc, .int (1 : Int32), .int (8 : Int32)])), (rc, .inl (cI, 32, .inl rf))] := hD
  refine lv_if_eq (tgt := 44) hx hb d_MI_load_35 (by decide) (fun h99 => absurd h99 (by decide)) (fun _ => ?_)
  refine lv_aload_n hx hb d_MI_load_38 rfl (lv_at hl 1 rfl) ?_
  refine lv_aload_n hx hb d_MI_load_39 rfl (lv_at hl 2 rfl) ?_
  refine lv_iload_n hx hb d_MI_load_40 rfl (lv_at hl 0 rfl) ?_
  refine cx_call (D := D) (cl := kl) (ws := _) (wc := [(mi, .inr (2, [.ref cu, .ref nx, .int (0 : Int32)])), (cu, .inl (cJ, 16, .inr (.inl (vp_updL cf 0 (1 : Int64))))), (nx, .inl (cJ, 16, .inr (.inl nf))), (rl, .inr (1, [.ref rc, .int (1 : Int32), .int (8 : Int32)])), (rc, .inl (cI, 32, .inl rf))]) (wr := []) (tx_runV (C := cn_MI) (b := mi) (As := [.ref rl, .int (0 : Int32)]) (rest := []) hx hb hml hown (c_MI_join0 E H.size mi cu nx rl rc cf nf rf ) (cx_C (b0 := b0) G hx0 mw_376 mw_4 ny_MI_join (by decide)) (gw.at G hx0 mw_373 rfl _) (gw.at G hx0 mw_375 rfl _) (gw.at G hx0 ms_MI_join rfl _) ⟨cx_blind, va_recv hK hP (q0 := 0) (ci := 2) (q := (cn_MI, ft_MI, 3)) rfl rfl, (cx_pre (s := s) hx0 hP hD hS hA0 [0, 1, 2, 3, 4] rfl rfl (by decide))⟩ rfl rfl hl.1 rfl (lv_room (Nat.le_of_ble_eq_true rfl)) d_MI_load_41 ⟨by decide, by decide⟩) hP hD hS hA [0, 1, 2, 3, 4] [] rfl rfl (by decide) (by decide) (fun v t w1 H locs ht hW9 hp hP hD hS => ?_) (fun x t w1 H locs ht hW9 hp hP hD hS => by obtain ⟨_, _, _, _, _, h9, -⟩ := hp; cases h9)
  obtain ⟨ca_1, nb_2, fa_3, fb_4, jo_5, h9, rfl⟩ := hp
  cases h9
  refine W.eq (g2 := F0 m 44 ls []) rfl ?_
  refine W.widen (k := 0) (n := 0) (by decide) (by decide) ?_
  have hP : va_P D kl [(mi, .inr (2, [.ref ca_1, .ref nb_2, .int jo_5])), (ca_1, .inl (cJ, 16, .inr (.inl fa_3))), (nb_2, .inl (cJ, 16, .inr (.inl fb_4))), (rl, .inr (1, [.ref rc, .int (1 : Int32), .int (8 : Int32)])), (rc, .inl (cI, 32, .inl rf))] H := hP
  have hD : va_D A [(mi, .inr (2, [.ref ca_1, .ref nb_2, .int jo_5])), (ca_1, .inl (cJ, 16, .inr (.inl fa_3))), (nb_2, .inl (cJ, 16, .inr (.inl fb_4))), (rl, .inr (1, [.ref rc, .int (1 : Int32), .int (8 : Int32)])), (rc, .inl (cI, 32, .inl rf))] := hD
  refine lv_iinc (lv' := [(3, .int (1 : Int32)), (0, .ref mi), (1, .ref rl), (2, .int (1 : Int32))]) (k := 0) (v := (1 : Int32)) hx hb d_MI_load_44 hl rfl (by decide) (by decide) rfl (fun ls hl => ?_)
  refine lv_goto (tgt := 14) hx hb d_MI_load_47 (by decide) ?_
  refine lv_iload_n hx hb d_MI_load_14 rfl (lv_at hl 0 rfl) ?_
  refine lv_aload_n hx hb d_MI_load_15 rfl (lv_at hl 2 rfl) ?_
  refine va_get (D := D) (ci := 1) (v := .int (1 : Int32)) (C := cn_PL) (T := ft_PL) (N := 3) hx hb hf_PL (fun _ h => h) hown hK hP 3 rfl rfl 1 (by decide) (gw.at G hx0 mw_44 rfl _) (fun _ h9 => h9) rfl d_MI_load_16 ?_
  refine lv_icmp_ge (tgt := 50) hx hb d_MI_load_19 (by decide) (fun _ => ?_) (fun h99 => absurd h99 (by decide))
  refine lv_aload_n hx hb d_MI_load_50 rfl (lv_at hl 1 rfl) ?_
  refine va_get (D := D) (ci := 2) (v := .int jo_5) (C := cn_MI) (T := ft_MI) (N := 3) hx hb hf_MI (fun _ h => h) hown hK hP 0 rfl rfl 2 (by decide) (gw.at G hx0 mw_66 rfl _) (fun _ h9 => h9) rfl d_MI_load_51 ?_
  exact tx_mono (fun _ h => tx_Z.of h) (W.iret (v := jo_5) hx hb hr (fun t ht hW => ⟨⟨[(mi, .inr (2, [.ref ca_1, .ref nb_2, .int jo_5])), (ca_1, .inl (cJ, 16, .inr (.inl fa_3))), (nb_2, .inl (cJ, 16, .inr (.inl fb_4))), (rl, .inr (1, [.ref rc, .int (1 : Int32), .int (8 : Int32)])), (rc, .inl (cI, 32, .inl rf))], ⟨ca_1, nb_2, fa_3, fb_4, jo_5, rfl, rfl⟩, by rw [ht]; exact hP.sub [0, 1, 2, 3, 4] rfl, hD.sub [0, 1, 2, 3, 4] (by decide) rfl⟩, hS.F ht⟩) hS.2.2 d_MI_load_54)

set_option maxHeartbeats 4000000 in
set_option maxRecDepth 100000 in
theorem c_D_note0 {l : Launch} {s0 : State} {b0 : Addr} {D : va_G} {cI cJ cZ : ClassId} {tC tS : Nat} (E : gE l s0 b0 D cI cJ cZ tC tS) (sz : Nat) (d0 : Nat) (gv : Nat) (dr : Nat) (rl : Nat) (yl : Nat) (mi : Nat) (fl : Nat) (bf : Nat) (dm : Int32) (rk : Int32) (sp : Int32) (kn : Int32) (cu : Nat) (nx : Nat) (rc : Nat) (cf : Nat → Int64) (nf : Nat → Int64) (rf : Nat → Int32) (jz : Int32) : cx_M l s0 D kl y_D_noteChange b_D_noteChange 1 none ({ frames := 2, cells := 0, slots := 0, locals := 53 } : Room) 0 0 [.ref d0] [(d0, .inr (0, [.int dm, .ref gv, .ref dr, .ref rl, .ref yl, .ref mi, .ref fl, .ref bf, .int rk, .int sp, .int kn])), (mi, .inr (2, [.ref cu, .ref nx, .int jz])), (cu, .inl (cJ, 16, .inr (.inl cf))), (nx, .inl (cJ, 16, .inr (.inl nf))), (rl, .inr (1, [.ref rc, .int (1 : Int32), .int (8 : Int32)])), (rc, .inl (cI, 32, .inl rf))] sz (fun o9 _ w9 => ∃ (jo : Int32), o9 = .returned none ∧ w9 = [(d0, .inr (0, [.int dm, .ref gv, .ref dr, .ref rl, .ref yl, .ref mi, .ref fl, .ref bf, .int jo, .int sp, .int (0 : Int32)])), (rl, .inr (1, [.ref rc, .int (1 : Int32), .int (8 : Int32)])), (rc, .inl (cI, 32, .inl rf))]) := by
  refine tx_ofW (cc := b_D_noteChange) (maxL := 1) (ret := none) (by decide) rfl ?_
  intro p e s m args below meth c s₁ B hml hT hv
  obtain ⟨rfl, hsz, hP, hD0, hx0⟩ := hv
  have hx := B.exec
  have hb := B.bytes
  have hr := B.returns
  have G := E.2.1
  have hown : s.vm.findClass cn_D = some m.cls := findClass_of_methodNamed B.named
  have hlocks := B.notSynchronized
  have hK := va_K.moved hx0.1.alike E.2.2.1
  have hf_D : ∀ w99 ∈ u_ws cn_D ft_D 11, w99.before ([.ref d0] : List Value).toArray s = true := fun w99 h99 => gw.at G hx0 (fw_D w99 h99) (fo_D w99 h99) _
  have hf_PL : ∀ w99 ∈ u_ws cn_PL ft_PL 3, w99.before ([.ref d0] : List Value).toArray s = true := fun w99 h99 => gw.at G hx0 (fw_PL w99 h99) (fo_PL w99 h99) _
  subst hsz
  have hA0 := cx_new hD0 hx0.2.1
  have hD := hD0.self (sz := s.heap.size)
  generalize hAe : va_A [(d0, .inr (0, [.int dm, .ref gv, .ref dr, .ref rl, .ref yl, .ref mi, .ref fl, .ref bf, .int rk, .int sp, .int kn])), (mi, .inr (2, [.ref cu, .ref nx, .int jz])), (cu, .inl (cJ, 16, .inr (.inl cf))), (nx, .inl (cJ, 16, .inr (.inl nf))), (rl, .inr (1, [.ref rc, .int (1 : Int32), .int (8 : Int32)])), (rc, .inl (cI, 32, .inl rf))] s.heap.size = A at hD hA0 ⊢
  have hA : ∀ q : Nat, s.heap.size ≤ q → A q := fun q h => by rw [← hAe]; exact Or.inr h
  have hS : va_S A s.heap s.heap [] := va_S.rf
  have hl := lv_entry ([.ref d0]) (n := 1) (Nat.le_of_ble_eq_true rfl)
  rw [lg_entry_eq]
  generalize (lg_sl ([.ref d0]) ++ List.replicate (1 - (lg_sl ([.ref d0])).length) Slot.unset).toArray = ls at hl ⊢
  have hl : lv_has ls 1 [(0, .ref d0)] := hl
  have hP : va_P D kl [(d0, .inr (0, [.int dm, .ref gv, .ref dr, .ref rl, .ref yl, .ref mi, .ref fl, .ref bf, .int rk, .int sp, .int kn])), (mi, .inr (2, [.ref cu, .ref nx, .int jz])), (cu, .inl (cJ, 16, .inr (.inl cf))), (nx, .inl (cJ, 16, .inr (.inl nf))), (rl, .inr (1, [.ref rc, .int (1 : Int32), .int (8 : Int32)])), (rc, .inl (cI, 32, .inl rf))] s.heap := hP
  have hml : c.maxLocals = 1 := hml
  refine lv_aload_n hx hb d_D_noteChange_0 rfl (lv_at hl 0 rfl) ?_
  refine lv_aload_n hx hb d_D_noteChange_1 rfl (lv_at hl 0 rfl) ?_
  refine va_get (D := D) (ci := 0) (v := .ref mi) (C := cn_D) (T := ft_D) (N := 11) hx hb hf_D (fun _ h => h) hown hK hP 0 rfl rfl 5 (by decide) (gw.at G hx0 mw_199 rfl _) (fun _ h9 => h9) rfl d_D_noteChange_2 ?_
  refine lv_aload_n hx hb d_D_noteChange_5 rfl (lv_at hl 0 rfl) ?_
  refine va_get (D := D) (ci := 0) (v := .ref rl) (C := cn_D) (T := ft_D) (N := 11) hx hb hf_D (fun _ h => h) hown hK hP 0 rfl rfl 3 (by decide) (gw.at G hx0 mw_197 rfl _) (fun _ h9 => h9) rfl d_D_noteChange_6 ?_
  refine lv_aload_n hx hb d_D_noteChange_9 rfl (lv_at hl 0 rfl) ?_
  refine va_get (D := D) (ci := 0) (v := .ref rl) (C := cn_D) (T := ft_D) (N := 11) hx hb hf_D (fun _ h => h) hown hK hP 0 rfl rfl 3 (by decide) (gw.at G hx0 mw_197 rfl _) (fun _ h9 => h9) rfl d_D_noteChange_10 ?_
  refine va_get (D := D) (ci := 1) (v := .int (1 : Int32)) (C := cn_PL) (T := ft_PL) (N := 3) hx hb hf_PL (fun _ h => h) hown hK hP 4 rfl rfl 1 (by decide) (gw.at G hx0 mw_45 rfl _) (fun _ h9 => h9) rfl d_D_noteChange_13 ?_
  refine cx_call (D := D) (cl := kl) (ws := _) (wc := []) (wr := [(d0, .inr (0, [.int dm, .ref gv, .ref dr, .ref rl, .ref yl, .ref mi, .ref fl, .ref bf, .int rk, .int sp, .int kn])), (mi, .inr (2, [.ref cu, .ref nx, .int jz])), (cu, .inl (cJ, 16, .inr (.inl cf))), (nx, .inl (cJ, 16, .inr (.inl nf))), (rl, .inr (1, [.ref rc, .int (1 : Int32), .int (8 : Int32)])), (rc, .inl (cI, 32, .inl rf))]) (tx_runS (As := [.int (1 : Int32)]) (rest := [.ref rl, .ref mi, .ref d0]) hx hb hml hown (c_D_mask E s.heap.size (1 : Int32) ) (cx_C (b0 := b0) G hx0 mw_365 mw_1 ny_D_maskOfAll (by decide)) (gw.at G hx0 mw_363 rfl _) (gw.at G hx0 mw_364 rfl _) (gw.at G hx0 mw_1 rfl _) ⟨cx_blind, (cx_pre (s := s) hx0 hP hD hS hA0 [] rfl rfl (by decide))⟩ rfl rfl hl.1 rfl (lv_room (Nat.le_of_ble_eq_true rfl)) d_D_noteChange_16 ⟨by decide, by decide⟩) hP hD hS hA [] [0, 1, 2, 3, 4, 5] rfl rfl (by decide) (by decide) (fun v t w1 H locs ht hW9 hp hP hD hS => ?_) (fun x t w1 H locs ht hW9 hp hP hD hS => by obtain ⟨h9, -⟩ := hp; cases h9)
  obtain ⟨h9, rfl⟩ := hp
  cases h9
  refine W.eq (g2 := F0 m 19 ls [.int ((1 : Int32) <<< ((1 : Int32) &&& 31) - (1 : Int32)), .ref rl, .ref mi, .ref d0]) rfl ?_
  refine W.widen (k := 0) (n := 0) (by decide) (by decide) ?_
  have hP : va_P D kl [(d0, .inr (0, [.int dm, .ref gv, .ref dr, .ref rl, .ref yl, .ref mi, .ref fl, .ref bf, .int rk, .int sp, .int kn])), (mi, .inr (2, [.ref cu, .ref nx, .int jz])), (cu, .inl (cJ, 16, .inr (.inl cf))), (nx, .inl (cJ, 16, .inr (.inl nf))), (rl, .inr (1, [.ref rc, .int (1 : Int32), .int (8 : Int32)])), (rc, .inl (cI, 32, .inl rf))] H := hP
  have hD : va_D A [(d0, .inr (0, [.int dm, .ref gv, .ref dr, .ref rl, .ref yl, .ref mi, .ref fl, .ref bf, .int rk, .int sp, .int kn])), (mi, .inr (2, [.ref cu, .ref nx, .int jz])), (cu, .inl (cJ, 16, .inr (.inl cf))), (nx, .inl (cJ, 16, .inr (.inl nf))), (rl, .inr (1, [.ref rc, .int (1 : Int32), .int (8 : Int32)])), (rc, .inl (cI, 32, .inl rf))] := hD
  refine tp_i (y := (1 : Int32)) (by decide) ?_
  refine cx_call (D := D) (cl := kl) (ws := _) (wc := [(mi, .inr (2, [.ref cu, .ref nx, .int jz])), (cu, .inl (cJ, 16, .inr (.inl cf))), (nx, .inl (cJ, 16, .inr (.inl nf))), (rl, .inr (1, [.ref rc, .int (1 : Int32), .int (8 : Int32)])), (rc, .inl (cI, 32, .inl rf))]) (wr := [(d0, .inr (0, [.int dm, .ref gv, .ref dr, .ref rl, .ref yl, .ref mi, .ref fl, .ref bf, .int rk, .int sp, .int kn]))]) (tx_runV (C := cn_MI) (b := mi) (As := [.ref rl, .int (1 : Int32)]) (rest := [.ref d0]) hx hb hml hown (c_MI_load0 E H.size mi cu nx rl rc cf nf rf jz ) (cx_C (b0 := b0) G hx0 mw_369 mw_4 ny_MI_load (by decide)) (gw.at G hx0 mw_366 rfl _) (gw.at G hx0 mw_367 rfl _) (gw.at G hx0 mw_368 rfl _) ⟨cx_blind, va_recv hK hP (q0 := 1) (ci := 2) (q := (cn_MI, ft_MI, 3)) rfl rfl, (cx_pre (s := s) hx0 hP hD hS hA0 [1, 2, 3, 4, 5] rfl rfl (by decide))⟩ rfl rfl hl.1 rfl (lv_room (Nat.le_of_ble_eq_true rfl)) d_D_noteChange_19 ⟨by decide, by decide⟩) hP hD hS hA [1, 2, 3, 4, 5] [0] rfl rfl (by decide) (by decide) (fun v t w1 H locs ht hW9 hp hP hD hS => ?_) (fun x t w1 H locs ht hW9 hp hP hD hS => by obtain ⟨_, _, _, _, _, h9, -⟩ := hp; cases h9)
  obtain ⟨ca_1, nb_2, fa_3, fb_4, jo_5, h9, rfl⟩ := hp
  cases h9
  refine W.eq (g2 := F0 m 22 ls [.int jo_5, .ref d0]) rfl ?_
  refine W.widen (k := 0) (n := 0) (by decide) (by decide) ?_
  have hP : va_P D kl [(d0, .inr (0, [.int dm, .ref gv, .ref dr, .ref rl, .ref yl, .ref mi, .ref fl, .ref bf, .int rk, .int sp, .int kn])), (mi, .inr (2, [.ref ca_1, .ref nb_2, .int jo_5])), (ca_1, .inl (cJ, 16, .inr (.inl fa_3))), (nb_2, .inl (cJ, 16, .inr (.inl fb_4))), (rl, .inr (1, [.ref rc, .int (1 : Int32), .int (8 : Int32)])), (rc, .inl (cI, 32, .inl rf))] H := hP
  have hD : va_D A [(d0, .inr (0, [.int dm, .ref gv, .ref dr, .ref rl, .ref yl, .ref mi, .ref fl, .ref bf, .int rk, .int sp, .int kn])), (mi, .inr (2, [.ref ca_1, .ref nb_2, .int jo_5])), (ca_1, .inl (cJ, 16, .inr (.inl fa_3))), (nb_2, .inl (cJ, 16, .inr (.inl fb_4))), (rl, .inr (1, [.ref rc, .int (1 : Int32), .int (8 : Int32)])), (rc, .inl (cI, 32, .inl rf))] := hD
  refine va_put (D := D) (ci := 0) (v := .int jo_5) (ty := .int) (C := cn_D) (T := ft_D) (N := 11) hx hb hf_D (fun _ h => h) fy_D fk_D fn_D hown hK hP hD hS 0 rfl rfl 8 (by decide) (gw.at G hx0 mw_202 rfl _) (fun _ h9 => h9) rfl (by decide +kernel) rfl rfl (Nat.le_of_ble_eq_true rfl) d_D_noteChange_22 (fun H locs hP hD hS => ?_)
  have hP : va_P D kl [(d0, .inr (0, [.int dm, .ref gv, .ref dr, .ref rl, .ref yl, .ref mi, .ref fl, .ref bf, .int jo_5, .int sp, .int kn])), (mi, .inr (2, [.ref ca_1, .ref nb_2, .int jo_5])), (ca_1, .inl (cJ, 16, .inr (.inl fa_3))), (nb_2, .inl (cJ, 16, .inr (.inl fb_4))), (rl, .inr (1, [.ref rc, .int (1 : Int32), .int (8 : Int32)])), (rc, .inl (cI, 32, .inl rf))] H := hP
  have hD : va_D A [(d0, .inr (0, [.int dm, .ref gv, .ref dr, .ref rl, .ref yl, .ref mi, .ref fl, .ref bf, .int jo_5, .int sp, .int kn])), (mi, .inr (2, [.ref ca_1, .ref nb_2, .int jo_5])), (ca_1, .inl (cJ, 16, .inr (.inl fa_3))), (nb_2, .inl (cJ, 16, .inr (.inl fb_4))), (rl, .inr (1, [.ref rc, .int (1 : Int32), .int (8 : Int32)])), (rc, .inl (cI, 32, .inl rf))] := hD
  refine lv_aload_n hx hb d_D_noteChange_25 rfl (lv_at hl 0 rfl) ?_
  refine lv_iconst (v := (0 : Int32)) hx hb d_D_noteChange_26 (by decide) ?_
  refine va_put (D := D) (ci := 0) (v := .int (0 : Int32)) (ty := .int) (C := cn_D) (T := ft_D) (N := 11) hx hb hf_D (fun _ h => h) fy_D fk_D fn_D hown hK hP hD hS 0 rfl rfl 10 (by decide) (gw.at G hx0 mw_204 rfl _) (fun _ h9 => h9) rfl (by decide +kernel) rfl rfl (Nat.le_of_ble_eq_true rfl) d_D_noteChange_27 (fun H locs hP hD hS => ?_)
  have hP : va_P D kl [(d0, .inr (0, [.int dm, .ref gv, .ref dr, .ref rl, .ref yl, .ref mi, .ref fl, .ref bf, .int jo_5, .int sp, .int (0 : Int32)])), (mi, .inr (2, [.ref ca_1, .ref nb_2, .int jo_5])), (ca_1, .inl (cJ, 16, .inr (.inl fa_3))), (nb_2, .inl (cJ, 16, .inr (.inl fb_4))), (rl, .inr (1, [.ref rc, .int (1 : Int32), .int (8 : Int32)])), (rc, .inl (cI, 32, .inl rf))] H := hP
  have hD : va_D A [(d0, .inr (0, [.int dm, .ref gv, .ref dr, .ref rl, .ref yl, .ref mi, .ref fl, .ref bf, .int jo_5, .int sp, .int (0 : Int32)])), (mi, .inr (2, [.ref ca_1, .ref nb_2, .int jo_5])), (ca_1, .inl (cJ, 16, .inr (.inl fa_3))), (nb_2, .inl (cJ, 16, .inr (.inl fb_4))), (rl, .inr (1, [.ref rc, .int (1 : Int32), .int (8 : Int32)])), (rc, .inl (cI, 32, .inl rf))] := hD
  exact tx_mono (fun _ h => tx_Z.of h) (W.vret hx hb hr (fun t ht hW => ⟨⟨[(d0, .inr (0, [.int dm, .ref gv, .ref dr, .ref rl, .ref yl, .ref mi, .ref fl, .ref bf, .int jo_5, .int sp, .int (0 : Int32)])), (rl, .inr (1, [.ref rc, .int (1 : Int32), .int (8 : Int32)])), (rc, .inl (cI, 32, .inl rf))], ⟨jo_5, rfl, rfl⟩, by rw [ht]; exact hP.sub [0, 4, 5] rfl, hD.sub [0, 4, 5] (by decide) rfl⟩, hS.F ht⟩) hS.2.2 d_D_noteChange_30)

set_option maxHeartbeats 4000000 in
set_option maxRecDepth 100000 in
theorem c_D_add_n {l : Launch} {s0 : State} {b0 : Addr} {D : va_G} {cI cJ cZ : ClassId} {tC tS : Nat} (E : gE l s0 b0 D cI cJ cZ tC tS) (sz : Nat) (d0 : Nat) (gv : Nat) (dr : Nat) (rl : Nat) (yl : Nat) (mi : Nat) (fl : Nat) (bf : Nat) (dm : Int32) (rk : Int32) (sp : Int32) (kn : Int32) (a : Int32) (b : Int32) (c2 : Int32) (d2 : Int32) (g : Nat → Int32) (h : ¬ iw (5 : Int32) a b (tk_c dm c2) (tk_d dm d2)) : cx_M l s0 D kl y_D_add b_D_add 5 (some .int) ({ frames := 6, cells := 1, slots := 6, locals := 82 } : Room) 1 6 [.ref d0, .int a, .int b, .int c2, .int d2] [(d0, .inr (0, [.int dm, .ref gv, .ref dr, .ref rl, .ref yl, .ref mi, .ref fl, .ref bf, .int rk, .int sp, .int kn])), (gv, .inl (cI, 4, .inl g))] sz (fun o9 t9 w9 => ∃ (x9 : Nat), o9 = .threw x9 ∧ tx_X ex_a x9 t9 ∧ w9 = [(d0, .inr (0, [.int dm, .ref gv, .ref dr, .ref rl, .ref yl, .ref mi, .ref fl, .ref bf, .int rk, .int sp, .int kn]))]) := by
  refine tx_ofW (cc := b_D_add) (maxL := 5) (ret := (some .int)) (by decide) rfl ?_
  intro p e s m args below meth c s₁ B hml hT hv
  obtain ⟨rfl, hsz, hP, hD0, hx0⟩ := hv
  have hx := B.exec
  have hb := B.bytes
  have hr := B.returns
  have G := E.2.1
  have hown : s.vm.findClass cn_D = some m.cls := findClass_of_methodNamed B.named
  have hlocks := B.notSynchronized
  have hK := va_K.moved hx0.1.alike E.2.2.1
  subst hsz
  have hA0 := cx_new hD0 hx0.2.1
  have hD := hD0.self (sz := s.heap.size)
  generalize hAe : va_A [(d0, .inr (0, [.int dm, .ref gv, .ref dr, .ref rl, .ref yl, .ref mi, .ref fl, .ref bf, .int rk, .int sp, .int kn])), (gv, .inl (cI, 4, .inl g))] s.heap.size = A at hD hA0 ⊢
  have hA : ∀ q : Nat, s.heap.size ≤ q → A q := fun q h => by rw [← hAe]; exact Or.inr h
  have hS : va_S A s.heap s.heap [] := va_S.rf
  have hl := lv_entry ([.ref d0, .int a, .int b, .int c2, .int d2]) (n := 5) (Nat.le_of_ble_eq_true rfl)
  rw [lg_entry_eq]
  generalize (lg_sl ([.ref d0, .int a, .int b, .int c2, .int d2]) ++ List.replicate (5 - (lg_sl ([.ref d0, .int a, .int b, .int c2, .int d2])).length) Slot.unset).toArray = ls at hl ⊢
  have hl : lv_has ls 5 [(0, .ref d0), (1, .int a), (2, .int b), (3, .int c2), (4, .int d2)] := hl
  have hP : va_P D kl [(d0, .inr (0, [.int dm, .ref gv, .ref dr, .ref rl, .ref yl, .ref mi, .ref fl, .ref bf, .int rk, .int sp, .int kn])), (gv, .inl (cI, 4, .inl g))] s.heap := hP
  have hml : c.maxLocals = 5 := hml
  refine lv_aload_n hx hb d_D_add_0 rfl (lv_at hl 0 rfl) ?_
  refine lv_iload_n hx hb d_D_add_1 rfl (lv_at hl 1 rfl) ?_
  refine lv_iload_n hx hb d_D_add_2 rfl (lv_at hl 2 rfl) ?_
  refine lv_iload_n hx hb d_D_add_3 rfl (lv_at hl 3 rfl) ?_
  refine lv_iload hx hb d_D_add_4 (lv_at hl 4 rfl) ?_
  refine cx_call (D := D) (cl := kl) (ws := _) (wc := [(d0, .inr (0, [.int dm, .ref gv, .ref dr, .ref rl, .ref yl, .ref mi, .ref fl, .ref bf, .int rk, .int sp, .int kn])), (gv, .inl (cI, 4, .inl g))]) (wr := []) (tx_runV (C := cn_D) (b := d0) (As := [.int a, .int b, .int c2, .int d2]) (rest := []) hx hb hml hown (c_D_take E s.heap.size d0 gv dr rl yl mi fl bf dm rk sp kn a b c2 d2 g ) (cx_C (b0 := b0) G hx0 mw_239 mw_1 ny_D_take (by decide)) (gw.at G hx0 mw_236 rfl _) (gw.at G hx0 mw_238 rfl _) (gw.at G hx0 ms_D_take rfl _) ⟨cx_blind, va_recv hK hP (q0 := 0) (ci := 0) (q := (cn_D, ft_D, 11)) rfl rfl, (cx_pre (s := s) hx0 hP hD hS hA0 [0, 1] rfl rfl (by decide))⟩ rfl rfl hl.1 rfl (lv_room (Nat.le_of_ble_eq_true rfl)) d_D_add_6 ⟨by decide, by decide⟩) hP hD hS hA [0, 1] [] rfl rfl (by decide) (by decide) (fun v t w1 H locs ht hW9 hp hP hD hS => ?_) (fun x t w1 H locs ht hW9 hp hP hD hS => by obtain ⟨h9, -⟩ := hp; cases h9)
  obtain ⟨h9, rfl⟩ := hp
  cases h9
  refine W.eq (g2 := F0 m 9 ls []) rfl ?_
  refine W.widen (k := 0) (n := 0) (by decide) (by decide) ?_
  have hP : va_P D kl [(d0, .inr (0, [.int dm, .ref gv, .ref dr, .ref rl, .ref yl, .ref mi, .ref fl, .ref bf, .int rk, .int sp, .int kn])), (gv, .inl (cI, 4, .inl (upd (upd (upd (upd g 0 a) 1 b) 2 (tk_c dm c2)) 3 (tk_d dm d2))))] H := hP
  have hD : va_D A [(d0, .inr (0, [.int dm, .ref gv, .ref dr, .ref rl, .ref yl, .ref mi, .ref fl, .ref bf, .int rk, .int sp, .int kn])), (gv, .inl (cI, 4, .inl (upd (upd (upd (upd g 0 a) 1 b) 2 (tk_c dm c2)) 3 (tk_d dm d2))))] := hD
  refine lv_aload_n hx hb d_D_add_9 rfl (lv_at hl 0 rfl) ?_
  refine lv_iconst (v := (5 : Int32)) hx hb d_D_add_10 (by decide) ?_
  refine cx_call (D := D) (cl := kl) (ws := _) (wc := [(d0, .inr (0, [.int dm, .ref gv, .ref dr, .ref rl, .ref yl, .ref mi, .ref fl, .ref bf, .int rk, .int sp, .int kn])), (gv, .inl (cI, 4, .inl (upd (upd (upd (upd g 0 a) 1 b) 2 (tk_c dm c2)) 3 (tk_d dm d2))))]) (wr := []) (tx_runV (C := cn_D) (b := d0) (As := [.int (5 : Int32)]) (rest := []) hx hb hml hown (c_D_within_n E H.size d0 gv dr rl yl mi fl bf dm rk sp kn (5 : Int32) (upd (upd (upd (upd g 0 a) 1 b) 2 (tk_c dm c2)) 3 (tk_d dm d2)) h) (cx_C (b0 := b0) G hx0 mw_267 mw_1 ny_D_isGivenWithin (by decide)) (gw.at G hx0 mw_264 rfl _) (gw.at G hx0 mw_266 rfl _) (gw.at G hx0 ms_D_isGivenWithin rfl _) ⟨cx_blind, va_recv hK hP (q0 := 0) (ci := 0) (q := (cn_D, ft_D, 11)) rfl rfl, (cx_pre (s := s) hx0 hP hD hS hA0 [0, 1] rfl rfl (by decide))⟩ rfl rfl hl.1 rfl (lv_room (Nat.le_of_ble_eq_true rfl)) d_D_add_11 ⟨by decide, by decide⟩) hP hD hS hA [0, 1] [] rfl rfl (by decide) (by decide) (fun v t w1 H locs ht hW9 hp hP hD hS => ?_) (fun x t w1 H locs ht hW9 hp hP hD hS => by obtain ⟨h9, -⟩ := hp; cases h9)
  obtain ⟨h9, rfl⟩ := hp
  cases h9
  refine W.eq (g2 := F0 m 14 ls [.int (0 : Int32)]) rfl ?_
  refine W.widen (k := 0) (n := 0) (by decide) (by decide) ?_
  have hP : va_P D kl [(d0, .inr (0, [.int dm, .ref gv, .ref dr, .ref rl, .ref yl, .ref mi, .ref fl, .ref bf, .int rk, .int sp, .int kn])), (gv, .inl (cI, 4, .inl (upd (upd (upd (upd g 0 a) 1 b) 2 (tk_c dm c2)) 3 (tk_d dm d2))))] H := hP
  have hD : va_D A [(d0, .inr (0, [.int dm, .ref gv, .ref dr, .ref rl, .ref yl, .ref mi, .ref fl, .ref bf, .int rk, .int sp, .int kn])), (gv, .inl (cI, 4, .inl (upd (upd (upd (upd g 0 a) 1 b) 2 (tk_c dm c2)) 3 (tk_d dm d2))))] := hD
  refine lv_if_eq (tgt := 25) hx hb d_D_add_14 (by decide) (fun _ => ?_) (fun h99 => absurd h99 (by decide))
  refine cx_throw (A := A) (ws := [(d0, .inr (0, [.int dm, .ref gv, .ref dr, .ref rl, .ref yl, .ref mi, .ref fl, .ref bf, .int rk, .int sp, .int kn]))]) (post := (fun o9 t9 w9 => ∃ (x9 : Nat), o9 = .threw x9 ∧ tx_X ex_a x9 t9 ∧ w9 = [(d0, .inr (0, [.int dm, .ref gv, .ref dr, .ref rl, .ref yl, .ref mi, .ref fl, .ref bf, .int rk, .int sp, .int kn]))])) E hx0 hx hb hml hl.1 hlocks hown hT (hP.sub [0] rfl) (hD.sub [0] (by decide) rfl) hS hA0 st_a sl_a si_a sf_a (is := 72) (text := _) (by decide +kernel : (72, "a row has coordinates -5 .. 5, not all of them 0") ∈ ge_texts) d_D_add_25 d_D_add_28 d_D_add_29 d_D_add_31 d_D_add_34 (by decide) (fun x t hX => ⟨x, rfl, hX, rfl⟩)

set_option maxHeartbeats 4000000 in
set_option maxRecDepth 100000 in
theorem c_D_add_z {l : Launch} {s0 : State} {b0 : Addr} {D : va_G} {cI cJ cZ : ClassId} {tC tS : Nat} (E : gE l s0 b0 D cI cJ cZ tC tS) (sz : Nat) (d0 : Nat) (gv : Nat) (dr : Nat) (rl : Nat) (yl : Nat) (mi : Nat) (fl : Nat) (bf : Nat) (dm : Int32) (rk : Int32) (sp : Int32) (kn : Int32) (a : Int32) (b : Int32) (c2 : Int32) (d2 : Int32) (g : Nat → Int32) (h1 : iw (5 : Int32) a b (tk_c dm c2) (tk_d dm d2)) (h2 : iw (0 : Int32) a b (tk_c dm c2) (tk_d dm d2)) : cx_M l s0 D kl y_D_add b_D_add 5 (some .int) ({ frames := 6, cells := 1, slots := 6, locals := 82 } : Room) 1 6 [.ref d0, .int a, .int b, .int c2, .int d2] [(d0, .inr (0, [.int dm, .ref gv, .ref dr, .ref rl, .ref yl, .ref mi, .ref fl, .ref bf, .int rk, .int sp, .int kn])), (gv, .inl (cI, 4, .inl g))] sz (fun o9 t9 w9 => ∃ (x9 : Nat), o9 = .threw x9 ∧ tx_X ex_a x9 t9 ∧ w9 = [(d0, .inr (0, [.int dm, .ref gv, .ref dr, .ref rl, .ref yl, .ref mi, .ref fl, .ref bf, .int rk, .int sp, .int kn]))]) := by
  refine tx_ofW (cc := b_D_add) (maxL := 5) (ret := (some .int)) (by decide) rfl ?_
  intro p e s m args below meth c s₁ B hml hT hv
  obtain ⟨rfl, hsz, hP, hD0, hx0⟩ := hv
  have hx := B.exec
  have hb := B.bytes
  have hr := B.returns
  have G := E.2.1
  have hown : s.vm.findClass cn_D = some m.cls := findClass_of_methodNamed B.named
  have hlocks := B.notSynchronized
  have hK := va_K.moved hx0.1.alike E.2.2.1
  subst hsz
  have hA0 := cx_new hD0 hx0.2.1
  have hD := hD0.self (sz := s.heap.size)
  generalize hAe : va_A [(d0, .inr (0, [.int dm, .ref gv, .ref dr, .ref rl, .ref yl, .ref mi, .ref fl, .ref bf, .int rk, .int sp, .int kn])), (gv, .inl (cI, 4, .inl g))] s.heap.size = A at hD hA0 ⊢
  have hA : ∀ q : Nat, s.heap.size ≤ q → A q := fun q h => by rw [← hAe]; exact Or.inr h
  have hS : va_S A s.heap s.heap [] := va_S.rf
  have hl := lv_entry ([.ref d0, .int a, .int b, .int c2, .int d2]) (n := 5) (Nat.le_of_ble_eq_true rfl)
  rw [lg_entry_eq]
  generalize (lg_sl ([.ref d0, .int a, .int b, .int c2, .int d2]) ++ List.replicate (5 - (lg_sl ([.ref d0, .int a, .int b, .int c2, .int d2])).length) Slot.unset).toArray = ls at hl ⊢
  have hl : lv_has ls 5 [(0, .ref d0), (1, .int a), (2, .int b), (3, .int c2), (4, .int d2)] := hl
  have hP : va_P D kl [(d0, .inr (0, [.int dm, .ref gv, .ref dr, .ref rl, .ref yl, .ref mi, .ref fl, .ref bf, .int rk, .int sp, .int kn])), (gv, .inl (cI, 4, .inl g))] s.heap := hP
  have hml : c.maxLocals = 5 := hml
  refine lv_aload_n hx hb d_D_add_0 rfl (lv_at hl 0 rfl) ?_
  refine lv_iload_n hx hb d_D_add_1 rfl (lv_at hl 1 rfl) ?_
  refine lv_iload_n hx hb d_D_add_2 rfl (lv_at hl 2 rfl) ?_
  refine lv_iload_n hx hb d_D_add_3 rfl (lv_at hl 3 rfl) ?_
  refine lv_iload hx hb d_D_add_4 (lv_at hl 4 rfl) ?_
  refine cx_call (D := D) (cl := kl) (ws := _) (wc := [(d0, .inr (0, [.int dm, .ref gv, .ref dr, .ref rl, .ref yl, .ref mi, .ref fl, .ref bf, .int rk, .int sp, .int kn])), (gv, .inl (cI, 4, .inl g))]) (wr := []) (tx_runV (C := cn_D) (b := d0) (As := [.int a, .int b, .int c2, .int d2]) (rest := []) hx hb hml hown (c_D_take E s.heap.size d0 gv dr rl yl mi fl bf dm rk sp kn a b c2 d2 g ) (cx_C (b0 := b0) G hx0 mw_239 mw_1 ny_D_take (by decide)) (gw.at G hx0 mw_236 rfl _) (gw.at G hx0 mw_238 rfl _) (gw.at G hx0 ms_D_take rfl _) ⟨cx_blind, va_recv hK hP (q0 := 0) (ci := 0) (q := (cn_D, ft_D, 11)) rfl rfl, (cx_pre (s := s) hx0 hP hD hS hA0 [0, 1] rfl rfl (by decide))⟩ rfl rfl hl.1 rfl (lv_room (Nat.le_of_ble_eq_true rfl)) d_D_add_6 ⟨by decide, by decide⟩) hP hD hS hA [0, 1] [] rfl rfl (by decide) (by decide) (fun v t w1 H locs ht hW9 hp hP hD hS => ?_) (fun x t w1 H locs ht hW9 hp hP hD hS => by obtain ⟨h9, -⟩ := hp; cases h9)
  obtain ⟨h9, rfl⟩ := hp
  cases h9
  refine W.eq (g2 := F0 m 9 ls []) rfl ?_
  refine W.widen (k := 0) (n := 0) (by decide) (by decide) ?_
  have hP : va_P D kl [(d0, .inr (0, [.int dm, .ref gv, .ref dr, .ref rl, .ref yl, .ref mi, .ref fl, .ref bf, .int rk, .int sp, .int kn])), (gv, .inl (cI, 4, .inl (upd (upd (upd (upd g 0 a) 1 b) 2 (tk_c dm c2)) 3 (tk_d dm d2))))] H := hP
  have hD : va_D A [(d0, .inr (0, [.int dm, .ref gv, .ref dr, .ref rl, .ref yl, .ref mi, .ref fl, .ref bf, .int rk, .int sp, .int kn])), (gv, .inl (cI, 4, .inl (upd (upd (upd (upd g 0 a) 1 b) 2 (tk_c dm c2)) 3 (tk_d dm d2))))] := hD
  refine lv_aload_n hx hb d_D_add_9 rfl (lv_at hl 0 rfl) ?_
  refine lv_iconst (v := (5 : Int32)) hx hb d_D_add_10 (by decide) ?_
  refine cx_call (D := D) (cl := kl) (ws := _) (wc := [(d0, .inr (0, [.int dm, .ref gv, .ref dr, .ref rl, .ref yl, .ref mi, .ref fl, .ref bf, .int rk, .int sp, .int kn])), (gv, .inl (cI, 4, .inl (upd (upd (upd (upd g 0 a) 1 b) 2 (tk_c dm c2)) 3 (tk_d dm d2))))]) (wr := []) (tx_runV (C := cn_D) (b := d0) (As := [.int (5 : Int32)]) (rest := []) hx hb hml hown (c_D_within_y E H.size d0 gv dr rl yl mi fl bf dm rk sp kn (5 : Int32) (upd (upd (upd (upd g 0 a) 1 b) 2 (tk_c dm c2)) 3 (tk_d dm d2)) h1) (cx_C (b0 := b0) G hx0 mw_267 mw_1 ny_D_isGivenWithin (by decide)) (gw.at G hx0 mw_264 rfl _) (gw.at G hx0 mw_266 rfl _) (gw.at G hx0 ms_D_isGivenWithin rfl _) ⟨cx_blind, va_recv hK hP (q0 := 0) (ci := 0) (q := (cn_D, ft_D, 11)) rfl rfl, (cx_pre (s := s) hx0 hP hD hS hA0 [0, 1] rfl rfl (by decide))⟩ rfl rfl hl.1 rfl (lv_room (Nat.le_of_ble_eq_true rfl)) d_D_add_11 ⟨by decide, by decide⟩) hP hD hS hA [0, 1] [] rfl rfl (by decide) (by decide) (fun v t w1 H locs ht hW9 hp hP hD hS => ?_) (fun x t w1 H locs ht hW9 hp hP hD hS => by obtain ⟨h9, -⟩ := hp; cases h9)
  obtain ⟨h9, rfl⟩ := hp
  cases h9
  refine W.eq (g2 := F0 m 14 ls [.int (1 : Int32)]) rfl ?_
  refine W.widen (k := 0) (n := 0) (by decide) (by decide) ?_
  have hP : va_P D kl [(d0, .inr (0, [.int dm, .ref gv, .ref dr, .ref rl, .ref yl, .ref mi, .ref fl, .ref bf, .int rk, .int sp, .int kn])), (gv, .inl (cI, 4, .inl (upd (upd (upd (upd g 0 a) 1 b) 2 (tk_c dm c2)) 3 (tk_d dm d2))))] H := hP
  have hD : va_D A [(d0, .inr (0, [.int dm, .ref gv, .ref dr, .ref rl, .ref yl, .ref mi, .ref fl, .ref bf, .int rk, .int sp, .int kn])), (gv, .inl (cI, 4, .inl (upd (upd (upd (upd g 0 a) 1 b) 2 (tk_c dm c2)) 3 (tk_d dm d2))))] := hD
  refine lv_if_eq (tgt := 25) hx hb d_D_add_14 (by decide) (fun h99 => absurd h99 (by decide)) (fun _ => ?_)
  refine lv_aload_n hx hb d_D_add_17 rfl (lv_at hl 0 rfl) ?_
  refine lv_iconst (v := (0 : Int32)) hx hb d_D_add_18 (by decide) ?_
  refine cx_call (D := D) (cl := kl) (ws := _) (wc := [(d0, .inr (0, [.int dm, .ref gv, .ref dr, .ref rl, .ref yl, .ref mi, .ref fl, .ref bf, .int rk, .int sp, .int kn])), (gv, .inl (cI, 4, .inl (upd (upd (upd (upd g 0 a) 1 b) 2 (tk_c dm c2)) 3 (tk_d dm d2))))]) (wr := []) (tx_runV (C := cn_D) (b := d0) (As := [.int (0 : Int32)]) (rest := []) hx hb hml hown (c_D_within_y E H.size d0 gv dr rl yl mi fl bf dm rk sp kn (0 : Int32) (upd (upd (upd (upd g 0 a) 1 b) 2 (tk_c dm c2)) 3 (tk_d dm d2)) h2) (cx_C (b0 := b0) G hx0 mw_267 mw_1 ny_D_isGivenWithin (by decide)) (gw.at G hx0 mw_264 rfl _) (gw.at G hx0 mw_266 rfl _) (gw.at G hx0 ms_D_isGivenWithin rfl _) ⟨cx_blind, va_recv hK hP (q0 := 0) (ci := 0) (q := (cn_D, ft_D, 11)) rfl rfl, (cx_pre (s := s) hx0 hP hD hS hA0 [0, 1] rfl rfl (by decide))⟩ rfl rfl hl.1 rfl (lv_room (Nat.le_of_ble_eq_true rfl)) d_D_add_19 ⟨by decide, by decide⟩) hP hD hS hA [0, 1] [] rfl rfl (by decide) (by decide) (fun v t w1 H locs ht hW9 hp hP hD hS => ?_) (fun x t w1 H locs ht hW9 hp hP hD hS => by obtain ⟨h9, -⟩ := hp; cases h9)
  obtain ⟨h9, rfl⟩ := hp
  cases h9
  refine W.eq (g2 := F0 m 22 ls [.int (1 : Int32)]) rfl ?_
  refine W.widen (k := 0) (n := 0) (by decide) (by decide) ?_
  have hP : va_P D kl [(d0, .inr (0, [.int dm, .ref gv, .ref dr, .ref rl, .ref yl, .ref mi, .ref fl, .ref bf, .int rk, .int sp, .int kn])), (gv, .inl (cI, 4, .inl (upd (upd (upd (upd g 0 a) 1 b) 2 (tk_c dm c2)) 3 (tk_d dm d2))))] H := hP
  have hD : va_D A [(d0, .inr (0, [.int dm, .ref gv, .ref dr, .ref rl, .ref yl, .ref mi, .ref fl, .ref bf, .int rk, .int sp, .int kn])), (gv, .inl (cI, 4, .inl (upd (upd (upd (upd g 0 a) 1 b) 2 (tk_c dm c2)) 3 (tk_d dm d2))))] := hD
  refine lv_if_eq (tgt := 35) hx hb d_D_add_22 (by decide) (fun h99 => absurd h99 (by decide)) (fun _ => ?_)
  refine cx_throw (A := A) (ws := [(d0, .inr (0, [.int dm, .ref gv, .ref dr, .ref rl, .ref yl, .ref mi, .ref fl, .ref bf, .int rk, .int sp, .int kn]))]) (post := (fun o9 t9 w9 => ∃ (x9 : Nat), o9 = .threw x9 ∧ tx_X ex_a x9 t9 ∧ w9 = [(d0, .inr (0, [.int dm, .ref gv, .ref dr, .ref rl, .ref yl, .ref mi, .ref fl, .ref bf, .int rk, .int sp, .int kn]))])) E hx0 hx hb hml hl.1 hlocks hown hT (hP.sub [0] rfl) (hD.sub [0] (by decide) rfl) hS hA0 st_a sl_a si_a sf_a (is := 72) (text := _) (by decide +kernel : (72, "a row has coordinates -5 .. 5, not all of them 0") ∈ ge_texts) d_D_add_25 d_D_add_28 d_D_add_29 d_D_add_31 d_D_add_34 (by decide) (fun x t hX => ⟨x, rfl, hX, rfl⟩)

set_option maxHeartbeats 4000000 in
set_option maxRecDepth 100000 in
theorem c_D_add_y {l : Launch} {s0 : State} {b0 : Addr} {D : va_G} {cI cJ cZ : ClassId} {tC tS : Nat} (E : gE l s0 b0 D cI cJ cZ tC tS) (sz : Nat) (d0 : Nat) (gv : Nat) (dr : Nat) (rl : Nat) (yl : Nat) (mi : Nat) (fl : Nat) (bf : Nat) (dm : Int32) (rk : Int32) (sp : Int32) (kn : Int32) (a : Int32) (b : Int32) (c2 : Int32) (d2 : Int32) (g : Nat → Int32) (rc : Nat) (rf : Nat → Int32) (cu : Nat) (nx : Nat) (cf : Nat → Int64) (nf : Nat → Int64) (jz : Int32) (h1 : iw (5 : Int32) a b (tk_c dm c2) (tk_d dm d2)) (h2 : ¬ iw (0 : Int32) a b (tk_c dm c2) (tk_d dm d2)) : cx_M l s0 D kl y_D_add b_D_add 5 (some .int) ({ frames := 3, cells := 0, slots := 0, locals := 73 } : Room) 0 0 [.ref d0, .int a, .int b, .int c2, .int d2] [(d0, .inr (0, [.int dm, .ref gv, .ref dr, .ref rl, .ref yl, .ref mi, .ref fl, .ref bf, .int rk, .int sp, .int kn])), (gv, .inl (cI, 4, .inl g)), (rl, .inr (1, [.ref rc, .int (0 : Int32), .int (8 : Int32)])), (rc, .inl (cI, 32, .inl rf)), (mi, .inr (2, [.ref cu, .ref nx, .int jz])), (cu, .inl (cJ, 16, .inr (.inl cf))), (nx, .inl (cJ, 16, .inr (.inl nf)))] sz (fun o9 _ w9 => o9 = .returned (some (.int (0 : Int32))) ∧ w9 = []) := by
  refine tx_ofW (cc := b_D_add) (maxL := 5) (ret := (some .int)) (by decide) rfl ?_
  intro p e s m args below meth c s₁ B hml hT hv
  obtain ⟨rfl, hsz, hP, hD0, hx0⟩ := hv
  have hx := B.exec
  have hb := B.bytes
  have hr := B.returns
  have G := E.2.1
  have hown : s.vm.findClass cn_D = some m.cls := findClass_of_methodNamed B.named
  have hlocks := B.notSynchronized
  have hK := va_K.moved hx0.1.alike E.2.2.1
  have hf_D : ∀ w99 ∈ u_ws cn_D ft_D 11, w99.before ([.ref d0, .int a, .int b, .int c2, .int d2] : List Value).toArray s = true := fun w99 h99 => gw.at G hx0 (fw_D w99 h99) (fo_D w99 h99) _
  have hf_PL : ∀ w99 ∈ u_ws cn_PL ft_PL 3, w99.before ([.ref d0, .int a, .int b, .int c2, .int d2] : List Value).toArray s = true := fun w99 h99 => gw.at G hx0 (fw_PL w99 h99) (fo_PL w99 h99) _
  subst hsz
  have hA0 := cx_new hD0 hx0.2.1
  have hD := hD0.self (sz := s.heap.size)
  generalize hAe : va_A [(d0, .inr (0, [.int dm, .ref gv, .ref dr, .ref rl, .ref yl, .ref mi, .ref fl, .ref bf, .int rk, .int sp, .int kn])), (gv, .inl (cI, 4, .inl g)), (rl, .inr (1, [.ref rc, .int (0 : Int32), .int (8 : Int32)])), (rc, .inl (cI, 32, .inl rf)), (mi, .inr (2, [.ref cu, .ref nx, .int jz])), (cu, .inl (cJ, 16, .inr (.inl cf))), (nx, .inl (cJ, 16, .inr (.inl nf)))] s.heap.size = A at hD hA0 ⊢
  have hA : ∀ q : Nat, s.heap.size ≤ q → A q := fun q h => by rw [← hAe]; exact Or.inr h
  have hS : va_S A s.heap s.heap [] := va_S.rf
  have hl := lv_entry ([.ref d0, .int a, .int b, .int c2, .int d2]) (n := 5) (Nat.le_of_ble_eq_true rfl)
  rw [lg_entry_eq]
  generalize (lg_sl ([.ref d0, .int a, .int b, .int c2, .int d2]) ++ List.replicate (5 - (lg_sl ([.ref d0, .int a, .int b, .int c2, .int d2])).length) Slot.unset).toArray = ls at hl ⊢
  have hl : lv_has ls 5 [(0, .ref d0), (1, .int a), (2, .int b), (3, .int c2), (4, .int d2)] := hl
  have hP : va_P D kl [(d0, .inr (0, [.int dm, .ref gv, .ref dr, .ref rl, .ref yl, .ref mi, .ref fl, .ref bf, .int rk, .int sp, .int kn])), (gv, .inl (cI, 4, .inl g)), (rl, .inr (1, [.ref rc, .int (0 : Int32), .int (8 : Int32)])), (rc, .inl (cI, 32, .inl rf)), (mi, .inr (2, [.ref cu, .ref nx, .int jz])), (cu, .inl (cJ, 16, .inr (.inl cf))), (nx, .inl (cJ, 16, .inr (.inl nf)))] s.heap := hP
  have hml : c.maxLocals = 5 := hml
  refine lv_aload_n hx hb d_D_add_0 rfl (lv_at hl 0 rfl) ?_
  refine lv_iload_n hx hb d_D_add_1 rfl (lv_at hl 1 rfl) ?_
  refine lv_iload_n hx hb d_D_add_2 rfl (lv_at hl 2 rfl) ?_
  refine lv_iload_n hx hb d_D_add_3 rfl (lv_at hl 3 rfl) ?_
  refine lv_iload hx hb d_D_add_4 (lv_at hl 4 rfl) ?_
  refine cx_call (D := D) (cl := kl) (ws := _) (wc := [(d0, .inr (0, [.int dm, .ref gv, .ref dr, .ref rl, .ref yl, .ref mi, .ref fl, .ref bf, .int rk, .int sp, .int kn])), (gv, .inl (cI, 4, .inl g))]) (wr := [(rl, .inr (1, [.ref rc, .int (0 : Int32), .int (8 : Int32)])), (rc, .inl (cI, 32, .inl rf)), (mi, .inr (2, [.ref cu, .ref nx, .int jz])), (cu, .inl (cJ, 16, .inr (.inl cf))), (nx, .inl (cJ, 16, .inr (.inl nf)))]) (tx_runV (C := cn_D) (b := d0) (As := [.int a, .int b, .int c2, .int d2]) (rest := []) hx hb hml hown (c_D_take E s.heap.size d0 gv dr rl yl mi fl bf dm rk sp kn a b c2 d2 g ) (cx_C (b0 := b0) G hx0 mw_239 mw_1 ny_D_take (by decide)) (gw.at G hx0 mw_236 rfl _) (gw.at G hx0 mw_238 rfl _) (gw.at G hx0 ms_D_take rfl _) ⟨cx_blind, va_recv hK hP (q0 := 0) (ci := 0) (q := (cn_D, ft_D, 11)) rfl rfl, (cx_pre (s := s) hx0 hP hD hS hA0 [0, 1] rfl rfl (by decide))⟩ rfl rfl hl.1 rfl (lv_room (Nat.le_of_ble_eq_true rfl)) d_D_add_6 ⟨by decide, by decide⟩) hP hD hS hA [0, 1] [2, 3, 4, 5, 6] rfl rfl (by decide) (by decide) (fun v t w1 H locs ht hW9 hp hP hD hS => ?_) (fun x t w1 H locs ht hW9 hp hP hD hS => by obtain ⟨h9, -⟩ := hp; cases h9)
  obtain ⟨h9, rfl⟩ := hp
  cases h9
  refine W.eq (g2 := F0 m 9 ls []) rfl ?_
  refine W.widen (k := 0) (n := 0) (by decide) (by decide) ?_
  have hP : va_P D kl [(rl, .inr (1, [.ref rc, .int (0 : Int32), .int (8 : Int32)])), (rc, .inl (cI, 32, .inl rf)), (mi, .inr (2, [.ref cu, .ref nx, .int jz])), (cu, .inl (cJ, 16, .inr (.inl cf))), (nx, .inl (cJ, 16, .inr (.inl nf))), (d0, .inr (0, [.int dm, .ref gv, .ref dr, .ref rl, .ref yl, .ref mi, .ref fl, .ref bf, .int rk, .int sp, .int kn])), (gv, .inl (cI, 4, .inl (upd (upd (upd (upd g 0 a) 1 b) 2 (tk_c dm c2)) 3 (tk_d dm d2))))] H := hP
  have hD : va_D A [(rl, .inr (1, [.ref rc, .int (0 : Int32), .int (8 : Int32)])), (rc, .inl (cI, 32, .inl rf)), (mi, .inr (2, [.ref cu, .ref nx, .int jz])), (cu, .inl (cJ, 16, .inr (.inl cf))), (nx, .inl (cJ, 16, .inr (.inl nf))), (d0, .inr (0, [.int dm, .ref gv, .ref dr, .ref rl, .ref yl, .ref mi, .ref fl, .ref bf, .int rk, .int sp, .int kn])), (gv, .inl (cI, 4, .inl (upd (upd (upd (upd g 0 a) 1 b) 2 (tk_c dm c2)) 3 (tk_d dm d2))))] := hD
  refine lv_aload_n hx hb d_D_add_9 rfl (lv_at hl 0 rfl) ?_
  refine lv_iconst (v := (5 : Int32)) hx hb d_D_add_10 (by decide) ?_
  refine cx_call (D := D) (cl := kl) (ws := _) (wc := [(d0, .inr (0, [.int dm, .ref gv, .ref dr, .ref rl, .ref yl, .ref mi, .ref fl, .ref bf, .int rk, .int sp, .int kn])), (gv, .inl (cI, 4, .inl (upd (upd (upd (upd g 0 a) 1 b) 2 (tk_c dm c2)) 3 (tk_d dm d2))))]) (wr := [(rl, .inr (1, [.ref rc, .int (0 : Int32), .int (8 : Int32)])), (rc, .inl (cI, 32, .inl rf)), (mi, .inr (2, [.ref cu, .ref nx, .int jz])), (cu, .inl (cJ, 16, .inr (.inl cf))), (nx, .inl (cJ, 16, .inr (.inl nf)))]) (tx_runV (C := cn_D) (b := d0) (As := [.int (5 : Int32)]) (rest := []) hx hb hml hown (c_D_within_y E H.size d0 gv dr rl yl mi fl bf dm rk sp kn (5 : Int32) (upd (upd (upd (upd g 0 a) 1 b) 2 (tk_c dm c2)) 3 (tk_d dm d2)) h1) (cx_C (b0 := b0) G hx0 mw_267 mw_1 ny_D_isGivenWithin (by decide)) (gw.at G hx0 mw_264 rfl _) (gw.at G hx0 mw_266 rfl _) (gw.at G hx0 ms_D_isGivenWithin rfl _) ⟨cx_blind, va_recv hK hP (q0 := 5) (ci := 0) (q := (cn_D, ft_D, 11)) rfl rfl, (cx_pre (s := s) hx0 hP hD hS hA0 [5, 6] rfl rfl (by decide))⟩ rfl rfl hl.1 rfl (lv_room (Nat.le_of_ble_eq_true rfl)) d_D_add_11 ⟨by decide, by decide⟩) hP hD hS hA [5, 6] [0, 1, 2, 3, 4] rfl rfl (by decide) (by decide) (fun v t w1 H locs ht hW9 hp hP hD hS => ?_) (fun x t w1 H locs ht hW9 hp hP hD hS => by obtain ⟨h9, -⟩ := hp; cases h9)
  obtain ⟨h9, rfl⟩ := hp
  cases h9
  refine W.eq (g2 := F0 m 14 ls [.int (1 : Int32)]) rfl ?_
  refine W.widen (k := 0) (n := 0) (by decide) (by decide) ?_
  have hP : va_P D kl [(rl, .inr (1, [.ref rc, .int (0 : Int32), .int (8 : Int32)])), (rc, .inl (cI, 32, .inl rf)), (mi, .inr (2, [.ref cu, .ref nx, .int jz])), (cu, .inl (cJ, 16, .inr (.inl cf))), (nx, .inl (cJ, 16, .inr (.inl nf))), (d0, .inr (0, [.int dm, .ref gv, .ref dr, .ref rl, .ref yl, .ref mi, .ref fl, .ref bf, .int rk, .int sp, .int kn])), (gv, .inl (cI, 4, .inl (upd (upd (upd (upd g 0 a) 1 b) 2 (tk_c dm c2)) 3 (tk_d dm d2))))] H := hP
  have hD : va_D A [(rl, .inr (1, [.ref rc, .int (0 : Int32), .int (8 : Int32)])), (rc, .inl (cI, 32, .inl rf)), (mi, .inr (2, [.ref cu, .ref nx, .int jz])), (cu, .inl (cJ, 16, .inr (.inl cf))), (nx, .inl (cJ, 16, .inr (.inl nf))), (d0, .inr (0, [.int dm, .ref gv, .ref dr, .ref rl, .ref yl, .ref mi, .ref fl, .ref bf, .int rk, .int sp, .int kn])), (gv, .inl (cI, 4, .inl (upd (upd (upd (upd g 0 a) 1 b) 2 (tk_c dm c2)) 3 (tk_d dm d2))))] := hD
  refine lv_if_eq (tgt := 25) hx hb d_D_add_14 (by decide) (fun h99 => absurd h99 (by decide)) (fun _ => ?_)
  refine lv_aload_n hx hb d_D_add_17 rfl (lv_at hl 0 rfl) ?_
  refine lv_iconst (v := (0 : Int32)) hx hb d_D_add_18 (by decide) ?_
  refine cx_call (D := D) (cl := kl) (ws := _) (wc := [(d0, .inr (0, [.int dm, .ref gv, .ref dr, .ref rl, .ref yl, .ref mi, .ref fl, .ref bf, .int rk, .int sp, .int kn])), (gv, .inl (cI, 4, .inl (upd (upd (upd (upd g 0 a) 1 b) 2 (tk_c dm c2)) 3 (tk_d dm d2))))]) (wr := [(rl, .inr (1, [.ref rc, .int (0 : Int32), .int (8 : Int32)])), (rc, .inl (cI, 32, .inl rf)), (mi, .inr (2, [.ref cu, .ref nx, .int jz])), (cu, .inl (cJ, 16, .inr (.inl cf))), (nx, .inl (cJ, 16, .inr (.inl nf)))]) (tx_runV (C := cn_D) (b := d0) (As := [.int (0 : Int32)]) (rest := []) hx hb hml hown (c_D_within_n E H.size d0 gv dr rl yl mi fl bf dm rk sp kn (0 : Int32) (upd (upd (upd (upd g 0 a) 1 b) 2 (tk_c dm c2)) 3 (tk_d dm d2)) h2) (cx_C (b0 := b0) G hx0 mw_267 mw_1 ny_D_isGivenWithin (by decide)) (gw.at G hx0 mw_264 rfl _) (gw.at G hx0 mw_266 rfl _) (gw.at G hx0 ms_D_isGivenWithin rfl _) ⟨cx_blind, va_recv hK hP (q0 := 5) (ci := 0) (q := (cn_D, ft_D, 11)) rfl rfl, (cx_pre (s := s) hx0 hP hD hS hA0 [5, 6] rfl rfl (by decide))⟩ rfl rfl hl.1 rfl (lv_room (Nat.le_of_ble_eq_true rfl)) d_D_add_19 ⟨by decide, by decide⟩) hP hD hS hA [5, 6] [0, 1, 2, 3, 4] rfl rfl (by decide) (by decide) (fun v t w1 H locs ht hW9 hp hP hD hS => ?_) (fun x t w1 H locs ht hW9 hp hP hD hS => by obtain ⟨h9, -⟩ := hp; cases h9)
  obtain ⟨h9, rfl⟩ := hp
  cases h9
  refine W.eq (g2 := F0 m 22 ls [.int (0 : Int32)]) rfl ?_
  refine W.widen (k := 0) (n := 0) (by decide) (by decide) ?_
  have hP : va_P D kl [(rl, .inr (1, [.ref rc, .int (0 : Int32), .int (8 : Int32)])), (rc, .inl (cI, 32, .inl rf)), (mi, .inr (2, [.ref cu, .ref nx, .int jz])), (cu, .inl (cJ, 16, .inr (.inl cf))), (nx, .inl (cJ, 16, .inr (.inl nf))), (d0, .inr (0, [.int dm, .ref gv, .ref dr, .ref rl, .ref yl, .ref mi, .ref fl, .ref bf, .int rk, .int sp, .int kn])), (gv, .inl (cI, 4, .inl (upd (upd (upd (upd g 0 a) 1 b) 2 (tk_c dm c2)) 3 (tk_d dm d2))))] H := hP
  have hD : va_D A [(rl, .inr (1, [.ref rc, .int (0 : Int32), .int (8 : Int32)])), (rc, .inl (cI, 32, .inl rf)), (mi, .inr (2, [.ref cu, .ref nx, .int jz])), (cu, .inl (cJ, 16, .inr (.inl cf))), (nx, .inl (cJ, 16, .inr (.inl nf))), (d0, .inr (0, [.int dm, .ref gv, .ref dr, .ref rl, .ref yl, .ref mi, .ref fl, .ref bf, .int rk, .int sp, .int kn])), (gv, .inl (cI, 4, .inl (upd (upd (upd (upd g 0 a) 1 b) 2 (tk_c dm c2)) 3 (tk_d dm d2))))] := hD
  refine lv_if_eq (tgt := 35) hx hb d_D_add_22 (by decide) (fun _ => ?_) (fun h99 => absurd h99 (by decide))
  refine lv_aload_n hx hb d_D_add_35 rfl (lv_at hl 0 rfl) ?_
  refine va_get (D := D) (ci := 0) (v := .ref rl) (C := cn_D) (T := ft_D) (N := 11) hx hb hf_D (fun _ h => h) hown hK hP 5 rfl rfl 3 (by decide) (gw.at G hx0 mw_197 rfl _) (fun _ h9 => h9) rfl d_D_add_36 ?_
  refine va_get (D := D) (ci := 1) (v := .int (0 : Int32)) (C := cn_PL) (T := ft_PL) (N := 3) hx hb hf_PL (fun _ h => h) hown hK hP 0 rfl rfl 1 (by decide) (gw.at G hx0 mw_45 rfl _) (fun _ h9 => h9) rfl d_D_add_39 ?_
  refine lv_bipush (v := (8 : Int32)) hx hb d_D_add_42 (by decide) ?_
  refine lv_icmp_lt (tgt := 57) hx hb d_D_add_44 (by decide) (fun _ => ?_) (fun h99 => absurd h99 (by decide))
  refine lv_aload_n hx hb d_D_add_57 rfl (lv_at hl 0 rfl) ?_
  refine va_get (D := D) (ci := 0) (v := .ref rl) (C := cn_D) (T := ft_D) (N := 11) hx hb hf_D (fun _ h => h) hown hK hP 5 rfl rfl 3 (by decide) (gw.at G hx0 mw_197 rfl _) (fun _ h9 => h9) rfl d_D_add_58 ?_
  refine lv_aload_n hx hb d_D_add_61 rfl (lv_at hl 0 rfl) ?_
  refine va_get (D := D) (ci := 0) (v := .ref rl) (C := cn_D) (T := ft_D) (N := 11) hx hb hf_D (fun _ h => h) hown hK hP 5 rfl rfl 3 (by decide) (gw.at G hx0 mw_197 rfl _) (fun _ h9 => h9) rfl d_D_add_62 ?_
  refine va_get (D := D) (ci := 1) (v := .int (0 : Int32)) (C := cn_PL) (T := ft_PL) (N := 3) hx hb hf_PL (fun _ h => h) hown hK hP 0 rfl rfl 1 (by decide) (gw.at G hx0 mw_45 rfl _) (fun _ h9 => h9) rfl d_D_add_65 ?_
  refine lv_aload_n hx hb d_D_add_68 rfl (lv_at hl 0 rfl) ?_
  refine va_get (D := D) (ci := 0) (v := .ref gv) (C := cn_D) (T := ft_D) (N := 11) hx hb hf_D (fun _ h => h) hown hK hP 5 rfl rfl 1 (by decide) (gw.at G hx0 mw_195 rfl _) (fun _ h9 => h9) rfl d_D_add_69 ?_
  refine cx_call (D := D) (cl := kl) (ws := _) (wc := [(rl, .inr (1, [.ref rc, .int (0 : Int32), .int (8 : Int32)])), (rc, .inl (cI, 32, .inl rf)), (gv, .inl (cI, 4, .inl (upd (upd (upd (upd g 0 a) 1 b) 2 (tk_c dm c2)) 3 (tk_d dm d2))))]) (wr := [(mi, .inr (2, [.ref cu, .ref nx, .int jz])), (cu, .inl (cJ, 16, .inr (.inl cf))), (nx, .inl (cJ, 16, .inr (.inl nf))), (d0, .inr (0, [.int dm, .ref gv, .ref dr, .ref rl, .ref yl, .ref mi, .ref fl, .ref bf, .int rk, .int sp, .int kn]))]) (tx_runV (C := cn_PL) (b := rl) (As := [.int (0 : Int32), .ref gv]) (rest := []) hx hb hml hown (c_PL_putAt0 E H.size rl rc gv rf (upd (upd (upd (upd g 0 a) 1 b) 2 (tk_c dm c2)) 3 (tk_d dm d2)) ) (cx_C (b0 := b0) G hx0 mw_355 mw_3 ny_PL_putAt (by decide)) (gw.at G hx0 mw_352 rfl _) (gw.at G hx0 mw_353 rfl _) (gw.at G hx0 mw_354 rfl _) ⟨cx_blind, va_recv hK hP (q0 := 0) (ci := 1) (q := (cn_PL, ft_PL, 3)) rfl rfl, (cx_pre (s := s) hx0 hP hD hS hA0 [0, 1, 6] rfl rfl (by decide))⟩ rfl rfl hl.1 rfl (lv_room (Nat.le_of_ble_eq_true rfl)) d_D_add_72 ⟨by decide, by decide⟩) hP hD hS hA [0, 1, 6] [2, 3, 4, 5] rfl rfl (by decide) (by decide) (fun v t w1 H locs ht hW9 hp hP hD hS => ?_) (fun x t w1 H locs ht hW9 hp hP hD hS => by obtain ⟨h9, -⟩ := hp; cases h9)
  obtain ⟨h9, rfl⟩ := hp
  cases h9
  refine W.eq (g2 := F0 m 75 ls []) rfl ?_
  refine W.widen (k := 0) (n := 0) (by decide) (by decide) ?_
  have hP : va_P D kl [(mi, .inr (2, [.ref cu, .ref nx, .int jz])), (cu, .inl (cJ, 16, .inr (.inl cf))), (nx, .inl (cJ, 16, .inr (.inl nf))), (d0, .inr (0, [.int dm, .ref gv, .ref dr, .ref rl, .ref yl, .ref mi, .ref fl, .ref bf, .int rk, .int sp, .int kn])), (rl, .inr (1, [.ref rc, .int (1 : Int32), .int (8 : Int32)])), (rc, .inl (cI, 32, .inl (va_cpy (upd (upd (upd (upd g 0 a) 1 b) 2 (tk_c dm c2)) 3 (tk_d dm d2)) (va_cpy rf rf 0 4 0) 0 0 4))), (gv, .inl (cI, 4, .inl (upd (upd (upd (upd g 0 a) 1 b) 2 (tk_c dm c2)) 3 (tk_d dm d2))))] H := hP
  have hD : va_D A [(mi, .inr (2, [.ref cu, .ref nx, .int jz])), (cu, .inl (cJ, 16, .inr (.inl cf))), (nx, .inl (cJ, 16, .inr (.inl nf))), (d0, .inr (0, [.int dm, .ref gv, .ref dr, .ref rl, .ref yl, .ref mi, .ref fl, .ref bf, .int rk, .int sp, .int kn])), (rl, .inr (1, [.ref rc, .int (1 : Int32), .int (8 : Int32)])), (rc, .inl (cI, 32, .inl (va_cpy (upd (upd (upd (upd g 0 a) 1 b) 2 (tk_c dm c2)) 3 (tk_d dm d2)) (va_cpy rf rf 0 4 0) 0 0 4))), (gv, .inl (cI, 4, .inl (upd (upd (upd (upd g 0 a) 1 b) 2 (tk_c dm c2)) 3 (tk_d dm d2))))] := hD
  refine lv_aload_n hx hb d_D_add_75 rfl (lv_at hl 0 rfl) ?_
  refine cx_call (D := D) (cl := kl) (ws := _) (wc := [(d0, .inr (0, [.int dm, .ref gv, .ref dr, .ref rl, .ref yl, .ref mi, .ref fl, .ref bf, .int rk, .int sp, .int kn])), (mi, .inr (2, [.ref cu, .ref nx, .int jz])), (cu, .inl (cJ, 16, .inr (.inl cf))), (nx, .inl (cJ, 16, .inr (.inl nf))), (rl, .inr (1, [.ref rc, .int (1 : Int32), .int (8 : Int32)])), (rc, .inl (cI, 32, .inl (va_cpy (upd (upd (upd (upd g 0 a) 1 b) 2 (tk_c dm c2)) 3 (tk_d dm d2)) (va_cpy rf rf 0 4 0) 0 0 4)))]) (wr := [(gv, .inl (cI, 4, .inl (upd (upd (upd (upd g 0 a) 1 b) 2 (tk_c dm c2)) 3 (tk_d dm d2))))]) (tx_runV (C := cn_D) (b := d0) (As := []) (rest := []) hx hb hml hown (c_D_note0 E H.size d0 gv dr rl yl mi fl bf dm rk sp kn cu nx rc cf nf (va_cpy (upd (upd (upd (upd g 0 a) 1 b) 2 (tk_c dm c2)) 3 (tk_d dm d2)) (va_cpy rf rf 0 4 0) 0 0 4) jz ) (cx_C (b0 := b0) G hx0 mw_362 mw_1 ny_D_noteChange (by decide)) (gw.at G hx0 mw_359 rfl _) (gw.at G hx0 mw_361 rfl _) (gw.at G hx0 ms_D_noteChange rfl _) ⟨cx_blind, va_recv hK hP (q0 := 3) (ci := 0) (q := (cn_D, ft_D, 11)) rfl rfl, (cx_pre (s := s) hx0 hP hD hS hA0 [3, 0, 1, 2, 4, 5] rfl rfl (by decide))⟩ rfl rfl hl.1 rfl (lv_room (Nat.le_of_ble_eq_true rfl)) d_D_add_76 ⟨by decide, by decide⟩) hP hD hS hA [3, 0, 1, 2, 4, 5] [6] rfl rfl (by decide) (by decide) (fun v t w1 H locs ht hW9 hp hP hD hS => ?_) (fun x t w1 H locs ht hW9 hp hP hD hS => by obtain ⟨_, h9, -⟩ := hp; cases h9)
  obtain ⟨jo_1, h9, rfl⟩ := hp
  cases h9
  refine W.eq (g2 := F0 m 79 ls []) rfl ?_
  refine W.widen (k := 0) (n := 0) (by decide) (by decide) ?_
  have hP : va_P D kl [(gv, .inl (cI, 4, .inl (upd (upd (upd (upd g 0 a) 1 b) 2 (tk_c dm c2)) 3 (tk_d dm d2)))), (d0, .inr (0, [.int dm, .ref gv, .ref dr, .ref rl, .ref yl, .ref mi, .ref fl, .ref bf, .int jo_1, .int sp, .int (0 : Int32)])), (rl, .inr (1, [.ref rc, .int (1 : Int32), .int (8 : Int32)])), (rc, .inl (cI, 32, .inl (va_cpy (upd (upd (upd (upd g 0 a) 1 b) 2 (tk_c dm c2)) 3 (tk_d dm d2)) (va_cpy rf rf 0 4 0) 0 0 4)))] H := hP
  have hD : va_D A [(gv, .inl (cI, 4, .inl (upd (upd (upd (upd g 0 a) 1 b) 2 (tk_c dm c2)) 3 (tk_d dm d2)))), (d0, .inr (0, [.int dm, .ref gv, .ref dr, .ref rl, .ref yl, .ref mi, .ref fl, .ref bf, .int jo_1, .int sp, .int (0 : Int32)])), (rl, .inr (1, [.ref rc, .int (1 : Int32), .int (8 : Int32)])), (rc, .inl (cI, 32, .inl (va_cpy (upd (upd (upd (upd g 0 a) 1 b) 2 (tk_c dm c2)) 3 (tk_d dm d2)) (va_cpy rf rf 0 4 0) 0 0 4)))] := hD
  refine lv_aload_n hx hb d_D_add_79 rfl (lv_at hl 0 rfl) ?_
  refine va_get (D := D) (ci := 0) (v := .ref rl) (C := cn_D) (T := ft_D) (N := 11) hx hb hf_D (fun _ h => h) hown hK hP 1 rfl rfl 3 (by decide) (gw.at G hx0 mw_197 rfl _) (fun _ h9 => h9) rfl d_D_add_80 ?_
  refine va_get (D := D) (ci := 1) (v := .int (1 : Int32)) (C := cn_PL) (T := ft_PL) (N := 3) hx hb hf_PL (fun _ h => h) hown hK hP 2 rfl rfl 1 (by decide) (gw.at G hx0 mw_45 rfl _) (fun _ h9 => h9) rfl d_D_add_83 ?_
  refine lv_iconst (v := (1 : Int32)) hx hb d_D_add_86 (by decide) ?_
  refine lv_isub hx hb d_D_add_87 ?_
  refine tp_i (y := (0 : Int32)) (by decide) ?_
  exact tx_mono (fun _ h => tx_Z.of h) (W.iret (v := (0 : Int32)) hx hb hr (fun t ht hW => ⟨⟨[], ⟨rfl, rfl⟩, by rw [ht]; exact hP.sub [] rfl, hD.sub [] (by decide) rfl⟩, hS.F ht⟩) hS.2.2 d_D_add_88)

