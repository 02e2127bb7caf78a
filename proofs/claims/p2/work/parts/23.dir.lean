/-! ===== own rows, laid by wip/tools/sym.py: Minors.fillDirection ===== -/
/-- coordinate i of the direction across z - 1 joined rows, by their determinants f -/
def dirc (f : Nat → Int64) (z : Nat) (sg : Int32) (i : Nat) : Int32 := (if i % 2 = 0 then f ((2 ^ z - 1) ^^^ 2 ^ i) / cdl f (lev (z - 1)) else -(f ((2 ^ z - 1) ^^^ 2 ^ i) / cdl f (lev (z - 1)))).toInt32 * sg
set_option maxHeartbeats 4000000 in
set_option maxRecDepth 100000 in
theorem c_MI_dir2_0 {l : Launch} {s0 : State} {b0 : Addr} {D : va_G} {cI cJ cZ : ClassId} {tC tS : Nat} (E : gE l s0 b0 D cI cJ cZ tC tS) (sz : Nat) (mi : Nat) (cu : Nat) (nx : Nat) (cf : Nat → Int64) (ga : Nat) (g : Nat → Int32) (sg : Int32) (hd : cdl cf (lev 1) = 0) : cx_M l s0 D kl y_MI_fillDirection b_MI_fillDirection 9 none ({ frames := 2, cells := 0, slots := 0, locals := 72 } : Room) 0 0 [.ref mi, .ref ga, .int (2 : Int32), .int sg] [(mi, .inr (2, [.ref cu, .ref nx, .int (1 : Int32)])), (cu, .inl (cJ, 16, .inr (.inl cf))), (ga, .inl (cI, 4, .inl g))] sz (fun o9 _ w9 => o9 = .returned none ∧ w9 = [(mi, .inr (2, [.ref cu, .ref nx, .int (1 : Int32)])), (cu, .inl (cJ, 16, .inr (.inl cf))), (ga, .inl (cI, 4, .inl g))]) := by
  refine tx_ofW (cc := b_MI_fillDirection) (maxL := 9) (ret := none) (by decide) rfl ?_
  intro p e s m args below meth c s₁ B hml hT hv
  obtain ⟨rfl, hsz, hP, hD0, hx0⟩ := hv
  have hx := B.exec
  have hb := B.bytes
  have hr := B.returns
  have G := E.2.1
  have hown : s.vm.findClass cn_MI = some m.cls := findClass_of_methodNamed B.named
  have hlocks := B.notSynchronized
  have hK := va_K.moved hx0.1.alike E.2.2.1
  subst hsz
  have hA0 := cx_new hD0 hx0.2.1
  have hD := hD0.self (sz := s.heap.size)
  generalize hAe : va_A [(mi, .inr (2, [.ref cu, .ref nx, .int (1 : Int32)])), (cu, .inl (cJ, 16, .inr (.inl cf))), (ga, .inl (cI, 4, .inl g))] s.heap.size = A at hD hA0 ⊢
  have hA : ∀ q : Nat, s.heap.size ≤ q → A q := fun q h => by rw [← hAe]; exact Or.inr h
  have hS : va_S A s.heap s.heap [] := va_S.rf
  have hl := lv_entry ([.ref mi, .ref ga, .int (2 : Int32), .int sg]) (n := 9) (Nat.le_of_ble_eq_true rfl)
  rw [lg_entry_eq]
  generalize (lg_sl ([.ref mi, .ref ga, .int (2 : Int32), .int sg]) ++ List.replicate (9 - (lg_sl ([.ref mi, .ref ga, .int (2 : Int32), .int sg])).length) Slot.unset).toArray = ls at hl ⊢
  have hl : lv_has ls 9 [(0, .ref mi), (1, .ref ga), (2, .int (2 : Int32)), (3, .int sg)] := hl
  have hP : va_P D kl [(mi, .inr (2, [.ref cu, .ref nx, .int (1 : Int32)])), (cu, .inl (cJ, 16, .inr (.inl cf))), (ga, .inl (cI, 4, .inl g))] s.heap := hP
  have hml : c.maxLocals = 9 := hml
  refine lv_aload_n hx hb d_MI_fillDirection_0 rfl (lv_at hl 0 rfl) ?_
  refine cx_call (D := D) (cl := kl) (ws := _) (wc := [(mi, .inr (2, [.ref cu, .ref nx, .int (1 : Int32)])), (cu, .inl (cJ, 16, .inr (.inl cf)))]) (wr := [(ga, .inl (cI, 4, .inl g))]) (tx_runV (C := cn_MI) (b := mi) (As := []) (rest := []) hx hb hml hown (c_MI_comdiv1 E s.heap.size mi cu nx cf ) (cx_C (b0 := b0) G hx0 mw_461 mw_4 ny_MI_commonDivisor (by decide)) (gw.at G hx0 mw_458 rfl _) (gw.at G hx0 mw_459 rfl _) (gw.at G hx0 mw_460 rfl _) ⟨cx_blind, va_recv hK hP (q0 := 0) (ci := 2) (q := (cn_MI, ft_MI, 3)) rfl rfl, (cx_pre (s := s) hx0 hP hD hS hA0 [0, 1] rfl rfl (by decide))⟩ rfl rfl hl.1 rfl (lv_room (Nat.le_of_ble_eq_true rfl)) d_MI_fillDirection_1 ⟨by decide, by decide⟩) hP hD hS hA [0, 1] [2] rfl rfl (by decide) (by decide) (fun v t w1 H locs ht hW9 hp hP hD hS => ?_) (fun x t w1 H locs ht hW9 hp hP hD hS => by obtain ⟨h9, -⟩ := hp; cases h9)
  obtain ⟨h9, rfl⟩ := hp
  cases h9
  refine W.eq (g2 := F0 m 4 ls [.long (cdl cf (lev 1))]) rfl ?_
  refine W.widen (k := 0) (n := 0) (by decide) (by decide) ?_
  have hP : va_P D kl [(ga, .inl (cI, 4, .inl g)), (mi, .inr (2, [.ref cu, .ref nx, .int (1 : Int32)])), (cu, .inl (cJ, 16, .inr (.inl cf)))] H := hP
  have hD : va_D A [(ga, .inl (cI, 4, .inl g)), (mi, .inr (2, [.ref cu, .ref nx, .int (1 : Int32)])), (cu, .inl (cJ, 16, .inr (.inl cf)))] := hD
  refine lv_lstore (lv' := [(4, .long (cdl cf (lev 1))), (0, .ref mi), (1, .ref ga), (2, .int (2 : Int32)), (3, .int sg)]) hx hb d_MI_fillDirection_4 hl (by decide) rfl (fun ls hl => ?_)
  refine lv_lload hx hb d_MI_fillDirection_6 (lv_at hl 0 rfl) ?_
  refine lv_lconst (v := (0 : Int64)) hx hb d_MI_fillDirection_8 (by decide) ?_
  refine W.lcmp hx hb d_MI_fillDirection_9 ?_
  refine lv_if_ne (tgt := 14) hx hb d_MI_fillDirection_10 (by decide) (fun h99 => absurd h99 (not_not_intro (by rw [hd]; decide))) (fun _ => ?_)
  exact tx_mono (fun _ h => tx_Z.of h) (W.vret hx hb hr (fun t ht hW => ⟨⟨[(mi, .inr (2, [.ref cu, .ref nx, .int (1 : Int32)])), (cu, .inl (cJ, 16, .inr (.inl cf))), (ga, .inl (cI, 4, .inl g))], ⟨rfl, rfl⟩, by rw [ht]; exact hP.sub [1, 2, 0] rfl, hD.sub [1, 2, 0] (by decide) rfl⟩, hS.F ht⟩) hS.2.2 d_MI_fillDirection_13)

set_option maxHeartbeats 4000000 in
set_option maxRecDepth 100000 in
theorem c_MI_dir2_p {l : Launch} {s0 : State} {b0 : Addr} {D : va_G} {cI cJ cZ : ClassId} {tC tS : Nat} (E : gE l s0 b0 D cI cJ cZ tC tS) (sz : Nat) (mi : Nat) (cu : Nat) (nx : Nat) (cf : Nat → Int64) (ga : Nat) (g : Nat → Int32) (hd : ¬ cdl cf (lev 1) = 0) : cx_M l s0 D kl y_MI_fillDirection b_MI_fillDirection 9 none ({ frames := 2, cells := 0, slots := 0, locals := 72 } : Room) 0 0 [.ref mi, .ref ga, .int (2 : Int32), .int (1 : Int32)] [(mi, .inr (2, [.ref cu, .ref nx, .int (1 : Int32)])), (cu, .inl (cJ, 16, .inr (.inl cf))), (ga, .inl (cI, 4, .inl g))] sz (fun o9 _ w9 => o9 = .returned none ∧ w9 = [(mi, .inr (2, [.ref cu, .ref nx, .int (1 : Int32)])), (cu, .inl (cJ, 16, .inr (.inl cf))), (ga, .inl (cI, 4, .inl (upd (upd (upd (upd (upd (upd g 0 (0 : Int32)) 1 (0 : Int32)) 2 (0 : Int32)) 3 (0 : Int32)) 0 (dirc cf 2 (1 : Int32) 0)) 1 (dirc cf 2 (1 : Int32) 1))))]) := by
  refine tx_ofW (cc := b_MI_fillDirection) (maxL := 9) (ret := none) (by decide) rfl ?_
  intro p e s m args below meth c s₁ B hml hT hv
  obtain ⟨rfl, hsz, hP, hD0, hx0⟩ := hv
  have hx := B.exec
  have hb := B.bytes
  have hr := B.returns
  have G := E.2.1
  have hown : s.vm.findClass cn_MI = some m.cls := findClass_of_methodNamed B.named
  have hlocks := B.notSynchronized
  have hK := va_K.moved hx0.1.alike E.2.2.1
  have hf_MI : ∀ w99 ∈ u_ws cn_MI ft_MI 3, w99.before ([.ref mi, .ref ga, .int (2 : Int32), .int (1 : Int32)] : List Value).toArray s = true := fun w99 h99 => gw.at G hx0 (fw_MI w99 h99) (fo_MI w99 h99) _
  subst hsz
  have hA0 := cx_new hD0 hx0.2.1
  have hD := hD0.self (sz := s.heap.size)
  generalize hAe : va_A [(mi, .inr (2, [.ref cu, .ref nx, .int (1 : Int32)])), (cu, .inl (cJ, 16, .inr (.inl cf))), (ga, .inl (cI, 4, .inl g))] s.heap.size = A at hD hA0 ⊢
  have hA : ∀ q : Nat, s.heap.size ≤ q → A q := fun q h => by rw [← hAe]; exact Or.inr h
  have hS : va_S A s.heap s.heap [] := va_S.rf
  have hl := lv_entry ([.ref mi, .ref ga, .int (2 : Int32), .int (1 : Int32)]) (n := 9) (Nat.le_of_ble_eq_true rfl)
  rw [lg_entry_eq]
  generalize (lg_sl ([.ref mi, .ref ga, .int (2 : Int32), .int (1 : Int32)]) ++ List.replicate (9 - (lg_sl ([.ref mi, .ref ga, .int (2 : Int32), .int (1 : Int32)])).length) Slot.unset).toArray = ls at hl ⊢
  have hl : lv_has ls 9 [(0, .ref mi), (1, .ref ga), (2, .int (2 : Int32)), (3, .int (1 : Int32))] := hl
  have hP : va_P D kl [(mi, .inr (2, [.ref cu, .ref nx, .int (1 : Int32)])), (cu, .inl (cJ, 16, .inr (.inl cf))), (ga, .inl (cI, 4, .inl g))] s.heap := hP
  have hml : c.maxLocals = 9 := hml
  refine lv_aload_n hx hb d_MI_fillDirection_0 rfl (lv_at hl 0 rfl) ?_
  refine cx_call (D := D) (cl := kl) (ws := _) (wc := [(mi, .inr (2, [.ref cu, .ref nx, .int (1 : Int32)])), (cu, .inl (cJ, 16, .inr (.inl cf)))]) (wr := [(ga, .inl (cI, 4, .inl g))]) (tx_runV (C := cn_MI) (b := mi) (As := []) (rest := []) hx hb hml hown (c_MI_comdiv1 E s.heap.size mi cu nx cf ) (cx_C (b0 := b0) G hx0 mw_461 mw_4 ny_MI_commonDivisor (by decide)) (gw.at G hx0 mw_458 rfl _) (gw.at G hx0 mw_459 rfl _) (gw.at G hx0 mw_460 rfl _) ⟨cx_blind, va_recv hK hP (q0 := 0) (ci := 2) (q := (cn_MI, ft_MI, 3)) rfl rfl, (cx_pre (s := s) hx0 hP hD hS hA0 [0, 1] rfl rfl (by decide))⟩ rfl rfl hl.1 rfl (lv_room (Nat.le_of_ble_eq_true rfl)) d_MI_fillDirection_1 ⟨by decide, by decide⟩) hP hD hS hA [0, 1] [2] rfl rfl (by decide) (by decide) (fun v t w1 H locs ht hW9 hp hP hD hS => ?_) (fun x t w1 H locs ht hW9 hp hP hD hS => by obtain ⟨h9, -⟩ := hp; cases h9)
  obtain ⟨h9, rfl⟩ := hp
  cases h9
  refine W.eq (g2 := F0 m 4 ls [.long (cdl cf (lev 1))]) rfl ?_
  refine W.widen (k := 0) (n := 0) (by decide) (by decide) ?_
  have hP : va_P D kl [(ga, .inl (cI, 4, .inl g)), (mi, .inr (2, [.ref cu, .ref nx, .int (1 : Int32)])), (cu, .inl (cJ, 16, .inr (.inl cf)))] H := hP
  have hD : va_D A [(ga, .inl (cI, 4, .inl g)), (mi, .inr (2, [.ref cu, .ref nx, .int (1 : Int32)])), (cu, .inl (cJ, 16, .inr (.inl cf)))] := hD
  refine lv_lstore (lv' := [(4, .long (cdl cf (lev 1))), (0, .ref mi), (1, .ref ga), (2, .int (2 : Int32)), (3, .int (1 : Int32))]) hx hb d_MI_fillDirection_4 hl (by decide) rfl (fun ls hl => ?_)
  refine lv_lload hx hb d_MI_fillDirection_6 (lv_at hl 0 rfl) ?_
  refine lv_lconst (v := (0 : Int64)) hx hb d_MI_fillDirection_8 (by decide) ?_
  refine W.lcmp hx hb d_MI_fillDirection_9 ?_
  refine lv_if_ne (tgt := 14) hx hb d_MI_fillDirection_10 (by decide) (fun _ => ?_) (fun h99 => absurd h99 (lg_ne.mpr hd))
  refine lv_aload_n hx hb d_MI_fillDirection_14 rfl (lv_at hl 2 rfl) ?_
  refine lv_iconst (v := (0 : Int32)) hx hb d_MI_fillDirection_15 (by decide) ?_
  refine cx_call (D := D) (cl := kl) (ws := _) (wc := [(ga, .inl (cI, 4, .inl g))]) (wr := [(mi, .inr (2, [.ref cu, .ref nx, .int (1 : Int32)])), (cu, .inl (cJ, 16, .inr (.inl cf)))]) (tx_runS (As := [.ref ga, .int (0 : Int32)]) (rest := []) hx hb hml hown (c_JA_fill4 E H.size ga g ) (cx_C (b0 := b0) G hx0 mw_478 mw_18 ny_JA_fill (by decide)) (gw.at G hx0 mw_476 rfl _) (gw.at G hx0 mw_477 rfl _) (gw.at G hx0 mw_18 rfl _) ⟨cx_blind, (cx_pre (s := s) hx0 hP hD hS hA0 [0] rfl rfl (by decide))⟩ rfl rfl hl.1 rfl (lv_room (Nat.le_of_ble_eq_true rfl)) d_MI_fillDirection_16 ⟨by decide, by decide⟩) hP hD hS hA [0] [1, 2] rfl rfl (by decide) (by decide) (fun v t w1 H locs ht hW9 hp hP hD hS => ?_) (fun x t w1 H locs ht hW9 hp hP hD hS => by obtain ⟨h9, -⟩ := hp; cases h9)
  obtain ⟨h9, rfl⟩ := hp
  cases h9
  refine W.eq (g2 := F0 m 19 ls []) rfl ?_
  refine W.widen (k := 0) (n := 0) (by decide) (by decide) ?_
  have hP : va_P D kl [(mi, .inr (2, [.ref cu, .ref nx, .int (1 : Int32)])), (cu, .inl (cJ, 16, .inr (.inl cf))), (ga, .inl (cI, 4, .inl (upd (upd (upd (upd g 0 (0 : Int32)) 1 (0 : Int32)) 2 (0 : Int32)) 3 (0 : Int32))))] H := hP
  have hD : va_D A [(mi, .inr (2, [.ref cu, .ref nx, .int (1 : Int32)])), (cu, .inl (cJ, 16, .inr (.inl cf))), (ga, .inl (cI, 4, .inl (upd (upd (upd (upd g 0 (0 : Int32)) 1 (0 : Int32)) 2 (0 : Int32)) 3 (0 : Int32))))] := hD
  refine lv_iconst (v := (0 : Int32)) hx hb d_MI_fillDirection_19 (by decide) ?_
  refine lv_istore (lv' := [(6, .int (0 : Int32)), (4, .long (cdl cf (lev 1))), (0, .ref mi), (1, .ref ga), (2, .int (2 : Int32)), (3, .int (1 : Int32))]) hx hb d_MI_fillDirection_20 hl (by decide) rfl (fun ls hl => ?_)
  refine lv_iload hx hb d_MI_fillDirection_22 (lv_at hl 0 rfl) ?_
  refine lv_iload_n hx hb d_MI_fillDirection_24 rfl (lv_at hl 4 rfl) ?_
  refine lv_icmp_ge (tgt := 75) hx hb d_MI_fillDirection_25 (by decide) (fun h99 => absurd h99 (by decide)) (fun _ => ?_)
  refine lv_aload_n hx hb d_MI_fillDirection_28 rfl (lv_at hl 2 rfl) ?_
  refine va_get (D := D) (ci := 2) (v := .ref cu) (C := cn_MI) (T := ft_MI) (N := 3) hx hb hf_MI (fun _ h => h) hown hK hP 0 rfl rfl 0 (by decide) (gw.at G hx0 mw_64 rfl _) (fun _ h9 => h9) rfl d_MI_fillDirection_29 ?_
  refine lv_iload_n hx hb d_MI_fillDirection_32 rfl (lv_at hl 4 rfl) ?_
  refine cx_call (D := D) (cl := kl) (ws := _) (wc := []) (wr := [(mi, .inr (2, [.ref cu, .ref nx, .int (1 : Int32)])), (cu, .inl (cJ, 16, .inr (.inl cf))), (ga, .inl (cI, 4, .inl (upd (upd (upd (upd g 0 (0 : Int32)) 1 (0 : Int32)) 2 (0 : Int32)) 3 (0 : Int32))))]) (tx_runSN (As := [.int (2 : Int32)]) (rest := [.ref cu]) hx hb hml hown (c_D_maskOf E H.size 2 (by decide)) (cx_C (b0 := b0) G hx0 mw_365 mw_1 ny_D_maskOfAll (by decide)) (gw.at G hx0 mw_479 rfl _) (gw.at G hx0 mw_364 rfl _) (gw.at G hx0 mw_1 rfl _) ⟨cx_blind, (cx_pre (s := s) hx0 hP hD hS hA0 [] rfl rfl (by decide))⟩ rfl rfl hl.1 rfl (lv_room (Nat.le_of_ble_eq_true rfl)) d_MI_fillDirection_33 ⟨by decide, by decide⟩) hP hD hS hA [] [0, 1, 2] rfl rfl (by decide) (by decide) (fun v t w1 H locs ht hW9 hp hP hD hS => ?_) (fun x t w1 H locs ht hW9 hp hP hD hS => by obtain ⟨h9, -⟩ := hp; cases h9)
  obtain ⟨h9, rfl⟩ := hp
  cases h9
  refine W.eq (g2 := F0 m 36 ls [.int (nI (2 ^ 2 - 1)), .ref cu]) rfl ?_
  refine W.widen (k := 0) (n := 0) (by decide) (by decide) ?_
  have hP : va_P D kl [(mi, .inr (2, [.ref cu, .ref nx, .int (1 : Int32)])), (cu, .inl (cJ, 16, .inr (.inl cf))), (ga, .inl (cI, 4, .inl (upd (upd (upd (upd g 0 (0 : Int32)) 1 (0 : Int32)) 2 (0 : Int32)) 3 (0 : Int32))))] H := hP
  have hD : va_D A [(mi, .inr (2, [.ref cu, .ref nx, .int (1 : Int32)])), (cu, .inl (cJ, 16, .inr (.inl cf))), (ga, .inl (cI, 4, .inl (upd (upd (upd (upd g 0 (0 : Int32)) 1 (0 : Int32)) 2 (0 : Int32)) 3 (0 : Int32))))] := hD
  refine tp_i (y := (3 : Int32)) (by decide) ?_
  refine lv_iconst (v := (1 : Int32)) hx hb d_MI_fillDirection_36 (by decide) ?_
  refine lv_iload hx hb d_MI_fillDirection_37 (lv_at hl 0 rfl) ?_
  refine lv_ishl hx hb d_MI_fillDirection_39 ?_
  refine tp_i (y := (1 : Int32)) (by decide) ?_
  refine lv_ixor hx hb d_MI_fillDirection_40 ?_
  refine tp_i (y := (2 : Int32)) (by decide) ?_
  refine va_lald hx hb hK hP 1 1 rfl rfl (vp_in_iff.mpr (by decide)) d_MI_fillDirection_41 ?_
  refine tp_l (y := cf 2) (by rfl) ?_
  refine lv_lload hx hb d_MI_fillDirection_42 (lv_at hl 1 rfl) ?_
  refine lv_ldiv hx hb d_MI_fillDirection_44 hd ?_
  refine lv_lstore (lv' := [(7, .long ((cf 2) / (cdl cf (lev 1)))), (6, .int (0 : Int32)), (4, .long (cdl cf (lev 1))), (0, .ref mi), (1, .ref ga), (2, .int (2 : Int32)), (3, .int (1 : Int32))]) hx hb d_MI_fillDirection_45 hl (by decide) rfl (fun ls hl => ?_)
  refine lv_aload_n hx hb d_MI_fillDirection_47 rfl (lv_at hl 4 rfl) ?_
  refine lv_iload hx hb d_MI_fillDirection_48 (lv_at hl 1 rfl) ?_
  refine lv_iload hx hb d_MI_fillDirection_50 (lv_at hl 1 rfl) ?_
  refine lv_iconst (v := (2 : Int32)) hx hb d_MI_fillDirection_52 (by decide) ?_
  refine lv_irem hx hb d_MI_fillDirection_53 (by decide) ?_
  refine tp_i (y := (0 : Int32)) (by decide) ?_
  refine lv_if_ne (tgt := 62) hx hb d_MI_fillDirection_54 (by decide) (fun h99 => absurd h99 (by decide)) (fun _ => ?_)
  refine lv_lload hx hb d_MI_fillDirection_57 (lv_at hl 0 rfl) ?_
  refine lv_goto (tgt := 65) hx hb d_MI_fillDirection_59 (by decide) ?_
  refine lv_l2i (v := ((cf 2) / (cdl cf (lev 1))).toInt32) hx hb d_MI_fillDirection_65 rfl ?_
  refine lv_iload_n hx hb d_MI_fillDirection_66 rfl (lv_at hl 6 rfl) ?_
  refine lv_imul hx hb d_MI_fillDirection_67 ?_
  refine tp_i (y := dirc cf 2 (1 : Int32) 0) (by rfl) ?_
  refine va_iast hx hb hK hP hD hS 2 0 rfl rfl (vp_in_iff.mpr (by decide)) d_MI_fillDirection_68 (fun H locs hP hD hS => ?_)
  have hP : va_P D kl [(mi, .inr (2, [.ref cu, .ref nx, .int (1 : Int32)])), (cu, .inl (cJ, 16, .inr (.inl cf))), (ga, .inl (cI, 4, .inl (upd (upd (upd (upd (upd g 0 (0 : Int32)) 1 (0 : Int32)) 2 (0 : Int32)) 3 (0 : Int32)) 0 (dirc cf 2 (1 : Int32) 0))))] H := hP
  have hD : va_D A [(mi, .inr (2, [.ref cu, .ref nx, .int (1 : Int32)])), (cu, .inl (cJ, 16, .inr (.inl cf))), (ga, .inl (cI, 4, .inl (upd (upd (upd (upd (upd g 0 (0 : Int32)) 1 (0 : Int32)) 2 (0 : Int32)) 3 (0 : Int32)) 0 (dirc cf 2 (1 : Int32) 0))))] := hD
  refine lv_iinc (lv' := [(6, .int (1 : Int32)), (7, .long ((cf 2) / (cdl cf (lev 1)))), (4, .long (cdl cf (lev 1))), (0, .ref mi), (1, .ref ga), (2, .int (2 : Int32)), (3, .int (1 : Int32))]) (k := 1) (v := (1 : Int32)) hx hb d_MI_fillDirection_69 hl rfl (by decide) (by decide) rfl (fun ls hl => ?_)
  refine lv_goto (tgt := 22) hx hb d_MI_fillDirection_72 (by decide) ?_
  refine lv_iload hx hb d_MI_fillDirection_22 (lv_at hl 0 rfl) ?_
  refine lv_iload_n hx hb d_MI_fillDirection_24 rfl (lv_at hl 5 rfl) ?_
  refine lv_icmp_ge (tgt := 75) hx hb d_MI_fillDirection_25 (by decide) (fun h99 => absurd h99 (by decide)) (fun _ => ?_)
  refine lv_aload_n hx hb d_MI_fillDirection_28 rfl (lv_at hl 3 rfl) ?_
  refine va_get (D := D) (ci := 2) (v := .ref cu) (C := cn_MI) (T := ft_MI) (N := 3) hx hb hf_MI (fun _ h => h) hown hK hP 0 rfl rfl 0 (by decide) (gw.at G hx0 mw_64 rfl _) (fun _ h9 => h9) rfl d_MI_fillDirection_29 ?_
  refine lv_iload_n hx hb d_MI_fillDirection_32 rfl (lv_at hl 5 rfl) ?_
  refine cx_call (D := D) (cl := kl) (ws := _) (wc := []) (wr := [(mi, .inr (2, [.ref cu, .ref nx, .int (1 : Int32)])), (cu, .inl (cJ, 16, .inr (.inl cf))), (ga, .inl (cI, 4, .inl (upd (upd (upd (upd (upd g 0 (0 : Int32)) 1 (0 : Int32)) 2 (0 : Int32)) 3 (0 : Int32)) 0 (dirc cf 2 (1 : Int32) 0))))]) (tx_runSN (As := [.int (2 : Int32)]) (rest := [.ref cu]) hx hb hml hown (c_D_maskOf E H.size 2 (by decide)) (cx_C (b0 := b0) G hx0 mw_365 mw_1 ny_D_maskOfAll (by decide)) (gw.at G hx0 mw_479 rfl _) (gw.at G hx0 mw_364 rfl _) (gw.at G hx0 mw_1 rfl _) ⟨cx_blind, (cx_pre (s := s) hx0 hP hD hS hA0 [] rfl rfl (by decide))⟩ rfl rfl hl.1 rfl (lv_room (Nat.le_of_ble_eq_true rfl)) d_MI_fillDirection_33 ⟨by decide, by decide⟩) hP hD hS hA [] [0, 1, 2] rfl rfl (by decide) (by decide) (fun v t w1 H locs ht hW9 hp hP hD hS => ?_) (fun x t w1 H locs ht hW9 hp hP hD hS => by obtain ⟨h9, -⟩ := hp; cases h9)
  obtain ⟨h9, rfl⟩ := hp
  cases h9
  refine W.eq (g2 := F0 m 36 ls [.int (nI (2 ^ 2 - 1)), .ref cu]) rfl ?_
  refine W.widen (k := 0) (n := 0) (by decide) (by decide) ?_
  have hP : va_P D kl [(mi, .inr (2, [.ref cu, .ref nx, .int (1 : Int32)])), (cu, .inl (cJ, 16, .inr (.inl cf))), (ga, .inl (cI, 4, .inl (upd (upd (upd (upd (upd g 0 (0 : Int32)) 1 (0 : Int32)) 2 (0 : Int32)) 3 (0 : Int32)) 0 (dirc cf 2 (1 : Int32) 0))))] H := hP
  have hD : va_D A [(mi, .inr (2, [.ref cu, .ref nx, .int (1 : Int32)])), (cu, .inl (cJ, 16, .inr (.inl cf))), (ga, .inl (cI, 4, .inl (upd (upd (upd (upd (upd g 0 (0 : Int32)) 1 (0 : Int32)) 2 (0 : Int32)) 3 (0 : Int32)) 0 (dirc cf 2 (1 : Int32) 0))))] := hD
  refine tp_i (y := (3 : Int32)) (by decide) ?_
  refine lv_iconst (v := (1 : Int32)) hx hb d_MI_fillDirection_36 (by decide) ?_
  refine lv_iload hx hb d_MI_fillDirection_37 (lv_at hl 0 rfl) ?_
  refine lv_ishl hx hb d_MI_fillDirection_39 ?_
  refine tp_i (y := (2 : Int32)) (by decide) ?_
  refine lv_ixor hx hb d_MI_fillDirection_40 ?_
  refine tp_i (y := (1 : Int32)) (by decide) ?_
  refine va_lald hx hb hK hP 1 1 rfl rfl (vp_in_iff.mpr (by decide)) d_MI_fillDirection_41 ?_
  refine tp_l (y := cf 1) (by rfl) ?_
  refine lv_lload hx hb d_MI_fillDirection_42 (lv_at hl 2 rfl) ?_
  refine lv_ldiv hx hb d_MI_fillDirection_44 hd ?_
  refine lv_lstore (lv' := [(7, .long ((cf 1) / (cdl cf (lev 1)))), (6, .int (1 : Int32)), (4, .long (cdl cf (lev 1))), (0, .ref mi), (1, .ref ga), (2, .int (2 : Int32)), (3, .int (1 : Int32))]) hx hb d_MI_fillDirection_45 hl (by decide) rfl (fun ls hl => ?_)
  refine lv_aload_n hx hb d_MI_fillDirection_47 rfl (lv_at hl 4 rfl) ?_
  refine lv_iload hx hb d_MI_fillDirection_48 (lv_at hl 1 rfl) ?_
  refine lv_iload hx hb d_MI_fillDirection_50 (lv_at hl 1 rfl) ?_
  refine lv_iconst (v := (2 : Int32)) hx hb d_MI_fillDirection_52 (by decide) ?_
  refine lv_irem hx hb d_MI_fillDirection_53 (by decide) ?_
  refine tp_i (y := (1 : Int32)) (by decide) ?_
  refine lv_if_ne (tgt := 62) hx hb d_MI_fillDirection_54 (by decide) (fun _ => ?_) (fun h99 => absurd h99 (by decide))
  refine lv_lload hx hb d_MI_fillDirection_62 (lv_at hl 0 rfl) ?_
  refine lv_lneg hx hb d_MI_fillDirection_64 ?_
  refine lv_l2i (v := (-((cf 1) / (cdl cf (lev 1)))).toInt32) hx hb d_MI_fillDirection_65 rfl ?_
  refine lv_iload_n hx hb d_MI_fillDirection_66 rfl (lv_at hl 6 rfl) ?_
  refine lv_imul hx hb d_MI_fillDirection_67 ?_
  refine tp_i (y := dirc cf 2 (1 : Int32) 1) (by rfl) ?_
  refine va_iast hx hb hK hP hD hS 2 0 rfl rfl (vp_in_iff.mpr (by decide)) d_MI_fillDirection_68 (fun H locs hP hD hS => ?_)
  have hP : va_P D kl [(mi, .inr (2, [.ref cu, .ref nx, .int (1 : Int32)])), (cu, .inl (cJ, 16, .inr (.inl cf))), (ga, .inl (cI, 4, .inl (upd (upd (upd (upd (upd (upd g 0 (0 : Int32)) 1 (0 : Int32)) 2 (0 : Int32)) 3 (0 : Int32)) 0 (dirc cf 2 (1 : Int32) 0)) 1 (dirc cf 2 (1 : Int32) 1))))] H := hP
  have hD : va_D A [(mi, .inr (2, [.ref cu, .ref nx, .int (1 : Int32)])), (cu, .inl (cJ, 16, .inr (.inl cf))), (ga, .inl (cI, 4, .inl (upd (upd (upd (upd (upd (upd g 0 (0 : Int32)) 1 (0 : Int32)) 2 (0 : Int32)) 3 (0 : Int32)) 0 (dirc cf 2 (1 : Int32) 0)) 1 (dirc cf 2 (1 : Int32) 1))))] := hD
  refine lv_iinc (lv' := [(6, .int (2 : Int32)), (7, .long ((cf 1) / (cdl cf (lev 1)))), (4, .long (cdl cf (lev 1))), (0, .ref mi), (1, .ref ga), (2, .int (2 : Int32)), (3, .int (1 : Int32))]) (k := 1) (v := (2 : Int32)) hx hb d_MI_fillDirection_69 hl rfl (by decide) (by decide) rfl (fun ls hl => ?_)
  refine lv_goto (tgt := 22) hx hb d_MI_fillDirection_72 (by decide) ?_
  refine lv_iload hx hb d_MI_fillDirection_22 (lv_at hl 0 rfl) ?_
  refine lv_iload_n hx hb d_MI_fillDirection_24 rfl (lv_at hl 5 rfl) ?_
  refine lv_icmp_ge (tgt := 75) hx hb d_MI_fillDirection_25 (by decide) (fun _ => ?_) (fun h99 => absurd h99 (by decide))
  exact tx_mono (fun _ h => tx_Z.of h) (W.vret hx hb hr (fun t ht hW => ⟨⟨[(mi, .inr (2, [.ref cu, .ref nx, .int (1 : Int32)])), (cu, .inl (cJ, 16, .inr (.inl cf))), (ga, .inl (cI, 4, .inl (upd (upd (upd (upd (upd (upd g 0 (0 : Int32)) 1 (0 : Int32)) 2 (0 : Int32)) 3 (0 : Int32)) 0 (dirc cf 2 (1 : Int32) 0)) 1 (dirc cf 2 (1 : Int32) 1))))], ⟨rfl, rfl⟩, by rw [ht]; exact hP.sub [0, 1, 2] rfl, hD.sub [0, 1, 2] (by decide) rfl⟩, hS.F ht⟩) hS.2.2 d_MI_fillDirection_75)

set_option maxHeartbeats 4000000 in
set_option maxRecDepth 100000 in
theorem c_MI_dir2_m {l : Launch} {s0 : State} {b0 : Addr} {D : va_G} {cI cJ cZ : ClassId} {tC tS : Nat} (E : gE l s0 b0 D cI cJ cZ tC tS) (sz : Nat) (mi : Nat) (cu : Nat) (nx : Nat) (cf : Nat → Int64) (ga : Nat) (g : Nat → Int32) (hd : ¬ cdl cf (lev 1) = 0) : cx_M l s0 D kl y_MI_fillDirection b_MI_fillDirection 9 none ({ frames := 2, cells := 0, slots := 0, locals := 72 } : Room) 0 0 [.ref mi, .ref ga, .int (2 : Int32), .int (-1 : Int32)] [(mi, .inr (2, [.ref cu, .ref nx, .int (1 : Int32)])), (cu, .inl (cJ, 16, .inr (.inl cf))), (ga, .inl (cI, 4, .inl g))] sz (fun o9 _ w9 => o9 = .returned none ∧ w9 = [(mi, .inr (2, [.ref cu, .ref nx, .int (1 : Int32)])), (cu, .inl (cJ, 16, .inr (.inl cf))), (ga, .inl (cI, 4, .inl (upd (upd (upd (upd (upd (upd g 0 (0 : Int32)) 1 (0 : Int32)) 2 (0 : Int32)) 3 (0 : Int32)) 0 (dirc cf 2 (-1 : Int32) 0)) 1 (dirc cf 2 (-1 : Int32) 1))))]) := by
  refine tx_ofW (cc := b_MI_fillDirection) (maxL := 9) (ret := none) (by decide) rfl ?_
  intro p e s m args below meth c s₁ B hml hT hv
  obtain ⟨rfl, hsz, hP, hD0, hx0⟩ := hv
  have hx := B.exec
  have hb := B.bytes
  have hr := B.returns
  have G := E.2.1
  have hown : s.vm.findClass cn_MI = some m.cls := findClass_of_methodNamed B.named
  have hlocks := B.notSynchronized
  have hK := va_K.moved hx0.1.alike E.2.2.1
  have hf_MI : ∀ w99 ∈ u_ws cn_MI ft_MI 3, w99.before ([.ref mi, .ref ga, .int (2 : Int32), .int (-1 : Int32)] : List Value).toArray s = true := fun w99 h99 => gw.at G hx0 (fw_MI w99 h99) (fo_MI w99 h99) _
  subst hsz
  have hA0 := cx_new hD0 hx0.2.1
  have hD := hD0.self (sz := s.heap.size)
  generalize hAe : va_A [(mi, .inr (2, [.ref cu, .ref nx, .int (1 : Int32)])), (cu, .inl (cJ, 16, .inr (.inl cf))), (ga, .inl (cI, 4, .inl g))] s.heap.size = A at hD hA0 ⊢
  have hA : ∀ q : Nat, s.heap.size ≤ q → A q := fun q h => by rw [← hAe]; exact Or.inr h
  have hS : va_S A s.heap s.heap [] := va_S.rf
  have hl := lv_entry ([.ref mi, .ref ga, .int (2 : Int32), .int (-1 : Int32)]) (n := 9) (Nat.le_of_ble_eq_true rfl)
  rw [lg_entry_eq]
  generalize (lg_sl ([.ref mi, .ref ga, .int (2 : Int32), .int (-1 : Int32)]) ++ List.replicate (9 - (lg_sl ([.ref mi, .ref ga, .int (2 : Int32), .int (-1 : Int32)])).length) Slot.unset).toArray = ls at hl ⊢
  have hl : lv_has ls 9 [(0, .ref mi), (1, .ref ga), (2, .int (2 : Int32)), (3, .int (-1 : Int32))] := hl
  have hP : va_P D kl [(mi, .inr (2, [.ref cu, .ref nx, .int (1 : Int32)])), (cu, .inl (cJ, 16, .inr (.inl cf))), (ga, .inl (cI, 4, .inl g))] s.heap := hP
  have hml : c.maxLocals = 9 := hml
  refine lv_aload_n hx hb d_MI_fillDirection_0 rfl (lv_at hl 0 rfl) ?_
  refine cx_call (D := D) (cl := kl) (ws := _) (wc := [(mi, .inr (2, [.ref cu, .ref nx, .int (1 : Int32)])), (cu, .inl (cJ, 16, .inr (.inl cf)))]) (wr := [(ga, .inl (cI, 4, .inl g))]) (tx_runV (C := cn_MI) (b := mi) (As := []) (rest := []) hx hb hml hown (c_MI_comdiv1 E s.heap.size mi cu nx cf ) (cx_C (b0 := b0) G hx0 mw_461 mw_4 ny_MI_commonDivisor (by decide)) (gw.at G hx0 mw_458 rfl _) (gw.at G hx0 mw_459 rfl _) (gw.at G hx0 mw_460 rfl _) ⟨cx_blind, va_recv hK hP (q0 := 0) (ci := 2) (q := (cn_MI, ft_MI, 3)) rfl rfl, (cx_pre (s := s) hx0 hP hD hS hA0 [0, 1] rfl rfl (by decide))⟩ rfl rfl hl.1 rfl (lv_room (Nat.le_of_ble_eq_true rfl)) d_MI_fillDirection_1 ⟨by decide, by decide⟩) hP hD hS hA [0, 1] [2] rfl rfl (by decide) (by decide) (fun v t w1 H locs ht hW9 hp hP hD hS => ?_) (fun x t w1 H locs ht hW9 hp hP hD hS => by obtain ⟨h9, -⟩ := hp; cases h9)
  obtain ⟨h9, rfl⟩ := hp
  cases h9
  refine W.eq (g2 := F0 m 4 ls [.long (cdl cf (lev 1))]) rfl ?_
  refine W.widen (k := 0) (n := 0) (by decide) (by decide) ?_
  have hP : va_P D kl [(ga, .inl (cI, 4, .inl g)), (mi, .inr (2, [.ref cu, .ref nx, .int (1 : Int32)])), (cu, .inl (cJ, 16, .inr (.inl cf)))] H := hP
  have hD : va_D A [(ga, .inl (cI, 4, .inl g)), (mi, .inr (2, [.ref cu, .ref nx, .int (1 : Int32)])), (cu, .inl (cJ, 16, .inr (.inl cf)))] := hD
  refine lv_lstore (lv' := [(4, .long (cdl cf (lev 1))), (0, .ref mi), (1, .ref ga), (2, .int (2 : Int32)), (3, .int (-1 : Int32))]) hx hb d_MI_fillDirection_4 hl (by decide) rfl (fun ls hl => ?_)
  refine lv_lload hx hb d_MI_fillDirection_6 (lv_at hl 0 rfl) ?_
  refine lv_lconst (v := (0 : Int64)) hx hb d_MI_fillDirection_8 (by decide) ?_
  refine W.lcmp hx hb d_MI_fillDirection_9 ?_
  refine lv_if_ne (tgt := 14) hx hb d_MI_fillDirection_10 (by decide) (fun _ => ?_) (fun h99 => absurd h99 (lg_ne.mpr hd))
  refine lv_aload_n hx hb d_MI_fillDirection_14 rfl (lv_at hl 2 rfl) ?_
  refine lv_iconst (v := (0 : Int32)) hx hb d_MI_fillDirection_15 (by decide) ?_
  refine cx_call (D := D) (cl := kl) (ws := _) (wc := [(ga, .inl (cI, 4, .inl g))]) (wr := [(mi, .inr (2, [.ref cu, .ref nx, .int (1 : Int32)])), (cu, .inl (cJ, 16, .inr (.inl cf)))]) (tx_runS (As := [.ref ga, .int (0 : Int32)]) (rest := []) hx hb hml hown (c_JA_fill4 E H.size ga g ) (cx_C (b0 := b0) G hx0 mw_478 mw_18 ny_JA_fill (by decide)) (gw.at G hx0 mw_476 rfl _) (gw.at G hx0 mw_477 rfl _) (gw.at G hx0 mw_18 rfl _) ⟨cx_blind, (cx_pre (s := s) hx0 hP hD hS hA0 [0] rfl rfl (by decide))⟩ rfl rfl hl.1 rfl (lv_room (Nat.le_of_ble_eq_true rfl)) d_MI_fillDirection_16 ⟨by decide, by decide⟩) hP hD hS hA [0] [1, 2] rfl rfl (by decide) (by decide) (fun v t w1 H locs ht hW9 hp hP hD hS => ?_) (fun x t w1 H locs ht hW9 hp hP hD hS => by obtain ⟨h9, -⟩ := hp; cases h9)
  obtain ⟨h9, rfl⟩ := hp
  cases h9
  refine W.eq (g2 := F0 m 19 ls []) rfl ?_
  refine W.widen (k := 0) (n := 0) (by decide) (by decide) ?_
  have hP : va_P D kl [(mi, .inr (2, [.ref cu, .ref nx, .int (1 : Int32)])), (cu, .inl (cJ, 16, .inr (.inl cf))), (ga, .inl (cI, 4, .inl (upd (upd (upd (upd g 0 (0 : Int32)) 1 (0 : Int32)) 2 (0 : Int32)) 3 (0 : Int32))))] H := hP
  have hD : va_D A [(mi, .inr (2, [.ref cu, .ref nx, .int (1 : Int32)])), (cu, .inl (cJ, 16, .inr (.inl cf))), (ga, .inl (cI, 4, .inl (upd (upd (upd (upd g 0 (0 : Int32)) 1 (0 : Int32)) 2 (0 : Int32)) 3 (0 : Int32))))] := hD
  refine lv_iconst (v := (0 : Int32)) hx hb d_MI_fillDirection_19 (by decide) ?_
  refine lv_istore (lv' := [(6, .int (0 : Int32)), (4, .long (cdl cf (lev 1))), (0, .ref mi), (1, .ref ga), (2, .int (2 : Int32)), (3, .int (-1 : Int32))]) hx hb d_MI_fillDirection_20 hl (by decide) rfl (fun ls hl => ?_)
  refine lv_iload hx hb d_MI_fillDirection_22 (lv_at hl 0 rfl) ?_
  refine lv_iload_n hx hb d_MI_fillDirection_24 rfl (lv_at hl 4 rfl) ?_
  refine lv_icmp_ge (tgt := 75) hx hb d_MI_fillDirection_25 (by decide) (fun h99 => absurd h99 (by decide)) (fun _ => ?_)
  refine lv_aload_n hx hb d_MI_fillDirection_28 rfl (lv_at hl 2 rfl) ?_
  refine va_get (D := D) (ci := 2) (v := .ref cu) (C := cn_MI) (T := ft_MI) (N := 3) hx hb hf_MI (fun _ h => h) hown hK hP 0 rfl rfl 0 (by decide) (gw.at G hx0 mw_64 rfl _) (fun _ h9 => h9) rfl d_MI_fillDirection_29 ?_
  refine lv_iload_n hx hb d_MI_fillDirection_32 rfl (lv_at hl 4 rfl) ?_
  refine cx_call (D := D) (cl := kl) (ws := _) (wc := []) (wr := [(mi, .inr (2, [.ref cu, .ref nx, .int (1 : Int32)])), (cu, .inl (cJ, 16, .inr (.inl cf))), (ga, .inl (cI, 4, .inl (upd (upd (upd (upd g 0 (0 : Int32)) 1 (0 : Int32)) 2 (0 : Int32)) 3 (0 : Int32))))]) (tx_runSN (As := [.int (2 : Int32)]) (rest := [.ref cu]) hx hb hml hown (c_D_maskOf E H.size 2 (by decide)) (cx_C (b0 := b0) G hx0 mw_365 mw_1 ny_D_maskOfAll (by decide)) (gw.at G hx0 mw_479 rfl _) (gw.at G hx0 mw_364 rfl _) (gw.at G hx0 mw_1 rfl _) ⟨cx_blind, (cx_pre (s := s) hx0 hP hD hS hA0 [] rfl rfl (by decide))⟩ rfl rfl hl.1 rfl (lv_room (Nat.le_of_ble_eq_true rfl)) d_MI_fillDirection_33 ⟨by decide, by decide⟩) hP hD hS hA [] [0, 1, 2] rfl rfl (by decide) (by decide) (fun v t w1 H locs ht hW9 hp hP hD hS => ?_) (fun x t w1 H locs ht hW9 hp hP hD hS => by obtain ⟨h9, -⟩ := hp; cases h9)
  obtain ⟨h9, rfl⟩ := hp
  cases h9
  refine W.eq (g2 := F0 m 36 ls [.int (nI (2 ^ 2 - 1)), .ref cu]) rfl ?_
  refine W.widen (k := 0) (n := 0) (by decide) (by decide) ?_
  have hP : va_P D kl [(mi, .inr (2, [.ref cu, .ref nx, .int (1 : Int32)])), (cu, .inl (cJ, 16, .inr (.inl cf))), (ga, .inl (cI, 4, .inl (upd (upd (upd (upd g 0 (0 : Int32)) 1 (0 : Int32)) 2 (0 : Int32)) 3 (0 : Int32))))] H := hP
  have hD : va_D A [(mi, .inr (2, [.ref cu, .ref nx, .int (1 : Int32)])), (cu, .inl (cJ, 16, .inr (.inl cf))), (ga, .inl (cI, 4, .inl (upd (upd (upd (upd g 0 (0 : Int32)) 1 (0 : Int32)) 2 (0 : Int32)) 3 (0 : Int32))))] := hD
  refine tp_i (y := (3 : Int32)) (by decide) ?_
  refine lv_iconst (v := (1 : Int32)) hx hb d_MI_fillDirection_36 (by decide) ?_
  refine lv_iload hx hb d_MI_fillDirection_37 (lv_at hl 0 rfl) ?_
  refine lv_ishl hx hb d_MI_fillDirection_39 ?_
  refine tp_i (y := (1 : Int32)) (by decide) ?_
  refine lv_ixor hx hb d_MI_fillDirection_40 ?_
  refine tp_i (y := (2 : Int32)) (by decide) ?_
  refine va_lald hx hb hK hP 1 1 rfl rfl (vp_in_iff.mpr (by decide)) d_MI_fillDirection_41 ?_
  refine tp_l (y := cf 2) (by rfl) ?_
  refine lv_lload hx hb d_MI_fillDirection_42 (lv_at hl 1 rfl) ?_
  refine lv_ldiv hx hb d_MI_fillDirection_44 hd ?_
  refine lv_lstore (lv' := [(7, .long ((cf 2) / (cdl cf (lev 1)))), (6, .int (0 : Int32)), (4, .long (cdl cf (lev 1))), (0, .ref mi), (1, .ref ga), (2, .int (2 : Int32)), (3, .int (-1 : Int32))]) hx hb d_MI_fillDirection_45 hl (by decide) rfl (fun ls hl => ?_)
  refine lv_aload_n hx hb d_MI_fillDirection_47 rfl (lv_at hl 4 rfl) ?_
  refine lv_iload hx hb d_MI_fillDirection_48 (lv_at hl 1 rfl) ?_
  refine lv_iload hx hb d_MI_fillDirection_50 (lv_at hl 1 rfl) ?_
  refine lv_iconst (v := (2 : Int32)) hx hb d_MI_fillDirection_52 (by decide) ?_
  refine lv_irem hx hb d_MI_fillDirection_53 (by decide) ?_
  refine tp_i (y := (0 : Int32)) (by decide) ?_
  refine lv_if_ne (tgt := 62) hx hb d_MI_fillDirection_54 (by decide) (fun h99 => absurd h99 (by decide)) (fun _ => ?_)
  refine lv_lload hx hb d_MI_fillDirection_57 (lv_at hl 0 rfl) ?_
  refine lv_goto (tgt := 65) hx hb d_MI_fillDirection_59 (by decide) ?_
  refine lv_l2i (v := ((cf 2) / (cdl cf (lev 1))).toInt32) hx hb d_MI_fillDirection_65 rfl ?_
  refine lv_iload_n hx hb d_MI_fillDirection_66 rfl (lv_at hl 6 rfl) ?_
  refine lv_imul hx hb d_MI_fillDirection_67 ?_
  refine tp_i (y := dirc cf 2 (-1 : Int32) 0) (by rfl) ?_
  refine va_iast hx hb hK hP hD hS 2 0 rfl rfl (vp_in_iff.mpr (by decide)) d_MI_fillDirection_68 (fun H locs hP hD hS => ?_)
  have hP : va_P D kl [(mi, .inr (2, [.ref cu, .ref nx, .int (1 : Int32)])), (cu, .inl (cJ, 16, .inr (.inl cf))), (ga, .inl (cI, 4, .inl (upd (upd (upd (upd (upd g 0 (0 : Int32)) 1 (0 : Int32)) 2 (0 : Int32)) 3 (0 : Int32)) 0 (dirc cf 2 (-1 : Int32) 0))))] H := hP
  have hD : va_D A [(mi, .inr (2, [.ref cu, .ref nx, .int (1 : Int32)])), (cu, .inl (cJ, 16, .inr (.inl cf))), (ga, .inl (cI, 4, .inl (upd (upd (upd (upd (upd g 0 (0 : Int32)) 1 (0 : Int32)) 2 (0 : Int32)) 3 (0 : Int32)) 0 (dirc cf 2 (-1 : Int32) 0))))] := hD
  refine lv_iinc (lv' := [(6, .int (1 : Int32)), (7, .long ((cf 2) / (cdl cf (lev 1)))), (4, .long (cdl cf (lev 1))), (0, .ref mi), (1, .ref ga), (2, .int (2 : Int32)), (3, .int (-1 : Int32))]) (k := 1) (v := (1 : Int32)) hx hb d_MI_fillDirection_69 hl rfl (by decide) (by decide) rfl (fun ls hl => ?_)
  refine lv_goto (tgt := 22) hx hb d_MI_fillDirection_72 (by decide) ?_
  refine lv_iload hx hb d_MI_fillDirection_22 (lv_at hl 0 rfl) ?_
  refine lv_iload_n hx hb d_MI_fillDirection_24 rfl (lv_at hl 5 rfl) ?_
  refine lv_icmp_ge (tgt := 75) hx hb d_MI_fillDirection_25 (by decide) (fun h99 => absurd h99 (by decide)) (fun _ => ?_)
  refine lv_aload_n hx hb d_MI_fillDirection_28 rfl (lv_at hl 3 rfl) ?_
  refine va_get (D := D) (ci := 2) (v := .ref cu) (C := cn_MI) (T := ft_MI) (N := 3) hx hb hf_MI (fun _ h => h) hown hK hP 0 rfl rfl 0 (by decide) (gw.at G hx0 mw_64 rfl _) (fun _ h9 => h9) rfl d_MI_fillDirection_29 ?_
  refine lv_iload_n hx hb d_MI_fillDirection_32 rfl (lv_at hl 5 rfl) ?_
  refine cx_call (D := D) (cl := kl) (ws := _) (wc := []) (wr := [(mi, .inr (2, [.ref cu, .ref nx, .int (1 : Int32)])), (cu, .inl (cJ, 16, .inr (.inl cf))), (ga, .inl (cI, 4, .inl (upd (upd (upd (upd (upd g 0 (0 : Int32)) 1 (0 : Int32)) 2 (0 : Int32)) 3 (0 : Int32)) 0 (dirc cf 2 (-1 : Int32) 0))))]) (tx_runSN (As := [.int (2 : Int32)]) (rest := [.ref cu]) hx hb hml hown (c_D_maskOf E H.size 2 (by decide)) (cx_C (b0 := b0) G hx0 mw_365 mw_1 ny_D_maskOfAll (by decide)) (gw.at G hx0 mw_479 rfl _) (gw.at G hx0 mw_364 rfl _) (gw.at G hx0 mw_1 rfl _) ⟨cx_blind, (cx_pre (s := s) hx0 hP hD hS hA0 [] rfl rfl (by decide))⟩ rfl rfl hl.1 rfl (lv_room (Nat.le_of_ble_eq_true rfl)) d_MI_fillDirection_33 ⟨by decide, by decide⟩) hP hD hS hA [] [0, 1, 2] rfl rfl (by decide) (by decide) (fun v t w1 H locs ht hW9 hp hP hD hS => ?_) (fun x t w1 H locs ht hW9 hp hP hD hS => by obtain ⟨h9, -⟩ := hp; cases h9)
  obtain ⟨h9, rfl⟩ := hp
  cases h9
  refine W.eq (g2 := F0 m 36 ls [.int (nI (2 ^ 2 - 1)), .ref cu]) rfl ?_
  refine W.widen (k := 0) (n := 0) (by decide) (by decide) ?_
  have hP : va_P D kl [(mi, .inr (2, [.ref cu, .ref nx, .int (1 : Int32)])), (cu, .inl (cJ, 16, .inr (.inl cf))), (ga, .inl (cI, 4, .inl (upd (upd (upd (upd (upd g 0 (0 : Int32)) 1 (0 : Int32)) 2 (0 : Int32)) 3 (0 : Int32)) 0 (dirc cf 2 (-1 : Int32) 0))))] H := hP
  have hD : va_D A [(mi, .inr (2, [.ref cu, .ref nx, .int (1 : Int32)])), (cu, .inl (cJ, 16, .inr (.inl cf))), (ga, .inl (cI, 4, .inl (upd (upd (upd (upd (upd g 0 (0 : Int32)) 1 (0 : Int32)) 2 (0 : Int32)) 3 (0 : Int32)) 0 (dirc cf 2 (-1 : Int32) 0))))] := hD
  refine tp_i (y := (3 : Int32)) (by decide) ?_
  refine lv_iconst (v := (1 : Int32)) hx hb d_MI_fillDirection_36 (by decide) ?_
  refine lv_iload hx hb d_MI_fillDirection_37 (lv_at hl 0 rfl) ?_
  refine lv_ishl hx hb d_MI_fillDirection_39 ?_
  refine tp_i (y := (2 : Int32)) (by decide) ?_
  refine lv_ixor hx hb d_MI_fillDirection_40 ?_
  refine tp_i (y := (1 : Int32)) (by decide) ?_
  refine va_lald hx hb hK hP 1 1 rfl rfl (vp_in_iff.mpr (by decide)) d_MI_fillDirection_41 ?_
  refine tp_l (y := cf 1) (by rfl) ?_
  refine lv_lload hx hb d_MI_fillDirection_42 (lv_at hl 2 rfl) ?_
  refine lv_ldiv hx hb d_MI_fillDirection_44 hd ?_
  refine lv_lstore (lv' := [(7, .long ((cf 1) / (cdl cf (lev 1)))), (6, .int (1 : Int32)), (4, .long (cdl cf (lev 1))), (0, .ref mi), (1, .ref ga), (2, .int (2 : Int32)), (3, .int (-1 : Int32))]) hx hb d_MI_fillDirection_45 hl (by decide) rfl (fun ls hl => ?_)
  refine lv_aload_n hx hb d_MI_fillDirection_47 rfl (lv_at hl 4 rfl) ?_
  refine lv_iload hx hb d_MI_fillDirection_48 (lv_at hl 1 rfl) ?_
  refine lv_iload hx hb d_MI_fillDirection_50 (lv_at hl 1 rfl) ?_
  refine lv_iconst (v := (2 : Int32)) hx hb d_MI_fillDirection_52 (by decide) ?_
  refine lv_irem hx hb d_MI_fillDirection_53 (by decide) ?_
  refine tp_i (y := (1 : Int32)) (by decide) ?_
  refine lv_if_ne (tgt := 62) hx hb d_MI_fillDirection_54 (by decide) (fun _ => ?_) (fun h99 => absurd h99 (by decide))
  refine lv_lload hx hb d_MI_fillDirection_62 (lv_at hl 0 rfl) ?_
  refine lv_lneg hx hb d_MI_fillDirection_64 ?_
  refine lv_l2i (v := (-((cf 1) / (cdl cf (lev 1)))).toInt32) hx hb d_MI_fillDirection_65 rfl ?_
  refine lv_iload_n hx hb d_MI_fillDirection_66 rfl (lv_at hl 6 rfl) ?_
  refine lv_imul hx hb d_MI_fillDirection_67 ?_
  refine tp_i (y := dirc cf 2 (-1 : Int32) 1) (by rfl) ?_
  refine va_iast hx hb hK hP hD hS 2 0 rfl rfl (vp_in_iff.mpr (by decide)) d_MI_fillDirection_68 (fun H locs hP hD hS => ?_)
  have hP : va_P D kl [(mi, .inr (2, [.ref cu, .ref nx, .int (1 : Int32)])), (cu, .inl (cJ, 16, .inr (.inl cf))), (ga, .inl (cI, 4, .inl (upd (upd (upd (upd (upd (upd g 0 (0 : Int32)) 1 (0 : Int32)) 2 (0 : Int32)) 3 (0 : Int32)) 0 (dirc cf 2 (-1 : Int32) 0)) 1 (dirc cf 2 (-1 : Int32) 1))))] H := hP
  have hD : va_D A [(mi, .inr (2, [.ref cu, .ref nx, .int (1 : Int32)])), (cu, .inl (cJ, 16, .inr (.inl cf))), (ga, .inl (cI, 4, .inl (upd (upd (upd (upd (upd (upd g 0 (0 : Int32)) 1 (0 : Int32)) 2 (0 : Int32)) 3 (0 : Int32)) 0 (dirc cf 2 (-1 : Int32) 0)) 1 (dirc cf 2 (-1 : Int32) 1))))] := hD
  refine lv_iinc (lv' := [(6, .int (2 : Int32)), (7, .long ((cf 1) / (cdl cf (lev 1)))), (4, .long (cdl cf (lev 1))), (0, .ref mi), (1, .ref ga), (2, .int (2 : Int32)), (3, .int (-1 : Int32))]) (k := 1) (v := (2 : Int32)) hx hb d_MI_fillDirection_69 hl rfl (by decide) (by decide) rfl (fun ls hl => ?_)
  refine lv_goto (tgt := 22) hx hb d_MI_fillDirection_72 (by decide) ?_
  refine lv_iload hx hb d_MI_fillDirection_22 (lv_at hl 0 rfl) ?_
  refine lv_iload_n hx hb d_MI_fillDirection_24 rfl (lv_at hl 5 rfl) ?_
  refine lv_icmp_ge (tgt := 75) hx hb d_MI_fillDirection_25 (by decide) (fun _ => ?_) (fun h99 => absurd h99 (by decide))
  exact tx_mono (fun _ h => tx_Z.of h) (W.vret hx hb hr (fun t ht hW => ⟨⟨[(mi, .inr (2, [.ref cu, .ref nx, .int (1 : Int32)])), (cu, .inl (cJ, 16, .inr (.inl cf))), (ga, .inl (cI, 4, .inl (upd (upd (upd (upd (upd (upd g 0 (0 : Int32)) 1 (0 : Int32)) 2 (0 : Int32)) 3 (0 : Int32)) 0 (dirc cf 2 (-1 : Int32) 0)) 1 (dirc cf 2 (-1 : Int32) 1))))], ⟨rfl, rfl⟩, by rw [ht]; exact hP.sub [0, 1, 2] rfl, hD.sub [0, 1, 2] (by decide) rfl⟩, hS.F ht⟩) hS.2.2 d_MI_fillDirection_75)

set_option maxHeartbeats 4000000 in
set_option maxRecDepth 100000 in
theorem c_MI_dir3_0 {l : Launch} {s0 : State} {b0 : Addr} {D : va_G} {cI cJ cZ : ClassId} {tC tS : Nat} (E : gE l s0 b0 D cI cJ cZ tC tS) (sz : Nat) (mi : Nat) (cu : Nat) (nx : Nat) (cf : Nat → Int64) (ga : Nat) (g : Nat → Int32) (sg : Int32) (hd : cdl cf (lev 2) = 0) : cx_M l s0 D kl y_MI_fillDirection b_MI_fillDirection 9 none ({ frames := 2, cells := 0, slots := 0, locals := 72 } : Room) 0 0 [.ref mi, .ref ga, .int (3 : Int32), .int sg] [(mi, .inr (2, [.ref cu, .ref nx, .int (2 : Int32)])), (cu, .inl (cJ, 16, .inr (.inl cf))), (ga, .inl (cI, 4, .inl g))] sz (fun o9 _ w9 => o9 = .returned none ∧ w9 = [(mi, .inr (2, [.ref cu, .ref nx, .int (2 : Int32)])), (cu, .inl (cJ, 16, .inr (.inl cf))), (ga, .inl (cI, 4, .inl g))]) := by
  refine tx_ofW (cc := b_MI_fillDirection) (maxL := 9) (ret := none) (by decide) rfl ?_
  intro p e s m args below meth c s₁ B hml hT hv
  obtain ⟨rfl, hsz, hP, hD0, hx0⟩ := hv
  have hx := B.exec
  have hb := B.bytes
  have hr := B.returns
  have G := E.2.1
  have hown : s.vm.findClass cn_MI = some m.cls := findClass_of_methodNamed B.named
  have hlocks := B.notSynchronized
  have hK := va_K.moved hx0.1.alike E.2.2.1
  subst hsz
  have hA0 := cx_new hD0 hx0.2.1
  have hD := hD0.self (sz := s.heap.size)
  generalize hAe : va_A [(mi, .inr (2, [.ref cu, .ref nx, .int (2 : Int32)])), (cu, .inl (cJ, 16, .inr (.inl cf))), (ga, .inl (cI, 4, .inl g))] s.heap.size = A at hD hA0 ⊢
  have hA : ∀ q : Nat, s.heap.size ≤ q → A q := fun q h => by rw [← hAe]; exact Or.inr h
  have hS : va_S A s.heap s.heap [] := va_S.rf
  have hl := lv_entry ([.ref mi, .ref ga, .int (3 : Int32), .int sg]) (n := 9) (Nat.le_of_ble_eq_true rfl)
  rw [lg_entry_eq]
  generalize (lg_sl ([.ref mi, .ref ga, .int (3 : Int32), .int sg]) ++ List.replicate (9 - (lg_sl ([.ref mi, .ref ga, .int (3 : Int32), .int sg])).length) Slot.unset).toArray = ls at hl ⊢
  have hl : lv_has ls 9 [(0, .ref mi), (1, .ref ga), (2, .int (3 : Int32)), (3, .int sg)] := hl
  have hP : va_P D kl [(mi, .inr (2, [.ref cu, .ref nx, .int (2 : Int32)])), (cu, .inl (cJ, 16, .inr (.inl cf))), (ga, .inl (cI, 4, .inl g))] s.heap := hP
  have hml : c.maxLocals = 9 := hml
  refine lv_aload_n hx hb d_MI_fillDirection_0 rfl (lv_at hl 0 rfl) ?_
  refine cx_call (D := D) (cl := kl) (ws := _) (wc := [(mi, .inr (2, [.ref cu, .ref nx, .int (2 : Int32)])), (cu, .inl (cJ, 16, .inr (.inl cf)))]) (wr := [(ga, .inl (cI, 4, .inl g))]) (tx_runV (C := cn_MI) (b := mi) (As := []) (rest := []) hx hb hml hown (c_MI_comdiv2 E s.heap.size mi cu nx cf ) (cx_C (b0 := b0) G hx0 mw_461 mw_4 ny_MI_commonDivisor (by decide)) (gw.at G hx0 mw_458 rfl _) (gw.at G hx0 mw_459 rfl _) (gw.at G hx0 mw_460 rfl _) ⟨cx_blind, va_recv hK hP (q0 := 0) (ci := 2) (q := (cn_MI, ft_MI, 3)) rfl rfl, (cx_pre (s := s) hx0 hP hD hS hA0 [0, 1] rfl rfl (by decide))⟩ rfl rfl hl.1 rfl (lv_room (Nat.le_of_ble_eq_true rfl)) d_MI_fillDirection_1 ⟨by decide, by decide⟩) hP hD hS hA [0, 1] [2] rfl rfl (by decide) (by decide) (fun v t w1 H locs ht hW9 hp hP hD hS => ?_) (fun x t w1 H locs ht hW9 hp hP hD hS => by obtain ⟨h9, -⟩ := hp; cases h9)
  obtain ⟨h9, rfl⟩ := hp
  cases h9
  refine W.eq (g2 := F0 m 4 ls [.long (cdl cf (lev 2))]) rfl ?_
  refine W.widen (k := 0) (n := 0) (by decide) (by decide) ?_
  have hP : va_P D kl [(ga, .inl (cI, 4, .inl g)), (mi, .inr (2, [.ref cu, .ref nx, .int (2 : Int32)])), (cu, .inl (cJ, 16, .inr (.inl cf)))] H := hP
  have hD : va_D A [(ga, .inl (cI, 4, .inl g)), (mi, .inr (2, [.ref cu, .ref nx, .int (2 : Int32)])), (cu, .inl (cJ, 16, .inr (.inl cf)))] := hD
  refine lv_lstore (lv' := [(4, .long (cdl cf (lev 2))), (0, .ref mi), (1, .ref ga), (2, .int (3 : Int32)), (3, .int sg)]) hx hb d_MI_fillDirection_4 hl (by decide) rfl (fun ls hl => ?_)
  refine lv_lload hx hb d_MI_fillDirection_6 (lv_at hl 0 rfl) ?_
  refine lv_lconst (v := (0 : Int64)) hx hb d_MI_fillDirection_8 (by decide) ?_
  refine W.lcmp hx hb d_MI_fillDirection_9 ?_
  refine lv_if_ne (tgt := 14) hx hb d_MI_fillDirection_10 (by decide) (fun h99 => absurd h99 (not_not_intro (by rw [hd]; decide))) (fun _ => ?_)
  exact tx_mono (fun _ h => tx_Z.of h) (W.vret hx hb hr (fun t ht hW => ⟨⟨[(mi, .inr (2, [.ref cu, .ref nx, .int (2 : Int32)])), (cu, .inl (cJ, 16, .inr (.inl cf))), (ga, .inl (cI, 4, .inl g))], ⟨rfl, rfl⟩, by rw [ht]; exact hP.sub [1, 2, 0] rfl, hD.sub [1, 2, 0] (by decide) rfl⟩, hS.F ht⟩) hS.2.2 d_MI_fillDirection_13)

set_option maxHeartbeats 4000000 in
set_option maxRecDepth 100000 in
theorem c_MI_dir3_p {l : Launch} {s0 : State} {b0 : Addr} {D : va_G} {cI cJ cZ : ClassId} {tC tS : Nat} (E : gE l s0 b0 D cI cJ cZ tC tS) (sz : Nat) (mi : Nat) (cu : Nat) (nx : Nat) (cf : Nat → Int64) (ga : Nat) (g : Nat → Int32) (hd : ¬ cdl cf (lev 2) = 0) : cx_M l s0 D kl y_MI_fillDirection b_MI_fillDirection 9 none ({ frames := 2, cells := 0, slots := 0, locals := 72 } : Room) 0 0 [.ref mi, .ref ga, .int (3 : Int32), .int (1 : Int32)] [(mi, .inr (2, [.ref cu, .ref nx, .int (2 : Int32)])), (cu, .inl (cJ, 16, .inr (.inl cf))), (ga, .inl (cI, 4, .inl g))] sz (fun o9 _ w9 => o9 = .returned none ∧ w9 = [(mi, .inr (2, [.ref cu, .ref nx, .int (2 : Int32)])), (cu, .inl (cJ, 16, .inr (.inl cf))), (ga, .inl (cI, 4, .inl (upd (upd (upd (upd (upd (upd (upd g 0 (0 : Int32)) 1 (0 : Int32)) 2 (0 : Int32)) 3 (0 : Int32)) 0 (dirc cf 3 (1 : Int32) 0)) 1 (dirc cf 3 (1 : Int32) 1)) 2 (dirc cf 3 (1 : Int32) 2))))]) := by
  refine tx_ofW (cc := b_MI_fillDirection) (maxL := 9) (ret := none) (by decide) rfl ?_
  intro p e s m args below meth c s₁ B hml hT hv
  obtain ⟨rfl, hsz, hP, hD0, hx0⟩ := hv
  have hx := B.exec
  have hb := B.bytes
  have hr := B.returns
  have G := E.2.1
  have hown : s.vm.findClass cn_MI = some m.cls := findClass_of_methodNamed B.named
  have hlocks := B.notSynchronized
  have hK := va_K.moved hx0.1.alike E.2.2.1
  have hf_MI : ∀ w99 ∈ u_ws cn_MI ft_MI 3, w99.before ([.ref mi, .ref ga, .int (3 : Int32), .int (1 : Int32)] : List Value).toArray s = true := fun w99 h99 => gw.at G hx0 (fw_MI w99 h99) (fo_MI w99 h99) _
  subst hsz
  have hA0 := cx_new hD0 hx0.2.1
  have hD := hD0.self (sz := s.heap.size)
  generalize hAe : va_A [(mi, .inr (2, [.ref cu, .ref nx, .int (2 : Int32)])), (cu, .inl (cJ, 16, .inr (.inl cf))), (ga, .inl (cI, 4, .inl g))] s.heap.size = A at hD hA0 ⊢
  have hA : ∀ q : Nat, s.heap.size ≤ q → A q := fun q h => by rw [← hAe]; exact Or.inr h
  have hS : va_S A s.heap s.heap [] := va_S.rf
  have hl := lv_entry ([.ref mi, .ref ga, .int (3 : Int32), .int (1 : Int32)]) (n := 9) (Nat.le_of_ble_eq_true rfl)
  rw [lg_entry_eq]
  generalize (lg_sl ([.ref mi, .ref ga, .int (3 : Int32), .int (1 : Int32)]) ++ List.replicate (9 - (lg_sl ([.ref mi, .ref ga, .int (3 : Int32), .int (1 : Int32)])).length) Slot.unset).toArray = ls at hl ⊢
  have hl : lv_has ls 9 [(0, .ref mi), (1, .ref ga), (2, .int (3 : Int32)), (3, .int (1 : Int32))] := hl
  have hP : va_P D kl [(mi, .inr (2, [.ref cu, .ref nx, .int (2 : Int32)])), (cu, .inl (cJ, 16, .inr (.inl cf))), (ga, .inl (cI, 4, .inl g))] s.heap := hP
  have hml : c.maxLocals = 9 := hml
  refine lv_aload_n hx hb d_MI_fillDirection_0 rfl (lv_at hl 0 rfl) ?_
  refine cx_call (D := D) (cl := kl) (ws := _) (wc := [(mi, .inr (2, [.ref cu, .ref nx, .int (2 : Int32)])), (cu, .inl (cJ, 16, .inr (.inl cf)))]) (wr := [(ga, .inl (cI, 4, .inl g))]) (tx_runV (C := cn_MI) (b := mi) (As := []) (rest := []) hx hb hml hown (c_MI_comdiv2 E s.heap.size mi cu nx cf ) (cx_C (b0 := b0) G hx0 mw_461 mw_4 ny_MI_commonDivisor (by decide)) (gw.at G hx0 mw_458 rfl _) (gw.at G hx0 mw_459 rfl _) (gw.at G hx0 mw_460 rfl _) ⟨cx_blind, va_recv hK hP (q0 := 0) (ci := 2) (q := (cn_MI, ft_MI, 3)) rfl rfl, (cx_pre (s := s) hx0 hP hD hS hA0 [0, 1] rfl rfl (by decide))⟩ rfl rfl hl.1 rfl (lv_room (Nat.le_of_ble_eq_true rfl)) d_MI_fillDirection_1 ⟨by decide, by decide⟩) hP hD hS hA [0, 1] [2] rfl rfl (by decide) (by decide) (fun v t w1 H locs ht hW9 hp hP hD hS => ?_) (fun x t w1 H locs ht hW9 hp hP hD hS => by obtain ⟨h9, -⟩ := hp; cases h9)
  obtain ⟨h9, rfl⟩ := hp
  cases h9
  refine W.eq (g2 := F0 m 4 ls [.long (cdl cf (lev 2))]) rfl ?_
  refine W.widen (k := 0) (n := 0) (by decide) (by decide) ?_
  have hP : va_P D kl [(ga, .inl (cI, 4, .inl g)), (mi, .inr (2, [.ref cu, .ref nx, .int (2 : Int32)])), (cu, .inl (cJ, 16, .inr (.inl cf)))] H := hP
  have hD : va_D A [(ga, .inl (cI, 4, .inl g)), (mi, .inr (2, [.ref cu, .ref nx, .int (2 : Int32)])), (cu, .inl (cJ, 16, .inr (.inl cf)))] := hD
  refine lv_lstore (lv' := [(4, .long (cdl cf (lev 2))), (0, .ref mi), (1, .ref ga), (2, .int (3 : Int32)), (3, .int (1 : Int32))]) hx hb d_MI_fillDirection_4 hl (by decide) rfl (fun ls hl => ?_)
  refine lv_lload hx hb d_MI_fillDirection_6 (lv_at hl 0 rfl) ?_
  refine lv_lconst (v := (0 : Int64)) hx hb d_MI_fillDirection_8 (by decide) ?_
  refine W.lcmp hx hb d_MI_fillDirection_9 ?_
  refine lv_if_ne (tgt := 14) hx hb d_MI_fillDirection_10 (by decide) (fun _ => ?_) (fun h99 => absurd h99 (lg_ne.mpr hd))
  refine lv_aload_n hx hb d_MI_fillDirection_14 rfl (lv_at hl 2 rfl) ?_
  refine lv_iconst (v := (0 : Int32)) hx hb d_MI_fillDirection_15 (by decide) ?_
  refine cx_call (D := D) (cl := kl) (ws := _) (wc := [(ga, .inl (cI, 4, .inl g))]) (wr := [(mi, .inr (2, [.ref cu, .ref nx, .int (2 : Int32)])), (cu, .inl (cJ, 16, .inr (.inl cf)))]) (tx_runS (As := [.ref ga, .int (0 : Int32)]) (rest := []) hx hb hml hown (c_JA_fill4 E H.size ga g ) (cx_C (b0 := b0) G hx0 mw_478 mw_18 ny_JA_fill (by decide)) (gw.at G hx0 mw_476 rfl _) (gw.at G hx0 mw_477 rfl _) (gw.at G hx0 mw_18 rfl _) ⟨cx_blind, (cx_pre (s := s) hx0 hP hD hS hA0 [0] rfl rfl (by decide))⟩ rfl rfl hl.1 rfl (lv_room (Nat.le_of_ble_eq_true rfl)) d_MI_fillDirection_16 ⟨by decide, by decide⟩) hP hD hS hA [0] [1, 2] rfl rfl (by decide) (by decide) (fun v t w1 H locs ht hW9 hp hP hD hS => ?_) (fun x t w1 H locs ht hW9 hp hP hD hS => by obtain ⟨h9, -⟩ := hp; cases h9)
  obtain ⟨h9, rfl⟩ := hp
  cases h9
  refine W.eq (g2 := F0 m 19 ls []) rfl ?_
  refine W.widen (k := 0) (n := 0) (by decide) (by decide) ?_
  have hP : va_P D kl [(mi, .inr (2, [.ref cu, .ref nx, .int (2 : Int32)])), (cu, .inl (cJ, 16, .inr (.inl cf))), (ga, .inl (cI, 4, .inl (upd (upd (upd (upd g 0 (0 : Int32)) 1 (0 : Int32)) 2 (0 : Int32)) 3 (0 : Int32))))] H := hP
  have hD : va_D A [(mi, .inr (2, [.ref cu, .ref nx, .int (2 : Int32)])), (cu, .inl (cJ, 16, .inr (.inl cf))), (ga, .inl (cI, 4, .inl (upd (upd (upd (upd g 0 (0 : Int32)) 1 (0 : Int32)) 2 (0 : Int32)) 3 (0 : Int32))))] := hD
  refine lv_iconst (v := (0 : Int32)) hx hb d_MI_fillDirection_19 (by decide) ?_
  refine lv_istore (lv' := [(6, .int (0 : Int32)), (4, .long (cdl cf (lev 2))), (0, .ref mi), (1, .ref ga), (2, .int (3 : Int32)), (3, .int (1 : Int32))]) hx hb d_MI_fillDirection_20 hl (by decide) rfl (fun ls hl => ?_)
  refine lv_iload hx hb d_MI_fillDirection_22 (lv_at hl 0 rfl) ?_
  refine lv_iload_n hx hb d_MI_fillDirection_24 rfl (lv_at hl 4 rfl) ?_
  refine lv_icmp_ge (tgt := 75) hx hb d_MI_fillDirection_25 (by decide) (fun h99 => absurd h99 (by decide)) (fun _ => ?_)
  refine lv_aload_n hx hb d_MI_fillDirection_28 rfl (lv_at hl 2 rfl) ?_
  refine va_get (D := D) (ci := 2) (v := .ref cu) (C := cn_MI) (T := ft_MI) (N := 3) hx hb hf_MI (fun _ h => h) hown hK hP 0 rfl rfl 0 (by decide) (gw.at G hx0 mw_64 rfl _) (fun _ h9 => h9) rfl d_MI_fillDirection_29 ?_
  refine lv_iload_n hx hb d_MI_fillDirection_32 rfl (lv_at hl 4 rfl) ?_
  refine cx_call (D := D) (cl := kl) (ws := _) (wc := []) (wr := [(mi, .inr (2, [.ref cu, .ref nx, .int (2 : Int32)])), (cu, .inl (cJ, 16, .inr (.inl cf))), (ga, .inl (cI, 4, .inl (upd (upd (upd (upd g 0 (0 : Int32)) 1 (0 : Int32)) 2 (0 : Int32)) 3 (0 : Int32))))]) (tx_runSN (As := [.int (3 : Int32)]) (rest := [.ref cu]) hx hb hml hown (c_D_maskOf E H.size 3 (by decide)) (cx_C (b0 := b0) G hx0 mw_365 mw_1 ny_D_maskOfAll (by decide)) (gw.at G hx0 mw_479 rfl _) (gw.at G hx0 mw_364 rfl _) (gw.at G hx0 mw_1 rfl _) ⟨cx_blind, (cx_pre (s := s) hx0 hP hD hS hA0 [] rfl rfl (by decide))⟩ rfl rfl hl.1 rfl (lv_room (Nat.le_of_ble_eq_true rfl)) d_MI_fillDirection_33 ⟨by decide, by decide⟩) hP hD hS hA [] [0, 1, 2] rfl rfl (by decide) (by decide) (fun v t w1 H locs ht hW9 hp hP hD hS => ?_) (fun x t w1 H locs ht hW9 hp hP hD hS => by obtain ⟨h9, -⟩ := hp; cases h9)
  obtain ⟨h9, rfl⟩ := hp
  cases h9
  refine W.eq (g2 := F0 m 36 ls [.int (nI (2 ^ 3 - 1)), .ref cu]) rfl ?_
  refine W.widen (k := 0) (n := 0) (by decide) (by decide) ?_
  have hP : va_P D kl [(mi, .inr (2, [.ref cu, .ref nx, .int (2 : Int32)])), (cu, .inl (cJ, 16, .inr (.inl cf))), (ga, .inl (cI, 4, .inl (upd (upd (upd (upd g 0 (0 : Int32)) 1 (0 : Int32)) 2 (0 : Int32)) 3 (0 : Int32))))] H := hP
  have hD : va_D A [(mi, .inr (2, [.ref cu, .ref nx, .int (2 : Int32)])), (cu, .inl (cJ, 16, .inr (.inl cf))), (ga, .inl (cI, 4, .inl (upd (upd (upd (upd g 0 (0 : Int32)) 1 (0 : Int32)) 2 (0 : Int32)) 3 (0 : Int32))))] := hD
  refine tp_i (y := (7 : Int32)) (by decide) ?_
  refine lv_iconst (v := (1 : Int32)) hx hb d_MI_fillDirection_36 (by decide) ?_
  refine lv_iload hx hb d_MI_fillDirection_37 (lv_at hl 0 rfl) ?_
  refine lv_ishl hx hb d_MI_fillDirection_39 ?_
  refine tp_i (y := (1 : Int32)) (by decide) ?_
  refine lv_ixor hx hb d_MI_fillDirection_40 ?_
  refine tp_i (y := (6 : Int32)) (by decide) ?_
  refine va_lald hx hb hK hP 1 1 rfl rfl (vp_in_iff.mpr (by decide)) d_MI_fillDirection_41 ?_
  refine tp_l (y := cf 6) (by rfl) ?_
  refine lv_lload hx hb d_MI_fillDirection_42 (lv_at hl 1 rfl) ?_
  refine lv_ldiv hx hb d_MI_fillDirection_44 hd ?_
  refine lv_lstore (lv' := [(7, .long ((cf 6) / (cdl cf (lev 2)))), (6, .int (0 : Int32)), (4, .long (cdl cf (lev 2))), (0, .ref mi), (1, .ref ga), (2, .int (3 : Int32)), (3, .int (1 : Int32))]) hx hb d_MI_fillDirection_45 hl (by decide) rfl (fun ls hl => ?_)
  refine lv_aload_n hx hb d_MI_fillDirection_47 rfl (lv_at hl 4 rfl) ?_
  refine lv_iload hx hb d_MI_fillDirection_48 (lv_at hl 1 rfl) ?_
  refine lv_iload hx hb d_MI_fillDirection_50 (lv_at hl 1 rfl) ?_
  refine lv_iconst (v := (2 : Int32)) hx hb d_MI_fillDirection_52 (by decide) ?_
  refine lv_irem hx hb d_MI_fillDirection_53 (by decide) ?_
  refine tp_i (y := (0 : Int32)) (by decide) ?_
  refine lv_if_ne (tgt := 62) hx hb d_MI_fillDirection_54 (by decide) (fun h99 => absurd h99 (by decide)) (fun _ => ?_)
  refine lv_lload hx hb d_MI_fillDirection_57 (lv_at hl 0 rfl) ?_
  refine lv_goto (tgt := 65) hx hb d_MI_fillDirection_59 (by decide) ?_
  refine lv_l2i (v := ((cf 6) / (cdl cf (lev 2))).toInt32) hx hb d_MI_fillDirection_65 rfl ?_
  refine lv_iload_n hx hb d_MI_fillDirection_66 rfl (lv_at hl 6 rfl) ?_
  refine lv_imul hx hb d_MI_fillDirection_67 ?_
  refine tp_i (y := dirc cf 3 (1 : Int32) 0) (by rfl) ?_
  refine va_iast hx hb hK hP hD hS 2 0 rfl rfl (vp_in_iff.mpr (by decide)) d_MI_fillDirection_68 (fun H locs hP hD hS => ?_)
  have hP : va_P D kl [(mi, .inr (2, [.ref cu, .ref nx, .int (2 : Int32)])), (cu, .inl (cJ, 16, .inr (.inl cf))), (ga, .inl (cI, 4, .inl (upd (upd (upd (upd (upd g 0 (0 : Int32)) 1 (0 : Int32)) 2 (0 : Int32)) 3 (0 : Int32)) 0 (dirc cf 3 (1 : Int32) 0))))] H := hP
  have hD : va_D A [(mi, .inr (2, [.ref cu, .ref nx, .int (2 : Int32)])), (cu, .inl (cJ, 16, .inr (.inl cf))), (ga, .inl (cI, 4, .inl (upd (upd (upd (upd (upd g 0 (0 : Int32)) 1 (0 : Int32)) 2 (0 : Int32)) 3 (0 : Int32)) 0 (dirc cf 3 (1 : Int32) 0))))] := hD
  refine lv_iinc (lv' := [(6, .int (1 : Int32)), (7, .long ((cf 6) / (cdl cf (lev 2)))), (4, .long (cdl cf (lev 2))), (0, .ref mi), (1, .ref ga), (2, .int (3 : Int32)), (3, .int (1 : Int32))]) (k := 1) (v := (1 : Int32)) hx hb d_MI_fillDirection_69 hl rfl (by decide) (by decide) rfl (fun ls hl => ?_)
  refine lv_goto (tgt := 22) hx hb d_MI_fillDirection_72 (by decide) ?_
  refine lv_iload hx hb d_MI_fillDirection_22 (lv_at hl 0 rfl) ?_
  refine lv_iload_n hx hb d_MI_fillDirection_24 rfl (lv_at hl 5 rfl) ?_
  refine lv_icmp_ge (tgt := 75) hx hb d_MI_fillDirection_25 (by decide) (fun h99 => absurd h99 (by decide)) (fun _ => ?_)
  refine lv_aload_n hx hb d_MI_fillDirection_28 rfl (lv_at hl 3 rfl) ?_
  refine va_get (D := D) (ci := 2) (v := .ref cu) (C := cn_MI) (T := ft_MI) (N := 3) hx hb hf_MI (fun _ h => h) hown hK hP 0 rfl rfl 0 (by decide) (gw.at G hx0 mw_64 rfl _) (fun _ h9 => h9) rfl d_MI_fillDirection_29 ?_
  refine lv_iload_n hx hb d_MI_fillDirection_32 rfl (lv_at hl 5 rfl) ?_
  refine cx_call (D := D) (cl := kl) (ws := _) (wc := []) (wr := [(mi, .inr (2, [.ref cu, .ref nx, .int (2 : Int32)])), (cu, .inl (cJ, 16, .inr (.inl cf))), (ga, .inl (cI, 4, .inl (upd (upd (upd (upd (upd g 0 (0 : Int32)) 1 (0 : Int32)) 2 (0 : Int32)) 3 (0 : Int32)) 0 (dirc cf 3 (1 : Int32) 0))))]) (tx_runSN (As := [.int (3 : Int32)]) (rest := [.ref cu]) hx hb hml hown (c_D_maskOf E H.size 3 (by decide)) (cx_C (b0 := b0) G hx0 mw_365 mw_1 ny_D_maskOfAll (by decide)) (gw.at G hx0 mw_479 rfl _) (gw.at G hx0 mw_364 rfl _) (gw.at G hx0 mw_1 rfl _) ⟨cx_blind, (cx_pre (s := s) hx0 hP hD hS hA0 [] rfl rfl (by decide))⟩ rfl rfl hl.1 rfl (lv_room (Nat.le_of_ble_eq_true rfl)) d_MI_fillDirection_33 ⟨by decide, by decide⟩) hP hD hS hA [] [0, 1, 2] rfl rfl (by decide) (by decide) (fun v t w1 H locs ht hW9 hp hP hD hS => ?_) (fun x t w1 H locs ht hW9 hp hP hD hS => by obtain ⟨h9, -⟩ := hp; cases h9)
  obtain ⟨h9, rfl⟩ := hp
  cases h9
  refine W.eq (g2 := F0 m 36 ls [.int (nI (2 ^ 3 - 1)), .ref cu]) rfl ?_
  refine W.widen (k := 0) (n := 0) (by decide) (by decide) ?_
  have hP : va_P D kl [(mi, .inr (2, [.ref cu, .ref nx, .int (2 : Int32)])), (cu, .inl (cJ, 16, .inr (.inl cf))), (ga, .inl (cI, 4, .inl (upd (upd (upd (upd (upd g 0 (0 : Int32)) 1 (0 : Int32)) 2 (0 : Int32)) 3 (0 : Int32)) 0 (dirc cf 3 (1 : Int32) 0))))] H := hP
  have hD : va_D A [(mi, .inr (2, [.ref cu, .ref nx, .int (2 : Int32)])), (cu, .inl (cJ, 16, .inr (.inl cf))), (ga, .inl (cI, 4, .inl (upd (upd (upd (upd (upd g 0 (0 : Int32)) 1 (0 : Int32)) 2 (0 : Int32)) 3 (0 : Int32)) 0 (dirc cf 3 (1 : Int32) 0))))] := hD
  refine tp_i (y := (7 : Int32)) (by decide) ?_
  refine lv_iconst (v := (1 : Int32)) hx hb d_MI_fillDirection_36 (by decide) ?_
  refine lv_iload hx hb d_MI_fillDirection_37 (lv_at hl 0 rfl) ?_
  refine lv_ishl hx hb d_MI_fillDirection_39 ?_
  refine tp_i (y := (2 : Int32)) (by decide) ?_
  refine lv_ixor hx hb d_MI_fillDirection_40 ?_
  refine tp_i (y := (5 : Int32)) (by decide) ?_
  refine va_lald hx hb hK hP 1 1 rfl rfl (vp_in_iff.mpr (by decide)) d_MI_fillDirection_41 ?_
  refine tp_l (y := cf 5) (by rfl) ?_
  refine lv_lload hx hb d_MI_fillDirection_42 (lv_at hl 2 rfl) ?_
  refine lv_ldiv hx hb d_MI_fillDirection_44 hd ?_
  refine lv_lstore (lv' := [(7, .long ((cf 5) / (cdl cf (lev 2)))), (6, .int (1 : Int32)), (4, .long (cdl cf (lev 2))), (0, .ref mi), (1, .ref ga), (2, .int (3 : Int32)), (3, .int (1 : Int32))]) hx hb d_MI_fillDirection_45 hl (by decide) rfl (fun ls hl => ?_)
  refine lv_aload_n hx hb d_MI_fillDirection_47 rfl (lv_at hl 4 rfl) ?_
  refine lv_iload hx hb d_MI_fillDirection_48 (lv_at hl 1 rfl) ?_
  refine lv_iload hx hb d_MI_fillDirection_50 (lv_at hl 1 rfl) ?_
  refine lv_iconst (v := (2 : Int32)) hx hb d_MI_fillDirection_52 (by decide) ?_
  refine lv_irem hx hb d_MI_fillDirection_53 (by decide) ?_
  refine tp_i (y := (1 : Int32)) (by decide) ?_
  refine lv_if_ne (tgt := 62) hx hb d_MI_fillDirection_54 (by decide) (fun _ => ?_) (fun h99 => absurd h99 (by decide))
  refine lv_lload hx hb d_MI_fillDirection_62 (lv_at hl 0 rfl) ?_
  refine lv_lneg hx hb d_MI_fillDirection_64 ?_
  refine lv_l2i (v := (-((cf 5) / (cdl cf (lev 2)))).toInt32) hx hb d_MI_fillDirection_65 rfl ?_
  refine lv_iload_n hx hb d_MI_fillDirection_66 rfl (lv_at hl 6 rfl) ?_
  refine lv_imul hx hb d_MI_fillDirection_67 ?_
  refine tp_i (y := dirc cf 3 (1 : Int32) 1) (by rfl) ?_
  refine va_iast hx hb hK hP hD hS 2 0 rfl rfl (vp_in_iff.mpr (by decide)) d_MI_fillDirection_68 (fun H locs hP hD hS => ?_)
  have hP : va_P D kl [(mi, .inr (2, [.ref cu, .ref nx, .int (2 : Int32)])), (cu, .inl (cJ, 16, .inr (.inl cf))), (ga, .inl (cI, 4, .inl (upd (upd (upd (upd (upd (upd g 0 (0 : Int32)) 1 (0 : Int32)) 2 (0 : Int32)) 3 (0 : Int32)) 0 (dirc cf 3 (1 : Int32) 0)) 1 (dirc cf 3 (1 : Int32) 1))))] H := hP
  have hD : va_D A [(mi, .inr (2, [.ref cu, .ref nx, .int (2 : Int32)])), (cu, .inl (cJ, 16, .inr (.inl cf))), (ga, .inl (cI, 4, .inl (upd (upd (upd (upd (upd (upd g 0 (0 : Int32)) 1 (0 : Int32)) 2 (0 : Int32)) 3 (0 : Int32)) 0 (dirc cf 3 (1 : Int32) 0)) 1 (dirc cf 3 (1 : Int32) 1))))] := hD
  refine lv_iinc (lv' := [(6, .int (2 : Int32)), (7, .long ((cf 5) / (cdl cf (lev 2)))), (4, .long (cdl cf (lev 2))), (0, .ref mi), (1, .ref ga), (2, .int (3 : Int32)), (3, .int (1 : Int32))]) (k := 1) (v := (2 : Int32)) hx hb d_MI_fillDirection_69 hl rfl (by decide) (by decide) rfl (fun ls hl => ?_)
  refine lv_goto (tgt := 22) hx hb d_MI_fillDirection_72 (by decide) ?_
  refine lv_iload hx hb d_MI_fillDirection_22 (lv_at hl 0 rfl) ?_
  refine lv_iload_n hx hb d_MI_fillDirection_24 rfl (lv_at hl 5 rfl) ?_
  refine lv_icmp_ge (tgt := 75) hx hb d_MI_fillDirection_25 (by decide) (fun h99 => absurd h99 (by decide)) (fun _ => ?_)
  refine lv_aload_n hx hb d_MI_fillDirection_28 rfl (lv_at hl 3 rfl) ?_
  refine va_get (D := D) (ci := 2) (v := .ref cu) (C := cn_MI) (T := ft_MI) (N := 3) hx hb hf_MI (fun _ h => h) hown hK hP 0 rfl rfl 0 (by decide) (gw.at G hx0 mw_64 rfl _) (fun _ h9 => h9) rfl d_MI_fillDirection_29 ?_
  refine lv_iload_n hx hb d_MI_fillDirection_32 rfl (lv_at hl 5 rfl) ?_
  refine cx_call (D := D) (cl := kl) (ws := _) (wc := []) (wr := [(mi, .inr (2, [.ref cu, .ref nx, .int (2 : Int32)])), (cu, .inl (cJ, 16, .inr (.inl cf))), (ga, .inl (cI, 4, .inl (upd (upd (upd (upd (upd (upd g 0 (0 : Int32)) 1 (0 : Int32)) 2 (0 : Int32)) 3 (0 : Int32)) 0 (dirc cf 3 (1 : Int32) 0)) 1 (dirc cf 3 (1 : Int32) 1))))]) (tx_runSN (As := [.int (3 : Int32)]) (rest := [.ref cu]) hx hb hml hown (c_D_maskOf E H.size 3 (by decide)) (cx_C (b0 := b0) G hx0 mw_365 mw_1 ny_D_maskOfAll (by decide)) (gw.at G hx0 mw_479 rfl _) (gw.at G hx0 mw_364 rfl _) (gw.at G hx0 mw_1 rfl _) ⟨cx_blind, (cx_pre (s := s) hx0 hP hD hS hA0 [] rfl rfl (by decide))⟩ rfl rfl hl.1 rfl (lv_room (Nat.le_of_ble_eq_true rfl)) d_MI_fillDirection_33 ⟨by decide, by decide⟩) hP hD hS hA [] [0, 1, 2] rfl rfl (by decide) (by decide) (fun v t w1 H locs ht hW9 hp hP hD hS => ?_) (fun x t w1 H locs ht hW9 hp hP hD hS => by obtain ⟨h9, -⟩ := hp; cases h9)
  obtain ⟨h9, rfl⟩ := hp
  cases h9
  refine W.eq (g2 := F0 m 36 ls [.int (nI (2 ^ 3 - 1)), .ref cu]) rfl ?_
  refine W.widen (k := 0) (n := 0) (by decide) (by decide) ?_
  have hP : va_P D kl [(mi, .inr (2, [.ref cu, .ref nx, .int (2 : Int32)])), (cu, .inl (cJ, 16, .inr (.inl cf))), (ga, .inl (cI, 4, .inl (upd (upd (upd (upd (upd (upd g 0 (0 : Int32)) 1 (0 : Int32)) 2 (0 : Int32)) 3 (0 : Int32)) 0 (dirc cf 3 (1 : Int32) 0)) 1 (dirc cf 3 (1 : Int32) 1))))] H := hP
  have hD : va_D A [(mi, .inr (2, [.ref cu, .ref nx, .int (2 : Int32)])), (cu, .inl (cJ, 16, .inr (.inl cf))), (ga, .inl (cI, 4, .inl (upd (upd (upd (upd (upd (upd g 0 (0 : Int32)) 1 (0 : Int32)) 2 (0 : Int32)) 3 (0 : Int32)) 0 (dirc cf 3 (1 : Int32) 0)) 1 (dirc cf 3 (1 : Int32) 1))))] := hD
  refine tp_i (y := (7 : Int32)) (by decide) ?_
  refine lv_iconst (v := (1 : Int32)) hx hb d_MI_fillDirection_36 (by decide) ?_
  refine lv_iload hx hb d_MI_fillDirection_37 (lv_at hl 0 rfl) ?_
  refine lv_ishl hx hb d_MI_fillDirection_39 ?_
  refine tp_i (y := (4 : Int32)) (by decide) ?_
  refine lv_ixor hx hb d_MI_fillDirection_40 ?_
  refine tp_i (y := (3 : Int32)) (by decide) ?_
  refine va_lald hx hb hK hP 1 1 rfl rfl (vp_in_iff.mpr (by decide)) d_MI_fillDirection_41 ?_
  refine tp_l (y := cf 3) (by rfl) ?_
  refine lv_lload hx hb d_MI_fillDirection_42 (lv_at hl 2 rfl) ?_
  refine lv_ldiv hx hb d_MI_fillDirection_44 hd ?_
  refine lv_lstore (lv' := [(7, .long ((cf 3) / (cdl cf (lev 2)))), (6, .int (2 : Int32)), (4, .long (cdl cf (lev 2))), (0, .ref mi), (1, .ref ga), (2, .int (3 : Int32)), (3, .int (1 : Int32))]) hx hb d_MI_fillDirection_45 hl (by decide) rfl (fun ls hl => ?_)
  refine lv_aload_n hx hb d_MI_fillDirection_47 rfl (lv_at hl 4 rfl) ?_
  refine lv_iload hx hb d_MI_fillDirection_48 (lv_at hl 1 rfl) ?_
  refine lv_iload hx hb d_MI_fillDirection_50 (lv_at hl 1 rfl) ?_
  refine lv_iconst (v := (2 : Int32)) hx hb d_MI_fillDirection_52 (by decide) ?_
  refine lv_irem hx hb d_MI_fillDirection_53 (by decide) ?_
  refine tp_i (y := (0 : Int32)) (by decide) ?_
  refine lv_if_ne (tgt := 62) hx hb d_MI_fillDirection_54 (by decide) (fun h99 => absurd h99 (by decide)) (fun _ => ?_)
  refine lv_lload hx hb d_MI_fillDirection_57 (lv_at hl 0 rfl) ?_
  refine lv_goto (tgt := 65) hx hb d_MI_fillDirection_59 (by decide) ?_
  refine lv_l2i (v := ((cf 3) / (cdl cf (lev 2))).toInt32) hx hb d_MI_fillDirection_65 rfl ?_
  refine lv_iload_n hx hb d_MI_fillDirection_66 rfl (lv_at hl 6 rfl) ?_
  refine lv_imul hx hb d_MI_fillDirection_67 ?_
  refine tp_i (y := dirc cf 3 (1 : Int32) 2) (by rfl) ?_
  refine va_iast hx hb hK hP hD hS 2 0 rfl rfl (vp_in_iff.mpr (by decide)) d_MI_fillDirection_68 (fun H locs hP hD hS => ?_)
  have hP : va_P D kl [(mi, .inr (2, [.ref cu, .ref nx, .int (2 : Int32)])), (cu, .inl (cJ, 16, .inr (.inl cf))), (ga, .inl (cI, 4, .inl (upd (upd (upd (upd (upd (upd (upd g 0 (0 : Int32)) 1 (0 : Int32)) 2 (0 : Int32)) 3 (0 : Int32)) 0 (dirc cf 3 (1 : Int32) 0)) 1 (dirc cf 3 (1 : Int32) 1)) 2 (dirc cf 3 (1 : Int32) 2))))] H := hP
  have hD : va_D A [(mi, .inr (2, [.ref cu, .ref nx, .int (2 : Int32)])), (cu, .inl (cJ, 16, .inr (.inl cf))), (ga, .inl (cI, 4, .inl (upd (upd (upd (upd (upd (upd (upd g 0 (0 : Int32)) 1 (0 : Int32)) 2 (0 : Int32)) 3 (0 : Int32)) 0 (dirc cf 3 (1 : Int32) 0)) 1 (dirc cf 3 (1 : Int32) 1)) 2 (dirc cf 3 (1 : Int32) 2))))] := hD
  refine lv_iinc (lv' := [(6, .int (3 : Int32)), (7, .long ((cf 3) / (cdl cf (lev 2)))), (4, .long (cdl cf (lev 2))), (0, .ref mi), (1, .ref ga), (2, .int (3 : Int32)), (3, .int (1 : Int32))]) (k := 1) (v := (3 : Int32)) hx hb d_MI_fillDirection_69 hl rfl (by decide) (by decide) rfl (fun ls hl => ?_)
  refine lv_goto (tgt := 22) hx hb d_MI_fillDirection_72 (by decide) ?_
  refine lv_iload hx hb d_MI_fillDirection_22 (lv_at hl 0 rfl) ?_
  refine lv_iload_n hx hb d_MI_fillDirection_24 rfl (lv_at hl 5 rfl) ?_
  refine lv_icmp_ge (tgt := 75) hx hb d_MI_fillDirection_25 (by decide) (fun _ => ?_) (fun h99 => absurd h99 (by decide))
  exact tx_mono (fun _ h => tx_Z.of h) (W.vret hx hb hr (fun t ht hW => ⟨⟨[(mi, .inr (2, [.ref cu, .ref nx, .int (2 : Int32)])), (cu, .inl (cJ, 16, .inr (.inl cf))), (ga, .inl (cI, 4, .inl (upd (upd (upd (upd (upd (upd (upd g 0 (0 : Int32)) 1 (0 : Int32)) 2 (0 : Int32)) 3 (0 : Int32)) 0 (dirc cf 3 (1 : Int32) 0)) 1 (dirc cf 3 (1 : Int32) 1)) 2 (dirc cf 3 (1 : Int32) 2))))], ⟨rfl, rfl⟩, by rw [ht]; exact hP.sub [0, 1, 2] rfl, hD.sub [0, 1, 2] (by decide) rfl⟩, hS.F ht⟩) hS.2.2 d_MI_fillDirection_75)

set_option maxHeartbeats 4000000 in
set_option maxRecDepth 100000 in
theorem c_MI_dir3_m {l : Launch} {s0 : State} {b0 : Addr} {D : va_G} {cI cJ cZ : ClassId} {tC tS : Nat} (E : gE l s0 b0 D cI cJ cZ tC tS) (sz : Nat) (mi : Nat) (cu : Nat) (nx : Nat) (cf : Nat → Int64) (ga : Nat) (g : Nat → Int32) (hd : ¬ cdl cf (lev 2) = 0) : cx_M l s0 D kl y_MI_fillDirection b_MI_fillDirection 9 none ({ frames := 2, cells := 0, slots := 0, locals := 72 } : Room) 0 0 [.ref mi, .ref ga, .int (3 : Int32), .int (-1 : Int32)] [(mi, .inr (2, [.ref cu, .ref nx, .int (2 : Int32)])), (cu, .inl (cJ, 16, .inr (.inl cf))), (ga, .inl (cI, 4, .inl g))] sz (fun o9 _ w9 => o9 = .returned none ∧ w9 = [(mi, .inr (2, [.ref cu, .ref nx, .int (2 : Int32)])), (cu, .inl (cJ, 16, .inr (.inl cf))), (ga, .inl (cI, 4, .inl (upd (upd (upd (upd (upd (upd (upd g 0 (0 : Int32)) 1 (0 : Int32)) 2 (0 : Int32)) 3 (0 : Int32)) 0 (dirc cf 3 (-1 : Int32) 0)) 1 (dirc cf 3 (-1 : Int32) 1)) 2 (dirc cf 3 (-1 : Int32) 2))))]) := by
  refine tx_ofW (cc := b_MI_fillDirection) (maxL := 9) (ret := none) (by decide) rfl ?_
  intro p e s m args below meth c s₁ B hml hT hv
  obtain ⟨rfl, hsz, hP, hD0, hx0⟩ := hv
  have hx := B.exec
  have hb := B.bytes
  have hr := B.returns
  have G := E.2.1
  have hown : s.vm.findClass cn_MI = some m.cls := findClass_of_methodNamed B.named
  have hlocks := B.notSynchronized
  have hK := va_K.moved hx0.1.alike E.2.2.1
  have hf_MI : ∀ w99 ∈ u_ws cn_MI ft_MI 3, w99.before ([.ref mi, .ref ga, .int (3 : Int32), .int (-1 : Int32)] : List Value).toArray s = true := fun w99 h99 => gw.at G hx0 (fw_MI w99 h99) (fo_MI w99 h99) _
  subst hsz
  have hA0 := cx_new hD0 hx0.2.1
  have hD := hD0.self (sz := s.heap.size)
  generalize hAe : va_A [(mi, .inr (2, [.ref cu, .ref nx, .int (2 : Int32)])), (cu, .inl (cJ, 16, .inr (.inl cf))), (ga, .inl (cI, 4, .inl g))] s.heap.size = A at hD hA0 ⊢
  have hA : ∀ q : Nat, s.heap.size ≤ q → A q := fun q h => by rw [← hAe]; exact Or.inr h
  have hS : va_S A s.heap s.heap [] := va_S.rf
  have hl := lv_entry ([.ref mi, .ref ga, .int (3 : Int32), .int (-1 : Int32)]) (n := 9) (Nat.le_of_ble_eq_true rfl)
  rw [lg_entry_eq]
  generalize (lg_sl ([.ref mi, .ref ga, .int (3 : Int32), .int (-1 : Int32)]) ++ List.replicate (9 - (lg_sl ([.ref mi, .ref ga, .int (3 : Int32), .int (-1 : Int32)])).length) Slot.unset).toArray = ls at hl ⊢
  have hl : lv_has ls 9 [(0, .ref mi), (1, .ref ga), (2, .int (3 : Int32)), (3, .int (-1 : Int32))] := hl
  have hP : va_P D kl [(mi, .inr (2, [.ref cu, .ref nx, .int (2 : Int32)])), (cu, .inl (cJ, 16, .inr (.inl cf))), (ga, .inl (cI, 4, .inl g))] s.heap := hP
  have hml : c.maxLocals = 9 := hml
  refine lv_aload_n hx hb d_MI_fillDirection_0 rfl (lv_at hl 0 rfl) ?_
  refine cx_call (D := D) (cl := kl) (ws := _) (wc := [(mi, .inr (2, [.ref cu, .ref nx, .int (2 : Int32)])), (cu, .inl (cJ, 16, .inr (.inl cf)))]) (wr := [(ga, .inl (cI, 4, .inl g))]) (tx_runV (C := cn_MI) (b := mi) (As := []) (rest := []) hx hb hml hown (c_MI_comdiv2 E s.heap.size mi cu nx cf ) (cx_C (b0 := b0) G hx0 mw_461 mw_4 ny_MI_commonDivisor (by decide)) (gw.at G hx0 mw_458 rfl _) (gw.at G hx0 mw_459 rfl _) (gw.at G hx0 mw_460 rfl _) ⟨cx_blind, va_recv hK hP (q0 := 0) (ci := 2) (q := (cn_MI, ft_MI, 3)) rfl rfl, (cx_pre (s := s) hx0 hP hD hS hA0 [0, 1] rfl rfl (by decide))⟩ rfl rfl hl.1 rfl (lv_room (Nat.le_of_ble_eq_true rfl)) d_MI_fillDirection_1 ⟨by decide, by decide⟩) hP hD hS hA [0, 1] [2] rfl rfl (by decide) (by decide) (fun v t w1 H locs ht hW9 hp hP hD hS => ?_) (fun x t w1 H locs ht hW9 hp hP hD hS => by obtain ⟨h9, -⟩ := hp; cases h9)
  obtain ⟨h9, rfl⟩ := hp
  cases h9
  refine W.eq (g2 := F0 m 4 ls [.long (cdl cf (lev 2))]) rfl ?_
  refine W.widen (k := 0) (n := 0) (by decide) (by decide) ?_
  have hP : va_P D kl [(ga, .inl (cI, 4, .inl g)), (mi, .inr (2, [.ref cu, .ref nx, .int (2 : Int32)])), (cu, .inl (cJ, 16, .inr (.inl cf)))] H := hP
  have hD : va_D A [(ga, .inl (cI, 4, .inl g)), (mi, .inr (2, [.ref cu, .ref nx, .int (2 : Int32)])), (cu, .inl (cJ, 16, .inr (.inl cf)))] := hD
  refine lv_lstore (lv' := [(4, .long (cdl cf (lev 2))), (0, .ref mi), (1, .ref ga), (2, .int (3 : Int32)), (3, .int (-1 : Int32))]) hx hb d_MI_fillDirection_4 hl (by decide) rfl (fun ls hl => ?_)
  refine lv_lload hx hb d_MI_fillDirection_6 (lv_at hl 0 rfl) ?_
  refine lv_lconst (v := (0 : Int64)) hx hb d_MI_fillDirection_8 (by decide) ?_
  refine W.lcmp hx hb d_MI_fillDirection_9 ?_
  refine lv_if_ne (tgt := 14) hx hb d_MI_fillDirection_10 (by decide) (fun _ => ?_) (fun h99 => absurd h99 (lg_ne.mpr hd))
  refine lv_aload_n hx hb d_MI_fillDirection_14 rfl (lv_at hl 2 rfl) ?_
  refine lv_iconst (v := (0 : Int32)) hx hb d_MI_fillDirection_15 (by decide) ?_
  refine cx_call (D := D) (cl := kl) (ws := _) (wc := [(ga, .inl (cI, 4, .inl g))]) (wr := [(mi, .inr (2, [.ref cu, .ref nx, .int (2 : Int32)])), (cu, .inl (cJ, 16, .inr (.inl cf)))]) (tx_runS (As := [.ref ga, .int (0 : Int32)]) (rest := []) hx hb hml hown (c_JA_fill4 E H.size ga g ) (cx_C (b0 := b0) G hx0 mw_478 mw_18 ny_JA_fill (by decide)) (gw.at G hx0 mw_476 rfl _) (gw.at G hx0 mw_477 rfl _) (gw.at G hx0 mw_18 rfl _) ⟨cx_blind, (cx_pre (s := s) hx0 hP hD hS hA0 [0] rfl rfl (by decide))⟩ rfl rfl hl.1 rfl (lv_room (Nat.le_of_ble_eq_true rfl)) d_MI_fillDirection_16 ⟨by decide, by decide⟩) hP hD hS hA [0] [1, 2] rfl rfl (by decide) (by decide) (fun v t w1 H locs ht hW9 hp hP hD hS => ?_) (fun x t w1 H locs ht hW9 hp hP hD hS => by obtain ⟨h9, -⟩ := hp; cases h9)
  obtain ⟨h9, rfl⟩ := hp
  cases h9
  refine W.eq (g2 := F0 m 19 ls []) rfl ?_
  refine W.widen (k := 0) (n := 0) (by decide) (by decide) ?_
  have hP : va_P D kl [(mi, .inr (2, [.ref cu, .ref nx, .int (2 : Int32)])), (cu, .inl (cJ, 16, .inr (.inl cf))), (ga, .inl (cI, 4, .inl (upd (upd (upd (upd g 0 (0 : Int32)) 1 (0 : Int32)) 2 (0 : Int32)) 3 (0 : Int32))))] H := hP
  have hD : va_D A [(mi, .inr (2, [.ref cu, .ref nx, .int (2 : Int32)])), (cu, .inl (cJ, 16, .inr (.inl cf))), (ga, .inl (cI, 4, .inl (upd (upd (upd (upd g 0 (0 : Int32)) 1 (0 : Int32)) 2 (0 : Int32)) 3 (0 : Int32))))] := hD
  refine lv_iconst (v := (0 : Int32)) hx hb d_MI_fillDirection_19 (by decide) ?_
  refine lv_istore (lv' := [(6, .int (0 : Int32)), (4, .long (cdl cf (lev 2))), (0, .ref mi), (1, .ref ga), (2, .int (3 : Int32)), (3, .int (-1 : Int32))]) hx hb d_MI_fillDirection_20 hl (by decide) rfl (fun ls hl => ?_)
  refine lv_iload hx hb d_MI_fillDirection_22 (lv_at hl 0 rfl) ?_
  refine lv_iload_n hx hb d_MI_fillDirection_24 rfl (lv_at hl 4 rfl) ?_
  refine lv_icmp_ge (tgt := 75) hx hb d_MI_fillDirection_25 (by decide) (fun h99 => absurd h99 (by decide)) (fun _ => ?_)
  refine lv_aload_n hx hb d_MI_fillDirection_28 rfl (lv_at hl 2 rfl) ?_
  refine va_get (D := D) (ci := 2) (v := .ref cu) (C := cn_MI) (T := ft_MI) (N := 3) hx hb hf_MI (fun _ h => h) hown hK hP 0 rfl rfl 0 (by decide) (gw.at G hx0 mw_64 rfl _) (fun _ h9 => h9) rfl d_MI_fillDirection_29 ?_
  refine lv_iload_n hx hb d_MI_fillDirection_32 rfl (lv_at hl 4 rfl) ?_
  refine cx_call (D := D) (cl := kl) (ws := _) (wc := []) (wr := [(mi, .inr (2, [.ref cu, .ref nx, .int (2 : Int32)])), (cu, .inl (cJ, 16, .inr (.inl cf))), (ga, .inl (cI, 4, .inl (upd (upd (upd (upd g 0 (0 : Int32)) 1 (0 : Int32)) 2 (0 : Int32)) 3 (0 : Int32))))]) (tx_runSN (As := [.int (3 : Int32)]) (rest := [.ref cu]) hx hb hml hown (c_D_maskOf E H.size 3 (by decide)) (cx_C (b0 := b0) G hx0 mw_365 mw_1 ny_D_maskOfAll (by decide)) (gw.at G hx0 mw_479 rfl _) (gw.at G hx0 mw_364 rfl _) (gw.at G hx0 mw_1 rfl _) ⟨cx_blind, (cx_pre (s := s) hx0 hP hD hS hA0 [] rfl rfl (by decide))⟩ rfl rfl hl.1 rfl (lv_room (Nat.le_of_ble_eq_true rfl)) d_MI_fillDirection_33 ⟨by decide, by decide⟩) hP hD hS hA [] [0, 1, 2] rfl rfl (by decide) (by decide) (fun v t w1 H locs ht hW9 hp hP hD hS => ?_) (fun x t w1 H locs ht hW9 hp hP hD hS => by obtain ⟨h9, -⟩ := hp; cases h9)
  obtain ⟨h9, rfl⟩ := hp
  cases h9
  refine W.eq (g2 := F0 m 36 ls [.int (nI (2 ^ 3 - 1)), .ref cu]) rfl ?_
  refine W.widen (k := 0) (n := 0) (by decide) (by decide) ?_
  have hP : va_P D kl [(mi, .inr (2, [.ref cu, .ref nx, .int (2 : Int32)])), (cu, .inl (cJ, 16, .inr (.inl cf))), (ga, .inl (cI, 4, .inl (upd (upd (upd (upd g 0 (0 : Int32)) 1 (0 : Int32)) 2 (0 : Int32)) 3 (0 : Int32))))] H := hP
  have hD : va_D A [(mi, .inr (2, [.ref cu, .ref nx, .int (2 : Int32)])), (cu, .inl (cJ, 16, .inr (.inl cf))), (ga, .inl (cI, 4, .inl (upd (upd (upd (upd g 0 (0 : Int32)) 1 (0 : Int32)) 2 (0 : Int32)) 3 (0 : Int32))))] := hD
  refine tp_i (y := (7 : Int32)) (by decide) ?_
  refine lv_iconst (v := (1 : Int32)) hx hb d_MI_fillDirection_36 (by decide) ?_
  refine lv_iload hx hb d_MI_fillDirection_37 (lv_at hl 0 rfl) ?_
  refine lv_ishl hx hb d_MI_fillDirection_39 ?_
  refine tp_i (y := (1 : Int32)) (by decide) ?_
  refine lv_ixor hx hb d_MI_fillDirection_40 ?_
  refine tp_i (y := (6 : Int32)) (by decide) ?_
  refine va_lald hx hb hK hP 1 1 rfl rfl (vp_in_iff.mpr (by decide)) d_MI_fillDirection_41 ?_
  refine tp_l (y := cf 6) (by rfl) ?_
  refine lv_lload hx hb d_MI_fillDirection_42 (lv_at hl 1 rfl) ?_
  refine lv_ldiv hx hb d_MI_fillDirection_44 hd ?_
  refine lv_lstore (lv' := [(7, .long ((cf 6) / (cdl cf (lev 2)))), (6, .int (0 : Int32)), (4, .long (cdl cf (lev 2))), (0, .ref mi), (1, .ref ga), (2, .int (3 : Int32)), (3, .int (-1 : Int32))]) hx hb d_MI_fillDirection_45 hl (by decide) rfl (fun ls hl => ?_)
  refine lv_aload_n hx hb d_MI_fillDirection_47 rfl (lv_at hl 4 rfl) ?_
  refine lv_iload hx hb d_MI_fillDirection_48 (lv_at hl 1 rfl) ?_
  refine lv_iload hx hb d_MI_fillDirection_50 (lv_at hl 1 rfl) ?_
  refine lv_iconst (v := (2 : Int32)) hx hb d_MI_fillDirection_52 (by decide) ?_
  refine lv_irem hx hb d_MI_fillDirection_53 (by decide) ?_
  refine tp_i (y := (0 : Int32)) (by decide) ?_
  refine lv_if_ne (tgt := 62) hx hb d_MI_fillDirection_54 (by decide) (fun h99 => absurd h99 (by decide)) (fun _ => ?_)
  refine lv_lload hx hb d_MI_fillDirection_57 (lv_at hl 0 rfl) ?_
  refine lv_goto (tgt := 65) hx hb d_MI_fillDirection_59 (by decide) ?_
  refine lv_l2i (v := ((cf 6) / (cdl cf (lev 2))).toInt32) hx hb d_MI_fillDirection_65 rfl ?_
  refine lv_iload_n hx hb d_MI_fillDirection_66 rfl (lv_at hl 6 rfl) ?_
  refine lv_imul hx hb d_MI_fillDirection_67 ?_
  refine tp_i (y := dirc cf 3 (-1 : Int32) 0) (by rfl) ?_
  refine va_iast hx hb hK hP hD hS 2 0 rfl rfl (vp_in_iff.mpr (by decide)) d_MI_fillDirection_68 (fun H locs hP hD hS => ?_)
  have hP : va_P D kl [(mi, .inr (2, [.ref cu, .ref nx, .int (2 : Int32)])), (cu, .inl (cJ, 16, .inr (.inl cf))), (ga, .inl (cI, 4, .inl (upd (upd (upd (upd (upd g 0 (0 : Int32)) 1 (0 : Int32)) 2 (0 : Int32)) 3 (0 : Int32)) 0 (dirc cf 3 (-1 : Int32) 0))))] H := hP
  have hD : va_D A [(mi, .inr (2, [.ref cu, .ref nx, .int (2 : Int32)])), (cu, .inl (cJ, 16, .inr (.inl cf))), (ga, .inl (cI, 4, .inl (upd (upd (upd (upd (upd g 0 (0 : Int32)) 1 (0 : Int32)) 2 (0 : Int32)) 3 (0 : Int32)) 0 (dirc cf 3 (-1 : Int32) 0))))] := hD
  refine lv_iinc (lv' := [(6, .int (1 : Int32)), (7, .long ((cf 6) / (cdl cf (lev 2)))), (4, .long (cdl cf (lev 2))), (0, .ref mi), (1, .ref ga), (2, .int (3 : Int32)), (3, .int (-1 : Int32))]) (k := 1) (v := (1 : Int32)) hx hb d_MI_fillDirection_69 hl rfl (by decide) (by decide) rfl (fun ls hl => ?_)
  refine lv_goto (tgt := 22) hx hb d_MI_fillDirection_72 (by decide) ?_
  refine lv_iload hx hb d_MI_fillDirection_22 (lv_at hl 0 rfl) ?_
  refine lv_iload_n hx hb d_MI_fillDirection_24 rfl (lv_at hl 5 rfl) ?_
  refine lv_icmp_ge (tgt := 75) hx hb d_MI_fillDirection_25 (by decide) (fun h99 => absurd h99 (by decide)) (fun _ => ?_)
  refine lv_aload_n hx hb d_MI_fillDirection_28 rfl (lv_at hl 3 rfl) ?_
  refine va_get (D := D) (ci := 2) (v := .ref cu) (C := cn_MI) (T := ft_MI) (N := 3) hx hb hf_MI (fun _ h => h) hown hK hP 0 rfl rfl 0 (by decide) (gw.at G hx0 mw_64 rfl _) (fun _ h9 => h9) rfl d_MI_fillDirection_29 ?_
  refine lv_iload_n hx hb d_MI_fillDirection_32 rfl (lv_at hl 5 rfl) ?_
  refine cx_call (D := D) (cl := kl) (ws := _) (wc := []) (wr := [(mi, .inr (2, [.ref cu, .ref nx, .int (2 : Int32)])), (cu, .inl (cJ, 16, .inr (.inl cf))), (ga, .inl (cI, 4, .inl (upd (upd (upd (upd (upd g 0 (0 : Int32)) 1 (0 : Int32)) 2 (0 : Int32)) 3 (0 : Int32)) 0 (dirc cf 3 (-1 : Int32) 0))))]) (tx_runSN (As := [.int (3 : Int32)]) (rest := [.ref cu]) hx hb hml hown (c_D_maskOf E H.size 3 (by decide)) (cx_C (b0 := b0) G hx0 mw_365 mw_1 ny_D_maskOfAll (by decide)) (gw.at G hx0 mw_479 rfl _) (gw.at G hx0 mw_364 rfl _) (gw.at G hx0 mw_1 rfl _) ⟨cx_blind, (cx_pre (s := s) hx0 hP hD hS hA0 [] rfl rfl (by decide))⟩ rfl rfl hl.1 rfl (lv_room (Nat.le_of_ble_eq_true rfl)) d_MI_fillDirection_33 ⟨by decide, by decide⟩) hP hD hS hA [] [0, 1, 2] rfl rfl (by decide) (by decide) (fun v t w1 H locs ht hW9 hp hP hD hS => ?_) (fun x t w1 H locs ht hW9 hp hP hD hS => by obtain ⟨h9, -⟩ := hp; cases h9)
  obtain ⟨h9, rfl⟩ := hp
  cases h9
  refine W.eq (g2 := F0 m 36 ls [.int (nI (2 ^ 3 - 1)), .ref cu]) rfl ?_
  refine W.widen (k := 0) (n := 0) (by decide) (by decide) ?_
  have hP : va_P D kl [(mi, .inr (2, [.ref cu, .ref nx, .int (2 : Int32)])), (cu, .inl (cJ, 16, .inr (.inl cf))), (ga, .inl (cI, 4, .inl (upd (upd (upd (upd (upd g 0 (0 : Int32)) 1 (0 : Int32)) 2 (0 : Int32)) 3 (0 : Int32)) 0 (dirc cf 3 (-1 : Int32) 0))))] H := hP
  have hD : va_D A [(mi, .inr (2, [.ref cu, .ref nx, .int (2 : Int32)])), (cu, .inl (cJ, 16, .inr (.inl cf))), (ga, .inl (cI, 4, .inl (upd (upd (upd (upd (upd g 0 (0 : Int32)) 1 (0 : Int32)) 2 (0 : Int32)) 3 (0 : Int32)) 0 (dirc cf 3 (-1 : Int32) 0))))] := hD
  refine tp_i (y := (7 : Int32)) (by decide) ?_
  refine lv_iconst (v := (1 : Int32)) hx hb d_MI_fillDirection_36 (by decide) ?_
  refine lv_iload hx hb d_MI_fillDirection_37 (lv_at hl 0 rfl) ?_
  refine lv_ishl hx hb d_MI_fillDirection_39 ?_
  refine tp_i (y := (2 : Int32)) (by decide) ?_
  refine lv_ixor hx hb d_MI_fillDirection_40 ?_
  refine tp_i (y := (5 : Int32)) (by decide) ?_
  refine va_lald hx hb hK hP 1 1 rfl rfl (vp_in_iff.mpr (by decide)) d_MI_fillDirection_41 ?_
  refine tp_l (y := cf 5) (by rfl) ?_
  refine lv_lload hx hb d_MI_fillDirection_42 (lv_at hl 2 rfl) ?_
  refine lv_ldiv hx hb d_MI_fillDirection_44 hd ?_
  refine lv_lstore (lv' := [(7, .long ((cf 5) / (cdl cf (lev 2)))), (6, .int (1 : Int32)), (4, .long (cdl cf (lev 2))), (0, .ref mi), (1, .ref ga), (2, .int (3 : Int32)), (3, .int (-1 : Int32))]) hx hb d_MI_fillDirection_45 hl (by decide) rfl (fun ls hl => ?_)
  refine lv_aload_n hx hb d_MI_fillDirection_47 rfl (lv_at hl 4 rfl) ?_
  refine lv_iload hx hb d_MI_fillDirection_48 (lv_at hl 1 rfl) ?_
  refine lv_iload hx hb d_MI_fillDirection_50 (lv_at hl 1 rfl) ?_
  refine lv_iconst (v := (2 : Int32)) hx hb d_MI_fillDirection_52 (by decide) ?_
  refine lv_irem hx hb d_MI_fillDirection_53 (by decide) ?_
  refine tp_i (y := (1 : Int32)) (by decide) ?_
  refine lv_if_ne (tgt := 62) hx hb d_MI_fillDirection_54 (by decide) (fun _ => ?_) (fun h99 => absurd h99 (by decide))
  refine lv_lload hx hb d_MI_fillDirection_62 (lv_at hl 0 rfl) ?_
  refine lv_lneg hx hb d_MI_fillDirection_64 ?_
  refine lv_l2i (v := (-((cf 5) / (cdl cf (lev 2)))).toInt32) hx hb d_MI_fillDirection_65 rfl ?_
  refine lv_iload_n hx hb d_MI_fillDirection_66 rfl (lv_at hl 6 rfl) ?_
  refine lv_imul hx hb d_MI_fillDirection_67 ?_
  refine tp_i (y := dirc cf 3 (-1 : Int32) 1) (by rfl) ?_
  refine va_iast hx hb hK hP hD hS 2 0 rfl rfl (vp_in_iff.mpr (by decide)) d_MI_fillDirection_68 (fun H locs hP hD hS => ?_)
  have hP : va_P D kl [(mi, .inr (2, [.ref cu, .ref nx, .int (2 : Int32)])), (cu, .inl (cJ, 16, .inr (.inl cf))), (ga, .inl (cI, 4, .inl (upd (upd (upd (upd (upd (upd g 0 (0 : Int32)) 1 (0 : Int32)) 2 (0 : Int32)) 3 (0 : Int32)) 0 (dirc cf 3 (-1 : Int32) 0)) 1 (dirc cf 3 (-1 : Int32) 1))))] H := hP
  have hD : va_D A [(mi, .inr (2, [.ref cu, .ref nx, .int (2 : Int32)])), (cu, .inl (cJ, 16, .inr (.inl cf))), (ga, .inl (cI, 4, .inl (upd (upd (upd (upd (upd (upd g 0 (0 : Int32)) 1 (0 : Int32)) 2 (0 : Int32)) 3 (0 : Int32)) 0 (dirc cf 3 (-1 : Int32) 0)) 1 (dirc cf 3 (-1 : Int32) 1))))] := hD
  refine lv_iinc (lv' := [(6, .int (2 : Int32)), (7, .long ((cf 5) / (cdl cf (lev 2)))), (4, .long (cdl cf (lev 2))), (0, .ref mi), (1, .ref ga), (2, .int (3 : Int32)), (3, .int (-1 : Int32))]) (k := 1) (v := (2 : Int32)) hx hb d_MI_fillDirection_69 hl rfl (by decide) (by decide) rfl (fun ls hl => ?_)
  refine lv_goto (tgt := 22) hx hb d_MI_fillDirection_72 (by decide) ?_
  refine lv_iload hx hb d_MI_fillDirection_22 (lv_at hl 0 rfl) ?_
  refine lv_iload_n hx hb d_MI_fillDirection_24 rfl (lv_at hl 5 rfl) ?_
  refine lv_icmp_ge (tgt := 75) hx hb d_MI_fillDirection_25 (by decide) (fun h99 => absurd h99 (by decide)) (fun _ => ?_)
  refine lv_aload_n hx hb d_MI_fillDirection_28 rfl (lv_at hl 3 rfl) ?_
  refine va_get (D := D) (ci := 2) (v := .ref cu) (C := cn_MI) (T := ft_MI) (N := 3) hx hb hf_MI (fun _ h => h) hown hK hP 0 rfl rfl 0 (by decide) (gw.at G hx0 mw_64 rfl _) (fun _ h9 => h9) rfl d_MI_fillDirection_29 ?_
  refine lv_iload_n hx hb d_MI_fillDirection_32 rfl (lv_at hl 5 rfl) ?_
  refine cx_call (D := D) (cl := kl) (ws := _) (wc := []) (wr := [(mi, .inr (2, [.ref cu, .ref nx, .int (2 : Int32)])), (cu, .inl (cJ, 16, .inr (.inl cf))), (ga, .inl (cI, 4, .inl (upd (upd (upd (upd (upd (upd g 0 (0 : Int32)) 1 (0 : Int32)) 2 (0 : Int32)) 3 (0 : Int32)) 0 (dirc cf 3 (-1 : Int32) 0)) 1 (dirc cf 3 (-1 : Int32) 1))))]) (tx_runSN (As := [.int (3 : Int32)]) (rest := [.ref cu]) hx hb hml hown (c_D_maskOf E H.size 3 (by decide)) (cx_C (b0 := b0) G hx0 mw_365 mw_1 ny_D_maskOfAll (by decide)) (gw.at G hx0 mw_479 rfl _) (gw.at G hx0 mw_364 rfl _) (gw.at G hx0 mw_1 rfl _) ⟨cx_blind, (cx_pre (s := s) hx0 hP hD hS hA0 [] rfl rfl (by decide))⟩ rfl rfl hl.1 rfl (lv_room (Nat.le_of_ble_eq_true rfl)) d_MI_fillDirection_33 ⟨by decide, by decide⟩) hP hD hS hA [] [0, 1, 2] rfl rfl (by decide) (by decide) (fun v t w1 H locs ht hW9 hp hP hD hS => ?_) (fun x t w1 H locs ht hW9 hp hP hD hS => by obtain ⟨h9, -⟩ := hp; cases h9)
  obtain ⟨h9, rfl⟩ := hp
  cases h9
  refine W.eq (g2 := F0 m 36 ls [.int (nI (2 ^ 3 - 1)), .ref cu]) rfl ?_
  refine W.widen (k := 0) (n := 0) (by decide) (by decide) ?_
  have hP : va_P D kl [(mi, .inr (2, [.ref cu, .ref nx, .int (2 : Int32)])), (cu, .inl (cJ, 16, .inr (.inl cf))), (ga, .inl (cI, 4, .inl (upd (upd (upd (upd (upd (upd g 0 (0 : Int32)) 1 (0 : Int32)) 2 (0 : Int32)) 3 (0 : Int32)) 0 (dirc cf 3 (-1 : Int32) 0)) 1 (dirc cf 3 (-1 : Int32) 1))))] H := hP
  have hD : va_D A [(mi, .inr (2, [.ref cu, .ref nx, .int (2 : Int32)])), (cu, .inl (cJ, 16, .inr (.inl cf))), (ga, .inl (cI, 4, .inl (upd (upd (upd (upd (upd (upd g 0 (0 : Int32)) 1 (0 : Int32)) 2 (0 : Int32)) 3 (0 : Int32)) 0 (dirc cf 3 (-1 : Int32) 0)) 1 (dirc cf 3 (-1 : Int32) 1))))] := hD
  refine tp_i (y := (7 : Int32)) (by decide) ?_
  refine lv_iconst (v := (1 : Int32)) hx hb d_MI_fillDirection_36 (by decide) ?_
  refine lv_iload hx hb d_MI_fillDirection_37 (lv_at hl 0 rfl) ?_
  refine lv_ishl hx hb d_MI_fillDirection_39 ?_
  refine tp_i (y := (4 : Int32)) (by decide) ?_
  refine lv_ixor hx hb d_MI_fillDirection_40 ?_
  refine tp_i (y := (3 : Int32)) (by decide) ?_
  refine va_lald hx hb hK hP 1 1 rfl rfl (vp_in_iff.mpr (by decide)) d_MI_fillDirection_41 ?_
  refine tp_l (y := cf 3) (by rfl) ?_
  refine lv_lload hx hb d_MI_fillDirection_42 (lv_at hl 2 rfl) ?_
  refine lv_ldiv hx hb d_MI_fillDirection_44 hd ?_
  refine lv_lstore (lv' := [(7, .long ((cf 3) / (cdl cf (lev 2)))), (6, .int (2 : Int32)), (4, .long (cdl cf (lev 2))), (0, .ref mi), (1, .ref ga), (2, .int (3 : Int32)), (3, .int (-1 : Int32))]) hx hb d_MI_fillDirection_45 hl (by decide) rfl (fun ls hl => ?_)
  refine lv_aload_n hx hb d_MI_fillDirection_47 rfl (lv_at hl 4 rfl) ?_
  refine lv_iload hx hb d_MI_fillDirection_48 (lv_at hl 1 rfl) ?_
  refine lv_iload hx hb d_MI_fillDirection_50 (lv_at hl 1 rfl) ?_
  refine lv_iconst (v := (2 : Int32)) hx hb d_MI_fillDirection_52 (by decide) ?_
  refine lv_irem hx hb d_MI_fillDirection_53 (by decide) ?_
  refine tp_i (y := (0 : Int32)) (by decide) ?_
  refine lv_if_ne (tgt := 62) hx hb d_MI_fillDirection_54 (by decide) (fun h99 => absurd h99 (by decide)) (fun _ => ?_)
  refine lv_lload hx hb d_MI_fillDirection_57 (lv_at hl 0 rfl) ?_
  refine lv_goto (tgt := 65) hx hb d_MI_fillDirection_59 (by decide) ?_
  refine lv_l2i (v := ((cf 3) / (cdl cf (lev 2))).toInt32) hx hb d_MI_fillDirection_65 rfl ?_
  refine lv_iload_n hx hb d_MI_fillDirection_66 rfl (lv_at hl 6 rfl) ?_
  refine lv_imul hx hb d_MI_fillDirection_67 ?_
  refine tp_i (y := dirc cf 3 (-1 : Int32) 2) (by rfl) ?_
  refine va_iast hx hb hK hP hD hS 2 0 rfl rfl (vp_in_iff.mpr (by decide)) d_MI_fillDirection_68 (fun H locs hP hD hS => ?_)
  have hP : va_P D kl [(mi, .inr (2, [.ref cu, .ref nx, .int (2 : Int32)])), (cu, .inl (cJ, 16, .inr (.inl cf))), (ga, .inl (cI, 4, .inl (upd (upd (upd (upd (upd (upd (upd g 0 (0 : Int32)) 1 (0 : Int32)) 2 (0 : Int32)) 3 (0 : Int32)) 0 (dirc cf 3 (-1 : Int32) 0)) 1 (dirc cf 3 (-1 : Int32) 1)) 2 (dirc cf 3 (-1 : Int32) 2))))] H := hP
  have hD : va_D A [(mi, .inr (2, [.ref cu, .ref nx, .int (2 : Int32)])), (cu, .inl (cJ, 16, .inr (.inl cf))), (ga, .inl (cI, 4, .inl (upd (upd (upd (upd (upd (upd (upd g 0 (0 : Int32)) 1 (0 : Int32)) 2 (0 : Int32)) 3 (0 : Int32)) 0 (dirc cf 3 (-1 : Int32) 0)) 1 (dirc cf 3 (-1 : Int32) 1)) 2 (dirc cf 3 (-1 : Int32) 2))))] := hD
  refine lv_iinc (lv' := [(6, .int (3 : Int32)), (7, .long ((cf 3) / (cdl cf (lev 2)))), (4, .long (cdl cf (lev 2))), (0, .ref mi), (1, .ref ga), (2, .int (3 : Int32)), (3, .int (-1 : Int32))]) (k := 1) (v := (3 : Int32)) hx hb d_MI_fillDirection_69 hl rfl (by decide) (by decide) rfl (fun ls hl => ?_)
  refine lv_goto (tgt := 22) hx hb d_MI_fillDirection_72 (by decide) ?_
  refine lv_iload hx hb d_MI_fillDirection_22 (lv_at hl 0 rfl) ?_
  refine lv_iload_n hx hb d_MI_fillDirection_24 rfl (lv_at hl 5 rfl) ?_
  refine lv_icmp_ge (tgt := 75) hx hb d_MI_fillDirection_25 (by decide) (fun _ => ?_) (fun h99 => absurd h99 (by decide))
  exact tx_mono (fun _ h => tx_Z.of h) (W.vret hx hb hr (fun t ht hW => ⟨⟨[(mi, .inr (2, [.ref cu, .ref nx, .int (2 : Int32)])), (cu, .inl (cJ, 16, .inr (.inl cf))), (ga, .inl (cI, 4, .inl (upd (upd (upd (upd (upd (upd (upd g 0 (0 : Int32)) 1 (0 : Int32)) 2 (0 : Int32)) 3 (0 : Int32)) 0 (dirc cf 3 (-1 : Int32) 0)) 1 (dirc cf 3 (-1 : Int32) 1)) 2 (dirc cf 3 (-1 : Int32) 2))))], ⟨rfl, rfl⟩, by rw [ht]; exact hP.sub [0, 1, 2] rfl, hD.sub [0, 1, 2] (by decide) rfl⟩, hS.F ht⟩) hS.2.2 d_MI_fillDirection_75)

set_option maxHeartbeats 4000000 in
set_option maxRecDepth 100000 in
theorem c_MI_dir4_0 {l : Launch} {s0 : State} {b0 : Addr} {D : va_G} {cI cJ cZ : ClassId} {tC tS : Nat} (E : gE l s0 b0 D cI cJ cZ tC tS) (sz : Nat) (mi : Nat) (cu : Nat) (nx : Nat) (cf : Nat → Int64) (ga : Nat) (g : Nat → Int32) (sg : Int32) (hd : cdl cf (lev 3) = 0) : cx_M l s0 D kl y_MI_fillDirection b_MI_fillDirection 9 none ({ frames := 2, cells := 0, slots := 0, locals := 72 } : Room) 0 0 [.ref mi, .ref ga, .int (4 : Int32), .int sg] [(mi, .inr (2, [.ref cu, .ref nx, .int (3 : Int32)])), (cu, .inl (cJ, 16, .inr (.inl cf))), (ga, .inl (cI, 4, .inl g))] sz (fun o9 _ w9 => o9 = .returned none ∧ w9 = [(mi, .inr (2, [.ref cu, .ref nx, .int (3 : Int32)])), (cu, .inl (cJ, 16, .inr (.inl cf))), (ga, .inl (cI, 4, .inl g))]) := by
  refine tx_ofW (cc := b_MI_fillDirection) (maxL := 9) (ret := none) (by decide) rfl ?_
  intro p e s m args below meth c s₁ B hml hT hv
  obtain ⟨rfl, hsz, hP, hD0, hx0⟩ := hv
  have hx := B.exec
  have hb := B.bytes
  have hr := B.returns
  have G := E.2.1
  have hown : s.vm.findClass cn_MI = some m.cls := findClass_of_methodNamed B.named
  have hlocks := B.notSynchronized
  have hK := va_K.moved hx0.1.alike E.2.2.1
  subst hsz
  have hA0 := cx_new hD0 hx0.2.1
  have hD := hD0.self (sz := s.heap.size)
  generalize hAe : va_A [(mi, .inr (2, [.ref cu, .ref nx, .int (3 : Int32)])), (cu, .inl (cJ, 16, .inr (.inl cf))), (ga, .inl (cI, 4, .inl g))] s.heap.size = A at hD hA0 ⊢
  have hA : ∀ q : Nat, s.heap.size ≤ q → A q := fun q h => by rw [← hAe]; exact Or.inr h
  have hS : va_S A s.heap s.heap [] := va_S.rf
  have hl := lv_entry ([.ref mi, .ref ga, .int (4 : Int32), .int sg]) (n := 9) (Nat.le_of_ble_eq_true rfl)
  rw [lg_entry_eq]
  generalize (lg_sl ([.ref mi, .ref ga, .int (4 : Int32), .int sg]) ++ List.replicate (9 - (lg_sl ([.ref mi, .ref ga, .int (4 : Int32), .int sg])).length) Slot.unset).toArray = ls at hl ⊢
  have hl : lv_has ls 9 [(0, .ref mi), (1, .ref ga), (2, .int (4 : Int32)), (3, .int sg)] := hl
  have hP : va_P D kl [(mi, .inr (2, [.ref cu, .ref nx, .int (3 : Int32)])), (cu, .inl (cJ, 16, .inr (.inl cf))), (ga, .inl (cI, 4, .inl g))] s.heap := hP
  have hml : c.maxLocals = 9 := hml
  refine lv_aload_n hx hb d_MI_fillDirection_0 rfl (lv_at hl 0 rfl) ?_
  refine cx_call (D := D) (cl := kl) (ws := _) (wc := [(mi, .inr (2, [.ref cu, .ref nx, .int (3 : Int32)])), (cu, .inl (cJ, 16, .inr (.inl cf)))]) (wr := [(ga, .inl (cI, 4, .inl g))]) (tx_runV (C := cn_MI) (b := mi) (As := []) (rest := []) hx hb hml hown (c_MI_comdiv3 E s.heap.size mi cu nx cf ) (cx_C (b0 := b0) G hx0 mw_461 mw_4 ny_MI_commonDivisor (by decide)) (gw.at G hx0 mw_458 rfl _) (gw.at G hx0 mw_459 rfl _) (gw.at G hx0 mw_460 rfl _) ⟨cx_blind, va_recv hK hP (q0 := 0) (ci := 2) (q := (cn_MI, ft_MI, 3)) rfl rfl, (cx_pre (s := s) hx0 hP hD hS hA0 [0, 1] rfl rfl (by decide))⟩ rfl rfl hl.1 rfl (lv_room (Nat.le_of_ble_eq_true rfl)) d_MI_fillDirection_1 ⟨by decide, by decide⟩) hP hD hS hA [0, 1] [2] rfl rfl (by decide) (by decide) (fun v t w1 H locs ht hW9 hp hP hD hS => ?_) (fun x t w1 H locs ht hW9 hp hP hD hS => by obtain ⟨h9, -⟩ := hp; cases h9)
  obtain ⟨h9, rfl⟩ := hp
  cases h9
  refine W.eq (g2 := F0 m 4 ls [.long (cdl cf (lev 3))]) rfl ?_
  refine W.widen (k := 0) (n := 0) (by decide) (by decide) ?_
  have hP : va_P D kl [(ga, .inl (cI, 4, .inl g)), (mi, .inr (2, [.ref cu, .ref nx, .int (3 : Int32)])), (cu, .inl (cJ, 16, .inr (.inl cf)))] H := hP
  have hD : va_D A [(ga, .inl (cI, 4, .inl g)), (mi, .inr (2, [.ref cu, .ref nx, .int (3 : Int32)])), (cu, .inl (cJ, 16, .inr (.inl cf)))] := hD
  refine lv_lstore (lv' := [(4, .long (cdl cf (lev 3))), (0, .ref mi), (1, .ref ga), (2, .int (4 : Int32)), (3, .int sg)]) hx hb d_MI_fillDirection_4 hl (by decide) rfl (fun ls hl => ?_)
  refine lv_lload hx hb d_MI_fillDirection_6 (lv_at hl 0 rfl) ?_
  refine lv_lconst (v := (0 : Int64)) hx hb d_MI_fillDirection_8 (by decide) ?_
  refine W.lcmp hx hb d_MI_fillDirection_9 ?_
  refine lv_if_ne (tgt := 14) hx hb d_MI_fillDirection_10 (by decide) (fun h99 => absurd h99 (not_not_intro (by rw [hd]; decide))) (fun _ => ?_)
  exact tx_mono (fun _ h => tx_Z.of h) (W.vret hx hb hr (fun t ht hW => ⟨⟨[(mi, .inr (2, [.ref cu, .ref nx, .int (3 : Int32)])), (cu, .inl (cJ, 16, .inr (.inl cf))), (ga, .inl (cI, 4, .inl g))], ⟨rfl, rfl⟩, by rw [ht]; exact hP.sub [1, 2, 0] rfl, hD.sub [1, 2, 0] (by decide) rfl⟩, hS.F ht⟩) hS.2.2 d_MI_fillDirection_13)

set_option maxHeartbeats 4000000 in
set_option maxRecDepth 100000 in
theorem c_MI_dir4_p {l : Launch} {s0 : State} {b0 : Addr} {D : va_G} {cI cJ cZ : ClassId} {tC tS : Nat} (E : gE l s0 b0 D cI cJ cZ tC tS) (sz : Nat) (mi : Nat) (cu : Nat) (nx : Nat) (cf : Nat → Int64) (ga : Nat) (g : Nat → Int32) (hd : ¬ cdl cf (lev 3) = 0) : cx_M l s0 D kl y_MI_fillDirection b_MI_fillDirection 9 none ({ frames := 2, cells := 0, slots := 0, locals := 72 } : Room) 0 0 [.ref mi, .ref ga, .int (4 : Int32), .int (1 : Int32)] [(mi, .inr (2, [.ref cu, .ref nx, .int (3 : Int32)])), (cu, .inl (cJ, 16, .inr (.inl cf))), (ga, .inl (cI, 4, .inl g))] sz (fun o9 _ w9 => o9 = .returned none ∧ w9 = [(mi, .inr (2, [.ref cu, .ref nx, .int (3 : Int32)])), (cu, .inl (cJ, 16, .inr (.inl cf))), (ga, .inl (cI, 4, .inl (upd (upd (upd (upd (upd (upd (upd (upd g 0 (0 : Int32)) 1 (0 : Int32)) 2 (0 : Int32)) 3 (0 : Int32)) 0 (dirc cf 4 (1 : Int32) 0)) 1 (dirc cf 4 (1 : Int32) 1)) 2 (dirc cf 4 (1 : Int32) 2)) 3 (dirc cf 4 (1 : Int32) 3))))]) := by
  refine tx_ofW (cc := b_MI_fillDirection) (maxL := 9) (ret := none) (by decide) rfl ?_
  intro p e s m args below meth c s₁ B hml hT hv
  obtain ⟨rfl, hsz, hP, hD0, hx0⟩ := hv
  have hx := B.exec
  have hb := B.bytes
  have hr := B.returns
  have G := E.2.1
  have hown : s.vm.findClass cn_MI = some m.cls := findClass_of_methodNamed B.named
  have hlocks := B.notSynchronized
  have hK := va_K.moved hx0.1.alike E.2.2.1
  have hf_MI : ∀ w99 ∈ u_ws cn_MI ft_MI 3, w99.before ([.ref mi, .ref ga, .int (4 : Int32), .int (1 : Int32)] : List Value).toArray s = true := fun w99 h99 => gw.at G hx0 (fw_MI w99 h99) (fo_MI w99 h99) _
  subst hsz
  have hA0 := cx_new hD0 hx0.2.1
  have hD := hD0.self (sz := s.heap.size)
  generalize hAe : va_A [(mi, .inr (2, [.ref cu, .ref nx, .int (3 : Int32)])), (cu, .inl (cJ, 16, .inr (.inl cf))), (ga, .inl (cI, 4, .inl g))] s.heap.size = A at hD hA0 ⊢
  have hA : ∀ q : Nat, s.heap.size ≤ q → A q := fun q h => by rw [← hAe]; exact Or.inr h
  have hS : va_S A s.heap s.heap [] := va_S.rf
  have hl := lv_entry ([.ref mi, .ref ga, .int (4 : Int32), .int (1 : Int32)]) (n := 9) (Nat.le_of_ble_eq_true rfl)
  rw [lg_entry_eq]
  generalize (lg_sl ([.ref mi, .ref ga, .int (4 : Int32), .int (1 : Int32)]) ++ List.replicate (9 - (lg_sl ([.ref mi, .ref ga, .int (4 : Int32), .int (1 : Int32)])).length) Slot.unset).toArray = ls at hl ⊢
  have hl : lv_has ls 9 [(0, .ref mi), (1, .ref ga), (2, .int (4 : Int32)), (3, .int (1 : Int32))] := hl
  have hP : va_P D kl [(mi, .inr (2, [.ref cu, .ref nx, .int (3 : Int32)])), (cu, .inl (cJ, 16, .inr (.inl cf))), (ga, .inl (cI, 4, .inl g))] s.heap := hP
  have hml : c.maxLocals = 9 := hml
  refine lv_aload_n hx hb d_MI_fillDirection_0 rfl (lv_at hl 0 rfl) ?_
  refine cx_call (D := D) (cl := kl) (ws := _) (wc := [(mi, .inr (2, [.ref cu, .ref nx, .int (3 : Int32)])), (cu, .inl (cJ, 16, .inr (.inl cf)))]) (wr := [(ga, .inl (cI, 4, .inl g))]) (tx_runV (C := cn_MI) (b := mi) (As := []) (rest := []) hx hb hml hown (c_MI_comdiv3 E s.heap.size mi cu nx cf ) (cx_C (b0 := b0) G hx0 mw_461 mw_4 ny_MI_commonDivisor (by decide)) (gw.at G hx0 mw_458 rfl _) (gw.at G hx0 mw_459 rfl _) (gw.at G hx0 mw_460 rfl _) ⟨cx_blind, va_recv hK hP (q0 := 0) (ci := 2) (q := (cn_MI, ft_MI, 3)) rfl rfl, (cx_pre (s := s) hx0 hP hD hS hA0 [0, 1] rfl rfl (by decide))⟩ rfl rfl hl.1 rfl (lv_room (Nat.le_of_ble_eq_true rfl)) d_MI_fillDirection_1 ⟨by decide, by decide⟩) hP hD hS hA [0, 1] [2] rfl rfl (by decide) (by decide) (fun v t w1 H locs ht hW9 hp hP hD hS => ?_) (fun x t w1 H locs ht hW9 hp hP hD hS => by obtain ⟨h9, -⟩ := hp; cases h9)
  obtain ⟨h9, rfl⟩ := hp
  cases h9
  refine W.eq (g2 := F0 m 4 ls [.long (cdl cf (lev 3))]) rfl ?_
  refine W.widen (k := 0) (n := 0) (by decide) (by decide) ?_
  have hP : va_P D kl [(ga, .inl (cI, 4, .inl g)), (mi, .inr (2, [.ref cu, .ref nx, .int (3 : Int32)])), (cu, .inl (cJ, 16, .inr (.inl cf)))] H := hP
  have hD : va_D A [(ga, .inl (cI, 4, .inl g)), (mi, .inr (2, [.ref cu, .ref nx, .int (3 : Int32)])), (cu, .inl (cJ, 16, .inr (.inl cf)))] := hD
  refine lv_lstore (lv' := [(4, .long (cdl cf (lev 3))), (0, .ref mi), (1, .ref ga), (2, .int (4 : Int32)), (3, .int (1 : Int32))]) hx hb d_MI_fillDirection_4 hl (by decide) rfl (fun ls hl => ?_)
  refine lv_lload hx hb d_MI_fillDirection_6 (lv_at hl 0 rfl) ?_
  refine lv_lconst (v := (0 : Int64)) hx hb d_MI_fillDirection_8 (by decide) ?_
  refine W.lcmp hx hb d_MI_fillDirection_9 ?_
  refine lv_if_ne (tgt := 14) hx hb d_MI_fillDirection_10 (by decide) (fun _ => ?_) (fun h99 => absurd h99 (lg_ne.mpr hd))
  refine lv_aload_n hx hb d_MI_fillDirection_14 rfl (lv_at hl 2 rfl) ?_
  refine lv_iconst (v := (0 : Int32)) hx hb d_MI_fillDirection_15 (by decide) ?_
  refine cx_call (D := D) (cl := kl) (ws := _) (wc := [(ga, .inl (cI, 4, .inl g))]) (wr := [(mi, .inr (2, [.ref cu, .ref nx, .int (3 : Int32)])), (cu, .inl (cJ, 16, .inr (.inl cf)))]) (tx_runS (As := [.ref ga, .int (0 : Int32)]) (rest := []) hx hb hml hown (c_JA_fill4 E H.size ga g ) (cx_C (b0 := b0) G hx0 mw_478 mw_18 ny_JA_fill (by decide)) (gw.at G hx0 mw_476 rfl _) (gw.at G hx0 mw_477 rfl _) (gw.at G hx0 mw_18 rfl _) ⟨cx_blind, (cx_pre (s := s) hx0 hP hD hS hA0 [0] rfl rfl (by decide))⟩ rfl rfl hl.1 rfl (lv_room (Nat.le_of_ble_eq_true rfl)) d_MI_fillDirection_16 ⟨by decide, by decide⟩) hP hD hS hA [0] [1, 2] rfl rfl (by decide) (by decide) (fun v t w1 H locs ht hW9 hp hP hD hS => ?_) (fun x t w1 H locs ht hW9 hp hP hD hS => by obtain ⟨h9, -⟩ := hp; cases h9)
  obtain ⟨h9, rfl⟩ := hp
  cases h9
  refine W.eq (g2 := F0 m 19 ls []) rfl ?_
  refine W.widen (k := 0) (n := 0) (by decide) (by decide) ?_
  have hP : va_P D kl [(mi, .inr (2, [.ref cu, .ref nx, .int (3 : Int32)])), (cu, .inl (cJ, 16, .inr (.inl cf))), (ga, .inl (cI, 4, .inl (upd (upd (upd (upd g 0 (0 : Int32)) 1 (0 : Int32)) 2 (0 : Int32)) 3 (0 : Int32))))] H := hP
  have hD : va_D A [(mi, .inr (2, [.ref cu, .ref nx, .int (3 : Int32)])), (cu, .inl (cJ, 16, .inr (.inl cf))), (ga, .inl (cI, 4, .inl (upd (upd (upd (upd g 0 (0 : Int32)) 1 (0 : Int32)) 2 (0 : Int32)) 3 (0 : Int32))))] := hD
  refine lv_iconst (v := (0 : Int32)) hx hb d_MI_fillDirection_19 (by decide) ?_
  refine lv_istore (lv' := [(6, .int (0 : Int32)), (4, .long (cdl cf (lev 3))), (0, .ref mi), (1, .ref ga), (2, .int (4 : Int32)), (3, .int (1 : Int32))]) hx hb d_MI_fillDirection_20 hl (by decide) rfl (fun ls hl => ?_)
  refine lv_iload hx hb d_MI_fillDirection_22 (lv_at hl 0 rfl) ?_
  refine lv_iload_n hx hb d_MI_fillDirection_24 rfl (lv_at hl 4 rfl) ?_
  refine lv_icmp_ge (tgt := 75) hx hb d_MI_fillDirection_25 (by decide) (fun h99 => absurd h99 (by decide)) (fun _ => ?_)
  refine lv_aload_n hx hb d_MI_fillDirection_28 rfl (lv_at hl 2 rfl) ?_
  refine va_get (D := D) (ci := 2) (v := .ref cu) (C := cn_MI) (T := ft_MI) (N := 3) hx hb hf_MI (fun _ h => h) hown hK hP 0 rfl rfl 0 (by decide) (gw.at G hx0 mw_64 rfl _) (fun _ h9 => h9) rfl d_MI_fillDirection_29 ?_
  refine lv_iload_n hx hb d_MI_fillDirection_32 rfl (lv_at hl 4 rfl) ?_
  refine cx_call (D := D) (cl := kl) (ws := _) (wc := []) (wr := [(mi, .inr (2, [.ref cu, .ref nx, .int (3 : Int32)])), (cu, .inl (cJ, 16, .inr (.inl cf))), (ga, .inl (cI, 4, .inl (upd (upd (upd (upd g 0 (0 : Int32)) 1 (0 : Int32)) 2 (0 : Int32)) 3 (0 : Int32))))]) (tx_runSN (As := [.int (4 : Int32)]) (rest := [.ref cu]) hx hb hml hown (c_D_maskOf E H.size 4 (by decide)) (cx_C (b0 := b0) G hx0 mw_365 mw_1 ny_D_maskOfAll (by decide)) (gw.at G hx0 mw_479 rfl _) (gw.at G hx0 mw_364 rfl _) (gw.at G hx0 mw_1 rfl _) ⟨cx_blind, (cx_pre (s := s) hx0 hP hD hS hA0 [] rfl rfl (by decide))⟩ rfl rfl hl.1 rfl (lv_room (Nat.le_of_ble_eq_true rfl)) d_MI_fillDirection_33 ⟨by decide, by decide⟩) hP hD hS hA [] [0, 1, 2] rfl rfl (by decide) (by decide) (fun v t w1 H locs ht hW9 hp hP hD hS => ?_) (fun x t w1 H locs ht hW9 hp hP hD hS => by obtain ⟨h9, -⟩ := hp; cases h9)
  obtain ⟨h9, rfl⟩ := hp
  cases h9
  refine W.eq (g2 := F0 m 36 ls [.int (nI (2 ^ 4 - 1)), .ref cu]) rfl ?_
  refine W.widen (k := 0) (n := 0) (by decide) (by decide) ?_
  have hP : va_P D kl [(mi, .inr (2, [.ref cu, .ref nx, .int (3 : Int32)])), (cu, .inl (cJ, 16, .inr (.inl cf))), (ga, .inl (cI, 4, .inl (upd (upd (upd (upd g 0 (0 : Int32)) 1 (0 : Int32)) 2 (0 : Int32)) 3 (0 : Int32))))] H := hP
  have hD : va_D A [(mi, .inr (2, [.ref cu, .ref nx, .int (3 : Int32)])), (cu, .inl (cJ, 16, .inr (.inl cf))), (ga, .inl (cI, 4, .inl (upd (upd (upd (upd g 0 (0 : Int32)) 1 (0 : Int32)) 2 (0 : Int32)) 3 (0 : Int32))))] := hD
  refine tp_i (y := (15 : Int32)) (by decide) ?_
  refine lv_iconst (v := (1 : Int32)) hx hb d_MI_fillDirection_36 (by decide) ?_
  refine lv_iload hx hb d_MI_fillDirection_37 (lv_at hl 0 rfl) ?_
  refine lv_ishl hx hb d_MI_fillDirection_39 ?_
  refine tp_i (y := (1 : Int32)) (by decide) ?_
  refine lv_ixor hx hb d_MI_fillDirection_40 ?_
  refine tp_i (y := (14 : Int32)) (by decide) ?_
  refine va_lald hx hb hK hP 1 1 rfl rfl (vp_in_iff.mpr (by decide)) d_MI_fillDirection_41 ?_
  refine tp_l (y := cf 14) (by rfl) ?_
  refine lv_lload hx hb d_MI_fillDirection_42 (lv_at hl 1 rfl) ?_
  refine lv_ldiv hx hb d_MI_fillDirection_44 hd ?_
  refine lv_lstore (lv' := [(7, .long ((cf 14) / (cdl cf (lev 3)))), (6, .int (0 : Int32)), (4, .long (cdl cf (lev 3))), (0, .ref mi), (1, .ref ga), (2, .int (4 : Int32)), (3, .int (1 : Int32))]) hx hb d_MI_fillDirection_45 hl (by decide) rfl (fun ls hl => ?_)
  refine lv_aload_n hx hb d_MI_fillDirection_47 rfl (lv_at hl 4 rfl) ?_
  refine lv_iload hx hb d_MI_fillDirection_48 (lv_at hl 1 rfl) ?_
  refine lv_iload hx hb d_MI_fillDirection_50 (lv_at hl 1 rfl) ?_
  refine lv_iconst (v := (2 : Int32)) hx hb d_MI_fillDirection_52 (by decide) ?_
  refine lv_irem hx hb d_MI_fillDirection_53 (by decide) ?_
  refine tp_i (y := (0 : Int32)) (by decide) ?_
  refine lv_if_ne (tgt := 62) hx hb d_MI_fillDirection_54 (by decide) (fun h99 => absurd h99 (by decide)) (fun _ => ?_)
  refine lv_lload hx hb d_MI_fillDirection_57 (lv_at hl 0 rfl) ?_
  refine lv_goto (tgt := 65) hx hb d_MI_fillDirection_59 (by decide) ?_
  refine lv_l2i (v := ((cf 14) / (cdl cf (lev 3))).toInt32) hx hb d_MI_fillDirection_65 rfl ?_
  refine lv_iload_n hx hb d_MI_fillDirection_66 rfl (lv_at hl 6 rfl) ?_
  refine lv_imul hx hb d_MI_fillDirection_67 ?_
  refine tp_i (y := dirc cf 4 (1 : Int32) 0) (by rfl) ?_
  refine va_iast hx hb hK hP hD hS 2 0 rfl rfl (vp_in_iff.mpr (by decide)) d_MI_fillDirection_68 (fun H locs hP hD hS => ?_)
  have hP : va_P D kl [(mi, .inr (2, [.ref cu, .ref nx, .int (3 : Int32)])), (cu, .inl (cJ, 16, .inr (.inl cf))), (ga, .inl (cI, 4, .inl (upd (upd (upd (upd (upd g 0 (0 : Int32)) 1 (0 : Int32)) 2 (0 : Int32)) 3 (0 : Int32)) 0 (dirc cf 4 (1 : Int32) 0))))] H := hP
  have hD : va_D A [(mi, .inr (2, [.ref cu, .ref nx, .int (3 : Int32)])), (cu, .inl (cJ, 16, .inr (.inl cf))), (ga, .inl (cI, 4, .inl (upd (upd (upd (upd (upd g 0 (0 : Int32)) 1 (0 : Int32)) 2 (0 : Int32)) 3 (0 : Int32)) 0 (dirc cf 4 (1 : Int32) 0))))] := hD
  refine lv_iinc (lv' := [(6, .int (1 : Int32)), (7, .long ((cf 14) / (cdl cf (lev 3)))), (4, .long (cdl cf (lev 3))), (0, .ref mi), (1, .ref ga), (2, .int (4 : Int32)), (3, .int (1 : Int32))]) (k := 1) (v := (1 : Int32)) hx hb d_MI_fillDirection_69 hl rfl (by decide) (by decide) rfl (fun ls hl => ?_)
  refine lv_goto (tgt := 22) hx hb d_MI_fillDirection_72 (by decide) ?_
  refine lv_iload hx hb d_MI_fillDirection_22 (lv_at hl 0 rfl) ?_
  refine lv_iload_n hx hb d_MI_fillDirection_24 rfl (lv_at hl 5 rfl) ?_
  refine lv_icmp_ge (tgt := 75) hx hb d_MI_fillDirection_25 (by decide) (fun h99 => absurd h99 (by decide)) (fun _ => ?_)
  refine lv_aload_n hx hb d_MI_fillDirection_28 rfl (lv_at hl 3 rfl) ?_
  refine va_get (D := D) (ci := 2) (v := .ref cu) (C := cn_MI) (T := ft_MI) (N := 3) hx hb hf_MI (fun _ h => h) hown hK hP 0 rfl rfl 0 (by decide) (gw.at G hx0 mw_64 rfl _) (fun _ h9 => h9) rfl d_MI_fillDirection_29 ?_
  refine lv_iload_n hx hb d_MI_fillDirection_32 rfl (lv_at hl 5 rfl) ?_
  refine cx_call (D := D) (cl := kl) (ws := _) (wc := []) (wr := [(mi, .inr (2, [.ref cu, .ref nx, .int (3 : Int32)])), (cu, .inl (cJ, 16, .inr (.inl cf))), (ga, .inl (cI, 4, .inl (upd (upd (upd (upd (upd g 0 (0 : Int32)) 1 (0 : Int32)) 2 (0 : Int32)) 3 (0 : Int32)) 0 (dirc cf 4 (1 : Int32) 0))))]) (tx_runSN (As := [.int (4 : Int32)]) (rest := [.ref cu]) hx hb hml hown (c_D_maskOf E H.size 4 (by decide)) (cx_C (b0 := b0) G hx0 mw_365 mw_1 ny_D_maskOfAll (by decide)) (gw.at G hx0 mw_479 rfl _) (gw.at G hx0 mw_364 rfl _) (gw.at G hx0 mw_1 rfl _) ⟨cx_blind, (cx_pre (s := s) hx0 hP hD hS hA0 [] rfl rfl (by decide))⟩ rfl rfl hl.1 rfl (lv_room (Nat.le_of_ble_eq_true rfl)) d_MI_fillDirection_33 ⟨by decide, by decide⟩) hP hD hS hA [] [0, 1, 2] rfl rfl (by decide) (by decide) (fun v t w1 H locs ht hW9 hp hP hD hS => ?_) (fun x t w1 H locs ht hW9 hp hP hD hS => by obtain ⟨h9, -⟩ := hp; cases h9)
  obtain ⟨h9, rfl⟩ := hp
  cases h9
  refine W.eq (g2 := F0 m 36 ls [.int (nI (2 ^ 4 - 1)), .ref cu]) rfl ?_
  refine W.widen (k := 0) (n := 0) (by decide) (by decide) ?_
  have hP : va_P D kl [(mi, .inr (2, [.ref cu, .ref nx, .int (3 : Int32)])), (cu, .inl (cJ, 16, .inr (.inl cf))), (ga, .inl (cI, 4, .inl (upd (upd (upd (upd (upd g 0 (0 : Int32)) 1 (0 : Int32)) 2 (0 : Int32)) 3 (0 : Int32)) 0 (dirc cf 4 (1 : Int32) 0))))] H := hP
  have hD : va_D A [(mi, .inr (2, [.ref cu, .ref nx, .int (3 : Int32)])), (cu, .inl (cJ, 16, .inr (.inl cf))), (ga, .inl (cI, 4, .inl (upd (upd (upd (upd (upd g 0 (0 : Int32)) 1 (0 : Int32)) 2 (0 : Int32)) 3 (0 : Int32)) 0 (dirc cf 4 (1 : Int32) 0))))] := hD
  refine tp_i (y := (15 : Int32)) (by decide) ?_
  refine lv_iconst (v := (1 : Int32)) hx hb d_MI_fillDirection_36 (by decide) ?_
  refine lv_iload hx hb d_MI_fillDirection_37 (lv_at hl 0 rfl) ?_
  refine lv_ishl hx hb d_MI_fillDirection_39 ?_
  refine tp_i (y := (2 : Int32)) (by decide) ?_
  refine lv_ixor hx hb d_MI_fillDirection_40 ?_
  refine tp_i (y := (13 : Int32)) (by decide) ?_
  refine va_lald hx hb hK hP 1 1 rfl rfl (vp_in_iff.mpr (by decide)) d_MI_fillDirection_41 ?_
  refine tp_l (y := cf 13) (by rfl) ?_
  refine lv_lload hx hb d_MI_fillDirection_42 (lv_at hl 2 rfl) ?_
  refine lv_ldiv hx hb d_MI_fillDirection_44 hd ?_
  refine lv_lstore (lv' := [(7, .long ((cf 13) / (cdl cf (lev 3)))), (6, .int (1 : Int32)), (4, .long (cdl cf (lev 3))), (0, .ref mi), (1, .ref ga), (2, .int (4 : Int32)), (3, .int (1 : Int32))]) hx hb d_MI_fillDirection_45 hl (by decide) rfl (fun ls hl => ?_)
  refine lv_aload_n hx hb d_MI_fillDirection_47 rfl (lv_at hl 4 rfl) ?_
  refine lv_iload hx hb d_MI_fillDirection_48 (lv_at hl 1 rfl) ?_
  refine lv_iload hx hb d_MI_fillDirection_50 (lv_at hl 1 rfl) ?_
  refine lv_iconst (v := (2 : Int32)) hx hb d_MI_fillDirection_52 (by decide) ?_
  refine lv_irem hx hb d_MI_fillDirection_53 (by decide) ?_
  refine tp_i (y := (1 : Int32)) (by decide) ?_
  refine lv_if_ne (tgt := 62) hx hb d_MI_fillDirection_54 (by decide) (fun _ => ?_) (fun h99 => absurd h99 (by decide))
  refine lv_lload hx hb d_MI_fillDirection_62 (lv_at hl 0 rfl) ?_
  refine lv_lneg hx hb d_MI_fillDirection_64 ?_
  refine lv_l2i (v := (-((cf 13) / (cdl cf (lev 3)))).toInt32) hx hb d_MI_fillDirection_65 rfl ?_
  refine lv_iload_n hx hb d_MI_fillDirection_66 rfl (lv_at hl 6 rfl) ?_
  refine lv_imul hx hb d_MI_fillDirection_67 ?_
  refine tp_i (y := dirc cf 4 (1 : Int32) 1) (by rfl) ?_
  refine va_iast hx hb hK hP hD hS 2 0 rfl rfl (vp_in_iff.mpr (by decide)) d_MI_fillDirection_68 (fun H locs hP hD hS => ?_)
  have hP : va_P D kl [(mi, .inr (2, [.ref cu, .ref nx, .int (3 : Int32)])), (cu, .inl (cJ, 16, .inr (.inl cf))), (ga, .inl (cI, 4, .inl (upd (upd (upd (upd (upd (upd g 0 (0 : Int32)) 1 (0 : Int32)) 2 (0 : Int32)) 3 (0 : Int32)) 0 (dirc cf 4 (1 : Int32) 0)) 1 (dirc cf 4 (1 : Int32) 1))))] H := hP
  have hD : va_D A [(mi, .inr (2, [.ref cu, .ref nx, .int (3 : Int32)])), (cu, .inl (cJ, 16, .inr (.inl cf))), (ga, .inl (cI, 4, .inl (upd (upd (upd (upd (upd (upd g 0 (0 : Int32)) 1 (0 : Int32)) 2 (0 : Int32)) 3 (0 : Int32)) 0 (dirc cf 4 (1 : Int32) 0)) 1 (dirc cf 4 (1 : Int32) 1))))] := hD
  refine lv_iinc (lv' := [(6, .int (2 : Int32)), (7, .long ((cf 13) / (cdl cf (lev 3)))), (4, .long (cdl cf (lev 3))), (0, .ref mi), (1, .ref ga), (2, .int (4 : Int32)), (3, .int (1 : Int32))]) (k := 1) (v := (2 : Int32)) hx hb d_MI_fillDirection_69 hl rfl (by decide) (by decide) rfl (fun ls hl => ?_)
  refine lv_goto (tgt := 22) hx hb d_MI_fillDirection_72 (by decide) ?_
  refine lv_iload hx hb d_MI_fillDirection_22 (lv_at hl 0 rfl) ?_
  refine lv_iload_n hx hb d_MI_fillDirection_24 rfl (lv_at hl 5 rfl) ?_
  refine lv_icmp_ge (tgt := 75) hx hb d_MI_fillDirection_25 (by decide) (fun h99 => absurd h99 (by decide)) (fun _ => ?_)
  refine lv_aload_n hx hb d_MI_fillDirection_28 rfl (lv_at hl 3 rfl) ?_
  refine va_get (D := D) (ci := 2) (v := .ref cu) (C := cn_MI) (T := ft_MI) (N := 3) hx hb hf_MI (fun _ h => h) hown hK hP 0 rfl rfl 0 (by decide) (gw.at G hx0 mw_64 rfl _) (fun _ h9 => h9) rfl d_MI_fillDirection_29 ?_
  refine lv_iload_n hx hb d_MI_fillDirection_32 rfl (lv_at hl 5 rfl) ?_
  refine cx_call (D := D) (cl := kl) (ws := _) (wc := []) (wr := [(mi, .inr (2, [.ref cu, .ref nx, .int (3 : Int32)])), (cu, .inl (cJ, 16, .inr (.inl cf))), (ga, .inl (cI, 4, .inl (upd (upd (upd (upd (upd (upd g 0 (0 : Int32)) 1 (0 : Int32)) 2 (0 : Int32)) 3 (0 : Int32)) 0 (dirc cf 4 (1 : Int32) 0)) 1 (dirc cf 4 (1 : Int32) 1))))]) (tx_runSN (As := [.int (4 : Int32)]) (rest := [.ref cu]) hx hb hml hown (c_D_maskOf E H.size 4 (by decide)) (cx_C (b0 := b0) G hx0 mw_365 mw_1 ny_D_maskOfAll (by decide)) (gw.at G hx0 mw_479 rfl _) (gw.at G hx0 mw_364 rfl _) (gw.at G hx0 mw_1 rfl _) ⟨cx_blind, (cx_pre (s := s) hx0 hP hD hS hA0 [] rfl rfl (by decide))⟩ rfl rfl hl.1 rfl (lv_room (Nat.le_of_ble_eq_true rfl)) d_MI_fillDirection_33 ⟨by decide, by decide⟩) hP hD hS hA [] [0, 1, 2] rfl rfl (by decide) (by decide) (fun v t w1 H locs ht hW9 hp hP hD hS => ?_) (fun x t w1 H locs ht hW9 hp hP hD hS => by obtain ⟨h9, -⟩ := hp; cases h9)
  obtain ⟨h9, rfl⟩ := hp
  cases h9
  refine W.eq (g2 := F0 m 36 ls [.int (nI (2 ^ 4 - 1)), .ref cu]) rfl ?_
  refine W.widen (k := 0) (n := 0) (by decide) (by decide) ?_
  have hP : va_P D kl [(mi, .inr (2, [.ref cu, .ref nx, .int (3 : Int32)])), (cu, .inl (cJ, 16, .inr (.inl cf))), (ga, .inl (cI, 4, .inl (upd (upd (upd (upd (upd (upd g 0 (0 : Int32)) 1 (0 : Int32)) 2 (0 : Int32)) 3 (0 : Int32)) 0 (dirc cf 4 (1 : Int32) 0)) 1 (dirc cf 4 (1 : Int32) 1))))] H := hP
  have hD : va_D A [(mi, .inr (2, [.ref cu, .ref nx, .int (3 : Int32)])), (cu, .inl (cJ, 16, .inr (.inl cf))), (ga, .inl (cI, 4, .inl (upd (upd (upd (upd (upd (upd g 0 (0 : Int32)) 1 (0 : Int32)) 2 (0 : Int32)) 3 (0 : Int32)) 0 (dirc cf 4 (1 : Int32) 0)) 1 (dirc cf 4 (1 : Int32) 1))))] := hD
  refine tp_i (y := (15 : Int32)) (by decide) ?_
  refine lv_iconst (v := (1 : Int32)) hx hb d_MI_fillDirection_36 (by decide) ?_
  refine lv_iload hx hb d_MI_fillDirection_37 (lv_at hl 0 rfl) ?_
  refine lv_ishl hx hb d_MI_fillDirection_39 ?_
  refine tp_i (y := (4 : Int32)) (by decide) ?_
  refine lv_ixor hx hb d_MI_fillDirection_40 ?_
  refine tp_i (y := (11 : Int32)) (by decide) ?_
  refine va_lald hx hb hK hP 1 1 rfl rfl (vp_in_iff.mpr (by decide)) d_MI_fillDirection_41 ?_
  refine tp_l (y := cf 11) (by rfl) ?_
  refine lv_lload hx hb d_MI_fillDirection_42 (lv_at hl 2 rfl) ?_
  refine lv_ldiv hx hb d_MI_fillDirection_44 hd ?_
  refine lv_lstore (lv' := [(7, .long ((cf 11) / (cdl cf (lev 3)))), (6, .int (2 : Int32)), (4, .long (cdl cf (lev 3))), (0, .ref mi), (1, .ref ga), (2, .int (4 : Int32)), (3, .int (1 : Int32))]) hx hb d_MI_fillDirection_45 hl (by decide) rfl (fun ls hl => ?_)
  refine lv_aload_n hx hb d_MI_fillDirection_47 rfl (lv_at hl 4 rfl) ?_
  refine lv_iload hx hb d_MI_fillDirection_48 (lv_at hl 1 rfl) ?_
  refine lv_iload hx hb d_MI_fillDirection_50 (lv_at hl 1 rfl) ?_
  refine lv_iconst (v := (2 : Int32)) hx hb d_MI_fillDirection_52 (by decide) ?_
  refine lv_irem hx hb d_MI_fillDirection_53 (by decide) ?_
  refine tp_i (y := (0 : Int32)) (by decide) ?_
  refine lv_if_ne (tgt := 62) hx hb d_MI_fillDirection_54 (by decide) (fun h99 => absurd h99 (by decide)) (fun _ => ?_)
  refine lv_lload hx hb d_MI_fillDirection_57 (lv_at hl 0 rfl) ?_
  refine lv_goto (tgt := 65) hx hb d_MI_fillDirection_59 (by decide) ?_
  refine lv_l2i (v := ((cf 11) / (cdl cf (lev 3))).toInt32) hx hb d_MI_fillDirection_65 rfl ?_
  refine lv_iload_n hx hb d_MI_fillDirection_66 rfl (lv_at hl 6 rfl) ?_
  refine lv_imul hx hb d_MI_fillDirection_67 ?_
  refine tp_i (y := dirc cf 4 (1 : Int32) 2) (by rfl) ?_
  refine va_iast hx hb hK hP hD hS 2 0 rfl rfl (vp_in_iff.mpr (by decide)) d_MI_fillDirection_68 (fun H locs hP hD hS => ?_)
  have hP : va_P D kl [(mi, .inr (2, [.ref cu, .ref nx, .int (3 : Int32)])), (cu, .inl (cJ, 16, .inr (.inl cf))), (ga, .inl (cI, 4, .inl (upd (upd (upd (upd (upd (upd (upd g 0 (0 : Int32)) 1 (0 : Int32)) 2 (0 : Int32)) 3 (0 : Int32)) 0 (dirc cf 4 (1 : Int32) 0)) 1 (dirc cf 4 (1 : Int32) 1)) 2 (dirc cf 4 (1 : Int32) 2))))] H := hP
  have hD : va_D A [(mi, .inr (2, [.ref cu, .ref nx, .int (3 : Int32)])), (cu, .inl (cJ, 16, .inr (.inl cf))), (ga, .inl (cI, 4, .inl (upd (upd (upd (upd (upd (upd (upd g 0 (0 : Int32)) 1 (0 : Int32)) 2 (0 : Int32)) 3 (0 : Int32)) 0 (dirc cf 4 (1 : Int32) 0)) 1 (dirc cf 4 (1 : Int32) 1)) 2 (dirc cf 4 (1 : Int32) 2))))] := hD
  refine lv_iinc (lv' := [(6, .int (3 : Int32)), (7, .long ((cf 11) / (cdl cf (lev 3)))), (4, .long (cdl cf (lev 3))), (0, .ref mi), (1, .ref ga), (2, .int (4 : Int32)), (3, .int (1 : Int32))]) (k := 1) (v := (3 : Int32)) hx hb d_MI_fillDirection_69 hl rfl (by decide) (by decide) rfl (fun ls hl => ?_)
  refine lv_goto (tgt := 22) hx hb d_MI_fillDirection_72 (by decide) ?_
  refine lv_iload hx hb d_MI_fillDirection_22 (lv_at hl 0 rfl) ?_
  refine lv_iload_n hx hb d_MI_fillDirection_24 rfl (lv_at hl 5 rfl) ?_
  refine lv_icmp_ge (tgt := 75) hx hb d_MI_fillDirection_25 (by decide) (fun h99 => absurd h99 (by decide)) (fun _ => ?_)
  refine lv_aload_n hx hb d_MI_fillDirection_28 rfl (lv_at hl 3 rfl) ?_
  refine va_get (D := D) (ci := 2) (v := .ref cu) (C := cn_MI) (T := ft_MI) (N := 3) hx hb hf_MI (fun _ h => h) hown hK hP 0 rfl rfl 0 (by decide) (gw.at G hx0 mw_64 rfl _) (fun _ h9 => h9) rfl d_MI_fillDirection_29 ?_
  refine lv_iload_n hx hb d_MI_fillDirection_32 rfl (lv_at hl 5 rfl) ?_
  refine cx_call (D := D) (cl := kl) (ws := _) (wc := []) (wr := [(mi, .inr (2, [.ref cu, .ref nx, .int (3 : Int32)])), (cu, .inl (cJ, 16, .inr (.inl cf))), (ga, .inl (cI, 4, .inl (upd (upd (upd (upd (upd (upd (upd g 0 (0 : Int32)) 1 (0 : Int32)) 2 (0 : Int32)) 3 (0 : Int32)) 0 (dirc cf 4 (1 : Int32) 0)) 1 (dirc cf 4 (1 : Int32) 1)) 2 (dirc cf 4 (1 : Int32) 2))))]) (tx_runSN (As := [.int (4 : Int32)]) (rest := [.ref cu]) hx hb hml hown (c_D_maskOf E H.size 4 (by decide)) (cx_C (b0 := b0) G hx0 mw_365 mw_1 ny_D_maskOfAll (by decide)) (gw.at G hx0 mw_479 rfl _) (gw.at G hx0 mw_364 rfl _) (gw.at G hx0 mw_1 rfl _) ⟨cx_blind, (cx_pre (s := s) hx0 hP hD hS hA0 [] rfl rfl (by decide))⟩ rfl rfl hl.1 rfl (lv_room (Nat.le_of_ble_eq_true rfl)) d_MI_fillDirection_33 ⟨by decide, by decide⟩) hP hD hS hA [] [0, 1, 2] rfl rfl (by decide) (by decide) (fun v t w1 H locs ht hW9 hp hP hD hS => ?_) (fun x t w1 H locs ht hW9 hp hP hD hS => by obtain ⟨h9, -⟩ := hp; cases h9)
  obtain ⟨h9, rfl⟩ := hp
  cases h9
  refine W.eq (g2 := F0 m 36 ls [.int (nI (2 ^ 4 - 1)), .ref cu]) rfl ?_
  refine W.widen (k := 0) (n := 0) (by decide) (by decide) ?_
  have hP : va_P D kl [(mi, .inr (2, [.ref cu, .ref nx, .int (3 : Int32)])), (cu, .inl (cJ, 16, .inr (.inl cf))), (ga, .inl (cI, 4, .inl (upd (upd (upd (upd (upd (upd (upd g 0 (0 : Int32)) 1 (0 : Int32)) 2 (0 : Int32)) 3 (0 : Int32)) 0 (dirc cf 4 (1 : Int32) 0)) 1 (dirc cf 4 (1 : Int32) 1)) 2 (dirc cf 4 (1 : Int32) 2))))] H := hP
  have hD : va_D A [(mi, .inr (2, [.ref cu, .ref nx, .int (3 : Int32)])), (cu, .inl (cJ, 16, .inr (.inl cf))), (ga, .inl (cI, 4, .inl (upd (upd (upd (upd (upd (upd (upd g 0 (0 : Int32)) 1 (0 : Int32)) 2 (0 : Int32)) 3 (0 : Int32)) 0 (dirc cf 4 (1 : Int32) 0)) 1 (dirc cf 4 (1 : Int32) 1)) 2 (dirc cf 4 (1 : Int32) 2))))] := hD
  refine tp_i (y := (15 : Int32)) (by decide) ?_
  refine lv_iconst (v := (1 : Int32)) hx hb d_MI_fillDirection_36 (by decide) ?_
  refine lv_iload hx hb d_MI_fillDirection_37 (lv_at hl 0 rfl) ?_
  refine lv_ishl hx hb d_MI_fillDirection_39 ?_
  refine tp_i (y := (8 : Int32)) (by decide) ?_
  refine lv_ixor hx hb d_MI_fillDirection_40 ?_
  refine tp_i (y := (7 : Int32)) (by decide) ?_
  refine va_lald hx hb hK hP 1 1 rfl rfl (vp_in_iff.mpr (by decide)) d_MI_fillDirection_41 ?_
  refine tp_l (y := cf 7) (by rfl) ?_
  refine lv_lload hx hb d_MI_fillDirection_42 (lv_at hl 2 rfl) ?_
  refine lv_ldiv hx hb d_MI_fillDirection_44 hd ?_
  refine lv_lstore (lv' := [(7, .long ((cf 7) / (cdl cf (lev 3)))), (6, .int (3 : Int32)), (4, .long (cdl cf (lev 3))), (0, .ref mi), (1, .ref ga), (2, .int (4 : Int32)), (3, .int (1 : Int32))]) hx hb d_MI_fillDirection_45 hl (by decide) rfl (fun ls hl => ?_)
  refine lv_aload_n hx hb d_MI_fillDirection_47 rfl (lv_at hl 4 rfl) ?_
  refine lv_iload hx hb d_MI_fillDirection_48 (lv_at hl 1 rfl) ?_
  refine lv_iload hx hb d_MI_fillDirection_50 (lv_at hl 1 rfl) ?_
  refine lv_iconst (v := (2 : Int32)) hx hb d_MI_fillDirection_52 (by decide) ?_
  refine lv_irem hx hb d_MI_fillDirection_53 (by decide) ?_
  refine tp_i (y := (1 : Int32)) (by decide) ?_
  refine lv_if_ne (tgt := 62) hx hb d_MI_fillDirection_54 (by decide) (fun _ => ?_) (fun h99 => absurd h99 (by decide))
  refine lv_lload hx hb d_MI_fillDirection_62 (lv_at hl 0 rfl) ?_
  refine lv_lneg hx hb d_MI_fillDirection_64 ?_
  refine lv_l2i (v := (-((cf 7) / (cdl cf (lev 3)))).toInt32) hx hb d_MI_fillDirection_65 rfl ?_
  refine lv_iload_n hx hb d_MI_fillDirection_66 rfl (lv_at hl 6 rfl) ?_
  refine lv_imul hx hb d_MI_fillDirection_67 ?_
  refine tp_i (y := dirc cf 4 (1 : Int32) 3) (by rfl) ?_
  refine va_iast hx hb hK hP hD hS 2 0 rfl rfl (vp_in_iff.mpr (by decide)) d_MI_fillDirection_68 (fun H locs hP hD hS => ?_)
  have hP : va_P D kl [(mi, .inr (2, [.ref cu, .ref nx, .int (3 : Int32)])), (cu, .inl (cJ, 16, .inr (.inl cf))), (ga, .inl (cI, 4, .inl (upd (upd (upd (upd (upd (upd (upd (upd g 0 (0 : Int32)) 1 (0 : Int32)) 2 (0 : Int32)) 3 (0 : Int32)) 0 (dirc cf 4 (1 : Int32) 0)) 1 (dirc cf 4 (1 : Int32) 1)) 2 (dirc cf 4 (1 : Int32) 2)) 3 (dirc cf 4 (1 : Int32) 3))))] H := hP
  have hD : va_D A [(mi, .inr (2, [.ref cu, .ref nx, .int (3 : Int32)])), (cu, .inl (cJ, 16, .inr (.inl cf))), (ga, .inl (cI, 4, .inl (upd (upd (upd (upd (upd (upd (upd (upd g 0 (0 : Int32)) 1 (0 : Int32)) 2 (0 : Int32)) 3 (0 : Int32)) 0 (dirc cf 4 (1 : Int32) 0)) 1 (dirc cf 4 (1 : Int32) 1)) 2 (dirc cf 4 (1 : Int32) 2)) 3 (dirc cf 4 (1 : Int32) 3))))] := hD
  refine lv_iinc (lv' := [(6, .int (4 : Int32)), (7, .long ((cf 7) / (cdl cf (lev 3)))), (4, .long (cdl cf (lev 3))), (0, .ref mi), (1, .ref ga), (2, .int (4 : Int32)), (3, .int (1 : Int32))]) (k := 1) (v := (4 : Int32)) hx hb d_MI_fillDirection_69 hl rfl (by decide) (by decide) rfl (fun ls hl => ?_)
  refine lv_goto (tgt := 22) hx hb d_MI_fillDirection_72 (by decide) ?_
  refine lv_iload hx hb d_MI_fillDirection_22 (lv_at hl 0 rfl) ?_
  refine lv_iload_n hx hb d_MI_fillDirection_24 rfl (lv_at hl 5 rfl) ?_
  refine lv_icmp_ge (tgt := 75) hx hb d_MI_fillDirection_25 (by decide) (fun _ => ?_) (fun h99 => absurd h99 (by decide))
  exact tx_mono (fun _ h => tx_Z.of h) (W.vret hx hb hr (fun t ht hW => ⟨⟨[(mi, .inr (2, [.ref cu, .ref nx, .int (3 : Int32)])), (cu, .inl (cJ, 16, .inr (.inl cf))), (ga, .inl (cI, 4, .inl (upd (upd (upd (upd (upd (upd (upd (upd g 0 (0 : Int32)) 1 (0 : Int32)) 2 (0 : Int32)) 3 (0 : Int32)) 0 (dirc cf 4 (1 : Int32) 0)) 1 (dirc cf 4 (1 : Int32) 1)) 2 (dirc cf 4 (1 : Int32) 2)) 3 (dirc cf 4 (1 : Int32) 3))))], ⟨rfl, rfl⟩, by rw [ht]; exact hP.sub [0, 1, 2] rfl, hD.sub [0, 1, 2] (by decide) rfl⟩, hS.F ht⟩) hS.2.2 d_MI_fillDirection_75)

set_option maxHeartbeats 4000000 in
set_option maxRecDepth 100000 in
theorem c_MI_dir4_m {l : Launch} {s0 : State} {b0 : Addr} {D : va_G} {cI cJ cZ : ClassId} {tC tS : Nat} (E : gE l s0 b0 D cI cJ cZ tC tS) (sz : Nat) (mi : Nat) (cu : Nat) (nx : Nat) (cf : Nat → Int64) (ga : Nat) (g : Nat → Int32) (hd : ¬ cdl cf (lev 3) = 0) : cx_M l s0 D kl y_MI_fillDirection b_MI_fillDirection 9 none ({ frames := 2, cells := 0, slots := 0, locals := 72 } : Room) 0 0 [.ref mi, .ref ga, .int (4 : Int32), .int (-1 : Int32)] [(mi, .inr (2, [.ref cu, .ref nx, .int (3 : Int32)])), (cu, .inl (cJ, 16, .inr (.inl cf))), (ga, .inl (cI, 4, .inl g))] sz (fun o9 _ w9 => o9 = .returned none ∧ w9 = [(mi, .inr (2, [.ref cu, .ref nx, .int (3 : Int32)])), (cu, .inl (cJ, 16, .inr (.inl cf))), (ga, .inl (cI, 4, .inl (upd (upd (upd (upd (upd (upd (upd (upd g 0 (0 : Int32)) 1 (0 : Int32)) 2 (0 : Int32)) 3 (0 : Int32)) 0 (dirc cf 4 (-1 : Int32) 0)) 1 (dirc cf 4 (-1 : Int32) 1)) 2 (dirc cf 4 (-1 : Int32) 2)) 3 (dirc cf 4 (-1 : Int32) 3))))]) := by
  refine tx_ofW (cc := b_MI_fillDirection) (maxL := 9) (ret := none) (by decide) rfl ?_
  intro p e s m args below meth c s₁ B hml hT hv
  obtain ⟨rfl, hsz, hP, hD0, hx0⟩ := hv
  have hx := B.exec
  have hb := B.bytes
  have hr := B.returns
  have G := E.2.1
  have hown : s.vm.findClass cn_MI = some m.cls := findClass_of_methodNamed B.named
  have hlocks := B.notSynchronized
  have hK := va_K.moved hx0.1.alike E.2.2.1
  have hf_MI : ∀ w99 ∈ u_ws cn_MI ft_MI 3, w99.before ([.ref mi, .ref ga, .int (4 : Int32), .int (-1 : Int32)] : List Value).toArray s = true := fun w99 h99 => gw.at G hx0 (fw_MI w99 h99) (fo_MI w99 h99) _
  subst hsz
  have hA0 := cx_new hD0 hx0.2.1
  have hD := hD0.self (sz := s.heap.size)
  generalize hAe : va_A [(mi, .inr (2, [.ref cu, .ref nx, .int (3 : Int32)])), (cu, .inl (cJ, 16, .inr (.inl cf))), (ga, .inl (cI, 4, .inl g))] s.heap.size = A at hD hA0 ⊢
  have hA : ∀ q : Nat, s.heap.size ≤ q → A q := fun q h => by rw [← hAe]; exact Or.inr h
  have hS : va_S A s.heap s.heap [] := va_S.rf
  have hl := lv_entry ([.ref mi, .ref ga, .int (4 : Int32), .int (-1 : Int32)]) (n := 9) (Nat.le_of_ble_eq_true rfl)
  rw [lg_entry_eq]
  generalize (lg_sl ([.ref mi, .ref ga, .int (4 : Int32), .int (-1 : Int32)]) ++ List.replicate (9 - (lg_sl ([.ref mi, .ref ga, .int (4 : Int32), .int (-1 : Int32)])).length) Slot.unset).toArray = ls at hl ⊢
  have hl : lv_has ls 9 [(0, .ref mi), (1, .ref ga), (2, .int (4 : Int32)), (3, .int (-1 : Int32))] := hl
  have hP : va_P D kl [(mi, .inr (2, [.ref cu, .ref nx, .int (3 : Int32)])), (cu, .inl (cJ, 16, .inr (.inl cf))), (ga, .inl (cI, 4, .inl g))] s.heap := hP
  have hml : c.maxLocals = 9 := hml
  refine lv_aload_n hx hb d_MI_fillDirection_0 rfl (lv_at hl 0 rfl) ?_
  refine cx_call (D := D) (cl := kl) (ws := _) (wc := [(mi, .inr (2, [.ref cu, .ref nx, .int (3 : Int32)])), (cu, .inl (cJ, 16, .inr (.inl cf)))]) (wr := [(ga, .inl (cI, 4, .inl g))]) (tx_runV (C := cn_MI) (b := mi) (As := []) (rest := []) hx hb hml hown (c_MI_comdiv3 E s.heap.size mi cu nx cf ) (cx_C (b0 := b0) G hx0 mw_461 mw_4 ny_MI_commonDivisor (by decide)) (gw.at G hx0 mw_458 rfl _) (gw.at G hx0 mw_459 rfl _) (gw.at G hx0 mw_460 rfl _) ⟨cx_blind, va_recv hK hP (q0 := 0) (ci := 2) (q := (cn_MI, ft_MI, 3)) rfl rfl, (cx_pre (s := s) hx0 hP hD hS hA0 [0, 1] rfl rfl (by decide))⟩ rfl rfl hl.1 rfl (lv_room (Nat.le_of_ble_eq_true rfl)) d_MI_fillDirection_1 ⟨by decide, by decide⟩) hP hD hS hA [0, 1] [2] rfl rfl (by decide) (by decide) (fun v t w1 H locs ht hW9 hp hP hD hS => ?_) (fun x t w1 H locs ht hW9 hp hP hD hS => by obtain ⟨h9, -⟩ := hp; cases h9)
  obtain ⟨h9, rfl⟩ := hp
  cases h9
  refine W.eq (g2 := F0 m 4 ls [.long (cdl cf (lev 3))]) rfl ?_
  refine W.widen (k := 0) (n := 0) (by decide) (by decide) ?_
  have hP : va_P D kl [(ga, .inl (cI, 4, .inl g)), (mi, .inr (2, [.ref cu, .ref nx, .int (3 : Int32)])), (cu, .inl (cJ, 16, .inr (.inl cf)))] H := hP
  have hD : va_D A [(ga, .inl (cI, 4, .inl g)), (mi, .inr (2, [.ref cu, .ref nx, .int (3 : Int32)])), (cu, .inl (cJ, 16, .inr (.inl cf)))] := hD
  refine lv_lstore (lv' := [(4, .long (cdl cf (lev 3))), (0, .ref mi), (1, .ref ga), (2, .int (4 : Int32)), (3, .int (-1 : Int32))]) hx hb d_MI_fillDirection_4 hl (by decide) rfl (fun ls hl => ?_)
  refine lv_lload hx hb d_MI_fillDirection_6 (lv_at hl 0 rfl) ?_
  refine lv_lconst (v := (0 : Int64)) hx hb d_MI_fillDirection_8 (by decide) ?_
  refine W.lcmp hx hb d_MI_fillDirection_9 ?_
  refine lv_if_ne (tgt := 14) hx hb d_MI_fillDirection_10 (by decide) (fun _ => ?_) (fun h99 => absurd h99 (lg_ne.mpr hd))
  refine lv_aload_n hx hb d_MI_fillDirection_14 rfl (lv_at hl 2 rfl) ?_
  refine lv_iconst (v := (0 : Int32)) hx hb d_MI_fillDirection_15 (by decide) ?_
  refine cx_call (D := D) (cl := kl) (ws := _) (wc := [(ga, .inl (cI, 4, .inl g))]) (wr := [(mi, .inr (2, [.ref cu, .ref nx, .int (3 : Int32)])), (cu, .inl (cJ, 16, .inr (.inl cf)))]) (tx_runS (As := [.ref ga, .int (0 : Int32)]) (rest := []) hx hb hml hown (c_JA_fill4 E H.size ga g ) (cx_C (b0 := b0) G hx0 mw_478 mw_18 ny_JA_fill (by decide)) (gw.at G hx0 mw_476 rfl _) (gw.at G hx0 mw_477 rfl _) (gw.at G hx0 mw_18 rfl _) ⟨cx_blind, (cx_pre (s := s) hx0 hP hD hS hA0 [0] rfl rfl (by decide))⟩ rfl rfl hl.1 rfl (lv_room (Nat.le_of_ble_eq_true rfl)) d_MI_fillDirection_16 ⟨by decide, by decide⟩) hP hD hS hA [0] [1, 2] rfl rfl (by decide) (by decide) (fun v t w1 H locs ht hW9 hp hP hD hS => ?_) (fun x t w1 H locs ht hW9 hp hP hD hS => by obtain ⟨h9, -⟩ := hp; cases h9)
  obtain ⟨h9, rfl⟩ := hp
  cases h9
  refine W.eq (g2 := F0 m 19 ls []) rfl ?_
  refine W.widen (k := 0) (n := 0) (by decide) (by decide) ?_
  have hP : va_P D kl [(mi, .inr (2, [.ref cu, .ref nx, .int (3 : Int32)])), (cu, .inl (cJ, 16, .inr (.inl cf))), (ga, .inl (cI, 4, .inl (upd (upd (upd (upd g 0 (0 : Int32)) 1 (0 : Int32)) 2 (0 : Int32)) 3 (0 : Int32))))] H := hP
  have hD : va_D A [(mi, .inr (2, [.ref cu, .ref nx, .int (3 : Int32)])), (cu, .inl (cJ, 16, .inr (.inl cf))), (ga, .inl (cI, 4, .inl (upd (upd (upd (upd g 0 (0 : Int32)) 1 (0 : Int32)) 2 (0 : Int32)) 3 (0 : Int32))))] := hD
  refine lv_iconst (v := (0 : Int32)) hx hb d_MI_fillDirection_19 (by decide) ?_
  refine lv_istore (lv' := [(6, .int (0 : Int32)), (4, .long (cdl cf (lev 3))), (0, .ref mi), (1, .ref ga), (2, .int (4 : Int32)), (3, .int (-1 : Int32))]) hx hb d_MI_fillDirection_20 hl (by decide) rfl (fun ls hl => ?_)
  refine lv_iload hx hb d_MI_fillDirection_22 (lv_at hl 0 rfl) ?_
  refine lv_iload_n hx hb d_MI_fillDirection_24 rfl (lv_at hl 4 rfl) ?_
  refine lv_icmp_ge (tgt := 75) hx hb d_MI_fillDirection_25 (by decide) (fun h99 => absurd h99 (by decide)) (fun _ => ?_)
  refine lv_aload_n hx hb d_MI_fillDirection_28 rfl (lv_at hl 2 rfl) ?_
  refine va_get (D := D) (ci := 2) (v := .ref cu) (C := cn_MI) (T := ft_MI) (N := 3) hx hb hf_MI (fun _ h => h) hown hK hP 0 rfl rfl 0 (by decide) (gw.at G hx0 mw_64 rfl _) (fun _ h9 => h9) rfl d_MI_fillDirection_29 ?_
  refine lv_iload_n hx hb d_MI_fillDirection_32 rfl (lv_at hl 4 rfl) ?_
  refine cx_call (D := D) (cl := kl) (ws := _) (wc := []) (wr := [(mi, .inr (2, [.ref cu, .ref nx, .int (3 : Int32)])), (cu, .inl (cJ, 16, .inr (.inl cf))), (ga, .inl (cI, 4, .inl (upd (upd (upd (upd g 0 (0 : Int32)) 1 (0 : Int32)) 2 (0 : Int32)) 3 (0 : Int32))))]) (tx_runSN (As := [.int (4 : Int32)]) (rest := [.ref cu]) hx hb hml hown (c_D_maskOf E H.size 4 (by decide)) (cx_C (b0 := b0) G hx0 mw_365 mw_1 ny_D_maskOfAll (by decide)) (gw.at G hx0 mw_479 rfl _) (gw.at G hx0 mw_364 rfl _) (gw.at G hx0 mw_1 rfl _) ⟨cx_blind, (cx_pre (s := s) hx0 hP hD hS hA0 [] rfl rfl (by decide))⟩ rfl rfl hl.1 rfl (lv_room (Nat.le_of_ble_eq_true rfl)) d_MI_fillDirection_33 ⟨by decide, by decide⟩) hP hD hS hA [] [0, 1, 2] rfl rfl (by decide) (by decide) (fun v t w1 H locs ht hW9 hp hP hD hS => ?_) (fun x t w1 H locs ht hW9 hp hP hD hS => by obtain ⟨h9, -⟩ := hp; cases h9)
  obtain ⟨h9, rfl⟩ := hp
  cases h9
  refine W.eq (g2 := F0 m 36 ls [.int (nI (2 ^ 4 - 1)), .ref cu]) rfl ?_
  refine W.widen (k := 0) (n := 0) (by decide) (by decide) ?_
  have hP : va_P D kl [(mi, .inr (2, [.ref cu, .ref nx, .int (3 : Int32)])), (cu, .inl (cJ, 16, .inr (.inl cf))), (ga, .inl (cI, 4, .inl (upd (upd (upd (upd g 0 (0 : Int32)) 1 (0 : Int32)) 2 (0 : Int32)) 3 (0 : Int32))))] H := hP
  have hD : va_D A [(mi, .inr (2, [.ref cu, .ref nx, .int (3 : Int32)])), (cu, .inl (cJ, 16, .inr (.inl cf))), (ga, .inl (cI, 4, .inl (upd (upd (upd (upd g 0 (0 : Int32)) 1 (0 : Int32)) 2 (0 : Int32)) 3 (0 : Int32))))] := hD
  refine tp_i (y := (15 : Int32)) (by decide) ?_
  refine lv_iconst (v := (1 : Int32)) hx hb d_MI_fillDirection_36 (by decide) ?_
  refine lv_iload hx hb d_MI_fillDirection_37 (lv_at hl 0 rfl) ?_
  refine lv_ishl hx hb d_MI_fillDirection_39 ?_
  refine tp_i (y := (1 : Int32)) (by decide) ?_
  refine lv_ixor hx hb d_MI_fillDirection_40 ?_
  refine tp_i (y := (14 : Int32)) (by decide) ?_
  refine va_lald hx hb hK hP 1 1 rfl rfl (vp_in_iff.mpr (by decide)) d_MI_fillDirection_41 ?_
  refine tp_l (y := cf 14) (by rfl) ?_
  refine lv_lload hx hb d_MI_fillDirection_42 (lv_at hl 1 rfl) ?_
  refine lv_ldiv hx hb d_MI_fillDirection_44 hd ?_
  refine lv_lstore (lv' := [(7, .long ((cf 14) / (cdl cf (lev 3)))), (6, .int (0 : Int32)), (4, .long (cdl cf (lev 3))), (0, .ref mi), (1, .ref ga), (2, .int (4 : Int32)), (3, .int (-1 : Int32))]) hx hb d_MI_fillDirection_45 hl (by decide) rfl (fun ls hl => ?_)
  refine lv_aload_n hx hb d_MI_fillDirection_47 rfl (lv_at hl 4 rfl) ?_
  refine lv_iload hx hb d_MI_fillDirection_48 (lv_at hl 1 rfl) ?_
  refine lv_iload hx hb d_MI_fillDirection_50 (lv_at hl 1 rfl) ?_
  refine lv_iconst (v := (2 : Int32)) hx hb d_MI_fillDirection_52 (by decide) ?_
  refine lv_irem hx hb d_MI_fillDirection_53 (by decide) ?_
  refine tp_i (y := (0 : Int32)) (by decide) ?_
  refine lv_if_ne (tgt := 62) hx hb d_MI_fillDirection_54 (by decide) (fun h99 => absurd h99 (by decide)) (fun _ => ?_)
  refine lv_lload hx hb d_MI_fillDirection_57 (lv_at hl 0 rfl) ?_
  refine lv_goto (tgt := 65) hx hb d_MI_fillDirection_59 (by decide) ?_
  refine lv_l2i (v := ((cf 14) / (cdl cf (lev 3))).toInt32) hx hb d_MI_fillDirection_65 rfl ?_
  refine lv_iload_n hx hb d_MI_fillDirection_66 rfl (lv_at hl 6 rfl) ?_
  refine lv_imul hx hb d_MI_fillDirection_67 ?_
  refine tp_i (y := dirc cf 4 (-1 : Int32) 0) (by rfl) ?_
  refine va_iast hx hb hK hP hD hS 2 0 rfl rfl (vp_in_iff.mpr (by decide)) d_MI_fillDirection_68 (fun H locs hP hD hS => ?_)
  have hP : va_P D kl [(mi, .inr (2, [.ref cu, .ref nx, .int (3 : Int32)])), (cu, .inl (cJ, 16, .inr (.inl cf))), (ga, .inl (cI, 4, .inl (upd (upd (upd (upd (upd g 0 (0 : Int32)) 1 (0 : Int32)) 2 (0 : Int32)) 3 (0 : Int32)) 0 (dirc cf 4 (-1 : Int32) 0))))] H := hP
  have hD : va_D A [(mi, .inr (2, [.ref cu, .ref nx, .int (3 : Int32)])), (cu, .inl (cJ, 16, .inr (.inl cf))), (ga, .inl (cI, 4, .inl (upd (upd (upd (upd (upd g 0 (0 : Int32)) 1 (0 : Int32)) 2 (0 : Int32)) 3 (0 : Int32)) 0 (dirc cf 4 (-1 : Int32) 0))))] := hD
  refine lv_iinc (lv' := [(6, .int (1 : Int32)), (7, .long ((cf 14) / (cdl cf (lev 3)))), (4, .long (cdl cf (lev 3))), (0, .ref mi), (1, .ref ga), (2, .int (4 : Int32)), (3, .int (-1 : Int32))]) (k := 1) (v := (1 : Int32)) hx hb d_MI_fillDirection_69 hl rfl (by decide) (by decide) rfl (fun ls hl => ?_)
  refine lv_goto (tgt := 22) hx hb d_MI_fillDirection_72 (by decide) ?_
  refine lv_iload hx hb d_MI_fillDirection_22 (lv_at hl 0 rfl) ?_
  refine lv_iload_n hx hb d_MI_fillDirection_24 rfl (lv_at hl 5 rfl) ?_
  refine lv_icmp_ge (tgt := 75) hx hb d_MI_fillDirection_25 (by decide) (fun h99 => absurd h99 (by decide)) (fun _ => ?_)
  refine lv_aload_n hx hb d_MI_fillDirection_28 rfl (lv_at hl 3 rfl) ?_
  refine va_get (D := D) (ci := 2) (v := .ref cu) (C := cn_MI) (T := ft_MI) (N := 3) hx hb hf_MI (fun _ h => h) hown hK hP 0 rfl rfl 0 (by decide) (gw.at G hx0 mw_64 rfl _) (fun _ h9 => h9) rfl d_MI_fillDirection_29 ?_
  refine lv_iload_n hx hb d_MI_fillDirection_32 rfl (lv_at hl 5 rfl) ?_
  refine cx_call (D := D) (cl := kl) (ws := _) (wc := []) (wr := [(mi, .inr (2, [.ref cu, .ref nx, .int (3 : Int32)])), (cu, .inl (cJ, 16, .inr (.inl cf))), (ga, .inl (cI, 4, .inl (upd (upd (upd (upd (upd g 0 (0 : Int32)) 1 (0 : Int32)) 2 (0 : Int32)) 3 (0 : Int32)) 0 (dirc cf 4 (-1 : Int32) 0))))]) (tx_runSN (As := [.int (4 : Int32)]) (rest := [.ref cu]) hx hb hml hown (c_D_maskOf E H.size 4 (by decide)) (cx_C (b0 := b0) G hx0 mw_365 mw_1 ny_D_maskOfAll (by decide)) (gw.at G hx0 mw_479 rfl _) (gw.at G hx0 mw_364 rfl _) (gw.at G hx0 mw_1 rfl _) ⟨cx_blind, (cx_pre (s := s) hx0 hP hD hS hA0 [] rfl rfl (by decide))⟩ rfl rfl hl.1 rfl (lv_room (Nat.le_of_ble_eq_true rfl)) d_MI_fillDirection_33 ⟨by decide, by decide⟩) hP hD hS hA [] [0, 1, 2] rfl rfl (by decide) (by decide) (fun v t w1 H locs ht hW9 hp hP hD hS => ?_) (fun x t w1 H locs ht hW9 hp hP hD hS => by obtain ⟨h9, -⟩ := hp; cases h9)
  obtain ⟨h9, rfl⟩ := hp
  cases h9
  refine W.eq (g2 := F0 m 36 ls [.int (nI (2 ^ 4 - 1)), .ref cu]) rfl ?_
  refine W.widen (k := 0) (n := 0) (by decide) (by decide) ?_
  have hP : va_P D kl [(mi, .inr (2, [.ref cu, .ref nx, .int (3 : Int32)])), (cu, .inl (cJ, 16, .inr (.inl cf))), (ga, .inl (cI, 4, .inl (upd (upd (upd (upd (upd g 0 (0 : Int32)) 1 (0 : Int32)) 2 (0 : Int32)) 3 (0 : Int32)) 0 (dirc cf 4 (-1 : Int32) 0))))] H := hP
  have hD : va_D A [(mi, .inr (2, [.ref cu, .ref nx, .int (3 : Int32)])), (cu, .inl (cJ, 16, .inr (.inl cf))), (ga, .inl (cI, 4, .inl (upd (upd (upd (upd (upd g 0 (0 : Int32)) 1 (0 : Int32)) 2 (0 : Int32)) 3 (0 : Int32)) 0 (dirc cf 4 (-1 : Int32) 0))))] := hD
  refine tp_i (y := (15 : Int32)) (by decide) ?_
  refine lv_iconst (v := (1 : Int32)) hx hb d_MI_fillDirection_36 (by decide) ?_
  refine lv_iload hx hb d_MI_fillDirection_37 (lv_at hl 0 rfl) ?_
  refine lv_ishl hx hb d_MI_fillDirection_39 ?_
  refine tp_i (y := (2 : Int32)) (by decide) ?_
  refine lv_ixor hx hb d_MI_fillDirection_40 ?_
  refine tp_i (y := (13 : Int32)) (by decide) ?_
  refine va_lald hx hb hK hP 1 1 rfl rfl (vp_in_iff.mpr (by decide)) d_MI_fillDirection_41 ?_
  refine tp_l (y := cf 13) (by rfl) ?_
  refine lv_lload hx hb d_MI_fillDirection_42 (lv_at hl 2 rfl) ?_
  refine lv_ldiv hx hb d_MI_fillDirection_44 hd ?_
  refine lv_lstore (lv' := [(7, .long ((cf 13) / (cdl cf (lev 3)))), (6, .int (1 : Int32)), (4, .long (cdl cf (lev 3))), (0, .ref mi), (1, .ref ga), (2, .int (4 : Int32)), (3, .int (-1 : Int32))]) hx hb d_MI_fillDirection_45 hl (by decide) rfl (fun ls hl => ?_)
  refine lv_aload_n hx hb d_MI_fillDirection_47 rfl (lv_at hl 4 rfl) ?_
  refine lv_iload hx hb d_MI_fillDirection_48 (lv_at hl 1 rfl) ?_
  refine lv_iload hx hb d_MI_fillDirection_50 (lv_at hl 1 rfl) ?_
  refine lv_iconst (v := (2 : Int32)) hx hb d_MI_fillDirection_52 (by decide) ?_
  refine lv_irem hx hb d_MI_fillDirection_53 (by decide) ?_
  refine tp_i (y := (1 : Int32)) (by decide) ?_
  refine lv_if_ne (tgt := 62) hx hb d_MI_fillDirection_54 (by decide) (fun _ => ?_) (fun h99 => absurd h99 (by decide))
  refine lv_lload hx hb d_MI_fillDirection_62 (lv_at hl 0 rfl) ?_
  refine lv_lneg hx hb d_MI_fillDirection_64 ?_
  refine lv_l2i (v := (-((cf 13) / (cdl cf (lev 3)))).toInt32) hx hb d_MI_fillDirection_65 rfl ?_
  refine lv_iload_n hx hb d_MI_fillDirection_66 rfl (lv_at hl 6 rfl) ?_
  refine lv_imul hx hb d_MI_fillDirection_67 ?_
  refine tp_i (y := dirc cf 4 (-1 : Int32) 1) (by rfl) ?_
  refine va_iast hx hb hK hP hD hS 2 0 rfl rfl (vp_in_iff.mpr (by decide)) d_MI_fillDirection_68 (fun H locs hP hD hS => ?_)
  have hP : va_P D kl [(mi, .inr (2, [.ref cu, .ref nx, .int (3 : Int32)])), (cu, .inl (cJ, 16, .inr (.inl cf))), (ga, .inl (cI, 4, .inl (upd (upd (upd (upd (upd (upd g 0 (0 : Int32)) 1 (0 : Int32)) 2 (0 : Int32)) 3 (0 : Int32)) 0 (dirc cf 4 (-1 : Int32) 0)) 1 (dirc cf 4 (-1 : Int32) 1))))] H := hP
  have hD : va_D A [(mi, .inr (2, [.ref cu, .ref nx, .int (3 : Int32)])), (cu, .inl (cJ, 16, .inr (.inl cf))), (ga, .inl (cI, 4, .inl (upd (upd (upd (upd (upd (upd g 0 (0 : Int32)) 1 (0 : Int32)) 2 (0 : Int32)) 3 (0 : Int32)) 0 (dirc cf 4 (-1 : Int32) 0)) 1 (dirc cf 4 (-1 : Int32) 1))))] := hD
  refine lv_iinc (lv' := [(6, .int (2 : Int32)), (7, .long ((cf 13) / (cdl cf (lev 3)))), (4, .long (cdl cf (lev 3))), (0, .ref mi), (1, .ref ga), (2, .int (4 : Int32)), (3, .int (-1 : Int32))]) (k := 1) (v := (2 : Int32)) hx hb d_MI_fillDirection_69 hl rfl (by decide) (by decide) rfl (fun ls hl => ?_)
  refine lv_goto (tgt := 22) hx hb d_MI_fillDirection_72 (by decide) ?_
  refine lv_iload hx hb d_MI_fillDirection_22 (lv_at hl 0 rfl) ?_
  refine lv_iload_n hx hb d_MI_fillDirection_24 rfl (lv_at hl 5 rfl) ?_
  refine lv_icmp_ge (tgt := 75) hx hb d_MI_fillDirection_25 (by decide) (fun h99 => absurd h99 (by decide)) (fun _ => ?_)
  refine lv_aload_n hx hb d_MI_fillDirection_28 rfl (lv_at hl 3 rfl) ?_
  refine va_get (D := D) (ci := 2) (v := .ref cu) (C := cn_MI) (T := ft_MI) (N := 3) hx hb hf_MI (fun _ h => h) hown hK hP 0 rfl rfl 0 (by decide) (gw.at G hx0 mw_64 rfl _) (fun _ h9 => h9) rfl d_MI_fillDirection_29 ?_
  refine lv_iload_n hx hb d_MI_fillDirection_32 rfl (lv_at hl 5 rfl) ?_
  refine cx_call (D := D) (cl := kl) (ws := _) (wc := []) (wr := [(mi, .inr (2, [.ref cu, .ref nx, .int (3 : Int32)])), (cu, .inl (cJ, 16, .inr (.inl cf))), (ga, .inl (cI, 4, .inl (upd (upd (upd (upd (upd (upd g 0 (0 : Int32)) 1 (0 : Int32)) 2 (0 : Int32)) 3 (0 : Int32)) 0 (dirc cf 4 (-1 : Int32) 0)) 1 (dirc cf 4 (-1 : Int32) 1))))]) (tx_runSN (As := [.int (4 : Int32)]) (rest := [.ref cu]) hx hb hml hown (c_D_maskOf E H.size 4 (by decide)) (cx_C (b0 := b0) G hx0 mw_365 mw_1 ny_D_maskOfAll (by decide)) (gw.at G hx0 mw_479 rfl _) (gw.at G hx0 mw_364 rfl _) (gw.at G hx0 mw_1 rfl _) ⟨cx_blind, (cx_pre (s := s) hx0 hP hD hS hA0 [] rfl rfl (by decide))⟩ rfl rfl hl.1 rfl (lv_room (Nat.le_of_ble_eq_true rfl)) d_MI_fillDirection_33 ⟨by decide, by decide⟩) hP hD hS hA [] [0, 1, 2] rfl rfl (by decide) (by decide) (fun v t w1 H locs ht hW9 hp hP hD hS => ?_) (fun x t w1 H locs ht hW9 hp hP hD hS => by obtain ⟨h9, -⟩ := hp; cases h9)
  obtain ⟨h9, rfl⟩ := hp
  cases h9
  refine W.eq (g2 := F0 m 36 ls [.int (nI (2 ^ 4 - 1)), .ref cu]) rfl ?_
  refine W.widen (k := 0) (n := 0) (by decide) (by decide) ?_
  have hP : va_P D kl [(mi, .inr (2, [.ref cu, .ref nx, .int (3 : Int32)])), (cu, .inl (cJ, 16, .inr (.inl cf))), (ga, .inl (cI, 4, .inl (upd (upd (upd (upd (upd (upd g 0 (0 : Int32)) 1 (0 : Int32)) 2 (0 : Int32)) 3 (0 : Int32)) 0 (dirc cf 4 (-1 : Int32) 0)) 1 (dirc cf 4 (-1 : Int32) 1))))] H := hP
  have hD : va_D A [(mi, .inr (2, [.ref cu, .ref nx, .int (3 : Int32)])), (cu, .inl (cJ, 16, .inr (.inl cf))), (ga, .inl (cI, 4, .inl (upd (upd (upd (upd (upd (upd g 0 (0 : Int32)) 1 (0 : Int32)) 2 (0 : Int32)) 3 (0 : Int32)) 0 (dirc cf 4 (-1 : Int32) 0)) 1 (dirc cf 4 (-1 : Int32) 1))))] := hD
  refine tp_i (y := (15 : Int32)) (by decide) ?_
  refine lv_iconst (v := (1 : Int32)) hx hb d_MI_fillDirection_36 (by decide) ?_
  refine lv_iload hx hb d_MI_fillDirection_37 (lv_at hl 0 rfl) ?_
  refine lv_ishl hx hb d_MI_fillDirection_39 ?_
  refine tp_i (y := (4 : Int32)) (by decide) ?_
  refine lv_ixor hx hb d_MI_fillDirection_40 ?_
  refine tp_i (y := (11 : Int32)) (by decide) ?_
  refine va_lald hx hb hK hP 1 1 rfl rfl (vp_in_iff.mpr (by decide)) d_MI_fillDirection_41 ?_
  refine tp_l (y := cf 11) (by rfl) ?_
  refine lv_lload hx hb d_MI_fillDirection_42 (lv_at hl 2 rfl) ?_
  refine lv_ldiv hx hb d_MI_fillDirection_44 hd ?_
  refine lv_lstore (lv' := [(7, .long ((cf 11) / (cdl cf (lev 3)))), (6, .int (2 : Int32)), (4, .long (cdl cf (lev 3))), (0, .ref mi), (1, .ref ga), (2, .int (4 : Int32)), (3, .int (-1 : Int32))]) hx hb d_MI_fillDirection_45 hl (by decide) rfl (fun ls hl => ?_)
  refine lv_aload_n hx hb d_MI_fillDirection_47 rfl (lv_at hl 4 rfl) ?_
  refine lv_iload hx hb d_MI_fillDirection_48 (lv_at hl 1 rfl) ?_
  refine lv_iload hx hb d_MI_fillDirection_50 (lv_at hl 1 rfl) ?_
  refine lv_iconst (v := (2 : Int32)) hx hb d_MI_fillDirection_52 (by decide) ?_
  refine lv_irem hx hb d_MI_fillDirection_53 (by decide) ?_
  refine tp_i (y := (0 : Int32)) (by decide) ?_
  refine lv_if_ne (tgt := 62) hx hb d_MI_fillDirection_54 (by decide) (fun h99 => absurd h99 (by decide)) (fun _ => ?_)
  refine lv_lload hx hb d_MI_fillDirection_57 (lv_at hl 0 rfl) ?_
  refine lv_goto (tgt := 65) hx hb d_MI_fillDirection_59 (by decide) ?_
  refine lv_l2i (v := ((cf 11) / (cdl cf (lev 3))).toInt32) hx hb d_MI_fillDirection_65 rfl ?_
  refine lv_iload_n hx hb d_MI_fillDirection_66 rfl (lv_at hl 6 rfl) ?_
  refine lv_imul hx hb d_MI_fillDirection_67 ?_
  refine tp_i (y := dirc cf 4 (-1 : Int32) 2) (by rfl) ?_
  refine va_iast hx hb hK hP hD hS 2 0 rfl rfl (vp_in_iff.mpr (by decide)) d_MI_fillDirection_68 (fun H locs hP hD hS => ?_)
  have hP : va_P D kl [(mi, .inr (2, [.ref cu, .ref nx, .int (3 : Int32)])), (cu, .inl (cJ, 16, .inr (.inl cf))), (ga, .inl (cI, 4, .inl (upd (upd (upd (upd (upd (upd (upd g 0 (0 : Int32)) 1 (0 : Int32)) 2 (0 : Int32)) 3 (0 : Int32)) 0 (dirc cf 4 (-1 : Int32) 0)) 1 (dirc cf 4 (-1 : Int32) 1)) 2 (dirc cf 4 (-1 : Int32) 2))))] H := hP
  have hD : va_D A [(mi, .inr (2, [.ref cu, .ref nx, .int (3 : Int32)])), (cu, .inl (cJ, 16, .inr (.inl cf))), (ga, .inl (cI, 4, .inl (upd (upd (upd (upd (upd (upd (upd g 0 (0 : Int32)) 1 (0 : Int32)) 2 (0 : Int32)) 3 (0 : Int32)) 0 (dirc cf 4 (-1 : Int32) 0)) 1 (dirc cf 4 (-1 : Int32) 1)) 2 (dirc cf 4 (-1 : Int32) 2))))] := hD
  refine lv_iinc (lv' := [(6, .int (3 : Int32)), (7, .long ((cf 11) / (cdl cf (lev 3)))), (4, .long (cdl cf (lev 3))), (0, .ref mi), (1, .ref ga), (2, .int (4 : Int32)), (3, .int (-1 : Int32))]) (k := 1) (v := (3 : Int32)) hx hb d_MI_fillDirection_69 hl rfl (by decide) (by decide) rfl (fun ls hl => ?_)
  refine lv_goto (tgt := 22) hx hb d_MI_fillDirection_72 (by decide) ?_
  refine lv_iload hx hb d_MI_fillDirection_22 (lv_at hl 0 rfl) ?_
  refine lv_iload_n hx hb d_MI_fillDirection_24 rfl (lv_at hl 5 rfl) ?_
  refine lv_icmp_ge (tgt := 75) hx hb d_MI_fillDirection_25 (by decide) (fun h99 => absurd h99 (by decide)) (fun _ => ?_)
  refine lv_aload_n hx hb d_MI_fillDirection_28 rfl (lv_at hl 3 rfl) ?_
  refine va_get (D := D) (ci := 2) (v := .ref cu) (C := cn_MI) (T := ft_MI) (N := 3) hx hb hf_MI (fun _ h => h) hown hK hP 0 rfl rfl 0 (by decide) (gw.at G hx0 mw_64 rfl _) (fun _ h9 => h9) rfl d_MI_fillDirection_29 ?_
  refine lv_iload_n hx hb d_MI_fillDirection_32 rfl (lv_at hl 5 rfl) ?_
  refine cx_call (D := D) (cl := kl) (ws := _) (wc := []) (wr := [(mi, .inr (2, [.ref cu, .ref nx, .int (3 : Int32)])), (cu, .inl (cJ, 16, .inr (.inl cf))), (ga, .inl (cI, 4, .inl (upd (upd (upd (upd (upd (upd (upd g 0 (0 : Int32)) 1 (0 : Int32)) 2 (0 : Int32)) 3 (0 : Int32)) 0 (dirc cf 4 (-1 : Int32) 0)) 1 (dirc cf 4 (-1 : Int32) 1)) 2 (dirc cf 4 (-1 : Int32) 2))))]) (tx_runSN (As := [.int (4 : Int32)]) (rest := [.ref cu]) hx hb hml hown (c_D_maskOf E H.size 4 (by decide)) (cx_C (b0 := b0) G hx0 mw_365 mw_1 ny_D_maskOfAll (by decide)) (gw.at G hx0 mw_479 rfl _) (gw.at G hx0 mw_364 rfl _) (gw.at G hx0 mw_1 rfl _) ⟨cx_blind, (cx_pre (s := s) hx0 hP hD hS hA0 [] rfl rfl (by decide))⟩ rfl rfl hl.1 rfl (lv_room (Nat.le_of_ble_eq_true rfl)) d_MI_fillDirection_33 ⟨by decide, by decide⟩) hP hD hS hA [] [0, 1, 2] rfl rfl (by decide) (by decide) (fun v t w1 H locs ht hW9 hp hP hD hS => ?_) (fun x t w1 H locs ht hW9 hp hP hD hS => by obtain ⟨h9, -⟩ := hp; cases h9)
  obtain ⟨h9, rfl⟩ := hp
  cases h9
  refine W.eq (g2 := F0 m 36 ls [.int (nI (2 ^ 4 - 1)), .ref cu]) rfl ?_
  refine W.widen (k := 0) (n := 0) (by decide) (by decide) ?_
  have hP : va_P D kl [(mi, .inr (2, [.ref cu, .ref nx, .int (3 : Int32)])), (cu, .inl (cJ, 16, .inr (.inl cf))), (ga, .inl (cI, 4, .inl (upd (upd (upd (upd (upd (upd (upd g 0 (0 : Int32)) 1 (0 : Int32)) 2 (0 : Int32)) 3 (0 : Int32)) 0 (dirc cf 4 (-1 : Int32) 0)) 1 (dirc cf 4 (-1 : Int32) 1)) 2 (dirc cf 4 (-1 : Int32) 2))))] H := hP
  have hD : va_D A [(mi, .inr (2, [.ref cu, .ref nx, .int (3 : Int32)])), (cu, .inl (cJ, 16, .inr (.inl cf))), (ga, .inl (cI, 4, .inl (upd (upd (upd (upd (upd (upd (upd g 0 (0 : Int32)) 1 (0 : Int32)) 2 (0 : Int32)) 3 (0 : Int32)) 0 (dirc cf 4 (-1 : Int32) 0)) 1 (dirc cf 4 (-1 : Int32) 1)) 2 (dirc cf 4 (-1 : Int32) 2))))] := hD
  refine tp_i (y := (15 : Int32)) (by decide) ?_
  refine lv_iconst (v := (1 : Int32)) hx hb d_MI_fillDirection_36 (by decide) ?_
  refine lv_iload hx hb d_MI_fillDirection_37 (lv_at hl 0 rfl) ?_
  refine lv_ishl hx hb d_MI_fillDirection_39 ?_
  refine tp_i (y := (8 : Int32)) (by decide) ?_
  refine lv_ixor hx hb d_MI_fillDirection_40 ?_
  refine tp_i (y := (7 : Int32)) (by decide) ?_
  refine va_lald hx hb hK hP 1 1 rfl rfl (vp_in_iff.mpr (by decide)) d_MI_fillDirection_41 ?_
  refine tp_l (y := cf 7) (by rfl) ?_
  refine lv_lload hx hb d_MI_fillDirection_42 (lv_at hl 2 rfl) ?_
  refine lv_ldiv hx hb d_MI_fillDirection_44 hd ?_
  refine lv_lstore (lv' := [(7, .long ((cf 7) / (cdl cf (lev 3)))), (6, .int (3 : Int32)), (4, .long (cdl cf (lev 3))), (0, .ref mi), (1, .ref ga), (2, .int (4 : Int32)), (3, .int (-1 : Int32))]) hx hb d_MI_fillDirection_45 hl (by decide) rfl (fun ls hl => ?_)
  refine lv_aload_n hx hb d_MI_fillDirection_47 rfl (lv_at hl 4 rfl) ?_
  refine lv_iload hx hb d_MI_fillDirection_48 (lv_at hl 1 rfl) ?_
  refine lv_iload hx hb d_MI_fillDirection_50 (lv_at hl 1 rfl) ?_
  refine lv_iconst (v := (2 : Int32)) hx hb d_MI_fillDirection_52 (by decide) ?_
  refine lv_irem hx hb d_MI_fillDirection_53 (by decide) ?_
  refine tp_i (y := (1 : Int32)) (by decide) ?_
  refine lv_if_ne (tgt := 62) hx hb d_MI_fillDirection_54 (by decide) (fun _ => ?_) (fun h99 => absurd h99 (by decide))
  refine lv_lload hx hb d_MI_fillDirection_62 (lv_at hl 0 rfl) ?_
  refine lv_lneg hx hb d_MI_fillDirection_64 ?_
  refine lv_l2i (v := (-((cf 7) / (cdl cf (lev 3)))).toInt32) hx hb d_MI_fillDirection_65 rfl ?_
  refine lv_iload_n hx hb d_MI_fillDirection_66 rfl (lv_at hl 6 rfl) ?_
  refine lv_imul hx hb d_MI_fillDirection_67 ?_
  refine tp_i (y := dirc cf 4 (-1 : Int32) 3) (by rfl) ?_
  refine va_iast hx hb hK hP hD hS 2 0 rfl rfl (vp_in_iff.mpr (by decide)) d_MI_fillDirection_68 (fun H locs hP hD hS => ?_)
  have hP : va_P D kl [(mi, .inr (2, [.ref cu, .ref nx, .int (3 : Int32)])), (cu, .inl (cJ, 16, .inr (.inl cf))), (ga, .inl (cI, 4, .inl (upd (upd (upd (upd (upd (upd (upd (upd g 0 (0 : Int32)) 1 (0 : Int32)) 2 (0 : Int32)) 3 (0 : Int32)) 0 (dirc cf 4 (-1 : Int32) 0)) 1 (dirc cf 4 (-1 : Int32) 1)) 2 (dirc cf 4 (-1 : Int32) 2)) 3 (dirc cf 4 (-1 : Int32) 3))))] H := hP
  have hD : va_D A [(mi, .inr (2, [.ref cu, .ref nx, .int (3 : Int32)])), (cu, .inl (cJ, 16, .inr (.inl cf))), (ga, .inl (cI, 4, .inl (upd (upd (upd (upd (upd (upd (upd (upd g 0 (0 : Int32)) 1 (0 : Int32)) 2 (0 : Int32)) 3 (0 : Int32)) 0 (dirc cf 4 (-1 : Int32) 0)) 1 (dirc cf 4 (-1 : Int32) 1)) 2 (dirc cf 4 (-1 : Int32) 2)) 3 (dirc cf 4 (-1 : Int32) 3))))] := hD
  refine lv_iinc (lv' := [(6, .int (4 : Int32)), (7, .long ((cf 7) / (cdl cf (lev 3)))), (4, .long (cdl cf (lev 3))), (0, .ref mi), (1, .ref ga), (2, .int (4 : Int32)), (3, .int (-1 : Int32))]) (k := 1) (v := (4 : Int32)) hx hb d_MI_fillDirection_69 hl rfl (by decide) (by decide) rfl (fun ls hl => ?_)
  refine lv_goto (tgt := 22) hx hb d_MI_fillDirection_72 (by decide) ?_
  refine lv_iload hx hb d_MI_fillDirection_22 (lv_at hl 0 rfl) ?_
  refine lv_iload_n hx hb d_MI_fillDirection_24 rfl (lv_at hl 5 rfl) ?_
  refine lv_icmp_ge (tgt := 75) hx hb d_MI_fillDirection_25 (by decide) (fun _ => ?_) (fun h99 => absurd h99 (by decide))
  exact tx_mono (fun _ h => tx_Z.of h) (W.vret hx hb hr (fun t ht hW => ⟨⟨[(mi, .inr (2, [.ref cu, .ref nx, .int (3 : Int32)])), (cu, .inl (cJ, 16, .inr (.inl cf))), (ga, .inl (cI, 4, .inl (upd (upd (upd (upd (upd (upd (upd (upd g 0 (0 : Int32)) 1 (0 : Int32)) 2 (0 : Int32)) 3 (0 : Int32)) 0 (dirc cf 4 (-1 : Int32) 0)) 1 (dirc cf 4 (-1 : Int32) 1)) 2 (dirc cf 4 (-1 : Int32) 2)) 3 (dirc cf 4 (-1 : Int32) 3))))], ⟨rfl, rfl⟩, by rw [ht]; exact hP.sub [0, 1, 2] rfl, hD.sub [0, 1, 2] (by decide) rfl⟩, hS.F ht⟩) hS.2.2 d_MI_fillDirection_75)

