/-! ===== own rows, laid by wip/tools/sym.py: Minors.join with 2 joined ===== -/
set_option maxHeartbeats 4000000 in
set_option maxRecDepth 100000 in
theorem c_MI_join2_y {l : Launch} {s0 : State} {b0 : Addr} {D : va_G} {cI cJ cZ : ClassId} {tC tS : Nat} (E : gE l s0 b0 D cI cJ cZ tC tS) (sz : Nat) (mi : Nat) (cu : Nat) (nx : Nat) (cf : Nat → Int64) (nf : Nat → Int64) (pl : Nat) (pa : Nat) (ct : Nat) (mo : Nat) (pz : Nat) (pf : Nat → Int32) (w : Nat) (hpz : pz = mo * 4) (hmo : mo ≤ 107) (hct : ct ≤ mo) (hw : w < mo) (h : indep 2 cf (rowAt pf w)) : cx_M l s0 D kl y_MI_join b_MI_join 11 none ({ frames := 0, cells := 0, slots := 0, locals := 0 } : Room) 0 0 [.ref mi, .ref pl, .int (nI w)] [(mi, .inr (2, [.ref cu, .ref nx, .int (2 : Int32)])), (cu, .inl (cJ, 16, .inr (.inl cf))), (nx, .inl (cJ, 16, .inr (.inl nf))), (pl, .inr (1, [.ref pa, .int (nI ct), .int (nI mo)])), (pa, .inl (cI, pz, .inl pf))] sz (fun o9 _ w9 => o9 = .returned none ∧ w9 = [(mi, .inr (2, [.ref nx, .ref cu, .int (3 : Int32)])), (cu, .inl (cJ, 16, .inr (.inl cf))), (nx, .inl (cJ, 16, .inr (.inl (mfill cf nf (rowAt pf w) (lev (2 + 1)))))), (pl, .inr (1, [.ref pa, .int (nI ct), .int (nI mo)])), (pa, .inl (cI, pz, .inl pf))]) := by
  refine tx_ofW (cc := b_MI_join) (maxL := 11) (ret := none) (by decide) rfl ?_
  intro p e s m args below meth c s₁ B hml hT hv
  obtain ⟨rfl, hsz, hP, hD0, hx0⟩ := hv
  have hx := B.exec
  have hb := B.bytes
  have hr := B.returns
  have G := E.2.1
  have hown : s.vm.findClass cn_MI = some m.cls := findClass_of_methodNamed B.named
  have hlocks := B.notSynchronized
  have hK := va_K.moved hx0.1.alike E.2.2.1
  have hf_MI : ∀ w99 ∈ u_ws cn_MI ft_MI 3, w99.before ([.ref mi, .ref pl, .int (nI w)] : List Value).toArray s = true := fun w99 h99 => gw.at G hx0 (fw_MI w99 h99) (fo_MI w99 h99) _
  have hf_PL : ∀ w99 ∈ u_ws cn_PL ft_PL 3, w99.before ([.ref mi, .ref pl, .int (nI w)] : List Value).toArray s = true := fun w99 h99 => gw.at G hx0 (fw_PL w99 h99) (fo_PL w99 h99) _
  subst hsz
  have hA0 := cx_new hD0 hx0.2.1
  have hD := hD0.self (sz := s.heap.size)
  generalize hAe : va_A [(mi, .inr (2, [.ref cu, .ref nx, .int (2 : Int32)])), (cu, .inl (cJ, 16, .inr (.inl cf))), (nx, .inl (cJ, 16, .inr (.inl nf))), (pl, .inr (1, [.ref pa, .int (nI ct), .int (nI mo)])), (pa, .inl (cI, pz, .inl pf))] s.heap.size = A at hD hA0 ⊢
  have hA : ∀ q : Nat, s.heap.size ≤ q → A q := fun q h => by rw [← hAe]; exact Or.inr h
  have hS : va_S A s.heap s.heap [] := va_S.rf
  obtain ⟨hZC, hTC, hZS, hTS⟩ := gz.at E.2.2.2.1 hx0 hA0
  have hl := lv_entry ([.ref mi, .ref pl, .int (nI w)]) (n := 11) (Nat.le_of_ble_eq_true rfl)
  rw [lg_entry_eq]
  generalize (lg_sl ([.ref mi, .ref pl, .int (nI w)]) ++ List.replicate (11 - (lg_sl ([.ref mi, .ref pl, .int (nI w)])).length) Slot.unset).toArray = ls at hl ⊢
  have hl : lv_has ls 11 [(0, .ref mi), (1, .ref pl), (2, .int (nI w))] := hl
  have hP : va_P D kl [(mi, .inr (2, [.ref cu, .ref nx, .int (2 : Int32)])), (cu, .inl (cJ, 16, .inr (.inl cf))), (nx, .inl (cJ, 16, .inr (.inl nf))), (pl, .inr (1, [.ref pa, .int (nI ct), .int (nI mo)])), (pa, .inl (cI, pz, .inl pf))] s.heap := hP
  have hml : c.maxLocals = 11 := hml
  generalize hQe : tx_Z below (cx_Q D kl A (fun o9 _ w9 => o9 = .returned none ∧ w9 = [(mi, .inr (2, [.ref nx, .ref cu, .int (3 : Int32)])), (cu, .inl (cJ, 16, .inr (.inl cf))), (nx, .inl (cJ, 16, .inr (.inl (mfill cf nf (rowAt pf w) (lev (2 + 1)))))), (pl, .inr (1, [.ref pa, .int (nI ct), .int (nI mo)])), (pa, .inl (cI, pz, .inl pf))])) ([.ref mi, .ref pl, .int (nI w)] : List Value).toArray s 0 0 A = Q
  refine lv_iconst (v := (0 : Int32)) hx hb d_MI_join_0 (by decide) ?_
  refine lv_istore_n (lv' := [(3, .int (0 : Int32)), (0, .ref mi), (1, .ref pl), (2, .int (nI w))]) hx hb d_MI_join_1 rfl hl (by decide) rfl (fun ls hl => ?_)
  refine va_getsN hx hb hZS hS hown (gw.at G hx0 mw_377 rfl _) (fun _ h9 => h9) d_MI_join_2 ?_
  refine lv_aload_n hx hb d_MI_join_5 rfl (lv_at hl 1 rfl) ?_
  refine va_get (D := D) (ci := 2) (v := .int (2 : Int32)) (C := cn_MI) (T := ft_MI) (N := 3) hx hb hf_MI (fun _ h => h) hown hK hP 0 rfl rfl 2 (by decide) (gw.at G hx0 mw_66 rfl _) (fun _ h9 => h9) rfl d_MI_join_6 ?_
  refine lv_iconst (v := (2 : Int32)) hx hb d_MI_join_9 (by decide) ?_
  refine lv_iadd hx hb d_MI_join_10 ?_
  refine tp_i (y := (4 : Int32)) (by decide) ?_
  refine va_ti hx hb hTS hS (vp_in_iff.mpr (by decide)) (v := .int (15 : Int32)) (by decide) d_MI_join_11 ?_
  refine lv_istore (lv' := [(4, .int (15 : Int32)), (3, .int (0 : Int32)), (0, .ref mi), (1, .ref pl), (2, .int (nI w))]) hx hb d_MI_join_12 hl (by decide) rfl (fun ls hl => ?_)
  refine va_getsN hx hb hZS hS hown (gw.at G hx0 mw_377 rfl _) (fun _ h9 => h9) d_MI_join_14 ?_
  refine lv_aload_n hx hb d_MI_join_17 rfl (lv_at hl 2 rfl) ?_
  refine va_get (D := D) (ci := 2) (v := .int (2 : Int32)) (C := cn_MI) (T := ft_MI) (N := 3) hx hb hf_MI (fun _ h => h) hown hK hP 0 rfl rfl 2 (by decide) (gw.at G hx0 mw_66 rfl _) (fun _ h9 => h9) rfl d_MI_join_18 ?_
  refine lv_iconst (v := (1 : Int32)) hx hb d_MI_join_21 (by decide) ?_
  refine lv_iadd hx hb d_MI_join_22 ?_
  refine tp_i (y := (3 : Int32)) (by decide) ?_
  refine va_ti hx hb hTS hS (vp_in_iff.mpr (by decide)) (v := .int (11 : Int32)) (by decide) d_MI_join_23 ?_
  refine lv_istore (lv' := [(5, .int (11 : Int32)), (4, .int (15 : Int32)), (3, .int (0 : Int32)), (0, .ref mi), (1, .ref pl), (2, .int (nI w))]) hx hb d_MI_join_24 hl (by decide) rfl (fun ls hl => ?_)
  refine lv_iload hx hb d_MI_join_26 (lv_at hl 0 rfl) ?_
  refine lv_iload hx hb d_MI_join_28 (lv_at hl 1 rfl) ?_
  refine lv_icmp_ge (tgt := 142) hx hb d_MI_join_30 (by decide) (fun h99 => absurd h99 (by decide)) (fun _ => ?_)
  refine va_getsN hx hb hZC hS hown (gw.at G hx0 mw_62 rfl _) (fun _ h9 => h9) d_MI_join_33 ?_
  refine lv_iload hx hb d_MI_join_36 (lv_at hl 0 rfl) ?_
  refine va_ti hx hb hTC hS (vp_in_iff.mpr (by decide)) (v := .int (7 : Int32)) (by decide) d_MI_join_38 ?_
  refine lv_istore (lv' := [(6, .int (7 : Int32)), (5, .int (11 : Int32)), (4, .int (15 : Int32)), (3, .int (0 : Int32)), (0, .ref mi), (1, .ref pl), (2, .int (nI w))]) hx hb d_MI_join_39 hl (by decide) rfl (fun ls hl => ?_)
  refine lv_lconst (v := (0 : Int64)) hx hb d_MI_join_41 (by decide) ?_
  refine lv_lstore (lv' := [(7, .long (0 : Int64)), (6, .int (7 : Int32)), (5, .int (11 : Int32)), (4, .int (15 : Int32)), (3, .int (0 : Int32)), (0, .ref mi), (1, .ref pl), (2, .int (nI w))]) hx hb d_MI_join_42 hl (by decide) rfl (fun ls hl => ?_)
  refine lv_iconst (v := (1 : Int32)) hx hb d_MI_join_44 (by decide) ?_
  refine lv_istore (lv' := [(9, .int (1 : Int32)), (7, .long (0 : Int64)), (6, .int (7 : Int32)), (5, .int (11 : Int32)), (4, .int (15 : Int32)), (3, .int (0 : Int32)), (0, .ref mi), (1, .ref pl), (2, .int (nI w))]) hx hb d_MI_join_45 hl (by decide) rfl (fun ls hl => ?_)
  refine lv_iconst (v := (3 : Int32)) hx hb d_MI_join_47 (by decide) ?_
  refine lv_istore (lv' := [(10, .int (3 : Int32)), (9, .int (1 : Int32)), (7, .long (0 : Int64)), (6, .int (7 : Int32)), (5, .int (11 : Int32)), (4, .int (15 : Int32)), (3, .int (0 : Int32)), (0, .ref mi), (1, .ref pl), (2, .int (nI w))]) hx hb d_MI_join_48 hl (by decide) rfl (fun ls hl => ?_)
  refine lv_iload hx hb d_MI_join_50 (lv_at hl 0 rfl) ?_
  refine lv_if_lt (tgt := 110) hx hb d_MI_join_52 (by decide) (fun h99 => absurd h99 (by decide)) (fun _ => ?_)
  refine lv_iload hx hb d_MI_join_55 (lv_at hl 3 rfl) ?_
  refine lv_iload hx hb d_MI_join_57 (lv_at hl 0 rfl) ?_
  refine lv_ishr hx hb d_MI_join_59 ?_
  refine tp_i (y := (0 : Int32)) (by decide) ?_
  refine lv_iconst (v := (1 : Int32)) hx hb d_MI_join_60 (by decide) ?_
  refine lv_iand hx hb d_MI_join_61 ?_
  refine tp_i (y := (0 : Int32)) (by decide) ?_
  refine lv_if_eq (tgt := 104) hx hb d_MI_join_62 (by decide) (fun _ => ?_) (fun h99 => absurd h99 (by decide))
  refine lv_iinc (lv' := [(10, .int (2 : Int32)), (9, .int (1 : Int32)), (7, .long (0 : Int64)), (6, .int (7 : Int32)), (5, .int (11 : Int32)), (4, .int (15 : Int32)), (3, .int (0 : Int32)), (0, .ref mi), (1, .ref pl), (2, .int (nI w))]) (k := 0) (v := (2 : Int32)) hx hb d_MI_join_104 hl rfl (by decide) (by decide) rfl (fun ls hl => ?_)
  refine lv_goto (tgt := 50) hx hb d_MI_join_107 (by decide) ?_
  refine lv_iload hx hb d_MI_join_50 (lv_at hl 0 rfl) ?_
  refine lv_if_lt (tgt := 110) hx hb d_MI_join_52 (by decide) (fun h99 => absurd h99 (by decide)) (fun _ => ?_)
  refine lv_iload hx hb d_MI_join_55 (lv_at hl 3 rfl) ?_
  refine lv_iload hx hb d_MI_join_57 (lv_at hl 0 rfl) ?_
  refine lv_ishr hx hb d_MI_join_59 ?_
  refine tp_i (y := (1 : Int32)) (by decide) ?_
  refine lv_iconst (v := (1 : Int32)) hx hb d_MI_join_60 (by decide) ?_
  refine lv_iand hx hb d_MI_join_61 ?_
  refine tp_i (y := (1 : Int32)) (by decide) ?_
  refine lv_if_eq (tgt := 104) hx hb d_MI_join_62 (by decide) (fun h99 => absurd h99 (by decide)) (fun _ => ?_)
  refine lv_lload hx hb d_MI_join_65 (lv_at hl 2 rfl) ?_
  refine lv_iload hx hb d_MI_join_67 (lv_at hl 1 rfl) ?_
  refine lv_i2l (v := (1 : Int64)) hx hb d_MI_join_69 (by decide) ?_
  refine lv_aload_n hx hb d_MI_join_70 rfl (lv_at hl 7 rfl) ?_
  refine va_get (D := D) (ci := 2) (v := .ref cu) (C := cn_MI) (T := ft_MI) (N := 3) hx hb hf_MI (fun _ h => h) hown hK hP 0 rfl rfl 0 (by decide) (gw.at G hx0 mw_64 rfl _) (fun _ h9 => h9) rfl d_MI_join_71 ?_
  refine lv_iload hx hb d_MI_join_74 (lv_at hl 3 rfl) ?_
  refine lv_iconst (v := (1 : Int32)) hx hb d_MI_join_76 (by decide) ?_
  refine lv_iload hx hb d_MI_join_77 (lv_at hl 0 rfl) ?_
  refine lv_ishl hx hb d_MI_join_79 ?_
  refine tp_i (y := (4 : Int32)) (by decide) ?_
  refine lv_ixor hx hb d_MI_join_80 ?_
  refine tp_i (y := (3 : Int32)) (by decide) ?_
  refine va_lald hx hb hK hP 1 1 rfl rfl (vp_in_iff.mpr (by decide)) d_MI_join_81 ?_
  refine tp_l (y := cf 3) (by rfl) ?_
  refine lv_lmul hx hb d_MI_join_82 ?_
  refine lv_aload_n hx hb d_MI_join_83 rfl (lv_at hl 8 rfl) ?_
  refine va_get (D := D) (ci := 1) (v := .ref pa) (C := cn_PL) (T := ft_PL) (N := 3) hx hb hf_PL (fun _ h => h) hown hK hP 3 rfl rfl 0 (by decide) (gw.at G hx0 mw_40 rfl _) (fun _ h9 => h9) rfl d_MI_join_84 ?_
  refine lv_iload_n hx hb d_MI_join_87 rfl (lv_at hl 9 rfl) ?_
  refine lv_iconst (v := (4 : Int32)) hx hb d_MI_join_88 (by decide) ?_
  refine lv_imul hx hb d_MI_join_89 ?_
  refine tp_i (y := nI (w * 4)) (nI_mul w 4) ?_
  refine lv_iload hx hb d_MI_join_90 (lv_at hl 0 rfl) ?_
  refine lv_iadd hx hb d_MI_join_92 ?_
  refine tp_i (y := nI ((w * 4) + 2)) (nI_add (w * 4) 2) ?_
  refine va_iald hx hb hK hP 4 0 rfl rfl (vp_in_nI (n := (w * 4) + 2) (by omega) (by omega)) d_MI_join_93 ?_
  refine tp_i (y := pf ((w * 4) + 2)) (congrArg pf (nI_clamp (n := (w * 4) + 2) (by omega))) ?_
  refine lv_i2l (v := (pf ((w * 4) + 2)).toInt64) hx hb d_MI_join_94 rfl ?_
  refine lv_lmul hx hb d_MI_join_95 ?_
  refine lv_ladd hx hb d_MI_join_96 ?_
  refine lv_lstore (lv' := [(7, .long ((0 : Int64) + (((1 : Int64) * (cf 3)) * ((pf ((w * 4) + 2)).toInt64)))), (10, .int (2 : Int32)), (9, .int (1 : Int32)), (6, .int (7 : Int32)), (5, .int (11 : Int32)), (4, .int (15 : Int32)), (3, .int (0 : Int32)), (0, .ref mi), (1, .ref pl), (2, .int (nI w))]) hx hb d_MI_join_97 hl (by decide) rfl (fun ls hl => ?_)
  refine lv_iload hx hb d_MI_join_99 (lv_at hl 2 rfl) ?_
  refine lv_ineg hx hb d_MI_join_101 ?_
  refine tp_i (y := (-1 : Int32)) (by decide) ?_
  refine lv_istore (lv' := [(9, .int (-1 : Int32)), (7, .long ((0 : Int64) + (((1 : Int64) * (cf 3)) * ((pf ((w * 4) + 2)).toInt64)))), (10, .int (2 : Int32)), (6, .int (7 : Int32)), (5, .int (11 : Int32)), (4, .int (15 : Int32)), (3, .int (0 : Int32)), (0, .ref mi), (1, .ref pl), (2, .int (nI w))]) hx hb d_MI_join_102 hl (by decide) rfl (fun ls hl => ?_)
  refine lv_iinc (lv' := [(10, .int (1 : Int32)), (9, .int (-1 : Int32)), (7, .long ((0 : Int64) + (((1 : Int64) * (cf 3)) * ((pf ((w * 4) + 2)).toInt64)))), (6, .int (7 : Int32)), (5, .int (11 : Int32)), (4, .int (15 : Int32)), (3, .int (0 : Int32)), (0, .ref mi), (1, .ref pl), (2, .int (nI w))]) (k := 2) (v := (1 : Int32)) hx hb d_MI_join_104 hl rfl (by decide) (by decide) rfl (fun ls hl => ?_)
  refine lv_goto (tgt := 50) hx hb d_MI_join_107 (by decide) ?_
  refine lv_iload hx hb d_MI_join_50 (lv_at hl 0 rfl) ?_
  refine lv_if_lt (tgt := 110) hx hb d_MI_join_52 (by decide) (fun h99 => absurd h99 (by decide)) (fun _ => ?_)
  refine lv_iload hx hb d_MI_join_55 (lv_at hl 3 rfl) ?_
  refine lv_iload hx hb d_MI_join_57 (lv_at hl 0 rfl) ?_
  refine lv_ishr hx hb d_MI_join_59 ?_
  refine tp_i (y := (3 : Int32)) (by decide) ?_
  refine lv_iconst (v := (1 : Int32)) hx hb d_MI_join_60 (by decide) ?_
  refine lv_iand hx hb d_MI_join_61 ?_
  refine tp_i (y := (1 : Int32)) (by decide) ?_
  refine lv_if_eq (tgt := 104) hx hb d_MI_join_62 (by decide) (fun h99 => absurd h99 (by decide)) (fun _ => ?_)
  refine lv_lload hx hb d_MI_join_65 (lv_at hl 2 rfl) ?_
  refine lv_iload hx hb d_MI_join_67 (lv_at hl 1 rfl) ?_
  refine lv_i2l (v := (-1 : Int64)) hx hb d_MI_join_69 (by decide) ?_
  refine lv_aload_n hx hb d_MI_join_70 rfl (lv_at hl 7 rfl) ?_
  refine va_get (D := D) (ci := 2) (v := .ref cu) (C := cn_MI) (T := ft_MI) (N := 3) hx hb hf_MI (fun _ h => h) hown hK hP 0 rfl rfl 0 (by decide) (gw.at G hx0 mw_64 rfl _) (fun _ h9 => h9) rfl d_MI_join_71 ?_
  refine lv_iload hx hb d_MI_join_74 (lv_at hl 3 rfl) ?_
  refine lv_iconst (v := (1 : Int32)) hx hb d_MI_join_76 (by decide) ?_
  refine lv_iload hx hb d_MI_join_77 (lv_at hl 0 rfl) ?_
  refine lv_ishl hx hb d_MI_join_79 ?_
  refine tp_i (y := (2 : Int32)) (by decide) ?_
  refine lv_ixor hx hb d_MI_join_80 ?_
  refine tp_i (y := (5 : Int32)) (by decide) ?_
  refine va_lald hx hb hK hP 1 1 rfl rfl (vp_in_iff.mpr (by decide)) d_MI_join_81 ?_
  refine tp_l (y := cf 5) (by rfl) ?_
  refine lv_lmul hx hb d_MI_join_82 ?_
  refine lv_aload_n hx hb d_MI_join_83 rfl (lv_at hl 8 rfl) ?_
  refine va_get (D := D) (ci := 1) (v := .ref pa) (C := cn_PL) (T := ft_PL) (N := 3) hx hb hf_PL (fun _ h => h) hown hK hP 3 rfl rfl 0 (by decide) (gw.at G hx0 mw_40 rfl _) (fun _ h9 => h9) rfl d_MI_join_84 ?_
  refine lv_iload_n hx hb d_MI_join_87 rfl (lv_at hl 9 rfl) ?_
  refine lv_iconst (v := (4 : Int32)) hx hb d_MI_join_88 (by decide) ?_
  refine lv_imul hx hb d_MI_join_89 ?_
  refine tp_i (y := nI (w * 4)) (nI_mul w 4) ?_
  refine lv_iload hx hb d_MI_join_90 (lv_at hl 0 rfl) ?_
  refine lv_iadd hx hb d_MI_join_92 ?_
  refine tp_i (y := nI ((w * 4) + 1)) (nI_add (w * 4) 1) ?_
  refine va_iald hx hb hK hP 4 0 rfl rfl (vp_in_nI (n := (w * 4) + 1) (by omega) (by omega)) d_MI_join_93 ?_
  refine tp_i (y := pf ((w * 4) + 1)) (congrArg pf (nI_clamp (n := (w * 4) + 1) (by omega))) ?_
  refine lv_i2l (v := (pf ((w * 4) + 1)).toInt64) hx hb d_MI_join_94 rfl ?_
  refine lv_lmul hx hb d_MI_join_95 ?_
  refine lv_ladd hx hb d_MI_join_96 ?_
  refine lv_lstore (lv' := [(7, .long (((0 : Int64) + (((1 : Int64) * (cf 3)) * ((pf ((w * 4) + 2)).toInt64))) + (((-1 : Int64) * (cf 5)) * ((pf ((w * 4) + 1)).toInt64)))), (10, .int (1 : Int32)), (9, .int (-1 : Int32)), (6, .int (7 : Int32)), (5, .int (11 : Int32)), (4, .int (15 : Int32)), (3, .int (0 : Int32)), (0, .ref mi), (1, .ref pl), (2, .int (nI w))]) hx hb d_MI_join_97 hl (by decide) rfl (fun ls hl => ?_)
  refine lv_iload hx hb d_MI_join_99 (lv_at hl 2 rfl) ?_
  refine lv_ineg hx hb d_MI_join_101 ?_
  refine tp_i (y := (1 : Int32)) (by decide) ?_
  refine lv_istore (lv' := [(9, .int (1 : Int32)), (7, .long (((0 : Int64) + (((1 : Int64) * (cf 3)) * ((pf ((w * 4) + 2)).toInt64))) + (((-1 : Int64) * (cf 5)) * ((pf ((w * 4) + 1)).toInt64)))), (10, .int (1 : Int32)), (6, .int (7 : Int32)), (5, .int (11 : Int32)), (4, .int (15 : Int32)), (3, .int (0 : Int32)), (0, .ref mi), (1, .ref pl), (2, .int (nI w))]) hx hb d_MI_join_102 hl (by decide) rfl (fun ls hl => ?_)
  refine lv_iinc (lv' := [(10, .int (0 : Int32)), (9, .int (1 : Int32)), (7, .long (((0 : Int64) + (((1 : Int64) * (cf 3)) * ((pf ((w * 4) + 2)).toInt64))) + (((-1 : Int64) * (cf 5)) * ((pf ((w * 4) + 1)).toInt64)))), (6, .int (7 : Int32)), (5, .int (11 : Int32)), (4, .int (15 : Int32)), (3, .int (0 : Int32)), (0, .ref mi), (1, .ref pl), (2, .int (nI w))]) (k := 2) (v := (0 : Int32)) hx hb d_MI_join_104 hl rfl (by decide) (by decide) rfl (fun ls hl => ?_)
  refine lv_goto (tgt := 50) hx hb d_MI_join_107 (by decide) ?_
  refine lv_iload hx hb d_MI_join_50 (lv_at hl 0 rfl) ?_
  refine lv_if_lt (tgt := 110) hx hb d_MI_join_52 (by decide) (fun h99 => absurd h99 (by decide)) (fun _ => ?_)
  refine lv_iload hx hb d_MI_join_55 (lv_at hl 3 rfl) ?_
  refine lv_iload hx hb d_MI_join_57 (lv_at hl 0 rfl) ?_
  refine lv_ishr hx hb d_MI_join_59 ?_
  refine tp_i (y := (7 : Int32)) (by decide) ?_
  refine lv_iconst (v := (1 : Int32)) hx hb d_MI_join_60 (by decide) ?_
  refine lv_iand hx hb d_MI_join_61 ?_
  refine tp_i (y := (1 : Int32)) (by decide) ?_
  refine lv_if_eq (tgt := 104) hx hb d_MI_join_62 (by decide) (fun h99 => absurd h99 (by decide)) (fun _ => ?_)
  refine lv_lload hx hb d_MI_join_65 (lv_at hl 2 rfl) ?_
  refine lv_iload hx hb d_MI_join_67 (lv_at hl 1 rfl) ?_
  refine lv_i2l (v := (1 : Int64)) hx hb d_MI_join_69 (by decide) ?_
  refine lv_aload_n hx hb d_MI_join_70 rfl (lv_at hl 7 rfl) ?_
  refine va_get (D := D) (ci := 2) (v := .ref cu) (C := cn_MI) (T := ft_MI) (N := 3) hx hb hf_MI (fun _ h => h) hown hK hP 0 rfl rfl 0 (by decide) (gw.at G hx0 mw_64 rfl _) (fun _ h9 => h9) rfl d_MI_join_71 ?_
  refine lv_iload hx hb d_MI_join_74 (lv_at hl 3 rfl) ?_
  refine lv_iconst (v := (1 : Int32)) hx hb d_MI_join_76 (by decide) ?_
  refine lv_iload hx hb d_MI_join_77 (lv_at hl 0 rfl) ?_
  refine lv_ishl hx hb d_MI_join_79 ?_
  refine tp_i (y := (1 : Int32)) (by decide) ?_
  refine lv_ixor hx hb d_MI_join_80 ?_
  refine tp_i (y := (6 : Int32)) (by decide) ?_
  refine va_lald hx hb hK hP 1 1 rfl rfl (vp_in_iff.mpr (by decide)) d_MI_join_81 ?_
  refine tp_l (y := cf 6) (by rfl) ?_
  refine lv_lmul hx hb d_MI_join_82 ?_
  refine lv_aload_n hx hb d_MI_join_83 rfl (lv_at hl 8 rfl) ?_
  refine va_get (D := D) (ci := 1) (v := .ref pa) (C := cn_PL) (T := ft_PL) (N := 3) hx hb hf_PL (fun _ h => h) hown hK hP 3 rfl rfl 0 (by decide) (gw.at G hx0 mw_40 rfl _) (fun _ h9 => h9) rfl d_MI_join_84 ?_
  refine lv_iload_n hx hb d_MI_join_87 rfl (lv_at hl 9 rfl) ?_
  refine lv_iconst (v := (4 : Int32)) hx hb d_MI_join_88 (by decide) ?_
  refine lv_imul hx hb d_MI_join_89 ?_
  refine tp_i (y := nI (w * 4)) (nI_mul w 4) ?_
  refine lv_iload hx hb d_MI_join_90 (lv_at hl 0 rfl) ?_
  refine lv_iadd hx hb d_MI_join_92 ?_
  refine tp_i (y := nI ((w * 4) + 0)) (nI_add (w * 4) 0) ?_
  refine va_iald hx hb hK hP 4 0 rfl rfl (vp_in_nI (n := (w * 4) + 0) (by omega) (by omega)) d_MI_join_93 ?_
  refine tp_i (y := pf ((w * 4) + 0)) (congrArg pf (nI_clamp (n := (w * 4) + 0) (by omega))) ?_
  refine lv_i2l (v := (pf ((w * 4) + 0)).toInt64) hx hb d_MI_join_94 rfl ?_
  refine lv_lmul hx hb d_MI_join_95 ?_
  refine lv_ladd hx hb d_MI_join_96 ?_
  refine lv_lstore (lv' := [(7, .long ((((0 : Int64) + (((1 : Int64) * (cf 3)) * ((pf ((w * 4) + 2)).toInt64))) + (((-1 : Int64) * (cf 5)) * ((pf ((w * 4) + 1)).toInt64))) + (((1 : Int64) * (cf 6)) * ((pf ((w * 4) + 0)).toInt64)))), (10, .int (0 : Int32)), (9, .int (1 : Int32)), (6, .int (7 : Int32)), (5, .int (11 : Int32)), (4, .int (15 : Int32)), (3, .int (0 : Int32)), (0, .ref mi), (1, .ref pl), (2, .int (nI w))]) hx hb d_MI_join_97 hl (by decide) rfl (fun ls hl => ?_)
  refine lv_iload hx hb d_MI_join_99 (lv_at hl 2 rfl) ?_
  refine lv_ineg hx hb d_MI_join_101 ?_
  refine tp_i (y := (-1 : Int32)) (by decide) ?_
  refine lv_istore (lv' := [(9, .int (-1 : Int32)), (7, .long ((((0 : Int64) + (((1 : Int64) * (cf 3)) * ((pf ((w * 4) + 2)).toInt64))) + (((-1 : Int64) * (cf 5)) * ((pf ((w * 4) + 1)).toInt64))) + (((1 : Int64) * (cf 6)) * ((pf ((w * 4) + 0)).toInt64)))), (10, .int (0 : Int32)), (6, .int (7 : Int32)), (5, .int (11 : Int32)), (4, .int (15 : Int32)), (3, .int (0 : Int32)), (0, .ref mi), (1, .ref pl), (2, .int (nI w))]) hx hb d_MI_join_102 hl (by decide) rfl (fun ls hl => ?_)
  refine lv_iinc (lv' := [(10, .int (-1 : Int32)), (9, .int (-1 : Int32)), (7, .long ((((0 : Int64) + (((1 : Int64) * (cf 3)) * ((pf ((w * 4) + 2)).toInt64))) + (((-1 : Int64) * (cf 5)) * ((pf ((w * 4) + 1)).toInt64))) + (((1 : Int64) * (cf 6)) * ((pf ((w * 4) + 0)).toInt64)))), (6, .int (7 : Int32)), (5, .int (11 : Int32)), (4, .int (15 : Int32)), (3, .int (0 : Int32)), (0, .ref mi), (1, .ref pl), (2, .int (nI w))]) (k := 2) (v := (-1 : Int32)) hx hb d_MI_join_104 hl rfl (by decide) (by decide) rfl (fun ls hl => ?_)
  refine lv_goto (tgt := 50) hx hb d_MI_join_107 (by decide) ?_
  refine lv_iload hx hb d_MI_join_50 (lv_at hl 0 rfl) ?_
  refine lv_if_lt (tgt := 110) hx hb d_MI_join_52 (by decide) (fun _ => ?_) (fun h99 => absurd h99 (by decide))
  refine lv_aload_n hx hb d_MI_join_110 rfl (lv_at hl 7 rfl) ?_
  refine va_get (D := D) (ci := 2) (v := .ref nx) (C := cn_MI) (T := ft_MI) (N := 3) hx hb hf_MI (fun _ h => h) hown hK hP 0 rfl rfl 1 (by decide) (gw.at G hx0 mw_65 rfl _) (fun _ h9 => h9) rfl d_MI_join_111 ?_
  refine lv_iload hx hb d_MI_join_114 (lv_at hl 3 rfl) ?_
  refine lv_lload hx hb d_MI_join_116 (lv_at hl 2 rfl) ?_
  refine tp_l (y := mex cf (rowAt pf w) 7) (by rfl) ?_
  refine va_last hx hb hK hP hD hS 2 1 rfl rfl (vp_in_iff.mpr (by decide)) d_MI_join_118 (fun H locs hP hD hS => ?_)
  have hP : va_P D kl [(mi, .inr (2, [.ref cu, .ref nx, .int (2 : Int32)])), (cu, .inl (cJ, 16, .inr (.inl cf))), (nx, .inl (cJ, 16, .inr (.inl (vp_updL nf 7 (mex cf (rowAt pf w) 7))))), (pl, .inr (1, [.ref pa, .int (nI ct), .int (nI mo)])), (pa, .inl (cI, pz, .inl pf))] H := hP
  have hD : va_D A [(mi, .inr (2, [.ref cu, .ref nx, .int (2 : Int32)])), (cu, .inl (cJ, 16, .inr (.inl cf))), (nx, .inl (cJ, 16, .inr (.inl (vp_updL nf 7 (mex cf (rowAt pf w) 7))))), (pl, .inr (1, [.ref pa, .int (nI ct), .int (nI mo)])), (pa, .inl (cI, pz, .inl pf))] := hD
  have K_1 : W p l e ({ frames := 0, cells := 0, slots := 0, locals := 0 } : Room) s m ([.ref mi, .ref pl, .int (nI w)] : List Value).toArray below meth c H locs 0 0 Q (F0 m 135 ls [.int (bi (False ∨ ¬ mex cf (rowAt pf w) 7 = 0))]) := by
    refine lv_istore_n (lv' := [(3, .int (bi (False ∨ ¬ mex cf (rowAt pf w) 7 = 0))), (10, .int (-1 : Int32)), (9, .int (-1 : Int32)), (7, .long ((((0 : Int64) + (((1 : Int64) * (cf 3)) * ((pf ((w * 4) + 2)).toInt64))) + (((-1 : Int64) * (cf 5)) * ((pf ((w * 4) + 1)).toInt64))) + (((1 : Int64) * (cf 6)) * ((pf ((w * 4) + 0)).toInt64)))), (6, .int (7 : Int32)), (5, .int (11 : Int32)), (4, .int (15 : Int32)), (0, .ref mi), (1, .ref pl), (2, .int (nI w))]) hx hb d_MI_join_135 rfl hl (by decide) rfl (fun ls hl => ?_)
    refine lv_iinc (lv' := [(5, .int (12 : Int32)), (3, .int (bi (False ∨ ¬ mex cf (rowAt pf w) 7 = 0))), (10, .int (-1 : Int32)), (9, .int (-1 : Int32)), (7, .long ((((0 : Int64) + (((1 : Int64) * (cf 3)) * ((pf ((w * 4) + 2)).toInt64))) + (((-1 : Int64) * (cf 5)) * ((pf ((w * 4) + 1)).toInt64))) + (((1 : Int64) * (cf 6)) * ((pf ((w * 4) + 0)).toInt64)))), (6, .int (7 : Int32)), (4, .int (15 : Int32)), (0, .ref mi), (1, .ref pl), (2, .int (nI w))]) (k := 5) (v := (12 : Int32)) hx hb d_MI_join_136 hl rfl (by decide) (by decide) rfl (fun ls hl => ?_)
    refine lv_goto (tgt := 26) hx hb d_MI_join_139 (by decide) ?_
    refine lv_iload hx hb d_MI_join_26 (lv_at hl 0 rfl) ?_
    refine lv_iload hx hb d_MI_join_28 (lv_at hl 6 rfl) ?_
    refine lv_icmp_ge (tgt := 142) hx hb d_MI_join_30 (by decide) (fun h99 => absurd h99 (by decide)) (fun _ => ?_)
    refine va_getsN hx hb hZC hS hown (gw.at G hx0 mw_62 rfl _) (fun _ h9 => h9) d_MI_join_33 ?_
    refine lv_iload hx hb d_MI_join_36 (lv_at hl 0 rfl) ?_
    refine va_ti hx hb hTC hS (vp_in_iff.mpr (by decide)) (v := .int (11 : Int32)) (by decide) d_MI_join_38 ?_
    refine lv_istore (lv' := [(6, .int (11 : Int32)), (5, .int (12 : Int32)), (3, .int (bi (False ∨ ¬ mex cf (rowAt pf w) 7 = 0))), (10, .int (-1 : Int32)), (9, .int (-1 : Int32)), (7, .long ((((0 : Int64) + (((1 : Int64) * (cf 3)) * ((pf ((w * 4) + 2)).toInt64))) + (((-1 : Int64) * (cf 5)) * ((pf ((w * 4) + 1)).toInt64))) + (((1 : Int64) * (cf 6)) * ((pf ((w * 4) + 0)).toInt64)))), (4, .int (15 : Int32)), (0, .ref mi), (1, .ref pl), (2, .int (nI w))]) hx hb d_MI_join_39 hl (by decide) rfl (fun ls hl => ?_)
    refine lv_lconst (v := (0 : Int64)) hx hb d_MI_join_41 (by decide) ?_
    refine lv_lstore (lv' := [(7, .long (0 : Int64)), (6, .int (11 : Int32)), (5, .int (12 : Int32)), (3, .int (bi (False ∨ ¬ mex cf (rowAt pf w) 7 = 0))), (10, .int (-1 : Int32)), (9, .int (-1 : Int32)), (4, .int (15 : Int32)), (0, .ref mi), (1, .ref pl), (2, .int (nI w))]) hx hb d_MI_join_42 hl (by decide) rfl (fun ls hl => ?_)
    refine lv_iconst (v := (1 : Int32)) hx hb d_MI_join_44 (by decide) ?_
    refine lv_istore (lv' := [(9, .int (1 : Int32)), (7, .long (0 : Int64)), (6, .int (11 : Int32)), (5, .int (12 : Int32)), (3, .int (bi (False ∨ ¬ mex cf (rowAt pf w) 7 = 0))), (10, .int (-1 : Int32)), (4, .int (15 : Int32)), (0, .ref mi), (1, .ref pl), (2, .int (nI w))]) hx hb d_MI_join_45 hl (by decide) rfl (fun ls hl => ?_)
    refine lv_iconst (v := (3 : Int32)) hx hb d_MI_join_47 (by decide) ?_
    refine lv_istore (lv' := [(10, .int (3 : Int32)), (9, .int (1 : Int32)), (7, .long (0 : Int64)), (6, .int (11 : Int32)), (5, .int (12 : Int32)), (3, .int (bi (False ∨ ¬ mex cf (rowAt pf w) 7 = 0))), (4, .int (15 : Int32)), (0, .ref mi), (1, .ref pl), (2, .int (nI w))]) hx hb d_MI_join_48 hl (by decide) rfl (fun ls hl => ?_)
    refine lv_iload hx hb d_MI_join_50 (lv_at hl 0 rfl) ?_
    refine lv_if_lt (tgt := 110) hx hb d_MI_join_52 (by decide) (fun h99 => absurd h99 (by decide)) (fun _ => ?_)
    refine lv_iload hx hb d_MI_join_55 (lv_at hl 3 rfl) ?_
    refine lv_iload hx hb d_MI_join_57 (lv_at hl 0 rfl) ?_
    refine lv_ishr hx hb d_MI_join_59 ?_
    refine tp_i (y := (1 : Int32)) (by decide) ?_
    refine lv_iconst (v := (1 : Int32)) hx hb d_MI_join_60 (by decide) ?_
    refine lv_iand hx hb d_MI_join_61 ?_
    refine tp_i (y := (1 : Int32)) (by decide) ?_
    refine lv_if_eq (tgt := 104) hx hb d_MI_join_62 (by decide) (fun h99 => absurd h99 (by decide)) (fun _ => ?_)
    refine lv_lload hx hb d_MI_join_65 (lv_at hl 2 rfl) ?_
    refine lv_iload hx hb d_MI_join_67 (lv_at hl 1 rfl) ?_
    refine lv_i2l (v := (1 : Int64)) hx hb d_MI_join_69 (by decide) ?_
    refine lv_aload_n hx hb d_MI_join_70 rfl (lv_at hl 7 rfl) ?_
    refine va_get (D := D) (ci := 2) (v := .ref cu) (C := cn_MI) (T := ft_MI) (N := 3) hx hb hf_MI (fun _ h => h) hown hK hP 0 rfl rfl 0 (by decide) (gw.at G hx0 mw_64 rfl _) (fun _ h9 => h9) rfl d_MI_join_71 ?_
    refine lv_iload hx hb d_MI_join_74 (lv_at hl 3 rfl) ?_
    refine lv_iconst (v := (1 : Int32)) hx hb d_MI_join_76 (by decide) ?_
    refine lv_iload hx hb d_MI_join_77 (lv_at hl 0 rfl) ?_
    refine lv_ishl hx hb d_MI_join_79 ?_
    refine tp_i (y := (8 : Int32)) (by decide) ?_
    refine lv_ixor hx hb d_MI_join_80 ?_
    refine tp_i (y := (3 : Int32)) (by decide) ?_
    refine va_lald hx hb hK hP 1 1 rfl rfl (vp_in_iff.mpr (by decide)) d_MI_join_81 ?_
    refine tp_l (y := cf 3) (by rfl) ?_
    refine lv_lmul hx hb d_MI_join_82 ?_
    refine lv_aload_n hx hb d_MI_join_83 rfl (lv_at hl 8 rfl) ?_
    refine va_get (D := D) (ci := 1) (v := .ref pa) (C := cn_PL) (T := ft_PL) (N := 3) hx hb hf_PL (fun _ h => h) hown hK hP 3 rfl rfl 0 (by decide) (gw.at G hx0 mw_40 rfl _) (fun _ h9 => h9) rfl d_MI_join_84 ?_
    refine lv_iload_n hx hb d_MI_join_87 rfl (lv_at hl 9 rfl) ?_
    refine lv_iconst (v := (4 : Int32)) hx hb d_MI_join_88 (by decide) ?_
    refine lv_imul hx hb d_MI_join_89 ?_
    refine tp_i (y := nI (w * 4)) (nI_mul w 4) ?_
    refine lv_iload hx hb d_MI_join_90 (lv_at hl 0 rfl) ?_
    refine lv_iadd hx hb d_MI_join_92 ?_
    refine tp_i (y := nI ((w * 4) + 3)) (nI_add (w * 4) 3) ?_
    refine va_iald hx hb hK hP 4 0 rfl rfl (vp_in_nI (n := (w * 4) + 3) (by omega) (by omega)) d_MI_join_93 ?_
    refine tp_i (y := pf ((w * 4) + 3)) (congrArg pf (nI_clamp (n := (w * 4) + 3) (by omega))) ?_
    refine lv_i2l (v := (pf ((w * 4) + 3)).toInt64) hx hb d_MI_join_94 rfl ?_
    refine lv_lmul hx hb d_MI_join_95 ?_
    refine lv_ladd hx hb d_MI_join_96 ?_
    refine lv_lstore (lv' := [(7, .long ((0 : Int64) + (((1 : Int64) * (cf 3)) * ((pf ((w * 4) + 3)).toInt64)))), (10, .int (3 : Int32)), (9, .int (1 : Int32)), (6, .int (11 : Int32)), (5, .int (12 : Int32)), (3, .int (bi (False ∨ ¬ mex cf (rowAt pf w) 7 = 0))), (4, .int (15 : Int32)), (0, .ref mi), (1, .ref pl), (2, .int (nI w))]) hx hb d_MI_join_97 hl (by decide) rfl (fun ls hl => ?_)
    refine lv_iload hx hb d_MI_join_99 (lv_at hl 2 rfl) ?_
    refine lv_ineg hx hb d_MI_join_101 ?_
    refine tp_i (y := (-1 : Int32)) (by decide) ?_
    refine lv_istore (lv' := [(9, .int (-1 : Int32)), (7, .long ((0 : Int64) + (((1 : Int64) * (cf 3)) * ((pf ((w * 4) + 3)).toInt64)))), (10, .int (3 : Int32)), (6, .int (11 : Int32)), (5, .int (12 : Int32)), (3, .int (bi (False ∨ ¬ mex cf (rowAt pf w) 7 = 0))), (4, .int (15 : Int32)), (0, .ref mi), (1, .ref pl), (2, .int (nI w))]) hx hb d_MI_join_102 hl (by decide) rfl (fun ls hl => ?_)
    refine lv_iinc (lv' := [(10, .int (2 : Int32)), (9, .int (-1 : Int32)), (7, .long ((0 : Int64) + (((1 : Int64) * (cf 3)) * ((pf ((w * 4) + 3)).toInt64)))), (6, .int (11 : Int32)), (5, .int (12 : Int32)), (3, .int (bi (False ∨ ¬ mex cf (rowAt pf w) 7 = 0))), (4, .int (15 : Int32)), (0, .ref mi), (1, .ref pl), (2, .int (nI w))]) (k := 2) (v := (2 : Int32)) hx hb d_MI_join_104 hl rfl (by decide) (by decide) rfl (fun ls hl => ?_)
    refine lv_goto (tgt := 50) hx hb d_MI_join_107 (by decide) ?_
    refine lv_iload hx hb d_MI_join_50 (lv_at hl 0 rfl) ?_
    refine lv_if_lt (tgt := 110) hx hb d_MI_join_52 (by decide) (fun h99 => absurd h99 (by decide)) (fun _ => ?_)
    refine lv_iload hx hb d_MI_join_55 (lv_at hl 3 rfl) ?_
    refine lv_iload hx hb d_MI_join_57 (lv_at hl 0 rfl) ?_
    refine lv_ishr hx hb d_MI_join_59 ?_
    refine tp_i (y := (2 : Int32)) (by decide) ?_
    refine lv_iconst (v := (1 : Int32)) hx hb d_MI_join_60 (by decide) ?_
    refine lv_iand hx hb d_MI_join_61 ?_
    refine tp_i (y := (0 : Int32)) (by decide) ?_
    refine lv_if_eq (tgt := 104) hx hb d_MI_join_62 (by decide) (fun _ => ?_) (fun h99 => absurd h99 (by decide))
    refine lv_iinc (lv' := [(10, .int (1 : Int32)), (9, .int (-1 : Int32)), (7, .long ((0 : Int64) + (((1 : Int64) * (cf 3)) * ((pf ((w * 4) + 3)).toInt64)))), (6, .int (11 : Int32)), (5, .int (12 : Int32)), (3, .int (bi (False ∨ ¬ mex cf (rowAt pf w) 7 = 0))), (4, .int (15 : Int32)), (0, .ref mi), (1, .ref pl), (2, .int (nI w))]) (k := 0) (v := (1 : Int32)) hx hb d_MI_join_104 hl rfl (by decide) (by decide) rfl (fun ls hl => ?_)
    refine lv_goto (tgt := 50) hx hb d_MI_join_107 (by decide) ?_
    refine lv_iload hx hb d_MI_join_50 (lv_at hl 0 rfl) ?_
    refine lv_if_lt (tgt := 110) hx hb d_MI_join_52 (by decide) (fun h99 => absurd h99 (by decide)) (fun _ => ?_)
    refine lv_iload hx hb d_MI_join_55 (lv_at hl 3 rfl) ?_
    refine lv_iload hx hb d_MI_join_57 (lv_at hl 0 rfl) ?_
    refine lv_ishr hx hb d_MI_join_59 ?_
    refine tp_i (y := (5 : Int32)) (by decide) ?_
    refine lv_iconst (v := (1 : Int32)) hx hb d_MI_join_60 (by decide) ?_
    refine lv_iand hx hb d_MI_join_61 ?_
    refine tp_i (y := (1 : Int32)) (by decide) ?_
    refine lv_if_eq (tgt := 104) hx hb d_MI_join_62 (by decide) (fun h99 => absurd h99 (by decide)) (fun _ => ?_)
    refine lv_lload hx hb d_MI_join_65 (lv_at hl 2 rfl) ?_
    refine lv_iload hx hb d_MI_join_67 (lv_at hl 1 rfl) ?_
    refine lv_i2l (v := (-1 : Int64)) hx hb d_MI_join_69 (by decide) ?_
    refine lv_aload_n hx hb d_MI_join_70 rfl (lv_at hl 7 rfl) ?_
    refine va_get (D := D) (ci := 2) (v := .ref cu) (C := cn_MI) (T := ft_MI) (N := 3) hx hb hf_MI (fun _ h => h) hown hK hP 0 rfl rfl 0 (by decide) (gw.at G hx0 mw_64 rfl _) (fun _ h9 => h9) rfl d_MI_join_71 ?_
    refine lv_iload hx hb d_MI_join_74 (lv_at hl 3 rfl) ?_
    refine lv_iconst (v := (1 : Int32)) hx hb d_MI_join_76 (by decide) ?_
    refine lv_iload hx hb d_MI_join_77 (lv_at hl 0 rfl) ?_
    refine lv_ishl hx hb d_MI_join_79 ?_
    refine tp_i (y := (2 : Int32)) (by decide) ?_
    refine lv_ixor hx hb d_MI_join_80 ?_
    refine tp_i (y := (9 : Int32)) (by decide) ?_
    refine va_lald hx hb hK hP 1 1 rfl rfl (vp_in_iff.mpr (by decide)) d_MI_join_81 ?_
    refine tp_l (y := cf 9) (by rfl) ?_
    refine lv_lmul hx hb d_MI_join_82 ?_
    refine lv_aload_n hx hb d_MI_join_83 rfl (lv_at hl 8 rfl) ?_
    refine va_get (D := D) (ci := 1) (v := .ref pa) (C := cn_PL) (T := ft_PL) (N := 3) hx hb hf_PL (fun _ h => h) hown hK hP 3 rfl rfl 0 (by decide) (gw.at G hx0 mw_40 rfl _) (fun _ h9 => h9) rfl d_MI_join_84 ?_
    refine lv_iload_n hx hb d_MI_join_87 rfl (lv_at hl 9 rfl) ?_
    refine lv_iconst (v := (4 : Int32)) hx hb d_MI_join_88 (by decide) ?_
    refine lv_imul hx hb d_MI_join_89 ?_
    refine tp_i (y := nI (w * 4)) (nI_mul w 4) ?_
    refine lv_iload hx hb d_MI_join_90 (lv_at hl 0 rfl) ?_
    refine lv_iadd hx hb d_MI_join_92 ?_
    refine tp_i (y := nI ((w * 4) + 1)) (nI_add (w * 4) 1) ?_
    refine va_iald hx hb hK hP 4 0 rfl rfl (vp_in_nI (n := (w * 4) + 1) (by omega) (by omega)) d_MI_join_93 ?_
    refine tp_i (y := pf ((w * 4) + 1)) (congrArg pf (nI_clamp (n := (w * 4) + 1) (by omega))) ?_
    refine lv_i2l (v := (pf ((w * 4) + 1)).toInt64) hx hb d_MI_join_94 rfl ?_
    refine lv_lmul hx hb d_MI_join_95 ?_
    refine lv_ladd hx hb d_MI_join_96 ?_
    refine lv_lstore (lv' := [(7, .long (((0 : Int64) + (((1 : Int64) * (cf 3)) * ((pf ((w * 4) + 3)).toInt64))) + (((-1 : Int64) * (cf 9)) * ((pf ((w * 4) + 1)).toInt64)))), (10, .int (1 : Int32)), (9, .int (-1 : Int32)), (6, .int (11 : Int32)), (5, .int (12 : Int32)), (3, .int (bi (False ∨ ¬ mex cf (rowAt pf w) 7 = 0))), (4, .int (15 : Int32)), (0, .ref mi), (1, .ref pl), (2, .int (nI w))]) hx hb d_MI_join_97 hl (by decide) rfl (fun ls hl => ?_)
    refine lv_iload hx hb d_MI_join_99 (lv_at hl 2 rfl) ?_
    refine lv_ineg hx hb d_MI_join_101 ?_
    refine tp_i (y := (1 : Int32)) (by decide) ?_
    refine lv_istore (lv' := [(9, .int (1 : Int32)), (7, .long (((0 : Int64) + (((1 : Int64) * (cf 3)) * ((pf ((w * 4) + 3)).toInt64))) + (((-1 : Int64) * (cf 9)) * ((pf ((w * 4) + 1)).toInt64)))), (10, .int (1 : Int32)), (6, .int (11 : Int32)), (5, .int (12 : Int32)), (3, .int (bi (False ∨ ¬ mex cf (rowAt pf w) 7 = 0))), (4, .int (15 : Int32)), (0, .ref mi), (1, .ref pl), (2, .int (nI w))]) hx hb d_MI_join_102 hl (by decide) rfl (fun ls hl => ?_)
    refine lv_iinc (lv' := [(10, .int (0 : Int32)), (9, .int (1 : Int32)), (7, .long (((0 : Int64) + (((1 : Int64) * (cf 3)) * ((pf ((w * 4) + 3)).toInt64))) + (((-1 : Int64) * (cf 9)) * ((pf ((w * 4) + 1)).toInt64)))), (6, .int (11 : Int32)), (5, .int (12 : Int32)), (3, .int (bi (False ∨ ¬ mex cf (rowAt pf w) 7 = 0))), (4, .int (15 : Int32)), (0, .ref mi), (1, .ref pl), (2, .int (nI w))]) (k := 2) (v := (0 : Int32)) hx hb d_MI_join_104 hl rfl (by decide) (by decide) rfl (fun ls hl => ?_)
    refine lv_goto (tgt := 50) hx hb d_MI_join_107 (by decide) ?_
    refine lv_iload hx hb d_MI_join_50 (lv_at hl 0 rfl) ?_
    refine lv_if_lt (tgt := 110) hx hb d_MI_join_52 (by decide) (fun h99 => absurd h99 (by decide)) (fun _ => ?_)
    refine lv_iload hx hb d_MI_join_55 (lv_at hl 3 rfl) ?_
    refine lv_iload hx hb d_MI_join_57 (lv_at hl 0 rfl) ?_
    refine lv_ishr hx hb d_MI_join_59 ?_
    refine tp_i (y := (11 : Int32)) (by decide) ?_
    refine lv_iconst (v := (1 : Int32)) hx hb d_MI_join_60 (by decide) ?_
    refine lv_iand hx hb d_MI_join_61 ?_
    refine tp_i (y := (1 : Int32)) (by decide) ?_
    refine lv_if_eq (tgt := 104) hx hb d_MI_join_62 (by decide) (fun h99 => absurd h99 (by decide)) (fun _ => ?_)
    refine lv_lload hx hb d_MI_join_65 (lv_at hl 2 rfl) ?_
    refine lv_iload hx hb d_MI_join_67 (lv_at hl 1 rfl) ?_
    refine lv_i2l (v := (1 : Int64)) hx hb d_MI_join_69 (by decide) ?_
    refine lv_aload_n hx hb d_MI_join_70 rfl (lv_at hl 7 rfl) ?_
    refine va_get (D := D) (ci := 2) (v := .ref cu) (C := cn_MI) (T := ft_MI) (N := 3) hx hb hf_MI (fun _ h => h) hown hK hP 0 rfl rfl 0 (by decide) (gw.at G hx0 mw_64 rfl _) (fun _ h9 => h9) rfl d_MI_join_71 ?_
    refine lv_iload hx hb d_MI_join_74 (lv_at hl 3 rfl) ?_
    refine lv_iconst (v := (1 : Int32)) hx hb d_MI_join_76 (by decide) ?_
    refine lv_iload hx hb d_MI_join_77 (lv_at hl 0 rfl) ?_
    refine lv_ishl hx hb d_MI_join_79 ?_
    refine tp_i (y := (1 : Int32)) (by decide) ?_
    refine lv_ixor hx hb d_MI_join_80 ?_
    refine tp_i (y := (10 : Int32)) (by decide) ?_
    refine va_lald hx hb hK hP 1 1 rfl rfl (vp_in_iff.mpr (by decide)) d_MI_join_81 ?_
    refine tp_l (y := cf 10) (by rfl) ?_
    refine lv_lmul hx hb d_MI_join_82 ?_
    refine lv_aload_n hx hb d_MI_join_83 rfl (lv_at hl 8 rfl) ?_
    refine va_get (D := D) (ci := 1) (v := .ref pa) (C := cn_PL) (T := ft_PL) (N := 3) hx hb hf_PL (fun _ h => h) hown hK hP 3 rfl rfl 0 (by decide) (gw.at G hx0 mw_40 rfl _) (fun _ h9 => h9) rfl d_MI_join_84 ?_
    refine lv_iload_n hx hb d_MI_join_87 rfl (lv_at hl 9 rfl) ?_
    refine lv_iconst (v := (4 : Int32)) hx hb d_MI_join_88 (by decide) ?_
    refine lv_imul hx hb d_MI_join_89 ?_
    refine tp_i (y := nI (w * 4)) (nI_mul w 4) ?_
    refine lv_iload hx hb d_MI_join_90 (lv_at hl 0 rfl) ?_
    refine lv_iadd hx hb d_MI_join_92 ?_
    refine tp_i (y := nI ((w * 4) + 0)) (nI_add (w * 4) 0) ?_
    refine va_iald hx hb hK hP 4 0 rfl rfl (vp_in_nI (n := (w * 4) + 0) (by omega) (by omega)) d_MI_join_93 ?_
    refine tp_i (y := pf ((w * 4) + 0)) (congrArg pf (nI_clamp (n := (w * 4) + 0) (by omega))) ?_
    refine lv_i2l (v := (pf ((w * 4) + 0)).toInt64) hx hb d_MI_join_94 rfl ?_
    refine lv_lmul hx hb d_MI_join_95 ?_
    refine lv_ladd hx hb d_MI_join_96 ?_
    refine lv_lstore (lv' := [(7, .long ((((0 : Int64) + (((1 : Int64) * (cf 3)) * ((pf ((w * 4) + 3)).toInt64))) + (((-1 : Int64) * (cf 9)) * ((pf ((w * 4) + 1)).toInt64))) + (((1 : Int64) * (cf 10)) * ((pf ((w * 4) + 0)).toInt64)))), (10, .int (0 : Int32)), (9, .int (1 : Int32)), (6, .int (11 : Int32)), (5, .int (12 : Int32)), (3, .int (bi (False ∨ ¬ mex cf (rowAt pf w) 7 = 0))), (4, .int (15 : Int32)), (0, .ref mi), (1, .ref pl), (2, .int (nI w))]) hx hb d_MI_join_97 hl (by decide) rfl (fun ls hl => ?_)
    refine lv_iload hx hb d_MI_join_99 (lv_at hl 2 rfl) ?_
    refine lv_ineg hx hb d_MI_join_101 ?_
    refine tp_i (y := (-1 : Int32)) (by decide) ?_
    refine lv_istore (lv' := [(9, .int (-1 : Int32)), (7, .long ((((0 : Int64) + (((1 : Int64) * (cf 3)) * ((pf ((w * 4) + 3)).toInt64))) + (((-1 : Int64) * (cf 9)) * ((pf ((w * 4) + 1)).toInt64))) + (((1 : Int64) * (cf 10)) * ((pf ((w * 4) + 0)).toInt64)))), (10, .int (0 : Int32)), (6, .int (11 : Int32)), (5, .int (12 : Int32)), (3, .int (bi (False ∨ ¬ mex cf (rowAt pf w) 7 = 0))), (4, .int (15 : Int32)), (0, .ref mi), (1, .ref pl), (2, .int (nI w))]) hx hb d_MI_join_102 hl (by decide) rfl (fun ls hl => ?_)
    refine lv_iinc (lv' := [(10, .int (-1 : Int32)), (9, .int (-1 : Int32)), (7, .long ((((0 : Int64) + (((1 : Int64) * (cf 3)) * ((pf ((w * 4) + 3)).toInt64))) + (((-1 : Int64) * (cf 9)) * ((pf ((w * 4) + 1)).toInt64))) + (((1 : Int64) * (cf 10)) * ((pf ((w * 4) + 0)).toInt64)))), (6, .int (11 : Int32)), (5, .int (12 : Int32)), (3, .int (bi (False ∨ ¬ mex cf (rowAt pf w) 7 = 0))), (4, .int (15 : Int32)), (0, .ref mi), (1, .ref pl), (2, .int (nI w))]) (k := 2) (v := (-1 : Int32)) hx hb d_MI_join_104 hl rfl (by decide) (by decide) rfl (fun ls hl => ?_)
    refine lv_goto (tgt := 50) hx hb d_MI_join_107 (by decide) ?_
    refine lv_iload hx hb d_MI_join_50 (lv_at hl 0 rfl) ?_
    refine lv_if_lt (tgt := 110) hx hb d_MI_join_52 (by decide) (fun _ => ?_) (fun h99 => absurd h99 (by decide))
    refine lv_aload_n hx hb d_MI_join_110 rfl (lv_at hl 7 rfl) ?_
    refine va_get (D := D) (ci := 2) (v := .ref nx) (C := cn_MI) (T := ft_MI) (N := 3) hx hb hf_MI (fun _ h => h) hown hK hP 0 rfl rfl 1 (by decide) (gw.at G hx0 mw_65 rfl _) (fun _ h9 => h9) rfl d_MI_join_111 ?_
    refine lv_iload hx hb d_MI_join_114 (lv_at hl 3 rfl) ?_
    refine lv_lload hx hb d_MI_join_116 (lv_at hl 2 rfl) ?_
    refine tp_l (y := mex cf (rowAt pf w) 11) (by rfl) ?_
    refine va_last hx hb hK hP hD hS 2 1 rfl rfl (vp_in_iff.mpr (by decide)) d_MI_join_118 (fun H locs hP hD hS => ?_)
    have hP : va_P D kl [(mi, .inr (2, [.ref cu, .ref nx, .int (2 : Int32)])), (cu, .inl (cJ, 16, .inr (.inl cf))), (nx, .inl (cJ, 16, .inr (.inl (vp_updL (vp_updL nf 7 (mex cf (rowAt pf w) 7)) 11 (mex cf (rowAt pf w) 11))))), (pl, .inr (1, [.ref pa, .int (nI ct), .int (nI mo)])), (pa, .inl (cI, pz, .inl pf))] H := hP
    have hD : va_D A [(mi, .inr (2, [.ref cu, .ref nx, .int (2 : Int32)])), (cu, .inl (cJ, 16, .inr (.inl cf))), (nx, .inl (cJ, 16, .inr (.inl (vp_updL (vp_updL nf 7 (mex cf (rowAt pf w) 7)) 11 (mex cf (rowAt pf w) 11))))), (pl, .inr (1, [.ref pa, .int (nI ct), .int (nI mo)])), (pa, .inl (cI, pz, .inl pf))] := hD
    have K_2 : W p l e ({ frames := 0, cells := 0, slots := 0, locals := 0 } : Room) s m ([.ref mi, .ref pl, .int (nI w)] : List Value).toArray below meth c H locs 0 0 Q (F0 m 135 ls [.int (bi ((False ∨ ¬ mex cf (rowAt pf w) 7 = 0) ∨ ¬ mex cf (rowAt pf w) 11 = 0))]) := by
      refine lv_istore_n (lv' := [(3, .int (bi ((False ∨ ¬ mex cf (rowAt pf w) 7 = 0) ∨ ¬ mex cf (rowAt pf w) 11 = 0))), (10, .int (-1 : Int32)), (9, .int (-1 : Int32)), (7, .long ((((0 : Int64) + (((1 : Int64) * (cf 3)) * ((pf ((w * 4) + 3)).toInt64))) + (((-1 : Int64) * (cf 9)) * ((pf ((w * 4) + 1)).toInt64))) + (((1 : Int64) * (cf 10)) * ((pf ((w * 4) + 0)).toInt64)))), (6, .int (11 : Int32)), (5, .int (12 : Int32)), (4, .int (15 : Int32)), (0, .ref mi), (1, .ref pl), (2, .int (nI w))]) hx hb d_MI_join_135 rfl hl (by decide) rfl (fun ls hl => ?_)
      refine lv_iinc (lv' := [(5, .int (13 : Int32)), (3, .int (bi ((False ∨ ¬ mex cf (rowAt pf w) 7 = 0) ∨ ¬ mex cf (rowAt pf w) 11 = 0))), (10, .int (-1 : Int32)), (9, .int (-1 : Int32)), (7, .long ((((0 : Int64) + (((1 : Int64) * (cf 3)) * ((pf ((w * 4) + 3)).toInt64))) + (((-1 : Int64) * (cf 9)) * ((pf ((w * 4) + 1)).toInt64))) + (((1 : Int64) * (cf 10)) * ((pf ((w * 4) + 0)).toInt64)))), (6, .int (11 : Int32)), (4, .int (15 : Int32)), (0, .ref mi), (1, .ref pl), (2, .int (nI w))]) (k := 5) (v := (13 : Int32)) hx hb d_MI_join_136 hl rfl (by decide) (by decide) rfl (fun ls hl => ?_)
      refine lv_goto (tgt := 26) hx hb d_MI_join_139 (by decide) ?_
      refine lv_iload hx hb d_MI_join_26 (lv_at hl 0 rfl) ?_
      refine lv_iload hx hb d_MI_join_28 (lv_at hl 6 rfl) ?_
      refine lv_icmp_ge (tgt := 142) hx hb d_MI_join_30 (by decide) (fun h99 => absurd h99 (by decide)) (fun _ => ?_)
      refine va_getsN hx hb hZC hS hown (gw.at G hx0 mw_62 rfl _) (fun _ h9 => h9) d_MI_join_33 ?_
      refine lv_iload hx hb d_MI_join_36 (lv_at hl 0 rfl) ?_
      refine va_ti hx hb hTC hS (vp_in_iff.mpr (by decide)) (v := .int (13 : Int32)) (by decide) d_MI_join_38 ?_
      refine lv_istore (lv' := [(6, .int (13 : Int32)), (5, .int (13 : Int32)), (3, .int (bi ((False ∨ ¬ mex cf (rowAt pf w) 7 = 0) ∨ ¬ mex cf (rowAt pf w) 11 = 0))), (10, .int (-1 : Int32)), (9, .int (-1 : Int32)), (7, .long ((((0 : Int64) + (((1 : Int64) * (cf 3)) * ((pf ((w * 4) + 3)).toInt64))) + (((-1 : Int64) * (cf 9)) * ((pf ((w * 4) + 1)).toInt64))) + (((1 : Int64) * (cf 10)) * ((pf ((w * 4) + 0)).toInt64)))), (4, .int (15 : Int32)), (0, .ref mi), (1, .ref pl), (2, .int (nI w))]) hx hb d_MI_join_39 hl (by decide) rfl (fun ls hl => ?_)
      refine lv_lconst (v := (0 : Int64)) hx hb d_MI_join_41 (by decide) ?_
      refine lv_lstore (lv' := [(7, .long (0 : Int64)), (6, .int (13 : Int32)), (5, .int (13 : Int32)), (3, .int (bi ((False ∨ ¬ mex cf (rowAt pf w) 7 = 0) ∨ ¬ mex cf (rowAt pf w) 11 = 0))), (10, .int (-1 : Int32)), (9, .int (-1 : Int32)), (4, .int (15 : Int32)), (0, .ref mi), (1, .ref pl), (2, .int (nI w))]) hx hb d_MI_join_42 hl (by decide) rfl (fun ls hl => ?_)
      refine lv_iconst (v := (1 : Int32)) hx hb d_MI_join_44 (by decide) ?_
      refine lv_istore (lv' := [(9, .int (1 : Int32)), (7, .long (0 : Int64)), (6, .int (13 : Int32)), (5, .int (13 : Int32)), (3, .int (bi ((False ∨ ¬ mex cf (rowAt pf w) 7 = 0) ∨ ¬ mex cf (rowAt pf w) 11 = 0))), (10, .int (-1 : Int32)), (4, .int (15 : Int32)), (0, .ref mi), (1, .ref pl), (2, .int (nI w))]) hx hb d_MI_join_45 hl (by decide) rfl (fun ls hl => ?_)
      refine lv_iconst (v := (3 : Int32)) hx hb d_MI_join_47 (by decide) ?_
      refine lv_istore (lv' := [(10, .int (3 : Int32)), (9, .int (1 : Int32)), (7, .long (0 : Int64)), (6, .int (13 : Int32)), (5, .int (13 : Int32)), (3, .int (bi ((False ∨ ¬ mex cf (rowAt pf w) 7 = 0) ∨ ¬ mex cf (rowAt pf w) 11 = 0))), (4, .int (15 : Int32)), (0, .ref mi), (1, .ref pl), (2, .int (nI w))]) hx hb d_MI_join_48 hl (by decide) rfl (fun ls hl => ?_)
      refine lv_iload hx hb d_MI_join_50 (lv_at hl 0 rfl) ?_
      refine lv_if_lt (tgt := 110) hx hb d_MI_join_52 (by decide) (fun h99 => absurd h99 (by decide)) (fun _ => ?_)
      refine lv_iload hx hb d_MI_join_55 (lv_at hl 3 rfl) ?_
      refine lv_iload hx hb d_MI_join_57 (lv_at hl 0 rfl) ?_
      refine lv_ishr hx hb d_MI_join_59 ?_
      refine tp_i (y := (1 : Int32)) (by decide) ?_
      refine lv_iconst (v := (1 : Int32)) hx hb d_MI_join_60 (by decide) ?_
      refine lv_iand hx hb d_MI_join_61 ?_
      refine tp_i (y := (1 : Int32)) (by decide) ?_
      refine lv_if_eq (tgt := 104) hx hb d_MI_join_62 (by decide) (fun h99 => absurd h99 (by decide)) (fun _ => ?_)
      refine lv_lload hx hb d_MI_join_65 (lv_at hl 2 rfl) ?_
      refine lv_iload hx hb d_MI_join_67 (lv_at hl 1 rfl) ?_
      refine lv_i2l (v := (1 : Int64)) hx hb d_MI_join_69 (by decide) ?_
      refine lv_aload_n hx hb d_MI_join_70 rfl (lv_at hl 7 rfl) ?_
      refine va_get (D := D) (ci := 2) (v := .ref cu) (C := cn_MI) (T := ft_MI) (N := 3) hx hb hf_MI (fun _ h => h) hown hK hP 0 rfl rfl 0 (by decide) (gw.at G hx0 mw_64 rfl _) (fun _ h9 => h9) rfl d_MI_join_71 ?_
      refine lv_iload hx hb d_MI_join_74 (lv_at hl 3 rfl) ?_
      refine lv_iconst (v := (1 : Int32)) hx hb d_MI_join_76 (by decide) ?_
      refine lv_iload hx hb d_MI_join_77 (lv_at hl 0 rfl) ?_
      refine lv_ishl hx hb d_MI_join_79 ?_
      refine tp_i (y := (8 : Int32)) (by decide) ?_
      refine lv_ixor hx hb d_MI_join_80 ?_
      refine tp_i (y := (5 : Int32)) (by decide) ?_
      refine va_lald hx hb hK hP 1 1 rfl rfl (vp_in_iff.mpr (by decide)) d_MI_join_81 ?_
      refine tp_l (y := cf 5) (by rfl) ?_
      refine lv_lmul hx hb d_MI_join_82 ?_
      refine lv_aload_n hx hb d_MI_join_83 rfl (lv_at hl 8 rfl) ?_
      refine va_get (D := D) (ci := 1) (v := .ref pa) (C := cn_PL) (T := ft_PL) (N := 3) hx hb hf_PL (fun _ h => h) hown hK hP 3 rfl rfl 0 (by decide) (gw.at G hx0 mw_40 rfl _) (fun _ h9 => h9) rfl d_MI_join_84 ?_
      refine lv_iload_n hx hb d_MI_join_87 rfl (lv_at hl 9 rfl) ?_
      refine lv_iconst (v := (4 : Int32)) hx hb d_MI_join_88 (by decide) ?_
      refine lv_imul hx hb d_MI_join_89 ?_
      refine tp_i (y := nI (w * 4)) (nI_mul w 4) ?_
      refine lv_iload hx hb d_MI_join_90 (lv_at hl 0 rfl) ?_
      refine lv_iadd hx hb d_MI_join_92 ?_
      refine tp_i (y := nI ((w * 4) + 3)) (nI_add (w * 4) 3) ?_
      refine va_iald hx hb hK hP 4 0 rfl rfl (vp_in_nI (n := (w * 4) + 3) (by omega) (by omega)) d_MI_join_93 ?_
      refine tp_i (y := pf ((w * 4) + 3)) (congrArg pf (nI_clamp (n := (w * 4) + 3) (by omega))) ?_
      refine lv_i2l (v := (pf ((w * 4) + 3)).toInt64) hx hb d_MI_join_94 rfl ?_
      refine lv_lmul hx hb d_MI_join_95 ?_
      refine lv_ladd hx hb d_MI_join_96 ?_
      refine lv_lstore (lv' := [(7, .long ((0 : Int64) + (((1 : Int64) * (cf 5)) * ((pf ((w * 4) + 3)).toInt64)))), (10, .int (3 : Int32)), (9, .int (1 : Int32)), (6, .int (13 : Int32)), (5, .int (13 : Int32)), (3, .int (bi ((False ∨ ¬ mex cf (rowAt pf w) 7 = 0) ∨ ¬ mex cf (rowAt pf w) 11 = 0))), (4, .int (15 : Int32)), (0, .ref mi), (1, .ref pl), (2, .int (nI w))]) hx hb d_MI_join_97 hl (by decide) rfl (fun ls hl => ?_)
      refine lv_iload hx hb d_MI_join_99 (lv_at hl 2 rfl) ?_
      refine lv_ineg hx hb d_MI_join_101 ?_
      refine tp_i (y := (-1 : Int32)) (by decide) ?_
      refine lv_istore (lv' := [(9, .int (-1 : Int32)), (7, .long ((0 : Int64) + (((1 : Int64) * (cf 5)) * ((pf ((w * 4) + 3)).toInt64)))), (10, .int (3 : Int32)), (6, .int (13 : Int32)), (5, .int (13 : Int32)), (3, .int (bi ((False ∨ ¬ mex cf (rowAt pf w) 7 = 0) ∨ ¬ mex cf (rowAt pf w) 11 = 0))), (4, .int (15 : Int32)), (0, .ref mi), (1, .ref pl), (2, .int (nI w))]) hx hb d_MI_join_102 hl (by decide) rfl (fun ls hl => ?_)
      refine lv_iinc (lv' := [(10, .int (2 : Int32)), (9, .int (-1 : Int32)), (7, .long ((0 : Int64) + (((1 : Int64) * (cf 5)) * ((pf ((w * 4) + 3)).toInt64)))), (6, .int (13 : Int32)), (5, .int (13 : Int32)), (3, .int (bi ((False ∨ ¬ mex cf (rowAt pf w) 7 = 0) ∨ ¬ mex cf (rowAt pf w) 11 = 0))), (4, .int (15 : Int32)), (0, .ref mi), (1, .ref pl), (2, .int (nI w))]) (k := 2) (v := (2 : Int32)) hx hb d_MI_join_104 hl rfl (by decide) (by decide) rfl (fun ls hl => ?_)
      refine lv_goto (tgt := 50) hx hb d_MI_join_107 (by decide) ?_
      refine lv_iload hx hb d_MI_join_50 (lv_at hl 0 rfl) ?_
      refine lv_if_lt (tgt := 110) hx hb d_MI_join_52 (by decide) (fun h99 => absurd h99 (by decide)) (fun _ => ?_)
      refine lv_iload hx hb d_MI_join_55 (lv_at hl 3 rfl) ?_
      refine lv_iload hx hb d_MI_join_57 (lv_at hl 0 rfl) ?_
      refine lv_ishr hx hb d_MI_join_59 ?_
      refine tp_i (y := (3 : Int32)) (by decide) ?_
      refine lv_iconst (v := (1 : Int32)) hx hb d_MI_join_60 (by decide) ?_
      refine lv_iand hx hb d_MI_join_61 ?_
      refine tp_i (y := (1 : Int32)) (by decide) ?_
      refine lv_if_eq (tgt := 104) hx hb d_MI_join_62 (by decide) (fun h99 => absurd h99 (by decide)) (fun _ => ?_)
      refine lv_lload hx hb d_MI_join_65 (lv_at hl 2 rfl) ?_
      refine lv_iload hx hb d_MI_join_67 (lv_at hl 1 rfl) ?_
      refine lv_i2l (v := (-1 : Int64)) hx hb d_MI_join_69 (by decide) ?_
      refine lv_aload_n hx hb d_MI_join_70 rfl (lv_at hl 7 rfl) ?_
      refine va_get (D := D) (ci := 2) (v := .ref cu) (C := cn_MI) (T := ft_MI) (N := 3) hx hb hf_MI (fun _ h => h) hown hK hP 0 rfl rfl 0 (by decide) (gw.at G hx0 mw_64 rfl _) (fun _ h9 => h9) rfl d_MI_join_71 ?_
      refine lv_iload hx hb d_MI_join_74 (lv_at hl 3 rfl) ?_
      refine lv_iconst (v := (1 : Int32)) hx hb d_MI_join_76 (by decide) ?_
      refine lv_iload hx hb d_MI_join_77 (lv_at hl 0 rfl) ?_
      refine lv_ishl hx hb d_MI_join_79 ?_
      refine tp_i (y := (4 : Int32)) (by decide) ?_
      refine lv_ixor hx hb d_MI_join_80 ?_
      refine tp_i (y := (9 : Int32)) (by decide) ?_
      refine va_lald hx hb hK hP 1 1 rfl rfl (vp_in_iff.mpr (by decide)) d_MI_join_81 ?_
      refine tp_l (y := cf 9) (by rfl) ?_
      refine lv_lmul hx hb d_MI_join_82 ?_
      refine lv_aload_n hx hb d_MI_join_83 rfl (lv_at hl 8 rfl) ?_
      refine va_get (D := D) (ci := 1) (v := .ref pa) (C := cn_PL) (T := ft_PL) (N := 3) hx hb hf_PL (fun _ h => h) hown hK hP 3 rfl rfl 0 (by decide) (gw.at G hx0 mw_40 rfl _) (fun _ h9 => h9) rfl d_MI_join_84 ?_
      refine lv_iload_n hx hb d_MI_join_87 rfl (lv_at hl 9 rfl) ?_
      refine lv_iconst (v := (4 : Int32)) hx hb d_MI_join_88 (by decide) ?_
      refine lv_imul hx hb d_MI_join_89 ?_
      refine tp_i (y := nI (w * 4)) (nI_mul w 4) ?_
      refine lv_iload hx hb d_MI_join_90 (lv_at hl 0 rfl) ?_
      refine lv_iadd hx hb d_MI_join_92 ?_
      refine tp_i (y := nI ((w * 4) + 2)) (nI_add (w * 4) 2) ?_
      refine va_iald hx hb hK hP 4 0 rfl rfl (vp_in_nI (n := (w * 4) + 2) (by omega) (by omega)) d_MI_join_93 ?_
      refine tp_i (y := pf ((w * 4) + 2)) (congrArg pf (nI_clamp (n := (w * 4) + 2) (by omega))) ?_
      refine lv_i2l (v := (pf ((w * 4) + 2)).toInt64) hx hb d_MI_join_94 rfl ?_
      refine lv_lmul hx hb d_MI_join_95 ?_
      refine lv_ladd hx hb d_MI_join_96 ?_
      refine lv_lstore (lv' := [(7, .long (((0 : Int64) + (((1 : Int64) * (cf 5)) * ((pf ((w * 4) + 3)).toInt64))) + (((-1 : Int64) * (cf 9)) * ((pf ((w * 4) + 2)).toInt64)))), (10, .int (2 : Int32)), (9, .int (-1 : Int32)), (6, .int (13 : Int32)), (5, .int (13 : Int32)), (3, .int (bi ((False ∨ ¬ mex cf (rowAt pf w) 7 = 0) ∨ ¬ mex cf (rowAt pf w) 11 = 0))), (4, .int (15 : Int32)), (0, .ref mi), (1, .ref pl), (2, .int (nI w))]) hx hb d_MI_join_97 hl (by decide) rfl (fun ls hl => ?_)
      refine lv_iload hx hb d_MI_join_99 (lv_at hl 2 rfl) ?_
      refine lv_ineg hx hb d_MI_join_101 ?_
      refine tp_i (y := (1 : Int32)) (by decide) ?_
      refine lv_istore (lv' := [(9, .int (1 : Int32)), (7, .long (((0 : Int64) + (((1 : Int64) * (cf 5)) * ((pf ((w * 4) + 3)).toInt64))) + (((-1 : Int64) * (cf 9)) * ((pf ((w * 4) + 2)).toInt64)))), (10, .int (2 : Int32)), (6, .int (13 : Int32)), (5, .int (13 : Int32)), (3, .int (bi ((False ∨ ¬ mex cf (rowAt pf w) 7 = 0) ∨ ¬ mex cf (rowAt pf w) 11 = 0))), (4, .int (15 : Int32)), (0, .ref mi), (1, .ref pl), (2, .int (nI w))]) hx hb d_MI_join_102 hl (by decide) rfl (fun ls hl => ?_)
      refine lv_iinc (lv' := [(10, .int (1 : Int32)), (9, .int (1 : Int32)), (7, .long (((0 : Int64) + (((1 : Int64) * (cf 5)) * ((pf ((w * 4) + 3)).toInt64))) + (((-1 : Int64) * (cf 9)) * ((pf ((w * 4) + 2)).toInt64)))), (6, .int (13 : Int32)), (5, .int (13 : Int32)), (3, .int (bi ((False ∨ ¬ mex cf (rowAt pf w) 7 = 0) ∨ ¬ mex cf (rowAt pf w) 11 = 0))), (4, .int (15 : Int32)), (0, .ref mi), (1, .ref pl), (2, .int (nI w))]) (k := 2) (v := (1 : Int32)) hx hb d_MI_join_104 hl rfl (by decide) (by decide) rfl (fun ls hl => ?_)
      refine lv_goto (tgt := 50) hx hb d_MI_join_107 (by decide) ?_
      refine lv_iload hx hb d_MI_join_50 (lv_at hl 0 rfl) ?_
      refine lv_if_lt (tgt := 110) hx hb d_MI_join_52 (by decide) (fun h99 => absurd h99 (by decide)) (fun _ => ?_)
      refine lv_iload hx hb d_MI_join_55 (lv_at hl 3 rfl) ?_
      refine lv_iload hx hb d_MI_join_57 (lv_at hl 0 rfl) ?_
      refine lv_ishr hx hb d_MI_join_59 ?_
      refine tp_i (y := (6 : Int32)) (by decide) ?_
      refine lv_iconst (v := (1 : Int32)) hx hb d_MI_join_60 (by decide) ?_
      refine lv_iand hx hb d_MI_join_61 ?_
      refine tp_i (y := (0 : Int32)) (by decide) ?_
      refine lv_if_eq (tgt := 104) hx hb d_MI_join_62 (by decide) (fun _ => ?_) (fun h99 => absurd h99 (by decide))
      refine lv_iinc (lv' := [(10, .int (0 : Int32)), (9, .int (1 : Int32)), (7, .long (((0 : Int64) + (((1 : Int64) * (cf 5)) * ((pf ((w * 4) + 3)).toInt64))) + (((-1 : Int64) * (cf 9)) * ((pf ((w * 4) + 2)).toInt64)))), (6, .int (13 : Int32)), (5, .int (13 : Int32)), (3, .int (bi ((False ∨ ¬ mex cf (rowAt pf w) 7 = 0) ∨ ¬ mex cf (rowAt pf w) 11 = 0))), (4, .int (15 : Int32)), (0, .ref mi), (1, .ref pl), (2, .int (nI w))]) (k := 0) (v := (0 : Int32)) hx hb d_MI_join_104 hl rfl (by decide) (by decide) rfl (fun ls hl => ?_)
      refine lv_goto (tgt := 50) hx hb d_MI_join_107 (by decide) ?_
      refine lv_iload hx hb d_MI_join_50 (lv_at hl 0 rfl) ?_
      refine lv_if_lt (tgt := 110) hx hb d_MI_join_52 (by decide) (fun h99 => absurd h99 (by decide)) (fun _ => ?_)
      refine lv_iload hx hb d_MI_join_55 (lv_at hl 3 rfl) ?_
      refine lv_iload hx hb d_MI_join_57 (lv_at hl 0 rfl) ?_
      refine lv_ishr hx hb d_MI_join_59 ?_
      refine tp_i (y := (13 : Int32)) (by decide) ?_
      refine lv_iconst (v := (1 : Int32)) hx hb d_MI_join_60 (by decide) ?_
      refine lv_iand hx hb d_MI_join_61 ?_
      refine tp_i (y := (1 : Int32)) (by decide) ?_
      refine lv_if_eq (tgt := 104) hx hb d_MI_join_62 (by decide) (fun h99 => absurd h99 (by decide)) (fun _ => ?_)
      refine lv_lload hx hb d_MI_join_65 (lv_at hl 2 rfl) ?_
      refine lv_iload hx hb d_MI_join_67 (lv_at hl 1 rfl) ?_
      refine lv_i2l (v := (1 : Int64)) hx hb d_MI_join_69 (by decide) ?_
      refine lv_aload_n hx hb d_MI_join_70 rfl (lv_at hl 7 rfl) ?_
      refine va_get (D := D) (ci := 2) (v := .ref cu) (C := cn_MI) (T := ft_MI) (N := 3) hx hb hf_MI (fun _ h => h) hown hK hP 0 rfl rfl 0 (by decide) (gw.at G hx0 mw_64 rfl _) (fun _ h9 => h9) rfl d_MI_join_71 ?_
      refine lv_iload hx hb d_MI_join_74 (lv_at hl 3 rfl) ?_
      refine lv_iconst (v := (1 : Int32)) hx hb d_MI_join_76 (by decide) ?_
      refine lv_iload hx hb d_MI_join_77 (lv_at hl 0 rfl) ?_
      refine lv_ishl hx hb d_MI_join_79 ?_
      refine tp_i (y := (1 : Int32)) (by decide) ?_
      refine lv_ixor hx hb d_MI_join_80 ?_
      refine tp_i (y := (12 : Int32)) (by decide) ?_
      refine va_lald hx hb hK hP 1 1 rfl rfl (vp_in_iff.mpr (by decide)) d_MI_join_81 ?_
      refine tp_l (y := cf 12) (by rfl) ?_
      refine lv_lmul hx hb d_MI_join_82 ?_
      refine lv_aload_n hx hb d_MI_join_83 rfl (lv_at hl 8 rfl) ?_
      refine va_get (D := D) (ci := 1) (v := .ref pa) (C := cn_PL) (T := ft_PL) (N := 3) hx hb hf_PL (fun _ h => h) hown hK hP 3 rfl rfl 0 (by decide) (gw.at G hx0 mw_40 rfl _) (fun _ h9 => h9) rfl d_MI_join_84 ?_
      refine lv_iload_n hx hb d_MI_join_87 rfl (lv_at hl 9 rfl) ?_
      refine lv_iconst (v := (4 : Int32)) hx hb d_MI_join_88 (by decide) ?_
      refine lv_imul hx hb d_MI_join_89 ?_
      refine tp_i (y := nI (w * 4)) (nI_mul w 4) ?_
      refine lv_iload hx hb d_MI_join_90 (lv_at hl 0 rfl) ?_
      refine lv_iadd hx hb d_MI_join_92 ?_
      refine tp_i (y := nI ((w * 4) + 0)) (nI_add (w * 4) 0) ?_
      refine va_iald hx hb hK hP 4 0 rfl rfl (vp_in_nI (n := (w * 4) + 0) (by omega) (by omega)) d_MI_join_93 ?_
      refine tp_i (y := pf ((w * 4) + 0)) (congrArg pf (nI_clamp (n := (w * 4) + 0) (by omega))) ?_
      refine lv_i2l (v := (pf ((w * 4) + 0)).toInt64) hx hb d_MI_join_94 rfl ?_
      refine lv_lmul hx hb d_MI_join_95 ?_
      refine lv_ladd hx hb d_MI_join_96 ?_
      refine lv_lstore (lv' := [(7, .long ((((0 : Int64) + (((1 : Int64) * (cf 5)) * ((pf ((w * 4) + 3)).toInt64))) + (((-1 : Int64) * (cf 9)) * ((pf ((w * 4) + 2)).toInt64))) + (((1 : Int64) * (cf 12)) * ((pf ((w * 4) + 0)).toInt64)))), (10, .int (0 : Int32)), (9, .int (1 : Int32)), (6, .int (13 : Int32)), (5, .int (13 : Int32)), (3, .int (bi ((False ∨ ¬ mex cf (rowAt pf w) 7 = 0) ∨ ¬ mex cf (rowAt pf w) 11 = 0))), (4, .int (15 : Int32)), (0, .ref mi), (1, .ref pl), (2, .int (nI w))]) hx hb d_MI_join_97 hl (by decide) rfl (fun ls hl => ?_)
      refine lv_iload hx hb d_MI_join_99 (lv_at hl 2 rfl) ?_
      refine lv_ineg hx hb d_MI_join_101 ?_
      refine tp_i (y := (-1 : Int32)) (by decide) ?_
      refine lv_istore (lv' := [(9, .int (-1 : Int32)), (7, .long ((((0 : Int64) + (((1 : Int64) * (cf 5)) * ((pf ((w * 4) + 3)).toInt64))) + (((-1 : Int64) * (cf 9)) * ((pf ((w * 4) + 2)).toInt64))) + (((1 : Int64) * (cf 12)) * ((pf ((w * 4) + 0)).toInt64)))), (10, .int (0 : Int32)), (6, .int (13 : Int32)), (5, .int (13 : Int32)), (3, .int (bi ((False ∨ ¬ mex cf (rowAt pf w) 7 = 0) ∨ ¬ mex cf (rowAt pf w) 11 = 0))), (4, .int (15 : Int32)), (0, .ref mi), (1, .ref pl), (2, .int (nI w))]) hx hb d_MI_join_102 hl (by decide) rfl (fun ls hl => ?_)
      refine lv_iinc (lv' := [(10, .int (-1 : Int32)), (9, .int (-1 : Int32)), (7, .long ((((0 : Int64) + (((1 : Int64) * (cf 5)) * ((pf ((w * 4) + 3)).toInt64))) + (((-1 : Int64) * (cf 9)) * ((pf ((w * 4) + 2)).toInt64))) + (((1 : Int64) * (cf 12)) * ((pf ((w * 4) + 0)).toInt64)))), (6, .int (13 : Int32)), (5, .int (13 : Int32)), (3, .int (bi ((False ∨ ¬ mex cf (rowAt pf w) 7 = 0) ∨ ¬ mex cf (rowAt pf w) 11 = 0))), (4, .int (15 : Int32)), (0, .ref mi), (1, .ref pl), (2, .int (nI w))]) (k := 2) (v := (-1 : Int32)) hx hb d_MI_join_104 hl rfl (by decide) (by decide) rfl (fun ls hl => ?_)
      refine lv_goto (tgt := 50) hx hb d_MI_join_107 (by decide) ?_
      refine lv_iload hx hb d_MI_join_50 (lv_at hl 0 rfl) ?_
      refine lv_if_lt (tgt := 110) hx hb d_MI_join_52 (by decide) (fun _ => ?_) (fun h99 => absurd h99 (by decide))
      refine lv_aload_n hx hb d_MI_join_110 rfl (lv_at hl 7 rfl) ?_
      refine va_get (D := D) (ci := 2) (v := .ref nx) (C := cn_MI) (T := ft_MI) (N := 3) hx hb hf_MI (fun _ h => h) hown hK hP 0 rfl rfl 1 (by decide) (gw.at G hx0 mw_65 rfl _) (fun _ h9 => h9) rfl d_MI_join_111 ?_
      refine lv_iload hx hb d_MI_join_114 (lv_at hl 3 rfl) ?_
      refine lv_lload hx hb d_MI_join_116 (lv_at hl 2 rfl) ?_
      refine tp_l (y := mex cf (rowAt pf w) 13) (by rfl) ?_
      refine va_last hx hb hK hP hD hS 2 1 rfl rfl (vp_in_iff.mpr (by decide)) d_MI_join_118 (fun H locs hP hD hS => ?_)
      have hP : va_P D kl [(mi, .inr (2, [.ref cu, .ref nx, .int (2 : Int32)])), (cu, .inl (cJ, 16, .inr (.inl cf))), (nx, .inl (cJ, 16, .inr (.inl (vp_updL (vp_updL (vp_updL nf 7 (mex cf (rowAt pf w) 7)) 11 (mex cf (rowAt pf w) 11)) 13 (mex cf (rowAt pf w) 13))))), (pl, .inr (1, [.ref pa, .int (nI ct), .int (nI mo)])), (pa, .inl (cI, pz, .inl pf))] H := hP
      have hD : va_D A [(mi, .inr (2, [.ref cu, .ref nx, .int (2 : Int32)])), (cu, .inl (cJ, 16, .inr (.inl cf))), (nx, .inl (cJ, 16, .inr (.inl (vp_updL (vp_updL (vp_updL nf 7 (mex cf (rowAt pf w) 7)) 11 (mex cf (rowAt pf w) 11)) 13 (mex cf (rowAt pf w) 13))))), (pl, .inr (1, [.ref pa, .int (nI ct), .int (nI mo)])), (pa, .inl (cI, pz, .inl pf))] := hD
      have K_3 : W p l e ({ frames := 0, cells := 0, slots := 0, locals := 0 } : Room) s m ([.ref mi, .ref pl, .int (nI w)] : List Value).toArray below meth c H locs 0 0 Q (F0 m 135 ls [.int (bi (((False ∨ ¬ mex cf (rowAt pf w) 7 = 0) ∨ ¬ mex cf (rowAt pf w) 11 = 0) ∨ ¬ mex cf (rowAt pf w) 13 = 0))]) := by
        refine lv_istore_n (lv' := [(3, .int (bi (((False ∨ ¬ mex cf (rowAt pf w) 7 = 0) ∨ ¬ mex cf (rowAt pf w) 11 = 0) ∨ ¬ mex cf (rowAt pf w) 13 = 0))), (10, .int (-1 : Int32)), (9, .int (-1 : Int32)), (7, .long ((((0 : Int64) + (((1 : Int64) * (cf 5)) * ((pf ((w * 4) + 3)).toInt64))) + (((-1 : Int64) * (cf 9)) * ((pf ((w * 4) + 2)).toInt64))) + (((1 : Int64) * (cf 12)) * ((pf ((w * 4) + 0)).toInt64)))), (6, .int (13 : Int32)), (5, .int (13 : Int32)), (4, .int (15 : Int32)), (0, .ref mi), (1, .ref pl), (2, .int (nI w))]) hx hb d_MI_join_135 rfl hl (by decide) rfl (fun ls hl => ?_)
        refine lv_iinc (lv' := [(5, .int (14 : Int32)), (3, .int (bi (((False ∨ ¬ mex cf (rowAt pf w) 7 = 0) ∨ ¬ mex cf (rowAt pf w) 11 = 0) ∨ ¬ mex cf (rowAt pf w) 13 = 0))), (10, .int (-1 : Int32)), (9, .int (-1 : Int32)), (7, .long ((((0 : Int64) + (((1 : Int64) * (cf 5)) * ((pf ((w * 4) + 3)).toInt64))) + (((-1 : Int64) * (cf 9)) * ((pf ((w * 4) + 2)).toInt64))) + (((1 : Int64) * (cf 12)) * ((pf ((w * 4) + 0)).toInt64)))), (6, .int (13 : Int32)), (4, .int (15 : Int32)), (0, .ref mi), (1, .ref pl), (2, .int (nI w))]) (k := 5) (v := (14 : Int32)) hx hb d_MI_join_136 hl rfl (by decide) (by decide) rfl (fun ls hl => ?_)
        refine lv_goto (tgt := 26) hx hb d_MI_join_139 (by decide) ?_
        refine lv_iload hx hb d_MI_join_26 (lv_at hl 0 rfl) ?_
        refine lv_iload hx hb d_MI_join_28 (lv_at hl 6 rfl) ?_
        refine lv_icmp_ge (tgt := 142) hx hb d_MI_join_30 (by decide) (fun h99 => absurd h99 (by decide)) (fun _ => ?_)
        refine va_getsN hx hb hZC hS hown (gw.at G hx0 mw_62 rfl _) (fun _ h9 => h9) d_MI_join_33 ?_
        refine lv_iload hx hb d_MI_join_36 (lv_at hl 0 rfl) ?_
        refine va_ti hx hb hTC hS (vp_in_iff.mpr (by decide)) (v := .int (14 : Int32)) (by decide) d_MI_join_38 ?_
        refine lv_istore (lv' := [(6, .int (14 : Int32)), (5, .int (14 : Int32)), (3, .int (bi (((False ∨ ¬ mex cf (rowAt pf w) 7 = 0) ∨ ¬ mex cf (rowAt pf w) 11 = 0) ∨ ¬ mex cf (rowAt pf w) 13 = 0))), (10, .int (-1 : Int32)), (9, .int (-1 : Int32)), (7, .long ((((0 : Int64) + (((1 : Int64) * (cf 5)) * ((pf ((w * 4) + 3)).toInt64))) + (((-1 : Int64) * (cf 9)) * ((pf ((w * 4) + 2)).toInt64))) + (((1 : Int64) * (cf 12)) * ((pf ((w * 4) + 0)).toInt64)))), (4, .int (15 : Int32)), (0, .ref mi), (1, .ref pl), (2, .int (nI w))]) hx hb d_MI_join_39 hl (by decide) rfl (fun ls hl => ?_)
        refine lv_lconst (v := (0 : Int64)) hx hb d_MI_join_41 (by decide) ?_
        refine lv_lstore (lv' := [(7, .long (0 : Int64)), (6, .int (14 : Int32)), (5, .int (14 : Int32)), (3, .int (bi (((False ∨ ¬ mex cf (rowAt pf w) 7 = 0) ∨ ¬ mex cf (rowAt pf w) 11 = 0) ∨ ¬ mex cf (rowAt pf w) 13 = 0))), (10, .int (-1 : Int32)), (9, .int (-1 : Int32)), (4, .int (15 : Int32)), (0, .ref mi), (1, .ref pl), (2, .int (nI w))]) hx hb d_MI_join_42 hl (by decide) rfl (fun ls hl => ?_)
        refine lv_iconst (v := (1 : Int32)) hx hb d_MI_join_44 (by decide) ?_
        refine lv_istore (lv' := [(9, .int (1 : Int32)), (7, .long (0 : Int64)), (6, .int (14 : Int32)), (5, .int (14 : Int32)), (3, .int (bi (((False ∨ ¬ mex cf (rowAt pf w) 7 = 0) ∨ ¬ mex cf (rowAt pf w) 11 = 0) ∨ ¬ mex cf (rowAt pf w) 13 = 0))), (10, .int (-1 : Int32)), (4, .int (15 : Int32)), (0, .ref mi), (1, .ref pl), (2, .int (nI w))]) hx hb d_MI_join_45 hl (by decide) rfl (fun ls hl => ?_)
        refine lv_iconst (v := (3 : Int32)) hx hb d_MI_join_47 (by decide) ?_
        refine lv_istore (lv' := [(10, .int (3 : Int32)), (9, .int (1 : Int32)), (7, .long (0 : Int64)), (6, .int (14 : Int32)), (5, .int (14 : Int32)), (3, .int (bi (((False ∨ ¬ mex cf (rowAt pf w) 7 = 0) ∨ ¬ mex cf (rowAt pf w) 11 = 0) ∨ ¬ mex cf (rowAt pf w) 13 = 0))), (4, .int (15 : Int32)), (0, .ref mi), (1, .ref pl), (2, .int (nI w))]) hx hb d_MI_join_48 hl (by decide) rfl (fun ls hl => ?_)
        refine lv_iload hx hb d_MI_join_50 (lv_at hl 0 rfl) ?_
        refine lv_if_lt (tgt := 110) hx hb d_MI_join_52 (by decide) (fun h99 => absurd h99 (by decide)) (fun _ => ?_)
        refine lv_iload hx hb d_MI_join_55 (lv_at hl 3 rfl) ?_
        refine lv_iload hx hb d_MI_join_57 (lv_at hl 0 rfl) ?_
        refine lv_ishr hx hb d_MI_join_59 ?_
        refine tp_i (y := (1 : Int32)) (by decide) ?_
        refine lv_iconst (v := (1 : Int32)) hx hb d_MI_join_60 (by decide) ?_
        refine lv_iand hx hb d_MI_join_61 ?_
        refine tp_i (y := (1 : Int32)) (by decide) ?_
        refine lv_if_eq (tgt := 104) hx hb d_MI_join_62 (by decide) (fun h99 => absurd h99 (by decide)) (fun _ => ?_)
        refine lv_lload hx hb d_MI_join_65 (lv_at hl 2 rfl) ?_
        refine lv_iload hx hb d_MI_join_67 (lv_at hl 1 rfl) ?_
        refine lv_i2l (v := (1 : Int64)) hx hb d_MI_join_69 (by decide) ?_
        refine lv_aload_n hx hb d_MI_join_70 rfl (lv_at hl 7 rfl) ?_
        refine va_get (D := D) (ci := 2) (v := .ref cu) (C := cn_MI) (T := ft_MI) (N := 3) hx hb hf_MI (fun _ h => h) hown hK hP 0 rfl rfl 0 (by decide) (gw.at G hx0 mw_64 rfl _) (fun _ h9 => h9) rfl d_MI_join_71 ?_
        refine lv_iload hx hb d_MI_join_74 (lv_at hl 3 rfl) ?_
        refine lv_iconst (v := (1 : Int32)) hx hb d_MI_join_76 (by decide) ?_
        refine lv_iload hx hb d_MI_join_77 (lv_at hl 0 rfl) ?_
        refine lv_ishl hx hb d_MI_join_79 ?_
        refine tp_i (y := (8 : Int32)) (by decide) ?_
        refine lv_ixor hx hb d_MI_join_80 ?_
        refine tp_i (y := (6 : Int32)) (by decide) ?_
        refine va_lald hx hb hK hP 1 1 rfl rfl (vp_in_iff.mpr (by decide)) d_MI_join_81 ?_
        refine tp_l (y := cf 6) (by rfl) ?_
        refine lv_lmul hx hb d_MI_join_82 ?_
        refine lv_aload_n hx hb d_MI_join_83 rfl (lv_at hl 8 rfl) ?_
        refine va_get (D := D) (ci := 1) (v := .ref pa) (C := cn_PL) (T := ft_PL) (N := 3) hx hb hf_PL (fun _ h => h) hown hK hP 3 rfl rfl 0 (by decide) (gw.at G hx0 mw_40 rfl _) (fun _ h9 => h9) rfl d_MI_join_84 ?_
        refine lv_iload_n hx hb d_MI_join_87 rfl (lv_at hl 9 rfl) ?_
        refine lv_iconst (v := (4 : Int32)) hx hb d_MI_join_88 (by decide) ?_
        refine lv_imul hx hb d_MI_join_89 ?_
        refine tp_i (y := nI (w * 4)) (nI_mul w 4) ?_
        refine lv_iload hx hb d_MI_join_90 (lv_at hl 0 rfl) ?_
        refine lv_iadd hx hb d_MI_join_92 ?_
        refine tp_i (y := nI ((w * 4) + 3)) (nI_add (w * 4) 3) ?_
        refine va_iald hx hb hK hP 4 0 rfl rfl (vp_in_nI (n := (w * 4) + 3) (by omega) (by omega)) d_MI_join_93 ?_
        refine tp_i (y := pf ((w * 4) + 3)) (congrArg pf (nI_clamp (n := (w * 4) + 3) (by omega))) ?_
        refine lv_i2l (v := (pf ((w * 4) + 3)).toInt64) hx hb d_MI_join_94 rfl ?_
        refine lv_lmul hx hb d_MI_join_95 ?_
        refine lv_ladd hx hb d_MI_join_96 ?_
        refine lv_lstore (lv' := [(7, .long ((0 : Int64) + (((1 : Int64) * (cf 6)) * ((pf ((w * 4) + 3)).toInt64)))), (10, .int (3 : Int32)), (9, .int (1 : Int32)), (6, .int (14 : Int32)), (5, .int (14 : Int32)), (3, .int (bi (((False ∨ ¬ mex cf (rowAt pf w) 7 = 0) ∨ ¬ mex cf (rowAt pf w) 11 = 0) ∨ ¬ mex cf (rowAt pf w) 13 = 0))), (4, .int (15 : Int32)), (0, .ref mi), (1, .ref pl), (2, .int (nI w))]) hx hb d_MI_join_97 hl (by decide) rfl (fun ls hl => ?_)
        refine lv_iload hx hb d_MI_join_99 (lv_at hl 2 rfl) ?_
        refine lv_ineg hx hb d_MI_join_101 ?_
        refine tp_i (y := (-1 : Int32)) (by decide) ?_
        refine lv_istore (lv' := [(9, .int (-1 : Int32)), (7, .long ((0 : Int64) + (((1 : Int64) * (cf 6)) * ((pf ((w * 4) + 3)).toInt64)))), (10, .int (3 : Int32)), (6, .int (14 : Int32)), (5, .int (14 : Int32)), (3, .int (bi (((False ∨ ¬ mex cf (rowAt pf w) 7 = 0) ∨ ¬ mex cf (rowAt pf w) 11 = 0) ∨ ¬ mex cf (rowAt pf w) 13 = 0))), (4, .int (15 : Int32)), (0, .ref mi), (1, .ref pl), (2, .int (nI w))]) hx hb d_MI_join_102 hl (by decide) rfl (fun ls hl => ?_)
        refine lv_iinc (lv' := [(10, .int (2 : Int32)), (9, .int (-1 : Int32)), (7, .long ((0 : Int64) + (((1 : Int64) * (cf 6)) * ((pf ((w * 4) + 3)).toInt64)))), (6, .int (14 : Int32)), (5, .int (14 : Int32)), (3, .int (bi (((False ∨ ¬ mex cf (rowAt pf w) 7 = 0) ∨ ¬ mex cf (rowAt pf w) 11 = 0) ∨ ¬ mex cf (rowAt pf w) 13 = 0))), (4, .int (15 : Int32)), (0, .ref mi), (1, .ref pl), (2, .int (nI w))]) (k := 2) (v := (2 : Int32)) hx hb d_MI_join_104 hl rfl (by decide) (by decide) rfl (fun ls hl => ?_)
        refine lv_goto (tgt := 50) hx hb d_MI_join_107 (by decide) ?_
        refine lv_iload hx hb d_MI_join_50 (lv_at hl 0 rfl) ?_
        refine lv_if_lt (tgt := 110) hx hb d_MI_join_52 (by decide) (fun h99 => absurd h99 (by decide)) (fun _ => ?_)
        refine lv_iload hx hb d_MI_join_55 (lv_at hl 3 rfl) ?_
        refine lv_iload hx hb d_MI_join_57 (lv_at hl 0 rfl) ?_
        refine lv_ishr hx hb d_MI_join_59 ?_
        refine tp_i (y := (3 : Int32)) (by decide) ?_
        refine lv_iconst (v := (1 : Int32)) hx hb d_MI_join_60 (by decide) ?_
        refine lv_iand hx hb d_MI_join_61 ?_
        refine tp_i (y := (1 : Int32)) (by decide) ?_
        refine lv_if_eq (tgt := 104) hx hb d_MI_join_62 (by decide) (fun h99 => absurd h99 (by decide)) (fun _ => ?_)
        refine lv_lload hx hb d_MI_join_65 (lv_at hl 2 rfl) ?_
        refine lv_iload hx hb d_MI_join_67 (lv_at hl 1 rfl) ?_
        refine lv_i2l (v := (-1 : Int64)) hx hb d_MI_join_69 (by decide) ?_
        refine lv_aload_n hx hb d_MI_join_70 rfl (lv_at hl 7 rfl) ?_
        refine va_get (D := D) (ci := 2) (v := .ref cu) (C := cn_MI) (T := ft_MI) (N := 3) hx hb hf_MI (fun _ h => h) hown hK hP 0 rfl rfl 0 (by decide) (gw.at G hx0 mw_64 rfl _) (fun _ h9 => h9) rfl d_MI_join_71 ?_
        refine lv_iload hx hb d_MI_join_74 (lv_at hl 3 rfl) ?_
        refine lv_iconst (v := (1 : Int32)) hx hb d_MI_join_76 (by decide) ?_
        refine lv_iload hx hb d_MI_join_77 (lv_at hl 0 rfl) ?_
        refine lv_ishl hx hb d_MI_join_79 ?_
        refine tp_i (y := (4 : Int32)) (by decide) ?_
        refine lv_ixor hx hb d_MI_join_80 ?_
        refine tp_i (y := (10 : Int32)) (by decide) ?_
        refine va_lald hx hb hK hP 1 1 rfl rfl (vp_in_iff.mpr (by decide)) d_MI_join_81 ?_
        refine tp_l (y := cf 10) (by rfl) ?_
        refine lv_lmul hx hb d_MI_join_82 ?_
        refine lv_aload_n hx hb d_MI_join_83 rfl (lv_at hl 8 rfl) ?_
        refine va_get (D := D) (ci := 1) (v := .ref pa) (C := cn_PL) (T := ft_PL) (N := 3) hx hb hf_PL (fun _ h => h) hown hK hP 3 rfl rfl 0 (by decide) (gw.at G hx0 mw_40 rfl _) (fun _ h9 => h9) rfl d_MI_join_84 ?_
        refine lv_iload_n hx hb d_MI_join_87 rfl (lv_at hl 9 rfl) ?_
        refine lv_iconst (v := (4 : Int32)) hx hb d_MI_join_88 (by decide) ?_
        refine lv_imul hx hb d_MI_join_89 ?_
        refine tp_i (y := nI (w * 4)) (nI_mul w 4) ?_
        refine lv_iload hx hb d_MI_join_90 (lv_at hl 0 rfl) ?_
        refine lv_iadd hx hb d_MI_join_92 ?_
        refine tp_i (y := nI ((w * 4) + 2)) (nI_add (w * 4) 2) ?_
        refine va_iald hx hb hK hP 4 0 rfl rfl (vp_in_nI (n := (w * 4) + 2) (by omega) (by omega)) d_MI_join_93 ?_
        refine tp_i (y := pf ((w * 4) + 2)) (congrArg pf (nI_clamp (n := (w * 4) + 2) (by omega))) ?_
        refine lv_i2l (v := (pf ((w * 4) + 2)).toInt64) hx hb d_MI_join_94 rfl ?_
        refine lv_lmul hx hb d_MI_join_95 ?_
        refine lv_ladd hx hb d_MI_join_96 ?_
        refine lv_lstore (lv' := [(7, .long (((0 : Int64) + (((1 : Int64) * (cf 6)) * ((pf ((w * 4) + 3)).toInt64))) + (((-1 : Int64) * (cf 10)) * ((pf ((w * 4) + 2)).toInt64)))), (10, .int (2 : Int32)), (9, .int (-1 : Int32)), (6, .int (14 : Int32)), (5, .int (14 : Int32)), (3, .int (bi (((False ∨ ¬ mex cf (rowAt pf w) 7 = 0) ∨ ¬ mex cf (rowAt pf w) 11 = 0) ∨ ¬ mex cf (rowAt pf w) 13 = 0))), (4, .int (15 : Int32)), (0, .ref mi), (1, .ref pl), (2, .int (nI w))]) hx hb d_MI_join_97 hl (by decide) rfl (fun ls hl => ?_)
        refine lv_iload hx hb d_MI_join_99 (lv_at hl 2 rfl) ?_
        refine lv_ineg hx hb d_MI_join_101 ?_
        refine tp_i (y := (1 : Int32)) (by decide) ?_
        refine lv_istore (lv' := [(9, .int (1 : Int32)), (7, .long (((0 : Int64) + (((1 : Int64) * (cf 6)) * ((pf ((w * 4) + 3)).toInt64))) + (((-1 : Int64) * (cf 10)) * ((pf ((w * 4) + 2)).toInt64)))), (10, .int (2 : Int32)), (6, .int (14 : Int32)), (5, .int (14 : Int32)), (3, .int (bi (((False ∨ ¬ mex cf (rowAt pf w) 7 = 0) ∨ ¬ mex cf (rowAt pf w) 11 = 0) ∨ ¬ mex cf (rowAt pf w) 13 = 0))), (4, .int (15 : Int32)), (0, .ref mi), (1, .ref pl), (2, .int (nI w))]) hx hb d_MI_join_102 hl (by decide) rfl (fun ls hl => ?_)
        refine lv_iinc (lv' := [(10, .int (1 : Int32)), (9, .int (1 : Int32)), (7, .long (((0 : Int64) + (((1 : Int64) * (cf 6)) * ((pf ((w * 4) + 3)).toInt64))) + (((-1 : Int64) * (cf 10)) * ((pf ((w * 4) + 2)).toInt64)))), (6, .int (14 : Int32)), (5, .int (14 : Int32)), (3, .int (bi (((False ∨ ¬ mex cf (rowAt pf w) 7 = 0) ∨ ¬ mex cf (rowAt pf w) 11 = 0) ∨ ¬ mex cf (rowAt pf w) 13 = 0))), (4, .int (15 : Int32)), (0, .ref mi), (1, .ref pl), (2, .int (nI w))]) (k := 2) (v := (1 : Int32)) hx hb d_MI_join_104 hl rfl (by decide) (by decide) rfl (fun ls hl => ?_)
        refine lv_goto (tgt := 50) hx hb d_MI_join_107 (by decide) ?_
        refine lv_iload hx hb d_MI_join_50 (lv_at hl 0 rfl) ?_
        refine lv_if_lt (tgt := 110) hx hb d_MI_join_52 (by decide) (fun h99 => absurd h99 (by decide)) (fun _ => ?_)
        refine lv_iload hx hb d_MI_join_55 (lv_at hl 3 rfl) ?_
        refine lv_iload hx hb d_MI_join_57 (lv_at hl 0 rfl) ?_
        refine lv_ishr hx hb d_MI_join_59 ?_
        refine tp_i (y := (7 : Int32)) (by decide) ?_
        refine lv_iconst (v := (1 : Int32)) hx hb d_MI_join_60 (by decide) ?_
        refine lv_iand hx hb d_MI_join_61 ?_
        refine tp_i (y := (1 : Int32)) (by decide) ?_
        refine lv_if_eq (tgt := 104) hx hb d_MI_join_62 (by decide) (fun h99 => absurd h99 (by decide)) (fun _ => ?_)
        refine lv_lload hx hb d_MI_join_65 (lv_at hl 2 rfl) ?_
        refine lv_iload hx hb d_MI_join_67 (lv_at hl 1 rfl) ?_
        refine lv_i2l (v := (1 : Int64)) hx hb d_MI_join_69 (by decide) ?_
        refine lv_aload_n hx hb d_MI_join_70 rfl (lv_at hl 7 rfl) ?_
        refine va_get (D := D) (ci := 2) (v := .ref cu) (C := cn_MI) (T := ft_MI) (N := 3) hx hb hf_MI (fun _ h => h) hown hK hP 0 rfl rfl 0 (by decide) (gw.at G hx0 mw_64 rfl _) (fun _ h9 => h9) rfl d_MI_join_71 ?_
        refine lv_iload hx hb d_MI_join_74 (lv_at hl 3 rfl) ?_
        refine lv_iconst (v := (1 : Int32)) hx hb d_MI_join_76 (by decide) ?_
        refine lv_iload hx hb d_MI_join_77 (lv_at hl 0 rfl) ?_
        refine lv_ishl hx hb d_MI_join_79 ?_
        refine tp_i (y := (2 : Int32)) (by decide) ?_
        refine lv_ixor hx hb d_MI_join_80 ?_
        refine tp_i (y := (12 : Int32)) (by decide) ?_
        refine va_lald hx hb hK hP 1 1 rfl rfl (vp_in_iff.mpr (by decide)) d_MI_join_81 ?_
        refine tp_l (y := cf 12) (by rfl) ?_
        refine lv_lmul hx hb d_MI_join_82 ?_
        refine lv_aload_n hx hb d_MI_join_83 rfl (lv_at hl 8 rfl) ?_
        refine va_get (D := D) (ci := 1) (v := .ref pa) (C := cn_PL) (T := ft_PL) (N := 3) hx hb hf_PL (fun _ h => h) hown hK hP 3 rfl rfl 0 (by decide) (gw.at G hx0 mw_40 rfl _) (fun _ h9 => h9) rfl d_MI_join_84 ?_
        refine lv_iload_n hx hb d_MI_join_87 rfl (lv_at hl 9 rfl) ?_
        refine lv_iconst (v := (4 : Int32)) hx hb d_MI_join_88 (by decide) ?_
        refine lv_imul hx hb d_MI_join_89 ?_
        refine tp_i (y := nI (w * 4)) (nI_mul w 4) ?_
        refine lv_iload hx hb d_MI_join_90 (lv_at hl 0 rfl) ?_
        refine lv_iadd hx hb d_MI_join_92 ?_
        refine tp_i (y := nI ((w * 4) + 1)) (nI_add (w * 4) 1) ?_
        refine va_iald hx hb hK hP 4 0 rfl rfl (vp_in_nI (n := (w * 4) + 1) (by omega) (by omega)) d_MI_join_93 ?_
        refine tp_i (y := pf ((w * 4) + 1)) (congrArg pf (nI_clamp (n := (w * 4) + 1) (by omega))) ?_
        refine lv_i2l (v := (pf ((w * 4) + 1)).toInt64) hx hb d_MI_join_94 rfl ?_
        refine lv_lmul hx hb d_MI_join_95 ?_
        refine lv_ladd hx hb d_MI_join_96 ?_
        refine lv_lstore (lv' := [(7, .long ((((0 : Int64) + (((1 : Int64) * (cf 6)) * ((pf ((w * 4) + 3)).toInt64))) + (((-1 : Int64) * (cf 10)) * ((pf ((w * 4) + 2)).toInt64))) + (((1 : Int64) * (cf 12)) * ((pf ((w * 4) + 1)).toInt64)))), (10, .int (1 : Int32)), (9, .int (1 : Int32)), (6, .int (14 : Int32)), (5, .int (14 : Int32)), (3, .int (bi (((False ∨ ¬ mex cf (rowAt pf w) 7 = 0) ∨ ¬ mex cf (rowAt pf w) 11 = 0) ∨ ¬ mex cf (rowAt pf w) 13 = 0))), (4, .int (15 : Int32)), (0, .ref mi), (1, .ref pl), (2, .int (nI w))]) hx hb d_MI_join_97 hl (by decide) rfl (fun ls hl => ?_)
        refine lv_iload hx hb d_MI_join_99 (lv_at hl 2 rfl) ?_
        refine lv_ineg hx hb d_MI_join_101 ?_
        refine tp_i (y := (-1 : Int32)) (by decide) ?_
        refine lv_istore (lv' := [(9, .int (-1 : Int32)), (7, .long ((((0 : Int64) + (((1 : Int64) * (cf 6)) * ((pf ((w * 4) + 3)).toInt64))) + (((-1 : Int64) * (cf 10)) * ((pf ((w * 4) + 2)).toInt64))) + (((1 : Int64) * (cf 12)) * ((pf ((w * 4) + 1)).toInt64)))), (10, .int (1 : Int32)), (6, .int (14 : Int32)), (5, .int (14 : Int32)), (3, .int (bi (((False ∨ ¬ mex cf (rowAt pf w) 7 = 0) ∨ ¬ mex cf (rowAt pf w) 11 = 0) ∨ ¬ mex cf (rowAt pf w) 13 = 0))), (4, .int (15 : Int32)), (0, .ref mi), (1, .ref pl), (2, .int (nI w))]) hx hb d_MI_join_102 hl (by decide) rfl (fun ls hl => ?_)
        refine lv_iinc (lv' := [(10, .int (0 : Int32)), (9, .int (-1 : Int32)), (7, .long ((((0 : Int64) + (((1 : Int64) * (cf 6)) * ((pf ((w * 4) + 3)).toInt64))) + (((-1 : Int64) * (cf 10)) * ((pf ((w * 4) + 2)).toInt64))) + (((1 : Int64) * (cf 12)) * ((pf ((w * 4) + 1)).toInt64)))), (6, .int (14 : Int32)), (5, .int (14 : Int32)), (3, .int (bi (((False ∨ ¬ mex cf (rowAt pf w) 7 = 0) ∨ ¬ mex cf (rowAt pf w) 11 = 0) ∨ ¬ mex cf (rowAt pf w) 13 = 0))), (4, .int (15 : Int32)), (0, .ref mi), (1, .ref pl), (2, .int (nI w))]) (k := 2) (v := (0 : Int32)) hx hb d_MI_join_104 hl rfl (by decide) (by decide) rfl (fun ls hl => ?_)
        refine lv_goto (tgt := 50) hx hb d_MI_join_107 (by decide) ?_
        refine lv_iload hx hb d_MI_join_50 (lv_at hl 0 rfl) ?_
        refine lv_if_lt (tgt := 110) hx hb d_MI_join_52 (by decide) (fun h99 => absurd h99 (by decide)) (fun _ => ?_)
        refine lv_iload hx hb d_MI_join_55 (lv_at hl 3 rfl) ?_
        refine lv_iload hx hb d_MI_join_57 (lv_at hl 0 rfl) ?_
        refine lv_ishr hx hb d_MI_join_59 ?_
        refine tp_i (y := (14 : Int32)) (by decide) ?_
        refine lv_iconst (v := (1 : Int32)) hx hb d_MI_join_60 (by decide) ?_
        refine lv_iand hx hb d_MI_join_61 ?_
        refine tp_i (y := (0 : Int32)) (by decide) ?_
        refine lv_if_eq (tgt := 104) hx hb d_MI_join_62 (by decide) (fun _ => ?_) (fun h99 => absurd h99 (by decide))
        refine lv_iinc (lv' := [(10, .int (-1 : Int32)), (9, .int (-1 : Int32)), (7, .long ((((0 : Int64) + (((1 : Int64) * (cf 6)) * ((pf ((w * 4) + 3)).toInt64))) + (((-1 : Int64) * (cf 10)) * ((pf ((w * 4) + 2)).toInt64))) + (((1 : Int64) * (cf 12)) * ((pf ((w * 4) + 1)).toInt64)))), (6, .int (14 : Int32)), (5, .int (14 : Int32)), (3, .int (bi (((False ∨ ¬ mex cf (rowAt pf w) 7 = 0) ∨ ¬ mex cf (rowAt pf w) 11 = 0) ∨ ¬ mex cf (rowAt pf w) 13 = 0))), (4, .int (15 : Int32)), (0, .ref mi), (1, .ref pl), (2, .int (nI w))]) (k := 0) (v := (-1 : Int32)) hx hb d_MI_join_104 hl rfl (by decide) (by decide) rfl (fun ls hl => ?_)
        refine lv_goto (tgt := 50) hx hb d_MI_join_107 (by decide) ?_
        refine lv_iload hx hb d_MI_join_50 (lv_at hl 0 rfl) ?_
        refine lv_if_lt (tgt := 110) hx hb d_MI_join_52 (by decide) (fun _ => ?_) (fun h99 => absurd h99 (by decide))
        refine lv_aload_n hx hb d_MI_join_110 rfl (lv_at hl 7 rfl) ?_
        refine va_get (D := D) (ci := 2) (v := .ref nx) (C := cn_MI) (T := ft_MI) (N := 3) hx hb hf_MI (fun _ h => h) hown hK hP 0 rfl rfl 1 (by decide) (gw.at G hx0 mw_65 rfl _) (fun _ h9 => h9) rfl d_MI_join_111 ?_
        refine lv_iload hx hb d_MI_join_114 (lv_at hl 3 rfl) ?_
        refine lv_lload hx hb d_MI_join_116 (lv_at hl 2 rfl) ?_
        refine tp_l (y := mex cf (rowAt pf w) 14) (by rfl) ?_
        refine va_last hx hb hK hP hD hS 2 1 rfl rfl (vp_in_iff.mpr (by decide)) d_MI_join_118 (fun H locs hP hD hS => ?_)
        have hP : va_P D kl [(mi, .inr (2, [.ref cu, .ref nx, .int (2 : Int32)])), (cu, .inl (cJ, 16, .inr (.inl cf))), (nx, .inl (cJ, 16, .inr (.inl (vp_updL (vp_updL (vp_updL (vp_updL nf 7 (mex cf (rowAt pf w) 7)) 11 (mex cf (rowAt pf w) 11)) 13 (mex cf (rowAt pf w) 13)) 14 (mex cf (rowAt pf w) 14))))), (pl, .inr (1, [.ref pa, .int (nI ct), .int (nI mo)])), (pa, .inl (cI, pz, .inl pf))] H := hP
        have hD : va_D A [(mi, .inr (2, [.ref cu, .ref nx, .int (2 : Int32)])), (cu, .inl (cJ, 16, .inr (.inl cf))), (nx, .inl (cJ, 16, .inr (.inl (vp_updL (vp_updL (vp_updL (vp_updL nf 7 (mex cf (rowAt pf w) 7)) 11 (mex cf (rowAt pf w) 11)) 13 (mex cf (rowAt pf w) 13)) 14 (mex cf (rowAt pf w) 14))))), (pl, .inr (1, [.ref pa, .int (nI ct), .int (nI mo)])), (pa, .inl (cI, pz, .inl pf))] := hD
        have K_4 : W p l e ({ frames := 0, cells := 0, slots := 0, locals := 0 } : Room) s m ([.ref mi, .ref pl, .int (nI w)] : List Value).toArray below meth c H locs 0 0 Q (F0 m 135 ls [.int (bi ((((False ∨ ¬ mex cf (rowAt pf w) 7 = 0) ∨ ¬ mex cf (rowAt pf w) 11 = 0) ∨ ¬ mex cf (rowAt pf w) 13 = 0) ∨ ¬ mex cf (rowAt pf w) 14 = 0))]) := by
          refine lv_istore_n (lv' := [(3, .int (bi ((((False ∨ ¬ mex cf (rowAt pf w) 7 = 0) ∨ ¬ mex cf (rowAt pf w) 11 = 0) ∨ ¬ mex cf (rowAt pf w) 13 = 0) ∨ ¬ mex cf (rowAt pf w) 14 = 0))), (10, .int (-1 : Int32)), (9, .int (-1 : Int32)), (7, .long ((((0 : Int64) + (((1 : Int64) * (cf 6)) * ((pf ((w * 4) + 3)).toInt64))) + (((-1 : Int64) * (cf 10)) * ((pf ((w * 4) + 2)).toInt64))) + (((1 : Int64) * (cf 12)) * ((pf ((w * 4) + 1)).toInt64)))), (6, .int (14 : Int32)), (5, .int (14 : Int32)), (4, .int (15 : Int32)), (0, .ref mi), (1, .ref pl), (2, .int (nI w))]) hx hb d_MI_join_135 rfl hl (by decide) rfl (fun ls hl => ?_)
          refine lv_iinc (lv' := [(5, .int (15 : Int32)), (3, .int (bi ((((False ∨ ¬ mex cf (rowAt pf w) 7 = 0) ∨ ¬ mex cf (rowAt pf w) 11 = 0) ∨ ¬ mex cf (rowAt pf w) 13 = 0) ∨ ¬ mex cf (rowAt pf w) 14 = 0))), (10, .int (-1 : Int32)), (9, .int (-1 : Int32)), (7, .long ((((0 : Int64) + (((1 : Int64) * (cf 6)) * ((pf ((w * 4) + 3)).toInt64))) + (((-1 : Int64) * (cf 10)) * ((pf ((w * 4) + 2)).toInt64))) + (((1 : Int64) * (cf 12)) * ((pf ((w * 4) + 1)).toInt64)))), (6, .int (14 : Int32)), (4, .int (15 : Int32)), (0, .ref mi), (1, .ref pl), (2, .int (nI w))]) (k := 5) (v := (15 : Int32)) hx hb d_MI_join_136 hl rfl (by decide) (by decide) rfl (fun ls hl => ?_)
          refine lv_goto (tgt := 26) hx hb d_MI_join_139 (by decide) ?_
          refine lv_iload hx hb d_MI_join_26 (lv_at hl 0 rfl) ?_
          refine lv_iload hx hb d_MI_join_28 (lv_at hl 6 rfl) ?_
          refine lv_icmp_ge (tgt := 142) hx hb d_MI_join_30 (by decide) (fun _ => ?_) (fun h99 => absurd h99 (by decide))
          refine lv_iload_n hx hb d_MI_join_142 rfl (lv_at hl 1 rfl) ?_
          refine lv_if_eq (tgt := 176) hx hb d_MI_join_143 (by decide) (fun h99 => absurd h99 (bi_ne.mpr (by obtain ⟨m9, hm9, hz9⟩ := h; simp only [lev, List.mem_cons, List.not_mem_nil, or_false] at hm9; rcases hm9 with rfl | rfl | rfl | rfl <;> simp [hz9]))) (fun _ => ?_)
          refine lv_aload_n hx hb d_MI_join_146 rfl (lv_at hl 7 rfl) ?_
          refine va_get (D := D) (ci := 2) (v := .ref cu) (C := cn_MI) (T := ft_MI) (N := 3) hx hb hf_MI (fun _ h => h) hown hK hP 0 rfl rfl 0 (by decide) (gw.at G hx0 mw_64 rfl _) (fun _ h9 => h9) rfl d_MI_join_147 ?_
          refine lv_astore (lv' := [(5, .ref cu), (3, .int (bi ((((False ∨ ¬ mex cf (rowAt pf w) 7 = 0) ∨ ¬ mex cf (rowAt pf w) 11 = 0) ∨ ¬ mex cf (rowAt pf w) 13 = 0) ∨ ¬ mex cf (rowAt pf w) 14 = 0))), (10, .int (-1 : Int32)), (9, .int (-1 : Int32)), (7, .long ((((0 : Int64) + (((1 : Int64) * (cf 6)) * ((pf ((w * 4) + 3)).toInt64))) + (((-1 : Int64) * (cf 10)) * ((pf ((w * 4) + 2)).toInt64))) + (((1 : Int64) * (cf 12)) * ((pf ((w * 4) + 1)).toInt64)))), (6, .int (14 : Int32)), (4, .int (15 : Int32)), (0, .ref mi), (1, .ref pl), (2, .int (nI w))]) hx hb d_MI_join_150 hl (by decide) rfl (fun ls hl => ?_)
          refine lv_aload_n hx hb d_MI_join_152 rfl (lv_at hl 7 rfl) ?_
          refine lv_aload_n hx hb d_MI_join_153 rfl (lv_at hl 7 rfl) ?_
          refine va_get (D := D) (ci := 2) (v := .ref nx) (C := cn_MI) (T := ft_MI) (N := 3) hx hb hf_MI (fun _ h => h) hown hK hP 0 rfl rfl 1 (by decide) (gw.at G hx0 mw_65 rfl _) (fun _ h9 => h9) rfl d_MI_join_154 ?_
          refine va_put (D := D) (ci := 2) (v := .ref nx) (ty := .array .long) (C := cn_MI) (T := ft_MI) (N := 3) hx hb hf_MI (fun _ h => h) fy_MI fk_MI fn_MI hown hK hP hD hS 0 rfl rfl 0 (by decide) (gw.at G hx0 mw_64 rfl _) (fun _ h9 => h9) rfl (by decide +kernel) rfl rfl (Nat.le_of_ble_eq_true rfl) d_MI_join_157 (fun H locs hP hD hS => ?_)
          have hP : va_P D kl [(mi, .inr (2, [.ref nx, .ref nx, .int (2 : Int32)])), (cu, .inl (cJ, 16, .inr (.inl cf))), (nx, .inl (cJ, 16, .inr (.inl (vp_updL (vp_updL (vp_updL (vp_updL nf 7 (mex cf (rowAt pf w) 7)) 11 (mex cf (rowAt pf w) 11)) 13 (mex cf (rowAt pf w) 13)) 14 (mex cf (rowAt pf w) 14))))), (pl, .inr (1, [.ref pa, .int (nI ct), .int (nI mo)])), (pa, .inl (cI, pz, .inl pf))] H := hP
          have hD : va_D A [(mi, .inr (2, [.ref nx, .ref nx, .int (2 : Int32)])), (cu, .inl (cJ, 16, .inr (.inl cf))), (nx, .inl (cJ, 16, .inr (.inl (vp_updL (vp_updL (vp_updL (vp_updL nf 7 (mex cf (rowAt pf w) 7)) 11 (mex cf (rowAt pf w) 11)) 13 (mex cf (rowAt pf w) 13)) 14 (mex cf (rowAt pf w) 14))))), (pl, .inr (1, [.ref pa, .int (nI ct), .int (nI mo)])), (pa, .inl (cI, pz, .inl pf))] := hD
          refine lv_aload_n hx hb d_MI_join_160 rfl (lv_at hl 7 rfl) ?_
          refine lv_aload hx hb d_MI_join_161 (lv_at hl 0 rfl) ?_
          refine va_put (D := D) (ci := 2) (v := .ref cu) (ty := .array .long) (C := cn_MI) (T := ft_MI) (N := 3) hx hb hf_MI (fun _ h => h) fy_MI fk_MI fn_MI hown hK hP hD hS 0 rfl rfl 1 (by decide) (gw.at G hx0 mw_65 rfl _) (fun _ h9 => h9) rfl (by decide +kernel) rfl rfl (Nat.le_of_ble_eq_true rfl) d_MI_join_163 (fun H locs hP hD hS => ?_)
          have hP : va_P D kl [(mi, .inr (2, [.ref nx, .ref cu, .int (2 : Int32)])), (cu, .inl (cJ, 16, .inr (.inl cf))), (nx, .inl (cJ, 16, .inr (.inl (vp_updL (vp_updL (vp_updL (vp_updL nf 7 (mex cf (rowAt pf w) 7)) 11 (mex cf (rowAt pf w) 11)) 13 (mex cf (rowAt pf w) 13)) 14 (mex cf (rowAt pf w) 14))))), (pl, .inr (1, [.ref pa, .int (nI ct), .int (nI mo)])), (pa, .inl (cI, pz, .inl pf))] H := hP
          have hD : va_D A [(mi, .inr (2, [.ref nx, .ref cu, .int (2 : Int32)])), (cu, .inl (cJ, 16, .inr (.inl cf))), (nx, .inl (cJ, 16, .inr (.inl (vp_updL (vp_updL (vp_updL (vp_updL nf 7 (mex cf (rowAt pf w) 7)) 11 (mex cf (rowAt pf w) 11)) 13 (mex cf (rowAt pf w) 13)) 14 (mex cf (rowAt pf w) 14))))), (pl, .inr (1, [.ref pa, .int (nI ct), .int (nI mo)])), (pa, .inl (cI, pz, .inl pf))] := hD
          refine lv_aload_n hx hb d_MI_join_166 rfl (lv_at hl 7 rfl) ?_
          refine lv_dup hx hb d_MI_join_167 rfl ?_
          refine va_get (D := D) (ci := 2) (v := .int (2 : Int32)) (C := cn_MI) (T := ft_MI) (N := 3) hx hb hf_MI (fun _ h => h) hown hK hP 0 rfl rfl 2 (by decide) (gw.at G hx0 mw_66 rfl _) (fun _ h9 => h9) rfl d_MI_join_168 ?_
          refine lv_iconst (v := (1 : Int32)) hx hb d_MI_join_171 (by decide) ?_
          refine lv_iadd hx hb d_MI_join_172 ?_
          refine tp_i (y := (3 : Int32)) (by decide) ?_
          refine va_put (D := D) (ci := 2) (v := .int (3 : Int32)) (ty := .int) (C := cn_MI) (T := ft_MI) (N := 3) hx hb hf_MI (fun _ h => h) fy_MI fk_MI fn_MI hown hK hP hD hS 0 rfl rfl 2 (by decide) (gw.at G hx0 mw_66 rfl _) (fun _ h9 => h9) rfl (by decide +kernel) rfl rfl (Nat.le_of_ble_eq_true rfl) d_MI_join_173 (fun H locs hP hD hS => ?_)
          have hP : va_P D kl [(mi, .inr (2, [.ref nx, .ref cu, .int (3 : Int32)])), (cu, .inl (cJ, 16, .inr (.inl cf))), (nx, .inl (cJ, 16, .inr (.inl (vp_updL (vp_updL (vp_updL (vp_updL nf 7 (mex cf (rowAt pf w) 7)) 11 (mex cf (rowAt pf w) 11)) 13 (mex cf (rowAt pf w) 13)) 14 (mex cf (rowAt pf w) 14))))), (pl, .inr (1, [.ref pa, .int (nI ct), .int (nI mo)])), (pa, .inl (cI, pz, .inl pf))] H := hP
          have hD : va_D A [(mi, .inr (2, [.ref nx, .ref cu, .int (3 : Int32)])), (cu, .inl (cJ, 16, .inr (.inl cf))), (nx, .inl (cJ, 16, .inr (.inl (vp_updL (vp_updL (vp_updL (vp_updL nf 7 (mex cf (rowAt pf w) 7)) 11 (mex cf (rowAt pf w) 11)) 13 (mex cf (rowAt pf w) 13)) 14 (mex cf (rowAt pf w) 14))))), (pl, .inr (1, [.ref pa, .int (nI ct), .int (nI mo)])), (pa, .inl (cI, pz, .inl pf))] := hD
          rw [← hQe]
          exact tx_mono (fun _ h => tx_Z.of h) (W.vret hx hb hr (fun t ht hW => ⟨⟨[(mi, .inr (2, [.ref nx, .ref cu, .int (3 : Int32)])), (cu, .inl (cJ, 16, .inr (.inl cf))), (nx, .inl (cJ, 16, .inr (.inl (vp_updL (vp_updL (vp_updL (vp_updL nf 7 (mex cf (rowAt pf w) 7)) 11 (mex cf (rowAt pf w) 11)) 13 (mex cf (rowAt pf w) 13)) 14 (mex cf (rowAt pf w) 14))))), (pl, .inr (1, [.ref pa, .int (nI ct), .int (nI mo)])), (pa, .inl (cI, pz, .inl pf))], ⟨rfl, rfl⟩, by rw [ht]; exact hP.sub [0, 1, 2, 3, 4] rfl, hD.sub [0, 1, 2, 3, 4] (by decide) rfl⟩, hS.F ht⟩) hS.2.2 d_MI_join_176)
        refine lv_iload_n hx hb d_MI_join_119 rfl (lv_at hl 5 rfl) ?_
        refine lv_if_ne (tgt := 130) hx hb d_MI_join_120 (by decide) (fun h_5 => ?_) (fun h_5 => ?_)
        · refine lv_iconst (v := (1 : Int32)) hx hb d_MI_join_130 (by decide) ?_
          refine lv_goto (tgt := 135) hx hb d_MI_join_131 (by decide) ?_
          refine tp_i (y := bi ((((False ∨ ¬ mex cf (rowAt pf w) 7 = 0) ∨ ¬ mex cf (rowAt pf w) 11 = 0) ∨ ¬ mex cf (rowAt pf w) 13 = 0) ∨ ¬ mex cf (rowAt pf w) 14 = 0)) ((bi_t (Or.inl (bi_ne.mp h_5))).symm) ?_
          exact K_4
        · refine lv_lload hx hb d_MI_join_123 (lv_at hl 2 rfl) ?_
          refine lv_lconst (v := (0 : Int64)) hx hb d_MI_join_125 (by decide) ?_
          refine W.lcmp hx hb d_MI_join_126 ?_
          refine lv_if_eq (tgt := 134) hx hb d_MI_join_127 (by decide) (fun h_6 => ?_) (fun h_6 => ?_)
          · refine lv_iconst (v := (0 : Int32)) hx hb d_MI_join_134 (by decide) ?_
            refine tp_i (y := bi ((((False ∨ ¬ mex cf (rowAt pf w) 7 = 0) ∨ ¬ mex cf (rowAt pf w) 11 = 0) ∨ ¬ mex cf (rowAt pf w) 13 = 0) ∨ ¬ mex cf (rowAt pf w) 14 = 0)) ((bi_f (fun z99 => z99.elim (fun z98 => absurd (bi_ne.mpr z98) (not_not_intro h_5)) (fun z98 => absurd (lg_ne.mpr z98) (not_not_intro h_6)))).symm) ?_
            exact K_4
          · refine lv_iconst (v := (1 : Int32)) hx hb d_MI_join_130 (by decide) ?_
            refine lv_goto (tgt := 135) hx hb d_MI_join_131 (by decide) ?_
            refine tp_i (y := bi ((((False ∨ ¬ mex cf (rowAt pf w) 7 = 0) ∨ ¬ mex cf (rowAt pf w) 11 = 0) ∨ ¬ mex cf (rowAt pf w) 13 = 0) ∨ ¬ mex cf (rowAt pf w) 14 = 0)) ((bi_t (Or.inr (lg_ne.mp h_6))).symm) ?_
            exact K_4
      refine lv_iload_n hx hb d_MI_join_119 rfl (lv_at hl 5 rfl) ?_
      refine lv_if_ne (tgt := 130) hx hb d_MI_join_120 (by decide) (fun h_7 => ?_) (fun h_7 => ?_)
      · refine lv_iconst (v := (1 : Int32)) hx hb d_MI_join_130 (by decide) ?_
        refine lv_goto (tgt := 135) hx hb d_MI_join_131 (by decide) ?_
        refine tp_i (y := bi (((False ∨ ¬ mex cf (rowAt pf w) 7 = 0) ∨ ¬ mex cf (rowAt pf w) 11 = 0) ∨ ¬ mex cf (rowAt pf w) 13 = 0)) ((bi_t (Or.inl (bi_ne.mp h_7))).symm) ?_
        exact K_3
      · refine lv_lload hx hb d_MI_join_123 (lv_at hl 2 rfl) ?_
        refine lv_lconst (v := (0 : Int64)) hx hb d_MI_join_125 (by decide) ?_
        refine W.lcmp hx hb d_MI_join_126 ?_
        refine lv_if_eq (tgt := 134) hx hb d_MI_join_127 (by decide) (fun h_8 => ?_) (fun h_8 => ?_)
        · refine lv_iconst (v := (0 : Int32)) hx hb d_MI_join_134 (by decide) ?_
          refine tp_i (y := bi (((False ∨ ¬ mex cf (rowAt pf w) 7 = 0) ∨ ¬ mex cf (rowAt pf w) 11 = 0) ∨ ¬ mex cf (rowAt pf w) 13 = 0)) ((bi_f (fun z99 => z99.elim (fun z98 => absurd (bi_ne.mpr z98) (not_not_intro h_7)) (fun z98 => absurd (lg_ne.mpr z98) (not_not_intro h_8)))).symm) ?_
          exact K_3
        · refine lv_iconst (v := (1 : Int32)) hx hb d_MI_join_130 (by decide) ?_
          refine lv_goto (tgt := 135) hx hb d_MI_join_131 (by decide) ?_
          refine tp_i (y := bi (((False ∨ ¬ mex cf (rowAt pf w) 7 = 0) ∨ ¬ mex cf (rowAt pf w) 11 = 0) ∨ ¬ mex cf (rowAt pf w) 13 = 0)) ((bi_t (Or.inr (lg_ne.mp h_8))).symm) ?_
          exact K_3
    refine lv_iload_n hx hb d_MI_join_119 rfl (lv_at hl 5 rfl) ?_
    refine lv_if_ne (tgt := 130) hx hb d_MI_join_120 (by decide) (fun h_9 => ?_) (fun h_9 => ?_)
    · refine lv_iconst (v := (1 : Int32)) hx hb d_MI_join_130 (by decide) ?_
      refine lv_goto (tgt := 135) hx hb d_MI_join_131 (by decide) ?_
      refine tp_i (y := bi ((False ∨ ¬ mex cf (rowAt pf w) 7 = 0) ∨ ¬ mex cf (rowAt pf w) 11 = 0)) ((bi_t (Or.inl (bi_ne.mp h_9))).symm) ?_
      exact K_2
    · refine lv_lload hx hb d_MI_join_123 (lv_at hl 2 rfl) ?_
      refine lv_lconst (v := (0 : Int64)) hx hb d_MI_join_125 (by decide) ?_
      refine W.lcmp hx hb d_MI_join_126 ?_
      refine lv_if_eq (tgt := 134) hx hb d_MI_join_127 (by decide) (fun h_10 => ?_) (fun h_10 => ?_)
      · refine lv_iconst (v := (0 : Int32)) hx hb d_MI_join_134 (by decide) ?_
        refine tp_i (y := bi ((False ∨ ¬ mex cf (rowAt pf w) 7 = 0) ∨ ¬ mex cf (rowAt pf w) 11 = 0)) ((bi_f (fun z99 => z99.elim (fun z98 => absurd (bi_ne.mpr z98) (not_not_intro h_9)) (fun z98 => absurd (lg_ne.mpr z98) (not_not_intro h_10)))).symm) ?_
        exact K_2
      · refine lv_iconst (v := (1 : Int32)) hx hb d_MI_join_130 (by decide) ?_
        refine lv_goto (tgt := 135) hx hb d_MI_join_131 (by decide) ?_
        refine tp_i (y := bi ((False ∨ ¬ mex cf (rowAt pf w) 7 = 0) ∨ ¬ mex cf (rowAt pf w) 11 = 0)) ((bi_t (Or.inr (lg_ne.mp h_10))).symm) ?_
        exact K_2
  refine lv_iload_n hx hb d_MI_join_119 rfl (lv_at hl 6 rfl) ?_
  refine lv_if_ne (tgt := 130) hx hb d_MI_join_120 (by decide) (fun h99 => absurd h99 (by decide)) (fun _ => ?_)
  refine lv_lload hx hb d_MI_join_123 (lv_at hl 2 rfl) ?_
  refine lv_lconst (v := (0 : Int64)) hx hb d_MI_join_125 (by decide) ?_
  refine W.lcmp hx hb d_MI_join_126 ?_
  refine lv_if_eq (tgt := 134) hx hb d_MI_join_127 (by decide) (fun h_11 => ?_) (fun h_11 => ?_)
  · refine lv_iconst (v := (0 : Int32)) hx hb d_MI_join_134 (by decide) ?_
    refine tp_i (y := bi (False ∨ ¬ mex cf (rowAt pf w) 7 = 0)) ((bi_f (fun z99 => z99.elim id (fun z98 => absurd (lg_ne.mpr z98) (not_not_intro h_11)))).symm) ?_
    exact K_1
  · refine lv_iconst (v := (1 : Int32)) hx hb d_MI_join_130 (by decide) ?_
    refine lv_goto (tgt := 135) hx hb d_MI_join_131 (by decide) ?_
    refine tp_i (y := bi (False ∨ ¬ mex cf (rowAt pf w) 7 = 0)) ((bi_t (Or.inr (lg_ne.mp h_11))).symm) ?_
    exact K_1

set_option maxHeartbeats 4000000 in
set_option maxRecDepth 100000 in
theorem c_MI_join2_n {l : Launch} {s0 : State} {b0 : Addr} {D : va_G} {cI cJ cZ : ClassId} {tC tS : Nat} (E : gE l s0 b0 D cI cJ cZ tC tS) (sz : Nat) (mi : Nat) (cu : Nat) (nx : Nat) (cf : Nat → Int64) (nf : Nat → Int64) (pl : Nat) (pa : Nat) (ct : Nat) (mo : Nat) (pz : Nat) (pf : Nat → Int32) (w : Nat) (hpz : pz = mo * 4) (hmo : mo ≤ 107) (hct : ct ≤ mo) (hw : w < mo) (h : ¬ indep 2 cf (rowAt pf w)) : cx_M l s0 D kl y_MI_join b_MI_join 11 none ({ frames := 0, cells := 0, slots := 0, locals := 0 } : Room) 0 0 [.ref mi, .ref pl, .int (nI w)] [(mi, .inr (2, [.ref cu, .ref nx, .int (2 : Int32)])), (cu, .inl (cJ, 16, .inr (.inl cf))), (nx, .inl (cJ, 16, .inr (.inl nf))), (pl, .inr (1, [.ref pa, .int (nI ct), .int (nI mo)])), (pa, .inl (cI, pz, .inl pf))] sz (fun o9 _ w9 => o9 = .returned none ∧ w9 = [(mi, .inr (2, [.ref cu, .ref nx, .int (2 : Int32)])), (cu, .inl (cJ, 16, .inr (.inl cf))), (nx, .inl (cJ, 16, .inr (.inl (mfill cf nf (rowAt pf w) (lev (2 + 1)))))), (pl, .inr (1, [.ref pa, .int (nI ct), .int (nI mo)])), (pa, .inl (cI, pz, .inl pf))]) := by
  refine tx_ofW (cc := b_MI_join) (maxL := 11) (ret := none) (by decide) rfl ?_
  intro p e s m args below meth c s₁ B hml hT hv
  obtain ⟨rfl, hsz, hP, hD0, hx0⟩ := hv
  have hx := B.exec
  have hb := B.bytes
  have hr := B.returns
  have G := E.2.1
  have hown : s.vm.findClass cn_MI = some m.cls := findClass_of_methodNamed B.named
  have hlocks := B.notSynchronized
  have hK := va_K.moved hx0.1.alike E.2.2.1
  have hf_MI : ∀ w99 ∈ u_ws cn_MI ft_MI 3, w99.before ([.ref mi, .ref pl, .int (nI w)] : List Value).toArray s = true := fun w99 h99 => gw.at G hx0 (fw_MI w99 h99) (fo_MI w99 h99) _
  have hf_PL : ∀ w99 ∈ u_ws cn_PL ft_PL 3, w99.before ([.ref mi, .ref pl, .int (nI w)] : List Value).toArray s = true := fun w99 h99 => gw.at G hx0 (fw_PL w99 h99) (fo_PL w99 h99) _
  subst hsz
  have hA0 := cx_new hD0 hx0.2.1
  have hD := hD0.self (sz := s.heap.size)
  generalize hAe : va_A [(mi, .inr (2, [.ref cu, .ref nx, .int (2 : Int32)])), (cu, .inl (cJ, 16, .inr (.inl cf))), (nx, .inl (cJ, 16, .inr (.inl nf))), (pl, .inr (1, [.ref pa, .int (nI ct), .int (nI mo)])), (pa, .inl (cI, pz, .inl pf))] s.heap.size = A at hD hA0 ⊢
  have hA : ∀ q : Nat, s.heap.size ≤ q → A q := fun q h => by rw [← hAe]; exact Or.inr h
  have hS : va_S A s.heap s.heap [] := va_S.rf
  obtain ⟨hZC, hTC, hZS, hTS⟩ := gz.at E.2.2.2.1 hx0 hA0
  have hl := lv_entry ([.ref mi, .ref pl, .int (nI w)]) (n := 11) (Nat.le_of_ble_eq_true rfl)
  rw [lg_entry_eq]
  generalize (lg_sl ([.ref mi, .ref pl, .int (nI w)]) ++ List.replicate (11 - (lg_sl ([.ref mi, .ref pl, .int (nI w)])).length) Slot.unset).toArray = ls at hl ⊢
  have hl : lv_has ls 11 [(0, .ref mi), (1, .ref pl), (2, .int (nI w))] := hl
  have hP : va_P D kl [(mi, .inr (2, [.ref cu, .ref nx, .int (2 : Int32)])), (cu, .inl (cJ, 16, .inr (.inl cf))), (nx, .inl (cJ, 16, .inr (.inl nf))), (pl, .inr (1, [.ref pa, .int (nI ct), .int (nI mo)])), (pa, .inl (cI, pz, .inl pf))] s.heap := hP
  have hml : c.maxLocals = 11 := hml
  generalize hQe : tx_Z below (cx_Q D kl A (fun o9 _ w9 => o9 = .returned none ∧ w9 = [(mi, .inr (2, [.ref cu, .ref nx, .int (2 : Int32)])), (cu, .inl (cJ, 16, .inr (.inl cf))), (nx, .inl (cJ, 16, .inr (.inl (mfill cf nf (rowAt pf w) (lev (2 + 1)))))), (pl, .inr (1, [.ref pa, .int (nI ct), .int (nI mo)])), (pa, .inl (cI, pz, .inl pf))])) ([.ref mi, .ref pl, .int (nI w)] : List Value).toArray s 0 0 A = Q
  refine lv_iconst (v := (0 : Int32)) hx hb d_MI_join_0 (by decide) ?_
  refine lv_istore_n (lv' := [(3, .int (0 : Int32)), (0, .ref mi), (1, .ref pl), (2, .int (nI w))]) hx hb d_MI_join_1 rfl hl (by decide) rfl (fun ls hl => ?_)
  refine va_getsN hx hb hZS hS hown (gw.at G hx0 mw_377 rfl _) (fun _ h9 => h9) d_MI_join_2 ?_
  refine lv_aload_n hx hb d_MI_join_5 rfl (lv_at hl 1 rfl) ?_
  refine va_get (D := D) (ci := 2) (v := .int (2 : Int32)) (C := cn_MI) (T := ft_MI) (N := 3) hx hb hf_MI (fun _ h => h) hown hK hP 0 rfl rfl 2 (by decide) (gw.at G hx0 mw_66 rfl _) (fun _ h9 => h9) rfl d_MI_join_6 ?_
  refine lv_iconst (v := (2 : Int32)) hx hb d_MI_join_9 (by decide) ?_
  refine lv_iadd hx hb d_MI_join_10 ?_
  refine tp_i (y := (4 : Int32)) (by decide) ?_
  refine va_ti hx hb hTS hS (vp_in_iff.mpr (by decide)) (v := .int (15 : Int32)) (by decide) d_MI_join_11 ?_
  refine lv_istore (lv' := [(4, .int (15 : Int32)), (3, .int (0 : Int32)), (0, .ref mi), (1, .ref pl), (2, .int (nI w))]) hx hb d_MI_join_12 hl (by decide) rfl (fun ls hl => ?_)
  refine va_getsN hx hb hZS hS hown (gw.at G hx0 mw_377 rfl _) (fun _ h9 => h9) d_MI_join_14 ?_
  refine lv_aload_n hx hb d_MI_join_17 rfl (lv_at hl 2 rfl) ?_
  refine va_get (D := D) (ci := 2) (v := .int (2 : Int32)) (C := cn_MI) (T := ft_MI) (N := 3) hx hb hf_MI (fun _ h => h) hown hK hP 0 rfl rfl 2 (by decide) (gw.at G hx0 mw_66 rfl _) (fun _ h9 => h9) rfl d_MI_join_18 ?_
  refine lv_iconst (v := (1 : Int32)) hx hb d_MI_join_21 (by decide) ?_
  refine lv_iadd hx hb d_MI_join_22 ?_
  refine tp_i (y := (3 : Int32)) (by decide) ?_
  refine va_ti hx hb hTS hS (vp_in_iff.mpr (by decide)) (v := .int (11 : Int32)) (by decide) d_MI_join_23 ?_
  refine lv_istore (lv' := [(5, .int (11 : Int32)), (4, .int (15 : Int32)), (3, .int (0 : Int32)), (0, .ref mi), (1, .ref pl), (2, .int (nI w))]) hx hb d_MI_join_24 hl (by decide) rfl (fun ls hl => ?_)
  refine lv_iload hx hb d_MI_join_26 (lv_at hl 0 rfl) ?_
  refine lv_iload hx hb d_MI_join_28 (lv_at hl 1 rfl) ?_
  refine lv_icmp_ge (tgt := 142) hx hb d_MI_join_30 (by decide) (fun h99 => absurd h99 (by decide)) (fun _ => ?_)
  refine va_getsN hx hb hZC hS hown (gw.at G hx0 mw_62 rfl _) (fun _ h9 => h9) d_MI_join_33 ?_
  refine lv_iload hx hb d_MI_join_36 (lv_at hl 0 rfl) ?_
  refine va_ti hx hb hTC hS (vp_in_iff.mpr (by decide)) (v := .int (7 : Int32)) (by decide) d_MI_join_38 ?_
  refine lv_istore (lv' := [(6, .int (7 : Int32)), (5, .int (11 : Int32)), (4, .int (15 : Int32)), (3, .int (0 : Int32)), (0, .ref mi), (1, .ref pl), (2, .int (nI w))]) hx hb d_MI_join_39 hl (by decide) rfl (fun ls hl => ?_)
  refine lv_lconst (v := (0 : Int64)) hx hb d_MI_join_41 (by decide) ?_
  refine lv_lstore (lv' := [(7, .long (0 : Int64)), (6, .int (7 : Int32)), (5, .int (11 : Int32)), (4, .int (15 : Int32)), (3, .int (0 : Int32)), (0, .ref mi), (1, .ref pl), (2, .int (nI w))]) hx hb d_MI_join_42 hl (by decide) rfl (fun ls hl => ?_)
  refine lv_iconst (v := (1 : Int32)) hx hb d_MI_join_44 (by decide) ?_
  refine lv_istore (lv' := [(9, .int (1 : Int32)), (7, .long (0 : Int64)), (6, .int (7 : Int32)), (5, .int (11 : Int32)), (4, .int (15 : Int32)), (3, .int (0 : Int32)), (0, .ref mi), (1, .ref pl), (2, .int (nI w))]) hx hb d_MI_join_45 hl (by decide) rfl (fun ls hl => ?_)
  refine lv_iconst (v := (3 : Int32)) hx hb d_MI_join_47 (by decide) ?_
  refine lv_istore (lv' := [(10, .int (3 : Int32)), (9, .int (1 : Int32)), (7, .long (0 : Int64)), (6, .int (7 : Int32)), (5, .int (11 : Int32)), (4, .int (15 : Int32)), (3, .int (0 : Int32)), (0, .ref mi), (1, .ref pl), (2, .int (nI w))]) hx hb d_MI_join_48 hl (by decide) rfl (fun ls hl => ?_)
  refine lv_iload hx hb d_MI_join_50 (lv_at hl 0 rfl) ?_
  refine lv_if_lt (tgt := 110) hx hb d_MI_join_52 (by decide) (fun h99 => absurd h99 (by decide)) (fun _ => ?_)
  refine lv_iload hx hb d_MI_join_55 (lv_at hl 3 rfl) ?_
  refine lv_iload hx hb d_MI_join_57 (lv_at hl 0 rfl) ?_
  refine lv_ishr hx hb d_MI_join_59 ?_
  refine tp_i (y := (0 : Int32)) (by decide) ?_
  refine lv_iconst (v := (1 : Int32)) hx hb d_MI_join_60 (by decide) ?_
  refine lv_iand hx hb d_MI_join_61 ?_
  refine tp_i (y := (0 : Int32)) (by decide) ?_
  refine lv_if_eq (tgt := 104) hx hb d_MI_join_62 (by decide) (fun _ => ?_) (fun h99 => absurd h99 (by decide))
  refine lv_iinc (lv' := [(10, .int (2 : Int32)), (9, .int (1 : Int32)), (7, .long (0 : Int64)), (6, .int (7 : Int32)), (5, .int (11 : Int32)), (4, .int (15 : Int32)), (3, .int (0 : Int32)), (0, .ref mi), (1, .ref pl), (2, .int (nI w))]) (k := 0) (v := (2 : Int32)) hx hb d_MI_join_104 hl rfl (by decide) (by decide) rfl (fun ls hl => ?_)
  refine lv_goto (tgt := 50) hx hb d_MI_join_107 (by decide) ?_
  refine lv_iload hx hb d_MI_join_50 (lv_at hl 0 rfl) ?_
  refine lv_if_lt (tgt := 110) hx hb d_MI_join_52 (by decide) (fun h99 => absurd h99 (by decide)) (fun _ => ?_)
  refine lv_iload hx hb d_MI_join_55 (lv_at hl 3 rfl) ?_
  refine lv_iload hx hb d_MI_join_57 (lv_at hl 0 rfl) ?_
  refine lv_ishr hx hb d_MI_join_59 ?_
  refine tp_i (y := (1 : Int32)) (by decide) ?_
  refine lv_iconst (v := (1 : Int32)) hx hb d_MI_join_60 (by decide) ?_
  refine lv_iand hx hb d_MI_join_61 ?_
  refine tp_i (y := (1 : Int32)) (by decide) ?_
  refine lv_if_eq (tgt := 104) hx hb d_MI_join_62 (by decide) (fun h99 => absurd h99 (by decide)) (fun _ => ?_)
  refine lv_lload hx hb d_MI_join_65 (lv_at hl 2 rfl) ?_
  refine lv_iload hx hb d_MI_join_67 (lv_at hl 1 rfl) ?_
  refine lv_i2l (v := (1 : Int64)) hx hb d_MI_join_69 (by decide) ?_
  refine lv_aload_n hx hb d_MI_join_70 rfl (lv_at hl 7 rfl) ?_
  refine va_get (D := D) (ci := 2) (v := .ref cu) (C := cn_MI) (T := ft_MI) (N := 3) hx hb hf_MI (fun _ h => h) hown hK hP 0 rfl rfl 0 (by decide) (gw.at G hx0 mw_64 rfl _) (fun _ h9 => h9) rfl d_MI_join_71 ?_
  refine lv_iload hx hb d_MI_join_74 (lv_at hl 3 rfl) ?_
  refine lv_iconst (v := (1 : Int32)) hx hb d_MI_join_76 (by decide) ?_
  refine lv_iload hx hb d_MI_join_77 (lv_at hl 0 rfl) ?_
  refine lv_ishl hx hb d_MI_join_79 ?_
  refine tp_i (y := (4 : Int32)) (by decide) ?_
  refine lv_ixor hx hb d_MI_join_80 ?_
  refine tp_i (y := (3 : Int32)) (by decide) ?_
  refine va_lald hx hb hK hP 1 1 rfl rfl (vp_in_iff.mpr (by decide)) d_MI_join_81 ?_
  refine tp_l (y := cf 3) (by rfl) ?_
  refine lv_lmul hx hb d_MI_join_82 ?_
  refine lv_aload_n hx hb d_MI_join_83 rfl (lv_at hl 8 rfl) ?_
  refine va_get (D := D) (ci := 1) (v := .ref pa) (C := cn_PL) (T := ft_PL) (N := 3) hx hb hf_PL (fun _ h => h) hown hK hP 3 rfl rfl 0 (by decide) (gw.at G hx0 mw_40 rfl _) (fun _ h9 => h9) rfl d_MI_join_84 ?_
  refine lv_iload_n hx hb d_MI_join_87 rfl (lv_at hl 9 rfl) ?_
  refine lv_iconst (v := (4 : Int32)) hx hb d_MI_join_88 (by decide) ?_
  refine lv_imul hx hb d_MI_join_89 ?_
  refine tp_i (y := nI (w * 4)) (nI_mul w 4) ?_
  refine lv_iload hx hb d_MI_join_90 (lv_at hl 0 rfl) ?_
  refine lv_iadd hx hb d_MI_join_92 ?_
  refine tp_i (y := nI ((w * 4) + 2)) (nI_add (w * 4) 2) ?_
  refine va_iald hx hb hK hP 4 0 rfl rfl (vp_in_nI (n := (w * 4) + 2) (by omega) (by omega)) d_MI_join_93 ?_
  refine tp_i (y := pf ((w * 4) + 2)) (congrArg pf (nI_clamp (n := (w * 4) + 2) (by omega))) ?_
  refine lv_i2l (v := (pf ((w * 4) + 2)).toInt64) hx hb d_MI_join_94 rfl ?_
  refine lv_lmul hx hb d_MI_join_95 ?_
  refine lv_ladd hx hb d_MI_join_96 ?_
  refine lv_lstore (lv' := [(7, .long ((0 : Int64) + (((1 : Int64) * (cf 3)) * ((pf ((w * 4) + 2)).toInt64)))), (10, .int (2 : Int32)), (9, .int (1 : Int32)), (6, .int (7 : Int32)), (5, .int (11 : Int32)), (4, .int (15 : Int32)), (3, .int (0 : Int32)), (0, .ref mi), (1, .ref pl), (2, .int (nI w))]) hx hb d_MI_join_97 hl (by decide) rfl (fun ls hl => ?_)
  refine lv_iload hx hb d_MI_join_99 (lv_at hl 2 rfl) ?_
  refine lv_ineg hx hb d_MI_join_101 ?_
  refine tp_i (y := (-1 : Int32)) (by decide) ?_
  refine lv_istore (lv' := [(9, .int (-1 : Int32)), (7, .long ((0 : Int64) + (((1 : Int64) * (cf 3)) * ((pf ((w * 4) + 2)).toInt64)))), (10, .int (2 : Int32)), (6, .int (7 : Int32)), (5, .int (11 : Int32)), (4, .int (15 : Int32)), (3, .int (0 : Int32)), (0, .ref mi), (1, .ref pl), (2, .int (nI w))]) hx hb d_MI_join_102 hl (by decide) rfl (fun ls hl => ?_)
  refine lv_iinc (lv' := [(10, .int (1 : Int32)), (9, .int (-1 : Int32)), (7, .long ((0 : Int64) + (((1 : Int64) * (cf 3)) * ((pf ((w * 4) + 2)).toInt64)))), (6, .int (7 : Int32)), (5, .int (11 : Int32)), (4, .int (15 : Int32)), (3, .int (0 : Int32)), (0, .ref mi), (1, .ref pl), (2, .int (nI w))]) (k := 2) (v := (1 : Int32)) hx hb d_MI_join_104 hl rfl (by decide) (by decide) rfl (fun ls hl => ?_)
  refine lv_goto (tgt := 50) hx hb d_MI_join_107 (by decide) ?_
  refine lv_iload hx hb d_MI_join_50 (lv_at hl 0 rfl) ?_
  refine lv_if_lt (tgt := 110) hx hb d_MI_join_52 (by decide) (fun h99 => absurd h99 (by decide)) (fun _ => ?_)
  refine lv_iload hx hb d_MI_join_55 (lv_at hl 3 rfl) ?_
  refine lv_iload hx hb d_MI_join_57 (lv_at hl 0 rfl) ?_
  refine lv_ishr hx hb d_MI_join_59 ?_
  refine tp_i (y := (3 : Int32)) (by decide) ?_
  refine lv_iconst (v := (1 : Int32)) hx hb d_MI_join_60 (by decide) ?_
  refine lv_iand hx hb d_MI_join_61 ?_
  refine tp_i (y := (1 : Int32)) (by decide) ?_
  refine lv_if_eq (tgt := 104) hx hb d_MI_join_62 (by decide) (fun h99 => absurd h99 (by decide)) (fun _ => ?_)
  refine lv_lload hx hb d_MI_join_65 (lv_at hl 2 rfl) ?_
  refine lv_iload hx hb d_MI_join_67 (lv_at hl 1 rfl) ?_
  refine lv_i2l (v := (-1 : Int64)) hx hb d_MI_join_69 (by decide) ?_
  refine lv_aload_n hx hb d_MI_join_70 rfl (lv_at hl 7 rfl) ?_
  refine va_get (D := D) (ci := 2) (v := .ref cu) (C := cn_MI) (T := ft_MI) (N := 3) hx hb hf_MI (fun _ h => h) hown hK hP 0 rfl rfl 0 (by decide) (gw.at G hx0 mw_64 rfl _) (fun _ h9 => h9) rfl d_MI_join_71 ?_
  refine lv_iload hx hb d_MI_join_74 (lv_at hl 3 rfl) ?_
  refine lv_iconst (v := (1 : Int32)) hx hb d_MI_join_76 (by decide) ?_
  refine lv_iload hx hb d_MI_join_77 (lv_at hl 0 rfl) ?_
  refine lv_ishl hx hb d_MI_join_79 ?_
  refine tp_i (y := (2 : Int32)) (by decide) ?_
  refine lv_ixor hx hb d_MI_join_80 ?_
  refine tp_i (y := (5 : Int32)) (by decide) ?_
  refine va_lald hx hb hK hP 1 1 rfl rfl (vp_in_iff.mpr (by decide)) d_MI_join_81 ?_
  refine tp_l (y := cf 5) (by rfl) ?_
  refine lv_lmul hx hb d_MI_join_82 ?_
  refine lv_aload_n hx hb d_MI_join_83 rfl (lv_at hl 8 rfl) ?_
  refine va_get (D := D) (ci := 1) (v := .ref pa) (C := cn_PL) (T := ft_PL) (N := 3) hx hb hf_PL (fun _ h => h) hown hK hP 3 rfl rfl 0 (by decide) (gw.at G hx0 mw_40 rfl _) (fun _ h9 => h9) rfl d_MI_join_84 ?_
  refine lv_iload_n hx hb d_MI_join_87 rfl (lv_at hl 9 rfl) ?_
  refine lv_iconst (v := (4 : Int32)) hx hb d_MI_join_88 (by decide) ?_
  refine lv_imul hx hb d_MI_join_89 ?_
  refine tp_i (y := nI (w * 4)) (nI_mul w 4) ?_
  refine lv_iload hx hb d_MI_join_90 (lv_at hl 0 rfl) ?_
  refine lv_iadd hx hb d_MI_join_92 ?_
  refine tp_i (y := nI ((w * 4) + 1)) (nI_add (w * 4) 1) ?_
  refine va_iald hx hb hK hP 4 0 rfl rfl (vp_in_nI (n := (w * 4) + 1) (by omega) (by omega)) d_MI_join_93 ?_
  refine tp_i (y := pf ((w * 4) + 1)) (congrArg pf (nI_clamp (n := (w * 4) + 1) (by omega))) ?_
  refine lv_i2l (v := (pf ((w * 4) + 1)).toInt64) hx hb d_MI_join_94 rfl ?_
  refine lv_lmul hx hb d_MI_join_95 ?_
  refine lv_ladd hx hb d_MI_join_96 ?_
  refine lv_lstore (lv' := [(7, .long (((0 : Int64) + (((1 : Int64) * (cf 3)) * ((pf ((w * 4) + 2)).toInt64))) + (((-1 : Int64) * (cf 5)) * ((pf ((w * 4) + 1)).toInt64)))), (10, .int (1 : Int32)), (9, .int (-1 : Int32)), (6, .int (7 : Int32)), (5, .int (11 : Int32)), (4, .int (15 : Int32)), (3, .int (0 : Int32)), (0, .ref mi), (1, .ref pl), (2, .int (nI w))]) hx hb d_MI_join_97 hl (by decide) rfl (fun ls hl => ?_)
  refine lv_iload hx hb d_MI_join_99 (lv_at hl 2 rfl) ?_
  refine lv_ineg hx hb d_MI_join_101 ?_
  refine tp_i (y := (1 : Int32)) (by decide) ?_
  refine lv_istore (lv' := [(9, .int (1 : Int32)), (7, .long (((0 : Int64) + (((1 : Int64) * (cf 3)) * ((pf ((w * 4) + 2)).toInt64))) + (((-1 : Int64) * (cf 5)) * ((pf ((w * 4) + 1)).toInt64)))), (10, .int (1 : Int32)), (6, .int (7 : Int32)), (5, .int (11 : Int32)), (4, .int (15 : Int32)), (3, .int (0 : Int32)), (0, .ref mi), (1, .ref pl), (2, .int (nI w))]) hx hb d_MI_join_102 hl (by decide) rfl (fun ls hl => ?_)
  refine lv_iinc (lv' := [(10, .int (0 : Int32)), (9, .int (1 : Int32)), (7, .long (((0 : Int64) + (((1 : Int64) * (cf 3)) * ((pf ((w * 4) + 2)).toInt64))) + (((-1 : Int64) * (cf 5)) * ((pf ((w * 4) + 1)).toInt64)))), (6, .int (7 : Int32)), (5, .int (11 : Int32)), (4, .int (15 : Int32)), (3, .int (0 : Int32)), (0, .ref mi), (1, .ref pl), (2, .int (nI w))]) (k := 2) (v := (0 : Int32)) hx hb d_MI_join_104 hl rfl (by decide) (by decide) rfl (fun ls hl => ?_)
  refine lv_goto (tgt := 50) hx hb d_MI_join_107 (by decide) ?_
  refine lv_iload hx hb d_MI_join_50 (lv_at hl 0 rfl) ?_
  refine lv_if_lt (tgt := 110) hx hb d_MI_join_52 (by decide) (fun h99 => absurd h99 (by decide)) (fun _ => ?_)
  refine lv_iload hx hb d_MI_join_55 (lv_at hl 3 rfl) ?_
  refine lv_iload hx hb d_MI_join_57 (lv_at hl 0 rfl) ?_
  refine lv_ishr hx hb d_MI_join_59 ?_
  refine tp_i (y := (7 : Int32)) (by decide) ?_
  refine lv_iconst (v := (1 : Int32)) hx hb d_MI_join_60 (by decide) ?_
  refine lv_iand hx hb d_MI_join_61 ?_
  refine tp_i (y := (1 : Int32)) (by decide) ?_
  refine lv_if_eq (tgt := 104) hx hb d_MI_join_62 (by decide) (fun h99 => absurd h99 (by decide)) (fun _ => ?_)
  refine lv_lload hx hb d_MI_join_65 (lv_at hl 2 rfl) ?_
  refine lv_iload hx hb d_MI_join_67 (lv_at hl 1 rfl) ?_
  refine lv_i2l (v := (1 : Int64)) hx hb d_MI_join_69 (by decide) ?_
  refine lv_aload_n hx hb d_MI_join_70 rfl (lv_at hl 7 rfl) ?_
  refine va_get (D := D) (ci := 2) (v := .ref cu) (C := cn_MI) (T := ft_MI) (N := 3) hx hb hf_MI (fun _ h => h) hown hK hP 0 rfl rfl 0 (by decide) (gw.at G hx0 mw_64 rfl _) (fun _ h9 => h9) rfl d_MI_join_71 ?_
  refine lv_iload hx hb d_MI_join_74 (lv_at hl 3 rfl) ?_
  refine lv_iconst (v := (1 : Int32)) hx hb d_MI_join_76 (by decide) ?_
  refine lv_iload hx hb d_MI_join_77 (lv_at hl 0 rfl) ?_
  refine lv_ishl hx hb d_MI_join_79 ?_
  refine tp_i (y := (1 : Int32)) (by decide) ?_
  refine lv_ixor hx hb d_MI_join_80 ?_
  refine tp_i (y := (6 : Int32)) (by decide) ?_
  refine va_lald hx hb hK hP 1 1 rfl rfl (vp_in_iff.mpr (by decide)) d_MI_join_81 ?_
  refine tp_l (y := cf 6) (by rfl) ?_
  refine lv_lmul hx hb d_MI_join_82 ?_
  refine lv_aload_n hx hb d_MI_join_83 rfl (lv_at hl 8 rfl) ?_
  refine va_get (D := D) (ci := 1) (v := .ref pa) (C := cn_PL) (T := ft_PL) (N := 3) hx hb hf_PL (fun _ h => h) hown hK hP 3 rfl rfl 0 (by decide) (gw.at G hx0 mw_40 rfl _) (fun _ h9 => h9) rfl d_MI_join_84 ?_
  refine lv_iload_n hx hb d_MI_join_87 rfl (lv_at hl 9 rfl) ?_
  refine lv_iconst (v := (4 : Int32)) hx hb d_MI_join_88 (by decide) ?_
  refine lv_imul hx hb d_MI_join_89 ?_
  refine tp_i (y := nI (w * 4)) (nI_mul w 4) ?_
  refine lv_iload hx hb d_MI_join_90 (lv_at hl 0 rfl) ?_
  refine lv_iadd hx hb d_MI_join_92 ?_
  refine tp_i (y := nI ((w * 4) + 0)) (nI_add (w * 4) 0) ?_
  refine va_iald hx hb hK hP 4 0 rfl rfl (vp_in_nI (n := (w * 4) + 0) (by omega) (by omega)) d_MI_join_93 ?_
  refine tp_i (y := pf ((w * 4) + 0)) (congrArg pf (nI_clamp (n := (w * 4) + 0) (by omega))) ?_
  refine lv_i2l (v := (pf ((w * 4) + 0)).toInt64) hx hb d_MI_join_94 rfl ?_
  refine lv_lmul hx hb d_MI_join_95 ?_
  refine lv_ladd hx hb d_MI_join_96 ?_
  refine lv_lstore (lv' := [(7, .long ((((0 : Int64) + (((1 : Int64) * (cf 3)) * ((pf ((w * 4) + 2)).toInt64))) + (((-1 : Int64) * (cf 5)) * ((pf ((w * 4) + 1)).toInt64))) + (((1 : Int64) * (cf 6)) * ((pf ((w * 4) + 0)).toInt64)))), (10, .int (0 : Int32)), (9, .int (1 : Int32)), (6, .int (7 : Int32)), (5, .int (11 : Int32)), (4, .int (15 : Int32)), (3, .int (0 : Int32)), (0, .ref mi), (1, .ref pl), (2, .int (nI w))]) hx hb d_MI_join_97 hl (by decide) rfl (fun ls hl => ?_)
  refine lv_iload hx hb d_MI_join_99 (lv_at hl 2 rfl) ?_
  refine lv_ineg hx hb d_MI_join_101 ?_
  refine tp_i (y := (-1 : Int32)) (by decide) ?_
  refine lv_istore (lv' := [(9, .int (-1 : Int32)), (7, .long ((((0 : Int64) + (((1 : Int64) * (cf 3)) * ((pf ((w * 4) + 2)).toInt64))) + (((-1 : Int64) * (cf 5)) * ((pf ((w * 4) + 1)).toInt64))) + (((1 : Int64) * (cf 6)) * ((pf ((w * 4) + 0)).toInt64)))), (10, .int (0 : Int32)), (6, .int (7 : Int32)), (5, .int (11 : Int32)), (4, .int (15 : Int32)), (3, .int (0 : Int32)), (0, .ref mi), (1, .ref pl), (2, .int (nI w))]) hx hb d_MI_join_102 hl (by decide) rfl (fun ls hl => ?_)
  refine lv_iinc (lv' := [(10, .int (-1 : Int32)), (9, .int (-1 : Int32)), (7, .long ((((0 : Int64) + (((1 : Int64) * (cf 3)) * ((pf ((w * 4) + 2)).toInt64))) + (((-1 : Int64) * (cf 5)) * ((pf ((w * 4) + 1)).toInt64))) + (((1 : Int64) * (cf 6)) * ((pf ((w * 4) + 0)).toInt64)))), (6, .int (7 : Int32)), (5, .int (11 : Int32)), (4, .int (15 : Int32)), (3, .int (0 : Int32)), (0, .ref mi), (1, .ref pl), (2, .int (nI w))]) (k := 2) (v := (-1 : Int32)) hx hb d_MI_join_104 hl rfl (by decide) (by decide) rfl (fun ls hl => ?_)
  refine lv_goto (tgt := 50) hx hb d_MI_join_107 (by decide) ?_
  refine lv_iload hx hb d_MI_join_50 (lv_at hl 0 rfl) ?_
  refine lv_if_lt (tgt := 110) hx hb d_MI_join_52 (by decide) (fun _ => ?_) (fun h99 => absurd h99 (by decide))
  refine lv_aload_n hx hb d_MI_join_110 rfl (lv_at hl 7 rfl) ?_
  refine va_get (D := D) (ci := 2) (v := .ref nx) (C := cn_MI) (T := ft_MI) (N := 3) hx hb hf_MI (fun _ h => h) hown hK hP 0 rfl rfl 1 (by decide) (gw.at G hx0 mw_65 rfl _) (fun _ h9 => h9) rfl d_MI_join_111 ?_
  refine lv_iload hx hb d_MI_join_114 (lv_at hl 3 rfl) ?_
  refine lv_lload hx hb d_MI_join_116 (lv_at hl 2 rfl) ?_
  refine tp_l (y := mex cf (rowAt pf w) 7) (by rfl) ?_
  refine va_last hx hb hK hP hD hS 2 1 rfl rfl (vp_in_iff.mpr (by decide)) d_MI_join_118 (fun H locs hP hD hS => ?_)
  have hP : va_P D kl [(mi, .inr (2, [.ref cu, .ref nx, .int (2 : Int32)])), (cu, .inl (cJ, 16, .inr (.inl cf))), (nx, .inl (cJ, 16, .inr (.inl (vp_updL nf 7 (mex cf (rowAt pf w) 7))))), (pl, .inr (1, [.ref pa, .int (nI ct), .int (nI mo)])), (pa, .inl (cI, pz, .inl pf))] H := hP
  have hD : va_D A [(mi, .inr (2, [.ref cu, .ref nx, .int (2 : Int32)])), (cu, .inl (cJ, 16, .inr (.inl cf))), (nx, .inl (cJ, 16, .inr (.inl (vp_updL nf 7 (mex cf (rowAt pf w) 7))))), (pl, .inr (1, [.ref pa, .int (nI ct), .int (nI mo)])), (pa, .inl (cI, pz, .inl pf))] := hD
  have K_1 : W p l e ({ frames := 0, cells := 0, slots := 0, locals := 0 } : Room) s m ([.ref mi, .ref pl, .int (nI w)] : List Value).toArray below meth c H locs 0 0 Q (F0 m 135 ls [.int (bi (False ∨ ¬ mex cf (rowAt pf w) 7 = 0))]) := by
    refine lv_istore_n (lv' := [(3, .int (bi (False ∨ ¬ mex cf (rowAt pf w) 7 = 0))), (10, .int (-1 : Int32)), (9, .int (-1 : Int32)), (7, .long ((((0 : Int64) + (((1 : Int64) * (cf 3)) * ((pf ((w * 4) + 2)).toInt64))) + (((-1 : Int64) * (cf 5)) * ((pf ((w * 4) + 1)).toInt64))) + (((1 : Int64) * (cf 6)) * ((pf ((w * 4) + 0)).toInt64)))), (6, .int (7 : Int32)), (5, .int (11 : Int32)), (4, .int (15 : Int32)), (0, .ref mi), (1, .ref pl), (2, .int (nI w))]) hx hb d_MI_join_135 rfl hl (by decide) rfl (fun ls hl => ?_)
    refine lv_iinc (lv' := [(5, .int (12 : Int32)), (3, .int (bi (False ∨ ¬ mex cf (rowAt pf w) 7 = 0))), (10, .int (-1 : Int32)), (9, .int (-1 : Int32)), (7, .long ((((0 : Int64) + (((1 : Int64) * (cf 3)) * ((pf ((w * 4) + 2)).toInt64))) + (((-1 : Int64) * (cf 5)) * ((pf ((w * 4) + 1)).toInt64))) + (((1 : Int64) * (cf 6)) * ((pf ((w * 4) + 0)).toInt64)))), (6, .int (7 : Int32)), (4, .int (15 : Int32)), (0, .ref mi), (1, .ref pl), (2, .int (nI w))]) (k := 5) (v := (12 : Int32)) hx hb d_MI_join_136 hl rfl (by decide) (by decide) rfl (fun ls hl => ?_)
    refine lv_goto (tgt := 26) hx hb d_MI_join_139 (by decide) ?_
    refine lv_iload hx hb d_MI_join_26 (lv_at hl 0 rfl) ?_
    refine lv_iload hx hb d_MI_join_28 (lv_at hl 6 rfl) ?_
    refine lv_icmp_ge (tgt := 142) hx hb d_MI_join_30 (by decide) (fun h99 => absurd h99 (by decide)) (fun _ => ?_)
    refine va_getsN hx hb hZC hS hown (gw.at G hx0 mw_62 rfl _) (fun _ h9 => h9) d_MI_join_33 ?_
    refine lv_iload hx hb d_MI_join_36 (lv_at hl 0 rfl) ?_
    refine va_ti hx hb hTC hS (vp_in_iff.mpr (by decide)) (v := .int (11 : Int32)) (by decide) d_MI_join_38 ?_
    refine lv_istore (lv' := [(6, .int (11 : Int32)), (5, .int (12 : Int32)), (3, .int (bi (False ∨ ¬ mex cf (rowAt pf w) 7 = 0))), (10, .int (-1 : Int32)), (9, .int (-1 : Int32)), (7, .long ((((0 : Int64) + (((1 : Int64) * (cf 3)) * ((pf ((w * 4) + 2)).toInt64))) + (((-1 : Int64) * (cf 5)) * ((pf ((w * 4) + 1)).toInt64))) + (((1 : Int64) * (cf 6)) * ((pf ((w * 4) + 0)).toInt64)))), (4, .int (15 : Int32)), (0, .ref mi), (1, .ref pl), (2, .int (nI w))]) hx hb d_MI_join_39 hl (by decide) rfl (fun ls hl => ?_)
    refine lv_lconst (v := (0 : Int64)) hx hb d_MI_join_41 (by decide) ?_
    refine lv_lstore (lv' := [(7, .long (0 : Int64)), (6, .int (11 : Int32)), (5, .int (12 : Int32)), (3, .int (bi (False ∨ ¬ mex cf (rowAt pf w) 7 = 0))), (10, .int (-1 : Int32)), (9, .int (-1 : Int32)), (4, .int (15 : Int32)), (0, .ref mi), (1, .ref pl), (2, .int (nI w))]) hx hb d_MI_join_42 hl (by decide) rfl (fun ls hl => ?_)
    refine lv_iconst (v := (1 : Int32)) hx hb d_MI_join_44 (by decide) ?_
    refine lv_istore (lv' := [(9, .int (1 : Int32)), (7, .long (0 : Int64)), (6, .int (11 : Int32)), (5, .int (12 : Int32)), (3, .int (bi (False ∨ ¬ mex cf (rowAt pf w) 7 = 0))), (10, .int (-1 : Int32)), (4, .int (15 : Int32)), (0, .ref mi), (1, .ref pl), (2, .int (nI w))]) hx hb d_MI_join_45 hl (by decide) rfl (fun ls hl => ?_)
    refine lv_iconst (v := (3 : Int32)) hx hb d_MI_join_47 (by decide) ?_
    refine lv_istore (lv' := [(10, .int (3 : Int32)), (9, .int (1 : Int32)), (7, .long (0 : Int64)), (6, .int (11 : Int32)), (5, .int (12 : Int32)), (3, .int (bi (False ∨ ¬ mex cf (rowAt pf w) 7 = 0))), (4, .int (15 : Int32)), (0, .ref mi), (1, .ref pl), (2, .int (nI w))]) hx hb d_MI_join_48 hl (by decide) rfl (fun ls hl => ?_)
    refine lv_iload hx hb d_MI_join_50 (lv_at hl 0 rfl) ?_
    refine lv_if_lt (tgt := 110) hx hb d_MI_join_52 (by decide) (fun h99 => absurd h99 (by decide)) (fun _ => ?_)
    refine lv_iload hx hb d_MI_join_55 (lv_at hl 3 rfl) ?_
    refine lv_iload hx hb d_MI_join_57 (lv_at hl 0 rfl) ?_
    refine lv_ishr hx hb d_MI_join_59 ?_
    refine tp_i (y := (1 : Int32)) (by decide) ?_
    refine lv_iconst (v := (1 : Int32)) hx hb d_MI_join_60 (by decide) ?_
    refine lv_iand hx hb d_MI_join_61 ?_
    refine tp_i (y := (1 : Int32)) (by decide) ?_
    refine lv_if_eq (tgt := 104) hx hb d_MI_join_62 (by decide) (fun h99 => absurd h99 (by decide)) (fun _ => ?_)
    refine lv_lload hx hb d_MI_join_65 (lv_at hl 2 rfl) ?_
    refine lv_iload hx hb d_MI_join_67 (lv_at hl 1 rfl) ?_
    refine lv_i2l (v := (1 : Int64)) hx hb d_MI_join_69 (by decide) ?_
    refine lv_aload_n hx hb d_MI_join_70 rfl (lv_at hl 7 rfl) ?_
    refine va_get (D := D) (ci := 2) (v := .ref cu) (C := cn_MI) (T := ft_MI) (N := 3) hx hb hf_MI (fun _ h => h) hown hK hP 0 rfl rfl 0 (by decide) (gw.at G hx0 mw_64 rfl _) (fun _ h9 => h9) rfl d_MI_join_71 ?_
    refine lv_iload hx hb d_MI_join_74 (lv_at hl 3 rfl) ?_
    refine lv_iconst (v := (1 : Int32)) hx hb d_MI_join_76 (by decide) ?_
    refine lv_iload hx hb d_MI_join_77 (lv_at hl 0 rfl) ?_
    refine lv_ishl hx hb d_MI_join_79 ?_
    refine tp_i (y := (8 : Int32)) (by decide) ?_
    refine lv_ixor hx hb d_MI_join_80 ?_
    refine tp_i (y := (3 : Int32)) (by decide) ?_
    refine va_lald hx hb hK hP 1 1 rfl rfl (vp_in_iff.mpr (by decide)) d_MI_join_81 ?_
    refine tp_l (y := cf 3) (by rfl) ?_
    refine lv_lmul hx hb d_MI_join_82 ?_
    refine lv_aload_n hx hb d_MI_join_83 rfl (lv_at hl 8 rfl) ?_
    refine va_get (D := D) (ci := 1) (v := .ref pa) (C := cn_PL) (T := ft_PL) (N := 3) hx hb hf_PL (fun _ h => h) hown hK hP 3 rfl rfl 0 (by decide) (gw.at G hx0 mw_40 rfl _) (fun _ h9 => h9) rfl d_MI_join_84 ?_
    refine lv_iload_n hx hb d_MI_join_87 rfl (lv_at hl 9 rfl) ?_
    refine lv_iconst (v := (4 : Int32)) hx hb d_MI_join_88 (by decide) ?_
    refine lv_imul hx hb d_MI_join_89 ?_
    refine tp_i (y := nI (w * 4)) (nI_mul w 4) ?_
    refine lv_iload hx hb d_MI_join_90 (lv_at hl 0 rfl) ?_
    refine lv_iadd hx hb d_MI_join_92 ?_
    refine tp_i (y := nI ((w * 4) + 3)) (nI_add (w * 4) 3) ?_
    refine va_iald hx hb hK hP 4 0 rfl rfl (vp_in_nI (n := (w * 4) + 3) (by omega) (by omega)) d_MI_join_93 ?_
    refine tp_i (y := pf ((w * 4) + 3)) (congrArg pf (nI_clamp (n := (w * 4) + 3) (by omega))) ?_
    refine lv_i2l (v := (pf ((w * 4) + 3)).toInt64) hx hb d_MI_join_94 rfl ?_
    refine lv_lmul hx hb d_MI_join_95 ?_
    refine lv_ladd hx hb d_MI_join_96 ?_
    refine lv_lstore (lv' := [(7, .long ((0 : Int64) + (((1 : Int64) * (cf 3)) * ((pf ((w * 4) + 3)).toInt64)))), (10, .int (3 : Int32)), (9, .int (1 : Int32)), (6, .int (11 : Int32)), (5, .int (12 : Int32)), (3, .int (bi (False ∨ ¬ mex cf (rowAt pf w) 7 = 0))), (4, .int (15 : Int32)), (0, .ref mi), (1, .ref pl), (2, .int (nI w))]) hx hb d_MI_join_97 hl (by decide) rfl (fun ls hl => ?_)
    refine lv_iload hx hb d_MI_join_99 (lv_at hl 2 rfl) ?_
    refine lv_ineg hx hb d_MI_join_101 ?_
    refine tp_i (y := (-1 : Int32)) (by decide) ?_
    refine lv_istore (lv' := [(9, .int (-1 : Int32)), (7, .long ((0 : Int64) + (((1 : Int64) * (cf 3)) * ((pf ((w * 4) + 3)).toInt64)))), (10, .int (3 : Int32)), (6, .int (11 : Int32)), (5, .int (12 : Int32)), (3, .int (bi (False ∨ ¬ mex cf (rowAt pf w) 7 = 0))), (4, .int (15 : Int32)), (0, .ref mi), (1, .ref pl), (2, .int (nI w))]) hx hb d_MI_join_102 hl (by decide) rfl (fun ls hl => ?_)
    refine lv_iinc (lv' := [(10, .int (2 : Int32)), (9, .int (-1 : Int32)), (7, .long ((0 : Int64) + (((1 : Int64) * (cf 3)) * ((pf ((w * 4) + 3)).toInt64)))), (6, .int (11 : Int32)), (5, .int (12 : Int32)), (3, .int (bi (False ∨ ¬ mex cf (rowAt pf w) 7 = 0))), (4, .int (15 : Int32)), (0, .ref mi), (1, .ref pl), (2, .int (nI w))]) (k := 2) (v := (2 : Int32)) hx hb d_MI_join_104 hl rfl (by decide) (by decide) rfl (fun ls hl => ?_)
    refine lv_goto (tgt := 50) hx hb d_MI_join_107 (by decide) ?_
    refine lv_iload hx hb d_MI_join_50 (lv_at hl 0 rfl) ?_
    refine lv_if_lt (tgt := 110) hx hb d_MI_join_52 (by decide) (fun h99 => absurd h99 (by decide)) (fun _ => ?_)
    refine lv_iload hx hb d_MI_join_55 (lv_at hl 3 rfl) ?_
    refine lv_iload hx hb d_MI_join_57 (lv_at hl 0 rfl) ?_
    refine lv_ishr hx hb d_MI_join_59 ?_
    refine tp_i (y := (2 : Int32)) (by decide) ?_
    refine lv_iconst (v := (1 : Int32)) hx hb d_MI_join_60 (by decide) ?_
    refine lv_iand hx hb d_MI_join_61 ?_
    refine tp_i (y := (0 : Int32)) (by decide) ?_
    refine lv_if_eq (tgt := 104) hx hb d_MI_join_62 (by decide) (fun _ => ?_) (fun h99 => absurd h99 (by decide))
    refine lv_iinc (lv' := [(10, .int (1 : Int32)), (9, .int (-1 : Int32)), (7, .long ((0 : Int64) + (((1 : Int64) * (cf 3)) * ((pf ((w * 4) + 3)).toInt64)))), (6, .int (11 : Int32)), (5, .int (12 : Int32)), (3, .int (bi (False ∨ ¬ mex cf (rowAt pf w) 7 = 0))), (4, .int (15 : Int32)), (0, .ref mi), (1, .ref pl), (2, .int (nI w))]) (k := 0) (v := (1 : Int32)) hx hb d_MI_join_104 hl rfl (by decide) (by decide) rfl (fun ls hl => ?_)
    refine lv_goto (tgt := 50) hx hb d_MI_join_107 (by decide) ?_
    refine lv_iload hx hb d_MI_join_50 (lv_at hl 0 rfl) ?_
    refine lv_if_lt (tgt := 110) hx hb d_MI_join_52 (by decide) (fun h99 => absurd h99 (by decide)) (fun _ => ?_)
    refine lv_iload hx hb d_MI_join_55 (lv_at hl 3 rfl) ?_
    refine lv_iload hx hb d_MI_join_57 (lv_at hl 0 rfl) ?_
    refine lv_ishr hx hb d_MI_join_59 ?_
    refine tp_i (y := (5 : Int32)) (by decide) ?_
    refine lv_iconst (v := (1 : Int32)) hx hb d_MI_join_60 (by decide) ?_
    refine lv_iand hx hb d_MI_join_61 ?_
    refine tp_i (y := (1 : Int32)) (by decide) ?_
    refine lv_if_eq (tgt := 104) hx hb d_MI_join_62 (by decide) (fun h99 => absurd h99 (by decide)) (fun _ => ?_)
    refine lv_lload hx hb d_MI_join_65 (lv_at hl 2 rfl) ?_
    refine lv_iload hx hb d_MI_join_67 (lv_at hl 1 rfl) ?_
    refine lv_i2l (v := (-1 : Int64)) hx hb d_MI_join_69 (by decide) ?_
    refine lv_aload_n hx hb d_MI_join_70 rfl (lv_at hl 7 rfl) ?_
    refine va_get (D := D) (ci := 2) (v := .ref cu) (C := cn_MI) (T := ft_MI) (N := 3) hx hb hf_MI (fun _ h => h) hown hK hP 0 rfl rfl 0 (by decide) (gw.at G hx0 mw_64 rfl _) (fun _ h9 => h9) rfl d_MI_join_71 ?_
    refine lv_iload hx hb d_MI_join_74 (lv_at hl 3 rfl) ?_
    refine lv_iconst (v := (1 : Int32)) hx hb d_MI_join_76 (by decide) ?_
    refine lv_iload hx hb d_MI_join_77 (lv_at hl 0 rfl) ?_
    refine lv_ishl hx hb d_MI_join_79 ?_
    refine tp_i (y := (2 : Int32)) (by decide) ?_
    refine lv_ixor hx hb d_MI_join_80 ?_
    refine tp_i (y := (9 : Int32)) (by decide) ?_
    refine va_lald hx hb hK hP 1 1 rfl rfl (vp_in_iff.mpr (by decide)) d_MI_join_81 ?_
    refine tp_l (y := cf 9) (by rfl) ?_
    refine lv_lmul hx hb d_MI_join_82 ?_
    refine lv_aload_n hx hb d_MI_join_83 rfl (lv_at hl 8 rfl) ?_
    refine va_get (D := D) (ci := 1) (v := .ref pa) (C := cn_PL) (T := ft_PL) (N := 3) hx hb hf_PL (fun _ h => h) hown hK hP 3 rfl rfl 0 (by decide) (gw.at G hx0 mw_40 rfl _) (fun _ h9 => h9) rfl d_MI_join_84 ?_
    refine lv_iload_n hx hb d_MI_join_87 rfl (lv_at hl 9 rfl) ?_
    refine lv_iconst (v := (4 : Int32)) hx hb d_MI_join_88 (by decide) ?_
    refine lv_imul hx hb d_MI_join_89 ?_
    refine tp_i (y := nI (w * 4)) (nI_mul w 4) ?_
    refine lv_iload hx hb d_MI_join_90 (lv_at hl 0 rfl) ?_
    refine lv_iadd hx hb d_MI_join_92 ?_
    refine tp_i (y := nI ((w * 4) + 1)) (nI_add (w * 4) 1) ?_
    refine va_iald hx hb hK hP 4 0 rfl rfl (vp_in_nI (n := (w * 4) + 1) (by omega) (by omega)) d_MI_join_93 ?_
    refine tp_i (y := pf ((w * 4) + 1)) (congrArg pf (nI_clamp (n := (w * 4) + 1) (by omega))) ?_
    refine lv_i2l (v := (pf ((w * 4) + 1)).toInt64) hx hb d_MI_join_94 rfl ?_
    refine lv_lmul hx hb d_MI_join_95 ?_
    refine lv_ladd hx hb d_MI_join_96 ?_
    refine lv_lstore (lv' := [(7, .long (((0 : Int64) + (((1 : Int64) * (cf 3)) * ((pf ((w * 4) + 3)).toInt64))) + (((-1 : Int64) * (cf 9)) * ((pf ((w * 4) + 1)).toInt64)))), (10, .int (1 : Int32)), (9, .int (-1 : Int32)), (6, .int (11 : Int32)), (5, .int (12 : Int32)), (3, .int (bi (False ∨ ¬ mex cf (rowAt pf w) 7 = 0))), (4, .int (15 : Int32)), (0, .ref mi), (1, .ref pl), (2, .int (nI w))]) hx hb d_MI_join_97 hl (by decide) rfl (fun ls hl => ?_)
    refine lv_iload hx hb d_MI_join_99 (lv_at hl 2 rfl) ?_
    refine lv_ineg hx hb d_MI_join_101 ?_
    refine tp_i (y := (1 : Int32)) (by decide) ?_
    refine lv_istore (lv' := [(9, .int (1 : Int32)), (7, .long (((0 : Int64) + (((1 : Int64) * (cf 3)) * ((pf ((w * 4) + 3)).toInt64))) + (((-1 : Int64) * (cf 9)) * ((pf ((w * 4) + 1)).toInt64)))), (10, .int (1 : Int32)), (6, .int (11 : Int32)), (5, .int (12 : Int32)), (3, .int (bi (False ∨ ¬ mex cf (rowAt pf w) 7 = 0))), (4, .int (15 : Int32)), (0, .ref mi), (1, .ref pl), (2, .int (nI w))]) hx hb d_MI_join_102 hl (by decide) rfl (fun ls hl => ?_)
    refine lv_iinc (lv' := [(10, .int (0 : Int32)), (9, .int (1 : Int32)), (7, .long (((0 : Int64) + (((1 : Int64) * (cf 3)) * ((pf ((w * 4) + 3)).toInt64))) + (((-1 : Int64) * (cf 9)) * ((pf ((w * 4) + 1)).toInt64)))), (6, .int (11 : Int32)), (5, .int (12 : Int32)), (3, .int (bi (False ∨ ¬ mex cf (rowAt pf w) 7 = 0))), (4, .int (15 : Int32)), (0, .ref mi), (1, .ref pl), (2, .int (nI w))]) (k := 2) (v := (0 : Int32)) hx hb d_MI_join_104 hl rfl (by decide) (by decide) rfl (fun ls hl => ?_)
    refine lv_goto (tgt := 50) hx hb d_MI_join_107 (by decide) ?_
    refine lv_iload hx hb d_MI_join_50 (lv_at hl 0 rfl) ?_
    refine lv_if_lt (tgt := 110) hx hb d_MI_join_52 (by decide) (fun h99 => absurd h99 (by decide)) (fun _ => ?_)
    refine lv_iload hx hb d_MI_join_55 (lv_at hl 3 rfl) ?_
    refine lv_iload hx hb d_MI_join_57 (lv_at hl 0 rfl) ?_
    refine lv_ishr hx hb d_MI_join_59 ?_
    refine tp_i (y := (11 : Int32)) (by decide) ?_
    refine lv_iconst (v := (1 : Int32)) hx hb d_MI_join_60 (by decide) ?_
    refine lv_iand hx hb d_MI_join_61 ?_
    refine tp_i (y := (1 : Int32)) (by decide) ?_
    refine lv_if_eq (tgt := 104) hx hb d_MI_join_62 (by decide) (fun h99 => absurd h99 (by decide)) (fun _ => ?_)
    refine lv_lload hx hb d_MI_join_65 (lv_at hl 2 rfl) ?_
    refine lv_iload hx hb d_MI_join_67 (lv_at hl 1 rfl) ?_
    refine lv_i2l (v := (1 : Int64)) hx hb d_MI_join_69 (by decide) ?_
    refine lv_aload_n hx hb d_MI_join_70 rfl (lv_at hl 7 rfl) ?_
    refine va_get (D := D) (ci := 2) (v := .ref cu) (C := cn_MI) (T := ft_MI) (N := 3) hx hb hf_MI (fun _ h => h) hown hK hP 0 rfl rfl 0 (by decide) (gw.at G hx0 mw_64 rfl _) (fun _ h9 => h9) rfl d_MI_join_71 ?_
    refine lv_iload hx hb d_MI_join_74 (lv_at hl 3 rfl) ?_
    refine lv_iconst (v := (1 : Int32)) hx hb d_MI_join_76 (by decide) ?_
    refine lv_iload hx hb d_MI_join_77 (lv_at hl 0 rfl) ?_
    refine lv_ishl hx hb d_MI_join_79 ?_
    refine tp_i (y := (1 : Int32)) (by decide) ?_
    refine lv_ixor hx hb d_MI_join_80 ?_
    refine tp_i (y := (10 : Int32)) (by decide) ?_
    refine va_lald hx hb hK hP 1 1 rfl rfl (vp_in_iff.mpr (by decide)) d_MI_join_81 ?_
    refine tp_l (y := cf 10) (by rfl) ?_
    refine lv_lmul hx hb d_MI_join_82 ?_
    refine lv_aload_n hx hb d_MI_join_83 rfl (lv_at hl 8 rfl) ?_
    refine va_get (D := D) (ci := 1) (v := .ref pa) (C := cn_PL) (T := ft_PL) (N := 3) hx hb hf_PL (fun _ h => h) hown hK hP 3 rfl rfl 0 (by decide) (gw.at G hx0 mw_40 rfl _) (fun _ h9 => h9) rfl d_MI_join_84 ?_
    refine lv_iload_n hx hb d_MI_join_87 rfl (lv_at hl 9 rfl) ?_
    refine lv_iconst (v := (4 : Int32)) hx hb d_MI_join_88 (by decide) ?_
    refine lv_imul hx hb d_MI_join_89 ?_
    refine tp_i (y := nI (w * 4)) (nI_mul w 4) ?_
    refine lv_iload hx hb d_MI_join_90 (lv_at hl 0 rfl) ?_
    refine lv_iadd hx hb d_MI_join_92 ?_
    refine tp_i (y := nI ((w * 4) + 0)) (nI_add (w * 4) 0) ?_
    refine va_iald hx hb hK hP 4 0 rfl rfl (vp_in_nI (n := (w * 4) + 0) (by omega) (by omega)) d_MI_join_93 ?_
    refine tp_i (y := pf ((w * 4) + 0)) (congrArg pf (nI_clamp (n := (w * 4) + 0) (by omega))) ?_
    refine lv_i2l (v := (pf ((w * 4) + 0)).toInt64) hx hb d_MI_join_94 rfl ?_
    refine lv_lmul hx hb d_MI_join_95 ?_
    refine lv_ladd hx hb d_MI_join_96 ?_
    refine lv_lstore (lv' := [(7, .long ((((0 : Int64) + (((1 : Int64) * (cf 3)) * ((pf ((w * 4) + 3)).toInt64))) + (((-1 : Int64) * (cf 9)) * ((pf ((w * 4) + 1)).toInt64))) + (((1 : Int64) * (cf 10)) * ((pf ((w * 4) + 0)).toInt64)))), (10, .int (0 : Int32)), (9, .int (1 : Int32)), (6, .int (11 : Int32)), (5, .int (12 : Int32)), (3, .int (bi (False ∨ ¬ mex cf (rowAt pf w) 7 = 0))), (4, .int (15 : Int32)), (0, .ref mi), (1, .ref pl), (2, .int (nI w))]) hx hb d_MI_join_97 hl (by decide) rfl (fun ls hl => ?_)
    refine lv_iload hx hb d_MI_join_99 (lv_at hl 2 rfl) ?_
    refine lv_ineg hx hb d_MI_join_101 ?_
    refine tp_i (y := (-1 : Int32)) (by decide) ?_
    refine lv_istore (lv' := [(9, .int (-1 : Int32)), (7, .long ((((0 : Int64) + (((1 : Int64) * (cf 3)) * ((pf ((w * 4) + 3)).toInt64))) + (((-1 : Int64) * (cf 9)) * ((pf ((w * 4) + 1)).toInt64))) + (((1 : Int64) * (cf 10)) * ((pf ((w * 4) + 0)).toInt64)))), (10, .int (0 : Int32)), (6, .int (11 : Int32)), (5, .int (12 : Int32)), (3, .int (bi (False ∨ ¬ mex cf (rowAt pf w) 7 = 0))), (4, .int (15 : Int32)), (0, .ref mi), (1, .ref pl), (2, .int (nI w))]) hx hb d_MI_join_102 hl (by decide) rfl (fun ls hl => ?_)
    refine lv_iinc (lv' := [(10, .int (-1 : Int32)), (9, .int (-1 : Int32)), (7, .long ((((0 : Int64) + (((1 : Int64) * (cf 3)) * ((pf ((w * 4) + 3)).toInt64))) + (((-1 : Int64) * (cf 9)) * ((pf ((w * 4) + 1)).toInt64))) + (((1 : Int64) * (cf 10)) * ((pf ((w * 4) + 0)).toInt64)))), (6, .int (11 : Int32)), (5, .int (12 : Int32)), (3, .int (bi (False ∨ ¬ mex cf (rowAt pf w) 7 = 0))), (4, .int (15 : Int32)), (0, .ref mi), (1, .ref pl), (2, .int (nI w))]) (k := 2) (v := (-1 : Int32)) hx hb d_MI_join_104 hl rfl (by decide) (by decide) rfl (fun ls hl => ?_)
    refine lv_goto (tgt := 50) hx hb d_MI_join_107 (by decide) ?_
    refine lv_iload hx hb d_MI_join_50 (lv_at hl 0 rfl) ?_
    refine lv_if_lt (tgt := 110) hx hb d_MI_join_52 (by decide) (fun _ => ?_) (fun h99 => absurd h99 (by decide))
    refine lv_aload_n hx hb d_MI_join_110 rfl (lv_at hl 7 rfl) ?_
    refine va_get (D := D) (ci := 2) (v := .ref nx) (C := cn_MI) (T := ft_MI) (N := 3) hx hb hf_MI (fun _ h => h) hown hK hP 0 rfl rfl 1 (by decide) (gw.at G hx0 mw_65 rfl _) (fun _ h9 => h9) rfl d_MI_join_111 ?_
    refine lv_iload hx hb d_MI_join_114 (lv_at hl 3 rfl) ?_
    refine lv_lload hx hb d_MI_join_116 (lv_at hl 2 rfl) ?_
    refine tp_l (y := mex cf (rowAt pf w) 11) (by rfl) ?_
    refine va_last hx hb hK hP hD hS 2 1 rfl rfl (vp_in_iff.mpr (by decide)) d_MI_join_118 (fun H locs hP hD hS => ?_)
    have hP : va_P D kl [(mi, .inr (2, [.ref cu, .ref nx, .int (2 : Int32)])), (cu, .inl (cJ, 16, .inr (.inl cf))), (nx, .inl (cJ, 16, .inr (.inl (vp_updL (vp_updL nf 7 (mex cf (rowAt pf w) 7)) 11 (mex cf (rowAt pf w) 11))))), (pl, .inr (1, [.ref pa, .int (nI ct), .int (nI mo)])), (pa, .inl (cI, pz, .inl pf))] H := hP
    have hD : va_D A [(mi, .inr (2, [.ref cu, .ref nx, .int (2 : Int32)])), (cu, .inl (cJ, 16, .inr (.inl cf))), (nx, .inl (cJ, 16, .inr (.inl (vp_updL (vp_updL nf 7 (mex cf (rowAt pf w) 7)) 11 (mex cf (rowAt pf w) 11))))), (pl, .inr (1, [.ref pa, .int (nI ct), .int (nI mo)])), (pa, .inl (cI, pz, .inl pf))] := hD
    have K_2 : W p l e ({ frames := 0, cells := 0, slots := 0, locals := 0 } : Room) s m ([.ref mi, .ref pl, .int (nI w)] : List Value).toArray below meth c H locs 0 0 Q (F0 m 135 ls [.int (bi ((False ∨ ¬ mex cf (rowAt pf w) 7 = 0) ∨ ¬ mex cf (rowAt pf w) 11 = 0))]) := by
      refine lv_istore_n (lv' := [(3, .int (bi ((False ∨ ¬ mex cf (rowAt pf w) 7 = 0) ∨ ¬ mex cf (rowAt pf w) 11 = 0))), (10, .int (-1 : Int32)), (9, .int (-1 : Int32)), (7, .long ((((0 : Int64) + (((1 : Int64) * (cf 3)) * ((pf ((w * 4) + 3)).toInt64))) + (((-1 : Int64) * (cf 9)) * ((pf ((w * 4) + 1)).toInt64))) + (((1 : Int64) * (cf 10)) * ((pf ((w * 4) + 0)).toInt64)))), (6, .int (11 : Int32)), (5, .int (12 : Int32)), (4, .int (15 : Int32)), (0, .ref mi), (1, .ref pl), (2, .int (nI w))]) hx hb d_MI_join_135 rfl hl (by decide) rfl (fun ls hl => ?_)
      refine lv_iinc (lv' := [(5, .int (13 : Int32)), (3, .int (bi ((False ∨ ¬ mex cf (rowAt pf w) 7 = 0) ∨ ¬ mex cf (rowAt pf w) 11 = 0))), (10, .int (-1 : Int32)), (9, .int (-1 : Int32)), (7, .long ((((0 : Int64) + (((1 : Int64) * (cf 3)) * ((pf ((w * 4) + 3)).toInt64))) + (((-1 : Int64) * (cf 9)) * ((pf ((w * 4) + 1)).toInt64))) + (((1 : Int64) * (cf 10)) * ((pf ((w * 4) + 0)).toInt64)))), (6, .int (11 : Int32)), (4, .int (15 : Int32)), (0, .ref mi), (1, .ref pl), (2, .int (nI w))]) (k := 5) (v := (13 : Int32)) hx hb d_MI_join_136 hl rfl (by decide) (by decide) rfl (fun ls hl => ?_)
      refine lv_goto (tgt := 26) hx hb d_MI_join_139 (by decide) ?_
      refine lv_iload hx hb d_MI_join_26 (lv_at hl 0 rfl) ?_
      refine lv_iload hx hb d_MI_join_28 (lv_at hl 6 rfl) ?_
      refine lv_icmp_ge (tgt := 142) hx hb d_MI_join_30 (by decide) (fun h99 => absurd h99 (by decide)) (fun _ => ?_)
      refine va_getsN hx hb hZC hS hown (gw.at G hx0 mw_62 rfl _) (fun _ h9 => h9) d_MI_join_33 ?_
      refine lv_iload hx hb d_MI_join_36 (lv_at hl 0 rfl) ?_
      refine va_ti hx hb hTC hS (vp_in_iff.mpr (by decide)) (v := .int (13 : Int32)) (by decide) d_MI_join_38 ?_
      refine lv_istore (lv' := [(6, .int (13 : Int32)), (5, .int (13 : Int32)), (3, .int (bi ((False ∨ ¬ mex cf (rowAt pf w) 7 = 0) ∨ ¬ mex cf (rowAt pf w) 11 = 0))), (10, .int (-1 : Int32)), (9, .int (-1 : Int32)), (7, .long ((((0 : Int64) + (((1 : Int64) * (cf 3)) * ((pf ((w * 4) + 3)).toInt64))) + (((-1 : Int64) * (cf 9)) * ((pf ((w * 4) + 1)).toInt64))) + (((1 : Int64) * (cf 10)) * ((pf ((w * 4) + 0)).toInt64)))), (4, .int (15 : Int32)), (0, .ref mi), (1, .ref pl), (2, .int (nI w))]) hx hb d_MI_join_39 hl (by decide) rfl (fun ls hl => ?_)
      refine lv_lconst (v := (0 : Int64)) hx hb d_MI_join_41 (by decide) ?_
      refine lv_lstore (lv' := [(7, .long (0 : Int64)), (6, .int (13 : Int32)), (5, .int (13 : Int32)), (3, .int (bi ((False ∨ ¬ mex cf (rowAt pf w) 7 = 0) ∨ ¬ mex cf (rowAt pf w) 11 = 0))), (10, .int (-1 : Int32)), (9, .int (-1 : Int32)), (4, .int (15 : Int32)), (0, .ref mi), (1, .ref pl), (2, .int (nI w))]) hx hb d_MI_join_42 hl (by decide) rfl (fun ls hl => ?_)
      refine lv_iconst (v := (1 : Int32)) hx hb d_MI_join_44 (by decide) ?_
      refine lv_istore (lv' := [(9, .int (1 : Int32)), (7, .long (0 : Int64)), (6, .int (13 : Int32)), (5, .int (13 : Int32)), (3, .int (bi ((False ∨ ¬ mex cf (rowAt pf w) 7 = 0) ∨ ¬ mex cf (rowAt pf w) 11 = 0))), (10, .int (-1 : Int32)), (4, .int (15 : Int32)), (0, .ref mi), (1, .ref pl), (2, .int (nI w))]) hx hb d_MI_join_45 hl (by decide) rfl (fun ls hl => ?_)
      refine lv_iconst (v := (3 : Int32)) hx hb d_MI_join_47 (by decide) ?_
      refine lv_istore (lv' := [(10, .int (3 : Int32)), (9, .int (1 : Int32)), (7, .long (0 : Int64)), (6, .int (13 : Int32)), (5, .int (13 : Int32)), (3, .int (bi ((False ∨ ¬ mex cf (rowAt pf w) 7 = 0) ∨ ¬ mex cf (rowAt pf w) 11 = 0))), (4, .int (15 : Int32)), (0, .ref mi), (1, .ref pl), (2, .int (nI w))]) hx hb d_MI_join_48 hl (by decide) rfl (fun ls hl => ?_)
      refine lv_iload hx hb d_MI_join_50 (lv_at hl 0 rfl) ?_
      refine lv_if_lt (tgt := 110) hx hb d_MI_join_52 (by decide) (fun h99 => absurd h99 (by decide)) (fun _ => ?_)
      refine lv_iload hx hb d_MI_join_55 (lv_at hl 3 rfl) ?_
      refine lv_iload hx hb d_MI_join_57 (lv_at hl 0 rfl) ?_
      refine lv_ishr hx hb d_MI_join_59 ?_
      refine tp_i (y := (1 : Int32)) (by decide) ?_
      refine lv_iconst (v := (1 : Int32)) hx hb d_MI_join_60 (by decide) ?_
      refine lv_iand hx hb d_MI_join_61 ?_
      refine tp_i (y := (1 : Int32)) (by decide) ?_
      refine lv_if_eq (tgt := 104) hx hb d_MI_join_62 (by decide) (fun h99 => absurd h99 (by decide)) (fun _ => ?_)
      refine lv_lload hx hb d_MI_join_65 (lv_at hl 2 rfl) ?_
      refine lv_iload hx hb d_MI_join_67 (lv_at hl 1 rfl) ?_
      refine lv_i2l (v := (1 : Int64)) hx hb d_MI_join_69 (by decide) ?_
      refine lv_aload_n hx hb d_MI_join_70 rfl (lv_at hl 7 rfl) ?_
      refine va_get (D := D) (ci := 2) (v := .ref cu) (C := cn_MI) (T := ft_MI) (N := 3) hx hb hf_MI (fun _ h => h) hown hK hP 0 rfl rfl 0 (by decide) (gw.at G hx0 mw_64 rfl _) (fun _ h9 => h9) rfl d_MI_join_71 ?_
      refine lv_iload hx hb d_MI_join_74 (lv_at hl 3 rfl) ?_
      refine lv_iconst (v := (1 : Int32)) hx hb d_MI_join_76 (by decide) ?_
      refine lv_iload hx hb d_MI_join_77 (lv_at hl 0 rfl) ?_
      refine lv_ishl hx hb d_MI_join_79 ?_
      refine tp_i (y := (8 : Int32)) (by decide) ?_
      refine lv_ixor hx hb d_MI_join_80 ?_
      refine tp_i (y := (5 : Int32)) (by decide) ?_
      refine va_lald hx hb hK hP 1 1 rfl rfl (vp_in_iff.mpr (by decide)) d_MI_join_81 ?_
      refine tp_l (y := cf 5) (by rfl) ?_
      refine lv_lmul hx hb d_MI_join_82 ?_
      refine lv_aload_n hx hb d_MI_join_83 rfl (lv_at hl 8 rfl) ?_
      refine va_get (D := D) (ci := 1) (v := .ref pa) (C := cn_PL) (T := ft_PL) (N := 3) hx hb hf_PL (fun _ h => h) hown hK hP 3 rfl rfl 0 (by decide) (gw.at G hx0 mw_40 rfl _) (fun _ h9 => h9) rfl d_MI_join_84 ?_
      refine lv_iload_n hx hb d_MI_join_87 rfl (lv_at hl 9 rfl) ?_
      refine lv_iconst (v := (4 : Int32)) hx hb d_MI_join_88 (by decide) ?_
      refine lv_imul hx hb d_MI_join_89 ?_
      refine tp_i (y := nI (w * 4)) (nI_mul w 4) ?_
      refine lv_iload hx hb d_MI_join_90 (lv_at hl 0 rfl) ?_
      refine lv_iadd hx hb d_MI_join_92 ?_
      refine tp_i (y := nI ((w * 4) + 3)) (nI_add (w * 4) 3) ?_
      refine va_iald hx hb hK hP 4 0 rfl rfl (vp_in_nI (n := (w * 4) + 3) (by omega) (by omega)) d_MI_join_93 ?_
      refine tp_i (y := pf ((w * 4) + 3)) (congrArg pf (nI_clamp (n := (w * 4) + 3) (by omega))) ?_
      refine lv_i2l (v := (pf ((w * 4) + 3)).toInt64) hx hb d_MI_join_94 rfl ?_
      refine lv_lmul hx hb d_MI_join_95 ?_
      refine lv_ladd hx hb d_MI_join_96 ?_
      refine lv_lstore (lv' := [(7, .long ((0 : Int64) + (((1 : Int64) * (cf 5)) * ((pf ((w * 4) + 3)).toInt64)))), (10, .int (3 : Int32)), (9, .int (1 : Int32)), (6, .int (13 : Int32)), (5, .int (13 : Int32)), (3, .int (bi ((False ∨ ¬ mex cf (rowAt pf w) 7 = 0) ∨ ¬ mex cf (rowAt pf w) 11 = 0))), (4, .int (15 : Int32)), (0, .ref mi), (1, .ref pl), (2, .int (nI w))]) hx hb d_MI_join_97 hl (by decide) rfl (fun ls hl => ?_)
      refine lv_iload hx hb d_MI_join_99 (lv_at hl 2 rfl) ?_
      refine lv_ineg hx hb d_MI_join_101 ?_
      refine tp_i (y := (-1 : Int32)) (by decide) ?_
      refine lv_istore (lv' := [(9, .int (-1 : Int32)), (7, .long ((0 : Int64) + (((1 : Int64) * (cf 5)) * ((pf ((w * 4) + 3)).toInt64)))), (10, .int (3 : Int32)), (6, .int (13 : Int32)), (5, .int (13 : Int32)), (3, .int (bi ((False ∨ ¬ mex cf (rowAt pf w) 7 = 0) ∨ ¬ mex cf (rowAt pf w) 11 = 0))), (4, .int (15 : Int32)), (0, .ref mi), (1, .ref pl), (2, .int (nI w))]) hx hb d_MI_join_102 hl (by decide) rfl (fun ls hl => ?_)
      refine lv_iinc (lv' := [(10, .int (2 : Int32)), (9, .int (-1 : Int32)), (7, .long ((0 : Int64) + (((1 : Int64) * (cf 5)) * ((pf ((w * 4) + 3)).toInt64)))), (6, .int (13 : Int32)), (5, .int (13 : Int32)), (3, .int (bi ((False ∨ ¬ mex cf (rowAt pf w) 7 = 0) ∨ ¬ mex cf (rowAt pf w) 11 = 0))), (4, .int (15 : Int32)), (0, .ref mi), (1, .ref pl), (2, .int (nI w))]) (k := 2) (v := (2 : Int32)) hx hb d_MI_join_104 hl rfl (by decide) (by decide) rfl (fun ls hl => ?_)
      refine lv_goto (tgt := 50) hx hb d_MI_join_107 (by decide) ?_
      refine lv_iload hx hb d_MI_join_50 (lv_at hl 0 rfl) ?_
      refine lv_if_lt (tgt := 110) hx hb d_MI_join_52 (by decide) (fun h99 => absurd h99 (by decide)) (fun _ => ?_)
      refine lv_iload hx hb d_MI_join_55 (lv_at hl 3 rfl) ?_
      refine lv_iload hx hb d_MI_join_57 (lv_at hl 0 rfl) ?_
      refine lv_ishr hx hb d_MI_join_59 ?_
      refine tp_i (y := (3 : Int32)) (by decide) ?_
      refine lv_iconst (v := (1 : Int32)) hx hb d_MI_join_60 (by decide) ?_
      refine lv_iand hx hb d_MI_join_61 ?_
      refine tp_i (y := (1 : Int32)) (by decide) ?_
      refine lv_if_eq (tgt := 104) hx hb d_MI_join_62 (by decide) (fun h99 => absurd h99 (by decide)) (fun _ => ?_)
      refine lv_lload hx hb d_MI_join_65 (lv_at hl 2 rfl) ?_
      refine lv_iload hx hb d_MI_join_67 (lv_at hl 1 rfl) ?_
      refine lv_i2l (v := (-1 : Int64)) hx hb d_MI_join_69 (by decide) ?_
      refine lv_aload_n hx hb d_MI_join_70 rfl (lv_at hl 7 rfl) ?_
      refine va_get (D := D) (ci := 2) (v := .ref cu) (C := cn_MI) (T := ft_MI) (N := 3) hx hb hf_MI (fun _ h => h) hown hK hP 0 rfl rfl 0 (by decide) (gw.at G hx0 mw_64 rfl _) (fun _ h9 => h9) rfl d_MI_join_71 ?_
      refine lv_iload hx hb d_MI_join_74 (lv_at hl 3 rfl) ?_
      refine lv_iconst (v := (1 : Int32)) hx hb d_MI_join_76 (by decide) ?_
      refine lv_iload hx hb d_MI_join_77 (lv_at hl 0 rfl) ?_
      refine lv_ishl hx hb d_MI_join_79 ?_
      refine tp_i (y := (4 : Int32)) (by decide) ?_
      refine lv_ixor hx hb d_MI_join_80 ?_
      refine tp_i (y := (9 : Int32)) (by decide) ?_
      refine va_lald hx hb hK hP 1 1 rfl rfl (vp_in_iff.mpr (by decide)) d_MI_join_81 ?_
      refine tp_l (y := cf 9) (by rfl) ?_
      refine lv_lmul hx hb d_MI_join_82 ?_
      refine lv_aload_n hx hb d_MI_join_83 rfl (lv_at hl 8 rfl) ?_
      refine va_get (D := D) (ci := 1) (v := .ref pa) (C := cn_PL) (T := ft_PL) (N := 3) hx hb hf_PL (fun _ h => h) hown hK hP 3 rfl rfl 0 (by decide) (gw.at G hx0 mw_40 rfl _) (fun _ h9 => h9) rfl d_MI_join_84 ?_
      refine lv_iload_n hx hb d_MI_join_87 rfl (lv_at hl 9 rfl) ?_
      refine lv_iconst (v := (4 : Int32)) hx hb d_MI_join_88 (by decide) ?_
      refine lv_imul hx hb d_MI_join_89 ?_
      refine tp_i (y := nI (w * 4)) (nI_mul w 4) ?_
      refine lv_iload hx hb d_MI_join_90 (lv_at hl 0 rfl) ?_
      refine lv_iadd hx hb d_MI_join_92 ?_
      refine tp_i (y := nI ((w * 4) + 2)) (nI_add (w * 4) 2) ?_
      refine va_iald hx hb hK hP 4 0 rfl rfl (vp_in_nI (n := (w * 4) + 2) (by omega) (by omega)) d_MI_join_93 ?_
      refine tp_i (y := pf ((w * 4) + 2)) (congrArg pf (nI_clamp (n := (w * 4) + 2) (by omega))) ?_
      refine lv_i2l (v := (pf ((w * 4) + 2)).toInt64) hx hb d_MI_join_94 rfl ?_
      refine lv_lmul hx hb d_MI_join_95 ?_
      refine lv_ladd hx hb d_MI_join_96 ?_
      refine lv_lstore (lv' := [(7, .long (((0 : Int64) + (((1 : Int64) * (cf 5)) * ((pf ((w * 4) + 3)).toInt64))) + (((-1 : Int64) * (cf 9)) * ((pf ((w * 4) + 2)).toInt64)))), (10, .int (2 : Int32)), (9, .int (-1 : Int32)), (6, .int (13 : Int32)), (5, .int (13 : Int32)), (3, .int (bi ((False ∨ ¬ mex cf (rowAt pf w) 7 = 0) ∨ ¬ mex cf (rowAt pf w) 11 = 0))), (4, .int (15 : Int32)), (0, .ref mi), (1, .ref pl), (2, .int (nI w))]) hx hb d_MI_join_97 hl (by decide) rfl (fun ls hl => ?_)
      refine lv_iload hx hb d_MI_join_99 (lv_at hl 2 rfl) ?_
      refine lv_ineg hx hb d_MI_join_101 ?_
      refine tp_i (y := (1 : Int32)) (by decide) ?_
      refine lv_istore (lv' := [(9, .int (1 : Int32)), (7, .long (((0 : Int64) + (((1 : Int64) * (cf 5)) * ((pf ((w * 4) + 3)).toInt64))) + (((-1 : Int64) * (cf 9)) * ((pf ((w * 4) + 2)).toInt64)))), (10, .int (2 : Int32)), (6, .int (13 : Int32)), (5, .int (13 : Int32)), (3, .int (bi ((False ∨ ¬ mex cf (rowAt pf w) 7 = 0) ∨ ¬ mex cf (rowAt pf w) 11 = 0))), (4, .int (15 : Int32)), (0, .ref mi), (1, .ref pl), (2, .int (nI w))]) hx hb d_MI_join_102 hl (by decide) rfl (fun ls hl => ?_)
      refine lv_iinc (lv' := [(10, .int (1 : Int32)), (9, .int (1 : Int32)), (7, .long (((0 : Int64) + (((1 : Int64) * (cf 5)) * ((pf ((w * 4) + 3)).toInt64))) + (((-1 : Int64) * (cf 9)) * ((pf ((w * 4) + 2)).toInt64)))), (6, .int (13 : Int32)), (5, .int (13 : Int32)), (3, .int (bi ((False ∨ ¬ mex cf (rowAt pf w) 7 = 0) ∨ ¬ mex cf (rowAt pf w) 11 = 0))), (4, .int (15 : Int32)), (0, .ref mi), (1, .ref pl), (2, .int (nI w))]) (k := 2) (v := (1 : Int32)) hx hb d_MI_join_104 hl rfl (by decide) (by decide) rfl (fun ls hl => ?_)
      refine lv_goto (tgt := 50) hx hb d_MI_join_107 (by decide) ?_
      refine lv_iload hx hb d_MI_join_50 (lv_at hl 0 rfl) ?_
      refine lv_if_lt (tgt := 110) hx hb d_MI_join_52 (by decide) (fun h99 => absurd h99 (by decide)) (fun _ => ?_)
      refine lv_iload hx hb d_MI_join_55 (lv_at hl 3 rfl) ?_
      refine lv_iload hx hb d_MI_join_57 (lv_at hl 0 rfl) ?_
      refine lv_ishr hx hb d_MI_join_59 ?_
      refine tp_i (y := (6 : Int32)) (by decide) ?_
      refine lv_iconst (v := (1 : Int32)) hx hb d_MI_join_60 (by decide) ?_
      refine lv_iand hx hb d_MI_join_61 ?_
      refine tp_i (y := (0 : Int32)) (by decide) ?_
      refine lv_if_eq (tgt := 104) hx hb d_MI_join_62 (by decide) (fun _ => ?_) (fun h99 => absurd h99 (by decide))
      refine lv_iinc (lv' := [(10, .int (0 : Int32)), (9, .int (1 : Int32)), (7, .long (((0 : Int64) + (((1 : Int64) * (cf 5)) * ((pf ((w * 4) + 3)).toInt64))) + (((-1 : Int64) * (cf 9)) * ((pf ((w * 4) + 2)).toInt64)))), (6, .int (13 : Int32)), (5, .int (13 : Int32)), (3, .int (bi ((False ∨ ¬ mex cf (rowAt pf w) 7 = 0) ∨ ¬ mex cf (rowAt pf w) 11 = 0))), (4, .int (15 : Int32)), (0, .ref mi), (1, .ref pl), (2, .int (nI w))]) (k := 0) (v := (0 : Int32)) hx hb d_MI_join_104 hl rfl (by decide) (by decide) rfl (fun ls hl => ?_)
      refine lv_goto (tgt := 50) hx hb d_MI_join_107 (by decide) ?_
      refine lv_iload hx hb d_MI_join_50 (lv_at hl 0 rfl) ?_
      refine lv_if_lt (tgt := 110) hx hb d_MI_join_52 (by decide) (fun h99 => absurd h99 (by decide)) (fun _ => ?_)
      refine lv_iload hx hb d_MI_join_55 (lv_at hl 3 rfl) ?_
      refine lv_iload hx hb d_MI_join_57 (lv_at hl 0 rfl) ?_
      refine lv_ishr hx hb d_MI_join_59 ?_
      refine tp_i (y := (13 : Int32)) (by decide) ?_
      refine lv_iconst (v := (1 : Int32)) hx hb d_MI_join_60 (by decide) ?_
      refine lv_iand hx hb d_MI_join_61 ?_
      refine tp_i (y := (1 : Int32)) (by decide) ?_
      refine lv_if_eq (tgt := 104) hx hb d_MI_join_62 (by decide) (fun h99 => absurd h99 (by decide)) (fun _ => ?_)
      refine lv_lload hx hb d_MI_join_65 (lv_at hl 2 rfl) ?_
      refine lv_iload hx hb d_MI_join_67 (lv_at hl 1 rfl) ?_
      refine lv_i2l (v := (1 : Int64)) hx hb d_MI_join_69 (by decide) ?_
      refine lv_aload_n hx hb d_MI_join_70 rfl (lv_at hl 7 rfl) ?_
      refine va_get (D := D) (ci := 2) (v := .ref cu) (C := cn_MI) (T := ft_MI) (N := 3) hx hb hf_MI (fun _ h => h) hown hK hP 0 rfl rfl 0 (by decide) (gw.at G hx0 mw_64 rfl _) (fun _ h9 => h9) rfl d_MI_join_71 ?_
      refine lv_iload hx hb d_MI_join_74 (lv_at hl 3 rfl) ?_
      refine lv_iconst (v := (1 : Int32)) hx hb d_MI_join_76 (by decide) ?_
      refine lv_iload hx hb d_MI_join_77 (lv_at hl 0 rfl) ?_
      refine lv_ishl hx hb d_MI_join_79 ?_
      refine tp_i (y := (1 : Int32)) (by decide) ?_
      refine lv_ixor hx hb d_MI_join_80 ?_
      refine tp_i (y := (12 : Int32)) (by decide) ?_
      refine va_lald hx hb hK hP 1 1 rfl rfl (vp_in_iff.mpr (by decide)) d_MI_join_81 ?_
      refine tp_l (y := cf 12) (by rfl) ?_
      refine lv_lmul hx hb d_MI_join_82 ?_
      refine lv_aload_n hx hb d_MI_join_83 rfl (lv_at hl 8 rfl) ?_
      refine va_get (D := D) (ci := 1) (v := .ref pa) (C := cn_PL) (T := ft_PL) (N := 3) hx hb hf_PL (fun _ h => h) hown hK hP 3 rfl rfl 0 (by decide) (gw.at G hx0 mw_40 rfl _) (fun _ h9 => h9) rfl d_MI_join_84 ?_
      refine lv_iload_n hx hb d_MI_join_87 rfl (lv_at hl 9 rfl) ?_
      refine lv_iconst (v := (4 : Int32)) hx hb d_MI_join_88 (by decide) ?_
      refine lv_imul hx hb d_MI_join_89 ?_
      refine tp_i (y := nI (w * 4)) (nI_mul w 4) ?_
      refine lv_iload hx hb d_MI_join_90 (lv_at hl 0 rfl) ?_
      refine lv_iadd hx hb d_MI_join_92 ?_
      refine tp_i (y := nI ((w * 4) + 0)) (nI_add (w * 4) 0) ?_
      refine va_iald hx hb hK hP 4 0 rfl rfl (vp_in_nI (n := (w * 4) + 0) (by omega) (by omega)) d_MI_join_93 ?_
      refine tp_i (y := pf ((w * 4) + 0)) (congrArg pf (nI_clamp (n := (w * 4) + 0) (by omega))) ?_
      refine lv_i2l (v := (pf ((w * 4) + 0)).toInt64) hx hb d_MI_join_94 rfl ?_
      refine lv_lmul hx hb d_MI_join_95 ?_
      refine lv_ladd hx hb d_MI_join_96 ?_
      refine lv_lstore (lv' := [(7, .long ((((0 : Int64) + (((1 : Int64) * (cf 5)) * ((pf ((w * 4) + 3)).toInt64))) + (((-1 : Int64) * (cf 9)) * ((pf ((w * 4) + 2)).toInt64))) + (((1 : Int64) * (cf 12)) * ((pf ((w * 4) + 0)).toInt64)))), (10, .int (0 : Int32)), (9, .int (1 : Int32)), (6, .int (13 : Int32)), (5, .int (13 : Int32)), (3, .int (bi ((False ∨ ¬ mex cf (rowAt pf w) 7 = 0) ∨ ¬ mex cf (rowAt pf w) 11 = 0))), (4, .int (15 : Int32)), (0, .ref mi), (1, .ref pl), (2, .int (nI w))]) hx hb d_MI_join_97 hl (by decide) rfl (fun ls hl => ?_)
      refine lv_iload hx hb d_MI_join_99 (lv_at hl 2 rfl) ?_
      refine lv_ineg hx hb d_MI_join_101 ?_
      refine tp_i (y := (-1 : Int32)) (by decide) ?_
      refine lv_istore (lv' := [(9, .int (-1 : Int32)), (7, .long ((((0 : Int64) + (((1 : Int64) * (cf 5)) * ((pf ((w * 4) + 3)).toInt64))) + (((-1 : Int64) * (cf 9)) * ((pf ((w * 4) + 2)).toInt64))) + (((1 : Int64) * (cf 12)) * ((pf ((w * 4) + 0)).toInt64)))), (10, .int (0 : Int32)), (6, .int (13 : Int32)), (5, .int (13 : Int32)), (3, .int (bi ((False ∨ ¬ mex cf (rowAt pf w) 7 = 0) ∨ ¬ mex cf (rowAt pf w) 11 = 0))), (4, .int (15 : Int32)), (0, .ref mi), (1, .ref pl), (2, .int (nI w))]) hx hb d_MI_join_102 hl (by decide) rfl (fun ls hl => ?_)
      refine lv_iinc (lv' := [(10, .int (-1 : Int32)), (9, .int (-1 : Int32)), (7, .long ((((0 : Int64) + (((1 : Int64) * (cf 5)) * ((pf ((w * 4) + 3)).toInt64))) + (((-1 : Int64) * (cf 9)) * ((pf ((w * 4) + 2)).toInt64))) + (((1 : Int64) * (cf 12)) * ((pf ((w * 4) + 0)).toInt64)))), (6, .int (13 : Int32)), (5, .int (13 : Int32)), (3, .int (bi ((False ∨ ¬ mex cf (rowAt pf w) 7 = 0) ∨ ¬ mex cf (rowAt pf w) 11 = 0))), (4, .int (15 : Int32)), (0, .ref mi), (1, .ref pl), (2, .int (nI w))]) (k := 2) (v := (-1 : Int32)) hx hb d_MI_join_104 hl rfl (by decide) (by decide) rfl (fun ls hl => ?_)
      refine lv_goto (tgt := 50) hx hb d_MI_join_107 (by decide) ?_
      refine lv_iload hx hb d_MI_join_50 (lv_at hl 0 rfl) ?_
      refine lv_if_lt (tgt := 110) hx hb d_MI_join_52 (by decide) (fun _ => ?_) (fun h99 => absurd h99 (by decide))
      refine lv_aload_n hx hb d_MI_join_110 rfl (lv_at hl 7 rfl) ?_
      refine va_get (D := D) (ci := 2) (v := .ref nx) (C := cn_MI) (T := ft_MI) (N := 3) hx hb hf_MI (fun _ h => h) hown hK hP 0 rfl rfl 1 (by decide) (gw.at G hx0 mw_65 rfl _) (fun _ h9 => h9) rfl d_MI_join_111 ?_
      refine lv_iload hx hb d_MI_join_114 (lv_at hl 3 rfl) ?_
      refine lv_lload hx hb d_MI_join_116 (lv_at hl 2 rfl) ?_
      refine tp_l (y := mex cf (rowAt pf w) 13) (by rfl) ?_
      refine va_last hx hb hK hP hD hS 2 1 rfl rfl (vp_in_iff.mpr (by decide)) d_MI_join_118 (fun H locs hP hD hS => ?_)
      have hP : va_P D kl [(mi, .inr (2, [.ref cu, .ref nx, .int (2 : Int32)])), (cu, .inl (cJ, 16, .inr (.inl cf))), (nx, .inl (cJ, 16, .inr (.inl (vp_updL (vp_updL (vp_updL nf 7 (mex cf (rowAt pf w) 7)) 11 (mex cf (rowAt pf w) 11)) 13 (mex cf (rowAt pf w) 13))))), (pl, .inr (1, [.ref pa, .int (nI ct), .int (nI mo)])), (pa, .inl (cI, pz, .inl pf))] H := hP
      have hD : va_D A [(mi, .inr (2, [.ref cu, .ref nx, .int (2 : Int32)])), (cu, .inl (cJ, 16, .inr (.inl cf))), (nx, .inl (cJ, 16, .inr (.inl (vp_updL (vp_updL (vp_updL nf 7 (mex cf (rowAt pf w) 7)) 11 (mex cf (rowAt pf w) 11)) 13 (mex cf (rowAt pf w) 13))))), (pl, .inr (1, [.ref pa, .int (nI ct), .int (nI mo)])), (pa, .inl (cI, pz, .inl pf))] := hD
      have K_3 : W p l e ({ frames := 0, cells := 0, slots := 0, locals := 0 } : Room) s m ([.ref mi, .ref pl, .int (nI w)] : List Value).toArray below meth c H locs 0 0 Q (F0 m 135 ls [.int (bi (((False ∨ ¬ mex cf (rowAt pf w) 7 = 0) ∨ ¬ mex cf (rowAt pf w) 11 = 0) ∨ ¬ mex cf (rowAt pf w) 13 = 0))]) := by
        refine lv_istore_n (lv' := [(3, .int (bi (((False ∨ ¬ mex cf (rowAt pf w) 7 = 0) ∨ ¬ mex cf (rowAt pf w) 11 = 0) ∨ ¬ mex cf (rowAt pf w) 13 = 0))), (10, .int (-1 : Int32)), (9, .int (-1 : Int32)), (7, .long ((((0 : Int64) + (((1 : Int64) * (cf 5)) * ((pf ((w * 4) + 3)).toInt64))) + (((-1 : Int64) * (cf 9)) * ((pf ((w * 4) + 2)).toInt64))) + (((1 : Int64) * (cf 12)) * ((pf ((w * 4) + 0)).toInt64)))), (6, .int (13 : Int32)), (5, .int (13 : Int32)), (4, .int (15 : Int32)), (0, .ref mi), (1, .ref pl), (2, .int (nI w))]) hx hb d_MI_join_135 rfl hl (by decide) rfl (fun ls hl => ?_)
        refine lv_iinc (lv' := [(5, .int (14 : Int32)), (3, .int (bi (((False ∨ ¬ mex cf (rowAt pf w) 7 = 0) ∨ ¬ mex cf (rowAt pf w) 11 = 0) ∨ ¬ mex cf (rowAt pf w) 13 = 0))), (10, .int (-1 : Int32)), (9, .int (-1 : Int32)), (7, .long ((((0 : Int64) + (((1 : Int64) * (cf 5)) * ((pf ((w * 4) + 3)).toInt64))) + (((-1 : Int64) * (cf 9)) * ((pf ((w * 4) + 2)).toInt64))) + (((1 : Int64) * (cf 12)) * ((pf ((w * 4) + 0)).toInt64)))), (6, .int (13 : Int32)), (4, .int (15 : Int32)), (0, .ref mi), (1, .ref pl), (2, .int (nI w))]) (k := 5) (v := (14 : Int32)) hx hb d_MI_join_136 hl rfl (by decide) (by decide) rfl (fun ls hl => ?_)
        refine lv_goto (tgt := 26) hx hb d_MI_join_139 (by decide) ?_
        refine lv_iload hx hb d_MI_join_26 (lv_at hl 0 rfl) ?_
        refine lv_iload hx hb d_MI_join_28 (lv_at hl 6 rfl) ?_
        refine lv_icmp_ge (tgt := 142) hx hb d_MI_join_30 (by decide) (fun h99 => absurd h99 (by decide)) (fun _ => ?_)
        refine va_getsN hx hb hZC hS hown (gw.at G hx0 mw_62 rfl _) (fun _ h9 => h9) d_MI_join_33 ?_
        refine lv_iload hx hb d_MI_join_36 (lv_at hl 0 rfl) ?_
        refine va_ti hx hb hTC hS (vp_in_iff.mpr (by decide)) (v := .int (14 : Int32)) (by decide) d_MI_join_38 ?_
        refine lv_istore (lv' := [(6, .int (14 : Int32)), (5, .int (14 : Int32)), (3, .int (bi (((False ∨ ¬ mex cf (rowAt pf w) 7 = 0) ∨ ¬ mex cf (rowAt pf w) 11 = 0) ∨ ¬ mex cf (rowAt pf w) 13 = 0))), (10, .int (-1 : Int32)), (9, .int (-1 : Int32)), (7, .long ((((0 : Int64) + (((1 : Int64) * (cf 5)) * ((pf ((w * 4) + 3)).toInt64))) + (((-1 : Int64) * (cf 9)) * ((pf ((w * 4) + 2)).toInt64))) + (((1 : Int64) * (cf 12)) * ((pf ((w * 4) + 0)).toInt64)))), (4, .int (15 : Int32)), (0, .ref mi), (1, .ref pl), (2, .int (nI w))]) hx hb d_MI_join_39 hl (by decide) rfl (fun ls hl => ?_)
        refine lv_lconst (v := (0 : Int64)) hx hb d_MI_join_41 (by decide) ?_
        refine lv_lstore (lv' := [(7, .long (0 : Int64)), (6, .int (14 : Int32)), (5, .int (14 : Int32)), (3, .int (bi (((False ∨ ¬ mex cf (rowAt pf w) 7 = 0) ∨ ¬ mex cf (rowAt pf w) 11 = 0) ∨ ¬ mex cf (rowAt pf w) 13 = 0))), (10, .int (-1 : Int32)), (9, .int (-1 : Int32)), (4, .int (15 : Int32)), (0, .ref mi), (1, .ref pl), (2, .int (nI w))]) hx hb d_MI_join_42 hl (by decide) rfl (fun ls hl => ?_)
        refine lv_iconst (v := (1 : Int32)) hx hb d_MI_join_44 (by decide) ?_
        refine lv_istore (lv' := [(9, .int (1 : Int32)), (7, .long (0 : Int64)), (6, .int (14 : Int32)), (5, .int (14 : Int32)), (3, .int (bi (((False ∨ ¬ mex cf (rowAt pf w) 7 = 0) ∨ ¬ mex cf (rowAt pf w) 11 = 0) ∨ ¬ mex cf (rowAt pf w) 13 = 0))), (10, .int (-1 : Int32)), (4, .int (15 : Int32)), (0, .ref mi), (1, .ref pl), (2, .int (nI w))]) hx hb d_MI_join_45 hl (by decide) rfl (fun ls hl => ?_)
        refine lv_iconst (v := (3 : Int32)) hx hb d_MI_join_47 (by decide) ?_
        refine lv_istore (lv' := [(10, .int (3 : Int32)), (9, .int (1 : Int32)), (7, .long (0 : Int64)), (6, .int (14 : Int32)), (5, .int (14 : Int32)), (3, .int (bi (((False ∨ ¬ mex cf (rowAt pf w) 7 = 0) ∨ ¬ mex cf (rowAt pf w) 11 = 0) ∨ ¬ mex cf (rowAt pf w) 13 = 0))), (4, .int (15 : Int32)), (0, .ref mi), (1, .ref pl), (2, .int (nI w))]) hx hb d_MI_join_48 hl (by decide) rfl (fun ls hl => ?_)
        refine lv_iload hx hb d_MI_join_50 (lv_at hl 0 rfl) ?_
        refine lv_if_lt (tgt := 110) hx hb d_MI_join_52 (by decide) (fun h99 => absurd h99 (by decide)) (fun _ => ?_)
        refine lv_iload hx hb d_MI_join_55 (lv_at hl 3 rfl) ?_
        refine lv_iload hx hb d_MI_join_57 (lv_at hl 0 rfl) ?_
        refine lv_ishr hx hb d_MI_join_59 ?_
        refine tp_i (y := (1 : Int32)) (by decide) ?_
        refine lv_iconst (v := (1 : Int32)) hx hb d_MI_join_60 (by decide) ?_
        refine lv_iand hx hb d_MI_join_61 ?_
        refine tp_i (y := (1 : Int32)) (by decide) ?_
        refine lv_if_eq (tgt := 104) hx hb d_MI_join_62 (by decide) (fun h99 => absurd h99 (by decide)) (fun _ => ?_)
        refine lv_lload hx hb d_MI_join_65 (lv_at hl 2 rfl) ?_
        refine lv_iload hx hb d_MI_join_67 (lv_at hl 1 rfl) ?_
        refine lv_i2l (v := (1 : Int64)) hx hb d_MI_join_69 (by decide) ?_
        refine lv_aload_n hx hb d_MI_join_70 rfl (lv_at hl 7 rfl) ?_
        refine va_get (D := D) (ci := 2) (v := .ref cu) (C := cn_MI) (T := ft_MI) (N := 3) hx hb hf_MI (fun _ h => h) hown hK hP 0 rfl rfl 0 (by decide) (gw.at G hx0 mw_64 rfl _) (fun _ h9 => h9) rfl d_MI_join_71 ?_
        refine lv_iload hx hb d_MI_join_74 (lv_at hl 3 rfl) ?_
        refine lv_iconst (v := (1 : Int32)) hx hb d_MI_join_76 (by decide) ?_
        refine lv_iload hx hb d_MI_join_77 (lv_at hl 0 rfl) ?_
        refine lv_ishl hx hb d_MI_join_79 ?_
        refine tp_i (y := (8 : Int32)) (by decide) ?_
        refine lv_ixor hx hb d_MI_join_80 ?_
        refine tp_i (y := (6 : Int32)) (by decide) ?_
        refine va_lald hx hb hK hP 1 1 rfl rfl (vp_in_iff.mpr (by decide)) d_MI_join_81 ?_
        refine tp_l (y := cf 6) (by rfl) ?_
        refine lv_lmul hx hb d_MI_join_82 ?_
        refine lv_aload_n hx hb d_MI_join_83 rfl (lv_at hl 8 rfl) ?_
        refine va_get (D := D) (ci := 1) (v := .ref pa) (C := cn_PL) (T := ft_PL) (N := 3) hx hb hf_PL (fun _ h => h) hown hK hP 3 rfl rfl 0 (by decide) (gw.at G hx0 mw_40 rfl _) (fun _ h9 => h9) rfl d_MI_join_84 ?_
        refine lv_iload_n hx hb d_MI_join_87 rfl (lv_at hl 9 rfl) ?_
        refine lv_iconst (v := (4 : Int32)) hx hb d_MI_join_88 (by decide) ?_
        refine lv_imul hx hb d_MI_join_89 ?_
        refine tp_i (y := nI (w * 4)) (nI_mul w 4) ?_
        refine lv_iload hx hb d_MI_join_90 (lv_at hl 0 rfl) ?_
        refine lv_iadd hx hb d_MI_join_92 ?_
        refine tp_i (y := nI ((w * 4) + 3)) (nI_add (w * 4) 3) ?_
        refine va_iald hx hb hK hP 4 0 rfl rfl (vp_in_nI (n := (w * 4) + 3) (by omega) (by omega)) d_MI_join_93 ?_
        refine tp_i (y := pf ((w * 4) + 3)) (congrArg pf (nI_clamp (n := (w * 4) + 3) (by omega))) ?_
        refine lv_i2l (v := (pf ((w * 4) + 3)).toInt64) hx hb d_MI_join_94 rfl ?_
        refine lv_lmul hx hb d_MI_join_95 ?_
        refine lv_ladd hx hb d_MI_join_96 ?_
        refine lv_lstore (lv' := [(7, .long ((0 : Int64) + (((1 : Int64) * (cf 6)) * ((pf ((w * 4) + 3)).toInt64)))), (10, .int (3 : Int32)), (9, .int (1 : Int32)), (6, .int (14 : Int32)), (5, .int (14 : Int32)), (3, .int (bi (((False ∨ ¬ mex cf (rowAt pf w) 7 = 0) ∨ ¬ mex cf (rowAt pf w) 11 = 0) ∨ ¬ mex cf (rowAt pf w) 13 = 0))), (4, .int (15 : Int32)), (0, .ref mi), (1, .ref pl), (2, .int (nI w))]) hx hb d_MI_join_97 hl (by decide) rfl (fun ls hl => ?_)
        refine lv_iload hx hb d_MI_join_99 (lv_at hl 2 rfl) ?_
        refine lv_ineg hx hb d_MI_join_101 ?_
        refine tp_i (y := (-1 : Int32)) (by decide) ?_
        refine lv_istore (lv' := [(9, .int (-1 : Int32)), (7, .long ((0 : Int64) + (((1 : Int64) * (cf 6)) * ((pf ((w * 4) + 3)).toInt64)))), (10, .int (3 : Int32)), (6, .int (14 : Int32)), (5, .int (14 : Int32)), (3, .int (bi (((False ∨ ¬ mex cf (rowAt pf w) 7 = 0) ∨ ¬ mex cf (rowAt pf w) 11 = 0) ∨ ¬ mex cf (rowAt pf w) 13 = 0))), (4, .int (15 : Int32)), (0, .ref mi), (1, .ref pl), (2, .int (nI w))]) hx hb d_MI_join_102 hl (by decide) rfl (fun ls hl => ?_)
        refine lv_iinc (lv' := [(10, .int (2 : Int32)), (9, .int (-1 : Int32)), (7, .long ((0 : Int64) + (((1 : Int64) * (cf 6)) * ((pf ((w * 4) + 3)).toInt64)))), (6, .int (14 : Int32)), (5, .int (14 : Int32)), (3, .int (bi (((False ∨ ¬ mex cf (rowAt pf w) 7 = 0) ∨ ¬ mex cf (rowAt pf w) 11 = 0) ∨ ¬ mex cf (rowAt pf w) 13 = 0))), (4, .int (15 : Int32)), (0, .ref mi), (1, .ref pl), (2, .int (nI w))]) (k := 2) (v := (2 : Int32)) hx hb d_MI_join_104 hl rfl (by decide) (by decide) rfl (fun ls hl => ?_)
        refine lv_goto (tgt := 50) hx hb d_MI_join_107 (by decide) ?_
        refine lv_iload hx hb d_MI_join_50 (lv_at hl 0 rfl) ?_
        refine lv_if_lt (tgt := 110) hx hb d_MI_join_52 (by decide) (fun h99 => absurd h99 (by decide)) (fun _ => ?_)
        refine lv_iload hx hb d_MI_join_55 (lv_at hl 3 rfl) ?_
        refine lv_iload hx hb d_MI_join_57 (lv_at hl 0 rfl) ?_
        refine lv_ishr hx hb d_MI_join_59 ?_
        refine tp_i (y := (3 : Int32)) (by decide) ?_
        refine lv_iconst (v := (1 : Int32)) hx hb d_MI_join_60 (by decide) ?_
        refine lv_iand hx hb d_MI_join_61 ?_
        refine tp_i (y := (1 : Int32)) (by decide) ?_
        refine lv_if_eq (tgt := 104) hx hb d_MI_join_62 (by decide) (fun h99 => absurd h99 (by decide)) (fun _ => ?_)
        refine lv_lload hx hb d_MI_join_65 (lv_at hl 2 rfl) ?_
        refine lv_iload hx hb d_MI_join_67 (lv_at hl 1 rfl) ?_
        refine lv_i2l (v := (-1 : Int64)) hx hb d_MI_join_69 (by decide) ?_
        refine lv_aload_n hx hb d_MI_join_70 rfl (lv_at hl 7 rfl) ?_
        refine va_get (D := D) (ci := 2) (v := .ref cu) (C := cn_MI) (T := ft_MI) (N := 3) hx hb hf_MI (fun _ h => h) hown hK hP 0 rfl rfl 0 (by decide) (gw.at G hx0 mw_64 rfl _) (fun _ h9 => h9) rfl d_MI_join_71 ?_
        refine lv_iload hx hb d_MI_join_74 (lv_at hl 3 rfl) ?_
        refine lv_iconst (v := (1 : Int32)) hx hb d_MI_join_76 (by decide) ?_
        refine lv_iload hx hb d_MI_join_77 (lv_at hl 0 rfl) ?_
        refine lv_ishl hx hb d_MI_join_79 ?_
        refine tp_i (y := (4 : Int32)) (by decide) ?_
        refine lv_ixor hx hb d_MI_join_80 ?_
        refine tp_i (y := (10 : Int32)) (by decide) ?_
        refine va_lald hx hb hK hP 1 1 rfl rfl (vp_in_iff.mpr (by decide)) d_MI_join_81 ?_
        refine tp_l (y := cf 10) (by rfl) ?_
        refine lv_lmul hx hb d_MI_join_82 ?_
        refine lv_aload_n hx hb d_MI_join_83 rfl (lv_at hl 8 rfl) ?_
        refine va_get (D := D) (ci := 1) (v := .ref pa) (C := cn_PL) (T := ft_PL) (N := 3) hx hb hf_PL (fun _ h => h) hown hK hP 3 rfl rfl 0 (by decide) (gw.at G hx0 mw_40 rfl _) (fun _ h9 => h9) rfl d_MI_join_84 ?_
        refine lv_iload_n hx hb d_MI_join_87 rfl (lv_at hl 9 rfl) ?_
        refine lv_iconst (v := (4 : Int32)) hx hb d_MI_join_88 (by decide) ?_
        refine lv_imul hx hb d_MI_join_89 ?_
        refine tp_i (y := nI (w * 4)) (nI_mul w 4) ?_
        refine lv_iload hx hb d_MI_join_90 (lv_at hl 0 rfl) ?_
        refine lv_iadd hx hb d_MI_join_92 ?_
        refine tp_i (y := nI ((w * 4) + 2)) (nI_add (w * 4) 2) ?_
        refine va_iald hx hb hK hP 4 0 rfl rfl (vp_in_nI (n := (w * 4) + 2) (by omega) (by omega)) d_MI_join_93 ?_
        refine tp_i (y := pf ((w * 4) + 2)) (congrArg pf (nI_clamp (n := (w * 4) + 2) (by omega))) ?_
        refine lv_i2l (v := (pf ((w * 4) + 2)).toInt64) hx hb d_MI_join_94 rfl ?_
        refine lv_lmul hx hb d_MI_join_95 ?_
        refine lv_ladd hx hb d_MI_join_96 ?_
        refine lv_lstore (lv' := [(7, .long (((0 : Int64) + (((1 : Int64) * (cf 6)) * ((pf ((w * 4) + 3)).toInt64))) + (((-1 : Int64) * (cf 10)) * ((pf ((w * 4) + 2)).toInt64)))), (10, .int (2 : Int32)), (9, .int (-1 : Int32)), (6, .int (14 : Int32)), (5, .int (14 : Int32)), (3, .int (bi (((False ∨ ¬ mex cf (rowAt pf w) 7 = 0) ∨ ¬ mex cf (rowAt pf w) 11 = 0) ∨ ¬ mex cf (rowAt pf w) 13 = 0))), (4, .int (15 : Int32)), (0, .ref mi), (1, .ref pl), (2, .int (nI w))]) hx hb d_MI_join_97 hl (by decide) rfl (fun ls hl => ?_)
        refine lv_iload hx hb d_MI_join_99 (lv_at hl 2 rfl) ?_
        refine lv_ineg hx hb d_MI_join_101 ?_
        refine tp_i (y := (1 : Int32)) (by decide) ?_
        refine lv_istore (lv' := [(9, .int (1 : Int32)), (7, .long (((0 : Int64) + (((1 : Int64) * (cf 6)) * ((pf ((w * 4) + 3)).toInt64))) + (((-1 : Int64) * (cf 10)) * ((pf ((w * 4) + 2)).toInt64)))), (10, .int (2 : Int32)), (6, .int (14 : Int32)), (5, .int (14 : Int32)), (3, .int (bi (((False ∨ ¬ mex cf (rowAt pf w) 7 = 0) ∨ ¬ mex cf (rowAt pf w) 11 = 0) ∨ ¬ mex cf (rowAt pf w) 13 = 0))), (4, .int (15 : Int32)), (0, .ref mi), (1, .ref pl), (2, .int (nI w))]) hx hb d_MI_join_102 hl (by decide) rfl (fun ls hl => ?_)
        refine lv_iinc (lv' := [(10, .int (1 : Int32)), (9, .int (1 : Int32)), (7, .long (((0 : Int64) + (((1 : Int64) * (cf 6)) * ((pf ((w * 4) + 3)).toInt64))) + (((-1 : Int64) * (cf 10)) * ((pf ((w * 4) + 2)).toInt64)))), (6, .int (14 : Int32)), (5, .int (14 : Int32)), (3, .int (bi (((False ∨ ¬ mex cf (rowAt pf w) 7 = 0) ∨ ¬ mex cf (rowAt pf w) 11 = 0) ∨ ¬ mex cf (rowAt pf w) 13 = 0))), (4, .int (15 : Int32)), (0, .ref mi), (1, .ref pl), (2, .int (nI w))]) (k := 2) (v := (1 : Int32)) hx hb d_MI_join_104 hl rfl (by decide) (by decide) rfl (fun ls hl => ?_)
        refine lv_goto (tgt := 50) hx hb d_MI_join_107 (by decide) ?_
        refine lv_iload hx hb d_MI_join_50 (lv_at hl 0 rfl) ?_
        refine lv_if_lt (tgt := 110) hx hb d_MI_join_52 (by decide) (fun h99 => absurd h99 (by decide)) (fun _ => ?_)
        refine lv_iload hx hb d_MI_join_55 (lv_at hl 3 rfl) ?_
        refine lv_iload hx hb d_MI_join_57 (lv_at hl 0 rfl) ?_
        refine lv_ishr hx hb d_MI_join_59 ?_
        refine tp_i (y := (7 : Int32)) (by decide) ?_
        refine lv_iconst (v := (1 : Int32)) hx hb d_MI_join_60 (by decide) ?_
        refine lv_iand hx hb d_MI_join_61 ?_
        refine tp_i (y := (1 : Int32)) (by decide) ?_
        refine lv_if_eq (tgt := 104) hx hb d_MI_join_62 (by decide) (fun h99 => absurd h99 (by decide)) (fun _ => ?_)
        refine lv_lload hx hb d_MI_join_65 (lv_at hl 2 rfl) ?_
        refine lv_iload hx hb d_MI_join_67 (lv_at hl 1 rfl) ?_
        refine lv_i2l (v := (1 : Int64)) hx hb d_MI_join_69 (by decide) ?_
        refine lv_aload_n hx hb d_MI_join_70 rfl (lv_at hl 7 rfl) ?_
        refine va_get (D := D) (ci := 2) (v := .ref cu) (C := cn_MI) (T := ft_MI) (N := 3) hx hb hf_MI (fun _ h => h) hown hK hP 0 rfl rfl 0 (by decide) (gw.at G hx0 mw_64 rfl _) (fun _ h9 => h9) rfl d_MI_join_71 ?_
        refine lv_iload hx hb d_MI_join_74 (lv_at hl 3 rfl) ?_
        refine lv_iconst (v := (1 : Int32)) hx hb d_MI_join_76 (by decide) ?_
        refine lv_iload hx hb d_MI_join_77 (lv_at hl 0 rfl) ?_
        refine lv_ishl hx hb d_MI_join_79 ?_
        refine tp_i (y := (2 : Int32)) (by decide) ?_
        refine lv_ixor hx hb d_MI_join_80 ?_
        refine tp_i (y := (12 : Int32)) (by decide) ?_
        refine va_lald hx hb hK hP 1 1 rfl rfl (vp_in_iff.mpr (by decide)) d_MI_join_81 ?_
        refine tp_l (y := cf 12) (by rfl) ?_
        refine lv_lmul hx hb d_MI_join_82 ?_
        refine lv_aload_n hx hb d_MI_join_83 rfl (lv_at hl 8 rfl) ?_
        refine va_get (D := D) (ci := 1) (v := .ref pa) (C := cn_PL) (T := ft_PL) (N := 3) hx hb hf_PL (fun _ h => h) hown hK hP 3 rfl rfl 0 (by decide) (gw.at G hx0 mw_40 rfl _) (fun _ h9 => h9) rfl d_MI_join_84 ?_
        refine lv_iload_n hx hb d_MI_join_87 rfl (lv_at hl 9 rfl) ?_
        refine lv_iconst (v := (4 : Int32)) hx hb d_MI_join_88 (by decide) ?_
        refine lv_imul hx hb d_MI_join_89 ?_
        refine tp_i (y := nI (w * 4)) (nI_mul w 4) ?_
        refine lv_iload hx hb d_MI_join_90 (lv_at hl 0 rfl) ?_
        refine lv_iadd hx hb d_MI_join_92 ?_
        refine tp_i (y := nI ((w * 4) + 1)) (nI_add (w * 4) 1) ?_
        refine va_iald hx hb hK hP 4 0 rfl rfl (vp_in_nI (n := (w * 4) + 1) (by omega) (by omega)) d_MI_join_93 ?_
        refine tp_i (y := pf ((w * 4) + 1)) (congrArg pf (nI_clamp (n := (w * 4) + 1) (by omega))) ?_
        refine lv_i2l (v := (pf ((w * 4) + 1)).toInt64) hx hb d_MI_join_94 rfl ?_
        refine lv_lmul hx hb d_MI_join_95 ?_
        refine lv_ladd hx hb d_MI_join_96 ?_
        refine lv_lstore (lv' := [(7, .long ((((0 : Int64) + (((1 : Int64) * (cf 6)) * ((pf ((w * 4) + 3)).toInt64))) + (((-1 : Int64) * (cf 10)) * ((pf ((w * 4) + 2)).toInt64))) + (((1 : Int64) * (cf 12)) * ((pf ((w * 4) + 1)).toInt64)))), (10, .int (1 : Int32)), (9, .int (1 : Int32)), (6, .int (14 : Int32)), (5, .int (14 : Int32)), (3, .int (bi (((False ∨ ¬ mex cf (rowAt pf w) 7 = 0) ∨ ¬ mex cf (rowAt pf w) 11 = 0) ∨ ¬ mex cf (rowAt pf w) 13 = 0))), (4, .int (15 : Int32)), (0, .ref mi), (1, .ref pl), (2, .int (nI w))]) hx hb d_MI_join_97 hl (by decide) rfl (fun ls hl => ?_)
        refine lv_iload hx hb d_MI_join_99 (lv_at hl 2 rfl) ?_
        refine lv_ineg hx hb d_MI_join_101 ?_
        refine tp_i (y := (-1 : Int32)) (by decide) ?_
        refine lv_istore (lv' := [(9, .int (-1 : Int32)), (7, .long ((((0 : Int64) + (((1 : Int64) * (cf 6)) * ((pf ((w * 4) + 3)).toInt64))) + (((-1 : Int64) * (cf 10)) * ((pf ((w * 4) + 2)).toInt64))) + (((1 : Int64) * (cf 12)) * ((pf ((w * 4) + 1)).toInt64)))), (10, .int (1 : Int32)), (6, .int (14 : Int32)), (5, .int (14 : Int32)), (3, .int (bi (((False ∨ ¬ mex cf (rowAt pf w) 7 = 0) ∨ ¬ mex cf (rowAt pf w) 11 = 0) ∨ ¬ mex cf (rowAt pf w) 13 = 0))), (4, .int (15 : Int32)), (0, .ref mi), (1, .ref pl), (2, .int (nI w))]) hx hb d_MI_join_102 hl (by decide) rfl (fun ls hl => ?_)
        refine lv_iinc (lv' := [(10, .int (0 : Int32)), (9, .int (-1 : Int32)), (7, .long ((((0 : Int64) + (((1 : Int64) * (cf 6)) * ((pf ((w * 4) + 3)).toInt64))) + (((-1 : Int64) * (cf 10)) * ((pf ((w * 4) + 2)).toInt64))) + (((1 : Int64) * (cf 12)) * ((pf ((w * 4) + 1)).toInt64)))), (6, .int (14 : Int32)), (5, .int (14 : Int32)), (3, .int (bi (((False ∨ ¬ mex cf (rowAt pf w) 7 = 0) ∨ ¬ mex cf (rowAt pf w) 11 = 0) ∨ ¬ mex cf (rowAt pf w) 13 = 0))), (4, .int (15 : Int32)), (0, .ref mi), (1, .ref pl), (2, .int (nI w))]) (k := 2) (v := (0 : Int32)) hx hb d_MI_join_104 hl rfl (by decide) (by decide) rfl (fun ls hl => ?_)
        refine lv_goto (tgt := 50) hx hb d_MI_join_107 (by decide) ?_
        refine lv_iload hx hb d_MI_join_50 (lv_at hl 0 rfl) ?_
        refine lv_if_lt (tgt := 110) hx hb d_MI_join_52 (by decide) (fun h99 => absurd h99 (by decide)) (fun _ => ?_)
        refine lv_iload hx hb d_MI_join_55 (lv_at hl 3 rfl) ?_
        refine lv_iload hx hb d_MI_join_57 (lv_at hl 0 rfl) ?_
        refine lv_ishr hx hb d_MI_join_59 ?_
        refine tp_i (y := (14 : Int32)) (by decide) ?_
        refine lv_iconst (v := (1 : Int32)) hx hb d_MI_join_60 (by decide) ?_
        refine lv_iand hx hb d_MI_join_61 ?_
        refine tp_i (y := (0 : Int32)) (by decide) ?_
        refine lv_if_eq (tgt := 104) hx hb d_MI_join_62 (by decide) (fun _ => ?_) (fun h99 => absurd h99 (by decide))
        refine lv_iinc (lv' := [(10, .int (-1 : Int32)), (9, .int (-1 : Int32)), (7, .long ((((0 : Int64) + (((1 : Int64) * (cf 6)) * ((pf ((w * 4) + 3)).toInt64))) + (((-1 : Int64) * (cf 10)) * ((pf ((w * 4) + 2)).toInt64))) + (((1 : Int64) * (cf 12)) * ((pf ((w * 4) + 1)).toInt64)))), (6, .int (14 : Int32)), (5, .int (14 : Int32)), (3, .int (bi (((False ∨ ¬ mex cf (rowAt pf w) 7 = 0) ∨ ¬ mex cf (rowAt pf w) 11 = 0) ∨ ¬ mex cf (rowAt pf w) 13 = 0))), (4, .int (15 : Int32)), (0, .ref mi), (1, .ref pl), (2, .int (nI w))]) (k := 0) (v := (-1 : Int32)) hx hb d_MI_join_104 hl rfl (by decide) (by decide) rfl (fun ls hl => ?_)
        refine lv_goto (tgt := 50) hx hb d_MI_join_107 (by decide) ?_
        refine lv_iload hx hb d_MI_join_50 (lv_at hl 0 rfl) ?_
        refine lv_if_lt (tgt := 110) hx hb d_MI_join_52 (by decide) (fun _ => ?_) (fun h99 => absurd h99 (by decide))
        refine lv_aload_n hx hb d_MI_join_110 rfl (lv_at hl 7 rfl) ?_
        refine va_get (D := D) (ci := 2) (v := .ref nx) (C := cn_MI) (T := ft_MI) (N := 3) hx hb hf_MI (fun _ h => h) hown hK hP 0 rfl rfl 1 (by decide) (gw.at G hx0 mw_65 rfl _) (fun _ h9 => h9) rfl d_MI_join_111 ?_
        refine lv_iload hx hb d_MI_join_114 (lv_at hl 3 rfl) ?_
        refine lv_lload hx hb d_MI_join_116 (lv_at hl 2 rfl) ?_
        refine tp_l (y := mex cf (rowAt pf w) 14) (by rfl) ?_
        refine va_last hx hb hK hP hD hS 2 1 rfl rfl (vp_in_iff.mpr (by decide)) d_MI_join_118 (fun H locs hP hD hS => ?_)
        have hP : va_P D kl [(mi, .inr (2, [.ref cu, .ref nx, .int (2 : Int32)])), (cu, .inl (cJ, 16, .inr (.inl cf))), (nx, .inl (cJ, 16, .inr (.inl (vp_updL (vp_updL (vp_updL (vp_updL nf 7 (mex cf (rowAt pf w) 7)) 11 (mex cf (rowAt pf w) 11)) 13 (mex cf (rowAt pf w) 13)) 14 (mex cf (rowAt pf w) 14))))), (pl, .inr (1, [.ref pa, .int (nI ct), .int (nI mo)])), (pa, .inl (cI, pz, .inl pf))] H := hP
        have hD : va_D A [(mi, .inr (2, [.ref cu, .ref nx, .int (2 : Int32)])), (cu, .inl (cJ, 16, .inr (.inl cf))), (nx, .inl (cJ, 16, .inr (.inl (vp_updL (vp_updL (vp_updL (vp_updL nf 7 (mex cf (rowAt pf w) 7)) 11 (mex cf (rowAt pf w) 11)) 13 (mex cf (rowAt pf w) 13)) 14 (mex cf (rowAt pf w) 14))))), (pl, .inr (1, [.ref pa, .int (nI ct), .int (nI mo)])), (pa, .inl (cI, pz, .inl pf))] := hD
        have K_4 : W p l e ({ frames := 0, cells := 0, slots := 0, locals := 0 } : Room) s m ([.ref mi, .ref pl, .int (nI w)] : List Value).toArray below meth c H locs 0 0 Q (F0 m 135 ls [.int (bi ((((False ∨ ¬ mex cf (rowAt pf w) 7 = 0) ∨ ¬ mex cf (rowAt pf w) 11 = 0) ∨ ¬ mex cf (rowAt pf w) 13 = 0) ∨ ¬ mex cf (rowAt pf w) 14 = 0))]) := by
          refine lv_istore_n (lv' := [(3, .int (bi ((((False ∨ ¬ mex cf (rowAt pf w) 7 = 0) ∨ ¬ mex cf (rowAt pf w) 11 = 0) ∨ ¬ mex cf (rowAt pf w) 13 = 0) ∨ ¬ mex cf (rowAt pf w) 14 = 0))), (10, .int (-1 : Int32)), (9, .int (-1 : Int32)), (7, .long ((((0 : Int64) + (((1 : Int64) * (cf 6)) * ((pf ((w * 4) + 3)).toInt64))) + (((-1 : Int64) * (cf 10)) * ((pf ((w * 4) + 2)).toInt64))) + (((1 : Int64) * (cf 12)) * ((pf ((w * 4) + 1)).toInt64)))), (6, .int (14 : Int32)), (5, .int (14 : Int32)), (4, .int (15 : Int32)), (0, .ref mi), (1, .ref pl), (2, .int (nI w))]) hx hb d_MI_join_135 rfl hl (by decide) rfl (fun ls hl => ?_)
          refine lv_iinc (lv' := [(5, .int (15 : Int32)), (3, .int (bi ((((False ∨ ¬ mex cf (rowAt pf w) 7 = 0) ∨ ¬ mex cf (rowAt pf w) 11 = 0) ∨ ¬ mex cf (rowAt pf w) 13 = 0) ∨ ¬ mex cf (rowAt pf w) 14 = 0))), (10, .int (-1 : Int32)), (9, .int (-1 : Int32)), (7, .long ((((0 : Int64) + (((1 : Int64) * (cf 6)) * ((pf ((w * 4) + 3)).toInt64))) + (((-1 : Int64) * (cf 10)) * ((pf ((w * 4) + 2)).toInt64))) + (((1 : Int64) * (cf 12)) * ((pf ((w * 4) + 1)).toInt64)))), (6, .int (14 : Int32)), (4, .int (15 : Int32)), (0, .ref mi), (1, .ref pl), (2, .int (nI w))]) (k := 5) (v := (15 : Int32)) hx hb d_MI_join_136 hl rfl (by decide) (by decide) rfl (fun ls hl => ?_)
          refine lv_goto (tgt := 26) hx hb d_MI_join_139 (by decide) ?_
          refine lv_iload hx hb d_MI_join_26 (lv_at hl 0 rfl) ?_
          refine lv_iload hx hb d_MI_join_28 (lv_at hl 6 rfl) ?_
          refine lv_icmp_ge (tgt := 142) hx hb d_MI_join_30 (by decide) (fun _ => ?_) (fun h99 => absurd h99 (by decide))
          refine lv_iload_n hx hb d_MI_join_142 rfl (lv_at hl 1 rfl) ?_
          refine lv_if_eq (tgt := 176) hx hb d_MI_join_143 (by decide) (fun _ => ?_) (fun h99 => absurd h99 (not_not_intro (bi_f (by rintro ((((z99 | z99) | z99) | z99) | z99) <;> first | exact z99.elim | exact h ⟨7, by decide, z99⟩ | exact h ⟨11, by decide, z99⟩ | exact h ⟨13, by decide, z99⟩ | exact h ⟨14, by decide, z99⟩))))
          rw [← hQe]
          exact tx_mono (fun _ h => tx_Z.of h) (W.vret hx hb hr (fun t ht hW => ⟨⟨[(mi, .inr (2, [.ref cu, .ref nx, .int (2 : Int32)])), (cu, .inl (cJ, 16, .inr (.inl cf))), (nx, .inl (cJ, 16, .inr (.inl (vp_updL (vp_updL (vp_updL (vp_updL nf 7 (mex cf (rowAt pf w) 7)) 11 (mex cf (rowAt pf w) 11)) 13 (mex cf (rowAt pf w) 13)) 14 (mex cf (rowAt pf w) 14))))), (pl, .inr (1, [.ref pa, .int (nI ct), .int (nI mo)])), (pa, .inl (cI, pz, .inl pf))], ⟨rfl, rfl⟩, by rw [ht]; exact hP.sub [0, 1, 2, 3, 4] rfl, hD.sub [0, 1, 2, 3, 4] (by decide) rfl⟩, hS.F ht⟩) hS.2.2 d_MI_join_176)
        refine lv_iload_n hx hb d_MI_join_119 rfl (lv_at hl 5 rfl) ?_
        refine lv_if_ne (tgt := 130) hx hb d_MI_join_120 (by decide) (fun h_5 => ?_) (fun h_5 => ?_)
        · refine lv_iconst (v := (1 : Int32)) hx hb d_MI_join_130 (by decide) ?_
          refine lv_goto (tgt := 135) hx hb d_MI_join_131 (by decide) ?_
          refine tp_i (y := bi ((((False ∨ ¬ mex cf (rowAt pf w) 7 = 0) ∨ ¬ mex cf (rowAt pf w) 11 = 0) ∨ ¬ mex cf (rowAt pf w) 13 = 0) ∨ ¬ mex cf (rowAt pf w) 14 = 0)) ((bi_t (Or.inl (bi_ne.mp h_5))).symm) ?_
          exact K_4
        · refine lv_lload hx hb d_MI_join_123 (lv_at hl 2 rfl) ?_
          refine lv_lconst (v := (0 : Int64)) hx hb d_MI_join_125 (by decide) ?_
          refine W.lcmp hx hb d_MI_join_126 ?_
          refine lv_if_eq (tgt := 134) hx hb d_MI_join_127 (by decide) (fun h_6 => ?_) (fun h_6 => ?_)
          · refine lv_iconst (v := (0 : Int32)) hx hb d_MI_join_134 (by decide) ?_
            refine tp_i (y := bi ((((False ∨ ¬ mex cf (rowAt pf w) 7 = 0) ∨ ¬ mex cf (rowAt pf w) 11 = 0) ∨ ¬ mex cf (rowAt pf w) 13 = 0) ∨ ¬ mex cf (rowAt pf w) 14 = 0)) ((bi_f (fun z99 => z99.elim (fun z98 => absurd (bi_ne.mpr z98) (not_not_intro h_5)) (fun z98 => absurd (lg_ne.mpr z98) (not_not_intro h_6)))).symm) ?_
            exact K_4
          · refine lv_iconst (v := (1 : Int32)) hx hb d_MI_join_130 (by decide) ?_
            refine lv_goto (tgt := 135) hx hb d_MI_join_131 (by decide) ?_
            refine tp_i (y := bi ((((False ∨ ¬ mex cf (rowAt pf w) 7 = 0) ∨ ¬ mex cf (rowAt pf w) 11 = 0) ∨ ¬ mex cf (rowAt pf w) 13 = 0) ∨ ¬ mex cf (rowAt pf w) 14 = 0)) ((bi_t (Or.inr (lg_ne.mp h_6))).symm) ?_
            exact K_4
      refine lv_iload_n hx hb d_MI_join_119 rfl (lv_at hl 5 rfl) ?_
      refine lv_if_ne (tgt := 130) hx hb d_MI_join_120 (by decide) (fun h_7 => ?_) (fun h_7 => ?_)
      · refine lv_iconst (v := (1 : Int32)) hx hb d_MI_join_130 (by decide) ?_
        refine lv_goto (tgt := 135) hx hb d_MI_join_131 (by decide) ?_
        refine tp_i (y := bi (((False ∨ ¬ mex cf (rowAt pf w) 7 = 0) ∨ ¬ mex cf (rowAt pf w) 11 = 0) ∨ ¬ mex cf (rowAt pf w) 13 = 0)) ((bi_t (Or.inl (bi_ne.mp h_7))).symm) ?_
        exact K_3
      · refine lv_lload hx hb d_MI_join_123 (lv_at hl 2 rfl) ?_
        refine lv_lconst (v := (0 : Int64)) hx hb d_MI_join_125 (by decide) ?_
        refine W.lcmp hx hb d_MI_join_126 ?_
        refine lv_if_eq (tgt := 134) hx hb d_MI_join_127 (by decide) (fun h_8 => ?_) (fun h_8 => ?_)
        · refine lv_iconst (v := (0 : Int32)) hx hb d_MI_join_134 (by decide) ?_
          refine tp_i (y := bi (((False ∨ ¬ mex cf (rowAt pf w) 7 = 0) ∨ ¬ mex cf (rowAt pf w) 11 = 0) ∨ ¬ mex cf (rowAt pf w) 13 = 0)) ((bi_f (fun z99 => z99.elim (fun z98 => absurd (bi_ne.mpr z98) (not_not_intro h_7)) (fun z98 => absurd (lg_ne.mpr z98) (not_not_intro h_8)))).symm) ?_
          exact K_3
        · refine lv_iconst (v := (1 : Int32)) hx hb d_MI_join_130 (by decide) ?_
          refine lv_goto (tgt := 135) hx hb d_MI_join_131 (by decide) ?_
          refine tp_i (y := bi (((False ∨ ¬ mex cf (rowAt pf w) 7 = 0) ∨ ¬ mex cf (rowAt pf w) 11 = 0) ∨ ¬ mex cf (rowAt pf w) 13 = 0)) ((bi_t (Or.inr (lg_ne.mp h_8))).symm) ?_
          exact K_3
    refine lv_iload_n hx hb d_MI_join_119 rfl (lv_at hl 5 rfl) ?_
    refine lv_if_ne (tgt := 130) hx hb d_MI_join_120 (by decide) (fun h_9 => ?_) (fun h_9 => ?_)
    · refine lv_iconst (v := (1 : Int32)) hx hb d_MI_join_130 (by decide) ?_
      refine lv_goto (tgt := 135) hx hb d_MI_join_131 (by decide) ?_
      refine tp_i (y := bi ((False ∨ ¬ mex cf (rowAt pf w) 7 = 0) ∨ ¬ mex cf (rowAt pf w) 11 = 0)) ((bi_t (Or.inl (bi_ne.mp h_9))).symm) ?_
      exact K_2
    · refine lv_lload hx hb d_MI_join_123 (lv_at hl 2 rfl) ?_
      refine lv_lconst (v := (0 : Int64)) hx hb d_MI_join_125 (by decide) ?_
      refine W.lcmp hx hb d_MI_join_126 ?_
      refine lv_if_eq (tgt := 134) hx hb d_MI_join_127 (by decide) (fun h_10 => ?_) (fun h_10 => ?_)
      · refine lv_iconst (v := (0 : Int32)) hx hb d_MI_join_134 (by decide) ?_
        refine tp_i (y := bi ((False ∨ ¬ mex cf (rowAt pf w) 7 = 0) ∨ ¬ mex cf (rowAt pf w) 11 = 0)) ((bi_f (fun z99 => z99.elim (fun z98 => absurd (bi_ne.mpr z98) (not_not_intro h_9)) (fun z98 => absurd (lg_ne.mpr z98) (not_not_intro h_10)))).symm) ?_
        exact K_2
      · refine lv_iconst (v := (1 : Int32)) hx hb d_MI_join_130 (by decide) ?_
        refine lv_goto (tgt := 135) hx hb d_MI_join_131 (by decide) ?_
        refine tp_i (y := bi ((False ∨ ¬ mex cf (rowAt pf w) 7 = 0) ∨ ¬ mex cf (rowAt pf w) 11 = 0)) ((bi_t (Or.inr (lg_ne.mp h_10))).symm) ?_
        exact K_2
  refine lv_iload_n hx hb d_MI_join_119 rfl (lv_at hl 6 rfl) ?_
  refine lv_if_ne (tgt := 130) hx hb d_MI_join_120 (by decide) (fun h99 => absurd h99 (by decide)) (fun _ => ?_)
  refine lv_lload hx hb d_MI_join_123 (lv_at hl 2 rfl) ?_
  refine lv_lconst (v := (0 : Int64)) hx hb d_MI_join_125 (by decide) ?_
  refine W.lcmp hx hb d_MI_join_126 ?_
  refine lv_if_eq (tgt := 134) hx hb d_MI_join_127 (by decide) (fun h_11 => ?_) (fun h_11 => ?_)
  · refine lv_iconst (v := (0 : Int32)) hx hb d_MI_join_134 (by decide) ?_
    refine tp_i (y := bi (False ∨ ¬ mex cf (rowAt pf w) 7 = 0)) ((bi_f (fun z99 => z99.elim id (fun z98 => absurd (lg_ne.mpr z98) (not_not_intro h_11)))).symm) ?_
    exact K_1
  · refine lv_iconst (v := (1 : Int32)) hx hb d_MI_join_130 (by decide) ?_
    refine lv_goto (tgt := 135) hx hb d_MI_join_131 (by decide) ?_
    refine tp_i (y := bi (False ∨ ¬ mex cf (rowAt pf w) 7 = 0)) ((bi_t (Or.inr (lg_ne.mp h_11))).symm) ?_
    exact K_1

