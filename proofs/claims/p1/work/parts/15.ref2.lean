/-! ===== own rows, laid by wip/tools/sym.py: the reference calls on a fresh object ===== -/
set_option maxHeartbeats 4000000 in
set_option maxRecDepth 100000 in
theorem c_M_rankOf0 {l : Launch} {s0 : State} {b0 : Addr} {D : va_G} {cI cJ cZ : ClassId} {tC tS : Nat} (E : gE l s0 b0 D cI cJ cZ tC tS) (sz : Nat) (m0 : Nat) (rw : Nat) (ry : Nat) (ti : Nat) (po : Nat) (su : Nat) (sq : Nat) (ch : Nat) (vt : Nat) (sh : Nat) (th : Int32) (f1 : Int32) : cx_M l s0 D kl y_M_rankOf b_M_rankOf 8 (some .int) ({ frames := 0, cells := 0, slots := 0, locals := 0 } : Room) 0 0 [.ref m0, .int (0 : Int32)] [(m0, .inr (7, [.int th, .int f1, .int (0 : Int32), .ref rw, .int (1 : Int32), .int (0 : Int32), .int (0 : Int32), .ref ry, .int (0 : Int32), .int (0 : Int32), .ref ti, .int (0 : Int32), .int (0 : Int32), .ref po, .ref su, .ref sq, .ref ch, .ref vt, .ref sh]))] sz (fun o9 _ w9 => o9 = .returned (some (.int (0 : Int32))) ∧ w9 = [(m0, .inr (7, [.int th, .int f1, .int (0 : Int32), .ref rw, .int (1 : Int32), .int (0 : Int32), .int (0 : Int32), .ref ry, .int (0 : Int32), .int (0 : Int32), .ref ti, .int (0 : Int32), .int (0 : Int32), .ref po, .ref su, .ref sq, .ref ch, .ref vt, .ref sh]))]) := by
  refine tx_ofW (cc := b_M_rankOf) (maxL := 8) (ret := (some .int)) (by decide) rfl ?_
  intro p e s m args below meth c s₁ B hml hT hv
  obtain ⟨rfl, hsz, hP, hD0, hx0⟩ := hv
  have hx := B.exec
  have hb := B.bytes
  have hr := B.returns
  have G := E.2.1
  have hown : s.vm.findClass cn_M = some m.cls := findClass_of_methodNamed B.named
  have hlocks := B.notSynchronized
  have hK := va_K.moved hx0.1.alike E.2.2.1
  subst hsz
  have hA0 := cx_new hD0 hx0.2.1
  have hD := hD0.self (sz := s.heap.size)
  generalize hAe : va_A [(m0, .inr (7, [.int th, .int f1, .int (0 : Int32), .ref rw, .int (1 : Int32), .int (0 : Int32), .int (0 : Int32), .ref ry, .int (0 : Int32), .int (0 : Int32), .ref ti, .int (0 : Int32), .int (0 : Int32), .ref po, .ref su, .ref sq, .ref ch, .ref vt, .ref sh]))] s.heap.size = A at hD hA0 ⊢
  have hA : ∀ q : Nat, s.heap.size ≤ q → A q := fun q h => by rw [← hAe]; exact Or.inr h
  have hS : va_S A s.heap s.heap [] := va_S.rf
  have hl := lv_entry ([.ref m0, .int (0 : Int32)]) (n := 8) (Nat.le_of_ble_eq_true rfl)
  rw [lg_entry_eq]
  generalize (lg_sl ([.ref m0, .int (0 : Int32)]) ++ List.replicate (8 - (lg_sl ([.ref m0, .int (0 : Int32)])).length) Slot.unset).toArray = ls at hl ⊢
  have hl : lv_has ls 8 [(0, .ref m0), (1, .int (0 : Int32))] := hl
  have hP : va_P D kl [(m0, .inr (7, [.int th, .int f1, .int (0 : Int32), .ref rw, .int (1 : Int32), .int (0 : Int32), .int (0 : Int32), .ref ry, .int (0 : Int32), .int (0 : Int32), .ref ti, .int (0 : Int32), .int (0 : Int32), .ref po, .ref su, .ref sq, .ref ch, .ref vt, .ref sh]))] s.heap := hP
  have hml : c.maxLocals = 8 := hml
  refine lv_iconst (v := (0 : Int32)) hx hb d_M_rankOf_0 (by decide) ?_
  refine lv_istore_n (lv' := [(2, .int (0 : Int32)), (0, .ref m0), (1, .int (0 : Int32))]) hx hb d_M_rankOf_1 rfl hl (by decide) rfl (fun ls hl => ?_)
  refine lv_iconst (v := (0 : Int32)) hx hb d_M_rankOf_2 (by decide) ?_
  refine lv_istore_n (lv' := [(3, .int (0 : Int32)), (2, .int (0 : Int32)), (0, .ref m0), (1, .int (0 : Int32))]) hx hb d_M_rankOf_3 rfl hl (by decide) rfl (fun ls hl => ?_)
  refine lv_iload_n hx hb d_M_rankOf_4 rfl (lv_at hl 0 rfl) ?_
  refine lv_iconst (v := (4 : Int32)) hx hb d_M_rankOf_5 (by decide) ?_
  refine lv_icmp_ge (tgt := 145) hx hb d_M_rankOf_6 (by decide) (fun h99 => absurd h99 (by decide)) (fun _ => ?_)
  refine lv_iload_n hx hb d_M_rankOf_9 rfl (lv_at hl 1 rfl) ?_
  refine lv_istore (lv' := [(4, .int (0 : Int32)), (3, .int (0 : Int32)), (2, .int (0 : Int32)), (0, .ref m0), (1, .int (0 : Int32))]) hx hb d_M_rankOf_10 hl (by decide) rfl (fun ls hl => ?_)
  refine lv_iload hx hb d_M_rankOf_12 (lv_at hl 0 rfl) ?_
  refine lv_iload_n hx hb d_M_rankOf_14 rfl (lv_at hl 4 rfl) ?_
  refine lv_icmp_ge (tgt := 40) hx hb d_M_rankOf_15 (by decide) (fun _ => ?_) (fun h99 => absurd h99 (by decide))
  refine lv_iload hx hb d_M_rankOf_40 (lv_at hl 0 rfl) ?_
  refine lv_iload_n hx hb d_M_rankOf_42 rfl (lv_at hl 4 rfl) ?_
  refine lv_icmp_ge (tgt := 139) hx hb d_M_rankOf_43 (by decide) (fun _ => ?_) (fun h99 => absurd h99 (by decide))
  refine lv_iinc (lv' := [(3, .int (1 : Int32)), (4, .int (0 : Int32)), (2, .int (0 : Int32)), (0, .ref m0), (1, .int (0 : Int32))]) (k := 1) (v := (1 : Int32)) hx hb d_M_rankOf_139 hl rfl (by decide) (by decide) rfl (fun ls hl => ?_)
  refine lv_goto (tgt := 4) hx hb d_M_rankOf_142 (by decide) ?_
  refine lv_iload_n hx hb d_M_rankOf_4 rfl (lv_at hl 0 rfl) ?_
  refine lv_iconst (v := (4 : Int32)) hx hb d_M_rankOf_5 (by decide) ?_
  refine lv_icmp_ge (tgt := 145) hx hb d_M_rankOf_6 (by decide) (fun h99 => absurd h99 (by decide)) (fun _ => ?_)
  refine lv_iload_n hx hb d_M_rankOf_9 rfl (lv_at hl 2 rfl) ?_
  refine lv_istore (lv' := [(4, .int (0 : Int32)), (3, .int (1 : Int32)), (2, .int (0 : Int32)), (0, .ref m0), (1, .int (0 : Int32))]) hx hb d_M_rankOf_10 hl (by decide) rfl (fun ls hl => ?_)
  refine lv_iload hx hb d_M_rankOf_12 (lv_at hl 0 rfl) ?_
  refine lv_iload_n hx hb d_M_rankOf_14 rfl (lv_at hl 4 rfl) ?_
  refine lv_icmp_ge (tgt := 40) hx hb d_M_rankOf_15 (by decide) (fun _ => ?_) (fun h99 => absurd h99 (by decide))
  refine lv_iload hx hb d_M_rankOf_40 (lv_at hl 0 rfl) ?_
  refine lv_iload_n hx hb d_M_rankOf_42 rfl (lv_at hl 4 rfl) ?_
  refine lv_icmp_ge (tgt := 139) hx hb d_M_rankOf_43 (by decide) (fun _ => ?_) (fun h99 => absurd h99 (by decide))
  refine lv_iinc (lv' := [(3, .int (2 : Int32)), (4, .int (0 : Int32)), (2, .int (0 : Int32)), (0, .ref m0), (1, .int (0 : Int32))]) (k := 1) (v := (2 : Int32)) hx hb d_M_rankOf_139 hl rfl (by decide) (by decide) rfl (fun ls hl => ?_)
  refine lv_goto (tgt := 4) hx hb d_M_rankOf_142 (by decide) ?_
  refine lv_iload_n hx hb d_M_rankOf_4 rfl (lv_at hl 0 rfl) ?_
  refine lv_iconst (v := (4 : Int32)) hx hb d_M_rankOf_5 (by decide) ?_
  refine lv_icmp_ge (tgt := 145) hx hb d_M_rankOf_6 (by decide) (fun h99 => absurd h99 (by decide)) (fun _ => ?_)
  refine lv_iload_n hx hb d_M_rankOf_9 rfl (lv_at hl 2 rfl) ?_
  refine lv_istore (lv' := [(4, .int (0 : Int32)), (3, .int (2 : Int32)), (2, .int (0 : Int32)), (0, .ref m0), (1, .int (0 : Int32))]) hx hb d_M_rankOf_10 hl (by decide) rfl (fun ls hl => ?_)
  refine lv_iload hx hb d_M_rankOf_12 (lv_at hl 0 rfl) ?_
  refine lv_iload_n hx hb d_M_rankOf_14 rfl (lv_at hl 4 rfl) ?_
  refine lv_icmp_ge (tgt := 40) hx hb d_M_rankOf_15 (by decide) (fun _ => ?_) (fun h99 => absurd h99 (by decide))
  refine lv_iload hx hb d_M_rankOf_40 (lv_at hl 0 rfl) ?_
  refine lv_iload_n hx hb d_M_rankOf_42 rfl (lv_at hl 4 rfl) ?_
  refine lv_icmp_ge (tgt := 139) hx hb d_M_rankOf_43 (by decide) (fun _ => ?_) (fun h99 => absurd h99 (by decide))
  refine lv_iinc (lv' := [(3, .int (3 : Int32)), (4, .int (0 : Int32)), (2, .int (0 : Int32)), (0, .ref m0), (1, .int (0 : Int32))]) (k := 1) (v := (3 : Int32)) hx hb d_M_rankOf_139 hl rfl (by decide) (by decide) rfl (fun ls hl => ?_)
  refine lv_goto (tgt := 4) hx hb d_M_rankOf_142 (by decide) ?_
  refine lv_iload_n hx hb d_M_rankOf_4 rfl (lv_at hl 0 rfl) ?_
  refine lv_iconst (v := (4 : Int32)) hx hb d_M_rankOf_5 (by decide) ?_
  refine lv_icmp_ge (tgt := 145) hx hb d_M_rankOf_6 (by decide) (fun h99 => absurd h99 (by decide)) (fun _ => ?_)
  refine lv_iload_n hx hb d_M_rankOf_9 rfl (lv_at hl 2 rfl) ?_
  refine lv_istore (lv' := [(4, .int (0 : Int32)), (3, .int (3 : Int32)), (2, .int (0 : Int32)), (0, .ref m0), (1, .int (0 : Int32))]) hx hb d_M_rankOf_10 hl (by decide) rfl (fun ls hl => ?_)
  refine lv_iload hx hb d_M_rankOf_12 (lv_at hl 0 rfl) ?_
  refine lv_iload_n hx hb d_M_rankOf_14 rfl (lv_at hl 4 rfl) ?_
  refine lv_icmp_ge (tgt := 40) hx hb d_M_rankOf_15 (by decide) (fun _ => ?_) (fun h99 => absurd h99 (by decide))
  refine lv_iload hx hb d_M_rankOf_40 (lv_at hl 0 rfl) ?_
  refine lv_iload_n hx hb d_M_rankOf_42 rfl (lv_at hl 4 rfl) ?_
  refine lv_icmp_ge (tgt := 139) hx hb d_M_rankOf_43 (by decide) (fun _ => ?_) (fun h99 => absurd h99 (by decide))
  refine lv_iinc (lv' := [(3, .int (4 : Int32)), (4, .int (0 : Int32)), (2, .int (0 : Int32)), (0, .ref m0), (1, .int (0 : Int32))]) (k := 1) (v := (4 : Int32)) hx hb d_M_rankOf_139 hl rfl (by decide) (by decide) rfl (fun ls hl => ?_)
  refine lv_goto (tgt := 4) hx hb d_M_rankOf_142 (by decide) ?_
  refine lv_iload_n hx hb d_M_rankOf_4 rfl (lv_at hl 0 rfl) ?_
  refine lv_iconst (v := (4 : Int32)) hx hb d_M_rankOf_5 (by decide) ?_
  refine lv_icmp_ge (tgt := 145) hx hb d_M_rankOf_6 (by decide) (fun _ => ?_) (fun h99 => absurd h99 (by decide))
  refine lv_iload_n hx hb d_M_rankOf_145 rfl (lv_at hl 2 rfl) ?_
  exact tx_mono (fun _ h => tx_Z.of h) (W.iret (v := (0 : Int32)) hx hb hr (fun t ht hW => ⟨⟨[(m0, .inr (7, [.int th, .int f1, .int (0 : Int32), .ref rw, .int (1 : Int32), .int (0 : Int32), .int (0 : Int32), .ref ry, .int (0 : Int32), .int (0 : Int32), .ref ti, .int (0 : Int32), .int (0 : Int32), .ref po, .ref su, .ref sq, .ref ch, .ref vt, .ref sh]))], ⟨rfl, rfl⟩, by rw [ht]; exact hP.sub [0] rfl, hD.sub [0] (by decide) rfl⟩, hS.F ht⟩) hS.2.2 d_M_rankOf_146)

set_option maxHeartbeats 4000000 in
set_option maxRecDepth 100000 in
theorem c_M_know0 {l : Launch} {s0 : State} {b0 : Addr} {D : va_G} {cI cJ cZ : ClassId} {tC tS : Nat} (E : gE l s0 b0 D cI cJ cZ tC tS) (sz : Nat) (m0 : Nat) (rw : Nat) (ry : Nat) (ti : Nat) (po : Nat) (su : Nat) (sq : Nat) (ch : Nat) (vt : Nat) (sh : Nat) (th : Int32) (f1 : Int32) (h : (0 : Int32) < f1) : cx_M l s0 D kl y_M_know b_M_know 3 none ({ frames := 1, cells := 0, slots := 0, locals := 27 } : Room) 0 0 [.ref m0] [(m0, .inr (7, [.int th, .int f1, .int (0 : Int32), .ref rw, .int (0 : Int32), .int (0 : Int32), .int (0 : Int32), .ref ry, .int (0 : Int32), .int (0 : Int32), .ref ti, .int (0 : Int32), .int (0 : Int32), .ref po, .ref su, .ref sq, .ref ch, .ref vt, .ref sh]))] sz (fun o9 _ w9 => o9 = .returned none ∧ w9 = [(m0, .inr (7, [.int th, .int f1, .int (0 : Int32), .ref rw, .int (1 : Int32), .int (0 : Int32), .int (0 : Int32), .ref ry, .int (0 : Int32), .int (0 : Int32), .ref ti, .int (0 : Int32), .int (0 : Int32), .ref po, .ref su, .ref sq, .ref ch, .ref vt, .ref sh]))]) := by
  refine tx_ofW (cc := b_M_know) (maxL := 3) (ret := none) (by decide) rfl ?_
  intro p e s m args below meth c s₁ B hml hT hv
  obtain ⟨rfl, hsz, hP, hD0, hx0⟩ := hv
  have hx := B.exec
  have hb := B.bytes
  have hr := B.returns
  have G := E.2.1
  have hown : s.vm.findClass cn_M = some m.cls := findClass_of_methodNamed B.named
  have hlocks := B.notSynchronized
  have hK := va_K.moved hx0.1.alike E.2.2.1
  have hf_M : ∀ w99 ∈ u_ws cn_M ft_M 19, w99.before ([.ref m0] : List Value).toArray s = true := fun w99 h99 => gw.at G hx0 (fw_M w99 h99) (fo_M w99 h99) _
  subst hsz
  have hA0 := cx_new hD0 hx0.2.1
  have hD := hD0.self (sz := s.heap.size)
  generalize hAe : va_A [(m0, .inr (7, [.int th, .int f1, .int (0 : Int32), .ref rw, .int (0 : Int32), .int (0 : Int32), .int (0 : Int32), .ref ry, .int (0 : Int32), .int (0 : Int32), .ref ti, .int (0 : Int32), .int (0 : Int32), .ref po, .ref su, .ref sq, .ref ch, .ref vt, .ref sh]))] s.heap.size = A at hD hA0 ⊢
  have hA : ∀ q : Nat, s.heap.size ≤ q → A q := fun q h => by rw [← hAe]; exact Or.inr h
  have hS : va_S A s.heap s.heap [] := va_S.rf
  have hl := lv_entry ([.ref m0]) (n := 3) (Nat.le_of_ble_eq_true rfl)
  rw [lg_entry_eq]
  generalize (lg_sl ([.ref m0]) ++ List.replicate (3 - (lg_sl ([.ref m0])).length) Slot.unset).toArray = ls at hl ⊢
  have hl : lv_has ls 3 [(0, .ref m0)] := hl
  have hP : va_P D kl [(m0, .inr (7, [.int th, .int f1, .int (0 : Int32), .ref rw, .int (0 : Int32), .int (0 : Int32), .int (0 : Int32), .ref ry, .int (0 : Int32), .int (0 : Int32), .ref ti, .int (0 : Int32), .int (0 : Int32), .ref po, .ref su, .ref sq, .ref ch, .ref vt, .ref sh]))] s.heap := hP
  have hml : c.maxLocals = 3 := hml
  refine lv_aload_n hx hb d_M_know_0 rfl (lv_at hl 0 rfl) ?_
  refine va_get (D := D) (ci := 7) (v := .int (0 : Int32)) (C := cn_M) (T := ft_M) (N := 19) hx hb hf_M (fun _ h => h) hown hK hP 0 rfl rfl 4 (by decide) (gw.at G hx0 mw_717 rfl _) (fun _ h9 => h9) rfl d_M_know_1 ?_
  refine lv_if_eq (tgt := 8) hx hb d_M_know_4 (by decide) (fun _ => ?_) (fun h99 => absurd h99 (by decide))
  refine lv_aload_n hx hb d_M_know_8 rfl (lv_at hl 0 rfl) ?_
  refine lv_iconst (v := (1 : Int32)) hx hb d_M_know_9 (by decide) ?_
  refine va_put (D := D) (ci := 7) (v := .int (1 : Int32)) (ty := .boolean) (C := cn_M) (T := ft_M) (N := 19) hx hb hf_M (fun _ h => h) fy_M fk_M fn_M hown hK hP hD hS 0 rfl rfl 4 (by decide) (gw.at G hx0 mw_717 rfl _) (fun _ h9 => h9) rfl (by decide +kernel) rfl rfl (Nat.le_of_ble_eq_true rfl) d_M_know_10 (fun H locs hP hD hS => ?_)
  have hP : va_P D kl [(m0, .inr (7, [.int th, .int f1, .int (0 : Int32), .ref rw, .int (1 : Int32), .int (0 : Int32), .int (0 : Int32), .ref ry, .int (0 : Int32), .int (0 : Int32), .ref ti, .int (0 : Int32), .int (0 : Int32), .ref po, .ref su, .ref sq, .ref ch, .ref vt, .ref sh]))] H := hP
  have hD : va_D A [(m0, .inr (7, [.int th, .int f1, .int (0 : Int32), .ref rw, .int (1 : Int32), .int (0 : Int32), .int (0 : Int32), .ref ry, .int (0 : Int32), .int (0 : Int32), .ref ti, .int (0 : Int32), .int (0 : Int32), .ref po, .ref su, .ref sq, .ref ch, .ref vt, .ref sh]))] := hD
  refine lv_aload_n hx hb d_M_know_13 rfl (lv_at hl 0 rfl) ?_
  refine lv_iconst (v := (0 : Int32)) hx hb d_M_know_14 (by decide) ?_
  refine va_put (D := D) (ci := 7) (v := .int (0 : Int32)) (ty := .boolean) (C := cn_M) (T := ft_M) (N := 19) hx hb hf_M (fun _ h => h) fy_M fk_M fn_M hown hK hP hD hS 0 rfl rfl 11 (by decide) (gw.at G hx0 mw_724 rfl _) (fun _ h9 => h9) rfl (by decide +kernel) rfl rfl (Nat.le_of_ble_eq_true rfl) d_M_know_15 (fun H locs hP hD hS => ?_)
  have hP : va_P D kl [(m0, .inr (7, [.int th, .int f1, .int (0 : Int32), .ref rw, .int (1 : Int32), .int (0 : Int32), .int (0 : Int32), .ref ry, .int (0 : Int32), .int (0 : Int32), .ref ti, .int (0 : Int32), .int (0 : Int32), .ref po, .ref su, .ref sq, .ref ch, .ref vt, .ref sh]))] H := hP
  have hD : va_D A [(m0, .inr (7, [.int th, .int f1, .int (0 : Int32), .ref rw, .int (1 : Int32), .int (0 : Int32), .int (0 : Int32), .ref ry, .int (0 : Int32), .int (0 : Int32), .ref ti, .int (0 : Int32), .int (0 : Int32), .ref po, .ref su, .ref sq, .ref ch, .ref vt, .ref sh]))] := hD
  refine lv_iconst (v := (0 : Int32)) hx hb d_M_know_18 (by decide) ?_
  refine lv_istore_n (lv' := [(1, .int (0 : Int32)), (0, .ref m0)]) hx hb d_M_know_19 rfl hl (by decide) rfl (fun ls hl => ?_)
  refine lv_iload_n hx hb d_M_know_20 rfl (lv_at hl 0 rfl) ?_
  refine lv_iconst (v := (4 : Int32)) hx hb d_M_know_21 (by decide) ?_
  refine lv_aload_n hx hb d_M_know_22 rfl (lv_at hl 1 rfl) ?_
  refine va_get (D := D) (ci := 7) (v := .int (0 : Int32)) (C := cn_M) (T := ft_M) (N := 19) hx hb hf_M (fun _ h => h) hown hK hP 0 rfl rfl 2 (by decide) (gw.at G hx0 mw_715 rfl _) (fun _ h9 => h9) rfl d_M_know_23 ?_
  refine lv_imul hx hb d_M_know_26 ?_
  refine tp_i (y := (0 : Int32)) (by decide) ?_
  refine lv_icmp_ge (tgt := 49) hx hb d_M_know_27 (by decide) (fun _ => ?_) (fun h99 => absurd h99 (by decide))
  refine lv_aload_n hx hb d_M_know_49 rfl (lv_at hl 1 rfl) ?_
  refine lv_aload_n hx hb d_M_know_50 rfl (lv_at hl 1 rfl) ?_
  refine lv_aload_n hx hb d_M_know_51 rfl (lv_at hl 1 rfl) ?_
  refine va_get (D := D) (ci := 7) (v := .int (0 : Int32)) (C := cn_M) (T := ft_M) (N := 19) hx hb hf_M (fun _ h => h) hown hK hP 0 rfl rfl 2 (by decide) (gw.at G hx0 mw_715 rfl _) (fun _ h9 => h9) rfl d_M_know_52 ?_
  refine cx_call (D := D) (cl := kl) (ws := _) (wc := [(m0, .inr (7, [.int th, .int f1, .int (0 : Int32), .ref rw, .int (1 : Int32), .int (0 : Int32), .int (0 : Int32), .ref ry, .int (0 : Int32), .int (0 : Int32), .ref ti, .int (0 : Int32), .int (0 : Int32), .ref po, .ref su, .ref sq, .ref ch, .ref vt, .ref sh]))]) (wr := []) (tx_runV (C := cn_M) (b := m0) (As := [.int (0 : Int32)]) (rest := [.ref m0]) hx hb hml hown (c_M_rankOf0 E H.size m0 rw ry ti po su sq ch vt sh th f1 ) (cx_C (b0 := b0) G hx0 mw_810 mw_9 ny_M_rankOf (by decide)) (gw.at G hx0 mw_807 rfl _) (gw.at G hx0 mw_809 rfl _) (gw.at G hx0 ms_M_rankOf rfl _) ⟨cx_blind, va_recv hK hP (q0 := 0) (ci := 7) (q := (cn_M, ft_M, 19)) rfl rfl, (cx_pre (s := s) hx0 hP hD hS hA0 [0] rfl rfl (by decide))⟩ rfl rfl hl.1 rfl (lv_room (Nat.le_of_ble_eq_true rfl)) d_M_know_55 ⟨by decide, by decide⟩) hP hD hS hA [0] [] rfl rfl (by decide) (by decide) (fun v t w1 H locs ht hW9 hp hP hD hS => ?_) (fun x t w1 H locs ht hW9 hp hP hD hS => by obtain ⟨h9, -⟩ := hp; cases h9)
  obtain ⟨h9, rfl⟩ := hp
  cases h9
  refine W.eq (g2 := F0 m 58 ls [.int (0 : Int32), .ref m0]) rfl ?_
  refine W.widen (k := 0) (n := 0) (by decide) (by decide) ?_
  have hP : va_P D kl [(m0, .inr (7, [.int th, .int f1, .int (0 : Int32), .ref rw, .int (1 : Int32), .int (0 : Int32), .int (0 : Int32), .ref ry, .int (0 : Int32), .int (0 : Int32), .ref ti, .int (0 : Int32), .int (0 : Int32), .ref po, .ref su, .ref sq, .ref ch, .ref vt, .ref sh]))] H := hP
  have hD : va_D A [(m0, .inr (7, [.int th, .int f1, .int (0 : Int32), .ref rw, .int (1 : Int32), .int (0 : Int32), .int (0 : Int32), .ref ry, .int (0 : Int32), .int (0 : Int32), .ref ti, .int (0 : Int32), .int (0 : Int32), .ref po, .ref su, .ref sq, .ref ch, .ref vt, .ref sh]))] := hD
  refine va_put (D := D) (ci := 7) (v := .int (0 : Int32)) (ty := .int) (C := cn_M) (T := ft_M) (N := 19) hx hb hf_M (fun _ h => h) fy_M fk_M fn_M hown hK hP hD hS 0 rfl rfl 5 (by decide) (gw.at G hx0 mw_718 rfl _) (fun _ h9 => h9) rfl (by decide +kernel) rfl rfl (Nat.le_of_ble_eq_true rfl) d_M_know_58 (fun H locs hP hD hS => ?_)
  have hP : va_P D kl [(m0, .inr (7, [.int th, .int f1, .int (0 : Int32), .ref rw, .int (1 : Int32), .int (0 : Int32), .int (0 : Int32), .ref ry, .int (0 : Int32), .int (0 : Int32), .ref ti, .int (0 : Int32), .int (0 : Int32), .ref po, .ref su, .ref sq, .ref ch, .ref vt, .ref sh]))] H := hP
  have hD : va_D A [(m0, .inr (7, [.int th, .int f1, .int (0 : Int32), .ref rw, .int (1 : Int32), .int (0 : Int32), .int (0 : Int32), .ref ry, .int (0 : Int32), .int (0 : Int32), .ref ti, .int (0 : Int32), .int (0 : Int32), .ref po, .ref su, .ref sq, .ref ch, .ref vt, .ref sh]))] := hD
  refine lv_aload_n hx hb d_M_know_61 rfl (lv_at hl 1 rfl) ?_
  refine lv_iconst (v := (0 : Int32)) hx hb d_M_know_62 (by decide) ?_
  refine va_put (D := D) (ci := 7) (v := .int (0 : Int32)) (ty := .int) (C := cn_M) (T := ft_M) (N := 19) hx hb hf_M (fun _ h => h) fy_M fk_M fn_M hown hK hP hD hS 0 rfl rfl 6 (by decide) (gw.at G hx0 mw_719 rfl _) (fun _ h9 => h9) rfl (by decide +kernel) rfl rfl (Nat.le_of_ble_eq_true rfl) d_M_know_63 (fun H locs hP hD hS => ?_)
  have hP : va_P D kl [(m0, .inr (7, [.int th, .int f1, .int (0 : Int32), .ref rw, .int (1 : Int32), .int (0 : Int32), .int (0 : Int32), .ref ry, .int (0 : Int32), .int (0 : Int32), .ref ti, .int (0 : Int32), .int (0 : Int32), .ref po, .ref su, .ref sq, .ref ch, .ref vt, .ref sh]))] H := hP
  have hD : va_D A [(m0, .inr (7, [.int th, .int f1, .int (0 : Int32), .ref rw, .int (1 : Int32), .int (0 : Int32), .int (0 : Int32), .ref ry, .int (0 : Int32), .int (0 : Int32), .ref ti, .int (0 : Int32), .int (0 : Int32), .ref po, .ref su, .ref sq, .ref ch, .ref vt, .ref sh]))] := hD
  refine lv_aload_n hx hb d_M_know_66 rfl (lv_at hl 1 rfl) ?_
  refine lv_iconst (v := (0 : Int32)) hx hb d_M_know_67 (by decide) ?_
  refine va_put (D := D) (ci := 7) (v := .int (0 : Int32)) (ty := .boolean) (C := cn_M) (T := ft_M) (N := 19) hx hb hf_M (fun _ h => h) fy_M fk_M fn_M hown hK hP hD hS 0 rfl rfl 9 (by decide) (gw.at G hx0 mw_722 rfl _) (fun _ h9 => h9) rfl (by decide +kernel) rfl rfl (Nat.le_of_ble_eq_true rfl) d_M_know_68 (fun H locs hP hD hS => ?_)
  have hP : va_P D kl [(m0, .inr (7, [.int th, .int f1, .int (0 : Int32), .ref rw, .int (1 : Int32), .int (0 : Int32), .int (0 : Int32), .ref ry, .int (0 : Int32), .int (0 : Int32), .ref ti, .int (0 : Int32), .int (0 : Int32), .ref po, .ref su, .ref sq, .ref ch, .ref vt, .ref sh]))] H := hP
  have hD : va_D A [(m0, .inr (7, [.int th, .int f1, .int (0 : Int32), .ref rw, .int (1 : Int32), .int (0 : Int32), .int (0 : Int32), .ref ry, .int (0 : Int32), .int (0 : Int32), .ref ti, .int (0 : Int32), .int (0 : Int32), .ref po, .ref su, .ref sq, .ref ch, .ref vt, .ref sh]))] := hD
  refine lv_aload_n hx hb d_M_know_71 rfl (lv_at hl 1 rfl) ?_
  refine lv_iconst (v := (0 : Int32)) hx hb d_M_know_72 (by decide) ?_
  refine va_put (D := D) (ci := 7) (v := .int (0 : Int32)) (ty := .int) (C := cn_M) (T := ft_M) (N := 19) hx hb hf_M (fun _ h => h) fy_M fk_M fn_M hown hK hP hD hS 0 rfl rfl 8 (by decide) (gw.at G hx0 mw_721 rfl _) (fun _ h9 => h9) rfl (by decide +kernel) rfl rfl (Nat.le_of_ble_eq_true rfl) d_M_know_73 (fun H locs hP hD hS => ?_)
  have hP : va_P D kl [(m0, .inr (7, [.int th, .int f1, .int (0 : Int32), .ref rw, .int (1 : Int32), .int (0 : Int32), .int (0 : Int32), .ref ry, .int (0 : Int32), .int (0 : Int32), .ref ti, .int (0 : Int32), .int (0 : Int32), .ref po, .ref su, .ref sq, .ref ch, .ref vt, .ref sh]))] H := hP
  have hD : va_D A [(m0, .inr (7, [.int th, .int f1, .int (0 : Int32), .ref rw, .int (1 : Int32), .int (0 : Int32), .int (0 : Int32), .ref ry, .int (0 : Int32), .int (0 : Int32), .ref ti, .int (0 : Int32), .int (0 : Int32), .ref po, .ref su, .ref sq, .ref ch, .ref vt, .ref sh]))] := hD
  refine lv_aload_n hx hb d_M_know_76 rfl (lv_at hl 1 rfl) ?_
  refine va_get (D := D) (ci := 7) (v := .int (0 : Int32)) (C := cn_M) (T := ft_M) (N := 19) hx hb hf_M (fun _ h => h) hown hK hP 0 rfl rfl 5 (by decide) (gw.at G hx0 mw_718 rfl _) (fun _ h9 => h9) rfl d_M_know_77 ?_
  refine lv_aload_n hx hb d_M_know_80 rfl (lv_at hl 1 rfl) ?_
  refine va_get (D := D) (ci := 7) (v := .int f1) (C := cn_M) (T := ft_M) (N := 19) hx hb hf_M (fun _ h => h) hown hK hP 0 rfl rfl 1 (by decide) (gw.at G hx0 mw_714 rfl _) (fun _ h9 => h9) rfl d_M_know_81 ?_
  refine lv_icmp_ge (tgt := 88) hx hb d_M_know_84 (by decide) (fun h99 => absurd h99 (Int32.not_le.mpr h)) (fun _ => ?_)
  exact tx_mono (fun _ h => tx_Z.of h) (W.vret hx hb hr (fun t ht hW => ⟨⟨[(m0, .inr (7, [.int th, .int f1, .int (0 : Int32), .ref rw, .int (1 : Int32), .int (0 : Int32), .int (0 : Int32), .ref ry, .int (0 : Int32), .int (0 : Int32), .ref ti, .int (0 : Int32), .int (0 : Int32), .ref po, .ref su, .ref sq, .ref ch, .ref vt, .ref sh]))], ⟨rfl, rfl⟩, by rw [ht]; exact hP.sub [0] rfl, hD.sub [0] (by decide) rfl⟩, hS.F ht⟩) hS.2.2 d_M_know_87)

set_option maxHeartbeats 4000000 in
set_option maxRecDepth 100000 in
theorem c_M_pointed1 {l : Launch} {s0 : State} {b0 : Addr} {D : va_G} {cI cJ cZ : ClassId} {tC tS : Nat} (E : gE l s0 b0 D cI cJ cZ tC tS) (sz : Nat) (m0 : Nat) (rw : Nat) (ry : Nat) (ti : Nat) (po : Nat) (su : Nat) (sq : Nat) (ch : Nat) (vt : Nat) (sh : Nat) (th : Int32) (f1 : Int32) (h : (0 : Int32) < f1) : cx_M l s0 D kl y_M_pointed b_M_pointed 2 (some .boolean) ({ frames := 2, cells := 0, slots := 0, locals := 49 } : Room) 0 0 [.ref m0, .int (1 : Int32)] [(m0, .inr (7, [.int th, .int f1, .int (0 : Int32), .ref rw, .int (0 : Int32), .int (0 : Int32), .int (0 : Int32), .ref ry, .int (0 : Int32), .int (0 : Int32), .ref ti, .int (0 : Int32), .int (0 : Int32), .ref po, .ref su, .ref sq, .ref ch, .ref vt, .ref sh]))] sz (fun o9 _ w9 => o9 = .returned (some (.int (0 : Int32))) ∧ w9 = [(m0, .inr (7, [.int (1 : Int32), .int f1, .int (0 : Int32), .ref rw, .int (1 : Int32), .int (0 : Int32), .int (0 : Int32), .ref ry, .int (0 : Int32), .int (0 : Int32), .ref ti, .int (0 : Int32), .int (0 : Int32), .ref po, .ref su, .ref sq, .ref ch, .ref vt, .ref sh]))]) := by
  refine tx_ofW (cc := b_M_pointed) (maxL := 2) (ret := (some .boolean)) (by decide) rfl ?_
  intro p e s m args below meth c s₁ B hml hT hv
  obtain ⟨rfl, hsz, hP, hD0, hx0⟩ := hv
  have hx := B.exec
  have hb := B.bytes
  have hr := B.returns
  have G := E.2.1
  have hown : s.vm.findClass cn_M = some m.cls := findClass_of_methodNamed B.named
  have hlocks := B.notSynchronized
  have hK := va_K.moved hx0.1.alike E.2.2.1
  have hf_M : ∀ w99 ∈ u_ws cn_M ft_M 19, w99.before ([.ref m0, .int (1 : Int32)] : List Value).toArray s = true := fun w99 h99 => gw.at G hx0 (fw_M w99 h99) (fo_M w99 h99) _
  subst hsz
  have hA0 := cx_new hD0 hx0.2.1
  have hD := hD0.self (sz := s.heap.size)
  generalize hAe : va_A [(m0, .inr (7, [.int th, .int f1, .int (0 : Int32), .ref rw, .int (0 : Int32), .int (0 : Int32), .int (0 : Int32), .ref ry, .int (0 : Int32), .int (0 : Int32), .ref ti, .int (0 : Int32), .int (0 : Int32), .ref po, .ref su, .ref sq, .ref ch, .ref vt, .ref sh]))] s.heap.size = A at hD hA0 ⊢
  have hA : ∀ q : Nat, s.heap.size ≤ q → A q := fun q h => by rw [← hAe]; exact Or.inr h
  have hS : va_S A s.heap s.heap [] := va_S.rf
  have hl := lv_entry ([.ref m0, .int (1 : Int32)]) (n := 2) (Nat.le_of_ble_eq_true rfl)
  rw [lg_entry_eq]
  generalize (lg_sl ([.ref m0, .int (1 : Int32)]) ++ List.replicate (2 - (lg_sl ([.ref m0, .int (1 : Int32)])).length) Slot.unset).toArray = ls at hl ⊢
  have hl : lv_has ls 2 [(0, .ref m0), (1, .int (1 : Int32))] := hl
  have hP : va_P D kl [(m0, .inr (7, [.int th, .int f1, .int (0 : Int32), .ref rw, .int (0 : Int32), .int (0 : Int32), .int (0 : Int32), .ref ry, .int (0 : Int32), .int (0 : Int32), .ref ti, .int (0 : Int32), .int (0 : Int32), .ref po, .ref su, .ref sq, .ref ch, .ref vt, .ref sh]))] s.heap := hP
  have hml : c.maxLocals = 2 := hml
  refine lv_aload_n hx hb d_M_pointed_0 rfl (lv_at hl 0 rfl) ?_
  refine cx_call (D := D) (cl := kl) (ws := _) (wc := [(m0, .inr (7, [.int th, .int f1, .int (0 : Int32), .ref rw, .int (0 : Int32), .int (0 : Int32), .int (0 : Int32), .ref ry, .int (0 : Int32), .int (0 : Int32), .ref ti, .int (0 : Int32), .int (0 : Int32), .ref po, .ref su, .ref sq, .ref ch, .ref vt, .ref sh]))]) (wr := []) (tx_runV (C := cn_M) (b := m0) (As := []) (rest := []) hx hb hml hown (c_M_know0 E s.heap.size m0 rw ry ti po su sq ch vt sh th f1 h) (cx_C (b0 := b0) G hx0 mw_806 mw_9 ny_M_know (by decide)) (gw.at G hx0 mw_803 rfl _) (gw.at G hx0 mw_805 rfl _) (gw.at G hx0 ms_M_know rfl _) ⟨cx_blind, va_recv hK hP (q0 := 0) (ci := 7) (q := (cn_M, ft_M, 19)) rfl rfl, (cx_pre (s := s) hx0 hP hD hS hA0 [0] rfl rfl (by decide))⟩ rfl rfl hl.1 rfl (lv_room (Nat.le_of_ble_eq_true rfl)) d_M_pointed_1 ⟨by decide, by decide⟩) hP hD hS hA [0] [] rfl rfl (by decide) (by decide) (fun v t w1 H locs ht hW9 hp hP hD hS => ?_) (fun x t w1 H locs ht hW9 hp hP hD hS => by obtain ⟨h9, -⟩ := hp; cases h9)
  obtain ⟨h9, rfl⟩ := hp
  cases h9
  refine W.eq (g2 := F0 m 4 ls []) rfl ?_
  refine W.widen (k := 0) (n := 0) (by decide) (by decide) ?_
  have hP : va_P D kl [(m0, .inr (7, [.int th, .int f1, .int (0 : Int32), .ref rw, .int (1 : Int32), .int (0 : Int32), .int (0 : Int32), .ref ry, .int (0 : Int32), .int (0 : Int32), .ref ti, .int (0 : Int32), .int (0 : Int32), .ref po, .ref su, .ref sq, .ref ch, .ref vt, .ref sh]))] H := hP
  have hD : va_D A [(m0, .inr (7, [.int th, .int f1, .int (0 : Int32), .ref rw, .int (1 : Int32), .int (0 : Int32), .int (0 : Int32), .ref ry, .int (0 : Int32), .int (0 : Int32), .ref ti, .int (0 : Int32), .int (0 : Int32), .ref po, .ref su, .ref sq, .ref ch, .ref vt, .ref sh]))] := hD
  refine lv_aload_n hx hb d_M_pointed_4 rfl (lv_at hl 0 rfl) ?_
  refine lv_aload_n hx hb d_M_pointed_5 rfl (lv_at hl 0 rfl) ?_
  refine va_get (D := D) (ci := 7) (v := .int (0 : Int32)) (C := cn_M) (T := ft_M) (N := 19) hx hb hf_M (fun _ h => h) hown hK hP 0 rfl rfl 5 (by decide) (gw.at G hx0 mw_718 rfl _) (fun _ h9 => h9) rfl d_M_pointed_6 ?_
  refine lv_aload_n hx hb d_M_pointed_9 rfl (lv_at hl 0 rfl) ?_
  refine va_get (D := D) (ci := 7) (v := .int f1) (C := cn_M) (T := ft_M) (N := 19) hx hb hf_M (fun _ h => h) hown hK hP 0 rfl rfl 1 (by decide) (gw.at G hx0 mw_714 rfl _) (fun _ h9 => h9) rfl d_M_pointed_10 ?_
  refine lv_icmp_ge (tgt := 20) hx hb d_M_pointed_13 (by decide) (fun h99 => absurd h99 (Int32.not_le.mpr h)) (fun _ => ?_)
  refine lv_iload_n hx hb d_M_pointed_16 rfl (lv_at hl 1 rfl) ?_
  refine lv_goto (tgt := 21) hx hb d_M_pointed_17 (by decide) ?_
  refine va_put (D := D) (ci := 7) (v := .int (1 : Int32)) (ty := .int) (C := cn_M) (T := ft_M) (N := 19) hx hb hf_M (fun _ h => h) fy_M fk_M fn_M hown hK hP hD hS 0 rfl rfl 0 (by decide) (gw.at G hx0 mw_713 rfl _) (fun _ h9 => h9) rfl (by decide +kernel) rfl rfl (Nat.le_of_ble_eq_true rfl) d_M_pointed_21 (fun H locs hP hD hS => ?_)
  have hP : va_P D kl [(m0, .inr (7, [.int (1 : Int32), .int f1, .int (0 : Int32), .ref rw, .int (1 : Int32), .int (0 : Int32), .int (0 : Int32), .ref ry, .int (0 : Int32), .int (0 : Int32), .ref ti, .int (0 : Int32), .int (0 : Int32), .ref po, .ref su, .ref sq, .ref ch, .ref vt, .ref sh]))] H := hP
  have hD : va_D A [(m0, .inr (7, [.int (1 : Int32), .int f1, .int (0 : Int32), .ref rw, .int (1 : Int32), .int (0 : Int32), .int (0 : Int32), .ref ry, .int (0 : Int32), .int (0 : Int32), .ref ti, .int (0 : Int32), .int (0 : Int32), .ref po, .ref su, .ref sq, .ref ch, .ref vt, .ref sh]))] := hD
  refine lv_aload_n hx hb d_M_pointed_24 rfl (lv_at hl 0 rfl) ?_
  refine va_get (D := D) (ci := 7) (v := .int (1 : Int32)) (C := cn_M) (T := ft_M) (N := 19) hx hb hf_M (fun _ h => h) hown hK hP 0 rfl rfl 0 (by decide) (gw.at G hx0 mw_713 rfl _) (fun _ h9 => h9) rfl d_M_pointed_25 ?_
  refine lv_if_ne (tgt := 35) hx hb d_M_pointed_28 (by decide) (fun _ => ?_) (fun h99 => absurd h99 (by decide))
  refine lv_iconst (v := (0 : Int32)) hx hb d_M_pointed_35 (by decide) ?_
  exact tx_mono (fun _ h => tx_Z.of h) (W.zret (v := (0 : Int32)) hx hb hr (by decide) (fun t ht hW => ⟨⟨[(m0, .inr (7, [.int (1 : Int32), .int f1, .int (0 : Int32), .ref rw, .int (1 : Int32), .int (0 : Int32), .int (0 : Int32), .ref ry, .int (0 : Int32), .int (0 : Int32), .ref ti, .int (0 : Int32), .int (0 : Int32), .ref po, .ref su, .ref sq, .ref ch, .ref vt, .ref sh]))], ⟨rfl, rfl⟩, by rw [ht]; exact hP.sub [0] rfl, hD.sub [0] (by decide) rfl⟩, hS.F ht⟩) hS.2.2 d_M_pointed_36)

set_option maxHeartbeats 4000000 in
set_option maxRecDepth 100000 in
theorem c_M_based1 {l : Launch} {s0 : State} {b0 : Addr} {D : va_G} {cI cJ cZ : ClassId} {tC tS : Nat} (E : gE l s0 b0 D cI cJ cZ tC tS) (sz : Nat) (m0 : Nat) (rw : Nat) (ry : Nat) (ti : Nat) (po : Nat) (su : Nat) (sq : Nat) (ch : Nat) (vt : Nat) (sh : Nat) (th : Int32) (f1 : Int32) (h : (0 : Int32) < f1) : cx_M l s0 D kl y_M_based b_M_based 2 (some .boolean) ({ frames := 3, cells := 0, slots := 0, locals := 70 } : Room) 0 0 [.ref m0, .int (1 : Int32)] [(m0, .inr (7, [.int th, .int f1, .int (0 : Int32), .ref rw, .int (0 : Int32), .int (0 : Int32), .int (0 : Int32), .ref ry, .int (0 : Int32), .int (0 : Int32), .ref ti, .int (0 : Int32), .int (0 : Int32), .ref po, .ref su, .ref sq, .ref ch, .ref vt, .ref sh]))] sz (fun o9 _ w9 => o9 = .returned (some (.int (0 : Int32))) ∧ w9 = [(m0, .inr (7, [.int (1 : Int32), .int f1, .int (0 : Int32), .ref rw, .int (1 : Int32), .int (0 : Int32), .int (0 : Int32), .ref ry, .int (0 : Int32), .int (0 : Int32), .ref ti, .int (0 : Int32), .int (0 : Int32), .ref po, .ref su, .ref sq, .ref ch, .ref vt, .ref sh]))]) := by
  refine tx_ofW (cc := b_M_based) (maxL := 2) (ret := (some .boolean)) (by decide) rfl ?_
  intro p e s m args below meth c s₁ B hml hT hv
  obtain ⟨rfl, hsz, hP, hD0, hx0⟩ := hv
  have hx := B.exec
  have hb := B.bytes
  have hr := B.returns
  have G := E.2.1
  have hown : s.vm.findClass cn_M = some m.cls := findClass_of_methodNamed B.named
  have hlocks := B.notSynchronized
  have hK := va_K.moved hx0.1.alike E.2.2.1
  subst hsz
  have hA0 := cx_new hD0 hx0.2.1
  have hD := hD0.self (sz := s.heap.size)
  generalize hAe : va_A [(m0, .inr (7, [.int th, .int f1, .int (0 : Int32), .ref rw, .int (0 : Int32), .int (0 : Int32), .int (0 : Int32), .ref ry, .int (0 : Int32), .int (0 : Int32), .ref ti, .int (0 : Int32), .int (0 : Int32), .ref po, .ref su, .ref sq, .ref ch, .ref vt, .ref sh]))] s.heap.size = A at hD hA0 ⊢
  have hA : ∀ q : Nat, s.heap.size ≤ q → A q := fun q h => by rw [← hAe]; exact Or.inr h
  have hS : va_S A s.heap s.heap [] := va_S.rf
  have hl := lv_entry ([.ref m0, .int (1 : Int32)]) (n := 2) (Nat.le_of_ble_eq_true rfl)
  rw [lg_entry_eq]
  generalize (lg_sl ([.ref m0, .int (1 : Int32)]) ++ List.replicate (2 - (lg_sl ([.ref m0, .int (1 : Int32)])).length) Slot.unset).toArray = ls at hl ⊢
  have hl : lv_has ls 2 [(0, .ref m0), (1, .int (1 : Int32))] := hl
  have hP : va_P D kl [(m0, .inr (7, [.int th, .int f1, .int (0 : Int32), .ref rw, .int (0 : Int32), .int (0 : Int32), .int (0 : Int32), .ref ry, .int (0 : Int32), .int (0 : Int32), .ref ti, .int (0 : Int32), .int (0 : Int32), .ref po, .ref su, .ref sq, .ref ch, .ref vt, .ref sh]))] s.heap := hP
  have hml : c.maxLocals = 2 := hml
  refine lv_aload_n hx hb d_M_based_0 rfl (lv_at hl 0 rfl) ?_
  refine lv_iload_n hx hb d_M_based_1 rfl (lv_at hl 1 rfl) ?_
  refine cx_call (D := D) (cl := kl) (ws := _) (wc := [(m0, .inr (7, [.int th, .int f1, .int (0 : Int32), .ref rw, .int (0 : Int32), .int (0 : Int32), .int (0 : Int32), .ref ry, .int (0 : Int32), .int (0 : Int32), .ref ti, .int (0 : Int32), .int (0 : Int32), .ref po, .ref su, .ref sq, .ref ch, .ref vt, .ref sh]))]) (wr := []) (tx_runV (C := cn_M) (b := m0) (As := [.int (1 : Int32)]) (rest := []) hx hb hml hown (c_M_pointed1 E s.heap.size m0 rw ry ti po su sq ch vt sh th f1 h) (cx_C (b0 := b0) G hx0 mw_881 mw_9 ny_M_pointed (by decide)) (gw.at G hx0 mw_878 rfl _) (gw.at G hx0 mw_880 rfl _) (gw.at G hx0 ms_M_pointed rfl _) ⟨cx_blind, va_recv hK hP (q0 := 0) (ci := 7) (q := (cn_M, ft_M, 19)) rfl rfl, (cx_pre (s := s) hx0 hP hD hS hA0 [0] rfl rfl (by decide))⟩ rfl rfl hl.1 rfl (lv_room (Nat.le_of_ble_eq_true rfl)) d_M_based_2 ⟨by decide, by decide⟩) hP hD hS hA [0] [] rfl rfl (by decide) (by decide) (fun v t w1 H locs ht hW9 hp hP hD hS => ?_) (fun x t w1 H locs ht hW9 hp hP hD hS => by obtain ⟨h9, -⟩ := hp; cases h9)
  obtain ⟨h9, rfl⟩ := hp
  cases h9
  refine W.eq (g2 := F0 m 5 ls [.int (0 : Int32)]) rfl ?_
  refine W.widen (k := 0) (n := 0) (by decide) (by decide) ?_
  have hP : va_P D kl [(m0, .inr (7, [.int (1 : Int32), .int f1, .int (0 : Int32), .ref rw, .int (1 : Int32), .int (0 : Int32), .int (0 : Int32), .ref ry, .int (0 : Int32), .int (0 : Int32), .ref ti, .int (0 : Int32), .int (0 : Int32), .ref po, .ref su, .ref sq, .ref ch, .ref vt, .ref sh]))] H := hP
  have hD : va_D A [(m0, .inr (7, [.int (1 : Int32), .int f1, .int (0 : Int32), .ref rw, .int (1 : Int32), .int (0 : Int32), .int (0 : Int32), .ref ry, .int (0 : Int32), .int (0 : Int32), .ref ti, .int (0 : Int32), .int (0 : Int32), .ref po, .ref su, .ref sq, .ref ch, .ref vt, .ref sh]))] := hD
  refine lv_if_ne (tgt := 10) hx hb d_M_based_5 (by decide) (fun h99 => absurd h99 (by decide)) (fun _ => ?_)
  refine lv_iconst (v := (0 : Int32)) hx hb d_M_based_8 (by decide) ?_
  exact tx_mono (fun _ h => tx_Z.of h) (W.zret (v := (0 : Int32)) hx hb hr (by decide) (fun t ht hW => ⟨⟨[(m0, .inr (7, [.int (1 : Int32), .int f1, .int (0 : Int32), .ref rw, .int (1 : Int32), .int (0 : Int32), .int (0 : Int32), .ref ry, .int (0 : Int32), .int (0 : Int32), .ref ti, .int (0 : Int32), .int (0 : Int32), .ref po, .ref su, .ref sq, .ref ch, .ref vt, .ref sh]))], ⟨rfl, rfl⟩, by rw [ht]; exact hP.sub [0] rfl, hD.sub [0] (by decide) rfl⟩, hS.F ht⟩) hS.2.2 d_M_based_9)

set_option maxHeartbeats 4000000 in
set_option maxRecDepth 100000 in
theorem c_M_pointed2 {l : Launch} {s0 : State} {b0 : Addr} {D : va_G} {cI cJ cZ : ClassId} {tC tS : Nat} (E : gE l s0 b0 D cI cJ cZ tC tS) (sz : Nat) (m0 : Nat) (rw : Nat) (ry : Nat) (ti : Nat) (po : Nat) (su : Nat) (sq : Nat) (ch : Nat) (vt : Nat) (sh : Nat) (th : Int32) (f1 : Int32) (h : (0 : Int32) < f1) : cx_M l s0 D kl y_M_pointed b_M_pointed 2 (some .boolean) ({ frames := 2, cells := 0, slots := 0, locals := 49 } : Room) 0 0 [.ref m0, .int (2 : Int32)] [(m0, .inr (7, [.int th, .int f1, .int (0 : Int32), .ref rw, .int (0 : Int32), .int (0 : Int32), .int (0 : Int32), .ref ry, .int (0 : Int32), .int (0 : Int32), .ref ti, .int (0 : Int32), .int (0 : Int32), .ref po, .ref su, .ref sq, .ref ch, .ref vt, .ref sh]))] sz (fun o9 _ w9 => o9 = .returned (some (.int (0 : Int32))) ∧ w9 = [(m0, .inr (7, [.int (2 : Int32), .int f1, .int (0 : Int32), .ref rw, .int (1 : Int32), .int (0 : Int32), .int (0 : Int32), .ref ry, .int (0 : Int32), .int (0 : Int32), .ref ti, .int (0 : Int32), .int (0 : Int32), .ref po, .ref su, .ref sq, .ref ch, .ref vt, .ref sh]))]) := by
  refine tx_ofW (cc := b_M_pointed) (maxL := 2) (ret := (some .boolean)) (by decide) rfl ?_
  intro p e s m args below meth c s₁ B hml hT hv
  obtain ⟨rfl, hsz, hP, hD0, hx0⟩ := hv
  have hx := B.exec
  have hb := B.bytes
  have hr := B.returns
  have G := E.2.1
  have hown : s.vm.findClass cn_M = some m.cls := findClass_of_methodNamed B.named
  have hlocks := B.notSynchronized
  have hK := va_K.moved hx0.1.alike E.2.2.1
  have hf_M : ∀ w99 ∈ u_ws cn_M ft_M 19, w99.before ([.ref m0, .int (2 : Int32)] : List Value).toArray s = true := fun w99 h99 => gw.at G hx0 (fw_M w99 h99) (fo_M w99 h99) _
  subst hsz
  have hA0 := cx_new hD0 hx0.2.1
  have hD := hD0.self (sz := s.heap.size)
  generalize hAe : va_A [(m0, .inr (7, [.int th, .int f1, .int (0 : Int32), .ref rw, .int (0 : Int32), .int (0 : Int32), .int (0 : Int32), .ref ry, .int (0 : Int32), .int (0 : Int32), .ref ti, .int (0 : Int32), .int (0 : Int32), .ref po, .ref su, .ref sq, .ref ch, .ref vt, .ref sh]))] s.heap.size = A at hD hA0 ⊢
  have hA : ∀ q : Nat, s.heap.size ≤ q → A q := fun q h => by rw [← hAe]; exact Or.inr h
  have hS : va_S A s.heap s.heap [] := va_S.rf
  have hl := lv_entry ([.ref m0, .int (2 : Int32)]) (n := 2) (Nat.le_of_ble_eq_true rfl)
  rw [lg_entry_eq]
  generalize (lg_sl ([.ref m0, .int (2 : Int32)]) ++ List.replicate (2 - (lg_sl ([.ref m0, .int (2 : Int32)])).length) Slot.unset).toArray = ls at hl ⊢
  have hl : lv_has ls 2 [(0, .ref m0), (1, .int (2 : Int32))] := hl
  have hP : va_P D kl [(m0, .inr (7, [.int th, .int f1, .int (0 : Int32), .ref rw, .int (0 : Int32), .int (0 : Int32), .int (0 : Int32), .ref ry, .int (0 : Int32), .int (0 : Int32), .ref ti, .int (0 : Int32), .int (0 : Int32), .ref po, .ref su, .ref sq, .ref ch, .ref vt, .ref sh]))] s.heap := hP
  have hml : c.maxLocals = 2 := hml
  refine lv_aload_n hx hb d_M_pointed_0 rfl (lv_at hl 0 rfl) ?_
  refine cx_call (D := D) (cl := kl) (ws := _) (wc := [(m0, .inr (7, [.int th, .int f1, .int (0 : Int32), .ref rw, .int (0 : Int32), .int (0 : Int32), .int (0 : Int32), .ref ry, .int (0 : Int32), .int (0 : Int32), .ref ti, .int (0 : Int32), .int (0 : Int32), .ref po, .ref su, .ref sq, .ref ch, .ref vt, .ref sh]))]) (wr := []) (tx_runV (C := cn_M) (b := m0) (As := []) (rest := []) hx hb hml hown (c_M_know0 E s.heap.size m0 rw ry ti po su sq ch vt sh th f1 h) (cx_C (b0 := b0) G hx0 mw_806 mw_9 ny_M_know (by decide)) (gw.at G hx0 mw_803 rfl _) (gw.at G hx0 mw_805 rfl _) (gw.at G hx0 ms_M_know rfl _) ⟨cx_blind, va_recv hK hP (q0 := 0) (ci := 7) (q := (cn_M, ft_M, 19)) rfl rfl, (cx_pre (s := s) hx0 hP hD hS hA0 [0] rfl rfl (by decide))⟩ rfl rfl hl.1 rfl (lv_room (Nat.le_of_ble_eq_true rfl)) d_M_pointed_1 ⟨by decide, by decide⟩) hP hD hS hA [0] [] rfl rfl (by decide) (by decide) (fun v t w1 H locs ht hW9 hp hP hD hS => ?_) (fun x t w1 H locs ht hW9 hp hP hD hS => by obtain ⟨h9, -⟩ := hp; cases h9)
  obtain ⟨h9, rfl⟩ := hp
  cases h9
  refine W.eq (g2 := F0 m 4 ls []) rfl ?_
  refine W.widen (k := 0) (n := 0) (by decide) (by decide) ?_
  have hP : va_P D kl [(m0, .inr (7, [.int th, .int f1, .int (0 : Int32), .ref rw, .int (1 : Int32), .int (0 : Int32), .int (0 : Int32), .ref ry, .int (0 : Int32), .int (0 : Int32), .ref ti, .int (0 : Int32), .int (0 : Int32), .ref po, .ref su, .ref sq, .ref ch, .ref vt, .ref sh]))] H := hP
  have hD : va_D A [(m0, .inr (7, [.int th, .int f1, .int (0 : Int32), .ref rw, .int (1 : Int32), .int (0 : Int32), .int (0 : Int32), .ref ry, .int (0 : Int32), .int (0 : Int32), .ref ti, .int (0 : Int32), .int (0 : Int32), .ref po, .ref su, .ref sq, .ref ch, .ref vt, .ref sh]))] := hD
  refine lv_aload_n hx hb d_M_pointed_4 rfl (lv_at hl 0 rfl) ?_
  refine lv_aload_n hx hb d_M_pointed_5 rfl (lv_at hl 0 rfl) ?_
  refine va_get (D := D) (ci := 7) (v := .int (0 : Int32)) (C := cn_M) (T := ft_M) (N := 19) hx hb hf_M (fun _ h => h) hown hK hP 0 rfl rfl 5 (by decide) (gw.at G hx0 mw_718 rfl _) (fun _ h9 => h9) rfl d_M_pointed_6 ?_
  refine lv_aload_n hx hb d_M_pointed_9 rfl (lv_at hl 0 rfl) ?_
  refine va_get (D := D) (ci := 7) (v := .int f1) (C := cn_M) (T := ft_M) (N := 19) hx hb hf_M (fun _ h => h) hown hK hP 0 rfl rfl 1 (by decide) (gw.at G hx0 mw_714 rfl _) (fun _ h9 => h9) rfl d_M_pointed_10 ?_
  refine lv_icmp_ge (tgt := 20) hx hb d_M_pointed_13 (by decide) (fun h99 => absurd h99 (Int32.not_le.mpr h)) (fun _ => ?_)
  refine lv_iload_n hx hb d_M_pointed_16 rfl (lv_at hl 1 rfl) ?_
  refine lv_goto (tgt := 21) hx hb d_M_pointed_17 (by decide) ?_
  refine va_put (D := D) (ci := 7) (v := .int (2 : Int32)) (ty := .int) (C := cn_M) (T := ft_M) (N := 19) hx hb hf_M (fun _ h => h) fy_M fk_M fn_M hown hK hP hD hS 0 rfl rfl 0 (by decide) (gw.at G hx0 mw_713 rfl _) (fun _ h9 => h9) rfl (by decide +kernel) rfl rfl (Nat.le_of_ble_eq_true rfl) d_M_pointed_21 (fun H locs hP hD hS => ?_)
  have hP : va_P D kl [(m0, .inr (7, [.int (2 : Int32), .int f1, .int (0 : Int32), .ref rw, .int (1 : Int32), .int (0 : Int32), .int (0 : Int32), .ref ry, .int (0 : Int32), .int (0 : Int32), .ref ti, .int (0 : Int32), .int (0 : Int32), .ref po, .ref su, .ref sq, .ref ch, .ref vt, .ref sh]))] H := hP
  have hD : va_D A [(m0, .inr (7, [.int (2 : Int32), .int f1, .int (0 : Int32), .ref rw, .int (1 : Int32), .int (0 : Int32), .int (0 : Int32), .ref ry, .int (0 : Int32), .int (0 : Int32), .ref ti, .int (0 : Int32), .int (0 : Int32), .ref po, .ref su, .ref sq, .ref ch, .ref vt, .ref sh]))] := hD
  refine lv_aload_n hx hb d_M_pointed_24 rfl (lv_at hl 0 rfl) ?_
  refine va_get (D := D) (ci := 7) (v := .int (2 : Int32)) (C := cn_M) (T := ft_M) (N := 19) hx hb hf_M (fun _ h => h) hown hK hP 0 rfl rfl 0 (by decide) (gw.at G hx0 mw_713 rfl _) (fun _ h9 => h9) rfl d_M_pointed_25 ?_
  refine lv_if_ne (tgt := 35) hx hb d_M_pointed_28 (by decide) (fun _ => ?_) (fun h99 => absurd h99 (by decide))
  refine lv_iconst (v := (0 : Int32)) hx hb d_M_pointed_35 (by decide) ?_
  exact tx_mono (fun _ h => tx_Z.of h) (W.zret (v := (0 : Int32)) hx hb hr (by decide) (fun t ht hW => ⟨⟨[(m0, .inr (7, [.int (2 : Int32), .int f1, .int (0 : Int32), .ref rw, .int (1 : Int32), .int (0 : Int32), .int (0 : Int32), .ref ry, .int (0 : Int32), .int (0 : Int32), .ref ti, .int (0 : Int32), .int (0 : Int32), .ref po, .ref su, .ref sq, .ref ch, .ref vt, .ref sh]))], ⟨rfl, rfl⟩, by rw [ht]; exact hP.sub [0] rfl, hD.sub [0] (by decide) rfl⟩, hS.F ht⟩) hS.2.2 d_M_pointed_36)

set_option maxHeartbeats 4000000 in
set_option maxRecDepth 100000 in
theorem c_M_based2 {l : Launch} {s0 : State} {b0 : Addr} {D : va_G} {cI cJ cZ : ClassId} {tC tS : Nat} (E : gE l s0 b0 D cI cJ cZ tC tS) (sz : Nat) (m0 : Nat) (rw : Nat) (ry : Nat) (ti : Nat) (po : Nat) (su : Nat) (sq : Nat) (ch : Nat) (vt : Nat) (sh : Nat) (th : Int32) (f1 : Int32) (h : (0 : Int32) < f1) : cx_M l s0 D kl y_M_based b_M_based 2 (some .boolean) ({ frames := 3, cells := 0, slots := 0, locals := 70 } : Room) 0 0 [.ref m0, .int (2 : Int32)] [(m0, .inr (7, [.int th, .int f1, .int (0 : Int32), .ref rw, .int (0 : Int32), .int (0 : Int32), .int (0 : Int32), .ref ry, .int (0 : Int32), .int (0 : Int32), .ref ti, .int (0 : Int32), .int (0 : Int32), .ref po, .ref su, .ref sq, .ref ch, .ref vt, .ref sh]))] sz (fun o9 _ w9 => o9 = .returned (some (.int (0 : Int32))) ∧ w9 = [(m0, .inr (7, [.int (2 : Int32), .int f1, .int (0 : Int32), .ref rw, .int (1 : Int32), .int (0 : Int32), .int (0 : Int32), .ref ry, .int (0 : Int32), .int (0 : Int32), .ref ti, .int (0 : Int32), .int (0 : Int32), .ref po, .ref su, .ref sq, .ref ch, .ref vt, .ref sh]))]) := by
  refine tx_ofW (cc := b_M_based) (maxL := 2) (ret := (some .boolean)) (by decide) rfl ?_
  intro p e s m args below meth c s₁ B hml hT hv
  obtain ⟨rfl, hsz, hP, hD0, hx0⟩ := hv
  have hx := B.exec
  have hb := B.bytes
  have hr := B.returns
  have G := E.2.1
  have hown : s.vm.findClass cn_M = some m.cls := findClass_of_methodNamed B.named
  have hlocks := B.notSynchronized
  have hK := va_K.moved hx0.1.alike E.2.2.1
  subst hsz
  have hA0 := cx_new hD0 hx0.2.1
  have hD := hD0.self (sz := s.heap.size)
  generalize hAe : va_A [(m0, .inr (7, [.int th, .int f1, .int (0 : Int32), .ref rw, .int (0 : Int32), .int (0 : Int32), .int (0 : Int32), .ref ry, .int (0 : Int32), .int (0 : Int32), .ref ti, .int (0 : Int32), .int (0 : Int32), .ref po, .ref su, .ref sq, .ref ch, .ref vt, .ref sh]))] s.heap.size = A at hD hA0 ⊢
  have hA : ∀ q : Nat, s.heap.size ≤ q → A q := fun q h => by rw [← hAe]; exact Or.inr h
  have hS : va_S A s.heap s.heap [] := va_S.rf
  have hl := lv_entry ([.ref m0, .int (2 : Int32)]) (n := 2) (Nat.le_of_ble_eq_true rfl)
  rw [lg_entry_eq]
  generalize (lg_sl ([.ref m0, .int (2 : Int32)]) ++ List.replicate (2 - (lg_sl ([.ref m0, .int (2 : Int32)])).length) Slot.unset).toArray = ls at hl ⊢
  have hl : lv_has ls 2 [(0, .ref m0), (1, .int (2 : Int32))] := hl
  have hP : va_P D kl [(m0, .inr (7, [.int th, .int f1, .int (0 : Int32), .ref rw, .int (0 : Int32), .int (0 : Int32), .int (0 : Int32), .ref ry, .int (0 : Int32), .int (0 : Int32), .ref ti, .int (0 : Int32), .int (0 : Int32), .ref po, .ref su, .ref sq, .ref ch, .ref vt, .ref sh]))] s.heap := hP
  have hml : c.maxLocals = 2 := hml
  refine lv_aload_n hx hb d_M_based_0 rfl (lv_at hl 0 rfl) ?_
  refine lv_iload_n hx hb d_M_based_1 rfl (lv_at hl 1 rfl) ?_
  refine cx_call (D := D) (cl := kl) (ws := _) (wc := [(m0, .inr (7, [.int th, .int f1, .int (0 : Int32), .ref rw, .int (0 : Int32), .int (0 : Int32), .int (0 : Int32), .ref ry, .int (0 : Int32), .int (0 : Int32), .ref ti, .int (0 : Int32), .int (0 : Int32), .ref po, .ref su, .ref sq, .ref ch, .ref vt, .ref sh]))]) (wr := []) (tx_runV (C := cn_M) (b := m0) (As := [.int (2 : Int32)]) (rest := []) hx hb hml hown (c_M_pointed2 E s.heap.size m0 rw ry ti po su sq ch vt sh th f1 h) (cx_C (b0 := b0) G hx0 mw_881 mw_9 ny_M_pointed (by decide)) (gw.at G hx0 mw_878 rfl _) (gw.at G hx0 mw_880 rfl _) (gw.at G hx0 ms_M_pointed rfl _) ⟨cx_blind, va_recv hK hP (q0 := 0) (ci := 7) (q := (cn_M, ft_M, 19)) rfl rfl, (cx_pre (s := s) hx0 hP hD hS hA0 [0] rfl rfl (by decide))⟩ rfl rfl hl.1 rfl (lv_room (Nat.le_of_ble_eq_true rfl)) d_M_based_2 ⟨by decide, by decide⟩) hP hD hS hA [0] [] rfl rfl (by decide) (by decide) (fun v t w1 H locs ht hW9 hp hP hD hS => ?_) (fun x t w1 H locs ht hW9 hp hP hD hS => by obtain ⟨h9, -⟩ := hp; cases h9)
  obtain ⟨h9, rfl⟩ := hp
  cases h9
  refine W.eq (g2 := F0 m 5 ls [.int (0 : Int32)]) rfl ?_
  refine W.widen (k := 0) (n := 0) (by decide) (by decide) ?_
  have hP : va_P D kl [(m0, .inr (7, [.int (2 : Int32), .int f1, .int (0 : Int32), .ref rw, .int (1 : Int32), .int (0 : Int32), .int (0 : Int32), .ref ry, .int (0 : Int32), .int (0 : Int32), .ref ti, .int (0 : Int32), .int (0 : Int32), .ref po, .ref su, .ref sq, .ref ch, .ref vt, .ref sh]))] H := hP
  have hD : va_D A [(m0, .inr (7, [.int (2 : Int32), .int f1, .int (0 : Int32), .ref rw, .int (1 : Int32), .int (0 : Int32), .int (0 : Int32), .ref ry, .int (0 : Int32), .int (0 : Int32), .ref ti, .int (0 : Int32), .int (0 : Int32), .ref po, .ref su, .ref sq, .ref ch, .ref vt, .ref sh]))] := hD
  refine lv_if_ne (tgt := 10) hx hb d_M_based_5 (by decide) (fun h99 => absurd h99 (by decide)) (fun _ => ?_)
  refine lv_iconst (v := (0 : Int32)) hx hb d_M_based_8 (by decide) ?_
  exact tx_mono (fun _ h => tx_Z.of h) (W.zret (v := (0 : Int32)) hx hb hr (by decide) (fun t ht hW => ⟨⟨[(m0, .inr (7, [.int (2 : Int32), .int f1, .int (0 : Int32), .ref rw, .int (1 : Int32), .int (0 : Int32), .int (0 : Int32), .ref ry, .int (0 : Int32), .int (0 : Int32), .ref ti, .int (0 : Int32), .int (0 : Int32), .ref po, .ref su, .ref sq, .ref ch, .ref vt, .ref sh]))], ⟨rfl, rfl⟩, by rw [ht]; exact hP.sub [0] rfl, hD.sub [0] (by decide) rfl⟩, hS.F ht⟩) hS.2.2 d_M_based_9)

set_option maxHeartbeats 4000000 in
set_option maxRecDepth 100000 in
theorem c_M_rays0 {l : Launch} {s0 : State} {b0 : Addr} {D : va_G} {cI cJ cZ : ClassId} {tC tS : Nat} (E : gE l s0 b0 D cI cJ cZ tC tS) (sz : Nat) (m0 : Nat) (rw : Nat) (ry : Nat) (ti : Nat) (po : Nat) (su : Nat) (sq : Nat) (ch : Nat) (vt : Nat) (sh : Nat) (th : Int32) (f1 : Int32) (h : (0 : Int32) < f1) : cx_M l s0 D kl y_M_rays b_M_rays 1 (some .int) ({ frames := 3, cells := 0, slots := 0, locals := 70 } : Room) 0 0 [.ref m0] [(m0, .inr (7, [.int th, .int f1, .int (0 : Int32), .ref rw, .int (0 : Int32), .int (0 : Int32), .int (0 : Int32), .ref ry, .int (0 : Int32), .int (0 : Int32), .ref ti, .int (0 : Int32), .int (0 : Int32), .ref po, .ref su, .ref sq, .ref ch, .ref vt, .ref sh]))] sz (fun o9 _ w9 => o9 = .returned (some (.int (0 : Int32))) ∧ w9 = [(m0, .inr (7, [.int (1 : Int32), .int f1, .int (0 : Int32), .ref rw, .int (1 : Int32), .int (0 : Int32), .int (0 : Int32), .ref ry, .int (0 : Int32), .int (0 : Int32), .ref ti, .int (0 : Int32), .int (0 : Int32), .ref po, .ref su, .ref sq, .ref ch, .ref vt, .ref sh]))]) := by
  refine tx_ofW (cc := b_M_rays) (maxL := 1) (ret := (some .int)) (by decide) rfl ?_
  intro p e s m args below meth c s₁ B hml hT hv
  obtain ⟨rfl, hsz, hP, hD0, hx0⟩ := hv
  have hx := B.exec
  have hb := B.bytes
  have hr := B.returns
  have G := E.2.1
  have hown : s.vm.findClass cn_M = some m.cls := findClass_of_methodNamed B.named
  have hlocks := B.notSynchronized
  have hK := va_K.moved hx0.1.alike E.2.2.1
  subst hsz
  have hA0 := cx_new hD0 hx0.2.1
  have hD := hD0.self (sz := s.heap.size)
  generalize hAe : va_A [(m0, .inr (7, [.int th, .int f1, .int (0 : Int32), .ref rw, .int (0 : Int32), .int (0 : Int32), .int (0 : Int32), .ref ry, .int (0 : Int32), .int (0 : Int32), .ref ti, .int (0 : Int32), .int (0 : Int32), .ref po, .ref su, .ref sq, .ref ch, .ref vt, .ref sh]))] s.heap.size = A at hD hA0 ⊢
  have hA : ∀ q : Nat, s.heap.size ≤ q → A q := fun q h => by rw [← hAe]; exact Or.inr h
  have hS : va_S A s.heap s.heap [] := va_S.rf
  have hl := lv_entry ([.ref m0]) (n := 1) (Nat.le_of_ble_eq_true rfl)
  rw [lg_entry_eq]
  generalize (lg_sl ([.ref m0]) ++ List.replicate (1 - (lg_sl ([.ref m0])).length) Slot.unset).toArray = ls at hl ⊢
  have hl : lv_has ls 1 [(0, .ref m0)] := hl
  have hP : va_P D kl [(m0, .inr (7, [.int th, .int f1, .int (0 : Int32), .ref rw, .int (0 : Int32), .int (0 : Int32), .int (0 : Int32), .ref ry, .int (0 : Int32), .int (0 : Int32), .ref ti, .int (0 : Int32), .int (0 : Int32), .ref po, .ref su, .ref sq, .ref ch, .ref vt, .ref sh]))] s.heap := hP
  have hml : c.maxLocals = 1 := hml
  refine lv_aload_n hx hb d_M_rays_0 rfl (lv_at hl 0 rfl) ?_
  refine lv_iconst (v := (1 : Int32)) hx hb d_M_rays_1 (by decide) ?_
  refine cx_call (D := D) (cl := kl) (ws := _) (wc := [(m0, .inr (7, [.int th, .int f1, .int (0 : Int32), .ref rw, .int (0 : Int32), .int (0 : Int32), .int (0 : Int32), .ref ry, .int (0 : Int32), .int (0 : Int32), .ref ti, .int (0 : Int32), .int (0 : Int32), .ref po, .ref su, .ref sq, .ref ch, .ref vt, .ref sh]))]) (wr := []) (tx_runV (C := cn_M) (b := m0) (As := [.int (1 : Int32)]) (rest := []) hx hb hml hown (c_M_pointed1 E s.heap.size m0 rw ry ti po su sq ch vt sh th f1 h) (cx_C (b0 := b0) G hx0 mw_881 mw_9 ny_M_pointed (by decide)) (gw.at G hx0 mw_878 rfl _) (gw.at G hx0 mw_880 rfl _) (gw.at G hx0 ms_M_pointed rfl _) ⟨cx_blind, va_recv hK hP (q0 := 0) (ci := 7) (q := (cn_M, ft_M, 19)) rfl rfl, (cx_pre (s := s) hx0 hP hD hS hA0 [0] rfl rfl (by decide))⟩ rfl rfl hl.1 rfl (lv_room (Nat.le_of_ble_eq_true rfl)) d_M_rays_2 ⟨by decide, by decide⟩) hP hD hS hA [0] [] rfl rfl (by decide) (by decide) (fun v t w1 H locs ht hW9 hp hP hD hS => ?_) (fun x t w1 H locs ht hW9 hp hP hD hS => by obtain ⟨h9, -⟩ := hp; cases h9)
  obtain ⟨h9, rfl⟩ := hp
  cases h9
  refine W.eq (g2 := F0 m 5 ls [.int (0 : Int32)]) rfl ?_
  refine W.widen (k := 0) (n := 0) (by decide) (by decide) ?_
  have hP : va_P D kl [(m0, .inr (7, [.int (1 : Int32), .int f1, .int (0 : Int32), .ref rw, .int (1 : Int32), .int (0 : Int32), .int (0 : Int32), .ref ry, .int (0 : Int32), .int (0 : Int32), .ref ti, .int (0 : Int32), .int (0 : Int32), .ref po, .ref su, .ref sq, .ref ch, .ref vt, .ref sh]))] H := hP
  have hD : va_D A [(m0, .inr (7, [.int (1 : Int32), .int f1, .int (0 : Int32), .ref rw, .int (1 : Int32), .int (0 : Int32), .int (0 : Int32), .ref ry, .int (0 : Int32), .int (0 : Int32), .ref ti, .int (0 : Int32), .int (0 : Int32), .ref po, .ref su, .ref sq, .ref ch, .ref vt, .ref sh]))] := hD
  refine lv_if_eq (tgt := 15) hx hb d_M_rays_5 (by decide) (fun _ => ?_) (fun h99 => absurd h99 (by decide))
  refine lv_iconst (v := (0 : Int32)) hx hb d_M_rays_15 (by decide) ?_
  exact tx_mono (fun _ h => tx_Z.of h) (W.iret (v := (0 : Int32)) hx hb hr (fun t ht hW => ⟨⟨[(m0, .inr (7, [.int (1 : Int32), .int f1, .int (0 : Int32), .ref rw, .int (1 : Int32), .int (0 : Int32), .int (0 : Int32), .ref ry, .int (0 : Int32), .int (0 : Int32), .ref ti, .int (0 : Int32), .int (0 : Int32), .ref po, .ref su, .ref sq, .ref ch, .ref vt, .ref sh]))], ⟨rfl, rfl⟩, by rw [ht]; exact hP.sub [0] rfl, hD.sub [0] (by decide) rfl⟩, hS.F ht⟩) hS.2.2 d_M_rays_16)

set_option maxHeartbeats 4000000 in
set_option maxRecDepth 100000 in
theorem c_M_ray0 {l : Launch} {s0 : State} {b0 : Addr} {D : va_G} {cI cJ cZ : ClassId} {tC tS : Nat} (E : gE l s0 b0 D cI cJ cZ tC tS) (sz : Nat) (m0 : Nat) (rw : Nat) (ry : Nat) (ti : Nat) (po : Nat) (su : Nat) (sq : Nat) (ch : Nat) (vt : Nat) (sh : Nat) (th : Int32) (f1 : Int32) (w0 : Int32) (w1 : Int32) (h : (0 : Int32) < f1) : cx_M l s0 D kl y_M_ray b_M_ray 3 (some .int) ({ frames := 3, cells := 0, slots := 0, locals := 70 } : Room) 0 0 [.ref m0, .int w0, .int w1] [(m0, .inr (7, [.int th, .int f1, .int (0 : Int32), .ref rw, .int (0 : Int32), .int (0 : Int32), .int (0 : Int32), .ref ry, .int (0 : Int32), .int (0 : Int32), .ref ti, .int (0 : Int32), .int (0 : Int32), .ref po, .ref su, .ref sq, .ref ch, .ref vt, .ref sh]))] sz (fun o9 _ w9 => o9 = .returned (some (.int (0 : Int32))) ∧ w9 = [(m0, .inr (7, [.int (1 : Int32), .int f1, .int (0 : Int32), .ref rw, .int (1 : Int32), .int (0 : Int32), .int (0 : Int32), .ref ry, .int (0 : Int32), .int (0 : Int32), .ref ti, .int (0 : Int32), .int (0 : Int32), .ref po, .ref su, .ref sq, .ref ch, .ref vt, .ref sh]))]) := by
  refine tx_ofW (cc := b_M_ray) (maxL := 3) (ret := (some .int)) (by decide) rfl ?_
  intro p e s m args below meth c s₁ B hml hT hv
  obtain ⟨rfl, hsz, hP, hD0, hx0⟩ := hv
  have hx := B.exec
  have hb := B.bytes
  have hr := B.returns
  have G := E.2.1
  have hown : s.vm.findClass cn_M = some m.cls := findClass_of_methodNamed B.named
  have hlocks := B.notSynchronized
  have hK := va_K.moved hx0.1.alike E.2.2.1
  subst hsz
  have hA0 := cx_new hD0 hx0.2.1
  have hD := hD0.self (sz := s.heap.size)
  generalize hAe : va_A [(m0, .inr (7, [.int th, .int f1, .int (0 : Int32), .ref rw, .int (0 : Int32), .int (0 : Int32), .int (0 : Int32), .ref ry, .int (0 : Int32), .int (0 : Int32), .ref ti, .int (0 : Int32), .int (0 : Int32), .ref po, .ref su, .ref sq, .ref ch, .ref vt, .ref sh]))] s.heap.size = A at hD hA0 ⊢
  have hA : ∀ q : Nat, s.heap.size ≤ q → A q := fun q h => by rw [← hAe]; exact Or.inr h
  have hS : va_S A s.heap s.heap [] := va_S.rf
  have hl := lv_entry ([.ref m0, .int w0, .int w1]) (n := 3) (Nat.le_of_ble_eq_true rfl)
  rw [lg_entry_eq]
  generalize (lg_sl ([.ref m0, .int w0, .int w1]) ++ List.replicate (3 - (lg_sl ([.ref m0, .int w0, .int w1])).length) Slot.unset).toArray = ls at hl ⊢
  have hl : lv_has ls 3 [(0, .ref m0), (1, .int w0), (2, .int w1)] := hl
  have hP : va_P D kl [(m0, .inr (7, [.int th, .int f1, .int (0 : Int32), .ref rw, .int (0 : Int32), .int (0 : Int32), .int (0 : Int32), .ref ry, .int (0 : Int32), .int (0 : Int32), .ref ti, .int (0 : Int32), .int (0 : Int32), .ref po, .ref su, .ref sq, .ref ch, .ref vt, .ref sh]))] s.heap := hP
  have hml : c.maxLocals = 3 := hml
  refine lv_aload_n hx hb d_M_ray_0 rfl (lv_at hl 0 rfl) ?_
  refine lv_iconst (v := (1 : Int32)) hx hb d_M_ray_1 (by decide) ?_
  refine cx_call (D := D) (cl := kl) (ws := _) (wc := [(m0, .inr (7, [.int th, .int f1, .int (0 : Int32), .ref rw, .int (0 : Int32), .int (0 : Int32), .int (0 : Int32), .ref ry, .int (0 : Int32), .int (0 : Int32), .ref ti, .int (0 : Int32), .int (0 : Int32), .ref po, .ref su, .ref sq, .ref ch, .ref vt, .ref sh]))]) (wr := []) (tx_runV (C := cn_M) (b := m0) (As := [.int (1 : Int32)]) (rest := []) hx hb hml hown (c_M_pointed1 E s.heap.size m0 rw ry ti po su sq ch vt sh th f1 h) (cx_C (b0 := b0) G hx0 mw_881 mw_9 ny_M_pointed (by decide)) (gw.at G hx0 mw_878 rfl _) (gw.at G hx0 mw_880 rfl _) (gw.at G hx0 ms_M_pointed rfl _) ⟨cx_blind, va_recv hK hP (q0 := 0) (ci := 7) (q := (cn_M, ft_M, 19)) rfl rfl, (cx_pre (s := s) hx0 hP hD hS hA0 [0] rfl rfl (by decide))⟩ rfl rfl hl.1 rfl (lv_room (Nat.le_of_ble_eq_true rfl)) d_M_ray_2 ⟨by decide, by decide⟩) hP hD hS hA [0] [] rfl rfl (by decide) (by decide) (fun v t w1 H locs ht hW9 hp hP hD hS => ?_) (fun x t w1 H locs ht hW9 hp hP hD hS => by obtain ⟨h9, -⟩ := hp; cases h9)
  obtain ⟨h9, rfl⟩ := hp
  cases h9
  refine W.eq (g2 := F0 m 5 ls [.int (0 : Int32)]) rfl ?_
  refine W.widen (k := 0) (n := 0) (by decide) (by decide) ?_
  have hP : va_P D kl [(m0, .inr (7, [.int (1 : Int32), .int f1, .int (0 : Int32), .ref rw, .int (1 : Int32), .int (0 : Int32), .int (0 : Int32), .ref ry, .int (0 : Int32), .int (0 : Int32), .ref ti, .int (0 : Int32), .int (0 : Int32), .ref po, .ref su, .ref sq, .ref ch, .ref vt, .ref sh]))] H := hP
  have hD : va_D A [(m0, .inr (7, [.int (1 : Int32), .int f1, .int (0 : Int32), .ref rw, .int (1 : Int32), .int (0 : Int32), .int (0 : Int32), .ref ry, .int (0 : Int32), .int (0 : Int32), .ref ti, .int (0 : Int32), .int (0 : Int32), .ref po, .ref su, .ref sq, .ref ch, .ref vt, .ref sh]))] := hD
  refine lv_if_ne (tgt := 10) hx hb d_M_ray_5 (by decide) (fun h99 => absurd h99 (by decide)) (fun _ => ?_)
  refine lv_iconst (v := (0 : Int32)) hx hb d_M_ray_8 (by decide) ?_
  exact tx_mono (fun _ h => tx_Z.of h) (W.iret (v := (0 : Int32)) hx hb hr (fun t ht hW => ⟨⟨[(m0, .inr (7, [.int (1 : Int32), .int f1, .int (0 : Int32), .ref rw, .int (1 : Int32), .int (0 : Int32), .int (0 : Int32), .ref ry, .int (0 : Int32), .int (0 : Int32), .ref ti, .int (0 : Int32), .int (0 : Int32), .ref po, .ref su, .ref sq, .ref ch, .ref vt, .ref sh]))], ⟨rfl, rfl⟩, by rw [ht]; exact hP.sub [0] rfl, hD.sub [0] (by decide) rfl⟩, hS.F ht⟩) hS.2.2 d_M_ray_9)

set_option maxHeartbeats 4000000 in
set_option maxRecDepth 100000 in
theorem c_M_size0 {l : Launch} {s0 : State} {b0 : Addr} {D : va_G} {cI cJ cZ : ClassId} {tC tS : Nat} (E : gE l s0 b0 D cI cJ cZ tC tS) (sz : Nat) (m0 : Nat) (rw : Nat) (ry : Nat) (ti : Nat) (po : Nat) (su : Nat) (sq : Nat) (ch : Nat) (vt : Nat) (sh : Nat) (th : Int32) (f1 : Int32) (h : (0 : Int32) < f1) : cx_M l s0 D kl y_M_size b_M_size 1 (some .int) ({ frames := 3, cells := 0, slots := 0, locals := 70 } : Room) 0 0 [.ref m0] [(m0, .inr (7, [.int th, .int f1, .int (0 : Int32), .ref rw, .int (0 : Int32), .int (0 : Int32), .int (0 : Int32), .ref ry, .int (0 : Int32), .int (0 : Int32), .ref ti, .int (0 : Int32), .int (0 : Int32), .ref po, .ref su, .ref sq, .ref ch, .ref vt, .ref sh]))] sz (fun o9 _ w9 => o9 = .returned (some (.int (0 : Int32))) ∧ w9 = [(m0, .inr (7, [.int (1 : Int32), .int f1, .int (0 : Int32), .ref rw, .int (1 : Int32), .int (0 : Int32), .int (0 : Int32), .ref ry, .int (0 : Int32), .int (0 : Int32), .ref ti, .int (0 : Int32), .int (0 : Int32), .ref po, .ref su, .ref sq, .ref ch, .ref vt, .ref sh]))]) := by
  refine tx_ofW (cc := b_M_size) (maxL := 1) (ret := (some .int)) (by decide) rfl ?_
  intro p e s m args below meth c s₁ B hml hT hv
  obtain ⟨rfl, hsz, hP, hD0, hx0⟩ := hv
  have hx := B.exec
  have hb := B.bytes
  have hr := B.returns
  have G := E.2.1
  have hown : s.vm.findClass cn_M = some m.cls := findClass_of_methodNamed B.named
  have hlocks := B.notSynchronized
  have hK := va_K.moved hx0.1.alike E.2.2.1
  subst hsz
  have hA0 := cx_new hD0 hx0.2.1
  have hD := hD0.self (sz := s.heap.size)
  generalize hAe : va_A [(m0, .inr (7, [.int th, .int f1, .int (0 : Int32), .ref rw, .int (0 : Int32), .int (0 : Int32), .int (0 : Int32), .ref ry, .int (0 : Int32), .int (0 : Int32), .ref ti, .int (0 : Int32), .int (0 : Int32), .ref po, .ref su, .ref sq, .ref ch, .ref vt, .ref sh]))] s.heap.size = A at hD hA0 ⊢
  have hA : ∀ q : Nat, s.heap.size ≤ q → A q := fun q h => by rw [← hAe]; exact Or.inr h
  have hS : va_S A s.heap s.heap [] := va_S.rf
  have hl := lv_entry ([.ref m0]) (n := 1) (Nat.le_of_ble_eq_true rfl)
  rw [lg_entry_eq]
  generalize (lg_sl ([.ref m0]) ++ List.replicate (1 - (lg_sl ([.ref m0])).length) Slot.unset).toArray = ls at hl ⊢
  have hl : lv_has ls 1 [(0, .ref m0)] := hl
  have hP : va_P D kl [(m0, .inr (7, [.int th, .int f1, .int (0 : Int32), .ref rw, .int (0 : Int32), .int (0 : Int32), .int (0 : Int32), .ref ry, .int (0 : Int32), .int (0 : Int32), .ref ti, .int (0 : Int32), .int (0 : Int32), .ref po, .ref su, .ref sq, .ref ch, .ref vt, .ref sh]))] s.heap := hP
  have hml : c.maxLocals = 1 := hml
  refine lv_aload_n hx hb d_M_size_0 rfl (lv_at hl 0 rfl) ?_
  refine lv_iconst (v := (1 : Int32)) hx hb d_M_size_1 (by decide) ?_
  refine cx_call (D := D) (cl := kl) (ws := _) (wc := [(m0, .inr (7, [.int th, .int f1, .int (0 : Int32), .ref rw, .int (0 : Int32), .int (0 : Int32), .int (0 : Int32), .ref ry, .int (0 : Int32), .int (0 : Int32), .ref ti, .int (0 : Int32), .int (0 : Int32), .ref po, .ref su, .ref sq, .ref ch, .ref vt, .ref sh]))]) (wr := []) (tx_runV (C := cn_M) (b := m0) (As := [.int (1 : Int32)]) (rest := []) hx hb hml hown (c_M_pointed1 E s.heap.size m0 rw ry ti po su sq ch vt sh th f1 h) (cx_C (b0 := b0) G hx0 mw_881 mw_9 ny_M_pointed (by decide)) (gw.at G hx0 mw_878 rfl _) (gw.at G hx0 mw_880 rfl _) (gw.at G hx0 ms_M_pointed rfl _) ⟨cx_blind, va_recv hK hP (q0 := 0) (ci := 7) (q := (cn_M, ft_M, 19)) rfl rfl, (cx_pre (s := s) hx0 hP hD hS hA0 [0] rfl rfl (by decide))⟩ rfl rfl hl.1 rfl (lv_room (Nat.le_of_ble_eq_true rfl)) d_M_size_2 ⟨by decide, by decide⟩) hP hD hS hA [0] [] rfl rfl (by decide) (by decide) (fun v t w1 H locs ht hW9 hp hP hD hS => ?_) (fun x t w1 H locs ht hW9 hp hP hD hS => by obtain ⟨h9, -⟩ := hp; cases h9)
  obtain ⟨h9, rfl⟩ := hp
  cases h9
  refine W.eq (g2 := F0 m 5 ls [.int (0 : Int32)]) rfl ?_
  refine W.widen (k := 0) (n := 0) (by decide) (by decide) ?_
  have hP : va_P D kl [(m0, .inr (7, [.int (1 : Int32), .int f1, .int (0 : Int32), .ref rw, .int (1 : Int32), .int (0 : Int32), .int (0 : Int32), .ref ry, .int (0 : Int32), .int (0 : Int32), .ref ti, .int (0 : Int32), .int (0 : Int32), .ref po, .ref su, .ref sq, .ref ch, .ref vt, .ref sh]))] H := hP
  have hD : va_D A [(m0, .inr (7, [.int (1 : Int32), .int f1, .int (0 : Int32), .ref rw, .int (1 : Int32), .int (0 : Int32), .int (0 : Int32), .ref ry, .int (0 : Int32), .int (0 : Int32), .ref ti, .int (0 : Int32), .int (0 : Int32), .ref po, .ref su, .ref sq, .ref ch, .ref vt, .ref sh]))] := hD
  refine lv_if_eq (tgt := 15) hx hb d_M_size_5 (by decide) (fun _ => ?_) (fun h99 => absurd h99 (by decide))
  refine lv_iconst (v := (0 : Int32)) hx hb d_M_size_15 (by decide) ?_
  exact tx_mono (fun _ h => tx_Z.of h) (W.iret (v := (0 : Int32)) hx hb hr (fun t ht hW => ⟨⟨[(m0, .inr (7, [.int (1 : Int32), .int f1, .int (0 : Int32), .ref rw, .int (1 : Int32), .int (0 : Int32), .int (0 : Int32), .ref ry, .int (0 : Int32), .int (0 : Int32), .ref ti, .int (0 : Int32), .int (0 : Int32), .ref po, .ref su, .ref sq, .ref ch, .ref vt, .ref sh]))], ⟨rfl, rfl⟩, by rw [ht]; exact hP.sub [0] rfl, hD.sub [0] (by decide) rfl⟩, hS.F ht⟩) hS.2.2 d_M_size_16)

set_option maxHeartbeats 4000000 in
set_option maxRecDepth 100000 in
theorem c_M_bounds0 {l : Launch} {s0 : State} {b0 : Addr} {D : va_G} {cI cJ cZ : ClassId} {tC tS : Nat} (E : gE l s0 b0 D cI cJ cZ tC tS) (sz : Nat) (m0 : Nat) (rw : Nat) (ry : Nat) (ti : Nat) (po : Nat) (su : Nat) (sq : Nat) (ch : Nat) (vt : Nat) (sh : Nat) (th : Int32) (f1 : Int32) (w0 : Int32) (h : (0 : Int32) < f1) : cx_M l s0 D kl y_M_bounds b_M_bounds 4 (some .boolean) ({ frames := 3, cells := 0, slots := 0, locals := 70 } : Room) 0 0 [.ref m0, .int w0] [(m0, .inr (7, [.int th, .int f1, .int (0 : Int32), .ref rw, .int (0 : Int32), .int (0 : Int32), .int (0 : Int32), .ref ry, .int (0 : Int32), .int (0 : Int32), .ref ti, .int (0 : Int32), .int (0 : Int32), .ref po, .ref su, .ref sq, .ref ch, .ref vt, .ref sh]))] sz (fun o9 _ w9 => o9 = .returned (some (.int (0 : Int32))) ∧ w9 = [(m0, .inr (7, [.int (1 : Int32), .int f1, .int (0 : Int32), .ref rw, .int (1 : Int32), .int (0 : Int32), .int (0 : Int32), .ref ry, .int (0 : Int32), .int (0 : Int32), .ref ti, .int (0 : Int32), .int (0 : Int32), .ref po, .ref su, .ref sq, .ref ch, .ref vt, .ref sh]))]) := by
  refine tx_ofW (cc := b_M_bounds) (maxL := 4) (ret := (some .boolean)) (by decide) rfl ?_
  intro p e s m args below meth c s₁ B hml hT hv
  obtain ⟨rfl, hsz, hP, hD0, hx0⟩ := hv
  have hx := B.exec
  have hb := B.bytes
  have hr := B.returns
  have G := E.2.1
  have hown : s.vm.findClass cn_M = some m.cls := findClass_of_methodNamed B.named
  have hlocks := B.notSynchronized
  have hK := va_K.moved hx0.1.alike E.2.2.1
  subst hsz
  have hA0 := cx_new hD0 hx0.2.1
  have hD := hD0.self (sz := s.heap.size)
  generalize hAe : va_A [(m0, .inr (7, [.int th, .int f1, .int (0 : Int32), .ref rw, .int (0 : Int32), .int (0 : Int32), .int (0 : Int32), .ref ry, .int (0 : Int32), .int (0 : Int32), .ref ti, .int (0 : Int32), .int (0 : Int32), .ref po, .ref su, .ref sq, .ref ch, .ref vt, .ref sh]))] s.heap.size = A at hD hA0 ⊢
  have hA : ∀ q : Nat, s.heap.size ≤ q → A q := fun q h => by rw [← hAe]; exact Or.inr h
  have hS : va_S A s.heap s.heap [] := va_S.rf
  have hl := lv_entry ([.ref m0, .int w0]) (n := 4) (Nat.le_of_ble_eq_true rfl)
  rw [lg_entry_eq]
  generalize (lg_sl ([.ref m0, .int w0]) ++ List.replicate (4 - (lg_sl ([.ref m0, .int w0])).length) Slot.unset).toArray = ls at hl ⊢
  have hl : lv_has ls 4 [(0, .ref m0), (1, .int w0)] := hl
  have hP : va_P D kl [(m0, .inr (7, [.int th, .int f1, .int (0 : Int32), .ref rw, .int (0 : Int32), .int (0 : Int32), .int (0 : Int32), .ref ry, .int (0 : Int32), .int (0 : Int32), .ref ti, .int (0 : Int32), .int (0 : Int32), .ref po, .ref su, .ref sq, .ref ch, .ref vt, .ref sh]))] s.heap := hP
  have hml : c.maxLocals = 4 := hml
  refine lv_aload_n hx hb d_M_bounds_0 rfl (lv_at hl 0 rfl) ?_
  refine lv_iconst (v := (1 : Int32)) hx hb d_M_bounds_1 (by decide) ?_
  refine cx_call (D := D) (cl := kl) (ws := _) (wc := [(m0, .inr (7, [.int th, .int f1, .int (0 : Int32), .ref rw, .int (0 : Int32), .int (0 : Int32), .int (0 : Int32), .ref ry, .int (0 : Int32), .int (0 : Int32), .ref ti, .int (0 : Int32), .int (0 : Int32), .ref po, .ref su, .ref sq, .ref ch, .ref vt, .ref sh]))]) (wr := []) (tx_runV (C := cn_M) (b := m0) (As := [.int (1 : Int32)]) (rest := []) hx hb hml hown (c_M_pointed1 E s.heap.size m0 rw ry ti po su sq ch vt sh th f1 h) (cx_C (b0 := b0) G hx0 mw_881 mw_9 ny_M_pointed (by decide)) (gw.at G hx0 mw_878 rfl _) (gw.at G hx0 mw_880 rfl _) (gw.at G hx0 ms_M_pointed rfl _) ⟨cx_blind, va_recv hK hP (q0 := 0) (ci := 7) (q := (cn_M, ft_M, 19)) rfl rfl, (cx_pre (s := s) hx0 hP hD hS hA0 [0] rfl rfl (by decide))⟩ rfl rfl hl.1 rfl (lv_room (Nat.le_of_ble_eq_true rfl)) d_M_bounds_2 ⟨by decide, by decide⟩) hP hD hS hA [0] [] rfl rfl (by decide) (by decide) (fun v t w1 H locs ht hW9 hp hP hD hS => ?_) (fun x t w1 H locs ht hW9 hp hP hD hS => by obtain ⟨h9, -⟩ := hp; cases h9)
  obtain ⟨h9, rfl⟩ := hp
  cases h9
  refine W.eq (g2 := F0 m 5 ls [.int (0 : Int32)]) rfl ?_
  refine W.widen (k := 0) (n := 0) (by decide) (by decide) ?_
  have hP : va_P D kl [(m0, .inr (7, [.int (1 : Int32), .int f1, .int (0 : Int32), .ref rw, .int (1 : Int32), .int (0 : Int32), .int (0 : Int32), .ref ry, .int (0 : Int32), .int (0 : Int32), .ref ti, .int (0 : Int32), .int (0 : Int32), .ref po, .ref su, .ref sq, .ref ch, .ref vt, .ref sh]))] H := hP
  have hD : va_D A [(m0, .inr (7, [.int (1 : Int32), .int f1, .int (0 : Int32), .ref rw, .int (1 : Int32), .int (0 : Int32), .int (0 : Int32), .ref ry, .int (0 : Int32), .int (0 : Int32), .ref ti, .int (0 : Int32), .int (0 : Int32), .ref po, .ref su, .ref sq, .ref ch, .ref vt, .ref sh]))] := hD
  refine lv_if_ne (tgt := 10) hx hb d_M_bounds_5 (by decide) (fun h99 => absurd h99 (by decide)) (fun _ => ?_)
  refine lv_iconst (v := (0 : Int32)) hx hb d_M_bounds_8 (by decide) ?_
  exact tx_mono (fun _ h => tx_Z.of h) (W.zret (v := (0 : Int32)) hx hb hr (by decide) (fun t ht hW => ⟨⟨[(m0, .inr (7, [.int (1 : Int32), .int f1, .int (0 : Int32), .ref rw, .int (1 : Int32), .int (0 : Int32), .int (0 : Int32), .ref ry, .int (0 : Int32), .int (0 : Int32), .ref ti, .int (0 : Int32), .int (0 : Int32), .ref po, .ref su, .ref sq, .ref ch, .ref vt, .ref sh]))], ⟨rfl, rfl⟩, by rw [ht]; exact hP.sub [0] rfl, hD.sub [0] (by decide) rfl⟩, hS.F ht⟩) hS.2.2 d_M_bounds_9)

set_option maxHeartbeats 4000000 in
set_option maxRecDepth 100000 in
theorem c_M_faces0 {l : Launch} {s0 : State} {b0 : Addr} {D : va_G} {cI cJ cZ : ClassId} {tC tS : Nat} (E : gE l s0 b0 D cI cJ cZ tC tS) (sz : Nat) (m0 : Nat) (rw : Nat) (ry : Nat) (ti : Nat) (po : Nat) (su : Nat) (sq : Nat) (ch : Nat) (vt : Nat) (sh : Nat) (th : Int32) (f1 : Int32) (w0 : Int32) (h : (0 : Int32) < f1) : cx_M l s0 D kl y_M_faces b_M_faces 4 (some .int) ({ frames := 3, cells := 0, slots := 0, locals := 70 } : Room) 0 0 [.ref m0, .int w0] [(m0, .inr (7, [.int th, .int f1, .int (0 : Int32), .ref rw, .int (0 : Int32), .int (0 : Int32), .int (0 : Int32), .ref ry, .int (0 : Int32), .int (0 : Int32), .ref ti, .int (0 : Int32), .int (0 : Int32), .ref po, .ref su, .ref sq, .ref ch, .ref vt, .ref sh]))] sz (fun o9 _ w9 => o9 = .returned (some (.int (0 : Int32))) ∧ w9 = [(m0, .inr (7, [.int (1 : Int32), .int f1, .int (0 : Int32), .ref rw, .int (1 : Int32), .int (0 : Int32), .int (0 : Int32), .ref ry, .int (0 : Int32), .int (0 : Int32), .ref ti, .int (0 : Int32), .int (0 : Int32), .ref po, .ref su, .ref sq, .ref ch, .ref vt, .ref sh]))]) := by
  refine tx_ofW (cc := b_M_faces) (maxL := 4) (ret := (some .int)) (by decide) rfl ?_
  intro p e s m args below meth c s₁ B hml hT hv
  obtain ⟨rfl, hsz, hP, hD0, hx0⟩ := hv
  have hx := B.exec
  have hb := B.bytes
  have hr := B.returns
  have G := E.2.1
  have hown : s.vm.findClass cn_M = some m.cls := findClass_of_methodNamed B.named
  have hlocks := B.notSynchronized
  have hK := va_K.moved hx0.1.alike E.2.2.1
  subst hsz
  have hA0 := cx_new hD0 hx0.2.1
  have hD := hD0.self (sz := s.heap.size)
  generalize hAe : va_A [(m0, .inr (7, [.int th, .int f1, .int (0 : Int32), .ref rw, .int (0 : Int32), .int (0 : Int32), .int (0 : Int32), .ref ry, .int (0 : Int32), .int (0 : Int32), .ref ti, .int (0 : Int32), .int (0 : Int32), .ref po, .ref su, .ref sq, .ref ch, .ref vt, .ref sh]))] s.heap.size = A at hD hA0 ⊢
  have hA : ∀ q : Nat, s.heap.size ≤ q → A q := fun q h => by rw [← hAe]; exact Or.inr h
  have hS : va_S A s.heap s.heap [] := va_S.rf
  have hl := lv_entry ([.ref m0, .int w0]) (n := 4) (Nat.le_of_ble_eq_true rfl)
  rw [lg_entry_eq]
  generalize (lg_sl ([.ref m0, .int w0]) ++ List.replicate (4 - (lg_sl ([.ref m0, .int w0])).length) Slot.unset).toArray = ls at hl ⊢
  have hl : lv_has ls 4 [(0, .ref m0), (1, .int w0)] := hl
  have hP : va_P D kl [(m0, .inr (7, [.int th, .int f1, .int (0 : Int32), .ref rw, .int (0 : Int32), .int (0 : Int32), .int (0 : Int32), .ref ry, .int (0 : Int32), .int (0 : Int32), .ref ti, .int (0 : Int32), .int (0 : Int32), .ref po, .ref su, .ref sq, .ref ch, .ref vt, .ref sh]))] s.heap := hP
  have hml : c.maxLocals = 4 := hml
  refine lv_aload_n hx hb d_M_faces_0 rfl (lv_at hl 0 rfl) ?_
  refine lv_iconst (v := (1 : Int32)) hx hb d_M_faces_1 (by decide) ?_
  refine cx_call (D := D) (cl := kl) (ws := _) (wc := [(m0, .inr (7, [.int th, .int f1, .int (0 : Int32), .ref rw, .int (0 : Int32), .int (0 : Int32), .int (0 : Int32), .ref ry, .int (0 : Int32), .int (0 : Int32), .ref ti, .int (0 : Int32), .int (0 : Int32), .ref po, .ref su, .ref sq, .ref ch, .ref vt, .ref sh]))]) (wr := []) (tx_runV (C := cn_M) (b := m0) (As := [.int (1 : Int32)]) (rest := []) hx hb hml hown (c_M_pointed1 E s.heap.size m0 rw ry ti po su sq ch vt sh th f1 h) (cx_C (b0 := b0) G hx0 mw_881 mw_9 ny_M_pointed (by decide)) (gw.at G hx0 mw_878 rfl _) (gw.at G hx0 mw_880 rfl _) (gw.at G hx0 ms_M_pointed rfl _) ⟨cx_blind, va_recv hK hP (q0 := 0) (ci := 7) (q := (cn_M, ft_M, 19)) rfl rfl, (cx_pre (s := s) hx0 hP hD hS hA0 [0] rfl rfl (by decide))⟩ rfl rfl hl.1 rfl (lv_room (Nat.le_of_ble_eq_true rfl)) d_M_faces_2 ⟨by decide, by decide⟩) hP hD hS hA [0] [] rfl rfl (by decide) (by decide) (fun v t w1 H locs ht hW9 hp hP hD hS => ?_) (fun x t w1 H locs ht hW9 hp hP hD hS => by obtain ⟨h9, -⟩ := hp; cases h9)
  obtain ⟨h9, rfl⟩ := hp
  cases h9
  refine W.eq (g2 := F0 m 5 ls [.int (0 : Int32)]) rfl ?_
  refine W.widen (k := 0) (n := 0) (by decide) (by decide) ?_
  have hP : va_P D kl [(m0, .inr (7, [.int (1 : Int32), .int f1, .int (0 : Int32), .ref rw, .int (1 : Int32), .int (0 : Int32), .int (0 : Int32), .ref ry, .int (0 : Int32), .int (0 : Int32), .ref ti, .int (0 : Int32), .int (0 : Int32), .ref po, .ref su, .ref sq, .ref ch, .ref vt, .ref sh]))] H := hP
  have hD : va_D A [(m0, .inr (7, [.int (1 : Int32), .int f1, .int (0 : Int32), .ref rw, .int (1 : Int32), .int (0 : Int32), .int (0 : Int32), .ref ry, .int (0 : Int32), .int (0 : Int32), .ref ti, .int (0 : Int32), .int (0 : Int32), .ref po, .ref su, .ref sq, .ref ch, .ref vt, .ref sh]))] := hD
  refine lv_if_ne (tgt := 10) hx hb d_M_faces_5 (by decide) (fun h99 => absurd h99 (by decide)) (fun _ => ?_)
  refine lv_iconst (v := (0 : Int32)) hx hb d_M_faces_8 (by decide) ?_
  exact tx_mono (fun _ h => tx_Z.of h) (W.iret (v := (0 : Int32)) hx hb hr (fun t ht hW => ⟨⟨[(m0, .inr (7, [.int (1 : Int32), .int f1, .int (0 : Int32), .ref rw, .int (1 : Int32), .int (0 : Int32), .int (0 : Int32), .ref ry, .int (0 : Int32), .int (0 : Int32), .ref ti, .int (0 : Int32), .int (0 : Int32), .ref po, .ref su, .ref sq, .ref ch, .ref vt, .ref sh]))], ⟨rfl, rfl⟩, by rw [ht]; exact hP.sub [0] rfl, hD.sub [0] (by decide) rfl⟩, hS.F ht⟩) hS.2.2 d_M_faces_9)

set_option maxHeartbeats 4000000 in
set_option maxRecDepth 100000 in
theorem c_M_basis0 {l : Launch} {s0 : State} {b0 : Addr} {D : va_G} {cI cJ cZ : ClassId} {tC tS : Nat} (E : gE l s0 b0 D cI cJ cZ tC tS) (sz : Nat) (m0 : Nat) (rw : Nat) (ry : Nat) (ti : Nat) (po : Nat) (su : Nat) (sq : Nat) (ch : Nat) (vt : Nat) (sh : Nat) (th : Int32) (f1 : Int32) (h : (0 : Int32) < f1) : cx_M l s0 D kl y_M_basis b_M_basis 1 (some .int) ({ frames := 3, cells := 0, slots := 0, locals := 70 } : Room) 0 0 [.ref m0] [(m0, .inr (7, [.int th, .int f1, .int (0 : Int32), .ref rw, .int (0 : Int32), .int (0 : Int32), .int (0 : Int32), .ref ry, .int (0 : Int32), .int (0 : Int32), .ref ti, .int (0 : Int32), .int (0 : Int32), .ref po, .ref su, .ref sq, .ref ch, .ref vt, .ref sh]))] sz (fun o9 _ w9 => o9 = .returned (some (.int (0 : Int32))) ∧ w9 = [(m0, .inr (7, [.int (1 : Int32), .int f1, .int (0 : Int32), .ref rw, .int (1 : Int32), .int (0 : Int32), .int (0 : Int32), .ref ry, .int (0 : Int32), .int (0 : Int32), .ref ti, .int (0 : Int32), .int (0 : Int32), .ref po, .ref su, .ref sq, .ref ch, .ref vt, .ref sh]))]) := by
  refine tx_ofW (cc := b_M_basis) (maxL := 1) (ret := (some .int)) (by decide) rfl ?_
  intro p e s m args below meth c s₁ B hml hT hv
  obtain ⟨rfl, hsz, hP, hD0, hx0⟩ := hv
  have hx := B.exec
  have hb := B.bytes
  have hr := B.returns
  have G := E.2.1
  have hown : s.vm.findClass cn_M = some m.cls := findClass_of_methodNamed B.named
  have hlocks := B.notSynchronized
  have hK := va_K.moved hx0.1.alike E.2.2.1
  subst hsz
  have hA0 := cx_new hD0 hx0.2.1
  have hD := hD0.self (sz := s.heap.size)
  generalize hAe : va_A [(m0, .inr (7, [.int th, .int f1, .int (0 : Int32), .ref rw, .int (0 : Int32), .int (0 : Int32), .int (0 : Int32), .ref ry, .int (0 : Int32), .int (0 : Int32), .ref ti, .int (0 : Int32), .int (0 : Int32), .ref po, .ref su, .ref sq, .ref ch, .ref vt, .ref sh]))] s.heap.size = A at hD hA0 ⊢
  have hA : ∀ q : Nat, s.heap.size ≤ q → A q := fun q h => by rw [← hAe]; exact Or.inr h
  have hS : va_S A s.heap s.heap [] := va_S.rf
  have hl := lv_entry ([.ref m0]) (n := 1) (Nat.le_of_ble_eq_true rfl)
  rw [lg_entry_eq]
  generalize (lg_sl ([.ref m0]) ++ List.replicate (1 - (lg_sl ([.ref m0])).length) Slot.unset).toArray = ls at hl ⊢
  have hl : lv_has ls 1 [(0, .ref m0)] := hl
  have hP : va_P D kl [(m0, .inr (7, [.int th, .int f1, .int (0 : Int32), .ref rw, .int (0 : Int32), .int (0 : Int32), .int (0 : Int32), .ref ry, .int (0 : Int32), .int (0 : Int32), .ref ti, .int (0 : Int32), .int (0 : Int32), .ref po, .ref su, .ref sq, .ref ch, .ref vt, .ref sh]))] s.heap := hP
  have hml : c.maxLocals = 1 := hml
  refine lv_aload_n hx hb d_M_basis_0 rfl (lv_at hl 0 rfl) ?_
  refine lv_iconst (v := (1 : Int32)) hx hb d_M_basis_1 (by decide) ?_
  refine cx_call (D := D) (cl := kl) (ws := _) (wc := [(m0, .inr (7, [.int th, .int f1, .int (0 : Int32), .ref rw, .int (0 : Int32), .int (0 : Int32), .int (0 : Int32), .ref ry, .int (0 : Int32), .int (0 : Int32), .ref ti, .int (0 : Int32), .int (0 : Int32), .ref po, .ref su, .ref sq, .ref ch, .ref vt, .ref sh]))]) (wr := []) (tx_runV (C := cn_M) (b := m0) (As := [.int (1 : Int32)]) (rest := []) hx hb hml hown (c_M_pointed1 E s.heap.size m0 rw ry ti po su sq ch vt sh th f1 h) (cx_C (b0 := b0) G hx0 mw_881 mw_9 ny_M_pointed (by decide)) (gw.at G hx0 mw_878 rfl _) (gw.at G hx0 mw_880 rfl _) (gw.at G hx0 ms_M_pointed rfl _) ⟨cx_blind, va_recv hK hP (q0 := 0) (ci := 7) (q := (cn_M, ft_M, 19)) rfl rfl, (cx_pre (s := s) hx0 hP hD hS hA0 [0] rfl rfl (by decide))⟩ rfl rfl hl.1 rfl (lv_room (Nat.le_of_ble_eq_true rfl)) d_M_basis_2 ⟨by decide, by decide⟩) hP hD hS hA [0] [] rfl rfl (by decide) (by decide) (fun v t w1 H locs ht hW9 hp hP hD hS => ?_) (fun x t w1 H locs ht hW9 hp hP hD hS => by obtain ⟨h9, -⟩ := hp; cases h9)
  obtain ⟨h9, rfl⟩ := hp
  cases h9
  refine W.eq (g2 := F0 m 5 ls [.int (0 : Int32)]) rfl ?_
  refine W.widen (k := 0) (n := 0) (by decide) (by decide) ?_
  have hP : va_P D kl [(m0, .inr (7, [.int (1 : Int32), .int f1, .int (0 : Int32), .ref rw, .int (1 : Int32), .int (0 : Int32), .int (0 : Int32), .ref ry, .int (0 : Int32), .int (0 : Int32), .ref ti, .int (0 : Int32), .int (0 : Int32), .ref po, .ref su, .ref sq, .ref ch, .ref vt, .ref sh]))] H := hP
  have hD : va_D A [(m0, .inr (7, [.int (1 : Int32), .int f1, .int (0 : Int32), .ref rw, .int (1 : Int32), .int (0 : Int32), .int (0 : Int32), .ref ry, .int (0 : Int32), .int (0 : Int32), .ref ti, .int (0 : Int32), .int (0 : Int32), .ref po, .ref su, .ref sq, .ref ch, .ref vt, .ref sh]))] := hD
  refine lv_if_ne (tgt := 10) hx hb d_M_basis_5 (by decide) (fun h99 => absurd h99 (by decide)) (fun _ => ?_)
  refine lv_iconst (v := (0 : Int32)) hx hb d_M_basis_8 (by decide) ?_
  exact tx_mono (fun _ h => tx_Z.of h) (W.iret (v := (0 : Int32)) hx hb hr (fun t ht hW => ⟨⟨[(m0, .inr (7, [.int (1 : Int32), .int f1, .int (0 : Int32), .ref rw, .int (1 : Int32), .int (0 : Int32), .int (0 : Int32), .ref ry, .int (0 : Int32), .int (0 : Int32), .ref ti, .int (0 : Int32), .int (0 : Int32), .ref po, .ref su, .ref sq, .ref ch, .ref vt, .ref sh]))], ⟨rfl, rfl⟩, by rw [ht]; exact hP.sub [0] rfl, hD.sub [0] (by decide) rfl⟩, hS.F ht⟩) hS.2.2 d_M_basis_9)

set_option maxHeartbeats 4000000 in
set_option maxRecDepth 100000 in
theorem c_M_point0 {l : Launch} {s0 : State} {b0 : Addr} {D : va_G} {cI cJ cZ : ClassId} {tC tS : Nat} (E : gE l s0 b0 D cI cJ cZ tC tS) (sz : Nat) (m0 : Nat) (rw : Nat) (ry : Nat) (ti : Nat) (po : Nat) (su : Nat) (sq : Nat) (ch : Nat) (vt : Nat) (sh : Nat) (th : Int32) (f1 : Int32) (w0 : Int32) (w1 : Int32) (h : (0 : Int32) < f1) : cx_M l s0 D kl y_M_point b_M_point 3 (some .int) ({ frames := 4, cells := 0, slots := 0, locals := 91 } : Room) 0 0 [.ref m0, .int w0, .int w1] [(m0, .inr (7, [.int th, .int f1, .int (0 : Int32), .ref rw, .int (0 : Int32), .int (0 : Int32), .int (0 : Int32), .ref ry, .int (0 : Int32), .int (0 : Int32), .ref ti, .int (0 : Int32), .int (0 : Int32), .ref po, .ref su, .ref sq, .ref ch, .ref vt, .ref sh]))] sz (fun o9 _ w9 => o9 = .returned (some (.int (0 : Int32))) ∧ w9 = [(m0, .inr (7, [.int (1 : Int32), .int f1, .int (0 : Int32), .ref rw, .int (1 : Int32), .int (0 : Int32), .int (0 : Int32), .ref ry, .int (0 : Int32), .int (0 : Int32), .ref ti, .int (0 : Int32), .int (0 : Int32), .ref po, .ref su, .ref sq, .ref ch, .ref vt, .ref sh]))]) := by
  refine tx_ofW (cc := b_M_point) (maxL := 3) (ret := (some .int)) (by decide) rfl ?_
  intro p e s m args below meth c s₁ B hml hT hv
  obtain ⟨rfl, hsz, hP, hD0, hx0⟩ := hv
  have hx := B.exec
  have hb := B.bytes
  have hr := B.returns
  have G := E.2.1
  have hown : s.vm.findClass cn_M = some m.cls := findClass_of_methodNamed B.named
  have hlocks := B.notSynchronized
  have hK := va_K.moved hx0.1.alike E.2.2.1
  subst hsz
  have hA0 := cx_new hD0 hx0.2.1
  have hD := hD0.self (sz := s.heap.size)
  generalize hAe : va_A [(m0, .inr (7, [.int th, .int f1, .int (0 : Int32), .ref rw, .int (0 : Int32), .int (0 : Int32), .int (0 : Int32), .ref ry, .int (0 : Int32), .int (0 : Int32), .ref ti, .int (0 : Int32), .int (0 : Int32), .ref po, .ref su, .ref sq, .ref ch, .ref vt, .ref sh]))] s.heap.size = A at hD hA0 ⊢
  have hA : ∀ q : Nat, s.heap.size ≤ q → A q := fun q h => by rw [← hAe]; exact Or.inr h
  have hS : va_S A s.heap s.heap [] := va_S.rf
  have hl := lv_entry ([.ref m0, .int w0, .int w1]) (n := 3) (Nat.le_of_ble_eq_true rfl)
  rw [lg_entry_eq]
  generalize (lg_sl ([.ref m0, .int w0, .int w1]) ++ List.replicate (3 - (lg_sl ([.ref m0, .int w0, .int w1])).length) Slot.unset).toArray = ls at hl ⊢
  have hl : lv_has ls 3 [(0, .ref m0), (1, .int w0), (2, .int w1)] := hl
  have hP : va_P D kl [(m0, .inr (7, [.int th, .int f1, .int (0 : Int32), .ref rw, .int (0 : Int32), .int (0 : Int32), .int (0 : Int32), .ref ry, .int (0 : Int32), .int (0 : Int32), .ref ti, .int (0 : Int32), .int (0 : Int32), .ref po, .ref su, .ref sq, .ref ch, .ref vt, .ref sh]))] s.heap := hP
  have hml : c.maxLocals = 3 := hml
  refine lv_aload_n hx hb d_M_point_0 rfl (lv_at hl 0 rfl) ?_
  refine lv_iconst (v := (1 : Int32)) hx hb d_M_point_1 (by decide) ?_
  refine cx_call (D := D) (cl := kl) (ws := _) (wc := [(m0, .inr (7, [.int th, .int f1, .int (0 : Int32), .ref rw, .int (0 : Int32), .int (0 : Int32), .int (0 : Int32), .ref ry, .int (0 : Int32), .int (0 : Int32), .ref ti, .int (0 : Int32), .int (0 : Int32), .ref po, .ref su, .ref sq, .ref ch, .ref vt, .ref sh]))]) (wr := []) (tx_runV (C := cn_M) (b := m0) (As := [.int (1 : Int32)]) (rest := []) hx hb hml hown (c_M_based1 E s.heap.size m0 rw ry ti po su sq ch vt sh th f1 h) (cx_C (b0 := b0) G hx0 mw_929 mw_9 ny_M_based (by decide)) (gw.at G hx0 mw_926 rfl _) (gw.at G hx0 mw_928 rfl _) (gw.at G hx0 ms_M_based rfl _) ⟨cx_blind, va_recv hK hP (q0 := 0) (ci := 7) (q := (cn_M, ft_M, 19)) rfl rfl, (cx_pre (s := s) hx0 hP hD hS hA0 [0] rfl rfl (by decide))⟩ rfl rfl hl.1 rfl (lv_room (Nat.le_of_ble_eq_true rfl)) d_M_point_2 ⟨by decide, by decide⟩) hP hD hS hA [0] [] rfl rfl (by decide) (by decide) (fun v t w1 H locs ht hW9 hp hP hD hS => ?_) (fun x t w1 H locs ht hW9 hp hP hD hS => by obtain ⟨h9, -⟩ := hp; cases h9)
  obtain ⟨h9, rfl⟩ := hp
  cases h9
  refine W.eq (g2 := F0 m 5 ls [.int (0 : Int32)]) rfl ?_
  refine W.widen (k := 0) (n := 0) (by decide) (by decide) ?_
  have hP : va_P D kl [(m0, .inr (7, [.int (1 : Int32), .int f1, .int (0 : Int32), .ref rw, .int (1 : Int32), .int (0 : Int32), .int (0 : Int32), .ref ry, .int (0 : Int32), .int (0 : Int32), .ref ti, .int (0 : Int32), .int (0 : Int32), .ref po, .ref su, .ref sq, .ref ch, .ref vt, .ref sh]))] H := hP
  have hD : va_D A [(m0, .inr (7, [.int (1 : Int32), .int f1, .int (0 : Int32), .ref rw, .int (1 : Int32), .int (0 : Int32), .int (0 : Int32), .ref ry, .int (0 : Int32), .int (0 : Int32), .ref ti, .int (0 : Int32), .int (0 : Int32), .ref po, .ref su, .ref sq, .ref ch, .ref vt, .ref sh]))] := hD
  refine lv_if_ne (tgt := 10) hx hb d_M_point_5 (by decide) (fun h99 => absurd h99 (by decide)) (fun _ => ?_)
  refine lv_iconst (v := (0 : Int32)) hx hb d_M_point_8 (by decide) ?_
  exact tx_mono (fun _ h => tx_Z.of h) (W.iret (v := (0 : Int32)) hx hb hr (fun t ht hW => ⟨⟨[(m0, .inr (7, [.int (1 : Int32), .int f1, .int (0 : Int32), .ref rw, .int (1 : Int32), .int (0 : Int32), .int (0 : Int32), .ref ry, .int (0 : Int32), .int (0 : Int32), .ref ti, .int (0 : Int32), .int (0 : Int32), .ref po, .ref su, .ref sq, .ref ch, .ref vt, .ref sh]))], ⟨rfl, rfl⟩, by rw [ht]; exact hP.sub [0] rfl, hD.sub [0] (by decide) rfl⟩, hS.F ht⟩) hS.2.2 d_M_point_9)

set_option maxHeartbeats 4000000 in
set_option maxRecDepth 100000 in
theorem c_M_parts0 {l : Launch} {s0 : State} {b0 : Addr} {D : va_G} {cI cJ cZ : ClassId} {tC tS : Nat} (E : gE l s0 b0 D cI cJ cZ tC tS) (sz : Nat) (m0 : Nat) (rw : Nat) (ry : Nat) (ti : Nat) (po : Nat) (su : Nat) (sq : Nat) (ch : Nat) (vt : Nat) (sh : Nat) (th : Int32) (f1 : Int32) (w0 : Int32) (w1 : Int32) (w2 : Int32) (w3 : Int32) (h : (0 : Int32) < f1) : cx_M l s0 D kl y_M_parts b_M_parts 8 (some .int) ({ frames := 4, cells := 0, slots := 0, locals := 91 } : Room) 0 0 [.ref m0, .int w0, .int w1, .int w2, .int w3] [(m0, .inr (7, [.int th, .int f1, .int (0 : Int32), .ref rw, .int (0 : Int32), .int (0 : Int32), .int (0 : Int32), .ref ry, .int (0 : Int32), .int (0 : Int32), .ref ti, .int (0 : Int32), .int (0 : Int32), .ref po, .ref su, .ref sq, .ref ch, .ref vt, .ref sh]))] sz (fun o9 _ w9 => o9 = .returned (some (.int (0 : Int32))) ∧ w9 = [(m0, .inr (7, [.int (1 : Int32), .int f1, .int (0 : Int32), .ref rw, .int (1 : Int32), .int (0 : Int32), .int (0 : Int32), .ref ry, .int (0 : Int32), .int (0 : Int32), .ref ti, .int (0 : Int32), .int (0 : Int32), .ref po, .ref su, .ref sq, .ref ch, .ref vt, .ref sh]))]) := by
  refine tx_ofW (cc := b_M_parts) (maxL := 8) (ret := (some .int)) (by decide) rfl ?_
  intro p e s m args below meth c s₁ B hml hT hv
  obtain ⟨rfl, hsz, hP, hD0, hx0⟩ := hv
  have hx := B.exec
  have hb := B.bytes
  have hr := B.returns
  have G := E.2.1
  have hown : s.vm.findClass cn_M = some m.cls := findClass_of_methodNamed B.named
  have hlocks := B.notSynchronized
  have hK := va_K.moved hx0.1.alike E.2.2.1
  subst hsz
  have hA0 := cx_new hD0 hx0.2.1
  have hD := hD0.self (sz := s.heap.size)
  generalize hAe : va_A [(m0, .inr (7, [.int th, .int f1, .int (0 : Int32), .ref rw, .int (0 : Int32), .int (0 : Int32), .int (0 : Int32), .ref ry, .int (0 : Int32), .int (0 : Int32), .ref ti, .int (0 : Int32), .int (0 : Int32), .ref po, .ref su, .ref sq, .ref ch, .ref vt, .ref sh]))] s.heap.size = A at hD hA0 ⊢
  have hA : ∀ q : Nat, s.heap.size ≤ q → A q := fun q h => by rw [← hAe]; exact Or.inr h
  have hS : va_S A s.heap s.heap [] := va_S.rf
  have hl := lv_entry ([.ref m0, .int w0, .int w1, .int w2, .int w3]) (n := 8) (Nat.le_of_ble_eq_true rfl)
  rw [lg_entry_eq]
  generalize (lg_sl ([.ref m0, .int w0, .int w1, .int w2, .int w3]) ++ List.replicate (8 - (lg_sl ([.ref m0, .int w0, .int w1, .int w2, .int w3])).length) Slot.unset).toArray = ls at hl ⊢
  have hl : lv_has ls 8 [(0, .ref m0), (1, .int w0), (2, .int w1), (3, .int w2), (4, .int w3)] := hl
  have hP : va_P D kl [(m0, .inr (7, [.int th, .int f1, .int (0 : Int32), .ref rw, .int (0 : Int32), .int (0 : Int32), .int (0 : Int32), .ref ry, .int (0 : Int32), .int (0 : Int32), .ref ti, .int (0 : Int32), .int (0 : Int32), .ref po, .ref su, .ref sq, .ref ch, .ref vt, .ref sh]))] s.heap := hP
  have hml : c.maxLocals = 8 := hml
  refine lv_aload_n hx hb d_M_parts_0 rfl (lv_at hl 0 rfl) ?_
  refine lv_iconst (v := (1 : Int32)) hx hb d_M_parts_1 (by decide) ?_
  refine cx_call (D := D) (cl := kl) (ws := _) (wc := [(m0, .inr (7, [.int th, .int f1, .int (0 : Int32), .ref rw, .int (0 : Int32), .int (0 : Int32), .int (0 : Int32), .ref ry, .int (0 : Int32), .int (0 : Int32), .ref ti, .int (0 : Int32), .int (0 : Int32), .ref po, .ref su, .ref sq, .ref ch, .ref vt, .ref sh]))]) (wr := []) (tx_runV (C := cn_M) (b := m0) (As := [.int (1 : Int32)]) (rest := []) hx hb hml hown (c_M_based1 E s.heap.size m0 rw ry ti po su sq ch vt sh th f1 h) (cx_C (b0 := b0) G hx0 mw_929 mw_9 ny_M_based (by decide)) (gw.at G hx0 mw_926 rfl _) (gw.at G hx0 mw_928 rfl _) (gw.at G hx0 ms_M_based rfl _) ⟨cx_blind, va_recv hK hP (q0 := 0) (ci := 7) (q := (cn_M, ft_M, 19)) rfl rfl, (cx_pre (s := s) hx0 hP hD hS hA0 [0] rfl rfl (by decide))⟩ rfl rfl hl.1 rfl (lv_room (Nat.le_of_ble_eq_true rfl)) d_M_parts_2 ⟨by decide, by decide⟩) hP hD hS hA [0] [] rfl rfl (by decide) (by decide) (fun v t w1 H locs ht hW9 hp hP hD hS => ?_) (fun x t w1 H locs ht hW9 hp hP hD hS => by obtain ⟨h9, -⟩ := hp; cases h9)
  obtain ⟨h9, rfl⟩ := hp
  cases h9
  refine W.eq (g2 := F0 m 5 ls [.int (0 : Int32)]) rfl ?_
  refine W.widen (k := 0) (n := 0) (by decide) (by decide) ?_
  have hP : va_P D kl [(m0, .inr (7, [.int (1 : Int32), .int f1, .int (0 : Int32), .ref rw, .int (1 : Int32), .int (0 : Int32), .int (0 : Int32), .ref ry, .int (0 : Int32), .int (0 : Int32), .ref ti, .int (0 : Int32), .int (0 : Int32), .ref po, .ref su, .ref sq, .ref ch, .ref vt, .ref sh]))] H := hP
  have hD : va_D A [(m0, .inr (7, [.int (1 : Int32), .int f1, .int (0 : Int32), .ref rw, .int (1 : Int32), .int (0 : Int32), .int (0 : Int32), .ref ry, .int (0 : Int32), .int (0 : Int32), .ref ti, .int (0 : Int32), .int (0 : Int32), .ref po, .ref su, .ref sq, .ref ch, .ref vt, .ref sh]))] := hD
  refine lv_if_ne (tgt := 10) hx hb d_M_parts_5 (by decide) (fun h99 => absurd h99 (by decide)) (fun _ => ?_)
  refine lv_iconst (v := (0 : Int32)) hx hb d_M_parts_8 (by decide) ?_
  exact tx_mono (fun _ h => tx_Z.of h) (W.iret (v := (0 : Int32)) hx hb hr (fun t ht hW => ⟨⟨[(m0, .inr (7, [.int (1 : Int32), .int f1, .int (0 : Int32), .ref rw, .int (1 : Int32), .int (0 : Int32), .int (0 : Int32), .ref ry, .int (0 : Int32), .int (0 : Int32), .ref ti, .int (0 : Int32), .int (0 : Int32), .ref po, .ref su, .ref sq, .ref ch, .ref vt, .ref sh]))], ⟨rfl, rfl⟩, by rw [ht]; exact hP.sub [0] rfl, hD.sub [0] (by decide) rfl⟩, hS.F ht⟩) hS.2.2 d_M_parts_9)

set_option maxHeartbeats 4000000 in
set_option maxRecDepth 100000 in
theorem c_M_look0 {l : Launch} {s0 : State} {b0 : Addr} {D : va_G} {cI cJ cZ : ClassId} {tC tS : Nat} (E : gE l s0 b0 D cI cJ cZ tC tS) (sz : Nat) (m0 : Nat) (rw : Nat) (ry : Nat) (ti : Nat) (po : Nat) (su : Nat) (sq : Nat) (ch : Nat) (vt : Nat) (sh : Nat) (th : Int32) (f1 : Int32) (h : (0 : Int32) < f1) : cx_M l s0 D kl y_M_look b_M_look 2 (some .int) ({ frames := 2, cells := 0, slots := 0, locals := 49 } : Room) 0 0 [.ref m0, .int (0 : Int32)] [(m0, .inr (7, [.int th, .int f1, .int (0 : Int32), .ref rw, .int (0 : Int32), .int (0 : Int32), .int (0 : Int32), .ref ry, .int (0 : Int32), .int (0 : Int32), .ref ti, .int (0 : Int32), .int (0 : Int32), .ref po, .ref su, .ref sq, .ref ch, .ref vt, .ref sh]))] sz (fun o9 _ w9 => o9 = .returned (some (.int f1)) ∧ w9 = [(m0, .inr (7, [.int (0 : Int32), .int f1, .int (0 : Int32), .ref rw, .int (1 : Int32), .int (0 : Int32), .int (0 : Int32), .ref ry, .int (0 : Int32), .int (0 : Int32), .ref ti, .int (0 : Int32), .int (0 : Int32), .ref po, .ref su, .ref sq, .ref ch, .ref vt, .ref sh]))]) := by
  refine tx_ofW (cc := b_M_look) (maxL := 2) (ret := (some .int)) (by decide) rfl ?_
  intro p e s m args below meth c s₁ B hml hT hv
  obtain ⟨rfl, hsz, hP, hD0, hx0⟩ := hv
  have hx := B.exec
  have hb := B.bytes
  have hr := B.returns
  have G := E.2.1
  have hown : s.vm.findClass cn_M = some m.cls := findClass_of_methodNamed B.named
  have hlocks := B.notSynchronized
  have hK := va_K.moved hx0.1.alike E.2.2.1
  have hf_M : ∀ w99 ∈ u_ws cn_M ft_M 19, w99.before ([.ref m0, .int (0 : Int32)] : List Value).toArray s = true := fun w99 h99 => gw.at G hx0 (fw_M w99 h99) (fo_M w99 h99) _
  subst hsz
  have hA0 := cx_new hD0 hx0.2.1
  have hD := hD0.self (sz := s.heap.size)
  generalize hAe : va_A [(m0, .inr (7, [.int th, .int f1, .int (0 : Int32), .ref rw, .int (0 : Int32), .int (0 : Int32), .int (0 : Int32), .ref ry, .int (0 : Int32), .int (0 : Int32), .ref ti, .int (0 : Int32), .int (0 : Int32), .ref po, .ref su, .ref sq, .ref ch, .ref vt, .ref sh]))] s.heap.size = A at hD hA0 ⊢
  have hA : ∀ q : Nat, s.heap.size ≤ q → A q := fun q h => by rw [← hAe]; exact Or.inr h
  have hS : va_S A s.heap s.heap [] := va_S.rf
  have hl := lv_entry ([.ref m0, .int (0 : Int32)]) (n := 2) (Nat.le_of_ble_eq_true rfl)
  rw [lg_entry_eq]
  generalize (lg_sl ([.ref m0, .int (0 : Int32)]) ++ List.replicate (2 - (lg_sl ([.ref m0, .int (0 : Int32)])).length) Slot.unset).toArray = ls at hl ⊢
  have hl : lv_has ls 2 [(0, .ref m0), (1, .int (0 : Int32))] := hl
  have hP : va_P D kl [(m0, .inr (7, [.int th, .int f1, .int (0 : Int32), .ref rw, .int (0 : Int32), .int (0 : Int32), .int (0 : Int32), .ref ry, .int (0 : Int32), .int (0 : Int32), .ref ti, .int (0 : Int32), .int (0 : Int32), .ref po, .ref su, .ref sq, .ref ch, .ref vt, .ref sh]))] s.heap := hP
  have hml : c.maxLocals = 2 := hml
  refine lv_aload_n hx hb d_M_look_0 rfl (lv_at hl 0 rfl) ?_
  refine lv_iconst (v := (0 : Int32)) hx hb d_M_look_1 (by decide) ?_
  refine va_put (D := D) (ci := 7) (v := .int (0 : Int32)) (ty := .int) (C := cn_M) (T := ft_M) (N := 19) hx hb hf_M (fun _ h => h) fy_M fk_M fn_M hown hK hP hD hS 0 rfl rfl 0 (by decide) (gw.at G hx0 mw_713 rfl _) (fun _ h9 => h9) rfl (by decide +kernel) rfl rfl (Nat.le_of_ble_eq_true rfl) d_M_look_2 (fun H locs hP hD hS => ?_)
  have hP : va_P D kl [(m0, .inr (7, [.int (0 : Int32), .int f1, .int (0 : Int32), .ref rw, .int (0 : Int32), .int (0 : Int32), .int (0 : Int32), .ref ry, .int (0 : Int32), .int (0 : Int32), .ref ti, .int (0 : Int32), .int (0 : Int32), .ref po, .ref su, .ref sq, .ref ch, .ref vt, .ref sh]))] H := hP
  have hD : va_D A [(m0, .inr (7, [.int (0 : Int32), .int f1, .int (0 : Int32), .ref rw, .int (0 : Int32), .int (0 : Int32), .int (0 : Int32), .ref ry, .int (0 : Int32), .int (0 : Int32), .ref ti, .int (0 : Int32), .int (0 : Int32), .ref po, .ref su, .ref sq, .ref ch, .ref vt, .ref sh]))] := hD
  refine lv_aload_n hx hb d_M_look_5 rfl (lv_at hl 0 rfl) ?_
  refine cx_call (D := D) (cl := kl) (ws := _) (wc := [(m0, .inr (7, [.int (0 : Int32), .int f1, .int (0 : Int32), .ref rw, .int (0 : Int32), .int (0 : Int32), .int (0 : Int32), .ref ry, .int (0 : Int32), .int (0 : Int32), .ref ti, .int (0 : Int32), .int (0 : Int32), .ref po, .ref su, .ref sq, .ref ch, .ref vt, .ref sh]))]) (wr := []) (tx_runV (C := cn_M) (b := m0) (As := []) (rest := []) hx hb hml hown (c_M_know0 E H.size m0 rw ry ti po su sq ch vt sh (0 : Int32) f1 h) (cx_C (b0 := b0) G hx0 mw_806 mw_9 ny_M_know (by decide)) (gw.at G hx0 mw_803 rfl _) (gw.at G hx0 mw_805 rfl _) (gw.at G hx0 ms_M_know rfl _) ⟨cx_blind, va_recv hK hP (q0 := 0) (ci := 7) (q := (cn_M, ft_M, 19)) rfl rfl, (cx_pre (s := s) hx0 hP hD hS hA0 [0] rfl rfl (by decide))⟩ rfl rfl hl.1 rfl (lv_room (Nat.le_of_ble_eq_true rfl)) d_M_look_6 ⟨by decide, by decide⟩) hP hD hS hA [0] [] rfl rfl (by decide) (by decide) (fun v t w1 H locs ht hW9 hp hP hD hS => ?_) (fun x t w1 H locs ht hW9 hp hP hD hS => by obtain ⟨h9, -⟩ := hp; cases h9)
  obtain ⟨h9, rfl⟩ := hp
  cases h9
  refine W.eq (g2 := F0 m 9 ls []) rfl ?_
  refine W.widen (k := 0) (n := 0) (by decide) (by decide) ?_
  have hP : va_P D kl [(m0, .inr (7, [.int (0 : Int32), .int f1, .int (0 : Int32), .ref rw, .int (1 : Int32), .int (0 : Int32), .int (0 : Int32), .ref ry, .int (0 : Int32), .int (0 : Int32), .ref ti, .int (0 : Int32), .int (0 : Int32), .ref po, .ref su, .ref sq, .ref ch, .ref vt, .ref sh]))] H := hP
  have hD : va_D A [(m0, .inr (7, [.int (0 : Int32), .int f1, .int (0 : Int32), .ref rw, .int (1 : Int32), .int (0 : Int32), .int (0 : Int32), .ref ry, .int (0 : Int32), .int (0 : Int32), .ref ti, .int (0 : Int32), .int (0 : Int32), .ref po, .ref su, .ref sq, .ref ch, .ref vt, .ref sh]))] := hD
  refine lv_iload_n hx hb d_M_look_9 rfl (lv_at hl 1 rfl) ?_
  refine lv_if_eq (tgt := 18) hx hb d_M_look_10 (by decide) (fun _ => ?_) (fun h99 => absurd h99 (by decide))
  refine lv_iload_n hx hb d_M_look_18 rfl (lv_at hl 1 rfl) ?_
  refine lv_if_ne (tgt := 29) hx hb d_M_look_19 (by decide) (fun h99 => absurd h99 (by decide)) (fun _ => ?_)
  refine lv_aload_n hx hb d_M_look_22 rfl (lv_at hl 0 rfl) ?_
  refine va_get (D := D) (ci := 7) (v := .int f1) (C := cn_M) (T := ft_M) (N := 19) hx hb hf_M (fun _ h => h) hown hK hP 0 rfl rfl 1 (by decide) (gw.at G hx0 mw_714 rfl _) (fun _ h9 => h9) rfl d_M_look_23 ?_
  refine lv_goto (tgt := 33) hx hb d_M_look_26 (by decide) ?_
  exact tx_mono (fun _ h => tx_Z.of h) (W.iret (v := f1) hx hb hr (fun t ht hW => ⟨⟨[(m0, .inr (7, [.int (0 : Int32), .int f1, .int (0 : Int32), .ref rw, .int (1 : Int32), .int (0 : Int32), .int (0 : Int32), .ref ry, .int (0 : Int32), .int (0 : Int32), .ref ti, .int (0 : Int32), .int (0 : Int32), .ref po, .ref su, .ref sq, .ref ch, .ref vt, .ref sh]))], ⟨rfl, rfl⟩, by rw [ht]; exact hP.sub [0] rfl, hD.sub [0] (by decide) rfl⟩, hS.F ht⟩) hS.2.2 d_M_look_33)

set_option maxHeartbeats 4000000 in
set_option maxRecDepth 100000 in
theorem c_M_look1 {l : Launch} {s0 : State} {b0 : Addr} {D : va_G} {cI cJ cZ : ClassId} {tC tS : Nat} (E : gE l s0 b0 D cI cJ cZ tC tS) (sz : Nat) (m0 : Nat) (rw : Nat) (ry : Nat) (ti : Nat) (po : Nat) (su : Nat) (sq : Nat) (ch : Nat) (vt : Nat) (sh : Nat) (th : Int32) (f1 : Int32) (h : (0 : Int32) < f1) : cx_M l s0 D kl y_M_look b_M_look 2 (some .int) ({ frames := 2, cells := 0, slots := 0, locals := 49 } : Room) 0 0 [.ref m0, .int (1 : Int32)] [(m0, .inr (7, [.int th, .int f1, .int (0 : Int32), .ref rw, .int (0 : Int32), .int (0 : Int32), .int (0 : Int32), .ref ry, .int (0 : Int32), .int (0 : Int32), .ref ti, .int (0 : Int32), .int (0 : Int32), .ref po, .ref su, .ref sq, .ref ch, .ref vt, .ref sh]))] sz (fun o9 _ w9 => o9 = .returned (some (.int (0 : Int32))) ∧ w9 = [(m0, .inr (7, [.int (0 : Int32), .int f1, .int (0 : Int32), .ref rw, .int (1 : Int32), .int (0 : Int32), .int (0 : Int32), .ref ry, .int (0 : Int32), .int (0 : Int32), .ref ti, .int (0 : Int32), .int (0 : Int32), .ref po, .ref su, .ref sq, .ref ch, .ref vt, .ref sh]))]) := by
  refine tx_ofW (cc := b_M_look) (maxL := 2) (ret := (some .int)) (by decide) rfl ?_
  intro p e s m args below meth c s₁ B hml hT hv
  obtain ⟨rfl, hsz, hP, hD0, hx0⟩ := hv
  have hx := B.exec
  have hb := B.bytes
  have hr := B.returns
  have G := E.2.1
  have hown : s.vm.findClass cn_M = some m.cls := findClass_of_methodNamed B.named
  have hlocks := B.notSynchronized
  have hK := va_K.moved hx0.1.alike E.2.2.1
  have hf_M : ∀ w99 ∈ u_ws cn_M ft_M 19, w99.before ([.ref m0, .int (1 : Int32)] : List Value).toArray s = true := fun w99 h99 => gw.at G hx0 (fw_M w99 h99) (fo_M w99 h99) _
  subst hsz
  have hA0 := cx_new hD0 hx0.2.1
  have hD := hD0.self (sz := s.heap.size)
  generalize hAe : va_A [(m0, .inr (7, [.int th, .int f1, .int (0 : Int32), .ref rw, .int (0 : Int32), .int (0 : Int32), .int (0 : Int32), .ref ry, .int (0 : Int32), .int (0 : Int32), .ref ti, .int (0 : Int32), .int (0 : Int32), .ref po, .ref su, .ref sq, .ref ch, .ref vt, .ref sh]))] s.heap.size = A at hD hA0 ⊢
  have hA : ∀ q : Nat, s.heap.size ≤ q → A q := fun q h => by rw [← hAe]; exact Or.inr h
  have hS : va_S A s.heap s.heap [] := va_S.rf
  have hl := lv_entry ([.ref m0, .int (1 : Int32)]) (n := 2) (Nat.le_of_ble_eq_true rfl)
  rw [lg_entry_eq]
  generalize (lg_sl ([.ref m0, .int (1 : Int32)]) ++ List.replicate (2 - (lg_sl ([.ref m0, .int (1 : Int32)])).length) Slot.unset).toArray = ls at hl ⊢
  have hl : lv_has ls 2 [(0, .ref m0), (1, .int (1 : Int32))] := hl
  have hP : va_P D kl [(m0, .inr (7, [.int th, .int f1, .int (0 : Int32), .ref rw, .int (0 : Int32), .int (0 : Int32), .int (0 : Int32), .ref ry, .int (0 : Int32), .int (0 : Int32), .ref ti, .int (0 : Int32), .int (0 : Int32), .ref po, .ref su, .ref sq, .ref ch, .ref vt, .ref sh]))] s.heap := hP
  have hml : c.maxLocals = 2 := hml
  refine lv_aload_n hx hb d_M_look_0 rfl (lv_at hl 0 rfl) ?_
  refine lv_iconst (v := (0 : Int32)) hx hb d_M_look_1 (by decide) ?_
  refine va_put (D := D) (ci := 7) (v := .int (0 : Int32)) (ty := .int) (C := cn_M) (T := ft_M) (N := 19) hx hb hf_M (fun _ h => h) fy_M fk_M fn_M hown hK hP hD hS 0 rfl rfl 0 (by decide) (gw.at G hx0 mw_713 rfl _) (fun _ h9 => h9) rfl (by decide +kernel) rfl rfl (Nat.le_of_ble_eq_true rfl) d_M_look_2 (fun H locs hP hD hS => ?_)
  have hP : va_P D kl [(m0, .inr (7, [.int (0 : Int32), .int f1, .int (0 : Int32), .ref rw, .int (0 : Int32), .int (0 : Int32), .int (0 : Int32), .ref ry, .int (0 : Int32), .int (0 : Int32), .ref ti, .int (0 : Int32), .int (0 : Int32), .ref po, .ref su, .ref sq, .ref ch, .ref vt, .ref sh]))] H := hP
  have hD : va_D A [(m0, .inr (7, [.int (0 : Int32), .int f1, .int (0 : Int32), .ref rw, .int (0 : Int32), .int (0 : Int32), .int (0 : Int32), .ref ry, .int (0 : Int32), .int (0 : Int32), .ref ti, .int (0 : Int32), .int (0 : Int32), .ref po, .ref su, .ref sq, .ref ch, .ref vt, .ref sh]))] := hD
  refine lv_aload_n hx hb d_M_look_5 rfl (lv_at hl 0 rfl) ?_
  refine cx_call (D := D) (cl := kl) (ws := _) (wc := [(m0, .inr (7, [.int (0 : Int32), .int f1, .int (0 : Int32), .ref rw, .int (0 : Int32), .int (0 : Int32), .int (0 : Int32), .ref ry, .int (0 : Int32), .int (0 : Int32), .ref ti, .int (0 : Int32), .int (0 : Int32), .ref po, .ref su, .ref sq, .ref ch, .ref vt, .ref sh]))]) (wr := []) (tx_runV (C := cn_M) (b := m0) (As := []) (rest := []) hx hb hml hown (c_M_know0 E H.size m0 rw ry ti po su sq ch vt sh (0 : Int32) f1 h) (cx_C (b0 := b0) G hx0 mw_806 mw_9 ny_M_know (by decide)) (gw.at G hx0 mw_803 rfl _) (gw.at G hx0 mw_805 rfl _) (gw.at G hx0 ms_M_know rfl _) ⟨cx_blind, va_recv hK hP (q0 := 0) (ci := 7) (q := (cn_M, ft_M, 19)) rfl rfl, (cx_pre (s := s) hx0 hP hD hS hA0 [0] rfl rfl (by decide))⟩ rfl rfl hl.1 rfl (lv_room (Nat.le_of_ble_eq_true rfl)) d_M_look_6 ⟨by decide, by decide⟩) hP hD hS hA [0] [] rfl rfl (by decide) (by decide) (fun v t w1 H locs ht hW9 hp hP hD hS => ?_) (fun x t w1 H locs ht hW9 hp hP hD hS => by obtain ⟨h9, -⟩ := hp; cases h9)
  obtain ⟨h9, rfl⟩ := hp
  cases h9
  refine W.eq (g2 := F0 m 9 ls []) rfl ?_
  refine W.widen (k := 0) (n := 0) (by decide) (by decide) ?_
  have hP : va_P D kl [(m0, .inr (7, [.int (0 : Int32), .int f1, .int (0 : Int32), .ref rw, .int (1 : Int32), .int (0 : Int32), .int (0 : Int32), .ref ry, .int (0 : Int32), .int (0 : Int32), .ref ti, .int (0 : Int32), .int (0 : Int32), .ref po, .ref su, .ref sq, .ref ch, .ref vt, .ref sh]))] H := hP
  have hD : va_D A [(m0, .inr (7, [.int (0 : Int32), .int f1, .int (0 : Int32), .ref rw, .int (1 : Int32), .int (0 : Int32), .int (0 : Int32), .ref ry, .int (0 : Int32), .int (0 : Int32), .ref ti, .int (0 : Int32), .int (0 : Int32), .ref po, .ref su, .ref sq, .ref ch, .ref vt, .ref sh]))] := hD
  refine lv_iload_n hx hb d_M_look_9 rfl (lv_at hl 1 rfl) ?_
  refine lv_if_eq (tgt := 18) hx hb d_M_look_10 (by decide) (fun h99 => absurd h99 (by decide)) (fun _ => ?_)
  refine lv_iload_n hx hb d_M_look_13 rfl (lv_at hl 1 rfl) ?_
  refine lv_iconst (v := (1 : Int32)) hx hb d_M_look_14 (by decide) ?_
  refine lv_icmp_ne (tgt := 34) hx hb d_M_look_15 (by decide) (fun h99 => absurd h99 (by decide)) (fun _ => ?_)
  refine lv_iload_n hx hb d_M_look_18 rfl (lv_at hl 1 rfl) ?_
  refine lv_if_ne (tgt := 29) hx hb d_M_look_19 (by decide) (fun _ => ?_) (fun h99 => absurd h99 (by decide))
  refine lv_aload_n hx hb d_M_look_29 rfl (lv_at hl 0 rfl) ?_
  refine va_get (D := D) (ci := 7) (v := .int (0 : Int32)) (C := cn_M) (T := ft_M) (N := 19) hx hb hf_M (fun _ h => h) hown hK hP 0 rfl rfl 2 (by decide) (gw.at G hx0 mw_715 rfl _) (fun _ h9 => h9) rfl d_M_look_30 ?_
  exact tx_mono (fun _ h => tx_Z.of h) (W.iret (v := (0 : Int32)) hx hb hr (fun t ht hW => ⟨⟨[(m0, .inr (7, [.int (0 : Int32), .int f1, .int (0 : Int32), .ref rw, .int (1 : Int32), .int (0 : Int32), .int (0 : Int32), .ref ry, .int (0 : Int32), .int (0 : Int32), .ref ti, .int (0 : Int32), .int (0 : Int32), .ref po, .ref su, .ref sq, .ref ch, .ref vt, .ref sh]))], ⟨rfl, rfl⟩, by rw [ht]; exact hP.sub [0] rfl, hD.sub [0] (by decide) rfl⟩, hS.F ht⟩) hS.2.2 d_M_look_33)

set_option maxHeartbeats 4000000 in
set_option maxRecDepth 100000 in
theorem c_M_look2 {l : Launch} {s0 : State} {b0 : Addr} {D : va_G} {cI cJ cZ : ClassId} {tC tS : Nat} (E : gE l s0 b0 D cI cJ cZ tC tS) (sz : Nat) (m0 : Nat) (rw : Nat) (ry : Nat) (ti : Nat) (po : Nat) (su : Nat) (sq : Nat) (ch : Nat) (vt : Nat) (sh : Nat) (th : Int32) (f1 : Int32) (h : (0 : Int32) < f1) : cx_M l s0 D kl y_M_look b_M_look 2 (some .int) ({ frames := 2, cells := 0, slots := 0, locals := 49 } : Room) 0 0 [.ref m0, .int (2 : Int32)] [(m0, .inr (7, [.int th, .int f1, .int (0 : Int32), .ref rw, .int (0 : Int32), .int (0 : Int32), .int (0 : Int32), .ref ry, .int (0 : Int32), .int (0 : Int32), .ref ti, .int (0 : Int32), .int (0 : Int32), .ref po, .ref su, .ref sq, .ref ch, .ref vt, .ref sh]))] sz (fun o9 _ w9 => o9 = .returned (some (.int (0 : Int32))) ∧ w9 = [(m0, .inr (7, [.int (0 : Int32), .int f1, .int (0 : Int32), .ref rw, .int (1 : Int32), .int (0 : Int32), .int (0 : Int32), .ref ry, .int (0 : Int32), .int (0 : Int32), .ref ti, .int (0 : Int32), .int (0 : Int32), .ref po, .ref su, .ref sq, .ref ch, .ref vt, .ref sh]))]) := by
  refine tx_ofW (cc := b_M_look) (maxL := 2) (ret := (some .int)) (by decide) rfl ?_
  intro p e s m args below meth c s₁ B hml hT hv
  obtain ⟨rfl, hsz, hP, hD0, hx0⟩ := hv
  have hx := B.exec
  have hb := B.bytes
  have hr := B.returns
  have G := E.2.1
  have hown : s.vm.findClass cn_M = some m.cls := findClass_of_methodNamed B.named
  have hlocks := B.notSynchronized
  have hK := va_K.moved hx0.1.alike E.2.2.1
  have hf_M : ∀ w99 ∈ u_ws cn_M ft_M 19, w99.before ([.ref m0, .int (2 : Int32)] : List Value).toArray s = true := fun w99 h99 => gw.at G hx0 (fw_M w99 h99) (fo_M w99 h99) _
  subst hsz
  have hA0 := cx_new hD0 hx0.2.1
  have hD := hD0.self (sz := s.heap.size)
  generalize hAe : va_A [(m0, .inr (7, [.int th, .int f1, .int (0 : Int32), .ref rw, .int (0 : Int32), .int (0 : Int32), .int (0 : Int32), .ref ry, .int (0 : Int32), .int (0 : Int32), .ref ti, .int (0 : Int32), .int (0 : Int32), .ref po, .ref su, .ref sq, .ref ch, .ref vt, .ref sh]))] s.heap.size = A at hD hA0 ⊢
  have hA : ∀ q : Nat, s.heap.size ≤ q → A q := fun q h => by rw [← hAe]; exact Or.inr h
  have hS : va_S A s.heap s.heap [] := va_S.rf
  have hl := lv_entry ([.ref m0, .int (2 : Int32)]) (n := 2) (Nat.le_of_ble_eq_true rfl)
  rw [lg_entry_eq]
  generalize (lg_sl ([.ref m0, .int (2 : Int32)]) ++ List.replicate (2 - (lg_sl ([.ref m0, .int (2 : Int32)])).length) Slot.unset).toArray = ls at hl ⊢
  have hl : lv_has ls 2 [(0, .ref m0), (1, .int (2 : Int32))] := hl
  have hP : va_P D kl [(m0, .inr (7, [.int th, .int f1, .int (0 : Int32), .ref rw, .int (0 : Int32), .int (0 : Int32), .int (0 : Int32), .ref ry, .int (0 : Int32), .int (0 : Int32), .ref ti, .int (0 : Int32), .int (0 : Int32), .ref po, .ref su, .ref sq, .ref ch, .ref vt, .ref sh]))] s.heap := hP
  have hml : c.maxLocals = 2 := hml
  refine lv_aload_n hx hb d_M_look_0 rfl (lv_at hl 0 rfl) ?_
  refine lv_iconst (v := (0 : Int32)) hx hb d_M_look_1 (by decide) ?_
  refine va_put (D := D) (ci := 7) (v := .int (0 : Int32)) (ty := .int) (C := cn_M) (T := ft_M) (N := 19) hx hb hf_M (fun _ h => h) fy_M fk_M fn_M hown hK hP hD hS 0 rfl rfl 0 (by decide) (gw.at G hx0 mw_713 rfl _) (fun _ h9 => h9) rfl (by decide +kernel) rfl rfl (Nat.le_of_ble_eq_true rfl) d_M_look_2 (fun H locs hP hD hS => ?_)
  have hP : va_P D kl [(m0, .inr (7, [.int (0 : Int32), .int f1, .int (0 : Int32), .ref rw, .int (0 : Int32), .int (0 : Int32), .int (0 : Int32), .ref ry, .int (0 : Int32), .int (0 : Int32), .ref ti, .int (0 : Int32), .int (0 : Int32), .ref po, .ref su, .ref sq, .ref ch, .ref vt, .ref sh]))] H := hP
  have hD : va_D A [(m0, .inr (7, [.int (0 : Int32), .int f1, .int (0 : Int32), .ref rw, .int (0 : Int32), .int (0 : Int32), .int (0 : Int32), .ref ry, .int (0 : Int32), .int (0 : Int32), .ref ti, .int (0 : Int32), .int (0 : Int32), .ref po, .ref su, .ref sq, .ref ch, .ref vt, .ref sh]))] := hD
  refine lv_aload_n hx hb d_M_look_5 rfl (lv_at hl 0 rfl) ?_
  refine cx_call (D := D) (cl := kl) (ws := _) (wc := [(m0, .inr (7, [.int (0 : Int32), .int f1, .int (0 : Int32), .ref rw, .int (0 : Int32), .int (0 : Int32), .int (0 : Int32), .ref ry, .int (0 : Int32), .int (0 : Int32), .ref ti, .int (0 : Int32), .int (0 : Int32), .ref po, .ref su, .ref sq, .ref ch, .ref vt, .ref sh]))]) (wr := []) (tx_runV (C := cn_M) (b := m0) (As := []) (rest := []) hx hb hml hown (c_M_know0 E H.size m0 rw ry ti po su sq ch vt sh (0 : Int32) f1 h) (cx_C (b0 := b0) G hx0 mw_806 mw_9 ny_M_know (by decide)) (gw.at G hx0 mw_803 rfl _) (gw.at G hx0 mw_805 rfl _) (gw.at G hx0 ms_M_know rfl _) ⟨cx_blind, va_recv hK hP (q0 := 0) (ci := 7) (q := (cn_M, ft_M, 19)) rfl rfl, (cx_pre (s := s) hx0 hP hD hS hA0 [0] rfl rfl (by decide))⟩ rfl rfl hl.1 rfl (lv_room (Nat.le_of_ble_eq_true rfl)) d_M_look_6 ⟨by decide, by decide⟩) hP hD hS hA [0] [] rfl rfl (by decide) (by decide) (fun v t w1 H locs ht hW9 hp hP hD hS => ?_) (fun x t w1 H locs ht hW9 hp hP hD hS => by obtain ⟨h9, -⟩ := hp; cases h9)
  obtain ⟨h9, rfl⟩ := hp
  cases h9
  refine W.eq (g2 := F0 m 9 ls []) rfl ?_
  refine W.widen (k := 0) (n := 0) (by decide) (by decide) ?_
  have hP : va_P D kl [(m0, .inr (7, [.int (0 : Int32), .int f1, .int (0 : Int32), .ref rw, .int (1 : Int32), .int (0 : Int32), .int (0 : Int32), .ref ry, .int (0 : Int32), .int (0 : Int32), .ref ti, .int (0 : Int32), .int (0 : Int32), .ref po, .ref su, .ref sq, .ref ch, .ref vt, .ref sh]))] H := hP
  have hD : va_D A [(m0, .inr (7, [.int (0 : Int32), .int f1, .int (0 : Int32), .ref rw, .int (1 : Int32), .int (0 : Int32), .int (0 : Int32), .ref ry, .int (0 : Int32), .int (0 : Int32), .ref ti, .int (0 : Int32), .int (0 : Int32), .ref po, .ref su, .ref sq, .ref ch, .ref vt, .ref sh]))] := hD
  refine lv_iload_n hx hb d_M_look_9 rfl (lv_at hl 1 rfl) ?_
  refine lv_if_eq (tgt := 18) hx hb d_M_look_10 (by decide) (fun h99 => absurd h99 (by decide)) (fun _ => ?_)
  refine lv_iload_n hx hb d_M_look_13 rfl (lv_at hl 1 rfl) ?_
  refine lv_iconst (v := (1 : Int32)) hx hb d_M_look_14 (by decide) ?_
  refine lv_icmp_ne (tgt := 34) hx hb d_M_look_15 (by decide) (fun _ => ?_) (fun h99 => absurd h99 (by decide))
  refine lv_iload_n hx hb d_M_look_34 rfl (lv_at hl 1 rfl) ?_
  refine lv_iconst (v := (2 : Int32)) hx hb d_M_look_35 (by decide) ?_
  refine lv_icmp_ne (tgt := 46) hx hb d_M_look_36 (by decide) (fun h99 => absurd h99 (by decide)) (fun _ => ?_)
  refine lv_aload_n hx hb d_M_look_39 rfl (lv_at hl 0 rfl) ?_
  refine va_get (D := D) (ci := 7) (v := .int (0 : Int32)) (C := cn_M) (T := ft_M) (N := 19) hx hb hf_M (fun _ h => h) hown hK hP 0 rfl rfl 5 (by decide) (gw.at G hx0 mw_718 rfl _) (fun _ h9 => h9) rfl d_M_look_40 ?_
  refine lv_goto (tgt := 64) hx hb d_M_look_43 (by decide) ?_
  exact tx_mono (fun _ h => tx_Z.of h) (W.iret (v := (0 : Int32)) hx hb hr (fun t ht hW => ⟨⟨[(m0, .inr (7, [.int (0 : Int32), .int f1, .int (0 : Int32), .ref rw, .int (1 : Int32), .int (0 : Int32), .int (0 : Int32), .ref ry, .int (0 : Int32), .int (0 : Int32), .ref ti, .int (0 : Int32), .int (0 : Int32), .ref po, .ref su, .ref sq, .ref ch, .ref vt, .ref sh]))], ⟨rfl, rfl⟩, by rw [ht]; exact hP.sub [0] rfl, hD.sub [0] (by decide) rfl⟩, hS.F ht⟩) hS.2.2 d_M_look_64)

set_option maxHeartbeats 4000000 in
set_option maxRecDepth 100000 in
theorem c_M_look3 {l : Launch} {s0 : State} {b0 : Addr} {D : va_G} {cI cJ cZ : ClassId} {tC tS : Nat} (E : gE l s0 b0 D cI cJ cZ tC tS) (sz : Nat) (m0 : Nat) (rw : Nat) (ry : Nat) (ti : Nat) (po : Nat) (su : Nat) (sq : Nat) (ch : Nat) (vt : Nat) (sh : Nat) (th : Int32) (f1 : Int32) (h : (0 : Int32) < f1) : cx_M l s0 D kl y_M_look b_M_look 2 (some .int) ({ frames := 2, cells := 0, slots := 0, locals := 49 } : Room) 0 0 [.ref m0, .int (3 : Int32)] [(m0, .inr (7, [.int th, .int f1, .int (0 : Int32), .ref rw, .int (0 : Int32), .int (0 : Int32), .int (0 : Int32), .ref ry, .int (0 : Int32), .int (0 : Int32), .ref ti, .int (0 : Int32), .int (0 : Int32), .ref po, .ref su, .ref sq, .ref ch, .ref vt, .ref sh]))] sz (fun o9 _ w9 => o9 = .returned (some (.int (f1 - (0 : Int32)))) ∧ w9 = [(m0, .inr (7, [.int (0 : Int32), .int f1, .int (0 : Int32), .ref rw, .int (1 : Int32), .int (0 : Int32), .int (0 : Int32), .ref ry, .int (0 : Int32), .int (0 : Int32), .ref ti, .int (0 : Int32), .int (0 : Int32), .ref po, .ref su, .ref sq, .ref ch, .ref vt, .ref sh]))]) := by
  refine tx_ofW (cc := b_M_look) (maxL := 2) (ret := (some .int)) (by decide) rfl ?_
  intro p e s m args below meth c s₁ B hml hT hv
  obtain ⟨rfl, hsz, hP, hD0, hx0⟩ := hv
  have hx := B.exec
  have hb := B.bytes
  have hr := B.returns
  have G := E.2.1
  have hown : s.vm.findClass cn_M = some m.cls := findClass_of_methodNamed B.named
  have hlocks := B.notSynchronized
  have hK := va_K.moved hx0.1.alike E.2.2.1
  have hf_M : ∀ w99 ∈ u_ws cn_M ft_M 19, w99.before ([.ref m0, .int (3 : Int32)] : List Value).toArray s = true := fun w99 h99 => gw.at G hx0 (fw_M w99 h99) (fo_M w99 h99) _
  subst hsz
  have hA0 := cx_new hD0 hx0.2.1
  have hD := hD0.self (sz := s.heap.size)
  generalize hAe : va_A [(m0, .inr (7, [.int th, .int f1, .int (0 : Int32), .ref rw, .int (0 : Int32), .int (0 : Int32), .int (0 : Int32), .ref ry, .int (0 : Int32), .int (0 : Int32), .ref ti, .int (0 : Int32), .int (0 : Int32), .ref po, .ref su, .ref sq, .ref ch, .ref vt, .ref sh]))] s.heap.size = A at hD hA0 ⊢
  have hA : ∀ q : Nat, s.heap.size ≤ q → A q := fun q h => by rw [← hAe]; exact Or.inr h
  have hS : va_S A s.heap s.heap [] := va_S.rf
  have hl := lv_entry ([.ref m0, .int (3 : Int32)]) (n := 2) (Nat.le_of_ble_eq_true rfl)
  rw [lg_entry_eq]
  generalize (lg_sl ([.ref m0, .int (3 : Int32)]) ++ List.replicate (2 - (lg_sl ([.ref m0, .int (3 : Int32)])).length) Slot.unset).toArray = ls at hl ⊢
  have hl : lv_has ls 2 [(0, .ref m0), (1, .int (3 : Int32))] := hl
  have hP : va_P D kl [(m0, .inr (7, [.int th, .int f1, .int (0 : Int32), .ref rw, .int (0 : Int32), .int (0 : Int32), .int (0 : Int32), .ref ry, .int (0 : Int32), .int (0 : Int32), .ref ti, .int (0 : Int32), .int (0 : Int32), .ref po, .ref su, .ref sq, .ref ch, .ref vt, .ref sh]))] s.heap := hP
  have hml : c.maxLocals = 2 := hml
  refine lv_aload_n hx hb d_M_look_0 rfl (lv_at hl 0 rfl) ?_
  refine lv_iconst (v := (0 : Int32)) hx hb d_M_look_1 (by decide) ?_
  refine va_put (D := D) (ci := 7) (v := .int (0 : Int32)) (ty := .int) (C := cn_M) (T := ft_M) (N := 19) hx hb hf_M (fun _ h => h) fy_M fk_M fn_M hown hK hP hD hS 0 rfl rfl 0 (by decide) (gw.at G hx0 mw_713 rfl _) (fun _ h9 => h9) rfl (by decide +kernel) rfl rfl (Nat.le_of_ble_eq_true rfl) d_M_look_2 (fun H locs hP hD hS => ?_)
  have hP : va_P D kl [(m0, .inr (7, [.int (0 : Int32), .int f1, .int (0 : Int32), .ref rw, .int (0 : Int32), .int (0 : Int32), .int (0 : Int32), .ref ry, .int (0 : Int32), .int (0 : Int32), .ref ti, .int (0 : Int32), .int (0 : Int32), .ref po, .ref su, .ref sq, .ref ch, .ref vt, .ref sh]))] H := hP
  have hD : va_D A [(m0, .inr (7, [.int (0 : Int32), .int f1, .int (0 : Int32), .ref rw, .int (0 : Int32), .int (0 : Int32), .int (0 : Int32), .ref ry, .int (0 : Int32), .int (0 : Int32), .ref ti, .int (0 : Int32), .int (0 : Int32), .ref po, .ref su, .ref sq, .ref ch, .ref vt, .ref sh]))] := hD
  refine lv_aload_n hx hb d_M_look_5 rfl (lv_at hl 0 rfl) ?_
  refine cx_call (D := D) (cl := kl) (ws := _) (wc := [(m0, .inr (7, [.int (0 : Int32), .int f1, .int (0 : Int32), .ref rw, .int (0 : Int32), .int (0 : Int32), .int (0 : Int32), .ref ry, .int (0 : Int32), .int (0 : Int32), .ref ti, .int (0 : Int32), .int (0 : Int32), .ref po, .ref su, .ref sq, .ref ch, .ref vt, .ref sh]))]) (wr := []) (tx_runV (C := cn_M) (b := m0) (As := []) (rest := []) hx hb hml hown (c_M_know0 E H.size m0 rw ry ti po su sq ch vt sh (0 : Int32) f1 h) (cx_C (b0 := b0) G hx0 mw_806 mw_9 ny_M_know (by decide)) (gw.at G hx0 mw_803 rfl _) (gw.at G hx0 mw_805 rfl _) (gw.at G hx0 ms_M_know rfl _) ⟨cx_blind, va_recv hK hP (q0 := 0) (ci := 7) (q := (cn_M, ft_M, 19)) rfl rfl, (cx_pre (s := s) hx0 hP hD hS hA0 [0] rfl rfl (by decide))⟩ rfl rfl hl.1 rfl (lv_room (Nat.le_of_ble_eq_true rfl)) d_M_look_6 ⟨by decide, by decide⟩) hP hD hS hA [0] [] rfl rfl (by decide) (by decide) (fun v t w1 H locs ht hW9 hp hP hD hS => ?_) (fun x t w1 H locs ht hW9 hp hP hD hS => by obtain ⟨h9, -⟩ := hp; cases h9)
  obtain ⟨h9, rfl⟩ := hp
  cases h9
  refine W.eq (g2 := F0 m 9 ls []) rfl ?_
  refine W.widen (k := 0) (n := 0) (by decide) (by decide) ?_
  have hP : va_P D kl [(m0, .inr (7, [.int (0 : Int32), .int f1, .int (0 : Int32), .ref rw, .int (1 : Int32), .int (0 : Int32), .int (0 : Int32), .ref ry, .int (0 : Int32), .int (0 : Int32), .ref ti, .int (0 : Int32), .int (0 : Int32), .ref po, .ref su, .ref sq, .ref ch, .ref vt, .ref sh]))] H := hP
  have hD : va_D A [(m0, .inr (7, [.int (0 : Int32), .int f1, .int (0 : Int32), .ref rw, .int (1 : Int32), .int (0 : Int32), .int (0 : Int32), .ref ry, .int (0 : Int32), .int (0 : Int32), .ref ti, .int (0 : Int32), .int (0 : Int32), .ref po, .ref su, .ref sq, .ref ch, .ref vt, .ref sh]))] := hD
  refine lv_iload_n hx hb d_M_look_9 rfl (lv_at hl 1 rfl) ?_
  refine lv_if_eq (tgt := 18) hx hb d_M_look_10 (by decide) (fun h99 => absurd h99 (by decide)) (fun _ => ?_)
  refine lv_iload_n hx hb d_M_look_13 rfl (lv_at hl 1 rfl) ?_
  refine lv_iconst (v := (1 : Int32)) hx hb d_M_look_14 (by decide) ?_
  refine lv_icmp_ne (tgt := 34) hx hb d_M_look_15 (by decide) (fun _ => ?_) (fun h99 => absurd h99 (by decide))
  refine lv_iload_n hx hb d_M_look_34 rfl (lv_at hl 1 rfl) ?_
  refine lv_iconst (v := (2 : Int32)) hx hb d_M_look_35 (by decide) ?_
  refine lv_icmp_ne (tgt := 46) hx hb d_M_look_36 (by decide) (fun _ => ?_) (fun h99 => absurd h99 (by decide))
  refine lv_iload_n hx hb d_M_look_46 rfl (lv_at hl 1 rfl) ?_
  refine lv_iconst (v := (3 : Int32)) hx hb d_M_look_47 (by decide) ?_
  refine lv_icmp_ne (tgt := 63) hx hb d_M_look_48 (by decide) (fun h99 => absurd h99 (by decide)) (fun _ => ?_)
  refine lv_aload_n hx hb d_M_look_51 rfl (lv_at hl 0 rfl) ?_
  refine va_get (D := D) (ci := 7) (v := .int f1) (C := cn_M) (T := ft_M) (N := 19) hx hb hf_M (fun _ h => h) hown hK hP 0 rfl rfl 1 (by decide) (gw.at G hx0 mw_714 rfl _) (fun _ h9 => h9) rfl d_M_look_52 ?_
  refine lv_aload_n hx hb d_M_look_55 rfl (lv_at hl 0 rfl) ?_
  refine va_get (D := D) (ci := 7) (v := .int (0 : Int32)) (C := cn_M) (T := ft_M) (N := 19) hx hb hf_M (fun _ h => h) hown hK hP 0 rfl rfl 5 (by decide) (gw.at G hx0 mw_718 rfl _) (fun _ h9 => h9) rfl d_M_look_56 ?_
  refine lv_isub hx hb d_M_look_59 ?_
  refine lv_goto (tgt := 64) hx hb d_M_look_60 (by decide) ?_
  exact tx_mono (fun _ h => tx_Z.of h) (W.iret (v := f1 - (0 : Int32)) hx hb hr (fun t ht hW => ⟨⟨[(m0, .inr (7, [.int (0 : Int32), .int f1, .int (0 : Int32), .ref rw, .int (1 : Int32), .int (0 : Int32), .int (0 : Int32), .ref ry, .int (0 : Int32), .int (0 : Int32), .ref ti, .int (0 : Int32), .int (0 : Int32), .ref po, .ref su, .ref sq, .ref ch, .ref vt, .ref sh]))], ⟨rfl, rfl⟩, by rw [ht]; exact hP.sub [0] rfl, hD.sub [0] (by decide) rfl⟩, hS.F ht⟩) hS.2.2 d_M_look_64)

set_option maxHeartbeats 4000000 in
set_option maxRecDepth 100000 in
theorem c_M_look9 {l : Launch} {s0 : State} {b0 : Addr} {D : va_G} {cI cJ cZ : ClassId} {tC tS : Nat} (E : gE l s0 b0 D cI cJ cZ tC tS) (sz : Nat) (m0 : Nat) (rw : Nat) (ry : Nat) (ti : Nat) (po : Nat) (su : Nat) (sq : Nat) (ch : Nat) (vt : Nat) (sh : Nat) (th : Int32) (f1 : Int32) (w : Int32) (h : (0 : Int32) < f1) (h3 : w.toInt < 0 ∨ 3 < w.toInt) : cx_M l s0 D kl y_M_look b_M_look 2 (some .int) ({ frames := 2, cells := 0, slots := 0, locals := 49 } : Room) 0 0 [.ref m0, .int w] [(m0, .inr (7, [.int th, .int f1, .int (0 : Int32), .ref rw, .int (0 : Int32), .int (0 : Int32), .int (0 : Int32), .ref ry, .int (0 : Int32), .int (0 : Int32), .ref ti, .int (0 : Int32), .int (0 : Int32), .ref po, .ref su, .ref sq, .ref ch, .ref vt, .ref sh]))] sz (fun o9 _ w9 => o9 = .returned (some (.int (-1 : Int32))) ∧ w9 = [(m0, .inr (7, [.int (0 : Int32), .int f1, .int (0 : Int32), .ref rw, .int (1 : Int32), .int (0 : Int32), .int (0 : Int32), .ref ry, .int (0 : Int32), .int (0 : Int32), .ref ti, .int (0 : Int32), .int (0 : Int32), .ref po, .ref su, .ref sq, .ref ch, .ref vt, .ref sh]))]) := by
  refine tx_ofW (cc := b_M_look) (maxL := 2) (ret := (some .int)) (by decide) rfl ?_
  intro p e s m args below meth c s₁ B hml hT hv
  obtain ⟨rfl, hsz, hP, hD0, hx0⟩ := hv
  have hx := B.exec
  have hb := B.bytes
  have hr := B.returns
  have G := E.2.1
  have hown : s.vm.findClass cn_M = some m.cls := findClass_of_methodNamed B.named
  have hlocks := B.notSynchronized
  have hK := va_K.moved hx0.1.alike E.2.2.1
  have hf_M : ∀ w99 ∈ u_ws cn_M ft_M 19, w99.before ([.ref m0, .int w] : List Value).toArray s = true := fun w99 h99 => gw.at G hx0 (fw_M w99 h99) (fo_M w99 h99) _
  subst hsz
  have hA0 := cx_new hD0 hx0.2.1
  have hD := hD0.self (sz := s.heap.size)
  generalize hAe : va_A [(m0, .inr (7, [.int th, .int f1, .int (0 : Int32), .ref rw, .int (0 : Int32), .int (0 : Int32), .int (0 : Int32), .ref ry, .int (0 : Int32), .int (0 : Int32), .ref ti, .int (0 : Int32), .int (0 : Int32), .ref po, .ref su, .ref sq, .ref ch, .ref vt, .ref sh]))] s.heap.size = A at hD hA0 ⊢
  have hA : ∀ q : Nat, s.heap.size ≤ q → A q := fun q h => by rw [← hAe]; exact Or.inr h
  have hS : va_S A s.heap s.heap [] := va_S.rf
  have hl := lv_entry ([.ref m0, .int w]) (n := 2) (Nat.le_of_ble_eq_true rfl)
  rw [lg_entry_eq]
  generalize (lg_sl ([.ref m0, .int w]) ++ List.replicate (2 - (lg_sl ([.ref m0, .int w])).length) Slot.unset).toArray = ls at hl ⊢
  have hl : lv_has ls 2 [(0, .ref m0), (1, .int w)] := hl
  have hP : va_P D kl [(m0, .inr (7, [.int th, .int f1, .int (0 : Int32), .ref rw, .int (0 : Int32), .int (0 : Int32), .int (0 : Int32), .ref ry, .int (0 : Int32), .int (0 : Int32), .ref ti, .int (0 : Int32), .int (0 : Int32), .ref po, .ref su, .ref sq, .ref ch, .ref vt, .ref sh]))] s.heap := hP
  have hml : c.maxLocals = 2 := hml
  refine lv_aload_n hx hb d_M_look_0 rfl (lv_at hl 0 rfl) ?_
  refine lv_iconst (v := (0 : Int32)) hx hb d_M_look_1 (by decide) ?_
  refine va_put (D := D) (ci := 7) (v := .int (0 : Int32)) (ty := .int) (C := cn_M) (T := ft_M) (N := 19) hx hb hf_M (fun _ h => h) fy_M fk_M fn_M hown hK hP hD hS 0 rfl rfl 0 (by decide) (gw.at G hx0 mw_713 rfl _) (fun _ h9 => h9) rfl (by decide +kernel) rfl rfl (Nat.le_of_ble_eq_true rfl) d_M_look_2 (fun H locs hP hD hS => ?_)
  have hP : va_P D kl [(m0, .inr (7, [.int (0 : Int32), .int f1, .int (0 : Int32), .ref rw, .int (0 : Int32), .int (0 : Int32), .int (0 : Int32), .ref ry, .int (0 : Int32), .int (0 : Int32), .ref ti, .int (0 : Int32), .int (0 : Int32), .ref po, .ref su, .ref sq, .ref ch, .ref vt, .ref sh]))] H := hP
  have hD : va_D A [(m0, .inr (7, [.int (0 : Int32), .int f1, .int (0 : Int32), .ref rw, .int (0 : Int32), .int (0 : Int32), .int (0 : Int32), .ref ry, .int (0 : Int32), .int (0 : Int32), .ref ti, .int (0 : Int32), .int (0 : Int32), .ref po, .ref su, .ref sq, .ref ch, .ref vt, .ref sh]))] := hD
  refine lv_aload_n hx hb d_M_look_5 rfl (lv_at hl 0 rfl) ?_
  refine cx_call (D := D) (cl := kl) (ws := _) (wc := [(m0, .inr (7, [.int (0 : Int32), .int f1, .int (0 : Int32), .ref rw, .int (0 : Int32), .int (0 : Int32), .int (0 : Int32), .ref ry, .int (0 : Int32), .int (0 : Int32), .ref ti, .int (0 : Int32), .int (0 : Int32), .ref po, .ref su, .ref sq, .ref ch, .ref vt, .ref sh]))]) (wr := []) (tx_runV (C := cn_M) (b := m0) (As := []) (rest := []) hx hb hml hown (c_M_know0 E H.size m0 rw ry ti po su sq ch vt sh (0 : Int32) f1 h) (cx_C (b0 := b0) G hx0 mw_806 mw_9 ny_M_know (by decide)) (gw.at G hx0 mw_803 rfl _) (gw.at G hx0 mw_805 rfl _) (gw.at G hx0 ms_M_know rfl _) ⟨cx_blind, va_recv hK hP (q0 := 0) (ci := 7) (q := (cn_M, ft_M, 19)) rfl rfl, (cx_pre (s := s) hx0 hP hD hS hA0 [0] rfl rfl (by decide))⟩ rfl rfl hl.1 rfl (lv_room (Nat.le_of_ble_eq_true rfl)) d_M_look_6 ⟨by decide, by decide⟩) hP hD hS hA [0] [] rfl rfl (by decide) (by decide) (fun v t w1 H locs ht hW9 hp hP hD hS => ?_) (fun x t w1 H locs ht hW9 hp hP hD hS => by obtain ⟨h9, -⟩ := hp; cases h9)
  obtain ⟨h9, rfl⟩ := hp
  cases h9
  refine W.eq (g2 := F0 m 9 ls []) rfl ?_
  refine W.widen (k := 0) (n := 0) (by decide) (by decide) ?_
  have hP : va_P D kl [(m0, .inr (7, [.int (0 : Int32), .int f1, .int (0 : Int32), .ref rw, .int (1 : Int32), .int (0 : Int32), .int (0 : Int32), .ref ry, .int (0 : Int32), .int (0 : Int32), .ref ti, .int (0 : Int32), .int (0 : Int32), .ref po, .ref su, .ref sq, .ref ch, .ref vt, .ref sh]))] H := hP
  have hD : va_D A [(m0, .inr (7, [.int (0 : Int32), .int f1, .int (0 : Int32), .ref rw, .int (1 : Int32), .int (0 : Int32), .int (0 : Int32), .ref ry, .int (0 : Int32), .int (0 : Int32), .ref ti, .int (0 : Int32), .int (0 : Int32), .ref po, .ref su, .ref sq, .ref ch, .ref vt, .ref sh]))] := hD
  refine lv_iload_n hx hb d_M_look_9 rfl (lv_at hl 1 rfl) ?_
  refine lv_if_eq (tgt := 18) hx hb d_M_look_10 (by decide) (fun h99 => absurd h99 (lk9 h3).1) (fun _ => ?_)
  refine lv_iload_n hx hb d_M_look_13 rfl (lv_at hl 1 rfl) ?_
  refine lv_iconst (v := (1 : Int32)) hx hb d_M_look_14 (by decide) ?_
  refine lv_icmp_ne (tgt := 34) hx hb d_M_look_15 (by decide) (fun _ => ?_) (fun h99 => absurd h99 (lk9 h3).2.1)
  refine lv_iload_n hx hb d_M_look_34 rfl (lv_at hl 1 rfl) ?_
  refine lv_iconst (v := (2 : Int32)) hx hb d_M_look_35 (by decide) ?_
  refine lv_icmp_ne (tgt := 46) hx hb d_M_look_36 (by decide) (fun _ => ?_) (fun h99 => absurd h99 (lk9 h3).2.2.1)
  refine lv_iload_n hx hb d_M_look_46 rfl (lv_at hl 1 rfl) ?_
  refine lv_iconst (v := (3 : Int32)) hx hb d_M_look_47 (by decide) ?_
  refine lv_icmp_ne (tgt := 63) hx hb d_M_look_48 (by decide) (fun _ => ?_) (fun h99 => absurd h99 (lk9 h3).2.2.2)
  refine lv_iconst (v := (-1 : Int32)) hx hb d_M_look_63 (by decide) ?_
  exact tx_mono (fun _ h => tx_Z.of h) (W.iret (v := (-1 : Int32)) hx hb hr (fun t ht hW => ⟨⟨[(m0, .inr (7, [.int (0 : Int32), .int f1, .int (0 : Int32), .ref rw, .int (1 : Int32), .int (0 : Int32), .int (0 : Int32), .ref ry, .int (0 : Int32), .int (0 : Int32), .ref ti, .int (0 : Int32), .int (0 : Int32), .ref po, .ref su, .ref sq, .ref ch, .ref vt, .ref sh]))], ⟨rfl, rfl⟩, by rw [ht]; exact hP.sub [0] rfl, hD.sub [0] (by decide) rfl⟩, hS.F ht⟩) hS.2.2 d_M_look_64)

set_option maxHeartbeats 4000000 in
set_option maxRecDepth 100000 in
theorem c_M_drop0 {l : Launch} {s0 : State} {b0 : Addr} {D : va_G} {cI cJ cZ : ClassId} {tC tS : Nat} (E : gE l s0 b0 D cI cJ cZ tC tS) (sz : Nat) (m0 : Nat) (rw : Nat) (ry : Nat) (ti : Nat) (po : Nat) (su : Nat) (sq : Nat) (ch : Nat) (vt : Nat) (sh : Nat) (th : Int32) (f1 : Int32) (w0 : Int32) : cx_M l s0 D kl y_M_drop b_M_drop 3 none ({ frames := 0, cells := 0, slots := 0, locals := 0 } : Room) 0 0 [.ref m0, .int w0] [(m0, .inr (7, [.int th, .int f1, .int (0 : Int32), .ref rw, .int (0 : Int32), .int (0 : Int32), .int (0 : Int32), .ref ry, .int (0 : Int32), .int (0 : Int32), .ref ti, .int (0 : Int32), .int (0 : Int32), .ref po, .ref su, .ref sq, .ref ch, .ref vt, .ref sh]))] sz (fun o9 _ w9 => o9 = .returned none ∧ w9 = [(m0, .inr (7, [.int (1 : Int32), .int f1, .int (0 : Int32), .ref rw, .int (0 : Int32), .int (0 : Int32), .int (0 : Int32), .ref ry, .int (0 : Int32), .int (0 : Int32), .ref ti, .int (0 : Int32), .int (0 : Int32), .ref po, .ref su, .ref sq, .ref ch, .ref vt, .ref sh]))]) := by
  refine tx_ofW (cc := b_M_drop) (maxL := 3) (ret := none) (by decide) rfl ?_
  intro p e s m args below meth c s₁ B hml hT hv
  obtain ⟨rfl, hsz, hP, hD0, hx0⟩ := hv
  have hx := B.exec
  have hb := B.bytes
  have hr := B.returns
  have G := E.2.1
  have hown : s.vm.findClass cn_M = some m.cls := findClass_of_methodNamed B.named
  have hlocks := B.notSynchronized
  have hK := va_K.moved hx0.1.alike E.2.2.1
  have hf_M : ∀ w99 ∈ u_ws cn_M ft_M 19, w99.before ([.ref m0, .int w0] : List Value).toArray s = true := fun w99 h99 => gw.at G hx0 (fw_M w99 h99) (fo_M w99 h99) _
  subst hsz
  have hA0 := cx_new hD0 hx0.2.1
  have hD := hD0.self (sz := s.heap.size)
  generalize hAe : va_A [(m0, .inr (7, [.int th, .int f1, .int (0 : Int32), .ref rw, .int (0 : Int32), .int (0 : Int32), .int (0 : Int32), .ref ry, .int (0 : Int32), .int (0 : Int32), .ref ti, .int (0 : Int32), .int (0 : Int32), .ref po, .ref su, .ref sq, .ref ch, .ref vt, .ref sh]))] s.heap.size = A at hD hA0 ⊢
  have hA : ∀ q : Nat, s.heap.size ≤ q → A q := fun q h => by rw [← hAe]; exact Or.inr h
  have hS : va_S A s.heap s.heap [] := va_S.rf
  have hl := lv_entry ([.ref m0, .int w0]) (n := 3) (Nat.le_of_ble_eq_true rfl)
  rw [lg_entry_eq]
  generalize (lg_sl ([.ref m0, .int w0]) ++ List.replicate (3 - (lg_sl ([.ref m0, .int w0])).length) Slot.unset).toArray = ls at hl ⊢
  have hl : lv_has ls 3 [(0, .ref m0), (1, .int w0)] := hl
  have hP : va_P D kl [(m0, .inr (7, [.int th, .int f1, .int (0 : Int32), .ref rw, .int (0 : Int32), .int (0 : Int32), .int (0 : Int32), .ref ry, .int (0 : Int32), .int (0 : Int32), .ref ti, .int (0 : Int32), .int (0 : Int32), .ref po, .ref su, .ref sq, .ref ch, .ref vt, .ref sh]))] s.heap := hP
  have hml : c.maxLocals = 3 := hml
  refine lv_aload_n hx hb d_M_drop_0 rfl (lv_at hl 0 rfl) ?_
  refine lv_iload_n hx hb d_M_drop_1 rfl (lv_at hl 1 rfl) ?_
  refine lv_if_lt (tgt := 13) hx hb d_M_drop_2 (by decide) (fun h_1 => ?_) (fun h_1 => ?_)
  · refine lv_iconst (v := (1 : Int32)) hx hb d_M_drop_13 (by decide) ?_
    refine lv_goto (tgt := 18) hx hb d_M_drop_14 (by decide) ?_
    refine va_put (D := D) (ci := 7) (v := .int (1 : Int32)) (ty := .int) (C := cn_M) (T := ft_M) (N := 19) hx hb hf_M (fun _ h => h) fy_M fk_M fn_M hown hK hP hD hS 0 rfl rfl 0 (by decide) (gw.at G hx0 mw_713 rfl _) (fun _ h9 => h9) rfl (by decide +kernel) rfl rfl (Nat.le_of_ble_eq_true rfl) d_M_drop_18 (fun H locs hP hD hS => ?_)
    have hP : va_P D kl [(m0, .inr (7, [.int (1 : Int32), .int f1, .int (0 : Int32), .ref rw, .int (0 : Int32), .int (0 : Int32), .int (0 : Int32), .ref ry, .int (0 : Int32), .int (0 : Int32), .ref ti, .int (0 : Int32), .int (0 : Int32), .ref po, .ref su, .ref sq, .ref ch, .ref vt, .ref sh]))] H := hP
    have hD : va_D A [(m0, .inr (7, [.int (1 : Int32), .int f1, .int (0 : Int32), .ref rw, .int (0 : Int32), .int (0 : Int32), .int (0 : Int32), .ref ry, .int (0 : Int32), .int (0 : Int32), .ref ti, .int (0 : Int32), .int (0 : Int32), .ref po, .ref su, .ref sq, .ref ch, .ref vt, .ref sh]))] := hD
    refine lv_aload_n hx hb d_M_drop_21 rfl (lv_at hl 0 rfl) ?_
    refine va_get (D := D) (ci := 7) (v := .int (1 : Int32)) (C := cn_M) (T := ft_M) (N := 19) hx hb hf_M (fun _ h => h) hown hK hP 0 rfl rfl 0 (by decide) (gw.at G hx0 mw_713 rfl _) (fun _ h9 => h9) rfl d_M_drop_22 ?_
    refine lv_if_le (tgt := 29) hx hb d_M_drop_25 (by decide) (fun h99 => absurd h99 (by decide)) (fun _ => ?_)
    exact tx_mono (fun _ h => tx_Z.of h) (W.vret hx hb hr (fun t ht hW => ⟨⟨[(m0, .inr (7, [.int (1 : Int32), .int f1, .int (0 : Int32), .ref rw, .int (0 : Int32), .int (0 : Int32), .int (0 : Int32), .ref ry, .int (0 : Int32), .int (0 : Int32), .ref ti, .int (0 : Int32), .int (0 : Int32), .ref po, .ref su, .ref sq, .ref ch, .ref vt, .ref sh]))], ⟨rfl, rfl⟩, by rw [ht]; exact hP.sub [0] rfl, hD.sub [0] (by decide) rfl⟩, hS.F ht⟩) hS.2.2 d_M_drop_28)
  · refine lv_iload_n hx hb d_M_drop_5 rfl (lv_at hl 1 rfl) ?_
    refine lv_aload_n hx hb d_M_drop_6 rfl (lv_at hl 0 rfl) ?_
    refine va_get (D := D) (ci := 7) (v := .int (0 : Int32)) (C := cn_M) (T := ft_M) (N := 19) hx hb hf_M (fun _ h => h) hown hK hP 0 rfl rfl 2 (by decide) (gw.at G hx0 mw_715 rfl _) (fun _ h9 => h9) rfl d_M_drop_7 ?_
    refine lv_icmp_lt (tgt := 17) hx hb d_M_drop_10 (by decide) (fun h99 => absurd h99 (by first | assumption | exact Int32.not_le.mpr (by assumption) | exact Int32.not_lt.mpr (by assumption) | exact Int32.not_le.mp (by assumption) | exact Int32.not_lt.mp (by assumption))) (fun _ => ?_)
    refine lv_iconst (v := (1 : Int32)) hx hb d_M_drop_13 (by decide) ?_
    refine lv_goto (tgt := 18) hx hb d_M_drop_14 (by decide) ?_
    refine va_put (D := D) (ci := 7) (v := .int (1 : Int32)) (ty := .int) (C := cn_M) (T := ft_M) (N := 19) hx hb hf_M (fun _ h => h) fy_M fk_M fn_M hown hK hP hD hS 0 rfl rfl 0 (by decide) (gw.at G hx0 mw_713 rfl _) (fun _ h9 => h9) rfl (by decide +kernel) rfl rfl (Nat.le_of_ble_eq_true rfl) d_M_drop_18 (fun H locs hP hD hS => ?_)
    have hP : va_P D kl [(m0, .inr (7, [.int (1 : Int32), .int f1, .int (0 : Int32), .ref rw, .int (0 : Int32), .int (0 : Int32), .int (0 : Int32), .ref ry, .int (0 : Int32), .int (0 : Int32), .ref ti, .int (0 : Int32), .int (0 : Int32), .ref po, .ref su, .ref sq, .ref ch, .ref vt, .ref sh]))] H := hP
    have hD : va_D A [(m0, .inr (7, [.int (1 : Int32), .int f1, .int (0 : Int32), .ref rw, .int (0 : Int32), .int (0 : Int32), .int (0 : Int32), .ref ry, .int (0 : Int32), .int (0 : Int32), .ref ti, .int (0 : Int32), .int (0 : Int32), .ref po, .ref su, .ref sq, .ref ch, .ref vt, .ref sh]))] := hD
    refine lv_aload_n hx hb d_M_drop_21 rfl (lv_at hl 0 rfl) ?_
    refine va_get (D := D) (ci := 7) (v := .int (1 : Int32)) (C := cn_M) (T := ft_M) (N := 19) hx hb hf_M (fun _ h => h) hown hK hP 0 rfl rfl 0 (by decide) (gw.at G hx0 mw_713 rfl _) (fun _ h9 => h9) rfl d_M_drop_22 ?_
    refine lv_if_le (tgt := 29) hx hb d_M_drop_25 (by decide) (fun h99 => absurd h99 (by decide)) (fun _ => ?_)
    exact tx_mono (fun _ h => tx_Z.of h) (W.vret hx hb hr (fun t ht hW => ⟨⟨[(m0, .inr (7, [.int (1 : Int32), .int f1, .int (0 : Int32), .ref rw, .int (0 : Int32), .int (0 : Int32), .int (0 : Int32), .ref ry, .int (0 : Int32), .int (0 : Int32), .ref ti, .int (0 : Int32), .int (0 : Int32), .ref po, .ref su, .ref sq, .ref ch, .ref vt, .ref sh]))], ⟨rfl, rfl⟩, by rw [ht]; exact hP.sub [0] rfl, hD.sub [0] (by decide) rfl⟩, hS.F ht⟩) hS.2.2 d_M_drop_28)

set_option maxHeartbeats 4000000 in
set_option maxRecDepth 100000 in
theorem c_M_row0 {l : Launch} {s0 : State} {b0 : Addr} {D : va_G} {cI cJ cZ : ClassId} {tC tS : Nat} (E : gE l s0 b0 D cI cJ cZ tC tS) (sz : Nat) (m0 : Nat) (rw : Nat) (ry : Nat) (ti : Nat) (po : Nat) (su : Nat) (sq : Nat) (ch : Nat) (vt : Nat) (sh : Nat) (th : Int32) (f1 : Int32) (w0 : Int32) (w1 : Int32) : cx_M l s0 D kl y_M_row b_M_row 3 (some .int) ({ frames := 0, cells := 0, slots := 0, locals := 0 } : Room) 0 0 [.ref m0, .int w0, .int w1] [(m0, .inr (7, [.int th, .int f1, .int (0 : Int32), .ref rw, .int (0 : Int32), .int (0 : Int32), .int (0 : Int32), .ref ry, .int (0 : Int32), .int (0 : Int32), .ref ti, .int (0 : Int32), .int (0 : Int32), .ref po, .ref su, .ref sq, .ref ch, .ref vt, .ref sh]))] sz (fun o9 _ w9 => o9 = .returned (some (.int (0 : Int32))) ∧ w9 = [(m0, .inr (7, [.int (1 : Int32), .int f1, .int (0 : Int32), .ref rw, .int (0 : Int32), .int (0 : Int32), .int (0 : Int32), .ref ry, .int (0 : Int32), .int (0 : Int32), .ref ti, .int (0 : Int32), .int (0 : Int32), .ref po, .ref su, .ref sq, .ref ch, .ref vt, .ref sh]))]) := by
  refine tx_ofW (cc := b_M_row) (maxL := 3) (ret := (some .int)) (by decide) rfl ?_
  intro p e s m args below meth c s₁ B hml hT hv
  obtain ⟨rfl, hsz, hP, hD0, hx0⟩ := hv
  have hx := B.exec
  have hb := B.bytes
  have hr := B.returns
  have G := E.2.1
  have hown : s.vm.findClass cn_M = some m.cls := findClass_of_methodNamed B.named
  have hlocks := B.notSynchronized
  have hK := va_K.moved hx0.1.alike E.2.2.1
  have hf_M : ∀ w99 ∈ u_ws cn_M ft_M 19, w99.before ([.ref m0, .int w0, .int w1] : List Value).toArray s = true := fun w99 h99 => gw.at G hx0 (fw_M w99 h99) (fo_M w99 h99) _
  subst hsz
  have hA0 := cx_new hD0 hx0.2.1
  have hD := hD0.self (sz := s.heap.size)
  generalize hAe : va_A [(m0, .inr (7, [.int th, .int f1, .int (0 : Int32), .ref rw, .int (0 : Int32), .int (0 : Int32), .int (0 : Int32), .ref ry, .int (0 : Int32), .int (0 : Int32), .ref ti, .int (0 : Int32), .int (0 : Int32), .ref po, .ref su, .ref sq, .ref ch, .ref vt, .ref sh]))] s.heap.size = A at hD hA0 ⊢
  have hA : ∀ q : Nat, s.heap.size ≤ q → A q := fun q h => by rw [← hAe]; exact Or.inr h
  have hS : va_S A s.heap s.heap [] := va_S.rf
  have hl := lv_entry ([.ref m0, .int w0, .int w1]) (n := 3) (Nat.le_of_ble_eq_true rfl)
  rw [lg_entry_eq]
  generalize (lg_sl ([.ref m0, .int w0, .int w1]) ++ List.replicate (3 - (lg_sl ([.ref m0, .int w0, .int w1])).length) Slot.unset).toArray = ls at hl ⊢
  have hl : lv_has ls 3 [(0, .ref m0), (1, .int w0), (2, .int w1)] := hl
  have hP : va_P D kl [(m0, .inr (7, [.int th, .int f1, .int (0 : Int32), .ref rw, .int (0 : Int32), .int (0 : Int32), .int (0 : Int32), .ref ry, .int (0 : Int32), .int (0 : Int32), .ref ti, .int (0 : Int32), .int (0 : Int32), .ref po, .ref su, .ref sq, .ref ch, .ref vt, .ref sh]))] s.heap := hP
  have hml : c.maxLocals = 3 := hml
  refine lv_aload_n hx hb d_M_row_0 rfl (lv_at hl 0 rfl) ?_
  refine lv_iload_n hx hb d_M_row_1 rfl (lv_at hl 1 rfl) ?_
  refine lv_if_lt (tgt := 25) hx hb d_M_row_2 (by decide) (fun h_1 => ?_) (fun h_1 => ?_)
  · refine lv_iconst (v := (1 : Int32)) hx hb d_M_row_25 (by decide) ?_
    refine lv_goto (tgt := 30) hx hb d_M_row_26 (by decide) ?_
    refine va_put (D := D) (ci := 7) (v := .int (1 : Int32)) (ty := .int) (C := cn_M) (T := ft_M) (N := 19) hx hb hf_M (fun _ h => h) fy_M fk_M fn_M hown hK hP hD hS 0 rfl rfl 0 (by decide) (gw.at G hx0 mw_713 rfl _) (fun _ h9 => h9) rfl (by decide +kernel) rfl rfl (Nat.le_of_ble_eq_true rfl) d_M_row_30 (fun H locs hP hD hS => ?_)
    have hP : va_P D kl [(m0, .inr (7, [.int (1 : Int32), .int f1, .int (0 : Int32), .ref rw, .int (0 : Int32), .int (0 : Int32), .int (0 : Int32), .ref ry, .int (0 : Int32), .int (0 : Int32), .ref ti, .int (0 : Int32), .int (0 : Int32), .ref po, .ref su, .ref sq, .ref ch, .ref vt, .ref sh]))] H := hP
    have hD : va_D A [(m0, .inr (7, [.int (1 : Int32), .int f1, .int (0 : Int32), .ref rw, .int (0 : Int32), .int (0 : Int32), .int (0 : Int32), .ref ry, .int (0 : Int32), .int (0 : Int32), .ref ti, .int (0 : Int32), .int (0 : Int32), .ref po, .ref su, .ref sq, .ref ch, .ref vt, .ref sh]))] := hD
    refine lv_aload_n hx hb d_M_row_33 rfl (lv_at hl 0 rfl) ?_
    refine va_get (D := D) (ci := 7) (v := .int (1 : Int32)) (C := cn_M) (T := ft_M) (N := 19) hx hb hf_M (fun _ h => h) hown hK hP 0 rfl rfl 0 (by decide) (gw.at G hx0 mw_713 rfl _) (fun _ h9 => h9) rfl d_M_row_34 ?_
    refine lv_if_le (tgt := 44) hx hb d_M_row_37 (by decide) (fun h99 => absurd h99 (by decide)) (fun _ => ?_)
    refine lv_iconst (v := (0 : Int32)) hx hb d_M_row_40 (by decide) ?_
    refine lv_goto (tgt := 54) hx hb d_M_row_41 (by decide) ?_
    exact tx_mono (fun _ h => tx_Z.of h) (W.iret (v := (0 : Int32)) hx hb hr (fun t ht hW => ⟨⟨[(m0, .inr (7, [.int (1 : Int32), .int f1, .int (0 : Int32), .ref rw, .int (0 : Int32), .int (0 : Int32), .int (0 : Int32), .ref ry, .int (0 : Int32), .int (0 : Int32), .ref ti, .int (0 : Int32), .int (0 : Int32), .ref po, .ref su, .ref sq, .ref ch, .ref vt, .ref sh]))], ⟨rfl, rfl⟩, by rw [ht]; exact hP.sub [0] rfl, hD.sub [0] (by decide) rfl⟩, hS.F ht⟩) hS.2.2 d_M_row_54)
  · refine lv_iload_n hx hb d_M_row_5 rfl (lv_at hl 1 rfl) ?_
    refine lv_aload_n hx hb d_M_row_6 rfl (lv_at hl 0 rfl) ?_
    refine va_get (D := D) (ci := 7) (v := .int (0 : Int32)) (C := cn_M) (T := ft_M) (N := 19) hx hb hf_M (fun _ h => h) hown hK hP 0 rfl rfl 2 (by decide) (gw.at G hx0 mw_715 rfl _) (fun _ h9 => h9) rfl d_M_row_7 ?_
    refine lv_icmp_ge (tgt := 25) hx hb d_M_row_10 (by decide) (fun _ => ?_) (fun h99 => absurd h99 (not_not_intro (by first | assumption | exact Int32.not_le.mpr (by assumption) | exact Int32.not_lt.mpr (by assumption) | exact Int32.not_le.mp (by assumption) | exact Int32.not_lt.mp (by assumption))))
    refine lv_iconst (v := (1 : Int32)) hx hb d_M_row_25 (by decide) ?_
    refine lv_goto (tgt := 30) hx hb d_M_row_26 (by decide) ?_
    refine va_put (D := D) (ci := 7) (v := .int (1 : Int32)) (ty := .int) (C := cn_M) (T := ft_M) (N := 19) hx hb hf_M (fun _ h => h) fy_M fk_M fn_M hown hK hP hD hS 0 rfl rfl 0 (by decide) (gw.at G hx0 mw_713 rfl _) (fun _ h9 => h9) rfl (by decide +kernel) rfl rfl (Nat.le_of_ble_eq_true rfl) d_M_row_30 (fun H locs hP hD hS => ?_)
    have hP : va_P D kl [(m0, .inr (7, [.int (1 : Int32), .int f1, .int (0 : Int32), .ref rw, .int (0 : Int32), .int (0 : Int32), .int (0 : Int32), .ref ry, .int (0 : Int32), .int (0 : Int32), .ref ti, .int (0 : Int32), .int (0 : Int32), .ref po, .ref su, .ref sq, .ref ch, .ref vt, .ref sh]))] H := hP
    have hD : va_D A [(m0, .inr (7, [.int (1 : Int32), .int f1, .int (0 : Int32), .ref rw, .int (0 : Int32), .int (0 : Int32), .int (0 : Int32), .ref ry, .int (0 : Int32), .int (0 : Int32), .ref ti, .int (0 : Int32), .int (0 : Int32), .ref po, .ref su, .ref sq, .ref ch, .ref vt, .ref sh]))] := hD
    refine lv_aload_n hx hb d_M_row_33 rfl (lv_at hl 0 rfl) ?_
    refine va_get (D := D) (ci := 7) (v := .int (1 : Int32)) (C := cn_M) (T := ft_M) (N := 19) hx hb hf_M (fun _ h => h) hown hK hP 0 rfl rfl 0 (by decide) (gw.at G hx0 mw_713 rfl _) (fun _ h9 => h9) rfl d_M_row_34 ?_
    refine lv_if_le (tgt := 44) hx hb d_M_row_37 (by decide) (fun h99 => absurd h99 (by decide)) (fun _ => ?_)
    refine lv_iconst (v := (0 : Int32)) hx hb d_M_row_40 (by decide) ?_
    refine lv_goto (tgt := 54) hx hb d_M_row_41 (by decide) ?_
    exact tx_mono (fun _ h => tx_Z.of h) (W.iret (v := (0 : Int32)) hx hb hr (fun t ht hW => ⟨⟨[(m0, .inr (7, [.int (1 : Int32), .int f1, .int (0 : Int32), .ref rw, .int (0 : Int32), .int (0 : Int32), .int (0 : Int32), .ref ry, .int (0 : Int32), .int (0 : Int32), .ref ti, .int (0 : Int32), .int (0 : Int32), .ref po, .ref su, .ref sq, .ref ch, .ref vt, .ref sh]))], ⟨rfl, rfl⟩, by rw [ht]; exact hP.sub [0] rfl, hD.sub [0] (by decide) rfl⟩, hS.F ht⟩) hS.2.2 d_M_row_54)

set_option maxHeartbeats 4000000 in
set_option maxRecDepth 100000 in
theorem c_M_holdsAt2 {l : Launch} {s0 : State} {b0 : Addr} {D : va_G} {cI cJ cZ : ClassId} {tC tS : Nat} (E : gE l s0 b0 D cI cJ cZ tC tS) (sz : Nat) (m0 : Nat) (rw : Nat) (ry : Nat) (ti : Nat) (po : Nat) (su : Nat) (sq : Nat) (ch : Nat) (vt : Nat) (sh : Nat) (y : Nat) : cx_M l s0 D kl y_M_holdsAt b_M_holdsAt 5 (some .boolean) ({ frames := 0, cells := 0, slots := 0, locals := 0 } : Room) 0 0 [.ref m0, .ref y, .int (0 : Int32)] [(m0, .inr (7, [.int (0 : Int32), .int (2 : Int32), .int (0 : Int32), .ref rw, .int (0 : Int32), .int (0 : Int32), .int (0 : Int32), .ref ry, .int (0 : Int32), .int (0 : Int32), .ref ti, .int (0 : Int32), .int (0 : Int32), .ref po, .ref su, .ref sq, .ref ch, .ref vt, .ref sh]))] sz (fun o9 _ w9 => o9 = .returned (some (.int (1 : Int32))) ∧ w9 = [(m0, .inr (7, [.int (0 : Int32), .int (2 : Int32), .int (0 : Int32), .ref rw, .int (0 : Int32), .int (0 : Int32), .int (0 : Int32), .ref ry, .int (0 : Int32), .int (0 : Int32), .ref ti, .int (0 : Int32), .int (0 : Int32), .ref po, .ref su, .ref sq, .ref ch, .ref vt, .ref sh]))]) := by
  refine tx_ofW (cc := b_M_holdsAt) (maxL := 5) (ret := (some .boolean)) (by decide) rfl ?_
  intro p e s m args below meth c s₁ B hml hT hv
  obtain ⟨rfl, hsz, hP, hD0, hx0⟩ := hv
  have hx := B.exec
  have hb := B.bytes
  have hr := B.returns
  have G := E.2.1
  have hown : s.vm.findClass cn_M = some m.cls := findClass_of_methodNamed B.named
  have hlocks := B.notSynchronized
  have hK := va_K.moved hx0.1.alike E.2.2.1
  have hf_M : ∀ w99 ∈ u_ws cn_M ft_M 19, w99.before ([.ref m0, .ref y, .int (0 : Int32)] : List Value).toArray s = true := fun w99 h99 => gw.at G hx0 (fw_M w99 h99) (fo_M w99 h99) _
  subst hsz
  have hA0 := cx_new hD0 hx0.2.1
  have hD := hD0.self (sz := s.heap.size)
  generalize hAe : va_A [(m0, .inr (7, [.int (0 : Int32), .int (2 : Int32), .int (0 : Int32), .ref rw, .int (0 : Int32), .int (0 : Int32), .int (0 : Int32), .ref ry, .int (0 : Int32), .int (0 : Int32), .ref ti, .int (0 : Int32), .int (0 : Int32), .ref po, .ref su, .ref sq, .ref ch, .ref vt, .ref sh]))] s.heap.size = A at hD hA0 ⊢
  have hA : ∀ q : Nat, s.heap.size ≤ q → A q := fun q h => by rw [← hAe]; exact Or.inr h
  have hS : va_S A s.heap s.heap [] := va_S.rf
  have hl := lv_entry ([.ref m0, .ref y, .int (0 : Int32)]) (n := 5) (Nat.le_of_ble_eq_true rfl)
  rw [lg_entry_eq]
  generalize (lg_sl ([.ref m0, .ref y, .int (0 : Int32)]) ++ List.replicate (5 - (lg_sl ([.ref m0, .ref y, .int (0 : Int32)])).length) Slot.unset).toArray = ls at hl ⊢
  have hl : lv_has ls 5 [(0, .ref m0), (1, .ref y), (2, .int (0 : Int32))] := hl
  have hP : va_P D kl [(m0, .inr (7, [.int (0 : Int32), .int (2 : Int32), .int (0 : Int32), .ref rw, .int (0 : Int32), .int (0 : Int32), .int (0 : Int32), .ref ry, .int (0 : Int32), .int (0 : Int32), .ref ti, .int (0 : Int32), .int (0 : Int32), .ref po, .ref su, .ref sq, .ref ch, .ref vt, .ref sh]))] s.heap := hP
  have hml : c.maxLocals = 5 := hml
  refine lv_iconst (v := (1 : Int32)) hx hb d_M_holdsAt_0 (by decide) ?_
  refine lv_istore_n (lv' := [(3, .int (1 : Int32)), (0, .ref m0), (1, .ref y), (2, .int (0 : Int32))]) hx hb d_M_holdsAt_1 rfl hl (by decide) rfl (fun ls hl => ?_)
  refine lv_iconst (v := (0 : Int32)) hx hb d_M_holdsAt_2 (by decide) ?_
  refine lv_istore (lv' := [(4, .int (0 : Int32)), (3, .int (1 : Int32)), (0, .ref m0), (1, .ref y), (2, .int (0 : Int32))]) hx hb d_M_holdsAt_3 hl (by decide) rfl (fun ls hl => ?_)
  refine lv_iload hx hb d_M_holdsAt_5 (lv_at hl 0 rfl) ?_
  refine lv_aload_n hx hb d_M_holdsAt_7 rfl (lv_at hl 2 rfl) ?_
  refine va_get (D := D) (ci := 7) (v := .int (0 : Int32)) (C := cn_M) (T := ft_M) (N := 19) hx hb hf_M (fun _ h => h) hown hK hP 0 rfl rfl 2 (by decide) (gw.at G hx0 mw_715 rfl _) (fun _ h9 => h9) rfl d_M_holdsAt_8 ?_
  refine lv_icmp_ge (tgt := 43) hx hb d_M_holdsAt_11 (by decide) (fun _ => ?_) (fun h99 => absurd h99 (by decide))
  refine lv_iload_n hx hb d_M_holdsAt_43 rfl (lv_at hl 1 rfl) ?_
  exact tx_mono (fun _ h => tx_Z.of h) (W.zret (v := (1 : Int32)) hx hb hr (by decide) (fun t ht hW => ⟨⟨[(m0, .inr (7, [.int (0 : Int32), .int (2 : Int32), .int (0 : Int32), .ref rw, .int (0 : Int32), .int (0 : Int32), .int (0 : Int32), .ref ry, .int (0 : Int32), .int (0 : Int32), .ref ti, .int (0 : Int32), .int (0 : Int32), .ref po, .ref su, .ref sq, .ref ch, .ref vt, .ref sh]))], ⟨rfl, rfl⟩, by rw [ht]; exact hP.sub [0] rfl, hD.sub [0] (by decide) rfl⟩, hS.F ht⟩) hS.2.2 d_M_holdsAt_44)

set_option maxHeartbeats 4000000 in
set_option maxRecDepth 100000 in
theorem c_M_holds2 {l : Launch} {s0 : State} {b0 : Addr} {D : va_G} {cI cJ cZ : ClassId} {tC tS : Nat} (E : gE l s0 b0 D cI cJ cZ tC tS) (sz : Nat) (m0 : Nat) (rw : Nat) (ry : Nat) (ti : Nat) (po : Nat) (su : Nat) (sq : Nat) (ch : Nat) (vt : Nat) (sh : Nat) (th : Int32) (a : Int32) (b : Int32) (c2 : Int32) (d2 : Int32) (vf : Nat → Int32) : cx_M l s0 D kl y_M_holds b_M_holds 5 (some .boolean) ({ frames := 1, cells := 0, slots := 0, locals := 24 } : Room) 0 0 [.ref m0, .int a, .int b, .int c2, .int d2] [(m0, .inr (7, [.int th, .int (2 : Int32), .int (0 : Int32), .ref rw, .int (0 : Int32), .int (0 : Int32), .int (0 : Int32), .ref ry, .int (0 : Int32), .int (0 : Int32), .ref ti, .int (0 : Int32), .int (0 : Int32), .ref po, .ref su, .ref sq, .ref ch, .ref vt, .ref sh])), (vt, .inl (cI, 4, .inl vf))] sz (fun o9 _ w9 => o9 = .returned (some (.int (1 : Int32))) ∧ w9 = [(m0, .inr (7, [.int (0 : Int32), .int (2 : Int32), .int (0 : Int32), .ref rw, .int (0 : Int32), .int (0 : Int32), .int (0 : Int32), .ref ry, .int (0 : Int32), .int (0 : Int32), .ref ti, .int (0 : Int32), .int (0 : Int32), .ref po, .ref su, .ref sq, .ref ch, .ref vt, .ref sh]))]) := by
  refine tx_ofW (cc := b_M_holds) (maxL := 5) (ret := (some .boolean)) (by decide) rfl ?_
  intro p e s m args below meth c s₁ B hml hT hv
  obtain ⟨rfl, hsz, hP, hD0, hx0⟩ := hv
  have hx := B.exec
  have hb := B.bytes
  have hr := B.returns
  have G := E.2.1
  have hown : s.vm.findClass cn_M = some m.cls := findClass_of_methodNamed B.named
  have hlocks := B.notSynchronized
  have hK := va_K.moved hx0.1.alike E.2.2.1
  have hf_M : ∀ w99 ∈ u_ws cn_M ft_M 19, w99.before ([.ref m0, .int a, .int b, .int c2, .int d2] : List Value).toArray s = true := fun w99 h99 => gw.at G hx0 (fw_M w99 h99) (fo_M w99 h99) _
  subst hsz
  have hA0 := cx_new hD0 hx0.2.1
  have hD := hD0.self (sz := s.heap.size)
  generalize hAe : va_A [(m0, .inr (7, [.int th, .int (2 : Int32), .int (0 : Int32), .ref rw, .int (0 : Int32), .int (0 : Int32), .int (0 : Int32), .ref ry, .int (0 : Int32), .int (0 : Int32), .ref ti, .int (0 : Int32), .int (0 : Int32), .ref po, .ref su, .ref sq, .ref ch, .ref vt, .ref sh])), (vt, .inl (cI, 4, .inl vf))] s.heap.size = A at hD hA0 ⊢
  have hA : ∀ q : Nat, s.heap.size ≤ q → A q := fun q h => by rw [← hAe]; exact Or.inr h
  have hS : va_S A s.heap s.heap [] := va_S.rf
  have hl := lv_entry ([.ref m0, .int a, .int b, .int c2, .int d2]) (n := 5) (Nat.le_of_ble_eq_true rfl)
  rw [lg_entry_eq]
  generalize (lg_sl ([.ref m0, .int a, .int b, .int c2, .int d2]) ++ List.replicate (5 - (lg_sl ([.ref m0, .int a, .int b, .int c2, .int d2])).length) Slot.unset).toArray = ls at hl ⊢
  have hl : lv_has ls 5 [(0, .ref m0), (1, .int a), (2, .int b), (3, .int c2), (4, .int d2)] := hl
  have hP : va_P D kl [(m0, .inr (7, [.int th, .int (2 : Int32), .int (0 : Int32), .ref rw, .int (0 : Int32), .int (0 : Int32), .int (0 : Int32), .ref ry, .int (0 : Int32), .int (0 : Int32), .ref ti, .int (0 : Int32), .int (0 : Int32), .ref po, .ref su, .ref sq, .ref ch, .ref vt, .ref sh])), (vt, .inl (cI, 4, .inl vf))] s.heap := hP
  have hml : c.maxLocals = 5 := hml
  refine lv_aload_n hx hb d_M_holds_0 rfl (lv_at hl 0 rfl) ?_
  refine lv_iconst (v := (0 : Int32)) hx hb d_M_holds_1 (by decide) ?_
  refine va_put (D := D) (ci := 7) (v := .int (0 : Int32)) (ty := .int) (C := cn_M) (T := ft_M) (N := 19) hx hb hf_M (fun _ h => h) fy_M fk_M fn_M hown hK hP hD hS 0 rfl rfl 0 (by decide) (gw.at G hx0 mw_713 rfl _) (fun _ h9 => h9) rfl (by decide +kernel) rfl rfl (Nat.le_of_ble_eq_true rfl) d_M_holds_2 (fun H locs hP hD hS => ?_)
  have hP : va_P D kl [(m0, .inr (7, [.int (0 : Int32), .int (2 : Int32), .int (0 : Int32), .ref rw, .int (0 : Int32), .int (0 : Int32), .int (0 : Int32), .ref ry, .int (0 : Int32), .int (0 : Int32), .ref ti, .int (0 : Int32), .int (0 : Int32), .ref po, .ref su, .ref sq, .ref ch, .ref vt, .ref sh])), (vt, .inl (cI, 4, .inl vf))] H := hP
  have hD : va_D A [(m0, .inr (7, [.int (0 : Int32), .int (2 : Int32), .int (0 : Int32), .ref rw, .int (0 : Int32), .int (0 : Int32), .int (0 : Int32), .ref ry, .int (0 : Int32), .int (0 : Int32), .ref ti, .int (0 : Int32), .int (0 : Int32), .ref po, .ref su, .ref sq, .ref ch, .ref vt, .ref sh])), (vt, .inl (cI, 4, .inl vf))] := hD
  refine lv_aload_n hx hb d_M_holds_5 rfl (lv_at hl 0 rfl) ?_
  refine lv_iload_n hx hb d_M_holds_6 rfl (lv_at hl 1 rfl) ?_
  refine lv_iload_n hx hb d_M_holds_7 rfl (lv_at hl 2 rfl) ?_
  refine lv_iload_n hx hb d_M_holds_8 rfl (lv_at hl 3 rfl) ?_
  refine lv_iload hx hb d_M_holds_9 (lv_at hl 4 rfl) ?_
  refine cx_call (D := D) (cl := kl) (ws := _) (wc := [(m0, .inr (7, [.int (0 : Int32), .int (2 : Int32), .int (0 : Int32), .ref rw, .int (0 : Int32), .int (0 : Int32), .int (0 : Int32), .ref ry, .int (0 : Int32), .int (0 : Int32), .ref ti, .int (0 : Int32), .int (0 : Int32), .ref po, .ref su, .ref sq, .ref ch, .ref vt, .ref sh])), (vt, .inl (cI, 4, .inl vf))]) (wr := []) (tx_runV (C := cn_M) (b := m0) (As := [.int a, .int b, .int c2, .int d2]) (rest := []) hx hb hml hown (c_M_set2 E H.size m0 rw ry ti po su sq ch vt sh (0 : Int32) a b c2 d2 vf ) (cx_C (b0 := b0) G hx0 mw_783 mw_9 ny_M_set (by decide)) (gw.at G hx0 mw_780 rfl _) (gw.at G hx0 mw_782 rfl _) (gw.at G hx0 ms_M_set rfl _) ⟨cx_blind, va_recv hK hP (q0 := 0) (ci := 7) (q := (cn_M, ft_M, 19)) rfl rfl, (cx_pre (s := s) hx0 hP hD hS hA0 [0, 1] rfl rfl (by decide))⟩ rfl rfl hl.1 rfl (lv_room (Nat.le_of_ble_eq_true rfl)) d_M_holds_11 ⟨by decide, by decide⟩) hP hD hS hA [0, 1] [] rfl rfl (by decide) (by decide) (fun v t w1 H locs ht hW9 hp hP hD hS => ?_) (fun x t w1 H locs ht hW9 hp hP hD hS => by obtain ⟨h9, -⟩ := hp; cases h9)
  obtain ⟨h9, rfl⟩ := hp
  cases h9
  refine W.eq (g2 := F0 m 14 ls []) rfl ?_
  refine W.widen (k := 0) (n := 0) (by decide) (by decide) ?_
  have hP : va_P D kl [(m0, .inr (7, [.int (0 : Int32), .int (2 : Int32), .int (0 : Int32), .ref rw, .int (0 : Int32), .int (0 : Int32), .int (0 : Int32), .ref ry, .int (0 : Int32), .int (0 : Int32), .ref ti, .int (0 : Int32), .int (0 : Int32), .ref po, .ref su, .ref sq, .ref ch, .ref vt, .ref sh])), (vt, .inl (cI, 4, .inl (upd (upd (upd (upd vf 0 a) 1 b) 2 (0 : Int32)) 3 (0 : Int32))))] H := hP
  have hD : va_D A [(m0, .inr (7, [.int (0 : Int32), .int (2 : Int32), .int (0 : Int32), .ref rw, .int (0 : Int32), .int (0 : Int32), .int (0 : Int32), .ref ry, .int (0 : Int32), .int (0 : Int32), .ref ti, .int (0 : Int32), .int (0 : Int32), .ref po, .ref su, .ref sq, .ref ch, .ref vt, .ref sh])), (vt, .inl (cI, 4, .inl (upd (upd (upd (upd vf 0 a) 1 b) 2 (0 : Int32)) 3 (0 : Int32))))] := hD
  refine lv_aload_n hx hb d_M_holds_14 rfl (lv_at hl 0 rfl) ?_
  refine lv_aload_n hx hb d_M_holds_15 rfl (lv_at hl 0 rfl) ?_
  refine va_get (D := D) (ci := 7) (v := .ref vt) (C := cn_M) (T := ft_M) (N := 19) hx hb hf_M (fun _ h => h) hown hK hP 0 rfl rfl 17 (by decide) (gw.at G hx0 mw_730 rfl _) (fun _ h9 => h9) rfl d_M_holds_16 ?_
  refine lv_iconst (v := (0 : Int32)) hx hb d_M_holds_19 (by decide) ?_
  refine cx_call (D := D) (cl := kl) (ws := _) (wc := [(m0, .inr (7, [.int (0 : Int32), .int (2 : Int32), .int (0 : Int32), .ref rw, .int (0 : Int32), .int (0 : Int32), .int (0 : Int32), .ref ry, .int (0 : Int32), .int (0 : Int32), .ref ti, .int (0 : Int32), .int (0 : Int32), .ref po, .ref su, .ref sq, .ref ch, .ref vt, .ref sh]))]) (wr := [(vt, .inl (cI, 4, .inl (upd (upd (upd (upd vf 0 a) 1 b) 2 (0 : Int32)) 3 (0 : Int32))))]) (tx_runV (C := cn_M) (b := m0) (As := [.ref vt, .int (0 : Int32)]) (rest := []) hx hb hml hown (c_M_holdsAt2 E H.size m0 rw ry ti po su sq ch vt sh vt ) (cx_C (b0 := b0) G hx0 mw_836 mw_9 ny_M_holdsAt (by decide)) (gw.at G hx0 mw_833 rfl _) (gw.at G hx0 mw_835 rfl _) (gw.at G hx0 ms_M_holdsAt rfl _) ⟨cx_blind, va_recv hK hP (q0 := 0) (ci := 7) (q := (cn_M, ft_M, 19)) rfl rfl, (cx_pre (s := s) hx0 hP hD hS hA0 [0] rfl rfl (by decide))⟩ rfl rfl hl.1 rfl (lv_room (Nat.le_of_ble_eq_true rfl)) d_M_holds_20 ⟨by decide, by decide⟩) hP hD hS hA [0] [1] rfl rfl (by decide) (by decide) (fun v t w1 H locs ht hW9 hp hP hD hS => ?_) (fun x t w1 H locs ht hW9 hp hP hD hS => by obtain ⟨h9, -⟩ := hp; cases h9)
  obtain ⟨h9, rfl⟩ := hp
  cases h9
  refine W.eq (g2 := F0 m 23 ls [.int (1 : Int32)]) rfl ?_
  refine W.widen (k := 0) (n := 0) (by decide) (by decide) ?_
  have hP : va_P D kl [(vt, .inl (cI, 4, .inl (upd (upd (upd (upd vf 0 a) 1 b) 2 (0 : Int32)) 3 (0 : Int32)))), (m0, .inr (7, [.int (0 : Int32), .int (2 : Int32), .int (0 : Int32), .ref rw, .int (0 : Int32), .int (0 : Int32), .int (0 : Int32), .ref ry, .int (0 : Int32), .int (0 : Int32), .ref ti, .int (0 : Int32), .int (0 : Int32), .ref po, .ref su, .ref sq, .ref ch, .ref vt, .ref sh]))] H := hP
  have hD : va_D A [(vt, .inl (cI, 4, .inl (upd (upd (upd (upd vf 0 a) 1 b) 2 (0 : Int32)) 3 (0 : Int32)))), (m0, .inr (7, [.int (0 : Int32), .int (2 : Int32), .int (0 : Int32), .ref rw, .int (0 : Int32), .int (0 : Int32), .int (0 : Int32), .ref ry, .int (0 : Int32), .int (0 : Int32), .ref ti, .int (0 : Int32), .int (0 : Int32), .ref po, .ref su, .ref sq, .ref ch, .ref vt, .ref sh]))] := hD
  exact tx_mono (fun _ h => tx_Z.of h) (W.zret (v := (1 : Int32)) hx hb hr (by decide) (fun t ht hW => ⟨⟨[(m0, .inr (7, [.int (0 : Int32), .int (2 : Int32), .int (0 : Int32), .ref rw, .int (0 : Int32), .int (0 : Int32), .int (0 : Int32), .ref ry, .int (0 : Int32), .int (0 : Int32), .ref ti, .int (0 : Int32), .int (0 : Int32), .ref po, .ref su, .ref sq, .ref ch, .ref vt, .ref sh]))], ⟨rfl, rfl⟩, by rw [ht]; exact hP.sub [1] rfl, hD.sub [1] (by decide) rfl⟩, hS.F ht⟩) hS.2.2 d_M_holds_23)

set_option maxHeartbeats 4000000 in
set_option maxRecDepth 100000 in
theorem c_M_least2_a {l : Launch} {s0 : State} {b0 : Addr} {D : va_G} {cI cJ cZ : ClassId} {tC tS : Nat} (E : gE l s0 b0 D cI cJ cZ tC tS) (sz : Nat) (m0 : Nat) (rw : Nat) (ry : Nat) (ti : Nat) (po : Nat) (su : Nat) (sq : Nat) (ch : Nat) (vt : Nat) (sh : Nat) (th : Int32) (a : Int32) (b : Int32) (c2 : Int32) (d2 : Int32) (vf : Nat → Int32) (h : ¬ (inw (1000 : Int32) a = true ∧ inw (1000 : Int32) b = true)) : cx_M l s0 D kl y_M_least b_M_least 9 (some .int) ({ frames := 2, cells := 0, slots := 0, locals := 44 } : Room) 0 0 [.ref m0, .int a, .int b, .int c2, .int d2] [(m0, .inr (7, [.int th, .int (2 : Int32), .int (0 : Int32), .ref rw, .int (0 : Int32), .int (0 : Int32), .int (0 : Int32), .ref ry, .int (0 : Int32), .int (0 : Int32), .ref ti, .int (0 : Int32), .int (0 : Int32), .ref po, .ref su, .ref sq, .ref ch, .ref vt, .ref sh])), (vt, .inl (cI, 4, .inl vf))] sz (fun o9 _ w9 => o9 = .returned (some (.int (0 : Int32))) ∧ w9 = [(m0, .inr (7, [.int (1 : Int32), .int (2 : Int32), .int (0 : Int32), .ref rw, .int (0 : Int32), .int (0 : Int32), .int (0 : Int32), .ref ry, .int (0 : Int32), .int (0 : Int32), .ref ti, .int (0 : Int32), .int (0 : Int32), .ref po, .ref su, .ref sq, .ref ch, .ref vt, .ref sh]))]) := by
  refine tx_ofW (cc := b_M_least) (maxL := 9) (ret := (some .int)) (by decide) rfl ?_
  intro p e s m args below meth c s₁ B hml hT hv
  obtain ⟨rfl, hsz, hP, hD0, hx0⟩ := hv
  have hx := B.exec
  have hb := B.bytes
  have hr := B.returns
  have G := E.2.1
  have hown : s.vm.findClass cn_M = some m.cls := findClass_of_methodNamed B.named
  have hlocks := B.notSynchronized
  have hK := va_K.moved hx0.1.alike E.2.2.1
  have hf_M : ∀ w99 ∈ u_ws cn_M ft_M 19, w99.before ([.ref m0, .int a, .int b, .int c2, .int d2] : List Value).toArray s = true := fun w99 h99 => gw.at G hx0 (fw_M w99 h99) (fo_M w99 h99) _
  subst hsz
  have hA0 := cx_new hD0 hx0.2.1
  have hD := hD0.self (sz := s.heap.size)
  generalize hAe : va_A [(m0, .inr (7, [.int th, .int (2 : Int32), .int (0 : Int32), .ref rw, .int (0 : Int32), .int (0 : Int32), .int (0 : Int32), .ref ry, .int (0 : Int32), .int (0 : Int32), .ref ti, .int (0 : Int32), .int (0 : Int32), .ref po, .ref su, .ref sq, .ref ch, .ref vt, .ref sh])), (vt, .inl (cI, 4, .inl vf))] s.heap.size = A at hD hA0 ⊢
  have hA : ∀ q : Nat, s.heap.size ≤ q → A q := fun q h => by rw [← hAe]; exact Or.inr h
  have hS : va_S A s.heap s.heap [] := va_S.rf
  have hl := lv_entry ([.ref m0, .int a, .int b, .int c2, .int d2]) (n := 9) (Nat.le_of_ble_eq_true rfl)
  rw [lg_entry_eq]
  generalize (lg_sl ([.ref m0, .int a, .int b, .int c2, .int d2]) ++ List.replicate (9 - (lg_sl ([.ref m0, .int a, .int b, .int c2, .int d2])).length) Slot.unset).toArray = ls at hl ⊢
  have hl : lv_has ls 9 [(0, .ref m0), (1, .int a), (2, .int b), (3, .int c2), (4, .int d2)] := hl
  have hP : va_P D kl [(m0, .inr (7, [.int th, .int (2 : Int32), .int (0 : Int32), .ref rw, .int (0 : Int32), .int (0 : Int32), .int (0 : Int32), .ref ry, .int (0 : Int32), .int (0 : Int32), .ref ti, .int (0 : Int32), .int (0 : Int32), .ref po, .ref su, .ref sq, .ref ch, .ref vt, .ref sh])), (vt, .inl (cI, 4, .inl vf))] s.heap := hP
  have hml : c.maxLocals = 9 := hml
  refine lv_aload_n hx hb d_M_least_0 rfl (lv_at hl 0 rfl) ?_
  refine lv_iload_n hx hb d_M_least_1 rfl (lv_at hl 1 rfl) ?_
  refine lv_iload_n hx hb d_M_least_2 rfl (lv_at hl 2 rfl) ?_
  refine lv_iload_n hx hb d_M_least_3 rfl (lv_at hl 3 rfl) ?_
  refine lv_iload hx hb d_M_least_4 (lv_at hl 4 rfl) ?_
  refine cx_call (D := D) (cl := kl) (ws := _) (wc := [(m0, .inr (7, [.int th, .int (2 : Int32), .int (0 : Int32), .ref rw, .int (0 : Int32), .int (0 : Int32), .int (0 : Int32), .ref ry, .int (0 : Int32), .int (0 : Int32), .ref ti, .int (0 : Int32), .int (0 : Int32), .ref po, .ref su, .ref sq, .ref ch, .ref vt, .ref sh])), (vt, .inl (cI, 4, .inl vf))]) (wr := []) (tx_runV (C := cn_M) (b := m0) (As := [.int a, .int b, .int c2, .int d2]) (rest := []) hx hb hml hown (c_M_set2 E s.heap.size m0 rw ry ti po su sq ch vt sh th a b c2 d2 vf ) (cx_C (b0 := b0) G hx0 mw_783 mw_9 ny_M_set (by decide)) (gw.at G hx0 mw_780 rfl _) (gw.at G hx0 mw_782 rfl _) (gw.at G hx0 ms_M_set rfl _) ⟨cx_blind, va_recv hK hP (q0 := 0) (ci := 7) (q := (cn_M, ft_M, 19)) rfl rfl, (cx_pre (s := s) hx0 hP hD hS hA0 [0, 1] rfl rfl (by decide))⟩ rfl rfl hl.1 rfl (lv_room (Nat.le_of_ble_eq_true rfl)) d_M_least_6 ⟨by decide, by decide⟩) hP hD hS hA [0, 1] [] rfl rfl (by decide) (by decide) (fun v t w1 H locs ht hW9 hp hP hD hS => ?_) (fun x t w1 H locs ht hW9 hp hP hD hS => by obtain ⟨h9, -⟩ := hp; cases h9)
  obtain ⟨h9, rfl⟩ := hp
  cases h9
  refine W.eq (g2 := F0 m 9 ls []) rfl ?_
  refine W.widen (k := 0) (n := 0) (by decide) (by decide) ?_
  have hP : va_P D kl [(m0, .inr (7, [.int th, .int (2 : Int32), .int (0 : Int32), .ref rw, .int (0 : Int32), .int (0 : Int32), .int (0 : Int32), .ref ry, .int (0 : Int32), .int (0 : Int32), .ref ti, .int (0 : Int32), .int (0 : Int32), .ref po, .ref su, .ref sq, .ref ch, .ref vt, .ref sh])), (vt, .inl (cI, 4, .inl (upd (upd (upd (upd vf 0 a) 1 b) 2 (0 : Int32)) 3 (0 : Int32))))] H := hP
  have hD : va_D A [(m0, .inr (7, [.int th, .int (2 : Int32), .int (0 : Int32), .ref rw, .int (0 : Int32), .int (0 : Int32), .int (0 : Int32), .ref ry, .int (0 : Int32), .int (0 : Int32), .ref ti, .int (0 : Int32), .int (0 : Int32), .ref po, .ref su, .ref sq, .ref ch, .ref vt, .ref sh])), (vt, .inl (cI, 4, .inl (upd (upd (upd (upd vf 0 a) 1 b) 2 (0 : Int32)) 3 (0 : Int32))))] := hD
  refine lv_aload_n hx hb d_M_least_9 rfl (lv_at hl 0 rfl) ?_
  refine lv_sipush (v := (1000 : Int32)) hx hb d_M_least_10 (by decide) ?_
  refine cx_call (D := D) (cl := kl) (ws := _) (wc := [(m0, .inr (7, [.int th, .int (2 : Int32), .int (0 : Int32), .ref rw, .int (0 : Int32), .int (0 : Int32), .int (0 : Int32), .ref ry, .int (0 : Int32), .int (0 : Int32), .ref ti, .int (0 : Int32), .int (0 : Int32), .ref po, .ref su, .ref sq, .ref ch, .ref vt, .ref sh])), (vt, .inl (cI, 4, .inl (upd (upd (upd (upd vf 0 a) 1 b) 2 (0 : Int32)) 3 (0 : Int32))))]) (wr := []) (tx_runV (C := cn_M) (b := m0) (As := [.int (1000 : Int32)]) (rest := []) hx hb hml hown (c_M_within2_n E H.size m0 rw ry ti po su sq ch vt sh th (1000 : Int32) (upd (upd (upd (upd vf 0 a) 1 b) 2 (0 : Int32)) 3 (0 : Int32)) h) (cx_C (b0 := b0) G hx0 mw_787 mw_9 ny_M_within (by decide)) (gw.at G hx0 mw_784 rfl _) (gw.at G hx0 mw_786 rfl _) (gw.at G hx0 ms_M_within rfl _) ⟨cx_blind, va_recv hK hP (q0 := 0) (ci := 7) (q := (cn_M, ft_M, 19)) rfl rfl, (cx_pre (s := s) hx0 hP hD hS hA0 [0, 1] rfl rfl (by decide))⟩ rfl rfl hl.1 rfl (lv_room (Nat.le_of_ble_eq_true rfl)) d_M_least_13 ⟨by decide, by decide⟩) hP hD hS hA [0, 1] [] rfl rfl (by decide) (by decide) (fun v t w1 H locs ht hW9 hp hP hD hS => ?_) (fun x t w1 H locs ht hW9 hp hP hD hS => by obtain ⟨h9, -⟩ := hp; cases h9)
  obtain ⟨h9, rfl⟩ := hp
  cases h9
  refine W.eq (g2 := F0 m 16 ls [.int (0 : Int32)]) rfl ?_
  refine W.widen (k := 0) (n := 0) (by decide) (by decide) ?_
  have hP : va_P D kl [(m0, .inr (7, [.int th, .int (2 : Int32), .int (0 : Int32), .ref rw, .int (0 : Int32), .int (0 : Int32), .int (0 : Int32), .ref ry, .int (0 : Int32), .int (0 : Int32), .ref ti, .int (0 : Int32), .int (0 : Int32), .ref po, .ref su, .ref sq, .ref ch, .ref vt, .ref sh])), (vt, .inl (cI, 4, .inl (upd (upd (upd (upd vf 0 a) 1 b) 2 (0 : Int32)) 3 (0 : Int32))))] H := hP
  have hD : va_D A [(m0, .inr (7, [.int th, .int (2 : Int32), .int (0 : Int32), .ref rw, .int (0 : Int32), .int (0 : Int32), .int (0 : Int32), .ref ry, .int (0 : Int32), .int (0 : Int32), .ref ti, .int (0 : Int32), .int (0 : Int32), .ref po, .ref su, .ref sq, .ref ch, .ref vt, .ref sh])), (vt, .inl (cI, 4, .inl (upd (upd (upd (upd vf 0 a) 1 b) 2 (0 : Int32)) 3 (0 : Int32))))] := hD
  refine lv_if_ne (tgt := 26) hx hb d_M_least_16 (by decide) (fun h99 => absurd h99 (by decide)) (fun _ => ?_)
  refine lv_aload_n hx hb d_M_least_19 rfl (lv_at hl 0 rfl) ?_
  refine lv_iconst (v := (1 : Int32)) hx hb d_M_least_20 (by decide) ?_
  refine va_put (D := D) (ci := 7) (v := .int (1 : Int32)) (ty := .int) (C := cn_M) (T := ft_M) (N := 19) hx hb hf_M (fun _ h => h) fy_M fk_M fn_M hown hK hP hD hS 0 rfl rfl 0 (by decide) (gw.at G hx0 mw_713 rfl _) (fun _ h9 => h9) rfl (by decide +kernel) rfl rfl (Nat.le_of_ble_eq_true rfl) d_M_least_21 (fun H locs hP hD hS => ?_)
  have hP : va_P D kl [(m0, .inr (7, [.int (1 : Int32), .int (2 : Int32), .int (0 : Int32), .ref rw, .int (0 : Int32), .int (0 : Int32), .int (0 : Int32), .ref ry, .int (0 : Int32), .int (0 : Int32), .ref ti, .int (0 : Int32), .int (0 : Int32), .ref po, .ref su, .ref sq, .ref ch, .ref vt, .ref sh])), (vt, .inl (cI, 4, .inl (upd (upd (upd (upd vf 0 a) 1 b) 2 (0 : Int32)) 3 (0 : Int32))))] H := hP
  have hD : va_D A [(m0, .inr (7, [.int (1 : Int32), .int (2 : Int32), .int (0 : Int32), .ref rw, .int (0 : Int32), .int (0 : Int32), .int (0 : Int32), .ref ry, .int (0 : Int32), .int (0 : Int32), .ref ti, .int (0 : Int32), .int (0 : Int32), .ref po, .ref su, .ref sq, .ref ch, .ref vt, .ref sh])), (vt, .inl (cI, 4, .inl (upd (upd (upd (upd vf 0 a) 1 b) 2 (0 : Int32)) 3 (0 : Int32))))] := hD
  refine lv_iconst (v := (0 : Int32)) hx hb d_M_least_24 (by decide) ?_
  exact tx_mono (fun _ h => tx_Z.of h) (W.iret (v := (0 : Int32)) hx hb hr (fun t ht hW => ⟨⟨[(m0, .inr (7, [.int (1 : Int32), .int (2 : Int32), .int (0 : Int32), .ref rw, .int (0 : Int32), .int (0 : Int32), .int (0 : Int32), .ref ry, .int (0 : Int32), .int (0 : Int32), .ref ti, .int (0 : Int32), .int (0 : Int32), .ref po, .ref su, .ref sq, .ref ch, .ref vt, .ref sh]))], ⟨rfl, rfl⟩, by rw [ht]; exact hP.sub [0] rfl, hD.sub [0] (by decide) rfl⟩, hS.F ht⟩) hS.2.2 d_M_least_25)

set_option maxHeartbeats 4000000 in
set_option maxRecDepth 100000 in
theorem c_M_least2_s {l : Launch} {s0 : State} {b0 : Addr} {D : va_G} {cI cJ cZ : ClassId} {tC tS : Nat} (E : gE l s0 b0 D cI cJ cZ tC tS) (sz : Nat) (m0 : Nat) (rw : Nat) (ry : Nat) (ti : Nat) (po : Nat) (su : Nat) (sq : Nat) (ch : Nat) (vt : Nat) (sh : Nat) (th : Int32) (a : Int32) (b : Int32) (c2 : Int32) (d2 : Int32) (vf : Nat → Int32) (h : inw (1000 : Int32) a = true ∧ inw (1000 : Int32) b = true) : cx_M l s0 D kl y_M_least b_M_least 9 (some .int) ({ frames := 4, cells := 0, slots := 0, locals := 91 } : Room) 0 0 [.ref m0, .int a, .int b, .int c2, .int d2] [(m0, .inr (7, [.int th, .int (2 : Int32), .int (0 : Int32), .ref rw, .int (0 : Int32), .int (0 : Int32), .int (0 : Int32), .ref ry, .int (0 : Int32), .int (0 : Int32), .ref ti, .int (0 : Int32), .int (0 : Int32), .ref po, .ref su, .ref sq, .ref ch, .ref vt, .ref sh])), (vt, .inl (cI, 4, .inl vf))] sz (fun o9 _ w9 => o9 = .returned (some (.int (0 : Int32))) ∧ w9 = [(m0, .inr (7, [.int (2 : Int32), .int (2 : Int32), .int (0 : Int32), .ref rw, .int (1 : Int32), .int (0 : Int32), .int (0 : Int32), .ref ry, .int (0 : Int32), .int (0 : Int32), .ref ti, .int (0 : Int32), .int (0 : Int32), .ref po, .ref su, .ref sq, .ref ch, .ref vt, .ref sh]))]) := by
  refine tx_ofW (cc := b_M_least) (maxL := 9) (ret := (some .int)) (by decide) rfl ?_
  intro p e s m args below meth c s₁ B hml hT hv
  obtain ⟨rfl, hsz, hP, hD0, hx0⟩ := hv
  have hx := B.exec
  have hb := B.bytes
  have hr := B.returns
  have G := E.2.1
  have hown : s.vm.findClass cn_M = some m.cls := findClass_of_methodNamed B.named
  have hlocks := B.notSynchronized
  have hK := va_K.moved hx0.1.alike E.2.2.1
  subst hsz
  have hA0 := cx_new hD0 hx0.2.1
  have hD := hD0.self (sz := s.heap.size)
  generalize hAe : va_A [(m0, .inr (7, [.int th, .int (2 : Int32), .int (0 : Int32), .ref rw, .int (0 : Int32), .int (0 : Int32), .int (0 : Int32), .ref ry, .int (0 : Int32), .int (0 : Int32), .ref ti, .int (0 : Int32), .int (0 : Int32), .ref po, .ref su, .ref sq, .ref ch, .ref vt, .ref sh])), (vt, .inl (cI, 4, .inl vf))] s.heap.size = A at hD hA0 ⊢
  have hA : ∀ q : Nat, s.heap.size ≤ q → A q := fun q h => by rw [← hAe]; exact Or.inr h
  have hS : va_S A s.heap s.heap [] := va_S.rf
  have hl := lv_entry ([.ref m0, .int a, .int b, .int c2, .int d2]) (n := 9) (Nat.le_of_ble_eq_true rfl)
  rw [lg_entry_eq]
  generalize (lg_sl ([.ref m0, .int a, .int b, .int c2, .int d2]) ++ List.replicate (9 - (lg_sl ([.ref m0, .int a, .int b, .int c2, .int d2])).length) Slot.unset).toArray = ls at hl ⊢
  have hl : lv_has ls 9 [(0, .ref m0), (1, .int a), (2, .int b), (3, .int c2), (4, .int d2)] := hl
  have hP : va_P D kl [(m0, .inr (7, [.int th, .int (2 : Int32), .int (0 : Int32), .ref rw, .int (0 : Int32), .int (0 : Int32), .int (0 : Int32), .ref ry, .int (0 : Int32), .int (0 : Int32), .ref ti, .int (0 : Int32), .int (0 : Int32), .ref po, .ref su, .ref sq, .ref ch, .ref vt, .ref sh])), (vt, .inl (cI, 4, .inl vf))] s.heap := hP
  have hml : c.maxLocals = 9 := hml
  refine lv_aload_n hx hb d_M_least_0 rfl (lv_at hl 0 rfl) ?_
  refine lv_iload_n hx hb d_M_least_1 rfl (lv_at hl 1 rfl) ?_
  refine lv_iload_n hx hb d_M_least_2 rfl (lv_at hl 2 rfl) ?_
  refine lv_iload_n hx hb d_M_least_3 rfl (lv_at hl 3 rfl) ?_
  refine lv_iload hx hb d_M_least_4 (lv_at hl 4 rfl) ?_
  refine cx_call (D := D) (cl := kl) (ws := _) (wc := [(m0, .inr (7, [.int th, .int (2 : Int32), .int (0 : Int32), .ref rw, .int (0 : Int32), .int (0 : Int32), .int (0 : Int32), .ref ry, .int (0 : Int32), .int (0 : Int32), .ref ti, .int (0 : Int32), .int (0 : Int32), .ref po, .ref su, .ref sq, .ref ch, .ref vt, .ref sh])), (vt, .inl (cI, 4, .inl vf))]) (wr := []) (tx_runV (C := cn_M) (b := m0) (As := [.int a, .int b, .int c2, .int d2]) (rest := []) hx hb hml hown (c_M_set2 E s.heap.size m0 rw ry ti po su sq ch vt sh th a b c2 d2 vf ) (cx_C (b0 := b0) G hx0 mw_783 mw_9 ny_M_set (by decide)) (gw.at G hx0 mw_780 rfl _) (gw.at G hx0 mw_782 rfl _) (gw.at G hx0 ms_M_set rfl _) ⟨cx_blind, va_recv hK hP (q0 := 0) (ci := 7) (q := (cn_M, ft_M, 19)) rfl rfl, (cx_pre (s := s) hx0 hP hD hS hA0 [0, 1] rfl rfl (by decide))⟩ rfl rfl hl.1 rfl (lv_room (Nat.le_of_ble_eq_true rfl)) d_M_least_6 ⟨by decide, by decide⟩) hP hD hS hA [0, 1] [] rfl rfl (by decide) (by decide) (fun v t w1 H locs ht hW9 hp hP hD hS => ?_) (fun x t w1 H locs ht hW9 hp hP hD hS => by obtain ⟨h9, -⟩ := hp; cases h9)
  obtain ⟨h9, rfl⟩ := hp
  cases h9
  refine W.eq (g2 := F0 m 9 ls []) rfl ?_
  refine W.widen (k := 0) (n := 0) (by decide) (by decide) ?_
  have hP : va_P D kl [(m0, .inr (7, [.int th, .int (2 : Int32), .int (0 : Int32), .ref rw, .int (0 : Int32), .int (0 : Int32), .int (0 : Int32), .ref ry, .int (0 : Int32), .int (0 : Int32), .ref ti, .int (0 : Int32), .int (0 : Int32), .ref po, .ref su, .ref sq, .ref ch, .ref vt, .ref sh])), (vt, .inl (cI, 4, .inl (upd (upd (upd (upd vf 0 a) 1 b) 2 (0 : Int32)) 3 (0 : Int32))))] H := hP
  have hD : va_D A [(m0, .inr (7, [.int th, .int (2 : Int32), .int (0 : Int32), .ref rw, .int (0 : Int32), .int (0 : Int32), .int (0 : Int32), .ref ry, .int (0 : Int32), .int (0 : Int32), .ref ti, .int (0 : Int32), .int (0 : Int32), .ref po, .ref su, .ref sq, .ref ch, .ref vt, .ref sh])), (vt, .inl (cI, 4, .inl (upd (upd (upd (upd vf 0 a) 1 b) 2 (0 : Int32)) 3 (0 : Int32))))] := hD
  refine lv_aload_n hx hb d_M_least_9 rfl (lv_at hl 0 rfl) ?_
  refine lv_sipush (v := (1000 : Int32)) hx hb d_M_least_10 (by decide) ?_
  refine cx_call (D := D) (cl := kl) (ws := _) (wc := [(m0, .inr (7, [.int th, .int (2 : Int32), .int (0 : Int32), .ref rw, .int (0 : Int32), .int (0 : Int32), .int (0 : Int32), .ref ry, .int (0 : Int32), .int (0 : Int32), .ref ti, .int (0 : Int32), .int (0 : Int32), .ref po, .ref su, .ref sq, .ref ch, .ref vt, .ref sh])), (vt, .inl (cI, 4, .inl (upd (upd (upd (upd vf 0 a) 1 b) 2 (0 : Int32)) 3 (0 : Int32))))]) (wr := []) (tx_runV (C := cn_M) (b := m0) (As := [.int (1000 : Int32)]) (rest := []) hx hb hml hown (c_M_within2_y E H.size m0 rw ry ti po su sq ch vt sh th (1000 : Int32) (upd (upd (upd (upd vf 0 a) 1 b) 2 (0 : Int32)) 3 (0 : Int32)) h) (cx_C (b0 := b0) G hx0 mw_787 mw_9 ny_M_within (by decide)) (gw.at G hx0 mw_784 rfl _) (gw.at G hx0 mw_786 rfl _) (gw.at G hx0 ms_M_within rfl _) ⟨cx_blind, va_recv hK hP (q0 := 0) (ci := 7) (q := (cn_M, ft_M, 19)) rfl rfl, (cx_pre (s := s) hx0 hP hD hS hA0 [0, 1] rfl rfl (by decide))⟩ rfl rfl hl.1 rfl (lv_room (Nat.le_of_ble_eq_true rfl)) d_M_least_13 ⟨by decide, by decide⟩) hP hD hS hA [0, 1] [] rfl rfl (by decide) (by decide) (fun v t w1 H locs ht hW9 hp hP hD hS => ?_) (fun x t w1 H locs ht hW9 hp hP hD hS => by obtain ⟨h9, -⟩ := hp; cases h9)
  obtain ⟨h9, rfl⟩ := hp
  cases h9
  refine W.eq (g2 := F0 m 16 ls [.int (1 : Int32)]) rfl ?_
  refine W.widen (k := 0) (n := 0) (by decide) (by decide) ?_
  have hP : va_P D kl [(m0, .inr (7, [.int th, .int (2 : Int32), .int (0 : Int32), .ref rw, .int (0 : Int32), .int (0 : Int32), .int (0 : Int32), .ref ry, .int (0 : Int32), .int (0 : Int32), .ref ti, .int (0 : Int32), .int (0 : Int32), .ref po, .ref su, .ref sq, .ref ch, .ref vt, .ref sh])), (vt, .inl (cI, 4, .inl (upd (upd (upd (upd vf 0 a) 1 b) 2 (0 : Int32)) 3 (0 : Int32))))] H := hP
  have hD : va_D A [(m0, .inr (7, [.int th, .int (2 : Int32), .int (0 : Int32), .ref rw, .int (0 : Int32), .int (0 : Int32), .int (0 : Int32), .ref ry, .int (0 : Int32), .int (0 : Int32), .ref ti, .int (0 : Int32), .int (0 : Int32), .ref po, .ref su, .ref sq, .ref ch, .ref vt, .ref sh])), (vt, .inl (cI, 4, .inl (upd (upd (upd (upd vf 0 a) 1 b) 2 (0 : Int32)) 3 (0 : Int32))))] := hD
  refine lv_if_ne (tgt := 26) hx hb d_M_least_16 (by decide) (fun _ => ?_) (fun h99 => absurd h99 (by decide))
  refine lv_aload_n hx hb d_M_least_26 rfl (lv_at hl 0 rfl) ?_
  refine lv_iconst (v := (2 : Int32)) hx hb d_M_least_27 (by decide) ?_
  refine cx_call (D := D) (cl := kl) (ws := _) (wc := [(m0, .inr (7, [.int th, .int (2 : Int32), .int (0 : Int32), .ref rw, .int (0 : Int32), .int (0 : Int32), .int (0 : Int32), .ref ry, .int (0 : Int32), .int (0 : Int32), .ref ti, .int (0 : Int32), .int (0 : Int32), .ref po, .ref su, .ref sq, .ref ch, .ref vt, .ref sh]))]) (wr := [(vt, .inl (cI, 4, .inl (upd (upd (upd (upd vf 0 a) 1 b) 2 (0 : Int32)) 3 (0 : Int32))))]) (tx_runV (C := cn_M) (b := m0) (As := [.int (2 : Int32)]) (rest := []) hx hb hml hown (c_M_based2 E H.size m0 rw ry ti po su sq ch vt sh th (2 : Int32) (by decide)) (cx_C (b0 := b0) G hx0 mw_929 mw_9 ny_M_based (by decide)) (gw.at G hx0 mw_926 rfl _) (gw.at G hx0 mw_928 rfl _) (gw.at G hx0 ms_M_based rfl _) ⟨cx_blind, va_recv hK hP (q0 := 0) (ci := 7) (q := (cn_M, ft_M, 19)) rfl rfl, (cx_pre (s := s) hx0 hP hD hS hA0 [0] rfl rfl (by decide))⟩ rfl rfl hl.1 rfl (lv_room (Nat.le_of_ble_eq_true rfl)) d_M_least_28 ⟨by decide, by decide⟩) hP hD hS hA [0] [1] rfl rfl (by decide) (by decide) (fun v t w1 H locs ht hW9 hp hP hD hS => ?_) (fun x t w1 H locs ht hW9 hp hP hD hS => by obtain ⟨h9, -⟩ := hp; cases h9)
  obtain ⟨h9, rfl⟩ := hp
  cases h9
  refine W.eq (g2 := F0 m 31 ls [.int (0 : Int32)]) rfl ?_
  refine W.widen (k := 0) (n := 0) (by decide) (by decide) ?_
  have hP : va_P D kl [(vt, .inl (cI, 4, .inl (upd (upd (upd (upd vf 0 a) 1 b) 2 (0 : Int32)) 3 (0 : Int32)))), (m0, .inr (7, [.int (2 : Int32), .int (2 : Int32), .int (0 : Int32), .ref rw, .int (1 : Int32), .int (0 : Int32), .int (0 : Int32), .ref ry, .int (0 : Int32), .int (0 : Int32), .ref ti, .int (0 : Int32), .int (0 : Int32), .ref po, .ref su, .ref sq, .ref ch, .ref vt, .ref sh]))] H := hP
  have hD : va_D A [(vt, .inl (cI, 4, .inl (upd (upd (upd (upd vf 0 a) 1 b) 2 (0 : Int32)) 3 (0 : Int32)))), (m0, .inr (7, [.int (2 : Int32), .int (2 : Int32), .int (0 : Int32), .ref rw, .int (1 : Int32), .int (0 : Int32), .int (0 : Int32), .ref ry, .int (0 : Int32), .int (0 : Int32), .ref ti, .int (0 : Int32), .int (0 : Int32), .ref po, .ref su, .ref sq, .ref ch, .ref vt, .ref sh]))] := hD
  refine lv_if_ne (tgt := 36) hx hb d_M_least_31 (by decide) (fun h99 => absurd h99 (by decide)) (fun _ => ?_)
  refine lv_iconst (v := (0 : Int32)) hx hb d_M_least_34 (by decide) ?_
  exact tx_mono (fun _ h => tx_Z.of h) (W.iret (v := (0 : Int32)) hx hb hr (fun t ht hW => ⟨⟨[(m0, .inr (7, [.int (2 : Int32), .int (2 : Int32), .int (0 : Int32), .ref rw, .int (1 : Int32), .int (0 : Int32), .int (0 : Int32), .ref ry, .int (0 : Int32), .int (0 : Int32), .ref ti, .int (0 : Int32), .int (0 : Int32), .ref po, .ref su, .ref sq, .ref ch, .ref vt, .ref sh]))], ⟨rfl, rfl⟩, by rw [ht]; exact hP.sub [1] rfl, hD.sub [1] (by decide) rfl⟩, hS.F ht⟩) hS.2.2 d_M_least_35)

set_option maxHeartbeats 4000000 in
set_option maxRecDepth 100000 in
theorem c_M_add2_n {l : Launch} {s0 : State} {b0 : Addr} {D : va_G} {cI cJ cZ : ClassId} {tC tS : Nat} (E : gE l s0 b0 D cI cJ cZ tC tS) (sz : Nat) (m0 : Nat) (rw : Nat) (ry : Nat) (ti : Nat) (po : Nat) (su : Nat) (sq : Nat) (ch : Nat) (vt : Nat) (sh : Nat) (th : Int32) (a : Int32) (b : Int32) (c2 : Int32) (d2 : Int32) (vf : Nat → Int32) (h : ¬ (inw (5 : Int32) a = true ∧ inw (5 : Int32) b = true)) : cx_M l s0 D kl y_M_add b_M_add 6 (some .int) ({ frames := 2, cells := 0, slots := 0, locals := 44 } : Room) 0 0 [.ref m0, .int a, .int b, .int c2, .int d2] [(m0, .inr (7, [.int th, .int (2 : Int32), .int (0 : Int32), .ref rw, .int (0 : Int32), .int (0 : Int32), .int (0 : Int32), .ref ry, .int (0 : Int32), .int (0 : Int32), .ref ti, .int (0 : Int32), .int (0 : Int32), .ref po, .ref su, .ref sq, .ref ch, .ref vt, .ref sh])), (vt, .inl (cI, 4, .inl vf))] sz (fun o9 _ w9 => o9 = .returned (some (.int (0 : Int32))) ∧ w9 = [(m0, .inr (7, [.int (1 : Int32), .int (2 : Int32), .int (0 : Int32), .ref rw, .int (0 : Int32), .int (0 : Int32), .int (0 : Int32), .ref ry, .int (0 : Int32), .int (0 : Int32), .ref ti, .int (0 : Int32), .int (0 : Int32), .ref po, .ref su, .ref sq, .ref ch, .ref vt, .ref sh]))]) := by
  refine tx_ofW (cc := b_M_add) (maxL := 6) (ret := (some .int)) (by decide) rfl ?_
  intro p e s m args below meth c s₁ B hml hT hv
  obtain ⟨rfl, hsz, hP, hD0, hx0⟩ := hv
  have hx := B.exec
  have hb := B.bytes
  have hr := B.returns
  have G := E.2.1
  have hown : s.vm.findClass cn_M = some m.cls := findClass_of_methodNamed B.named
  have hlocks := B.notSynchronized
  have hK := va_K.moved hx0.1.alike E.2.2.1
  have hf_M : ∀ w99 ∈ u_ws cn_M ft_M 19, w99.before ([.ref m0, .int a, .int b, .int c2, .int d2] : List Value).toArray s = true := fun w99 h99 => gw.at G hx0 (fw_M w99 h99) (fo_M w99 h99) _
  subst hsz
  have hA0 := cx_new hD0 hx0.2.1
  have hD := hD0.self (sz := s.heap.size)
  generalize hAe : va_A [(m0, .inr (7, [.int th, .int (2 : Int32), .int (0 : Int32), .ref rw, .int (0 : Int32), .int (0 : Int32), .int (0 : Int32), .ref ry, .int (0 : Int32), .int (0 : Int32), .ref ti, .int (0 : Int32), .int (0 : Int32), .ref po, .ref su, .ref sq, .ref ch, .ref vt, .ref sh])), (vt, .inl (cI, 4, .inl vf))] s.heap.size = A at hD hA0 ⊢
  have hA : ∀ q : Nat, s.heap.size ≤ q → A q := fun q h => by rw [← hAe]; exact Or.inr h
  have hS : va_S A s.heap s.heap [] := va_S.rf
  have hl := lv_entry ([.ref m0, .int a, .int b, .int c2, .int d2]) (n := 6) (Nat.le_of_ble_eq_true rfl)
  rw [lg_entry_eq]
  generalize (lg_sl ([.ref m0, .int a, .int b, .int c2, .int d2]) ++ List.replicate (6 - (lg_sl ([.ref m0, .int a, .int b, .int c2, .int d2])).length) Slot.unset).toArray = ls at hl ⊢
  have hl : lv_has ls 6 [(0, .ref m0), (1, .int a), (2, .int b), (3, .int c2), (4, .int d2)] := hl
  have hP : va_P D kl [(m0, .inr (7, [.int th, .int (2 : Int32), .int (0 : Int32), .ref rw, .int (0 : Int32), .int (0 : Int32), .int (0 : Int32), .ref ry, .int (0 : Int32), .int (0 : Int32), .ref ti, .int (0 : Int32), .int (0 : Int32), .ref po, .ref su, .ref sq, .ref ch, .ref vt, .ref sh])), (vt, .inl (cI, 4, .inl vf))] s.heap := hP
  have hml : c.maxLocals = 6 := hml
  refine lv_aload_n hx hb d_M_add_0 rfl (lv_at hl 0 rfl) ?_
  refine lv_iload_n hx hb d_M_add_1 rfl (lv_at hl 1 rfl) ?_
  refine lv_iload_n hx hb d_M_add_2 rfl (lv_at hl 2 rfl) ?_
  refine lv_iload_n hx hb d_M_add_3 rfl (lv_at hl 3 rfl) ?_
  refine lv_iload hx hb d_M_add_4 (lv_at hl 4 rfl) ?_
  refine cx_call (D := D) (cl := kl) (ws := _) (wc := [(m0, .inr (7, [.int th, .int (2 : Int32), .int (0 : Int32), .ref rw, .int (0 : Int32), .int (0 : Int32), .int (0 : Int32), .ref ry, .int (0 : Int32), .int (0 : Int32), .ref ti, .int (0 : Int32), .int (0 : Int32), .ref po, .ref su, .ref sq, .ref ch, .ref vt, .ref sh])), (vt, .inl (cI, 4, .inl vf))]) (wr := []) (tx_runV (C := cn_M) (b := m0) (As := [.int a, .int b, .int c2, .int d2]) (rest := []) hx hb hml hown (c_M_set2 E s.heap.size m0 rw ry ti po su sq ch vt sh th a b c2 d2 vf ) (cx_C (b0 := b0) G hx0 mw_783 mw_9 ny_M_set (by decide)) (gw.at G hx0 mw_780 rfl _) (gw.at G hx0 mw_782 rfl _) (gw.at G hx0 ms_M_set rfl _) ⟨cx_blind, va_recv hK hP (q0 := 0) (ci := 7) (q := (cn_M, ft_M, 19)) rfl rfl, (cx_pre (s := s) hx0 hP hD hS hA0 [0, 1] rfl rfl (by decide))⟩ rfl rfl hl.1 rfl (lv_room (Nat.le_of_ble_eq_true rfl)) d_M_add_6 ⟨by decide, by decide⟩) hP hD hS hA [0, 1] [] rfl rfl (by decide) (by decide) (fun v t w1 H locs ht hW9 hp hP hD hS => ?_) (fun x t w1 H locs ht hW9 hp hP hD hS => by obtain ⟨h9, -⟩ := hp; cases h9)
  obtain ⟨h9, rfl⟩ := hp
  cases h9
  refine W.eq (g2 := F0 m 9 ls []) rfl ?_
  refine W.widen (k := 0) (n := 0) (by decide) (by decide) ?_
  have hP : va_P D kl [(m0, .inr (7, [.int th, .int (2 : Int32), .int (0 : Int32), .ref rw, .int (0 : Int32), .int (0 : Int32), .int (0 : Int32), .ref ry, .int (0 : Int32), .int (0 : Int32), .ref ti, .int (0 : Int32), .int (0 : Int32), .ref po, .ref su, .ref sq, .ref ch, .ref vt, .ref sh])), (vt, .inl (cI, 4, .inl (upd (upd (upd (upd vf 0 a) 1 b) 2 (0 : Int32)) 3 (0 : Int32))))] H := hP
  have hD : va_D A [(m0, .inr (7, [.int th, .int (2 : Int32), .int (0 : Int32), .ref rw, .int (0 : Int32), .int (0 : Int32), .int (0 : Int32), .ref ry, .int (0 : Int32), .int (0 : Int32), .ref ti, .int (0 : Int32), .int (0 : Int32), .ref po, .ref su, .ref sq, .ref ch, .ref vt, .ref sh])), (vt, .inl (cI, 4, .inl (upd (upd (upd (upd vf 0 a) 1 b) 2 (0 : Int32)) 3 (0 : Int32))))] := hD
  refine lv_aload_n hx hb d_M_add_9 rfl (lv_at hl 0 rfl) ?_
  refine lv_aload_n hx hb d_M_add_10 rfl (lv_at hl 0 rfl) ?_
  refine lv_iconst (v := (5 : Int32)) hx hb d_M_add_11 (by decide) ?_
  refine cx_call (D := D) (cl := kl) (ws := _) (wc := [(m0, .inr (7, [.int th, .int (2 : Int32), .int (0 : Int32), .ref rw, .int (0 : Int32), .int (0 : Int32), .int (0 : Int32), .ref ry, .int (0 : Int32), .int (0 : Int32), .ref ti, .int (0 : Int32), .int (0 : Int32), .ref po, .ref su, .ref sq, .ref ch, .ref vt, .ref sh])), (vt, .inl (cI, 4, .inl (upd (upd (upd (upd vf 0 a) 1 b) 2 (0 : Int32)) 3 (0 : Int32))))]) (wr := []) (tx_runV (C := cn_M) (b := m0) (As := [.int (5 : Int32)]) (rest := [.ref m0]) hx hb hml hown (c_M_within2_n E H.size m0 rw ry ti po su sq ch vt sh th (5 : Int32) (upd (upd (upd (upd vf 0 a) 1 b) 2 (0 : Int32)) 3 (0 : Int32)) h) (cx_C (b0 := b0) G hx0 mw_787 mw_9 ny_M_within (by decide)) (gw.at G hx0 mw_784 rfl _) (gw.at G hx0 mw_786 rfl _) (gw.at G hx0 ms_M_within rfl _) ⟨cx_blind, va_recv hK hP (q0 := 0) (ci := 7) (q := (cn_M, ft_M, 19)) rfl rfl, (cx_pre (s := s) hx0 hP hD hS hA0 [0, 1] rfl rfl (by decide))⟩ rfl rfl hl.1 rfl (lv_room (Nat.le_of_ble_eq_true rfl)) d_M_add_12 ⟨by decide, by decide⟩) hP hD hS hA [0, 1] [] rfl rfl (by decide) (by decide) (fun v t w1 H locs ht hW9 hp hP hD hS => ?_) (fun x t w1 H locs ht hW9 hp hP hD hS => by obtain ⟨h9, -⟩ := hp; cases h9)
  obtain ⟨h9, rfl⟩ := hp
  cases h9
  refine W.eq (g2 := F0 m 15 ls [.int (0 : Int32), .ref m0]) rfl ?_
  refine W.widen (k := 0) (n := 0) (by decide) (by decide) ?_
  have hP : va_P D kl [(m0, .inr (7, [.int th, .int (2 : Int32), .int (0 : Int32), .ref rw, .int (0 : Int32), .int (0 : Int32), .int (0 : Int32), .ref ry, .int (0 : Int32), .int (0 : Int32), .ref ti, .int (0 : Int32), .int (0 : Int32), .ref po, .ref su, .ref sq, .ref ch, .ref vt, .ref sh])), (vt, .inl (cI, 4, .inl (upd (upd (upd (upd vf 0 a) 1 b) 2 (0 : Int32)) 3 (0 : Int32))))] H := hP
  have hD : va_D A [(m0, .inr (7, [.int th, .int (2 : Int32), .int (0 : Int32), .ref rw, .int (0 : Int32), .int (0 : Int32), .int (0 : Int32), .ref ry, .int (0 : Int32), .int (0 : Int32), .ref ti, .int (0 : Int32), .int (0 : Int32), .ref po, .ref su, .ref sq, .ref ch, .ref vt, .ref sh])), (vt, .inl (cI, 4, .inl (upd (upd (upd (upd vf 0 a) 1 b) 2 (0 : Int32)) 3 (0 : Int32))))] := hD
  refine lv_if_eq (tgt := 25) hx hb d_M_add_15 (by decide) (fun _ => ?_) (fun h99 => absurd h99 (by decide))
  refine lv_iconst (v := (1 : Int32)) hx hb d_M_add_25 (by decide) ?_
  refine lv_goto (tgt := 43) hx hb d_M_add_26 (by decide) ?_
  refine va_put (D := D) (ci := 7) (v := .int (1 : Int32)) (ty := .int) (C := cn_M) (T := ft_M) (N := 19) hx hb hf_M (fun _ h => h) fy_M fk_M fn_M hown hK hP hD hS 0 rfl rfl 0 (by decide) (gw.at G hx0 mw_713 rfl _) (fun _ h9 => h9) rfl (by decide +kernel) rfl rfl (Nat.le_of_ble_eq_true rfl) d_M_add_43 (fun H locs hP hD hS => ?_)
  have hP : va_P D kl [(m0, .inr (7, [.int (1 : Int32), .int (2 : Int32), .int (0 : Int32), .ref rw, .int (0 : Int32), .int (0 : Int32), .int (0 : Int32), .ref ry, .int (0 : Int32), .int (0 : Int32), .ref ti, .int (0 : Int32), .int (0 : Int32), .ref po, .ref su, .ref sq, .ref ch, .ref vt, .ref sh])), (vt, .inl (cI, 4, .inl (upd (upd (upd (upd vf 0 a) 1 b) 2 (0 : Int32)) 3 (0 : Int32))))] H := hP
  have hD : va_D A [(m0, .inr (7, [.int (1 : Int32), .int (2 : Int32), .int (0 : Int32), .ref rw, .int (0 : Int32), .int (0 : Int32), .int (0 : Int32), .ref ry, .int (0 : Int32), .int (0 : Int32), .ref ti, .int (0 : Int32), .int (0 : Int32), .ref po, .ref su, .ref sq, .ref ch, .ref vt, .ref sh])), (vt, .inl (cI, 4, .inl (upd (upd (upd (upd vf 0 a) 1 b) 2 (0 : Int32)) 3 (0 : Int32))))] := hD
  refine lv_aload_n hx hb d_M_add_46 rfl (lv_at hl 0 rfl) ?_
  refine va_get (D := D) (ci := 7) (v := .int (1 : Int32)) (C := cn_M) (T := ft_M) (N := 19) hx hb hf_M (fun _ h => h) hown hK hP 0 rfl rfl 0 (by decide) (gw.at G hx0 mw_713 rfl _) (fun _ h9 => h9) rfl d_M_add_47 ?_
  refine lv_if_le (tgt := 55) hx hb d_M_add_50 (by decide) (fun h99 => absurd h99 (by decide)) (fun _ => ?_)
  refine lv_iconst (v := (0 : Int32)) hx hb d_M_add_53 (by decide) ?_
  exact tx_mono (fun _ h => tx_Z.of h) (W.iret (v := (0 : Int32)) hx hb hr (fun t ht hW => ⟨⟨[(m0, .inr (7, [.int (1 : Int32), .int (2 : Int32), .int (0 : Int32), .ref rw, .int (0 : Int32), .int (0 : Int32), .int (0 : Int32), .ref ry, .int (0 : Int32), .int (0 : Int32), .ref ti, .int (0 : Int32), .int (0 : Int32), .ref po, .ref su, .ref sq, .ref ch, .ref vt, .ref sh]))], ⟨rfl, rfl⟩, by rw [ht]; exact hP.sub [0] rfl, hD.sub [0] (by decide) rfl⟩, hS.F ht⟩) hS.2.2 d_M_add_54)

set_option maxHeartbeats 4000000 in
set_option maxRecDepth 100000 in
theorem c_M_add2_z {l : Launch} {s0 : State} {b0 : Addr} {D : va_G} {cI cJ cZ : ClassId} {tC tS : Nat} (E : gE l s0 b0 D cI cJ cZ tC tS) (sz : Nat) (m0 : Nat) (rw : Nat) (ry : Nat) (ti : Nat) (po : Nat) (su : Nat) (sq : Nat) (ch : Nat) (vt : Nat) (sh : Nat) (th : Int32) (a : Int32) (b : Int32) (c2 : Int32) (d2 : Int32) (vf : Nat → Int32) (h : inw (5 : Int32) a = true ∧ inw (5 : Int32) b = true) (h2 : all4 a b 0 0) : cx_M l s0 D kl y_M_add b_M_add 6 (some .int) ({ frames := 2, cells := 0, slots := 0, locals := 44 } : Room) 0 0 [.ref m0, .int a, .int b, .int c2, .int d2] [(m0, .inr (7, [.int th, .int (2 : Int32), .int (0 : Int32), .ref rw, .int (0 : Int32), .int (0 : Int32), .int (0 : Int32), .ref ry, .int (0 : Int32), .int (0 : Int32), .ref ti, .int (0 : Int32), .int (0 : Int32), .ref po, .ref su, .ref sq, .ref ch, .ref vt, .ref sh])), (vt, .inl (cI, 4, .inl vf))] sz (fun o9 _ w9 => o9 = .returned (some (.int (0 : Int32))) ∧ w9 = [(m0, .inr (7, [.int (1 : Int32), .int (2 : Int32), .int (0 : Int32), .ref rw, .int (0 : Int32), .int (0 : Int32), .int (0 : Int32), .ref ry, .int (0 : Int32), .int (0 : Int32), .ref ti, .int (0 : Int32), .int (0 : Int32), .ref po, .ref su, .ref sq, .ref ch, .ref vt, .ref sh]))]) := by
  refine tx_ofW (cc := b_M_add) (maxL := 6) (ret := (some .int)) (by decide) rfl ?_
  intro p e s m args below meth c s₁ B hml hT hv
  obtain ⟨rfl, hsz, hP, hD0, hx0⟩ := hv
  have hx := B.exec
  have hb := B.bytes
  have hr := B.returns
  have G := E.2.1
  have hown : s.vm.findClass cn_M = some m.cls := findClass_of_methodNamed B.named
  have hlocks := B.notSynchronized
  have hK := va_K.moved hx0.1.alike E.2.2.1
  have hf_M : ∀ w99 ∈ u_ws cn_M ft_M 19, w99.before ([.ref m0, .int a, .int b, .int c2, .int d2] : List Value).toArray s = true := fun w99 h99 => gw.at G hx0 (fw_M w99 h99) (fo_M w99 h99) _
  subst hsz
  have hA0 := cx_new hD0 hx0.2.1
  have hD := hD0.self (sz := s.heap.size)
  generalize hAe : va_A [(m0, .inr (7, [.int th, .int (2 : Int32), .int (0 : Int32), .ref rw, .int (0 : Int32), .int (0 : Int32), .int (0 : Int32), .ref ry, .int (0 : Int32), .int (0 : Int32), .ref ti, .int (0 : Int32), .int (0 : Int32), .ref po, .ref su, .ref sq, .ref ch, .ref vt, .ref sh])), (vt, .inl (cI, 4, .inl vf))] s.heap.size = A at hD hA0 ⊢
  have hA : ∀ q : Nat, s.heap.size ≤ q → A q := fun q h => by rw [← hAe]; exact Or.inr h
  have hS : va_S A s.heap s.heap [] := va_S.rf
  have hl := lv_entry ([.ref m0, .int a, .int b, .int c2, .int d2]) (n := 6) (Nat.le_of_ble_eq_true rfl)
  rw [lg_entry_eq]
  generalize (lg_sl ([.ref m0, .int a, .int b, .int c2, .int d2]) ++ List.replicate (6 - (lg_sl ([.ref m0, .int a, .int b, .int c2, .int d2])).length) Slot.unset).toArray = ls at hl ⊢
  have hl : lv_has ls 6 [(0, .ref m0), (1, .int a), (2, .int b), (3, .int c2), (4, .int d2)] := hl
  have hP : va_P D kl [(m0, .inr (7, [.int th, .int (2 : Int32), .int (0 : Int32), .ref rw, .int (0 : Int32), .int (0 : Int32), .int (0 : Int32), .ref ry, .int (0 : Int32), .int (0 : Int32), .ref ti, .int (0 : Int32), .int (0 : Int32), .ref po, .ref su, .ref sq, .ref ch, .ref vt, .ref sh])), (vt, .inl (cI, 4, .inl vf))] s.heap := hP
  have hml : c.maxLocals = 6 := hml
  refine lv_aload_n hx hb d_M_add_0 rfl (lv_at hl 0 rfl) ?_
  refine lv_iload_n hx hb d_M_add_1 rfl (lv_at hl 1 rfl) ?_
  refine lv_iload_n hx hb d_M_add_2 rfl (lv_at hl 2 rfl) ?_
  refine lv_iload_n hx hb d_M_add_3 rfl (lv_at hl 3 rfl) ?_
  refine lv_iload hx hb d_M_add_4 (lv_at hl 4 rfl) ?_
  refine cx_call (D := D) (cl := kl) (ws := _) (wc := [(m0, .inr (7, [.int th, .int (2 : Int32), .int (0 : Int32), .ref rw, .int (0 : Int32), .int (0 : Int32), .int (0 : Int32), .ref ry, .int (0 : Int32), .int (0 : Int32), .ref ti, .int (0 : Int32), .int (0 : Int32), .ref po, .ref su, .ref sq, .ref ch, .ref vt, .ref sh])), (vt, .inl (cI, 4, .inl vf))]) (wr := []) (tx_runV (C := cn_M) (b := m0) (As := [.int a, .int b, .int c2, .int d2]) (rest := []) hx hb hml hown (c_M_set2 E s.heap.size m0 rw ry ti po su sq ch vt sh th a b c2 d2 vf ) (cx_C (b0 := b0) G hx0 mw_783 mw_9 ny_M_set (by decide)) (gw.at G hx0 mw_780 rfl _) (gw.at G hx0 mw_782 rfl _) (gw.at G hx0 ms_M_set rfl _) ⟨cx_blind, va_recv hK hP (q0 := 0) (ci := 7) (q := (cn_M, ft_M, 19)) rfl rfl, (cx_pre (s := s) hx0 hP hD hS hA0 [0, 1] rfl rfl (by decide))⟩ rfl rfl hl.1 rfl (lv_room (Nat.le_of_ble_eq_true rfl)) d_M_add_6 ⟨by decide, by decide⟩) hP hD hS hA [0, 1] [] rfl rfl (by decide) (by decide) (fun v t w1 H locs ht hW9 hp hP hD hS => ?_) (fun x t w1 H locs ht hW9 hp hP hD hS => by obtain ⟨h9, -⟩ := hp; cases h9)
  obtain ⟨h9, rfl⟩ := hp
  cases h9
  refine W.eq (g2 := F0 m 9 ls []) rfl ?_
  refine W.widen (k := 0) (n := 0) (by decide) (by decide) ?_
  have hP : va_P D kl [(m0, .inr (7, [.int th, .int (2 : Int32), .int (0 : Int32), .ref rw, .int (0 : Int32), .int (0 : Int32), .int (0 : Int32), .ref ry, .int (0 : Int32), .int (0 : Int32), .ref ti, .int (0 : Int32), .int (0 : Int32), .ref po, .ref su, .ref sq, .ref ch, .ref vt, .ref sh])), (vt, .inl (cI, 4, .inl (upd (upd (upd (upd vf 0 a) 1 b) 2 (0 : Int32)) 3 (0 : Int32))))] H := hP
  have hD : va_D A [(m0, .inr (7, [.int th, .int (2 : Int32), .int (0 : Int32), .ref rw, .int (0 : Int32), .int (0 : Int32), .int (0 : Int32), .ref ry, .int (0 : Int32), .int (0 : Int32), .ref ti, .int (0 : Int32), .int (0 : Int32), .ref po, .ref su, .ref sq, .ref ch, .ref vt, .ref sh])), (vt, .inl (cI, 4, .inl (upd (upd (upd (upd vf 0 a) 1 b) 2 (0 : Int32)) 3 (0 : Int32))))] := hD
  refine lv_aload_n hx hb d_M_add_9 rfl (lv_at hl 0 rfl) ?_
  refine lv_aload_n hx hb d_M_add_10 rfl (lv_at hl 0 rfl) ?_
  refine lv_iconst (v := (5 : Int32)) hx hb d_M_add_11 (by decide) ?_
  refine cx_call (D := D) (cl := kl) (ws := _) (wc := [(m0, .inr (7, [.int th, .int (2 : Int32), .int (0 : Int32), .ref rw, .int (0 : Int32), .int (0 : Int32), .int (0 : Int32), .ref ry, .int (0 : Int32), .int (0 : Int32), .ref ti, .int (0 : Int32), .int (0 : Int32), .ref po, .ref su, .ref sq, .ref ch, .ref vt, .ref sh])), (vt, .inl (cI, 4, .inl (upd (upd (upd (upd vf 0 a) 1 b) 2 (0 : Int32)) 3 (0 : Int32))))]) (wr := []) (tx_runV (C := cn_M) (b := m0) (As := [.int (5 : Int32)]) (rest := [.ref m0]) hx hb hml hown (c_M_within2_y E H.size m0 rw ry ti po su sq ch vt sh th (5 : Int32) (upd (upd (upd (upd vf 0 a) 1 b) 2 (0 : Int32)) 3 (0 : Int32)) h) (cx_C (b0 := b0) G hx0 mw_787 mw_9 ny_M_within (by decide)) (gw.at G hx0 mw_784 rfl _) (gw.at G hx0 mw_786 rfl _) (gw.at G hx0 ms_M_within rfl _) ⟨cx_blind, va_recv hK hP (q0 := 0) (ci := 7) (q := (cn_M, ft_M, 19)) rfl rfl, (cx_pre (s := s) hx0 hP hD hS hA0 [0, 1] rfl rfl (by decide))⟩ rfl rfl hl.1 rfl (lv_room (Nat.le_of_ble_eq_true rfl)) d_M_add_12 ⟨by decide, by decide⟩) hP hD hS hA [0, 1] [] rfl rfl (by decide) (by decide) (fun v t w1 H locs ht hW9 hp hP hD hS => ?_) (fun x t w1 H locs ht hW9 hp hP hD hS => by obtain ⟨h9, -⟩ := hp; cases h9)
  obtain ⟨h9, rfl⟩ := hp
  cases h9
  refine W.eq (g2 := F0 m 15 ls [.int (1 : Int32), .ref m0]) rfl ?_
  refine W.widen (k := 0) (n := 0) (by decide) (by decide) ?_
  have hP : va_P D kl [(m0, .inr (7, [.int th, .int (2 : Int32), .int (0 : Int32), .ref rw, .int (0 : Int32), .int (0 : Int32), .int (0 : Int32), .ref ry, .int (0 : Int32), .int (0 : Int32), .ref ti, .int (0 : Int32), .int (0 : Int32), .ref po, .ref su, .ref sq, .ref ch, .ref vt, .ref sh])), (vt, .inl (cI, 4, .inl (upd (upd (upd (upd vf 0 a) 1 b) 2 (0 : Int32)) 3 (0 : Int32))))] H := hP
  have hD : va_D A [(m0, .inr (7, [.int th, .int (2 : Int32), .int (0 : Int32), .ref rw, .int (0 : Int32), .int (0 : Int32), .int (0 : Int32), .ref ry, .int (0 : Int32), .int (0 : Int32), .ref ti, .int (0 : Int32), .int (0 : Int32), .ref po, .ref su, .ref sq, .ref ch, .ref vt, .ref sh])), (vt, .inl (cI, 4, .inl (upd (upd (upd (upd vf 0 a) 1 b) 2 (0 : Int32)) 3 (0 : Int32))))] := hD
  refine lv_if_eq (tgt := 25) hx hb d_M_add_15 (by decide) (fun h99 => absurd h99 (by decide)) (fun _ => ?_)
  refine lv_aload_n hx hb d_M_add_18 rfl (lv_at hl 0 rfl) ?_
  refine cx_call (D := D) (cl := kl) (ws := _) (wc := [(m0, .inr (7, [.int th, .int (2 : Int32), .int (0 : Int32), .ref rw, .int (0 : Int32), .int (0 : Int32), .int (0 : Int32), .ref ry, .int (0 : Int32), .int (0 : Int32), .ref ti, .int (0 : Int32), .int (0 : Int32), .ref po, .ref su, .ref sq, .ref ch, .ref vt, .ref sh])), (vt, .inl (cI, 4, .inl (upd (upd (upd (upd vf 0 a) 1 b) 2 (0 : Int32)) 3 (0 : Int32))))]) (wr := []) (tx_runV (C := cn_M) (b := m0) (As := []) (rest := [.ref m0]) hx hb hml hown (c_M_nothing_y E H.size m0 rw ry ti po su sq ch vt sh th (2 : Int32) (upd (upd (upd (upd vf 0 a) 1 b) 2 (0 : Int32)) 3 (0 : Int32)) h2) (cx_C (b0 := b0) G hx0 mw_794 mw_9 ny_M_nothing (by decide)) (gw.at G hx0 mw_791 rfl _) (gw.at G hx0 mw_793 rfl _) (gw.at G hx0 ms_M_nothing rfl _) ⟨cx_blind, va_recv hK hP (q0 := 0) (ci := 7) (q := (cn_M, ft_M, 19)) rfl rfl, (cx_pre (s := s) hx0 hP hD hS hA0 [0, 1] rfl rfl (by decide))⟩ rfl rfl hl.1 rfl (lv_room (Nat.le_of_ble_eq_true rfl)) d_M_add_19 ⟨by decide, by decide⟩) hP hD hS hA [0, 1] [] rfl rfl (by decide) (by decide) (fun v t w1 H locs ht hW9 hp hP hD hS => ?_) (fun x t w1 H locs ht hW9 hp hP hD hS => by obtain ⟨h9, -⟩ := hp; cases h9)
  obtain ⟨h9, rfl⟩ := hp
  cases h9
  refine W.eq (g2 := F0 m 22 ls [.int (1 : Int32), .ref m0]) rfl ?_
  refine W.widen (k := 0) (n := 0) (by decide) (by decide) ?_
  have hP : va_P D kl [(m0, .inr (7, [.int th, .int (2 : Int32), .int (0 : Int32), .ref rw, .int (0 : Int32), .int (0 : Int32), .int (0 : Int32), .ref ry, .int (0 : Int32), .int (0 : Int32), .ref ti, .int (0 : Int32), .int (0 : Int32), .ref po, .ref su, .ref sq, .ref ch, .ref vt, .ref sh])), (vt, .inl (cI, 4, .inl (upd (upd (upd (upd vf 0 a) 1 b) 2 (0 : Int32)) 3 (0 : Int32))))] H := hP
  have hD : va_D A [(m0, .inr (7, [.int th, .int (2 : Int32), .int (0 : Int32), .ref rw, .int (0 : Int32), .int (0 : Int32), .int (0 : Int32), .ref ry, .int (0 : Int32), .int (0 : Int32), .ref ti, .int (0 : Int32), .int (0 : Int32), .ref po, .ref su, .ref sq, .ref ch, .ref vt, .ref sh])), (vt, .inl (cI, 4, .inl (upd (upd (upd (upd vf 0 a) 1 b) 2 (0 : Int32)) 3 (0 : Int32))))] := hD
  refine lv_if_eq (tgt := 29) hx hb d_M_add_22 (by decide) (fun h99 => absurd h99 (by decide)) (fun _ => ?_)
  refine lv_iconst (v := (1 : Int32)) hx hb d_M_add_25 (by decide) ?_
  refine lv_goto (tgt := 43) hx hb d_M_add_26 (by decide) ?_
  refine va_put (D := D) (ci := 7) (v := .int (1 : Int32)) (ty := .int) (C := cn_M) (T := ft_M) (N := 19) hx hb hf_M (fun _ h => h) fy_M fk_M fn_M hown hK hP hD hS 0 rfl rfl 0 (by decide) (gw.at G hx0 mw_713 rfl _) (fun _ h9 => h9) rfl (by decide +kernel) rfl rfl (Nat.le_of_ble_eq_true rfl) d_M_add_43 (fun H locs hP hD hS => ?_)
  have hP : va_P D kl [(m0, .inr (7, [.int (1 : Int32), .int (2 : Int32), .int (0 : Int32), .ref rw, .int (0 : Int32), .int (0 : Int32), .int (0 : Int32), .ref ry, .int (0 : Int32), .int (0 : Int32), .ref ti, .int (0 : Int32), .int (0 : Int32), .ref po, .ref su, .ref sq, .ref ch, .ref vt, .ref sh])), (vt, .inl (cI, 4, .inl (upd (upd (upd (upd vf 0 a) 1 b) 2 (0 : Int32)) 3 (0 : Int32))))] H := hP
  have hD : va_D A [(m0, .inr (7, [.int (1 : Int32), .int (2 : Int32), .int (0 : Int32), .ref rw, .int (0 : Int32), .int (0 : Int32), .int (0 : Int32), .ref ry, .int (0 : Int32), .int (0 : Int32), .ref ti, .int (0 : Int32), .int (0 : Int32), .ref po, .ref su, .ref sq, .ref ch, .ref vt, .ref sh])), (vt, .inl (cI, 4, .inl (upd (upd (upd (upd vf 0 a) 1 b) 2 (0 : Int32)) 3 (0 : Int32))))] := hD
  refine lv_aload_n hx hb d_M_add_46 rfl (lv_at hl 0 rfl) ?_
  refine va_get (D := D) (ci := 7) (v := .int (1 : Int32)) (C := cn_M) (T := ft_M) (N := 19) hx hb hf_M (fun _ h => h) hown hK hP 0 rfl rfl 0 (by decide) (gw.at G hx0 mw_713 rfl _) (fun _ h9 => h9) rfl d_M_add_47 ?_
  refine lv_if_le (tgt := 55) hx hb d_M_add_50 (by decide) (fun h99 => absurd h99 (by decide)) (fun _ => ?_)
  refine lv_iconst (v := (0 : Int32)) hx hb d_M_add_53 (by decide) ?_
  exact tx_mono (fun _ h => tx_Z.of h) (W.iret (v := (0 : Int32)) hx hb hr (fun t ht hW => ⟨⟨[(m0, .inr (7, [.int (1 : Int32), .int (2 : Int32), .int (0 : Int32), .ref rw, .int (0 : Int32), .int (0 : Int32), .int (0 : Int32), .ref ry, .int (0 : Int32), .int (0 : Int32), .ref ti, .int (0 : Int32), .int (0 : Int32), .ref po, .ref su, .ref sq, .ref ch, .ref vt, .ref sh]))], ⟨rfl, rfl⟩, by rw [ht]; exact hP.sub [0] rfl, hD.sub [0] (by decide) rfl⟩, hS.F ht⟩) hS.2.2 d_M_add_54)

set_option maxHeartbeats 4000000 in
set_option maxRecDepth 100000 in
theorem c_M_add2_y {l : Launch} {s0 : State} {b0 : Addr} {D : va_G} {cI cJ cZ : ClassId} {tC tS : Nat} (E : gE l s0 b0 D cI cJ cZ tC tS) (sz : Nat) (m0 : Nat) (rw : Nat) (ry : Nat) (ti : Nat) (po : Nat) (su : Nat) (sq : Nat) (ch : Nat) (vt : Nat) (sh : Nat) (th : Int32) (a : Int32) (b : Int32) (c2 : Int32) (d2 : Int32) (vf : Nat → Int32) (wf : Nat → Int32) (h : inw (5 : Int32) a = true ∧ inw (5 : Int32) b = true) (h2 : ¬ all4 a b 0 0) : cx_M l s0 D kl y_M_add b_M_add 6 (some .int) ({ frames := 2, cells := 0, slots := 0, locals := 44 } : Room) 0 0 [.ref m0, .int a, .int b, .int c2, .int d2] [(m0, .inr (7, [.int th, .int (2 : Int32), .int (0 : Int32), .ref rw, .int (0 : Int32), .int (0 : Int32), .int (0 : Int32), .ref ry, .int (0 : Int32), .int (0 : Int32), .ref ti, .int (0 : Int32), .int (0 : Int32), .ref po, .ref su, .ref sq, .ref ch, .ref vt, .ref sh])), (vt, .inl (cI, 4, .inl vf)), (rw, .inl (cI, 32, .inl wf))] sz (fun o9 _ w9 => o9 = .returned (some (.int (0 : Int32))) ∧ w9 = [(m0, .inr (7, [.int (0 : Int32), .int (2 : Int32), .int (1 : Int32), .ref rw, .int (0 : Int32), .int (0 : Int32), .int (0 : Int32), .ref ry, .int (0 : Int32), .int (0 : Int32), .ref ti, .int (0 : Int32), .int (0 : Int32), .ref po, .ref su, .ref sq, .ref ch, .ref vt, .ref sh]))]) := by
  refine tx_ofW (cc := b_M_add) (maxL := 6) (ret := (some .int)) (by decide) rfl ?_
  intro p e s m args below meth c s₁ B hml hT hv
  obtain ⟨rfl, hsz, hP, hD0, hx0⟩ := hv
  have hx := B.exec
  have hb := B.bytes
  have hr := B.returns
  have G := E.2.1
  have hown : s.vm.findClass cn_M = some m.cls := findClass_of_methodNamed B.named
  have hlocks := B.notSynchronized
  have hK := va_K.moved hx0.1.alike E.2.2.1
  have hf_M : ∀ w99 ∈ u_ws cn_M ft_M 19, w99.before ([.ref m0, .int a, .int b, .int c2, .int d2] : List Value).toArray s = true := fun w99 h99 => gw.at G hx0 (fw_M w99 h99) (fo_M w99 h99) _
  subst hsz
  have hA0 := cx_new hD0 hx0.2.1
  have hD := hD0.self (sz := s.heap.size)
  generalize hAe : va_A [(m0, .inr (7, [.int th, .int (2 : Int32), .int (0 : Int32), .ref rw, .int (0 : Int32), .int (0 : Int32), .int (0 : Int32), .ref ry, .int (0 : Int32), .int (0 : Int32), .ref ti, .int (0 : Int32), .int (0 : Int32), .ref po, .ref su, .ref sq, .ref ch, .ref vt, .ref sh])), (vt, .inl (cI, 4, .inl vf)), (rw, .inl (cI, 32, .inl wf))] s.heap.size = A at hD hA0 ⊢
  have hA : ∀ q : Nat, s.heap.size ≤ q → A q := fun q h => by rw [← hAe]; exact Or.inr h
  have hS : va_S A s.heap s.heap [] := va_S.rf
  have hl := lv_entry ([.ref m0, .int a, .int b, .int c2, .int d2]) (n := 6) (Nat.le_of_ble_eq_true rfl)
  rw [lg_entry_eq]
  generalize (lg_sl ([.ref m0, .int a, .int b, .int c2, .int d2]) ++ List.replicate (6 - (lg_sl ([.ref m0, .int a, .int b, .int c2, .int d2])).length) Slot.unset).toArray = ls at hl ⊢
  have hl : lv_has ls 6 [(0, .ref m0), (1, .int a), (2, .int b), (3, .int c2), (4, .int d2)] := hl
  have hP : va_P D kl [(m0, .inr (7, [.int th, .int (2 : Int32), .int (0 : Int32), .ref rw, .int (0 : Int32), .int (0 : Int32), .int (0 : Int32), .ref ry, .int (0 : Int32), .int (0 : Int32), .ref ti, .int (0 : Int32), .int (0 : Int32), .ref po, .ref su, .ref sq, .ref ch, .ref vt, .ref sh])), (vt, .inl (cI, 4, .inl vf)), (rw, .inl (cI, 32, .inl wf))] s.heap := hP
  have hml : c.maxLocals = 6 := hml
  refine lv_aload_n hx hb d_M_add_0 rfl (lv_at hl 0 rfl) ?_
  refine lv_iload_n hx hb d_M_add_1 rfl (lv_at hl 1 rfl) ?_
  refine lv_iload_n hx hb d_M_add_2 rfl (lv_at hl 2 rfl) ?_
  refine lv_iload_n hx hb d_M_add_3 rfl (lv_at hl 3 rfl) ?_
  refine lv_iload hx hb d_M_add_4 (lv_at hl 4 rfl) ?_
  refine cx_call (D := D) (cl := kl) (ws := _) (wc := [(m0, .inr (7, [.int th, .int (2 : Int32), .int (0 : Int32), .ref rw, .int (0 : Int32), .int (0 : Int32), .int (0 : Int32), .ref ry, .int (0 : Int32), .int (0 : Int32), .ref ti, .int (0 : Int32), .int (0 : Int32), .ref po, .ref su, .ref sq, .ref ch, .ref vt, .ref sh])), (vt, .inl (cI, 4, .inl vf))]) (wr := [(rw, .inl (cI, 32, .inl wf))]) (tx_runV (C := cn_M) (b := m0) (As := [.int a, .int b, .int c2, .int d2]) (rest := []) hx hb hml hown (c_M_set2 E s.heap.size m0 rw ry ti po su sq ch vt sh th a b c2 d2 vf ) (cx_C (b0 := b0) G hx0 mw_783 mw_9 ny_M_set (by decide)) (gw.at G hx0 mw_780 rfl _) (gw.at G hx0 mw_782 rfl _) (gw.at G hx0 ms_M_set rfl _) ⟨cx_blind, va_recv hK hP (q0 := 0) (ci := 7) (q := (cn_M, ft_M, 19)) rfl rfl, (cx_pre (s := s) hx0 hP hD hS hA0 [0, 1] rfl rfl (by decide))⟩ rfl rfl hl.1 rfl (lv_room (Nat.le_of_ble_eq_true rfl)) d_M_add_6 ⟨by decide, by decide⟩) hP hD hS hA [0, 1] [2] rfl rfl (by decide) (by decide) (fun v t w1 H locs ht hW9 hp hP hD hS => ?_) (fun x t w1 H locs ht hW9 hp hP hD hS => by obtain ⟨h9, -⟩ := hp; cases h9)
  obtain ⟨h9, rfl⟩ := hp
  cases h9
  refine W.eq (g2 := F0 m 9 ls []) rfl ?_
  refine W.widen (k := 0) (n := 0) (by decide) (by decide) ?_
  have hP : va_P D kl [(rw, .inl (cI, 32, .inl wf)), (m0, .inr (7, [.int th, .int (2 : Int32), .int (0 : Int32), .ref rw, .int (0 : Int32), .int (0 : Int32), .int (0 : Int32), .ref ry, .int (0 : Int32), .int (0 : Int32), .ref ti, .int (0 : Int32), .int (0 : Int32), .ref po, .ref su, .ref sq, .ref ch, .ref vt, .ref sh])), (vt, .inl (cI, 4, .inl (upd (upd (upd (upd vf 0 a) 1 b) 2 (0 : Int32)) 3 (0 : Int32))))] H := hP
  have hD : va_D A [(rw, .inl (cI, 32, .inl wf)), (m0, .inr (7, [.int th, .int (2 : Int32), .int (0 : Int32), .ref rw, .int (0 : Int32), .int (0 : Int32), .int (0 : Int32), .ref ry, .int (0 : Int32), .int (0 : Int32), .ref ti, .int (0 : Int32), .int (0 : Int32), .ref po, .ref su, .ref sq, .ref ch, .ref vt, .ref sh])), (vt, .inl (cI, 4, .inl (upd (upd (upd (upd vf 0 a) 1 b) 2 (0 : Int32)) 3 (0 : Int32))))] := hD
  refine lv_aload_n hx hb d_M_add_9 rfl (lv_at hl 0 rfl) ?_
  refine lv_aload_n hx hb d_M_add_10 rfl (lv_at hl 0 rfl) ?_
  refine lv_iconst (v := (5 : Int32)) hx hb d_M_add_11 (by decide) ?_
  refine cx_call (D := D) (cl := kl) (ws := _) (wc := [(m0, .inr (7, [.int th, .int (2 : Int32), .int (0 : Int32), .ref rw, .int (0 : Int32), .int (0 : Int32), .int (0 : Int32), .ref ry, .int (0 : Int32), .int (0 : Int32), .ref ti, .int (0 : Int32), .int (0 : Int32), .ref po, .ref su, .ref sq, .ref ch, .ref vt, .ref sh])), (vt, .inl (cI, 4, .inl (upd (upd (upd (upd vf 0 a) 1 b) 2 (0 : Int32)) 3 (0 : Int32))))]) (wr := [(rw, .inl (cI, 32, .inl wf))]) (tx_runV (C := cn_M) (b := m0) (As := [.int (5 : Int32)]) (rest := [.ref m0]) hx hb hml hown (c_M_within2_y E H.size m0 rw ry ti po su sq ch vt sh th (5 : Int32) (upd (upd (upd (upd vf 0 a) 1 b) 2 (0 : Int32)) 3 (0 : Int32)) h) (cx_C (b0 := b0) G hx0 mw_787 mw_9 ny_M_within (by decide)) (gw.at G hx0 mw_784 rfl _) (gw.at G hx0 mw_786 rfl _) (gw.at G hx0 ms_M_within rfl _) ⟨cx_blind, va_recv hK hP (q0 := 1) (ci := 7) (q := (cn_M, ft_M, 19)) rfl rfl, (cx_pre (s := s) hx0 hP hD hS hA0 [1, 2] rfl rfl (by decide))⟩ rfl rfl hl.1 rfl (lv_room (Nat.le_of_ble_eq_true rfl)) d_M_add_12 ⟨by decide, by decide⟩) hP hD hS hA [1, 2] [0] rfl rfl (by decide) (by decide) (fun v t w1 H locs ht hW9 hp hP hD hS => ?_) (fun x t w1 H locs ht hW9 hp hP hD hS => by obtain ⟨h9, -⟩ := hp; cases h9)
  obtain ⟨h9, rfl⟩ := hp
  cases h9
  refine W.eq (g2 := F0 m 15 ls [.int (1 : Int32), .ref m0]) rfl ?_
  refine W.widen (k := 0) (n := 0) (by decide) (by decide) ?_
  have hP : va_P D kl [(rw, .inl (cI, 32, .inl wf)), (m0, .inr (7, [.int th, .int (2 : Int32), .int (0 : Int32), .ref rw, .int (0 : Int32), .int (0 : Int32), .int (0 : Int32), .ref ry, .int (0 : Int32), .int (0 : Int32), .ref ti, .int (0 : Int32), .int (0 : Int32), .ref po, .ref su, .ref sq, .ref ch, .ref vt, .ref sh])), (vt, .inl (cI, 4, .inl (upd (upd (upd (upd vf 0 a) 1 b) 2 (0 : Int32)) 3 (0 : Int32))))] H := hP
  have hD : va_D A [(rw, .inl (cI, 32, .inl wf)), (m0, .inr (7, [.int th, .int (2 : Int32), .int (0 : Int32), .ref rw, .int (0 : Int32), .int (0 : Int32), .int (0 : Int32), .ref ry, .int (0 : Int32), .int (0 : Int32), .ref ti, .int (0 : Int32), .int (0 : Int32), .ref po, .ref su, .ref sq, .ref ch, .ref vt, .ref sh])), (vt, .inl (cI, 4, .inl (upd (upd (upd (upd vf 0 a) 1 b) 2 (0 : Int32)) 3 (0 : Int32))))] := hD
  refine lv_if_eq (tgt := 25) hx hb d_M_add_15 (by decide) (fun h99 => absurd h99 (by decide)) (fun _ => ?_)
  refine lv_aload_n hx hb d_M_add_18 rfl (lv_at hl 0 rfl) ?_
  refine cx_call (D := D) (cl := kl) (ws := _) (wc := [(m0, .inr (7, [.int th, .int (2 : Int32), .int (0 : Int32), .ref rw, .int (0 : Int32), .int (0 : Int32), .int (0 : Int32), .ref ry, .int (0 : Int32), .int (0 : Int32), .ref ti, .int (0 : Int32), .int (0 : Int32), .ref po, .ref su, .ref sq, .ref ch, .ref vt, .ref sh])), (vt, .inl (cI, 4, .inl (upd (upd (upd (upd vf 0 a) 1 b) 2 (0 : Int32)) 3 (0 : Int32))))]) (wr := [(rw, .inl (cI, 32, .inl wf))]) (tx_runV (C := cn_M) (b := m0) (As := []) (rest := [.ref m0]) hx hb hml hown (c_M_nothing_n E H.size m0 rw ry ti po su sq ch vt sh th (2 : Int32) (upd (upd (upd (upd vf 0 a) 1 b) 2 (0 : Int32)) 3 (0 : Int32)) h2) (cx_C (b0 := b0) G hx0 mw_794 mw_9 ny_M_nothing (by decide)) (gw.at G hx0 mw_791 rfl _) (gw.at G hx0 mw_793 rfl _) (gw.at G hx0 ms_M_nothing rfl _) ⟨cx_blind, va_recv hK hP (q0 := 1) (ci := 7) (q := (cn_M, ft_M, 19)) rfl rfl, (cx_pre (s := s) hx0 hP hD hS hA0 [1, 2] rfl rfl (by decide))⟩ rfl rfl hl.1 rfl (lv_room (Nat.le_of_ble_eq_true rfl)) d_M_add_19 ⟨by decide, by decide⟩) hP hD hS hA [1, 2] [0] rfl rfl (by decide) (by decide) (fun v t w1 H locs ht hW9 hp hP hD hS => ?_) (fun x t w1 H locs ht hW9 hp hP hD hS => by obtain ⟨h9, -⟩ := hp; cases h9)
  obtain ⟨h9, rfl⟩ := hp
  cases h9
  refine W.eq (g2 := F0 m 22 ls [.int (0 : Int32), .ref m0]) rfl ?_
  refine W.widen (k := 0) (n := 0) (by decide) (by decide) ?_
  have hP : va_P D kl [(rw, .inl (cI, 32, .inl wf)), (m0, .inr (7, [.int th, .int (2 : Int32), .int (0 : Int32), .ref rw, .int (0 : Int32), .int (0 : Int32), .int (0 : Int32), .ref ry, .int (0 : Int32), .int (0 : Int32), .ref ti, .int (0 : Int32), .int (0 : Int32), .ref po, .ref su, .ref sq, .ref ch, .ref vt, .ref sh])), (vt, .inl (cI, 4, .inl (upd (upd (upd (upd vf 0 a) 1 b) 2 (0 : Int32)) 3 (0 : Int32))))] H := hP
  have hD : va_D A [(rw, .inl (cI, 32, .inl wf)), (m0, .inr (7, [.int th, .int (2 : Int32), .int (0 : Int32), .ref rw, .int (0 : Int32), .int (0 : Int32), .int (0 : Int32), .ref ry, .int (0 : Int32), .int (0 : Int32), .ref ti, .int (0 : Int32), .int (0 : Int32), .ref po, .ref su, .ref sq, .ref ch, .ref vt, .ref sh])), (vt, .inl (cI, 4, .inl (upd (upd (upd (upd vf 0 a) 1 b) 2 (0 : Int32)) 3 (0 : Int32))))] := hD
  refine lv_if_eq (tgt := 29) hx hb d_M_add_22 (by decide) (fun _ => ?_) (fun h99 => absurd h99 (by decide))
  refine lv_aload_n hx hb d_M_add_29 rfl (lv_at hl 0 rfl) ?_
  refine va_get (D := D) (ci := 7) (v := .int (0 : Int32)) (C := cn_M) (T := ft_M) (N := 19) hx hb hf_M (fun _ h => h) hown hK hP 1 rfl rfl 2 (by decide) (gw.at G hx0 mw_715 rfl _) (fun _ h9 => h9) rfl d_M_add_30 ?_
  refine lv_bipush (v := (8 : Int32)) hx hb d_M_add_33 (by decide) ?_
  refine lv_icmp_ne (tgt := 42) hx hb d_M_add_35 (by decide) (fun _ => ?_) (fun h99 => absurd h99 (by decide))
  refine lv_iconst (v := (0 : Int32)) hx hb d_M_add_42 (by decide) ?_
  refine va_put (D := D) (ci := 7) (v := .int (0 : Int32)) (ty := .int) (C := cn_M) (T := ft_M) (N := 19) hx hb hf_M (fun _ h => h) fy_M fk_M fn_M hown hK hP hD hS 1 rfl rfl 0 (by decide) (gw.at G hx0 mw_713 rfl _) (fun _ h9 => h9) rfl (by decide +kernel) rfl rfl (Nat.le_of_ble_eq_true rfl) d_M_add_43 (fun H locs hP hD hS => ?_)
  have hP : va_P D kl [(rw, .inl (cI, 32, .inl wf)), (m0, .inr (7, [.int (0 : Int32), .int (2 : Int32), .int (0 : Int32), .ref rw, .int (0 : Int32), .int (0 : Int32), .int (0 : Int32), .ref ry, .int (0 : Int32), .int (0 : Int32), .ref ti, .int (0 : Int32), .int (0 : Int32), .ref po, .ref su, .ref sq, .ref ch, .ref vt, .ref sh])), (vt, .inl (cI, 4, .inl (upd (upd (upd (upd vf 0 a) 1 b) 2 (0 : Int32)) 3 (0 : Int32))))] H := hP
  have hD : va_D A [(rw, .inl (cI, 32, .inl wf)), (m0, .inr (7, [.int (0 : Int32), .int (2 : Int32), .int (0 : Int32), .ref rw, .int (0 : Int32), .int (0 : Int32), .int (0 : Int32), .ref ry, .int (0 : Int32), .int (0 : Int32), .ref ti, .int (0 : Int32), .int (0 : Int32), .ref po, .ref su, .ref sq, .ref ch, .ref vt, .ref sh])), (vt, .inl (cI, 4, .inl (upd (upd (upd (upd vf 0 a) 1 b) 2 (0 : Int32)) 3 (0 : Int32))))] := hD
  refine lv_aload_n hx hb d_M_add_46 rfl (lv_at hl 0 rfl) ?_
  refine va_get (D := D) (ci := 7) (v := .int (0 : Int32)) (C := cn_M) (T := ft_M) (N := 19) hx hb hf_M (fun _ h => h) hown hK hP 1 rfl rfl 0 (by decide) (gw.at G hx0 mw_713 rfl _) (fun _ h9 => h9) rfl d_M_add_47 ?_
  refine lv_if_le (tgt := 55) hx hb d_M_add_50 (by decide) (fun _ => ?_) (fun h99 => absurd h99 (by decide))
  refine lv_iconst (v := (0 : Int32)) hx hb d_M_add_55 (by decide) ?_
  refine lv_istore (lv' := [(5, .int (0 : Int32)), (0, .ref m0), (1, .int a), (2, .int b), (3, .int c2), (4, .int d2)]) hx hb d_M_add_56 hl (by decide) rfl (fun ls hl => ?_)
  refine lv_iload hx hb d_M_add_58 (lv_at hl 0 rfl) ?_
  refine lv_iconst (v := (4 : Int32)) hx hb d_M_add_60 (by decide) ?_
  refine lv_icmp_ge (tgt := 91) hx hb d_M_add_61 (by decide) (fun h99 => absurd h99 (by decide)) (fun _ => ?_)
  refine lv_aload_n hx hb d_M_add_64 rfl (lv_at hl 1 rfl) ?_
  refine va_get (D := D) (ci := 7) (v := .ref rw) (C := cn_M) (T := ft_M) (N := 19) hx hb hf_M (fun _ h => h) hown hK hP 1 rfl rfl 3 (by decide) (gw.at G hx0 mw_716 rfl _) (fun _ h9 => h9) rfl d_M_add_65 ?_
  refine lv_iconst (v := (4 : Int32)) hx hb d_M_add_68 (by decide) ?_
  refine lv_aload_n hx hb d_M_add_69 rfl (lv_at hl 1 rfl) ?_
  refine va_get (D := D) (ci := 7) (v := .int (0 : Int32)) (C := cn_M) (T := ft_M) (N := 19) hx hb hf_M (fun _ h => h) hown hK hP 1 rfl rfl 2 (by decide) (gw.at G hx0 mw_715 rfl _) (fun _ h9 => h9) rfl d_M_add_70 ?_
  refine lv_imul hx hb d_M_add_73 ?_
  refine tp_i (y := (0 : Int32)) (by decide) ?_
  refine lv_iload hx hb d_M_add_74 (lv_at hl 0 rfl) ?_
  refine lv_iadd hx hb d_M_add_76 ?_
  refine tp_i (y := (0 : Int32)) (by decide) ?_
  refine lv_aload_n hx hb d_M_add_77 rfl (lv_at hl 1 rfl) ?_
  refine va_get (D := D) (ci := 7) (v := .ref vt) (C := cn_M) (T := ft_M) (N := 19) hx hb hf_M (fun _ h => h) hown hK hP 1 rfl rfl 17 (by decide) (gw.at G hx0 mw_730 rfl _) (fun _ h9 => h9) rfl d_M_add_78 ?_
  refine lv_iload hx hb d_M_add_81 (lv_at hl 0 rfl) ?_
  refine va_iald hx hb hK hP 2 0 rfl rfl (vp_in_iff.mpr (by decide)) d_M_add_83 ?_
  refine tp_i (y := (upd (upd (upd (upd vf 0 a) 1 b) 2 (0 : Int32)) 3 (0 : Int32)) 0) (by rfl) ?_
  refine va_iast hx hb hK hP hD hS 0 0 rfl rfl (vp_in_iff.mpr (by decide)) d_M_add_84 (fun H locs hP hD hS => ?_)
  have hP : va_P D kl [(rw, .inl (cI, 32, .inl (upd wf 0 ((upd (upd (upd (upd vf 0 a) 1 b) 2 (0 : Int32)) 3 (0 : Int32)) 0)))), (m0, .inr (7, [.int (0 : Int32), .int (2 : Int32), .int (0 : Int32), .ref rw, .int (0 : Int32), .int (0 : Int32), .int (0 : Int32), .ref ry, .int (0 : Int32), .int (0 : Int32), .ref ti, .int (0 : Int32), .int (0 : Int32), .ref po, .ref su, .ref sq, .ref ch, .ref vt, .ref sh])), (vt, .inl (cI, 4, .inl (upd (upd (upd (upd vf 0 a) 1 b) 2 (0 : Int32)) 3 (0 : Int32))))] H := hP
  have hD : va_D A [(rw, .inl (cI, 32, .inl (upd wf 0 ((upd (upd (upd (upd vf 0 a) 1 b) 2 (0 : Int32)) 3 (0 : Int32)) 0)))), (m0, .inr (7, [.int (0 : Int32), .int (2 : Int32), .int (0 : Int32), .ref rw, .int (0 : Int32), .int (0 : Int32), .int (0 : Int32), .ref ry, .int (0 : Int32), .int (0 : Int32), .ref ti, .int (0 : Int32), .int (0 : Int32), .ref po, .ref su, .ref sq, .ref ch, .ref vt, .ref sh])), (vt, .inl (cI, 4, .inl (upd (upd (upd (upd vf 0 a) 1 b) 2 (0 : Int32)) 3 (0 : Int32))))] := hD
  refine lv_iinc (lv' := [(5, .int (1 : Int32)), (0, .ref m0), (1, .int a), (2, .int b), (3, .int c2), (4, .int d2)]) (k := 0) (v := (1 : Int32)) hx hb d_M_add_85 hl rfl (by decide) (by decide) rfl (fun ls hl => ?_)
  refine lv_goto (tgt := 58) hx hb d_M_add_88 (by decide) ?_
  refine lv_iload hx hb d_M_add_58 (lv_at hl 0 rfl) ?_
  refine lv_iconst (v := (4 : Int32)) hx hb d_M_add_60 (by decide) ?_
  refine lv_icmp_ge (tgt := 91) hx hb d_M_add_61 (by decide) (fun h99 => absurd h99 (by decide)) (fun _ => ?_)
  refine lv_aload_n hx hb d_M_add_64 rfl (lv_at hl 1 rfl) ?_
  refine va_get (D := D) (ci := 7) (v := .ref rw) (C := cn_M) (T := ft_M) (N := 19) hx hb hf_M (fun _ h => h) hown hK hP 1 rfl rfl 3 (by decide) (gw.at G hx0 mw_716 rfl _) (fun _ h9 => h9) rfl d_M_add_65 ?_
  refine lv_iconst (v := (4 : Int32)) hx hb d_M_add_68 (by decide) ?_
  refine lv_aload_n hx hb d_M_add_69 rfl (lv_at hl 1 rfl) ?_
  refine va_get (D := D) (ci := 7) (v := .int (0 : Int32)) (C := cn_M) (T := ft_M) (N := 19) hx hb hf_M (fun _ h => h) hown hK hP 1 rfl rfl 2 (by decide) (gw.at G hx0 mw_715 rfl _) (fun _ h9 => h9) rfl d_M_add_70 ?_
  refine lv_imul hx hb d_M_add_73 ?_
  refine tp_i (y := (0 : Int32)) (by decide) ?_
  refine lv_iload hx hb d_M_add_74 (lv_at hl 0 rfl) ?_
  refine lv_iadd hx hb d_M_add_76 ?_
  refine tp_i (y := (1 : Int32)) (by decide) ?_
  refine lv_aload_n hx hb d_M_add_77 rfl (lv_at hl 1 rfl) ?_
  refine va_get (D := D) (ci := 7) (v := .ref vt) (C := cn_M) (T := ft_M) (N := 19) hx hb hf_M (fun _ h => h) hown hK hP 1 rfl rfl 17 (by decide) (gw.at G hx0 mw_730 rfl _) (fun _ h9 => h9) rfl d_M_add_78 ?_
  refine lv_iload hx hb d_M_add_81 (lv_at hl 0 rfl) ?_
  refine va_iald hx hb hK hP 2 0 rfl rfl (vp_in_iff.mpr (by decide)) d_M_add_83 ?_
  refine tp_i (y := (upd (upd (upd (upd vf 0 a) 1 b) 2 (0 : Int32)) 3 (0 : Int32)) 1) (by rfl) ?_
  refine va_iast hx hb hK hP hD hS 0 0 rfl rfl (vp_in_iff.mpr (by decide)) d_M_add_84 (fun H locs hP hD hS => ?_)
  have hP : va_P D kl [(rw, .inl (cI, 32, .inl (upd (upd wf 0 ((upd (upd (upd (upd vf 0 a) 1 b) 2 (0 : Int32)) 3 (0 : Int32)) 0)) 1 ((upd (upd (upd (upd vf 0 a) 1 b) 2 (0 : Int32)) 3 (0 : Int32)) 1)))), (m0, .inr (7, [.int (0 : Int32), .int (2 : Int32), .int (0 : Int32), .ref rw, .int (0 : Int32), .int (0 : Int32), .int (0 : Int32), .ref ry, .int (0 : Int32), .int (0 : Int32), .ref ti, .int (0 : Int32), .int (0 : Int32), .ref po, .ref su, .ref sq, .ref ch, .ref vt, .ref sh])), (vt, .inl (cI, 4, .inl (upd (upd (upd (upd vf 0 a) 1 b) 2 (0 : Int32)) 3 (0 : Int32))))] H := hP
  have hD : va_D A [(rw, .inl (cI, 32, .inl (upd (upd wf 0 ((upd (upd (upd (upd vf 0 a) 1 b) 2 (0 : Int32)) 3 (0 : Int32)) 0)) 1 ((upd (upd (upd (upd vf 0 a) 1 b) 2 (0 : Int32)) 3 (0 : Int32)) 1)))), (m0, .inr (7, [.int (0 : Int32), .int (2 : Int32), .int (0 : Int32), .ref rw, .int (0 : Int32), .int (0 : Int32), .int (0 : Int32), .ref ry, .int (0 : Int32), .int (0 : Int32), .ref ti, .int (0 : Int32), .int (0 : Int32), .ref po, .ref su, .ref sq, .ref ch, .ref vt, .ref sh])), (vt, .inl (cI, 4, .inl (upd (upd (upd (upd vf 0 a) 1 b) 2 (0 : Int32)) 3 (0 : Int32))))] := hD
  refine lv_iinc (lv' := [(5, .int (2 : Int32)), (0, .ref m0), (1, .int a), (2, .int b), (3, .int c2), (4, .int d2)]) (k := 0) (v := (2 : Int32)) hx hb d_M_add_85 hl rfl (by decide) (by decide) rfl (fun ls hl => ?_)
  refine lv_goto (tgt := 58) hx hb d_M_add_88 (by decide) ?_
  refine lv_iload hx hb d_M_add_58 (lv_at hl 0 rfl) ?_
  refine lv_iconst (v := (4 : Int32)) hx hb d_M_add_60 (by decide) ?_
  refine lv_icmp_ge (tgt := 91) hx hb d_M_add_61 (by decide) (fun h99 => absurd h99 (by decide)) (fun _ => ?_)
  refine lv_aload_n hx hb d_M_add_64 rfl (lv_at hl 1 rfl) ?_
  refine va_get (D := D) (ci := 7) (v := .ref rw) (C := cn_M) (T := ft_M) (N := 19) hx hb hf_M (fun _ h => h) hown hK hP 1 rfl rfl 3 (by decide) (gw.at G hx0 mw_716 rfl _) (fun _ h9 => h9) rfl d_M_add_65 ?_
  refine lv_iconst (v := (4 : Int32)) hx hb d_M_add_68 (by decide) ?_
  refine lv_aload_n hx hb d_M_add_69 rfl (lv_at hl 1 rfl) ?_
  refine va_get (D := D) (ci := 7) (v := .int (0 : Int32)) (C := cn_M) (T := ft_M) (N := 19) hx hb hf_M (fun _ h => h) hown hK hP 1 rfl rfl 2 (by decide) (gw.at G hx0 mw_715 rfl _) (fun _ h9 => h9) rfl d_M_add_70 ?_
  refine lv_imul hx hb d_M_add_73 ?_
  refine tp_i (y := (0 : Int32)) (by decide) ?_
  refine lv_iload hx hb d_M_add_74 (lv_at hl 0 rfl) ?_
  refine lv_iadd hx hb d_M_add_76 ?_
  refine tp_i (y := (2 : Int32)) (by decide) ?_
  refine lv_aload_n hx hb d_M_add_77 rfl (lv_at hl 1 rfl) ?_
  refine va_get (D := D) (ci := 7) (v := .ref vt) (C := cn_M) (T := ft_M) (N := 19) hx hb hf_M (fun _ h => h) hown hK hP 1 rfl rfl 17 (by decide) (gw.at G hx0 mw_730 rfl _) (fun _ h9 => h9) rfl d_M_add_78 ?_
  refine lv_iload hx hb d_M_add_81 (lv_at hl 0 rfl) ?_
  refine va_iald hx hb hK hP 2 0 rfl rfl (vp_in_iff.mpr (by decide)) d_M_add_83 ?_
  refine tp_i (y := (upd (upd (upd (upd vf 0 a) 1 b) 2 (0 : Int32)) 3 (0 : Int32)) 2) (by rfl) ?_
  refine va_iast hx hb hK hP hD hS 0 0 rfl rfl (vp_in_iff.mpr (by decide)) d_M_add_84 (fun H locs hP hD hS => ?_)
  have hP : va_P D kl [(rw, .inl (cI, 32, .inl (upd (upd (upd wf 0 ((upd (upd (upd (upd vf 0 a) 1 b) 2 (0 : Int32)) 3 (0 : Int32)) 0)) 1 ((upd (upd (upd (upd vf 0 a) 1 b) 2 (0 : Int32)) 3 (0 : Int32)) 1)) 2 ((upd (upd (upd (upd vf 0 a) 1 b) 2 (0 : Int32)) 3 (0 : Int32)) 2)))), (m0, .inr (7, [.int (0 : Int32), .int (2 : Int32), .int (0 : Int32), .ref rw, .int (0 : Int32), .int (0 : Int32), .int (0 : Int32), .ref ry, .int (0 : Int32), .int (0 : Int32), .ref ti, .int (0 : Int32), .int (0 : Int32), .ref po, .ref su, .ref sq, .ref ch, .ref vt, .ref sh])), (vt, .inl (cI, 4, .inl (upd (upd (upd (upd vf 0 a) 1 b) 2 (0 : Int32)) 3 (0 : Int32))))] H := hP
  have hD : va_D A [(rw, .inl (cI, 32, .inl (upd (upd (upd wf 0 ((upd (upd (upd (upd vf 0 a) 1 b) 2 (0 : Int32)) 3 (0 : Int32)) 0)) 1 ((upd (upd (upd (upd vf 0 a) 1 b) 2 (0 : Int32)) 3 (0 : Int32)) 1)) 2 ((upd (upd (upd (upd vf 0 a) 1 b) 2 (0 : Int32)) 3 (0 : Int32)) 2)))), (m0, .inr (7, [.int (0 : Int32), .int (2 : Int32), .int (0 : Int32), .ref rw, .int (0 : Int32), .int (0 : Int32), .int (0 : Int32), .ref ry, .int (0 : Int32), .int (0 : Int32), .ref ti, .int (0 : Int32), .int (0 : Int32), .ref po, .ref su, .ref sq, .ref ch, .ref vt, .ref sh])), (vt, .inl (cI, 4, .inl (upd (upd (upd (upd vf 0 a) 1 b) 2 (0 : Int32)) 3 (0 : Int32))))] := hD
  refine lv_iinc (lv' := [(5, .int (3 : Int32)), (0, .ref m0), (1, .int a), (2, .int b), (3, .int c2), (4, .int d2)]) (k := 0) (v := (3 : Int32)) hx hb d_M_add_85 hl rfl (by decide) (by decide) rfl (fun ls hl => ?_)
  refine lv_goto (tgt := 58) hx hb d_M_add_88 (by decide) ?_
  refine lv_iload hx hb d_M_add_58 (lv_at hl 0 rfl) ?_
  refine lv_iconst (v := (4 : Int32)) hx hb d_M_add_60 (by decide) ?_
  refine lv_icmp_ge (tgt := 91) hx hb d_M_add_61 (by decide) (fun h99 => absurd h99 (by decide)) (fun _ => ?_)
  refine lv_aload_n hx hb d_M_add_64 rfl (lv_at hl 1 rfl) ?_
  refine va_get (D := D) (ci := 7) (v := .ref rw) (C := cn_M) (T := ft_M) (N := 19) hx hb hf_M (fun _ h => h) hown hK hP 1 rfl rfl 3 (by decide) (gw.at G hx0 mw_716 rfl _) (fun _ h9 => h9) rfl d_M_add_65 ?_
  refine lv_iconst (v := (4 : Int32)) hx hb d_M_add_68 (by decide) ?_
  refine lv_aload_n hx hb d_M_add_69 rfl (lv_at hl 1 rfl) ?_
  refine va_get (D := D) (ci := 7) (v := .int (0 : Int32)) (C := cn_M) (T := ft_M) (N := 19) hx hb hf_M (fun _ h => h) hown hK hP 1 rfl rfl 2 (by decide) (gw.at G hx0 mw_715 rfl _) (fun _ h9 => h9) rfl d_M_add_70 ?_
  refine lv_imul hx hb d_M_add_73 ?_
  refine tp_i (y := (0 : Int32)) (by decide) ?_
  refine lv_iload hx hb d_M_add_74 (lv_at hl 0 rfl) ?_
  refine lv_iadd hx hb d_M_add_76 ?_
  refine tp_i (y := (3 : Int32)) (by decide) ?_
  refine lv_aload_n hx hb d_M_add_77 rfl (lv_at hl 1 rfl) ?_
  refine va_get (D := D) (ci := 7) (v := .ref vt) (C := cn_M) (T := ft_M) (N := 19) hx hb hf_M (fun _ h => h) hown hK hP 1 rfl rfl 17 (by decide) (gw.at G hx0 mw_730 rfl _) (fun _ h9 => h9) rfl d_M_add_78 ?_
  refine lv_iload hx hb d_M_add_81 (lv_at hl 0 rfl) ?_
  refine va_iald hx hb hK hP 2 0 rfl rfl (vp_in_iff.mpr (by decide)) d_M_add_83 ?_
  refine tp_i (y := (upd (upd (upd (upd vf 0 a) 1 b) 2 (0 : Int32)) 3 (0 : Int32)) 3) (by rfl) ?_
  refine va_iast hx hb hK hP hD hS 0 0 rfl rfl (vp_in_iff.mpr (by decide)) d_M_add_84 (fun H locs hP hD hS => ?_)
  have hP : va_P D kl [(rw, .inl (cI, 32, .inl (upd (upd (upd (upd wf 0 ((upd (upd (upd (upd vf 0 a) 1 b) 2 (0 : Int32)) 3 (0 : Int32)) 0)) 1 ((upd (upd (upd (upd vf 0 a) 1 b) 2 (0 : Int32)) 3 (0 : Int32)) 1)) 2 ((upd (upd (upd (upd vf 0 a) 1 b) 2 (0 : Int32)) 3 (0 : Int32)) 2)) 3 ((upd (upd (upd (upd vf 0 a) 1 b) 2 (0 : Int32)) 3 (0 : Int32)) 3)))), (m0, .inr (7, [.int (0 : Int32), .int (2 : Int32), .int (0 : Int32), .ref rw, .int (0 : Int32), .int (0 : Int32), .int (0 : Int32), .ref ry, .int (0 : Int32), .int (0 : Int32), .ref ti, .int (0 : Int32), .int (0 : Int32), .ref po, .ref su, .ref sq, .ref ch, .ref vt, .ref sh])), (vt, .inl (cI, 4, .inl (upd (upd (upd (upd vf 0 a) 1 b) 2 (0 : Int32)) 3 (0 : Int32))))] H := hP
  have hD : va_D A [(rw, .inl (cI, 32, .inl (upd (upd (upd (upd wf 0 ((upd (upd (upd (upd vf 0 a) 1 b) 2 (0 : Int32)) 3 (0 : Int32)) 0)) 1 ((upd (upd (upd (upd vf 0 a) 1 b) 2 (0 : Int32)) 3 (0 : Int32)) 1)) 2 ((upd (upd (upd (upd vf 0 a) 1 b) 2 (0 : Int32)) 3 (0 : Int32)) 2)) 3 ((upd (upd (upd (upd vf 0 a) 1 b) 2 (0 : Int32)) 3 (0 : Int32)) 3)))), (m0, .inr (7, [.int (0 : Int32), .int (2 : Int32), .int (0 : Int32), .ref rw, .int (0 : Int32), .int (0 : Int32), .int (0 : Int32), .ref ry, .int (0 : Int32), .int (0 : Int32), .ref ti, .int (0 : Int32), .int (0 : Int32), .ref po, .ref su, .ref sq, .ref ch, .ref vt, .ref sh])), (vt, .inl (cI, 4, .inl (upd (upd (upd (upd vf 0 a) 1 b) 2 (0 : Int32)) 3 (0 : Int32))))] := hD
  refine lv_iinc (lv' := [(5, .int (4 : Int32)), (0, .ref m0), (1, .int a), (2, .int b), (3, .int c2), (4, .int d2)]) (k := 0) (v := (4 : Int32)) hx hb d_M_add_85 hl rfl (by decide) (by decide) rfl (fun ls hl => ?_)
  refine lv_goto (tgt := 58) hx hb d_M_add_88 (by decide) ?_
  refine lv_iload hx hb d_M_add_58 (lv_at hl 0 rfl) ?_
  refine lv_iconst (v := (4 : Int32)) hx hb d_M_add_60 (by decide) ?_
  refine lv_icmp_ge (tgt := 91) hx hb d_M_add_61 (by decide) (fun _ => ?_) (fun h99 => absurd h99 (by decide))
  refine lv_aload_n hx hb d_M_add_91 rfl (lv_at hl 1 rfl) ?_
  refine lv_dup hx hb d_M_add_92 rfl ?_
  refine va_get (D := D) (ci := 7) (v := .int (0 : Int32)) (C := cn_M) (T := ft_M) (N := 19) hx hb hf_M (fun _ h => h) hown hK hP 1 rfl rfl 2 (by decide) (gw.at G hx0 mw_715 rfl _) (fun _ h9 => h9) rfl d_M_add_93 ?_
  refine lv_iconst (v := (1 : Int32)) hx hb d_M_add_96 (by decide) ?_
  refine lv_iadd hx hb d_M_add_97 ?_
  refine tp_i (y := (1 : Int32)) (by decide) ?_
  refine va_put (D := D) (ci := 7) (v := .int (1 : Int32)) (ty := .int) (C := cn_M) (T := ft_M) (N := 19) hx hb hf_M (fun _ h => h) fy_M fk_M fn_M hown hK hP hD hS 1 rfl rfl 2 (by decide) (gw.at G hx0 mw_715 rfl _) (fun _ h9 => h9) rfl (by decide +kernel) rfl rfl (Nat.le_of_ble_eq_true rfl) d_M_add_98 (fun H locs hP hD hS => ?_)
  have hP : va_P D kl [(rw, .inl (cI, 32, .inl (upd (upd (upd (upd wf 0 ((upd (upd (upd (upd vf 0 a) 1 b) 2 (0 : Int32)) 3 (0 : Int32)) 0)) 1 ((upd (upd (upd (upd vf 0 a) 1 b) 2 (0 : Int32)) 3 (0 : Int32)) 1)) 2 ((upd (upd (upd (upd vf 0 a) 1 b) 2 (0 : Int32)) 3 (0 : Int32)) 2)) 3 ((upd (upd (upd (upd vf 0 a) 1 b) 2 (0 : Int32)) 3 (0 : Int32)) 3)))), (m0, .inr (7, [.int (0 : Int32), .int (2 : Int32), .int (1 : Int32), .ref rw, .int (0 : Int32), .int (0 : Int32), .int (0 : Int32), .ref ry, .int (0 : Int32), .int (0 : Int32), .ref ti, .int (0 : Int32), .int (0 : Int32), .ref po, .ref su, .ref sq, .ref ch, .ref vt, .ref sh])), (vt, .inl (cI, 4, .inl (upd (upd (upd (upd vf 0 a) 1 b) 2 (0 : Int32)) 3 (0 : Int32))))] H := hP
  have hD : va_D A [(rw, .inl (cI, 32, .inl (upd (upd (upd (upd wf 0 ((upd (upd (upd (upd vf 0 a) 1 b) 2 (0 : Int32)) 3 (0 : Int32)) 0)) 1 ((upd (upd (upd (upd vf 0 a) 1 b) 2 (0 : Int32)) 3 (0 : Int32)) 1)) 2 ((upd (upd (upd (upd vf 0 a) 1 b) 2 (0 : Int32)) 3 (0 : Int32)) 2)) 3 ((upd (upd (upd (upd vf 0 a) 1 b) 2 (0 : Int32)) 3 (0 : Int32)) 3)))), (m0, .inr (7, [.int (0 : Int32), .int (2 : Int32), .int (1 : Int32), .ref rw, .int (0 : Int32), .int (0 : Int32), .int (0 : Int32), .ref ry, .int (0 : Int32), .int (0 : Int32), .ref ti, .int (0 : Int32), .int (0 : Int32), .ref po, .ref su, .ref sq, .ref ch, .ref vt, .ref sh])), (vt, .inl (cI, 4, .inl (upd (upd (upd (upd vf 0 a) 1 b) 2 (0 : Int32)) 3 (0 : Int32))))] := hD
  refine lv_aload_n hx hb d_M_add_101 rfl (lv_at hl 1 rfl) ?_
  refine lv_iconst (v := (0 : Int32)) hx hb d_M_add_102 (by decide) ?_
  refine va_put (D := D) (ci := 7) (v := .int (0 : Int32)) (ty := .boolean) (C := cn_M) (T := ft_M) (N := 19) hx hb hf_M (fun _ h => h) fy_M fk_M fn_M hown hK hP hD hS 1 rfl rfl 4 (by decide) (gw.at G hx0 mw_717 rfl _) (fun _ h9 => h9) rfl (by decide +kernel) rfl rfl (Nat.le_of_ble_eq_true rfl) d_M_add_103 (fun H locs hP hD hS => ?_)
  have hP : va_P D kl [(rw, .inl (cI, 32, .inl (upd (upd (upd (upd wf 0 ((upd (upd (upd (upd vf 0 a) 1 b) 2 (0 : Int32)) 3 (0 : Int32)) 0)) 1 ((upd (upd (upd (upd vf 0 a) 1 b) 2 (0 : Int32)) 3 (0 : Int32)) 1)) 2 ((upd (upd (upd (upd vf 0 a) 1 b) 2 (0 : Int32)) 3 (0 : Int32)) 2)) 3 ((upd (upd (upd (upd vf 0 a) 1 b) 2 (0 : Int32)) 3 (0 : Int32)) 3)))), (m0, .inr (7, [.int (0 : Int32), .int (2 : Int32), .int (1 : Int32), .ref rw, .int (0 : Int32), .int (0 : Int32), .int (0 : Int32), .ref ry, .int (0 : Int32), .int (0 : Int32), .ref ti, .int (0 : Int32), .int (0 : Int32), .ref po, .ref su, .ref sq, .ref ch, .ref vt, .ref sh])), (vt, .inl (cI, 4, .inl (upd (upd (upd (upd vf 0 a) 1 b) 2 (0 : Int32)) 3 (0 : Int32))))] H := hP
  have hD : va_D A [(rw, .inl (cI, 32, .inl (upd (upd (upd (upd wf 0 ((upd (upd (upd (upd vf 0 a) 1 b) 2 (0 : Int32)) 3 (0 : Int32)) 0)) 1 ((upd (upd (upd (upd vf 0 a) 1 b) 2 (0 : Int32)) 3 (0 : Int32)) 1)) 2 ((upd (upd (upd (upd vf 0 a) 1 b) 2 (0 : Int32)) 3 (0 : Int32)) 2)) 3 ((upd (upd (upd (upd vf 0 a) 1 b) 2 (0 : Int32)) 3 (0 : Int32)) 3)))), (m0, .inr (7, [.int (0 : Int32), .int (2 : Int32), .int (1 : Int32), .ref rw, .int (0 : Int32), .int (0 : Int32), .int (0 : Int32), .ref ry, .int (0 : Int32), .int (0 : Int32), .ref ti, .int (0 : Int32), .int (0 : Int32), .ref po, .ref su, .ref sq, .ref ch, .ref vt, .ref sh])), (vt, .inl (cI, 4, .inl (upd (upd (upd (upd vf 0 a) 1 b) 2 (0 : Int32)) 3 (0 : Int32))))] := hD
  refine lv_aload_n hx hb d_M_add_106 rfl (lv_at hl 1 rfl) ?_
  refine va_get (D := D) (ci := 7) (v := .int (1 : Int32)) (C := cn_M) (T := ft_M) (N := 19) hx hb hf_M (fun _ h => h) hown hK hP 1 rfl rfl 2 (by decide) (gw.at G hx0 mw_715 rfl _) (fun _ h9 => h9) rfl d_M_add_107 ?_
  refine lv_iconst (v := (1 : Int32)) hx hb d_M_add_110 (by decide) ?_
  refine lv_isub hx hb d_M_add_111 ?_
  refine tp_i (y := (0 : Int32)) (by decide) ?_
  exact tx_mono (fun _ h => tx_Z.of h) (W.iret (v := (0 : Int32)) hx hb hr (fun t ht hW => ⟨⟨[(m0, .inr (7, [.int (0 : Int32), .int (2 : Int32), .int (1 : Int32), .ref rw, .int (0 : Int32), .int (0 : Int32), .int (0 : Int32), .ref ry, .int (0 : Int32), .int (0 : Int32), .ref ti, .int (0 : Int32), .int (0 : Int32), .ref po, .ref su, .ref sq, .ref ch, .ref vt, .ref sh]))], ⟨rfl, rfl⟩, by rw [ht]; exact hP.sub [1] rfl, hD.sub [1] (by decide) rfl⟩, hS.F ht⟩) hS.2.2 d_M_add_112)

set_option maxHeartbeats 4000000 in
set_option maxRecDepth 100000 in
theorem c_M_holdsAt3 {l : Launch} {s0 : State} {b0 : Addr} {D : va_G} {cI cJ cZ : ClassId} {tC tS : Nat} (E : gE l s0 b0 D cI cJ cZ tC tS) (sz : Nat) (m0 : Nat) (rw : Nat) (ry : Nat) (ti : Nat) (po : Nat) (su : Nat) (sq : Nat) (ch : Nat) (vt : Nat) (sh : Nat) (y : Nat) : cx_M l s0 D kl y_M_holdsAt b_M_holdsAt 5 (some .boolean) ({ frames := 0, cells := 0, slots := 0, locals := 0 } : Room) 0 0 [.ref m0, .ref y, .int (0 : Int32)] [(m0, .inr (7, [.int (0 : Int32), .int (3 : Int32), .int (0 : Int32), .ref rw, .int (0 : Int32), .int (0 : Int32), .int (0 : Int32), .ref ry, .int (0 : Int32), .int (0 : Int32), .ref ti, .int (0 : Int32), .int (0 : Int32), .ref po, .ref su, .ref sq, .ref ch, .ref vt, .ref sh]))] sz (fun o9 _ w9 => o9 = .returned (some (.int (1 : Int32))) ∧ w9 = [(m0, .inr (7, [.int (0 : Int32), .int (3 : Int32), .int (0 : Int32), .ref rw, .int (0 : Int32), .int (0 : Int32), .int (0 : Int32), .ref ry, .int (0 : Int32), .int (0 : Int32), .ref ti, .int (0 : Int32), .int (0 : Int32), .ref po, .ref su, .ref sq, .ref ch, .ref vt, .ref sh]))]) := by
  refine tx_ofW (cc := b_M_holdsAt) (maxL := 5) (ret := (some .boolean)) (by decide) rfl ?_
  intro p e s m args below meth c s₁ B hml hT hv
  obtain ⟨rfl, hsz, hP, hD0, hx0⟩ := hv
  have hx := B.exec
  have hb := B.bytes
  have hr := B.returns
  have G := E.2.1
  have hown : s.vm.findClass cn_M = some m.cls := findClass_of_methodNamed B.named
  have hlocks := B.notSynchronized
  have hK := va_K.moved hx0.1.alike E.2.2.1
  have hf_M : ∀ w99 ∈ u_ws cn_M ft_M 19, w99.before ([.ref m0, .ref y, .int (0 : Int32)] : List Value).toArray s = true := fun w99 h99 => gw.at G hx0 (fw_M w99 h99) (fo_M w99 h99) _
  subst hsz
  have hA0 := cx_new hD0 hx0.2.1
  have hD := hD0.self (sz := s.heap.size)
  generalize hAe : va_A [(m0, .inr (7, [.int (0 : Int32), .int (3 : Int32), .int (0 : Int32), .ref rw, .int (0 : Int32), .int (0 : Int32), .int (0 : Int32), .ref ry, .int (0 : Int32), .int (0 : Int32), .ref ti, .int (0 : Int32), .int (0 : Int32), .ref po, .ref su, .ref sq, .ref ch, .ref vt, .ref sh]))] s.heap.size = A at hD hA0 ⊢
  have hA : ∀ q : Nat, s.heap.size ≤ q → A q := fun q h => by rw [← hAe]; exact Or.inr h
  have hS : va_S A s.heap s.heap [] := va_S.rf
  have hl := lv_entry ([.ref m0, .ref y, .int (0 : Int32)]) (n := 5) (Nat.le_of_ble_eq_true rfl)
  rw [lg_entry_eq]
  generalize (lg_sl ([.ref m0, .ref y, .int (0 : Int32)]) ++ List.replicate (5 - (lg_sl ([.ref m0, .ref y, .int (0 : Int32)])).length) Slot.unset).toArray = ls at hl ⊢
  have hl : lv_has ls 5 [(0, .ref m0), (1, .ref y), (2, .int (0 : Int32))] := hl
  have hP : va_P D kl [(m0, .inr (7, [.int (0 : Int32), .int (3 : Int32), .int (0 : Int32), .ref rw, .int (0 : Int32), .int (0 : Int32), .int (0 : Int32), .ref ry, .int (0 : Int32), .int (0 : Int32), .ref ti, .int (0 : Int32), .int (0 : Int32), .ref po, .ref su, .ref sq, .ref ch, .ref vt, .ref sh]))] s.heap := hP
  have hml : c.maxLocals = 5 := hml
  refine lv_iconst (v := (1 : Int32)) hx hb d_M_holdsAt_0 (by decide) ?_
  refine lv_istore_n (lv' := [(3, .int (1 : Int32)), (0, .ref m0), (1, .ref y), (2, .int (0 : Int32))]) hx hb d_M_holdsAt_1 rfl hl (by decide) rfl (fun ls hl => ?_)
  refine lv_iconst (v := (0 : Int32)) hx hb d_M_holdsAt_2 (by decide) ?_
  refine lv_istore (lv' := [(4, .int (0 : Int32)), (3, .int (1 : Int32)), (0, .ref m0), (1, .ref y), (2, .int (0 : Int32))]) hx hb d_M_holdsAt_3 hl (by decide) rfl (fun ls hl => ?_)
  refine lv_iload hx hb d_M_holdsAt_5 (lv_at hl 0 rfl) ?_
  refine lv_aload_n hx hb d_M_holdsAt_7 rfl (lv_at hl 2 rfl) ?_
  refine va_get (D := D) (ci := 7) (v := .int (0 : Int32)) (C := cn_M) (T := ft_M) (N := 19) hx hb hf_M (fun _ h => h) hown hK hP 0 rfl rfl 2 (by decide) (gw.at G hx0 mw_715 rfl _) (fun _ h9 => h9) rfl d_M_holdsAt_8 ?_
  refine lv_icmp_ge (tgt := 43) hx hb d_M_holdsAt_11 (by decide) (fun _ => ?_) (fun h99 => absurd h99 (by decide))
  refine lv_iload_n hx hb d_M_holdsAt_43 rfl (lv_at hl 1 rfl) ?_
  exact tx_mono (fun _ h => tx_Z.of h) (W.zret (v := (1 : Int32)) hx hb hr (by decide) (fun t ht hW => ⟨⟨[(m0, .inr (7, [.int (0 : Int32), .int (3 : Int32), .int (0 : Int32), .ref rw, .int (0 : Int32), .int (0 : Int32), .int (0 : Int32), .ref ry, .int (0 : Int32), .int (0 : Int32), .ref ti, .int (0 : Int32), .int (0 : Int32), .ref po, .ref su, .ref sq, .ref ch, .ref vt, .ref sh]))], ⟨rfl, rfl⟩, by rw [ht]; exact hP.sub [0] rfl, hD.sub [0] (by decide) rfl⟩, hS.F ht⟩) hS.2.2 d_M_holdsAt_44)

set_option maxHeartbeats 4000000 in
set_option maxRecDepth 100000 in
theorem c_M_holds3 {l : Launch} {s0 : State} {b0 : Addr} {D : va_G} {cI cJ cZ : ClassId} {tC tS : Nat} (E : gE l s0 b0 D cI cJ cZ tC tS) (sz : Nat) (m0 : Nat) (rw : Nat) (ry : Nat) (ti : Nat) (po : Nat) (su : Nat) (sq : Nat) (ch : Nat) (vt : Nat) (sh : Nat) (th : Int32) (a : Int32) (b : Int32) (c2 : Int32) (d2 : Int32) (vf : Nat → Int32) : cx_M l s0 D kl y_M_holds b_M_holds 5 (some .boolean) ({ frames := 1, cells := 0, slots := 0, locals := 24 } : Room) 0 0 [.ref m0, .int a, .int b, .int c2, .int d2] [(m0, .inr (7, [.int th, .int (3 : Int32), .int (0 : Int32), .ref rw, .int (0 : Int32), .int (0 : Int32), .int (0 : Int32), .ref ry, .int (0 : Int32), .int (0 : Int32), .ref ti, .int (0 : Int32), .int (0 : Int32), .ref po, .ref su, .ref sq, .ref ch, .ref vt, .ref sh])), (vt, .inl (cI, 4, .inl vf))] sz (fun o9 _ w9 => o9 = .returned (some (.int (1 : Int32))) ∧ w9 = [(m0, .inr (7, [.int (0 : Int32), .int (3 : Int32), .int (0 : Int32), .ref rw, .int (0 : Int32), .int (0 : Int32), .int (0 : Int32), .ref ry, .int (0 : Int32), .int (0 : Int32), .ref ti, .int (0 : Int32), .int (0 : Int32), .ref po, .ref su, .ref sq, .ref ch, .ref vt, .ref sh]))]) := by
  refine tx_ofW (cc := b_M_holds) (maxL := 5) (ret := (some .boolean)) (by decide) rfl ?_
  intro p e s m args below meth c s₁ B hml hT hv
  obtain ⟨rfl, hsz, hP, hD0, hx0⟩ := hv
  have hx := B.exec
  have hb := B.bytes
  have hr := B.returns
  have G := E.2.1
  have hown : s.vm.findClass cn_M = some m.cls := findClass_of_methodNamed B.named
  have hlocks := B.notSynchronized
  have hK := va_K.moved hx0.1.alike E.2.2.1
  have hf_M : ∀ w99 ∈ u_ws cn_M ft_M 19, w99.before ([.ref m0, .int a, .int b, .int c2, .int d2] : List Value).toArray s = true := fun w99 h99 => gw.at G hx0 (fw_M w99 h99) (fo_M w99 h99) _
  subst hsz
  have hA0 := cx_new hD0 hx0.2.1
  have hD := hD0.self (sz := s.heap.size)
  generalize hAe : va_A [(m0, .inr (7, [.int th, .int (3 : Int32), .int (0 : Int32), .ref rw, .int (0 : Int32), .int (0 : Int32), .int (0 : Int32), .ref ry, .int (0 : Int32), .int (0 : Int32), .ref ti, .int (0 : Int32), .int (0 : Int32), .ref po, .ref su, .ref sq, .ref ch, .ref vt, .ref sh])), (vt, .inl (cI, 4, .inl vf))] s.heap.size = A at hD hA0 ⊢
  have hA : ∀ q : Nat, s.heap.size ≤ q → A q := fun q h => by rw [← hAe]; exact Or.inr h
  have hS : va_S A s.heap s.heap [] := va_S.rf
  have hl := lv_entry ([.ref m0, .int a, .int b, .int c2, .int d2]) (n := 5) (Nat.le_of_ble_eq_true rfl)
  rw [lg_entry_eq]
  generalize (lg_sl ([.ref m0, .int a, .int b, .int c2, .int d2]) ++ List.replicate (5 - (lg_sl ([.ref m0, .int a, .int b, .int c2, .int d2])).length) Slot.unset).toArray = ls at hl ⊢
  have hl : lv_has ls 5 [(0, .ref m0), (1, .int a), (2, .int b), (3, .int c2), (4, .int d2)] := hl
  have hP : va_P D kl [(m0, .inr (7, [.int th, .int (3 : Int32), .int (0 : Int32), .ref rw, .int (0 : Int32), .int (0 : Int32), .int (0 : Int32), .ref ry, .int (0 : Int32), .int (0 : Int32), .ref ti, .int (0 : Int32), .int (0 : Int32), .ref po, .ref su, .ref sq, .ref ch, .ref vt, .ref sh])), (vt, .inl (cI, 4, .inl vf))] s.heap := hP
  have hml : c.maxLocals = 5 := hml
  refine lv_aload_n hx hb d_M_holds_0 rfl (lv_at hl 0 rfl) ?_
  refine lv_iconst (v := (0 : Int32)) hx hb d_M_holds_1 (by decide) ?_
  refine va_put (D := D) (ci := 7) (v := .int (0 : Int32)) (ty := .int) (C := cn_M) (T := ft_M) (N := 19) hx hb hf_M (fun _ h => h) fy_M fk_M fn_M hown hK hP hD hS 0 rfl rfl 0 (by decide) (gw.at G hx0 mw_713 rfl _) (fun _ h9 => h9) rfl (by decide +kernel) rfl rfl (Nat.le_of_ble_eq_true rfl) d_M_holds_2 (fun H locs hP hD hS => ?_)
  have hP : va_P D kl [(m0, .inr (7, [.int (0 : Int32), .int (3 : Int32), .int (0 : Int32), .ref rw, .int (0 : Int32), .int (0 : Int32), .int (0 : Int32), .ref ry, .int (0 : Int32), .int (0 : Int32), .ref ti, .int (0 : Int32), .int (0 : Int32), .ref po, .ref su, .ref sq, .ref ch, .ref vt, .ref sh])), (vt, .inl (cI, 4, .inl vf))] H := hP
  have hD : va_D A [(m0, .inr (7, [.int (0 : Int32), .int (3 : Int32), .int (0 : Int32), .ref rw, .int (0 : Int32), .int (0 : Int32), .int (0 : Int32), .ref ry, .int (0 : Int32), .int (0 : Int32), .ref ti, .int (0 : Int32), .int (0 : Int32), .ref po, .ref su, .ref sq, .ref ch, .ref vt, .ref sh])), (vt, .inl (cI, 4, .inl vf))] := hD
  refine lv_aload_n hx hb d_M_holds_5 rfl (lv_at hl 0 rfl) ?_
  refine lv_iload_n hx hb d_M_holds_6 rfl (lv_at hl 1 rfl) ?_
  refine lv_iload_n hx hb d_M_holds_7 rfl (lv_at hl 2 rfl) ?_
  refine lv_iload_n hx hb d_M_holds_8 rfl (lv_at hl 3 rfl) ?_
  refine lv_iload hx hb d_M_holds_9 (lv_at hl 4 rfl) ?_
  refine cx_call (D := D) (cl := kl) (ws := _) (wc := [(m0, .inr (7, [.int (0 : Int32), .int (3 : Int32), .int (0 : Int32), .ref rw, .int (0 : Int32), .int (0 : Int32), .int (0 : Int32), .ref ry, .int (0 : Int32), .int (0 : Int32), .ref ti, .int (0 : Int32), .int (0 : Int32), .ref po, .ref su, .ref sq, .ref ch, .ref vt, .ref sh])), (vt, .inl (cI, 4, .inl vf))]) (wr := []) (tx_runV (C := cn_M) (b := m0) (As := [.int a, .int b, .int c2, .int d2]) (rest := []) hx hb hml hown (c_M_set3 E H.size m0 rw ry ti po su sq ch vt sh (0 : Int32) a b c2 d2 vf ) (cx_C (b0 := b0) G hx0 mw_783 mw_9 ny_M_set (by decide)) (gw.at G hx0 mw_780 rfl _) (gw.at G hx0 mw_782 rfl _) (gw.at G hx0 ms_M_set rfl _) ⟨cx_blind, va_recv hK hP (q0 := 0) (ci := 7) (q := (cn_M, ft_M, 19)) rfl rfl, (cx_pre (s := s) hx0 hP hD hS hA0 [0, 1] rfl rfl (by decide))⟩ rfl rfl hl.1 rfl (lv_room (Nat.le_of_ble_eq_true rfl)) d_M_holds_11 ⟨by decide, by decide⟩) hP hD hS hA [0, 1] [] rfl rfl (by decide) (by decide) (fun v t w1 H locs ht hW9 hp hP hD hS => ?_) (fun x t w1 H locs ht hW9 hp hP hD hS => by obtain ⟨h9, -⟩ := hp; cases h9)
  obtain ⟨h9, rfl⟩ := hp
  cases h9
  refine W.eq (g2 := F0 m 14 ls []) rfl ?_
  refine W.widen (k := 0) (n := 0) (by decide) (by decide) ?_
  have hP : va_P D kl [(m0, .inr (7, [.int (0 : Int32), .int (3 : Int32), .int (0 : Int32), .ref rw, .int (0 : Int32), .int (0 : Int32), .int (0 : Int32), .ref ry, .int (0 : Int32), .int (0 : Int32), .ref ti, .int (0 : Int32), .int (0 : Int32), .ref po, .ref su, .ref sq, .ref ch, .ref vt, .ref sh])), (vt, .inl (cI, 4, .inl (upd (upd (upd (upd vf 0 a) 1 b) 2 c2) 3 (0 : Int32))))] H := hP
  have hD : va_D A [(m0, .inr (7, [.int (0 : Int32), .int (3 : Int32), .int (0 : Int32), .ref rw, .int (0 : Int32), .int (0 : Int32), .int (0 : Int32), .ref ry, .int (0 : Int32), .int (0 : Int32), .ref ti, .int (0 : Int32), .int (0 : Int32), .ref po, .ref su, .ref sq, .ref ch, .ref vt, .ref sh])), (vt, .inl (cI, 4, .inl (upd (upd (upd (upd vf 0 a) 1 b) 2 c2) 3 (0 : Int32))))] := hD
  refine lv_aload_n hx hb d_M_holds_14 rfl (lv_at hl 0 rfl) ?_
  refine lv_aload_n hx hb d_M_holds_15 rfl (lv_at hl 0 rfl) ?_
  refine va_get (D := D) (ci := 7) (v := .ref vt) (C := cn_M) (T := ft_M) (N := 19) hx hb hf_M (fun _ h => h) hown hK hP 0 rfl rfl 17 (by decide) (gw.at G hx0 mw_730 rfl _) (fun _ h9 => h9) rfl d_M_holds_16 ?_
  refine lv_iconst (v := (0 : Int32)) hx hb d_M_holds_19 (by decide) ?_
  refine cx_call (D := D) (cl := kl) (ws := _) (wc := [(m0, .inr (7, [.int (0 : Int32), .int (3 : Int32), .int (0 : Int32), .ref rw, .int (0 : Int32), .int (0 : Int32), .int (0 : Int32), .ref ry, .int (0 : Int32), .int (0 : Int32), .ref ti, .int (0 : Int32), .int (0 : Int32), .ref po, .ref su, .ref sq, .ref ch, .ref vt, .ref sh]))]) (wr := [(vt, .inl (cI, 4, .inl (upd (upd (upd (upd vf 0 a) 1 b) 2 c2) 3 (0 : Int32))))]) (tx_runV (C := cn_M) (b := m0) (As := [.ref vt, .int (0 : Int32)]) (rest := []) hx hb hml hown (c_M_holdsAt3 E H.size m0 rw ry ti po su sq ch vt sh vt ) (cx_C (b0 := b0) G hx0 mw_836 mw_9 ny_M_holdsAt (by decide)) (gw.at G hx0 mw_833 rfl _) (gw.at G hx0 mw_835 rfl _) (gw.at G hx0 ms_M_holdsAt rfl _) ⟨cx_blind, va_recv hK hP (q0 := 0) (ci := 7) (q := (cn_M, ft_M, 19)) rfl rfl, (cx_pre (s := s) hx0 hP hD hS hA0 [0] rfl rfl (by decide))⟩ rfl rfl hl.1 rfl (lv_room (Nat.le_of_ble_eq_true rfl)) d_M_holds_20 ⟨by decide, by decide⟩) hP hD hS hA [0] [1] rfl rfl (by decide) (by decide) (fun v t w1 H locs ht hW9 hp hP hD hS => ?_) (fun x t w1 H locs ht hW9 hp hP hD hS => by obtain ⟨h9, -⟩ := hp; cases h9)
  obtain ⟨h9, rfl⟩ := hp
  cases h9
  refine W.eq (g2 := F0 m 23 ls [.int (1 : Int32)]) rfl ?_
  refine W.widen (k := 0) (n := 0) (by decide) (by decide) ?_
  have hP : va_P D kl [(vt, .inl (cI, 4, .inl (upd (upd (upd (upd vf 0 a) 1 b) 2 c2) 3 (0 : Int32)))), (m0, .inr (7, [.int (0 : Int32), .int (3 : Int32), .int (0 : Int32), .ref rw, .int (0 : Int32), .int (0 : Int32), .int (0 : Int32), .ref ry, .int (0 : Int32), .int (0 : Int32), .ref ti, .int (0 : Int32), .int (0 : Int32), .ref po, .ref su, .ref sq, .ref ch, .ref vt, .ref sh]))] H := hP
  have hD : va_D A [(vt, .inl (cI, 4, .inl (upd (upd (upd (upd vf 0 a) 1 b) 2 c2) 3 (0 : Int32)))), (m0, .inr (7, [.int (0 : Int32), .int (3 : Int32), .int (0 : Int32), .ref rw, .int (0 : Int32), .int (0 : Int32), .int (0 : Int32), .ref ry, .int (0 : Int32), .int (0 : Int32), .ref ti, .int (0 : Int32), .int (0 : Int32), .ref po, .ref su, .ref sq, .ref ch, .ref vt, .ref sh]))] := hD
  exact tx_mono (fun _ h => tx_Z.of h) (W.zret (v := (1 : Int32)) hx hb hr (by decide) (fun t ht hW => ⟨⟨[(m0, .inr (7, [.int (0 : Int32), .int (3 : Int32), .int (0 : Int32), .ref rw, .int (0 : Int32), .int (0 : Int32), .int (0 : Int32), .ref ry, .int (0 : Int32), .int (0 : Int32), .ref ti, .int (0 : Int32), .int (0 : Int32), .ref po, .ref su, .ref sq, .ref ch, .ref vt, .ref sh]))], ⟨rfl, rfl⟩, by rw [ht]; exact hP.sub [1] rfl, hD.sub [1] (by decide) rfl⟩, hS.F ht⟩) hS.2.2 d_M_holds_23)

set_option maxHeartbeats 4000000 in
set_option maxRecDepth 100000 in
theorem c_M_least3_a {l : Launch} {s0 : State} {b0 : Addr} {D : va_G} {cI cJ cZ : ClassId} {tC tS : Nat} (E : gE l s0 b0 D cI cJ cZ tC tS) (sz : Nat) (m0 : Nat) (rw : Nat) (ry : Nat) (ti : Nat) (po : Nat) (su : Nat) (sq : Nat) (ch : Nat) (vt : Nat) (sh : Nat) (th : Int32) (a : Int32) (b : Int32) (c2 : Int32) (d2 : Int32) (vf : Nat → Int32) (h : ¬ (inw (1000 : Int32) a = true ∧ inw (1000 : Int32) b = true ∧ inw (1000 : Int32) c2 = true)) : cx_M l s0 D kl y_M_least b_M_least 9 (some .int) ({ frames := 2, cells := 0, slots := 0, locals := 44 } : Room) 0 0 [.ref m0, .int a, .int b, .int c2, .int d2] [(m0, .inr (7, [.int th, .int (3 : Int32), .int (0 : Int32), .ref rw, .int (0 : Int32), .int (0 : Int32), .int (0 : Int32), .ref ry, .int (0 : Int32), .int (0 : Int32), .ref ti, .int (0 : Int32), .int (0 : Int32), .ref po, .ref su, .ref sq, .ref ch, .ref vt, .ref sh])), (vt, .inl (cI, 4, .inl vf))] sz (fun o9 _ w9 => o9 = .returned (some (.int (0 : Int32))) ∧ w9 = [(m0, .inr (7, [.int (1 : Int32), .int (3 : Int32), .int (0 : Int32), .ref rw, .int (0 : Int32), .int (0 : Int32), .int (0 : Int32), .ref ry, .int (0 : Int32), .int (0 : Int32), .ref ti, .int (0 : Int32), .int (0 : Int32), .ref po, .ref su, .ref sq, .ref ch, .ref vt, .ref sh]))]) := by
  refine tx_ofW (cc := b_M_least) (maxL := 9) (ret := (some .int)) (by decide) rfl ?_
  intro p e s m args below meth c s₁ B hml hT hv
  obtain ⟨rfl, hsz, hP, hD0, hx0⟩ := hv
  have hx := B.exec
  have hb := B.bytes
  have hr := B.returns
  have G := E.2.1
  have hown : s.vm.findClass cn_M = some m.cls := findClass_of_methodNamed B.named
  have hlocks := B.notSynchronized
  have hK := va_K.moved hx0.1.alike E.2.2.1
  have hf_M : ∀ w99 ∈ u_ws cn_M ft_M 19, w99.before ([.ref m0, .int a, .int b, .int c2, .int d2] : List Value).toArray s = true := fun w99 h99 => gw.at G hx0 (fw_M w99 h99) (fo_M w99 h99) _
  subst hsz
  have hA0 := cx_new hD0 hx0.2.1
  have hD := hD0.self (sz := s.heap.size)
  generalize hAe : va_A [(m0, .inr (7, [.int th, .int (3 : Int32), .int (0 : Int32), .ref rw, .int (0 : Int32), .int (0 : Int32), .int (0 : Int32), .ref ry, .int (0 : Int32), .int (0 : Int32), .ref ti, .int (0 : Int32), .int (0 : Int32), .ref po, .ref su, .ref sq, .ref ch, .ref vt, .ref sh])), (vt, .inl (cI, 4, .inl vf))] s.heap.size = A at hD hA0 ⊢
  have hA : ∀ q : Nat, s.heap.size ≤ q → A q := fun q h => by rw [← hAe]; exact Or.inr h
  have hS : va_S A s.heap s.heap [] := va_S.rf
  have hl := lv_entry ([.ref m0, .int a, .int b, .int c2, .int d2]) (n := 9) (Nat.le_of_ble_eq_true rfl)
  rw [lg_entry_eq]
  generalize (lg_sl ([.ref m0, .int a, .int b, .int c2, .int d2]) ++ List.replicate (9 - (lg_sl ([.ref m0, .int a, .int b, .int c2, .int d2])).length) Slot.unset).toArray = ls at hl ⊢
  have hl : lv_has ls 9 [(0, .ref m0), (1, .int a), (2, .int b), (3, .int c2), (4, .int d2)] := hl
  have hP : va_P D kl [(m0, .inr (7, [.int th, .int (3 : Int32), .int (0 : Int32), .ref rw, .int (0 : Int32), .int (0 : Int32), .int (0 : Int32), .ref ry, .int (0 : Int32), .int (0 : Int32), .ref ti, .int (0 : Int32), .int (0 : Int32), .ref po, .ref su, .ref sq, .ref ch, .ref vt, .ref sh])), (vt, .inl (cI, 4, .inl vf))] s.heap := hP
  have hml : c.maxLocals = 9 := hml
  refine lv_aload_n hx hb d_M_least_0 rfl (lv_at hl 0 rfl) ?_
  refine lv_iload_n hx hb d_M_least_1 rfl (lv_at hl 1 rfl) ?_
  refine lv_iload_n hx hb d_M_least_2 rfl (lv_at hl 2 rfl) ?_
  refine lv_iload_n hx hb d_M_least_3 rfl (lv_at hl 3 rfl) ?_
  refine lv_iload hx hb d_M_least_4 (lv_at hl 4 rfl) ?_
  refine cx_call (D := D) (cl := kl) (ws := _) (wc := [(m0, .inr (7, [.int th, .int (3 : Int32), .int (0 : Int32), .ref rw, .int (0 : Int32), .int (0 : Int32), .int (0 : Int32), .ref ry, .int (0 : Int32), .int (0 : Int32), .ref ti, .int (0 : Int32), .int (0 : Int32), .ref po, .ref su, .ref sq, .ref ch, .ref vt, .ref sh])), (vt, .inl (cI, 4, .inl vf))]) (wr := []) (tx_runV (C := cn_M) (b := m0) (As := [.int a, .int b, .int c2, .int d2]) (rest := []) hx hb hml hown (c_M_set3 E s.heap.size m0 rw ry ti po su sq ch vt sh th a b c2 d2 vf ) (cx_C (b0 := b0) G hx0 mw_783 mw_9 ny_M_set (by decide)) (gw.at G hx0 mw_780 rfl _) (gw.at G hx0 mw_782 rfl _) (gw.at G hx0 ms_M_set rfl _) ⟨cx_blind, va_recv hK hP (q0 := 0) (ci := 7) (q := (cn_M, ft_M, 19)) rfl rfl, (cx_pre (s := s) hx0 hP hD hS hA0 [0, 1] rfl rfl (by decide))⟩ rfl rfl hl.1 rfl (lv_room (Nat.le_of_ble_eq_true rfl)) d_M_least_6 ⟨by decide, by decide⟩) hP hD hS hA [0, 1] [] rfl rfl (by decide) (by decide) (fun v t w1 H locs ht hW9 hp hP hD hS => ?_) (fun x t w1 H locs ht hW9 hp hP hD hS => by obtain ⟨h9, -⟩ := hp; cases h9)
  obtain ⟨h9, rfl⟩ := hp
  cases h9
  refine W.eq (g2 := F0 m 9 ls []) rfl ?_
  refine W.widen (k := 0) (n := 0) (by decide) (by decide) ?_
  have hP : va_P D kl [(m0, .inr (7, [.int th, .int (3 : Int32), .int (0 : Int32), .ref rw, .int (0 : Int32), .int (0 : Int32), .int (0 : Int32), .ref ry, .int (0 : Int32), .int (0 : Int32), .ref ti, .int (0 : Int32), .int (0 : Int32), .ref po, .ref su, .ref sq, .ref ch, .ref vt, .ref sh])), (vt, .inl (cI, 4, .inl (upd (upd (upd (upd vf 0 a) 1 b) 2 c2) 3 (0 : Int32))))] H := hP
  have hD : va_D A [(m0, .inr (7, [.int th, .int (3 : Int32), .int (0 : Int32), .ref rw, .int (0 : Int32), .int (0 : Int32), .int (0 : Int32), .ref ry, .int (0 : Int32), .int (0 : Int32), .ref ti, .int (0 : Int32), .int (0 : Int32), .ref po, .ref su, .ref sq, .ref ch, .ref vt, .ref sh])), (vt, .inl (cI, 4, .inl (upd (upd (upd (upd vf 0 a) 1 b) 2 c2) 3 (0 : Int32))))] := hD
  refine lv_aload_n hx hb d_M_least_9 rfl (lv_at hl 0 rfl) ?_
  refine lv_sipush (v := (1000 : Int32)) hx hb d_M_least_10 (by decide) ?_
  refine cx_call (D := D) (cl := kl) (ws := _) (wc := [(m0, .inr (7, [.int th, .int (3 : Int32), .int (0 : Int32), .ref rw, .int (0 : Int32), .int (0 : Int32), .int (0 : Int32), .ref ry, .int (0 : Int32), .int (0 : Int32), .ref ti, .int (0 : Int32), .int (0 : Int32), .ref po, .ref su, .ref sq, .ref ch, .ref vt, .ref sh])), (vt, .inl (cI, 4, .inl (upd (upd (upd (upd vf 0 a) 1 b) 2 c2) 3 (0 : Int32))))]) (wr := []) (tx_runV (C := cn_M) (b := m0) (As := [.int (1000 : Int32)]) (rest := []) hx hb hml hown (c_M_within3_n E H.size m0 rw ry ti po su sq ch vt sh th (1000 : Int32) (upd (upd (upd (upd vf 0 a) 1 b) 2 c2) 3 (0 : Int32)) h) (cx_C (b0 := b0) G hx0 mw_787 mw_9 ny_M_within (by decide)) (gw.at G hx0 mw_784 rfl _) (gw.at G hx0 mw_786 rfl _) (gw.at G hx0 ms_M_within rfl _) ⟨cx_blind, va_recv hK hP (q0 := 0) (ci := 7) (q := (cn_M, ft_M, 19)) rfl rfl, (cx_pre (s := s) hx0 hP hD hS hA0 [0, 1] rfl rfl (by decide))⟩ rfl rfl hl.1 rfl (lv_room (Nat.le_of_ble_eq_true rfl)) d_M_least_13 ⟨by decide, by decide⟩) hP hD hS hA [0, 1] [] rfl rfl (by decide) (by decide) (fun v t w1 H locs ht hW9 hp hP hD hS => ?_) (fun x t w1 H locs ht hW9 hp hP hD hS => by obtain ⟨h9, -⟩ := hp; cases h9)
  obtain ⟨h9, rfl⟩ := hp
  cases h9
  refine W.eq (g2 := F0 m 16 ls [.int (0 : Int32)]) rfl ?_
  refine W.widen (k := 0) (n := 0) (by decide) (by decide) ?_
  have hP : va_P D kl [(m0, .inr (7, [.int th, .int (3 : Int32), .int (0 : Int32), .ref rw, .int (0 : Int32), .int (0 : Int32), .int (0 : Int32), .ref ry, .int (0 : Int32), .int (0 : Int32), .ref ti, .int (0 : Int32), .int (0 : Int32), .ref po, .ref su, .ref sq, .ref ch, .ref vt, .ref sh])), (vt, .inl (cI, 4, .inl (upd (upd (upd (upd vf 0 a) 1 b) 2 c2) 3 (0 : Int32))))] H := hP
  have hD : va_D A [(m0, .inr (7, [.int th, .int (3 : Int32), .int (0 : Int32), .ref rw, .int (0 : Int32), .int (0 : Int32), .int (0 : Int32), .ref ry, .int (0 : Int32), .int (0 : Int32), .ref ti, .int (0 : Int32), .int (0 : Int32), .ref po, .ref su, .ref sq, .ref ch, .ref vt, .ref sh])), (vt, .inl (cI, 4, .inl (upd (upd (upd (upd vf 0 a) 1 b) 2 c2) 3 (0 : Int32))))] := hD
  refine lv_if_ne (tgt := 26) hx hb d_M_least_16 (by decide) (fun h99 => absurd h99 (by decide)) (fun _ => ?_)
  refine lv_aload_n hx hb d_M_least_19 rfl (lv_at hl 0 rfl) ?_
  refine lv_iconst (v := (1 : Int32)) hx hb d_M_least_20 (by decide) ?_
  refine va_put (D := D) (ci := 7) (v := .int (1 : Int32)) (ty := .int) (C := cn_M) (T := ft_M) (N := 19) hx hb hf_M (fun _ h => h) fy_M fk_M fn_M hown hK hP hD hS 0 rfl rfl 0 (by decide) (gw.at G hx0 mw_713 rfl _) (fun _ h9 => h9) rfl (by decide +kernel) rfl rfl (Nat.le_of_ble_eq_true rfl) d_M_least_21 (fun H locs hP hD hS => ?_)
  have hP : va_P D kl [(m0, .inr (7, [.int (1 : Int32), .int (3 : Int32), .int (0 : Int32), .ref rw, .int (0 : Int32), .int (0 : Int32), .int (0 : Int32), .ref ry, .int (0 : Int32), .int (0 : Int32), .ref ti, .int (0 : Int32), .int (0 : Int32), .ref po, .ref su, .ref sq, .ref ch, .ref vt, .ref sh])), (vt, .inl (cI, 4, .inl (upd (upd (upd (upd vf 0 a) 1 b) 2 c2) 3 (0 : Int32))))] H := hP
  have hD : va_D A [(m0, .inr (7, [.int (1 : Int32), .int (3 : Int32), .int (0 : Int32), .ref rw, .int (0 : Int32), .int (0 : Int32), .int (0 : Int32), .ref ry, .int (0 : Int32), .int (0 : Int32), .ref ti, .int (0 : Int32), .int (0 : Int32), .ref po, .ref su, .ref sq, .ref ch, .ref vt, .ref sh])), (vt, .inl (cI, 4, .inl (upd (upd (upd (upd vf 0 a) 1 b) 2 c2) 3 (0 : Int32))))] := hD
  refine lv_iconst (v := (0 : Int32)) hx hb d_M_least_24 (by decide) ?_
  exact tx_mono (fun _ h => tx_Z.of h) (W.iret (v := (0 : Int32)) hx hb hr (fun t ht hW => ⟨⟨[(m0, .inr (7, [.int (1 : Int32), .int (3 : Int32), .int (0 : Int32), .ref rw, .int (0 : Int32), .int (0 : Int32), .int (0 : Int32), .ref ry, .int (0 : Int32), .int (0 : Int32), .ref ti, .int (0 : Int32), .int (0 : Int32), .ref po, .ref su, .ref sq, .ref ch, .ref vt, .ref sh]))], ⟨rfl, rfl⟩, by rw [ht]; exact hP.sub [0] rfl, hD.sub [0] (by decide) rfl⟩, hS.F ht⟩) hS.2.2 d_M_least_25)

set_option maxHeartbeats 4000000 in
set_option maxRecDepth 100000 in
theorem c_M_least3_s {l : Launch} {s0 : State} {b0 : Addr} {D : va_G} {cI cJ cZ : ClassId} {tC tS : Nat} (E : gE l s0 b0 D cI cJ cZ tC tS) (sz : Nat) (m0 : Nat) (rw : Nat) (ry : Nat) (ti : Nat) (po : Nat) (su : Nat) (sq : Nat) (ch : Nat) (vt : Nat) (sh : Nat) (th : Int32) (a : Int32) (b : Int32) (c2 : Int32) (d2 : Int32) (vf : Nat → Int32) (h : inw (1000 : Int32) a = true ∧ inw (1000 : Int32) b = true ∧ inw (1000 : Int32) c2 = true) : cx_M l s0 D kl y_M_least b_M_least 9 (some .int) ({ frames := 4, cells := 0, slots := 0, locals := 91 } : Room) 0 0 [.ref m0, .int a, .int b, .int c2, .int d2] [(m0, .inr (7, [.int th, .int (3 : Int32), .int (0 : Int32), .ref rw, .int (0 : Int32), .int (0 : Int32), .int (0 : Int32), .ref ry, .int (0 : Int32), .int (0 : Int32), .ref ti, .int (0 : Int32), .int (0 : Int32), .ref po, .ref su, .ref sq, .ref ch, .ref vt, .ref sh])), (vt, .inl (cI, 4, .inl vf))] sz (fun o9 _ w9 => o9 = .returned (some (.int (0 : Int32))) ∧ w9 = [(m0, .inr (7, [.int (2 : Int32), .int (3 : Int32), .int (0 : Int32), .ref rw, .int (1 : Int32), .int (0 : Int32), .int (0 : Int32), .ref ry, .int (0 : Int32), .int (0 : Int32), .ref ti, .int (0 : Int32), .int (0 : Int32), .ref po, .ref su, .ref sq, .ref ch, .ref vt, .ref sh]))]) := by
  refine tx_ofW (cc := b_M_least) (maxL := 9) (ret := (some .int)) (by decide) rfl ?_
  intro p e s m args below meth c s₁ B hml hT hv
  obtain ⟨rfl, hsz, hP, hD0, hx0⟩ := hv
  have hx := B.exec
  have hb := B.bytes
  have hr := B.returns
  have G := E.2.1
  have hown : s.vm.findClass cn_M = some m.cls := findClass_of_methodNamed B.named
  have hlocks := B.notSynchronized
  have hK := va_K.moved hx0.1.alike E.2.2.1
  subst hsz
  have hA0 := cx_new hD0 hx0.2.1
  have hD := hD0.self (sz := s.heap.size)
  generalize hAe : va_A [(m0, .inr (7, [.int th, .int (3 : Int32), .int (0 : Int32), .ref rw, .int (0 : Int32), .int (0 : Int32), .int (0 : Int32), .ref ry, .int (0 : Int32), .int (0 : Int32), .ref ti, .int (0 : Int32), .int (0 : Int32), .ref po, .ref su, .ref sq, .ref ch, .ref vt, .ref sh])), (vt, .inl (cI, 4, .inl vf))] s.heap.size = A at hD hA0 ⊢
  have hA : ∀ q : Nat, s.heap.size ≤ q → A q := fun q h => by rw [← hAe]; exact Or.inr h
  have hS : va_S A s.heap s.heap [] := va_S.rf
  have hl := lv_entry ([.ref m0, .int a, .int b, .int c2, .int d2]) (n := 9) (Nat.le_of_ble_eq_true rfl)
  rw [lg_entry_eq]
  generalize (lg_sl ([.ref m0, .int a, .int b, .int c2, .int d2]) ++ List.replicate (9 - (lg_sl ([.ref m0, .int a, .int b, .int c2, .int d2])).length) Slot.unset).toArray = ls at hl ⊢
  have hl : lv_has ls 9 [(0, .ref m0), (1, .int a), (2, .int b), (3, .int c2), (4, .int d2)] := hl
  have hP : va_P D kl [(m0, .inr (7, [.int th, .int (3 : Int32), .int (0 : Int32), .ref rw, .int (0 : Int32), .int (0 : Int32), .int (0 : Int32), .ref ry, .int (0 : Int32), .int (0 : Int32), .ref ti, .int (0 : Int32), .int (0 : Int32), .ref po, .ref su, .ref sq, .ref ch, .ref vt, .ref sh])), (vt, .inl (cI, 4, .inl vf))] s.heap := hP
  have hml : c.maxLocals = 9 := hml
  refine lv_aload_n hx hb d_M_least_0 rfl (lv_at hl 0 rfl) ?_
  refine lv_iload_n hx hb d_M_least_1 rfl (lv_at hl 1 rfl) ?_
  refine lv_iload_n hx hb d_M_least_2 rfl (lv_at hl 2 rfl) ?_
  refine lv_iload_n hx hb d_M_least_3 rfl (lv_at hl 3 rfl) ?_
  refine lv_iload hx hb d_M_least_4 (lv_at hl 4 rfl) ?_
  refine cx_call (D := D) (cl := kl) (ws := _) (wc := [(m0, .inr (7, [.int th, .int (3 : Int32), .int (0 : Int32), .ref rw, .int (0 : Int32), .int (0 : Int32), .int (0 : Int32), .ref ry, .int (0 : Int32), .int (0 : Int32), .ref ti, .int (0 : Int32), .int (0 : Int32), .ref po, .ref su, .ref sq, .ref ch, .ref vt, .ref sh])), (vt, .inl (cI, 4, .inl vf))]) (wr := []) (tx_runV (C := cn_M) (b := m0) (As := [.int a, .int b, .int c2, .int d2]) (rest := []) hx hb hml hown (c_M_set3 E s.heap.size m0 rw ry ti po su sq ch vt sh th a b c2 d2 vf ) (cx_C (b0 := b0) G hx0 mw_783 mw_9 ny_M_set (by decide)) (gw.at G hx0 mw_780 rfl _) (gw.at G hx0 mw_782 rfl _) (gw.at G hx0 ms_M_set rfl _) ⟨cx_blind, va_recv hK hP (q0 := 0) (ci := 7) (q := (cn_M, ft_M, 19)) rfl rfl, (cx_pre (s := s) hx0 hP hD hS hA0 [0, 1] rfl rfl (by decide))⟩ rfl rfl hl.1 rfl (lv_room (Nat.le_of_ble_eq_true rfl)) d_M_least_6 ⟨by decide, by decide⟩) hP hD hS hA [0, 1] [] rfl rfl (by decide) (by decide) (fun v t w1 H locs ht hW9 hp hP hD hS => ?_) (fun x t w1 H locs ht hW9 hp hP hD hS => by obtain ⟨h9, -⟩ := hp; cases h9)
  obtain ⟨h9, rfl⟩ := hp
  cases h9
  refine W.eq (g2 := F0 m 9 ls []) rfl ?_
  refine W.widen (k := 0) (n := 0) (by decide) (by decide) ?_
  have hP : va_P D kl [(m0, .inr (7, [.int th, .int (3 : Int32), .int (0 : Int32), .ref rw, .int (0 : Int32), .int (0 : Int32), .int (0 : Int32), .ref ry, .int (0 : Int32), .int (0 : Int32), .ref ti, .int (0 : Int32), .int (0 : Int32), .ref po, .ref su, .ref sq, .ref ch, .ref vt, .ref sh])), (vt, .inl (cI, 4, .inl (upd (upd (upd (upd vf 0 a) 1 b) 2 c2) 3 (0 : Int32))))] H := hP
  have hD : va_D A [(m0, .inr (7, [.int th, .int (3 : Int32), .int (0 : Int32), .ref rw, .int (0 : Int32), .int (0 : Int32), .int (0 : Int32), .ref ry, .int (0 : Int32), .int (0 : Int32), .ref ti, .int (0 : Int32), .int (0 : Int32), .ref po, .ref su, .ref sq, .ref ch, .ref vt, .ref sh])), (vt, .inl (cI, 4, .inl (upd (upd (upd (upd vf 0 a) 1 b) 2 c2) 3 (0 : Int32))))] := hD
  refine lv_aload_n hx hb d_M_least_9 rfl (lv_at hl 0 rfl) ?_
  refine lv_sipush (v := (1000 : Int32)) hx hb d_M_least_10 (by decide) ?_
  refine cx_call (D := D) (cl := kl) (ws := _) (wc := [(m0, .inr (7, [.int th, .int (3 : Int32), .int (0 : Int32), .ref rw, .int (0 : Int32), .int (0 : Int32), .int (0 : Int32), .ref ry, .int (0 : Int32), .int (0 : Int32), .ref ti, .int (0 : Int32), .int (0 : Int32), .ref po, .ref su, .ref sq, .ref ch, .ref vt, .ref sh])), (vt, .inl (cI, 4, .inl (upd (upd (upd (upd vf 0 a) 1 b) 2 c2) 3 (0 : Int32))))]) (wr := []) (tx_runV (C := cn_M) (b := m0) (As := [.int (1000 : Int32)]) (rest := []) hx hb hml hown (c_M_within3_y E H.size m0 rw ry ti po su sq ch vt sh th (1000 : Int32) (upd (upd (upd (upd vf 0 a) 1 b) 2 c2) 3 (0 : Int32)) h) (cx_C (b0 := b0) G hx0 mw_787 mw_9 ny_M_within (by decide)) (gw.at G hx0 mw_784 rfl _) (gw.at G hx0 mw_786 rfl _) (gw.at G hx0 ms_M_within rfl _) ⟨cx_blind, va_recv hK hP (q0 := 0) (ci := 7) (q := (cn_M, ft_M, 19)) rfl rfl, (cx_pre (s := s) hx0 hP hD hS hA0 [0, 1] rfl rfl (by decide))⟩ rfl rfl hl.1 rfl (lv_room (Nat.le_of_ble_eq_true rfl)) d_M_least_13 ⟨by decide, by decide⟩) hP hD hS hA [0, 1] [] rfl rfl (by decide) (by decide) (fun v t w1 H locs ht hW9 hp hP hD hS => ?_) (fun x t w1 H locs ht hW9 hp hP hD hS => by obtain ⟨h9, -⟩ := hp; cases h9)
  obtain ⟨h9, rfl⟩ := hp
  cases h9
  refine W.eq (g2 := F0 m 16 ls [.int (1 : Int32)]) rfl ?_
  refine W.widen (k := 0) (n := 0) (by decide) (by decide) ?_
  have hP : va_P D kl [(m0, .inr (7, [.int th, .int (3 : Int32), .int (0 : Int32), .ref rw, .int (0 : Int32), .int (0 : Int32), .int (0 : Int32), .ref ry, .int (0 : Int32), .int (0 : Int32), .ref ti, .int (0 : Int32), .int (0 : Int32), .ref po, .ref su, .ref sq, .ref ch, .ref vt, .ref sh])), (vt, .inl (cI, 4, .inl (upd (upd (upd (upd vf 0 a) 1 b) 2 c2) 3 (0 : Int32))))] H := hP
  have hD : va_D A [(m0, .inr (7, [.int th, .int (3 : Int32), .int (0 : Int32), .ref rw, .int (0 : Int32), .int (0 : Int32), .int (0 : Int32), .ref ry, .int (0 : Int32), .int (0 : Int32), .ref ti, .int (0 : Int32), .int (0 : Int32), .ref po, .ref su, .ref sq, .ref ch, .ref vt, .ref sh])), (vt, .inl (cI, 4, .inl (upd (upd (upd (upd vf 0 a) 1 b) 2 c2) 3 (0 : Int32))))] := hD
  refine lv_if_ne (tgt := 26) hx hb d_M_least_16 (by decide) (fun _ => ?_) (fun h99 => absurd h99 (by decide))
  refine lv_aload_n hx hb d_M_least_26 rfl (lv_at hl 0 rfl) ?_
  refine lv_iconst (v := (2 : Int32)) hx hb d_M_least_27 (by decide) ?_
  refine cx_call (D := D) (cl := kl) (ws := _) (wc := [(m0, .inr (7, [.int th, .int (3 : Int32), .int (0 : Int32), .ref rw, .int (0 : Int32), .int (0 : Int32), .int (0 : Int32), .ref ry, .int (0 : Int32), .int (0 : Int32), .ref ti, .int (0 : Int32), .int (0 : Int32), .ref po, .ref su, .ref sq, .ref ch, .ref vt, .ref sh]))]) (wr := [(vt, .inl (cI, 4, .inl (upd (upd (upd (upd vf 0 a) 1 b) 2 c2) 3 (0 : Int32))))]) (tx_runV (C := cn_M) (b := m0) (As := [.int (2 : Int32)]) (rest := []) hx hb hml hown (c_M_based2 E H.size m0 rw ry ti po su sq ch vt sh th (3 : Int32) (by decide)) (cx_C (b0 := b0) G hx0 mw_929 mw_9 ny_M_based (by decide)) (gw.at G hx0 mw_926 rfl _) (gw.at G hx0 mw_928 rfl _) (gw.at G hx0 ms_M_based rfl _) ⟨cx_blind, va_recv hK hP (q0 := 0) (ci := 7) (q := (cn_M, ft_M, 19)) rfl rfl, (cx_pre (s := s) hx0 hP hD hS hA0 [0] rfl rfl (by decide))⟩ rfl rfl hl.1 rfl (lv_room (Nat.le_of_ble_eq_true rfl)) d_M_least_28 ⟨by decide, by decide⟩) hP hD hS hA [0] [1] rfl rfl (by decide) (by decide) (fun v t w1 H locs ht hW9 hp hP hD hS => ?_) (fun x t w1 H locs ht hW9 hp hP hD hS => by obtain ⟨h9, -⟩ := hp; cases h9)
  obtain ⟨h9, rfl⟩ := hp
  cases h9
  refine W.eq (g2 := F0 m 31 ls [.int (0 : Int32)]) rfl ?_
  refine W.widen (k := 0) (n := 0) (by decide) (by decide) ?_
  have hP : va_P D kl [(vt, .inl (cI, 4, .inl (upd (upd (upd (upd vf 0 a) 1 b) 2 c2) 3 (0 : Int32)))), (m0, .inr (7, [.int (2 : Int32), .int (3 : Int32), .int (0 : Int32), .ref rw, .int (1 : Int32), .int (0 : Int32), .int (0 : Int32), .ref ry, .int (0 : Int32), .int (0 : Int32), .ref ti, .int (0 : Int32), .int (0 : Int32), .ref po, .ref su, .ref sq, .ref ch, .ref vt, .ref sh]))] H := hP
  have hD : va_D A [(vt, .inl (cI, 4, .inl (upd (upd (upd (upd vf 0 a) 1 b) 2 c2) 3 (0 : Int32)))), (m0, .inr (7, [.int (2 : Int32), .int (3 : Int32), .int (0 : Int32), .ref rw, .int (1 : Int32), .int (0 : Int32), .int (0 : Int32), .ref ry, .int (0 : Int32), .int (0 : Int32), .ref ti, .int (0 : Int32), .int (0 : Int32), .ref po, .ref su, .ref sq, .ref ch, .ref vt, .ref sh]))] := hD
  refine lv_if_ne (tgt := 36) hx hb d_M_least_31 (by decide) (fun h99 => absurd h99 (by decide)) (fun _ => ?_)
  refine lv_iconst (v := (0 : Int32)) hx hb d_M_least_34 (by decide) ?_
  exact tx_mono (fun _ h => tx_Z.of h) (W.iret (v := (0 : Int32)) hx hb hr (fun t ht hW => ⟨⟨[(m0, .inr (7, [.int (2 : Int32), .int (3 : Int32), .int (0 : Int32), .ref rw, .int (1 : Int32), .int (0 : Int32), .int (0 : Int32), .ref ry, .int (0 : Int32), .int (0 : Int32), .ref ti, .int (0 : Int32), .int (0 : Int32), .ref po, .ref su, .ref sq, .ref ch, .ref vt, .ref sh]))], ⟨rfl, rfl⟩, by rw [ht]; exact hP.sub [1] rfl, hD.sub [1] (by decide) rfl⟩, hS.F ht⟩) hS.2.2 d_M_least_35)

set_option maxHeartbeats 4000000 in
set_option maxRecDepth 100000 in
theorem c_M_add3_n {l : Launch} {s0 : State} {b0 : Addr} {D : va_G} {cI cJ cZ : ClassId} {tC tS : Nat} (E : gE l s0 b0 D cI cJ cZ tC tS) (sz : Nat) (m0 : Nat) (rw : Nat) (ry : Nat) (ti : Nat) (po : Nat) (su : Nat) (sq : Nat) (ch : Nat) (vt : Nat) (sh : Nat) (th : Int32) (a : Int32) (b : Int32) (c2 : Int32) (d2 : Int32) (vf : Nat → Int32) (h : ¬ (inw (5 : Int32) a = true ∧ inw (5 : Int32) b = true ∧ inw (5 : Int32) c2 = true)) : cx_M l s0 D kl y_M_add b_M_add 6 (some .int) ({ frames := 2, cells := 0, slots := 0, locals := 44 } : Room) 0 0 [.ref m0, .int a, .int b, .int c2, .int d2] [(m0, .inr (7, [.int th, .int (3 : Int32), .int (0 : Int32), .ref rw, .int (0 : Int32), .int (0 : Int32), .int (0 : Int32), .ref ry, .int (0 : Int32), .int (0 : Int32), .ref ti, .int (0 : Int32), .int (0 : Int32), .ref po, .ref su, .ref sq, .ref ch, .ref vt, .ref sh])), (vt, .inl (cI, 4, .inl vf))] sz (fun o9 _ w9 => o9 = .returned (some (.int (0 : Int32))) ∧ w9 = [(m0, .inr (7, [.int (1 : Int32), .int (3 : Int32), .int (0 : Int32), .ref rw, .int (0 : Int32), .int (0 : Int32), .int (0 : Int32), .ref ry, .int (0 : Int32), .int (0 : Int32), .ref ti, .int (0 : Int32), .int (0 : Int32), .ref po, .ref su, .ref sq, .ref ch, .ref vt, .ref sh]))]) := by
  refine tx_ofW (cc := b_M_add) (maxL := 6) (ret := (some .int)) (by decide) rfl ?_
  intro p e s m args below meth c s₁ B hml hT hv
  obtain ⟨rfl, hsz, hP, hD0, hx0⟩ := hv
  have hx := B.exec
  have hb := B.bytes
  have hr := B.returns
  have G := E.2.1
  have hown : s.vm.findClass cn_M = some m.cls := findClass_of_methodNamed B.named
  have hlocks := B.notSynchronized
  have hK := va_K.moved hx0.1.alike E.2.2.1
  have hf_M : ∀ w99 ∈ u_ws cn_M ft_M 19, w99.before ([.ref m0, .int a, .int b, .int c2, .int d2] : List Value).toArray s = true := fun w99 h99 => gw.at G hx0 (fw_M w99 h99) (fo_M w99 h99) _
  subst hsz
  have hA0 := cx_new hD0 hx0.2.1
  have hD := hD0.self (sz := s.heap.size)
  generalize hAe : va_A [(m0, .inr (7, [.int th, .int (3 : Int32), .int (0 : Int32), .ref rw, .int (0 : Int32), .int (0 : Int32), .int (0 : Int32), .ref ry, .int (0 : Int32), .int (0 : Int32), .ref ti, .int (0 : Int32), .int (0 : Int32), .ref po, .ref su, .ref sq, .ref ch, .ref vt, .ref sh])), (vt, .inl (cI, 4, .inl vf))] s.heap.size = A at hD hA0 ⊢
  have hA : ∀ q : Nat, s.heap.size ≤ q → A q := fun q h => by rw [← hAe]; exact Or.inr h
  have hS : va_S A s.heap s.heap [] := va_S.rf
  have hl := lv_entry ([.ref m0, .int a, .int b, .int c2, .int d2]) (n := 6) (Nat.le_of_ble_eq_true rfl)
  rw [lg_entry_eq]
  generalize (lg_sl ([.ref m0, .int a, .int b, .int c2, .int d2]) ++ List.replicate (6 - (lg_sl ([.ref m0, .int a, .int b, .int c2, .int d2])).length) Slot.unset).toArray = ls at hl ⊢
  have hl : lv_has ls 6 [(0, .ref m0), (1, .int a), (2, .int b), (3, .int c2), (4, .int d2)] := hl
  have hP : va_P D kl [(m0, .inr (7, [.int th, .int (3 : Int32), .int (0 : Int32), .ref rw, .int (0 : Int32), .int (0 : Int32), .int (0 : Int32), .ref ry, .int (0 : Int32), .int (0 : Int32), .ref ti, .int (0 : Int32), .int (0 : Int32), .ref po, .ref su, .ref sq, .ref ch, .ref vt, .ref sh])), (vt, .inl (cI, 4, .inl vf))] s.heap := hP
  have hml : c.maxLocals = 6 := hml
  refine lv_aload_n hx hb d_M_add_0 rfl (lv_at hl 0 rfl) ?_
  refine lv_iload_n hx hb d_M_add_1 rfl (lv_at hl 1 rfl) ?_
  refine lv_iload_n hx hb d_M_add_2 rfl (lv_at hl 2 rfl) ?_
  refine lv_iload_n hx hb d_M_add_3 rfl (lv_at hl 3 rfl) ?_
  refine lv_iload hx hb d_M_add_4 (lv_at hl 4 rfl) ?_
  refine cx_call (D := D) (cl := kl) (ws := _) (wc := [(m0, .inr (7, [.int th, .int (3 : Int32), .int (0 : Int32), .ref rw, .int (0 : Int32), .int (0 : Int32), .int (0 : Int32), .ref ry, .int (0 : Int32), .int (0 : Int32), .ref ti, .int (0 : Int32), .int (0 : Int32), .ref po, .ref su, .ref sq, .ref ch, .ref vt, .ref sh])), (vt, .inl (cI, 4, .inl vf))]) (wr := []) (tx_runV (C := cn_M) (b := m0) (As := [.int a, .int b, .int c2, .int d2]) (rest := []) hx hb hml hown (c_M_set3 E s.heap.size m0 rw ry ti po su sq ch vt sh th a b c2 d2 vf ) (cx_C (b0 := b0) G hx0 mw_783 mw_9 ny_M_set (by decide)) (gw.at G hx0 mw_780 rfl _) (gw.at G hx0 mw_782 rfl _) (gw.at G hx0 ms_M_set rfl _) ⟨cx_blind, va_recv hK hP (q0 := 0) (ci := 7) (q := (cn_M, ft_M, 19)) rfl rfl, (cx_pre (s := s) hx0 hP hD hS hA0 [0, 1] rfl rfl (by decide))⟩ rfl rfl hl.1 rfl (lv_room (Nat.le_of_ble_eq_true rfl)) d_M_add_6 ⟨by decide, by decide⟩) hP hD hS hA [0, 1] [] rfl rfl (by decide) (by decide) (fun v t w1 H locs ht hW9 hp hP hD hS => ?_) (fun x t w1 H locs ht hW9 hp hP hD hS => by obtain ⟨h9, -⟩ := hp; cases h9)
  obtain ⟨h9, rfl⟩ := hp
  cases h9
  refine W.eq (g2 := F0 m 9 ls []) rfl ?_
  refine W.widen (k := 0) (n := 0) (by decide) (by decide) ?_
  have hP : va_P D kl [(m0, .inr (7, [.int th, .int (3 : Int32), .int (0 : Int32), .ref rw, .int (0 : Int32), .int (0 : Int32), .int (0 : Int32), .ref ry, .int (0 : Int32), .int (0 : Int32), .ref ti, .int (0 : Int32), .int (0 : Int32), .ref po, .ref su, .ref sq, .ref ch, .ref vt, .ref sh])), (vt, .inl (cI, 4, .inl (upd (upd (upd (upd vf 0 a) 1 b) 2 c2) 3 (0 : Int32))))] H := hP
  have hD : va_D A [(m0, .inr (7, [.int th, .int (3 : Int32), .int (0 : Int32), .ref rw, .int (0 : Int32), .int (0 : Int32), .int (0 : Int32), .ref ry, .int (0 : Int32), .int (0 : Int32), .ref ti, .int (0 : Int32), .int (0 : Int32), .ref po, .ref su, .ref sq, .ref ch, .ref vt, .ref sh])), (vt, .inl (cI, 4, .inl (upd (upd (upd (upd vf 0 a) 1 b) 2 c2) 3 (0 : Int32))))] := hD
  refine lv_aload_n hx hb d_M_add_9 rfl (lv_at hl 0 rfl) ?_
  refine lv_aload_n hx hb d_M_add_10 rfl (lv_at hl 0 rfl) ?_
  refine lv_iconst (v := (5 : Int32)) hx hb d_M_add_11 (by decide) ?_
  refine cx_call (D := D) (cl := kl) (ws := _) (wc := [(m0, .inr (7, [.int th, .int (3 : Int32), .int (0 : Int32), .ref rw, .int (0 : Int32), .int (0 : Int32), .int (0 : Int32), .ref ry, .int (0 : Int32), .int (0 : Int32), .ref ti, .int (0 : Int32), .int (0 : Int32), .ref po, .ref su, .ref sq, .ref ch, .ref vt, .ref sh])), (vt, .inl (cI, 4, .inl (upd (upd (upd (upd vf 0 a) 1 b) 2 c2) 3 (0 : Int32))))]) (wr := []) (tx_runV (C := cn_M) (b := m0) (As := [.int (5 : Int32)]) (rest := [.ref m0]) hx hb hml hown (c_M_within3_n E H.size m0 rw ry ti po su sq ch vt sh th (5 : Int32) (upd (upd (upd (upd vf 0 a) 1 b) 2 c2) 3 (0 : Int32)) h) (cx_C (b0 := b0) G hx0 mw_787 mw_9 ny_M_within (by decide)) (gw.at G hx0 mw_784 rfl _) (gw.at G hx0 mw_786 rfl _) (gw.at G hx0 ms_M_within rfl _) ⟨cx_blind, va_recv hK hP (q0 := 0) (ci := 7) (q := (cn_M, ft_M, 19)) rfl rfl, (cx_pre (s := s) hx0 hP hD hS hA0 [0, 1] rfl rfl (by decide))⟩ rfl rfl hl.1 rfl (lv_room (Nat.le_of_ble_eq_true rfl)) d_M_add_12 ⟨by decide, by decide⟩) hP hD hS hA [0, 1] [] rfl rfl (by decide) (by decide) (fun v t w1 H locs ht hW9 hp hP hD hS => ?_) (fun x t w1 H locs ht hW9 hp hP hD hS => by obtain ⟨h9, -⟩ := hp; cases h9)
  obtain ⟨h9, rfl⟩ := hp
  cases h9
  refine W.eq (g2 := F0 m 15 ls [.int (0 : Int32), .ref m0]) rfl ?_
  refine W.widen (k := 0) (n := 0) (by decide) (by decide) ?_
  have hP : va_P D kl [(m0, .inr (7, [.int th, .int (3 : Int32), .int (0 : Int32), .ref rw, .int (0 : Int32), .int (0 : Int32), .int (0 : Int32), .ref ry, .int (0 : Int32), .int (0 : Int32), .ref ti, .int (0 : Int32), .int (0 : Int32), .ref po, .ref su, .ref sq, .ref ch, .ref vt, .ref sh])), (vt, .inl (cI, 4, .inl (upd (upd (upd (upd vf 0 a) 1 b) 2 c2) 3 (0 : Int32))))] H := hP
  have hD : va_D A [(m0, .inr (7, [.int th, .int (3 : Int32), .int (0 : Int32), .ref rw, .int (0 : Int32), .int (0 : Int32), .int (0 : Int32), .ref ry, .int (0 : Int32), .int (0 : Int32), .ref ti, .int (0 : Int32), .int (0 : Int32), .ref po, .ref su, .ref sq, .ref ch, .ref vt, .ref sh])), (vt, .inl (cI, 4, .inl (upd (upd (upd (upd vf 0 a) 1 b) 2 c2) 3 (0 : Int32))))] := hD
  refine lv_if_eq (tgt := 25) hx hb d_M_add_15 (by decide) (fun _ => ?_) (fun h99 => absurd h99 (by decide))
  refine lv_iconst (v := (1 : Int32)) hx hb d_M_add_25 (by decide) ?_
  refine lv_goto (tgt := 43) hx hb d_M_add_26 (by decide) ?_
  refine va_put (D := D) (ci := 7) (v := .int (1 : Int32)) (ty := .int) (C := cn_M) (T := ft_M) (N := 19) hx hb hf_M (fun _ h => h) fy_M fk_M fn_M hown hK hP hD hS 0 rfl rfl 0 (by decide) (gw.at G hx0 mw_713 rfl _) (fun _ h9 => h9) rfl (by decide +kernel) rfl rfl (Nat.le_of_ble_eq_true rfl) d_M_add_43 (fun H locs hP hD hS => ?_)
  have hP : va_P D kl [(m0, .inr (7, [.int (1 : Int32), .int (3 : Int32), .int (0 : Int32), .ref rw, .int (0 : Int32), .int (0 : Int32), .int (0 : Int32), .ref ry, .int (0 : Int32), .int (0 : Int32), .ref ti, .int (0 : Int32), .int (0 : Int32), .ref po, .ref su, .ref sq, .ref ch, .ref vt, .ref sh])), (vt, .inl (cI, 4, .inl (upd (upd (upd (upd vf 0 a) 1 b) 2 c2) 3 (0 : Int32))))] H := hP
  have hD : va_D A [(m0, .inr (7, [.int (1 : Int32), .int (3 : Int32), .int (0 : Int32), .ref rw, .int (0 : Int32), .int (0 : Int32), .int (0 : Int32), .ref ry, .int (0 : Int32), .int (0 : Int32), .ref ti, .int (0 : Int32), .int (0 : Int32), .ref po, .ref su, .ref sq, .ref ch, .ref vt, .ref sh])), (vt, .inl (cI, 4, .inl (upd (upd (upd (upd vf 0 a) 1 b) 2 c2) 3 (0 : Int32))))] := hD
  refine lv_aload_n hx hb d_M_add_46 rfl (lv_at hl 0 rfl) ?_
  refine va_get (D := D) (ci := 7) (v := .int (1 : Int32)) (C := cn_M) (T := ft_M) (N := 19) hx hb hf_M (fun _ h => h) hown hK hP 0 rfl rfl 0 (by decide) (gw.at G hx0 mw_713 rfl _) (fun _ h9 => h9) rfl d_M_add_47 ?_
  refine lv_if_le (tgt := 55) hx hb d_M_add_50 (by decide) (fun h99 => absurd h99 (by decide)) (fun _ => ?_)
  refine lv_iconst (v := (0 : Int32)) hx hb d_M_add_53 (by decide) ?_
  exact tx_mono (fun _ h => tx_Z.of h) (W.iret (v := (0 : Int32)) hx hb hr (fun t ht hW => ⟨⟨[(m0, .inr (7, [.int (1 : Int32), .int (3 : Int32), .int (0 : Int32), .ref rw, .int (0 : Int32), .int (0 : Int32), .int (0 : Int32), .ref ry, .int (0 : Int32), .int (0 : Int32), .ref ti, .int (0 : Int32), .int (0 : Int32), .ref po, .ref su, .ref sq, .ref ch, .ref vt, .ref sh]))], ⟨rfl, rfl⟩, by rw [ht]; exact hP.sub [0] rfl, hD.sub [0] (by decide) rfl⟩, hS.F ht⟩) hS.2.2 d_M_add_54)

set_option maxHeartbeats 4000000 in
set_option maxRecDepth 100000 in
theorem c_M_add3_z {l : Launch} {s0 : State} {b0 : Addr} {D : va_G} {cI cJ cZ : ClassId} {tC tS : Nat} (E : gE l s0 b0 D cI cJ cZ tC tS) (sz : Nat) (m0 : Nat) (rw : Nat) (ry : Nat) (ti : Nat) (po : Nat) (su : Nat) (sq : Nat) (ch : Nat) (vt : Nat) (sh : Nat) (th : Int32) (a : Int32) (b : Int32) (c2 : Int32) (d2 : Int32) (vf : Nat → Int32) (h : inw (5 : Int32) a = true ∧ inw (5 : Int32) b = true ∧ inw (5 : Int32) c2 = true) (h2 : all4 a b c2 0) : cx_M l s0 D kl y_M_add b_M_add 6 (some .int) ({ frames := 2, cells := 0, slots := 0, locals := 44 } : Room) 0 0 [.ref m0, .int a, .int b, .int c2, .int d2] [(m0, .inr (7, [.int th, .int (3 : Int32), .int (0 : Int32), .ref rw, .int (0 : Int32), .int (0 : Int32), .int (0 : Int32), .ref ry, .int (0 : Int32), .int (0 : Int32), .ref ti, .int (0 : Int32), .int (0 : Int32), .ref po, .ref su, .ref sq, .ref ch, .ref vt, .ref sh])), (vt, .inl (cI, 4, .inl vf))] sz (fun o9 _ w9 => o9 = .returned (some (.int (0 : Int32))) ∧ w9 = [(m0, .inr (7, [.int (1 : Int32), .int (3 : Int32), .int (0 : Int32), .ref rw, .int (0 : Int32), .int (0 : Int32), .int (0 : Int32), .ref ry, .int (0 : Int32), .int (0 : Int32), .ref ti, .int (0 : Int32), .int (0 : Int32), .ref po, .ref su, .ref sq, .ref ch, .ref vt, .ref sh]))]) := by
  refine tx_ofW (cc := b_M_add) (maxL := 6) (ret := (some .int)) (by decide) rfl ?_
  intro p e s m args below meth c s₁ B hml hT hv
  obtain ⟨rfl, hsz, hP, hD0, hx0⟩ := hv
  have hx := B.exec
  have hb := B.bytes
  have hr := B.returns
  have G := E.2.1
  have hown : s.vm.findClass cn_M = some m.cls := findClass_of_methodNamed B.named
  have hlocks := B.notSynchronized
  have hK := va_K.moved hx0.1.alike E.2.2.1
  have hf_M : ∀ w99 ∈ u_ws cn_M ft_M 19, w99.before ([.ref m0, .int a, .int b, .int c2, .int d2] : List Value).toArray s = true := fun w99 h99 => gw.at G hx0 (fw_M w99 h99) (fo_M w99 h99) _
  subst hsz
  have hA0 := cx_new hD0 hx0.2.1
  have hD := hD0.self (sz := s.heap.size)
  generalize hAe : va_A [(m0, .inr (7, [.int th, .int (3 : Int32), .int (0 : Int32), .ref rw, .int (0 : Int32), .int (0 : Int32), .int (0 : Int32), .ref ry, .int (0 : Int32), .int (0 : Int32), .ref ti, .int (0 : Int32), .int (0 : Int32), .ref po, .ref su, .ref sq, .ref ch, .ref vt, .ref sh])), (vt, .inl (cI, 4, .inl vf))] s.heap.size = A at hD hA0 ⊢
  have hA : ∀ q : Nat, s.heap.size ≤ q → A q := fun q h => by rw [← hAe]; exact Or.inr h
  have hS : va_S A s.heap s.heap [] := va_S.rf
  have hl := lv_entry ([.ref m0, .int a, .int b, .int c2, .int d2]) (n := 6) (Nat.le_of_ble_eq_true rfl)
  rw [lg_entry_eq]
  generalize (lg_sl ([.ref m0, .int a, .int b, .int c2, .int d2]) ++ List.replicate (6 - (lg_sl ([.ref m0, .int a, .int b, .int c2, .int d2])).length) Slot.unset).toArray = ls at hl ⊢
  have hl : lv_has ls 6 [(0, .ref m0), (1, .int a), (2, .int b), (3, .int c2), (4, .int d2)] := hl
  have hP : va_P D kl [(m0, .inr (7, [.int th, .int (3 : Int32), .int (0 : Int32), .ref rw, .int (0 : Int32), .int (0 : Int32), .int (0 : Int32), .ref ry, .int (0 : Int32), .int (0 : Int32), .ref ti, .int (0 : Int32), .int (0 : Int32), .ref po, .ref su, .ref sq, .ref ch, .ref vt, .ref sh])), (vt, .inl (cI, 4, .inl vf))] s.heap := hP
  have hml : c.maxLocals = 6 := hml
  refine lv_aload_n hx hb d_M_add_0 rfl (lv_at hl 0 rfl) ?_
  refine lv_iload_n hx hb d_M_add_1 rfl (lv_at hl 1 rfl) ?_
  refine lv_iload_n hx hb d_M_add_2 rfl (lv_at hl 2 rfl) ?_
  refine lv_iload_n hx hb d_M_add_3 rfl (lv_at hl 3 rfl) ?_
  refine lv_iload hx hb d_M_add_4 (lv_at hl 4 rfl) ?_
  refine cx_call (D := D) (cl := kl) (ws := _) (wc := [(m0, .inr (7, [.int th, .int (3 : Int32), .int (0 : Int32), .ref rw, .int (0 : Int32), .int (0 : Int32), .int (0 : Int32), .ref ry, .int (0 : Int32), .int (0 : Int32), .ref ti, .int (0 : Int32), .int (0 : Int32), .ref po, .ref su, .ref sq, .ref ch, .ref vt, .ref sh])), (vt, .inl (cI, 4, .inl vf))]) (wr := []) (tx_runV (C := cn_M) (b := m0) (As := [.int a, .int b, .int c2, .int d2]) (rest := []) hx hb hml hown (c_M_set3 E s.heap.size m0 rw ry ti po su sq ch vt sh th a b c2 d2 vf ) (cx_C (b0 := b0) G hx0 mw_783 mw_9 ny_M_set (by decide)) (gw.at G hx0 mw_780 rfl _) (gw.at G hx0 mw_782 rfl _) (gw.at G hx0 ms_M_set rfl _) ⟨cx_blind, va_recv hK hP (q0 := 0) (ci := 7) (q := (cn_M, ft_M, 19)) rfl rfl, (cx_pre (s := s) hx0 hP hD hS hA0 [0, 1] rfl rfl (by decide))⟩ rfl rfl hl.1 rfl (lv_room (Nat.le_of_ble_eq_true rfl)) d_M_add_6 ⟨by decide, by decide⟩) hP hD hS hA [0, 1] [] rfl rfl (by decide) (by decide) (fun v t w1 H locs ht hW9 hp hP hD hS => ?_) (fun x t w1 H locs ht hW9 hp hP hD hS => by obtain ⟨h9, -⟩ := hp; cases h9)
  obtain ⟨h9, rfl⟩ := hp
  cases h9
  refine W.eq (g2 := F0 m 9 ls []) rfl ?_
  refine W.widen (k := 0) (n := 0) (by decide) (by decide) ?_
  have hP : va_P D kl [(m0, .inr (7, [.int th, .int (3 : Int32), .int (0 : Int32), .ref rw, .int (0 : Int32), .int (0 : Int32), .int (0 : Int32), .ref ry, .int (0 : Int32), .int (0 : Int32), .ref ti, .int (0 : Int32), .int (0 : Int32), .ref po, .ref su, .ref sq, .ref ch, .ref vt, .ref sh])), (vt, .inl (cI, 4, .inl (upd (upd (upd (upd vf 0 a) 1 b) 2 c2) 3 (0 : Int32))))] H := hP
  have hD : va_D A [(m0, .inr (7, [.int th, .int (3 : Int32), .int (0 : Int32), .ref rw, .int (0 : Int32), .int (0 : Int32), .int (0 : Int32), .ref ry, .int (0 : Int32), .int (0 : Int32), .ref ti, .int (0 : Int32), .int (0 : Int32), .ref po, .ref su, .ref sq, .ref ch, .ref vt, .ref sh])), (vt, .inl (cI, 4, .inl (upd (upd (upd (upd vf 0 a) 1 b) 2 c2) 3 (0 : Int32))))] := hD
  refine lv_aload_n hx hb d_M_add_9 rfl (lv_at hl 0 rfl) ?_
  refine lv_aload_n hx hb d_M_add_10 rfl (lv_at hl 0 rfl) ?_
  refine lv_iconst (v := (5 : Int32)) hx hb d_M_add_11 (by decide) ?_
  refine cx_call (D := D) (cl := kl) (ws := _) (wc := [(m0, .inr (7, [.int th, .int (3 : Int32), .int (0 : Int32), .ref rw, .int (0 : Int32), .int (0 : Int32), .int (0 : Int32), .ref ry, .int (0 : Int32), .int (0 : Int32), .ref ti, .int (0 : Int32), .int (0 : Int32), .ref po, .ref su, .ref sq, .ref ch, .ref vt, .ref sh])), (vt, .inl (cI, 4, .inl (upd (upd (upd (upd vf 0 a) 1 b) 2 c2) 3 (0 : Int32))))]) (wr := []) (tx_runV (C := cn_M) (b := m0) (As := [.int (5 : Int32)]) (rest := [.ref m0]) hx hb hml hown (c_M_within3_y E H.size m0 rw ry ti po su sq ch vt sh th (5 : Int32) (upd (upd (upd (upd vf 0 a) 1 b) 2 c2) 3 (0 : Int32)) h) (cx_C (b0 := b0) G hx0 mw_787 mw_9 ny_M_within (by decide)) (gw.at G hx0 mw_784 rfl _) (gw.at G hx0 mw_786 rfl _) (gw.at G hx0 ms_M_within rfl _) ⟨cx_blind, va_recv hK hP (q0 := 0) (ci := 7) (q := (cn_M, ft_M, 19)) rfl rfl, (cx_pre (s := s) hx0 hP hD hS hA0 [0, 1] rfl rfl (by decide))⟩ rfl rfl hl.1 rfl (lv_room (Nat.le_of_ble_eq_true rfl)) d_M_add_12 ⟨by decide, by decide⟩) hP hD hS hA [0, 1] [] rfl rfl (by decide) (by decide) (fun v t w1 H locs ht hW9 hp hP hD hS => ?_) (fun x t w1 H locs ht hW9 hp hP hD hS => by obtain ⟨h9, -⟩ := hp; cases h9)
  obtain ⟨h9, rfl⟩ := hp
  cases h9
  refine W.eq (g2 := F0 m 15 ls [.int (1 : Int32), .ref m0]) rfl ?_
  refine W.widen (k := 0) (n := 0) (by decide) (by decide) ?_
  have hP : va_P D kl [(m0, .inr (7, [.int th, .int (3 : Int32), .int (0 : Int32), .ref rw, .int (0 : Int32), .int (0 : Int32), .int (0 : Int32), .ref ry, .int (0 : Int32), .int (0 : Int32), .ref ti, .int (0 : Int32), .int (0 : Int32), .ref po, .ref su, .ref sq, .ref ch, .ref vt, .ref sh])), (vt, .inl (cI, 4, .inl (upd (upd (upd (upd vf 0 a) 1 b) 2 c2) 3 (0 : Int32))))] H := hP
  have hD : va_D A [(m0, .inr (7, [.int th, .int (3 : Int32), .int (0 : Int32), .ref rw, .int (0 : Int32), .int (0 : Int32), .int (0 : Int32), .ref ry, .int (0 : Int32), .int (0 : Int32), .ref ti, .int (0 : Int32), .int (0 : Int32), .ref po, .ref su, .ref sq, .ref ch, .ref vt, .ref sh])), (vt, .inl (cI, 4, .inl (upd (upd (upd (upd vf 0 a) 1 b) 2 c2) 3 (0 : Int32))))] := hD
  refine lv_if_eq (tgt := 25) hx hb d_M_add_15 (by decide) (fun h99 => absurd h99 (by decide)) (fun _ => ?_)
  refine lv_aload_n hx hb d_M_add_18 rfl (lv_at hl 0 rfl) ?_
  refine cx_call (D := D) (cl := kl) (ws := _) (wc := [(m0, .inr (7, [.int th, .int (3 : Int32), .int (0 : Int32), .ref rw, .int (0 : Int32), .int (0 : Int32), .int (0 : Int32), .ref ry, .int (0 : Int32), .int (0 : Int32), .ref ti, .int (0 : Int32), .int (0 : Int32), .ref po, .ref su, .ref sq, .ref ch, .ref vt, .ref sh])), (vt, .inl (cI, 4, .inl (upd (upd (upd (upd vf 0 a) 1 b) 2 c2) 3 (0 : Int32))))]) (wr := []) (tx_runV (C := cn_M) (b := m0) (As := []) (rest := [.ref m0]) hx hb hml hown (c_M_nothing_y E H.size m0 rw ry ti po su sq ch vt sh th (3 : Int32) (upd (upd (upd (upd vf 0 a) 1 b) 2 c2) 3 (0 : Int32)) h2) (cx_C (b0 := b0) G hx0 mw_794 mw_9 ny_M_nothing (by decide)) (gw.at G hx0 mw_791 rfl _) (gw.at G hx0 mw_793 rfl _) (gw.at G hx0 ms_M_nothing rfl _) ⟨cx_blind, va_recv hK hP (q0 := 0) (ci := 7) (q := (cn_M, ft_M, 19)) rfl rfl, (cx_pre (s := s) hx0 hP hD hS hA0 [0, 1] rfl rfl (by decide))⟩ rfl rfl hl.1 rfl (lv_room (Nat.le_of_ble_eq_true rfl)) d_M_add_19 ⟨by decide, by decide⟩) hP hD hS hA [0, 1] [] rfl rfl (by decide) (by decide) (fun v t w1 H locs ht hW9 hp hP hD hS => ?_) (fun x t w1 H locs ht hW9 hp hP hD hS => by obtain ⟨h9, -⟩ := hp; cases h9)
  obtain ⟨h9, rfl⟩ := hp
  cases h9
  refine W.eq (g2 := F0 m 22 ls [.int (1 : Int32), .ref m0]) rfl ?_
  refine W.widen (k := 0) (n := 0) (by decide) (by decide) ?_
  have hP : va_P D kl [(m0, .inr (7, [.int th, .int (3 : Int32), .int (0 : Int32), .ref rw, .int (0 : Int32), .int (0 : Int32), .int (0 : Int32), .ref ry, .int (0 : Int32), .int (0 : Int32), .ref ti, .int (0 : Int32), .int (0 : Int32), .ref po, .ref su, .ref sq, .ref ch, .ref vt, .ref sh])), (vt, .inl (cI, 4, .inl (upd (upd (upd (upd vf 0 a) 1 b) 2 c2) 3 (0 : Int32))))] H := hP
  have hD : va_D A [(m0, .inr (7, [.int th, .int (3 : Int32), .int (0 : Int32), .ref rw, .int (0 : Int32), .int (0 : Int32), .int (0 : Int32), .ref ry, .int (0 : Int32), .int (0 : Int32), .ref ti, .int (0 : Int32), .int (0 : Int32), .ref po, .ref su, .ref sq, .ref ch, .ref vt, .ref sh])), (vt, .inl (cI, 4, .inl (upd (upd (upd (upd vf 0 a) 1 b) 2 c2) 3 (0 : Int32))))] := hD
  refine lv_if_eq (tgt := 29) hx hb d_M_add_22 (by decide) (fun h99 => absurd h99 (by decide)) (fun _ => ?_)
  refine lv_iconst (v := (1 : Int32)) hx hb d_M_add_25 (by decide) ?_
  refine lv_goto (tgt := 43) hx hb d_M_add_26 (by decide) ?_
  refine va_put (D := D) (ci := 7) (v := .int (1 : Int32)) (ty := .int) (C := cn_M) (T := ft_M) (N := 19) hx hb hf_M (fun _ h => h) fy_M fk_M fn_M hown hK hP hD hS 0 rfl rfl 0 (by decide) (gw.at G hx0 mw_713 rfl _) (fun _ h9 => h9) rfl (by decide +kernel) rfl rfl (Nat.le_of_ble_eq_true rfl) d_M_add_43 (fun H locs hP hD hS => ?_)
  have hP : va_P D kl [(m0, .inr (7, [.int (1 : Int32), .int (3 : Int32), .int (0 : Int32), .ref rw, .int (0 : Int32), .int (0 : Int32), .int (0 : Int32), .ref ry, .int (0 : Int32), .int (0 : Int32), .ref ti, .int (0 : Int32), .int (0 : Int32), .ref po, .ref su, .ref sq, .ref ch, .ref vt, .ref sh])), (vt, .inl (cI, 4, .inl (upd (upd (upd (upd vf 0 a) 1 b) 2 c2) 3 (0 : Int32))))] H := hP
  have hD : va_D A [(m0, .inr (7, [.int (1 : Int32), .int (3 : Int32), .int (0 : Int32), .ref rw, .int (0 : Int32), .int (0 : Int32), .int (0 : Int32), .ref ry, .int (0 : Int32), .int (0 : Int32), .ref ti, .int (0 : Int32), .int (0 : Int32), .ref po, .ref su, .ref sq, .ref ch, .ref vt, .ref sh])), (vt, .inl (cI, 4, .inl (upd (upd (upd (upd vf 0 a) 1 b) 2 c2) 3 (0 : Int32))))] := hD
  refine lv_aload_n hx hb d_M_add_46 rfl (lv_at hl 0 rfl) ?_
  refine va_get (D := D) (ci := 7) (v := .int (1 : Int32)) (C := cn_M) (T := ft_M) (N := 19) hx hb hf_M (fun _ h => h) hown hK hP 0 rfl rfl 0 (by decide) (gw.at G hx0 mw_713 rfl _) (fun _ h9 => h9) rfl d_M_add_47 ?_
  refine lv_if_le (tgt := 55) hx hb d_M_add_50 (by decide) (fun h99 => absurd h99 (by decide)) (fun _ => ?_)
  refine lv_iconst (v := (0 : Int32)) hx hb d_M_add_53 (by decide) ?_
  exact tx_mono (fun _ h => tx_Z.of h) (W.iret (v := (0 : Int32)) hx hb hr (fun t ht hW => ⟨⟨[(m0, .inr (7, [.int (1 : Int32), .int (3 : Int32), .int (0 : Int32), .ref rw, .int (0 : Int32), .int (0 : Int32), .int (0 : Int32), .ref ry, .int (0 : Int32), .int (0 : Int32), .ref ti, .int (0 : Int32), .int (0 : Int32), .ref po, .ref su, .ref sq, .ref ch, .ref vt, .ref sh]))], ⟨rfl, rfl⟩, by rw [ht]; exact hP.sub [0] rfl, hD.sub [0] (by decide) rfl⟩, hS.F ht⟩) hS.2.2 d_M_add_54)

set_option maxHeartbeats 4000000 in
set_option maxRecDepth 100000 in
theorem c_M_add3_y {l : Launch} {s0 : State} {b0 : Addr} {D : va_G} {cI cJ cZ : ClassId} {tC tS : Nat} (E : gE l s0 b0 D cI cJ cZ tC tS) (sz : Nat) (m0 : Nat) (rw : Nat) (ry : Nat) (ti : Nat) (po : Nat) (su : Nat) (sq : Nat) (ch : Nat) (vt : Nat) (sh : Nat) (th : Int32) (a : Int32) (b : Int32) (c2 : Int32) (d2 : Int32) (vf : Nat → Int32) (wf : Nat → Int32) (h : inw (5 : Int32) a = true ∧ inw (5 : Int32) b = true ∧ inw (5 : Int32) c2 = true) (h2 : ¬ all4 a b c2 0) : cx_M l s0 D kl y_M_add b_M_add 6 (some .int) ({ frames := 2, cells := 0, slots := 0, locals := 44 } : Room) 0 0 [.ref m0, .int a, .int b, .int c2, .int d2] [(m0, .inr (7, [.int th, .int (3 : Int32), .int (0 : Int32), .ref rw, .int (0 : Int32), .int (0 : Int32), .int (0 : Int32), .ref ry, .int (0 : Int32), .int (0 : Int32), .ref ti, .int (0 : Int32), .int (0 : Int32), .ref po, .ref su, .ref sq, .ref ch, .ref vt, .ref sh])), (vt, .inl (cI, 4, .inl vf)), (rw, .inl (cI, 32, .inl wf))] sz (fun o9 _ w9 => o9 = .returned (some (.int (0 : Int32))) ∧ w9 = [(m0, .inr (7, [.int (0 : Int32), .int (3 : Int32), .int (1 : Int32), .ref rw, .int (0 : Int32), .int (0 : Int32), .int (0 : Int32), .ref ry, .int (0 : Int32), .int (0 : Int32), .ref ti, .int (0 : Int32), .int (0 : Int32), .ref po, .ref su, .ref sq, .ref ch, .ref vt, .ref sh]))]) := by
  refine tx_ofW (cc := b_M_add) (maxL := 6) (ret := (some .int)) (by decide) rfl ?_
  intro p e s m args below meth c s₁ B hml hT hv
  obtain ⟨rfl, hsz, hP, hD0, hx0⟩ := hv
  have hx := B.exec
  have hb := B.bytes
  have hr := B.returns
  have G := E.2.1
  have hown : s.vm.findClass cn_M = some m.cls := findClass_of_methodNamed B.named
  have hlocks := B.notSynchronized
  have hK := va_K.moved hx0.1.alike E.2.2.1
  have hf_M : ∀ w99 ∈ u_ws cn_M ft_M 19, w99.before ([.ref m0, .int a, .int b, .int c2, .int d2] : List Value).toArray s = true := fun w99 h99 => gw.at G hx0 (fw_M w99 h99) (fo_M w99 h99) _
  subst hsz
  have hA0 := cx_new hD0 hx0.2.1
  have hD := hD0.self (sz := s.heap.size)
  generalize hAe : va_A [(m0, .inr (7, [.int th, .int (3 : Int32), .int (0 : Int32), .ref rw, .int (0 : Int32), .int (0 : Int32), .int (0 : Int32), .ref ry, .int (0 : Int32), .int (0 : Int32), .ref ti, .int (0 : Int32), .int (0 : Int32), .ref po, .ref su, .ref sq, .ref ch, .ref vt, .ref sh])), (vt, .inl (cI, 4, .inl vf)), (rw, .inl (cI, 32, .inl wf))] s.heap.size = A at hD hA0 ⊢
  have hA : ∀ q : Nat, s.heap.size ≤ q → A q := fun q h => by rw [← hAe]; exact Or.inr h
  have hS : va_S A s.heap s.heap [] := va_S.rf
  have hl := lv_entry ([.ref m0, .int a, .int b, .int c2, .int d2]) (n := 6) (Nat.le_of_ble_eq_true rfl)
  rw [lg_entry_eq]
  generalize (lg_sl ([.ref m0, .int a, .int b, .int c2, .int d2]) ++ List.replicate (6 - (lg_sl ([.ref m0, .int a, .int b, .int c2, .int d2])).length) Slot.unset).toArray = ls at hl ⊢
  have hl : lv_has ls 6 [(0, .ref m0), (1, .int a), (2, .int b), (3, .int c2), (4, .int d2)] := hl
  have hP : va_P D kl [(m0, .inr (7, [.int th, .int (3 : Int32), .int (0 : Int32), .ref rw, .int (0 : Int32), .int (0 : Int32), .int (0 : Int32), .ref ry, .int (0 : Int32), .int (0 : Int32), .ref ti, .int (0 : Int32), .int (0 : Int32), .ref po, .ref su, .ref sq, .ref ch, .ref vt, .ref sh])), (vt, .inl (cI, 4, .inl vf)), (rw, .inl (cI, 32, .inl wf))] s.heap := hP
  have hml : c.maxLocals = 6 := hml
  refine lv_aload_n hx hb d_M_add_0 rfl (lv_at hl 0 rfl) ?_
  refine lv_iload_n hx hb d_M_add_1 rfl (lv_at hl 1 rfl) ?_
  refine lv_iload_n hx hb d_M_add_2 rfl (lv_at hl 2 rfl) ?_
  refine lv_iload_n hx hb d_M_add_3 rfl (lv_at hl 3 rfl) ?_
  refine lv_iload hx hb d_M_add_4 (lv_at hl 4 rfl) ?_
  refine cx_call (D := D) (cl := kl) (ws := _) (wc := [(m0, .inr (7, [.int th, .int (3 : Int32), .int (0 : Int32), .ref rw, .int (0 : Int32), .int (0 : Int32), .int (0 : Int32), .ref ry, .int (0 : Int32), .int (0 : Int32), .ref ti, .int (0 : Int32), .int (0 : Int32), .ref po, .ref su, .ref sq, .ref ch, .ref vt, .ref sh])), (vt, .inl (cI, 4, .inl vf))]) (wr := [(rw, .inl (cI, 32, .inl wf))]) (tx_runV (C := cn_M) (b := m0) (As := [.int a, .int b, .int c2, .int d2]) (rest := []) hx hb hml hown (c_M_set3 E s.heap.size m0 rw ry ti po su sq ch vt sh th a b c2 d2 vf ) (cx_C (b0 := b0) G hx0 mw_783 mw_9 ny_M_set (by decide)) (gw.at G hx0 mw_780 rfl _) (gw.at G hx0 mw_782 rfl _) (gw.at G hx0 ms_M_set rfl _) ⟨cx_blind, va_recv hK hP (q0 := 0) (ci := 7) (q := (cn_M, ft_M, 19)) rfl rfl, (cx_pre (s := s) hx0 hP hD hS hA0 [0, 1] rfl rfl (by decide))⟩ rfl rfl hl.1 rfl (lv_room (Nat.le_of_ble_eq_true rfl)) d_M_add_6 ⟨by decide, by decide⟩) hP hD hS hA [0, 1] [2] rfl rfl (by decide) (by decide) (fun v t w1 H locs ht hW9 hp hP hD hS => ?_) (fun x t w1 H locs ht hW9 hp hP hD hS => by obtain ⟨h9, -⟩ := hp; cases h9)
  obtain ⟨h9, rfl⟩ := hp
  cases h9
  refine W.eq (g2 := F0 m 9 ls []) rfl ?_
  refine W.widen (k := 0) (n := 0) (by decide) (by decide) ?_
  have hP : va_P D kl [(rw, .inl (cI, 32, .inl wf)), (m0, .inr (7, [.int th, .int (3 : Int32), .int (0 : Int32), .ref rw, .int (0 : Int32), .int (0 : Int32), .int (0 : Int32), .ref ry, .int (0 : Int32), .int (0 : Int32), .ref ti, .int (0 : Int32), .int (0 : Int32), .ref po, .ref su, .ref sq, .ref ch, .ref vt, .ref sh])), (vt, .inl (cI, 4, .inl (upd (upd (upd (upd vf 0 a) 1 b) 2 c2) 3 (0 : Int32))))] H := hP
  have hD : va_D A [(rw, .inl (cI, 32, .inl wf)), (m0, .inr (7, [.int th, .int (3 : Int32), .int (0 : Int32), .ref rw, .int (0 : Int32), .int (0 : Int32), .int (0 : Int32), .ref ry, .int (0 : Int32), .int (0 : Int32), .ref ti, .int (0 : Int32), .int (0 : Int32), .ref po, .ref su, .ref sq, .ref ch, .ref vt, .ref sh])), (vt, .inl (cI, 4, .inl (upd (upd (upd (upd vf 0 a) 1 b) 2 c2) 3 (0 : Int32))))] := hD
  refine lv_aload_n hx hb d_M_add_9 rfl (lv_at hl 0 rfl) ?_
  refine lv_aload_n hx hb d_M_add_10 rfl (lv_at hl 0 rfl) ?_
  refine lv_iconst (v := (5 : Int32)) hx hb d_M_add_11 (by decide) ?_
  refine cx_call (D := D) (cl := kl) (ws := _) (wc := [(m0, .inr (7, [.int th, .int (3 : Int32), .int (0 : Int32), .ref rw, .int (0 : Int32), .int (0 : Int32), .int (0 : Int32), .ref ry, .int (0 : Int32), .int (0 : Int32), .ref ti, .int (0 : Int32), .int (0 : Int32), .ref po, .ref su, .ref sq, .ref ch, .ref vt, .ref sh])), (vt, .inl (cI, 4, .inl (upd (upd (upd (upd vf 0 a) 1 b) 2 c2) 3 (0 : Int32))))]) (wr := [(rw, .inl (cI, 32, .inl wf))]) (tx_runV (C := cn_M) (b := m0) (As := [.int (5 : Int32)]) (rest := [.ref m0]) hx hb hml hown (c_M_within3_y E H.size m0 rw ry ti po su sq ch vt sh th (5 : Int32) (upd (upd (upd (upd vf 0 a) 1 b) 2 c2) 3 (0 : Int32)) h) (cx_C (b0 := b0) G hx0 mw_787 mw_9 ny_M_within (by decide)) (gw.at G hx0 mw_784 rfl _) (gw.at G hx0 mw_786 rfl _) (gw.at G hx0 ms_M_within rfl _) ⟨cx_blind, va_recv hK hP (q0 := 1) (ci := 7) (q := (cn_M, ft_M, 19)) rfl rfl, (cx_pre (s := s) hx0 hP hD hS hA0 [1, 2] rfl rfl (by decide))⟩ rfl rfl hl.1 rfl (lv_room (Nat.le_of_ble_eq_true rfl)) d_M_add_12 ⟨by decide, by decide⟩) hP hD hS hA [1, 2] [0] rfl rfl (by decide) (by decide) (fun v t w1 H locs ht hW9 hp hP hD hS => ?_) (fun x t w1 H locs ht hW9 hp hP hD hS => by obtain ⟨h9, -⟩ := hp; cases h9)
  obtain ⟨h9, rfl⟩ := hp
  cases h9
  refine W.eq (g2 := F0 m 15 ls [.int (1 : Int32), .ref m0]) rfl ?_
  refine W.widen (k := 0) (n := 0) (by decide) (by decide) ?_
  have hP : va_P D kl [(rw, .inl (cI, 32, .inl wf)), (m0, .inr (7, [.int th, .int (3 : Int32), .int (0 : Int32), .ref rw, .int (0 : Int32), .int (0 : Int32), .int (0 : Int32), .ref ry, .int (0 : Int32), .int (0 : Int32), .ref ti, .int (0 : Int32), .int (0 : Int32), .ref po, .ref su, .ref sq, .ref ch, .ref vt, .ref sh])), (vt, .inl (cI, 4, .inl (upd (upd (upd (upd vf 0 a) 1 b) 2 c2) 3 (0 : Int32))))] H := hP
  have hD : va_D A [(rw, .inl (cI, 32, .inl wf)), (m0, .inr (7, [.int th, .int (3 : Int32), .int (0 : Int32), .ref rw, .int (0 : Int32), .int (0 : Int32), .int (0 : Int32), .ref ry, .int (0 : Int32), .int (0 : Int32), .ref ti, .int (0 : Int32), .int (0 : Int32), .ref po, .ref su, .ref sq, .ref ch, .ref vt, .ref sh])), (vt, .inl (cI, 4, .inl (upd (upd (upd (upd vf 0 a) 1 b) 2 c2) 3 (0 : Int32))))] := hD
  refine lv_if_eq (tgt := 25) hx hb d_M_add_15 (by decide) (fun h99 => absurd h99 (by decide)) (fun _ => ?_)
  refine lv_aload_n hx hb d_M_add_18 rfl (lv_at hl 0 rfl) ?_
  refine cx_call (D := D) (cl := kl) (ws := _) (wc := [(m0, .inr (7, [.int th, .int (3 : Int32), .int (0 : Int32), .ref rw, .int (0 : Int32), .int (0 : Int32), .int (0 : Int32), .ref ry, .int (0 : Int32), .int (0 : Int32), .ref ti, .int (0 : Int32), .int (0 : Int32), .ref po, .ref su, .ref sq, .ref ch, .ref vt, .ref sh])), (vt, .inl (cI, 4, .inl (upd (upd (upd (upd vf 0 a) 1 b) 2 c2) 3 (0 : Int32))))]) (wr := [(rw, .inl (cI, 32, .inl wf))]) (tx_runV (C := cn_M) (b := m0) (As := []) (rest := [.ref m0]) hx hb hml hown (c_M_nothing_n E H.size m0 rw ry ti po su sq ch vt sh th (3 : Int32) (upd (upd (upd (upd vf 0 a) 1 b) 2 c2) 3 (0 : Int32)) h2) (cx_C (b0 := b0) G hx0 mw_794 mw_9 ny_M_nothing (by decide)) (gw.at G hx0 mw_791 rfl _) (gw.at G hx0 mw_793 rfl _) (gw.at G hx0 ms_M_nothing rfl _) ⟨cx_blind, va_recv hK hP (q0 := 1) (ci := 7) (q := (cn_M, ft_M, 19)) rfl rfl, (cx_pre (s := s) hx0 hP hD hS hA0 [1, 2] rfl rfl (by decide))⟩ rfl rfl hl.1 rfl (lv_room (Nat.le_of_ble_eq_true rfl)) d_M_add_19 ⟨by decide, by decide⟩) hP hD hS hA [1, 2] [0] rfl rfl (by decide) (by decide) (fun v t w1 H locs ht hW9 hp hP hD hS => ?_) (fun x t w1 H locs ht hW9 hp hP hD hS => by obtain ⟨h9, -⟩ := hp; cases h9)
  obtain ⟨h9, rfl⟩ := hp
  cases h9
  refine W.eq (g2 := F0 m 22 ls [.int (0 : Int32), .ref m0]) rfl ?_
  refine W.widen (k := 0) (n := 0) (by decide) (by decide) ?_
  have hP : va_P D kl [(rw, .inl (cI, 32, .inl wf)), (m0, .inr (7, [.int th, .int (3 : Int32), .int (0 : Int32), .ref rw, .int (0 : Int32), .int (0 : Int32), .int (0 : Int32), .ref ry, .int (0 : Int32), .int (0 : Int32), .ref ti, .int (0 : Int32), .int (0 : Int32), .ref po, .ref su, .ref sq, .ref ch, .ref vt, .ref sh])), (vt, .inl (cI, 4, .inl (upd (upd (upd (upd vf 0 a) 1 b) 2 c2) 3 (0 : Int32))))] H := hP
  have hD : va_D A [(rw, .inl (cI, 32, .inl wf)), (m0, .inr (7, [.int th, .int (3 : Int32), .int (0 : Int32), .ref rw, .int (0 : Int32), .int (0 : Int32), .int (0 : Int32), .ref ry, .int (0 : Int32), .int (0 : Int32), .ref ti, .int (0 : Int32), .int (0 : Int32), .ref po, .ref su, .ref sq, .ref ch, .ref vt, .ref sh])), (vt, .inl (cI, 4, .inl (upd (upd (upd (upd vf 0 a) 1 b) 2 c2) 3 (0 : Int32))))] := hD
  refine lv_if_eq (tgt := 29) hx hb d_M_add_22 (by decide) (fun _ => ?_) (fun h99 => absurd h99 (by decide))
  refine lv_aload_n hx hb d_M_add_29 rfl (lv_at hl 0 rfl) ?_
  refine va_get (D := D) (ci := 7) (v := .int (0 : Int32)) (C := cn_M) (T := ft_M) (N := 19) hx hb hf_M (fun _ h => h) hown hK hP 1 rfl rfl 2 (by decide) (gw.at G hx0 mw_715 rfl _) (fun _ h9 => h9) rfl d_M_add_30 ?_
  refine lv_bipush (v := (8 : Int32)) hx hb d_M_add_33 (by decide) ?_
  refine lv_icmp_ne (tgt := 42) hx hb d_M_add_35 (by decide) (fun _ => ?_) (fun h99 => absurd h99 (by decide))
  refine lv_iconst (v := (0 : Int32)) hx hb d_M_add_42 (by decide) ?_
  refine va_put (D := D) (ci := 7) (v := .int (0 : Int32)) (ty := .int) (C := cn_M) (T := ft_M) (N := 19) hx hb hf_M (fun _ h => h) fy_M fk_M fn_M hown hK hP hD hS 1 rfl rfl 0 (by decide) (gw.at G hx0 mw_713 rfl _) (fun _ h9 => h9) rfl (by decide +kernel) rfl rfl (Nat.le_of_ble_eq_true rfl) d_M_add_43 (fun H locs hP hD hS => ?_)
  have hP : va_P D kl [(rw, .inl (cI, 32, .inl wf)), (m0, .inr (7, [.int (0 : Int32), .int (3 : Int32), .int (0 : Int32), .ref rw, .int (0 : Int32), .int (0 : Int32), .int (0 : Int32), .ref ry, .int (0 : Int32), .int (0 : Int32), .ref ti, .int (0 : Int32), .int (0 : Int32), .ref po, .ref su, .ref sq, .ref ch, .ref vt, .ref sh])), (vt, .inl (cI, 4, .inl (upd (upd (upd (upd vf 0 a) 1 b) 2 c2) 3 (0 : Int32))))] H := hP
  have hD : va_D A [(rw, .inl (cI, 32, .inl wf)), (m0, .inr (7, [.int (0 : Int32), .int (3 : Int32), .int (0 : Int32), .ref rw, .int (0 : Int32), .int (0 : Int32), .int (0 : Int32), .ref ry, .int (0 : Int32), .int (0 : Int32), .ref ti, .int (0 : Int32), .int (0 : Int32), .ref po, .ref su, .ref sq, .ref ch, .ref vt, .ref sh])), (vt, .inl (cI, 4, .inl (upd (upd (upd (upd vf 0 a) 1 b) 2 c2) 3 (0 : Int32))))] := hD
  refine lv_aload_n hx hb d_M_add_46 rfl (lv_at hl 0 rfl) ?_
  refine va_get (D := D) (ci := 7) (v := .int (0 : Int32)) (C := cn_M) (T := ft_M) (N := 19) hx hb hf_M (fun _ h => h) hown hK hP 1 rfl rfl 0 (by decide) (gw.at G hx0 mw_713 rfl _) (fun _ h9 => h9) rfl d_M_add_47 ?_
  refine lv_if_le (tgt := 55) hx hb d_M_add_50 (by decide) (fun _ => ?_) (fun h99 => absurd h99 (by decide))
  refine lv_iconst (v := (0 : Int32)) hx hb d_M_add_55 (by decide) ?_
  refine lv_istore (lv' := [(5, .int (0 : Int32)), (0, .ref m0), (1, .int a), (2, .int b), (3, .int c2), (4, .int d2)]) hx hb d_M_add_56 hl (by decide) rfl (fun ls hl => ?_)
  refine lv_iload hx hb d_M_add_58 (lv_at hl 0 rfl) ?_
  refine lv_iconst (v := (4 : Int32)) hx hb d_M_add_60 (by decide) ?_
  refine lv_icmp_ge (tgt := 91) hx hb d_M_add_61 (by decide) (fun h99 => absurd h99 (by decide)) (fun _ => ?_)
  refine lv_aload_n hx hb d_M_add_64 rfl (lv_at hl 1 rfl) ?_
  refine va_get (D := D) (ci := 7) (v := .ref rw) (C := cn_M) (T := ft_M) (N := 19) hx hb hf_M (fun _ h => h) hown hK hP 1 rfl rfl 3 (by decide) (gw.at G hx0 mw_716 rfl _) (fun _ h9 => h9) rfl d_M_add_65 ?_
  refine lv_iconst (v := (4 : Int32)) hx hb d_M_add_68 (by decide) ?_
  refine lv_aload_n hx hb d_M_add_69 rfl (lv_at hl 1 rfl) ?_
  refine va_get (D := D) (ci := 7) (v := .int (0 : Int32)) (C := cn_M) (T := ft_M) (N := 19) hx hb hf_M (fun _ h => h) hown hK hP 1 rfl rfl 2 (by decide) (gw.at G hx0 mw_715 rfl _) (fun _ h9 => h9) rfl d_M_add_70 ?_
  refine lv_imul hx hb d_M_add_73 ?_
  refine tp_i (y := (0 : Int32)) (by decide) ?_
  refine lv_iload hx hb d_M_add_74 (lv_at hl 0 rfl) ?_
  refine lv_iadd hx hb d_M_add_76 ?_
  refine tp_i (y := (0 : Int32)) (by decide) ?_
  refine lv_aload_n hx hb d_M_add_77 rfl (lv_at hl 1 rfl) ?_
  refine va_get (D := D) (ci := 7) (v := .ref vt) (C := cn_M) (T := ft_M) (N := 19) hx hb hf_M (fun _ h => h) hown hK hP 1 rfl rfl 17 (by decide) (gw.at G hx0 mw_730 rfl _) (fun _ h9 => h9) rfl d_M_add_78 ?_
  refine lv_iload hx hb d_M_add_81 (lv_at hl 0 rfl) ?_
  refine va_iald hx hb hK hP 2 0 rfl rfl (vp_in_iff.mpr (by decide)) d_M_add_83 ?_
  refine tp_i (y := (upd (upd (upd (upd vf 0 a) 1 b) 2 c2) 3 (0 : Int32)) 0) (by rfl) ?_
  refine va_iast hx hb hK hP hD hS 0 0 rfl rfl (vp_in_iff.mpr (by decide)) d_M_add_84 (fun H locs hP hD hS => ?_)
  have hP : va_P D kl [(rw, .inl (cI, 32, .inl (upd wf 0 ((upd (upd (upd (upd vf 0 a) 1 b) 2 c2) 3 (0 : Int32)) 0)))), (m0, .inr (7, [.int (0 : Int32), .int (3 : Int32), .int (0 : Int32), .ref rw, .int (0 : Int32), .int (0 : Int32), .int (0 : Int32), .ref ry, .int (0 : Int32), .int (0 : Int32), .ref ti, .int (0 : Int32), .int (0 : Int32), .ref po, .ref su, .ref sq, .ref ch, .ref vt, .ref sh])), (vt, .inl (cI, 4, .inl (upd (upd (upd (upd vf 0 a) 1 b) 2 c2) 3 (0 : Int32))))] H := hP
  have hD : va_D A [(rw, .inl (cI, 32, .inl (upd wf 0 ((upd (upd (upd (upd vf 0 a) 1 b) 2 c2) 3 (0 : Int32)) 0)))), (m0, .inr (7, [.int (0 : Int32), .int (3 : Int32), .int (0 : Int32), .ref rw, .int (0 : Int32), .int (0 : Int32), .int (0 : Int32), .ref ry, .int (0 : Int32), .int (0 : Int32), .ref ti, .int (0 : Int32), .int (0 : Int32), .ref po, .ref su, .ref sq, .ref ch, .ref vt, .ref sh])), (vt, .inl (cI, 4, .inl (upd (upd (upd (upd vf 0 a) 1 b) 2 c2) 3 (0 : Int32))))] := hD
  refine lv_iinc (lv' := [(5, .int (1 : Int32)), (0, .ref m0), (1, .int a), (2, .int b), (3, .int c2), (4, .int d2)]) (k := 0) (v := (1 : Int32)) hx hb d_M_add_85 hl rfl (by decide) (by decide) rfl (fun ls hl => ?_)
  refine lv_goto (tgt := 58) hx hb d_M_add_88 (by decide) ?_
  refine lv_iload hx hb d_M_add_58 (lv_at hl 0 rfl) ?_
  refine lv_iconst (v := (4 : Int32)) hx hb d_M_add_60 (by decide) ?_
  refine lv_icmp_ge (tgt := 91) hx hb d_M_add_61 (by decide) (fun h99 => absurd h99 (by decide)) (fun _ => ?_)
  refine lv_aload_n hx hb d_M_add_64 rfl (lv_at hl 1 rfl) ?_
  refine va_get (D := D) (ci := 7) (v := .ref rw) (C := cn_M) (T := ft_M) (N := 19) hx hb hf_M (fun _ h => h) hown hK hP 1 rfl rfl 3 (by decide) (gw.at G hx0 mw_716 rfl _) (fun _ h9 => h9) rfl d_M_add_65 ?_
  refine lv_iconst (v := (4 : Int32)) hx hb d_M_add_68 (by decide) ?_
  refine lv_aload_n hx hb d_M_add_69 rfl (lv_at hl 1 rfl) ?_
  refine va_get (D := D) (ci := 7) (v := .int (0 : Int32)) (C := cn_M) (T := ft_M) (N := 19) hx hb hf_M (fun _ h => h) hown hK hP 1 rfl rfl 2 (by decide) (gw.at G hx0 mw_715 rfl _) (fun _ h9 => h9) rfl d_M_add_70 ?_
  refine lv_imul hx hb d_M_add_73 ?_
  refine tp_i (y := (0 : Int32)) (by decide) ?_
  refine lv_iload hx hb d_M_add_74 (lv_at hl 0 rfl) ?_
  refine lv_iadd hx hb d_M_add_76 ?_
  refine tp_i (y := (1 : Int32)) (by decide) ?_
  refine lv_aload_n hx hb d_M_add_77 rfl (lv_at hl 1 rfl) ?_
  refine va_get (D := D) (ci := 7) (v := .ref vt) (C := cn_M) (T := ft_M) (N := 19) hx hb hf_M (fun _ h => h) hown hK hP 1 rfl rfl 17 (by decide) (gw.at G hx0 mw_730 rfl _) (fun _ h9 => h9) rfl d_M_add_78 ?_
  refine lv_iload hx hb d_M_add_81 (lv_at hl 0 rfl) ?_
  refine va_iald hx hb hK hP 2 0 rfl rfl (vp_in_iff.mpr (by decide)) d_M_add_83 ?_
  refine tp_i (y := (upd (upd (upd (upd vf 0 a) 1 b) 2 c2) 3 (0 : Int32)) 1) (by rfl) ?_
  refine va_iast hx hb hK hP hD hS 0 0 rfl rfl (vp_in_iff.mpr (by decide)) d_M_add_84 (fun H locs hP hD hS => ?_)
  have hP : va_P D kl [(rw, .inl (cI, 32, .inl (upd (upd wf 0 ((upd (upd (upd (upd vf 0 a) 1 b) 2 c2) 3 (0 : Int32)) 0)) 1 ((upd (upd (upd (upd vf 0 a) 1 b) 2 c2) 3 (0 : Int32)) 1)))), (m0, .inr (7, [.int (0 : Int32), .int (3 : Int32), .int (0 : Int32), .ref rw, .int (0 : Int32), .int (0 : Int32), .int (0 : Int32), .ref ry, .int (0 : Int32), .int (0 : Int32), .ref ti, .int (0 : Int32), .int (0 : Int32), .ref po, .ref su, .ref sq, .ref ch, .ref vt, .ref sh])), (vt, .inl (cI, 4, .inl (upd (upd (upd (upd vf 0 a) 1 b) 2 c2) 3 (0 : Int32))))] H := hP
  have hD : va_D A [(rw, .inl (cI, 32, .inl (upd (upd wf 0 ((upd (upd (upd (upd vf 0 a) 1 b) 2 c2) 3 (0 : Int32)) 0)) 1 ((upd (upd (upd (upd vf 0 a) 1 b) 2 c2) 3 (0 : Int32)) 1)))), (m0, .inr (7, [.int (0 : Int32), .int (3 : Int32), .int (0 : Int32), .ref rw, .int (0 : Int32), .int (0 : Int32), .int (0 : Int32), .ref ry, .int (0 : Int32), .int (0 : Int32), .ref ti, .int (0 : Int32), .int (0 : Int32), .ref po, .ref su, .ref sq, .ref ch, .ref vt, .ref sh])), (vt, .inl (cI, 4, .inl (upd (upd (upd (upd vf 0 a) 1 b) 2 c2) 3 (0 : Int32))))] := hD
  refine lv_iinc (lv' := [(5, .int (2 : Int32)), (0, .ref m0), (1, .int a), (2, .int b), (3, .int c2), (4, .int d2)]) (k := 0) (v := (2 : Int32)) hx hb d_M_add_85 hl rfl (by decide) (by decide) rfl (fun ls hl => ?_)
  refine lv_goto (tgt := 58) hx hb d_M_add_88 (by decide) ?_
  refine lv_iload hx hb d_M_add_58 (lv_at hl 0 rfl) ?_
  refine lv_iconst (v := (4 : Int32)) hx hb d_M_add_60 (by decide) ?_
  refine lv_icmp_ge (tgt := 91) hx hb d_M_add_61 (by decide) (fun h99 => absurd h99 (by decide)) (fun _ => ?_)
  refine lv_aload_n hx hb d_M_add_64 rfl (lv_at hl 1 rfl) ?_
  refine va_get (D := D) (ci := 7) (v := .ref rw) (C := cn_M) (T := ft_M) (N := 19) hx hb hf_M (fun _ h => h) hown hK hP 1 rfl rfl 3 (by decide) (gw.at G hx0 mw_716 rfl _) (fun _ h9 => h9) rfl d_M_add_65 ?_
  refine lv_iconst (v := (4 : Int32)) hx hb d_M_add_68 (by decide) ?_
  refine lv_aload_n hx hb d_M_add_69 rfl (lv_at hl 1 rfl) ?_
  refine va_get (D := D) (ci := 7) (v := .int (0 : Int32)) (C := cn_M) (T := ft_M) (N := 19) hx hb hf_M (fun _ h => h) hown hK hP 1 rfl rfl 2 (by decide) (gw.at G hx0 mw_715 rfl _) (fun _ h9 => h9) rfl d_M_add_70 ?_
  refine lv_imul hx hb d_M_add_73 ?_
  refine tp_i (y := (0 : Int32)) (by decide) ?_
  refine lv_iload hx hb d_M_add_74 (lv_at hl 0 rfl) ?_
  refine lv_iadd hx hb d_M_add_76 ?_
  refine tp_i (y := (2 : Int32)) (by decide) ?_
  refine lv_aload_n hx hb d_M_add_77 rfl (lv_at hl 1 rfl) ?_
  refine va_get (D := D) (ci := 7) (v := .ref vt) (C := cn_M) (T := ft_M) (N := 19) hx hb hf_M (fun _ h => h) hown hK hP 1 rfl rfl 17 (by decide) (gw.at G hx0 mw_730 rfl _) (fun _ h9 => h9) rfl d_M_add_78 ?_
  refine lv_iload hx hb d_M_add_81 (lv_at hl 0 rfl) ?_
  refine va_iald hx hb hK hP 2 0 rfl rfl (vp_in_iff.mpr (by decide)) d_M_add_83 ?_
  refine tp_i (y := (upd (upd (upd (upd vf 0 a) 1 b) 2 c2) 3 (0 : Int32)) 2) (by rfl) ?_
  refine va_iast hx hb hK hP hD hS 0 0 rfl rfl (vp_in_iff.mpr (by decide)) d_M_add_84 (fun H locs hP hD hS => ?_)
  have hP : va_P D kl [(rw, .inl (cI, 32, .inl (upd (upd (upd wf 0 ((upd (upd (upd (upd vf 0 a) 1 b) 2 c2) 3 (0 : Int32)) 0)) 1 ((upd (upd (upd (upd vf 0 a) 1 b) 2 c2) 3 (0 : Int32)) 1)) 2 ((upd (upd (upd (upd vf 0 a) 1 b) 2 c2) 3 (0 : Int32)) 2)))), (m0, .inr (7, [.int (0 : Int32), .int (3 : Int32), .int (0 : Int32), .ref rw, .int (0 : Int32), .int (0 : Int32), .int (0 : Int32), .ref ry, .int (0 : Int32), .int (0 : Int32), .ref ti, .int (0 : Int32), .int (0 : Int32), .ref po, .ref su, .ref sq, .ref ch, .ref vt, .ref sh])), (vt, .inl (cI, 4, .inl (upd (upd (upd (upd vf 0 a) 1 b) 2 c2) 3 (0 : Int32))))] H := hP
  have hD : va_D A [(rw, .inl (cI, 32, .inl (upd (upd (upd wf 0 ((upd (upd (upd (upd vf 0 a) 1 b) 2 c2) 3 (0 : Int32)) 0)) 1 ((upd (upd (upd (upd vf 0 a) 1 b) 2 c2) 3 (0 : Int32)) 1)) 2 ((upd (upd (upd (upd vf 0 a) 1 b) 2 c2) 3 (0 : Int32)) 2)))), (m0, .inr (7, [.int (0 : Int32), .int (3 : Int32), .int (0 : Int32), .ref rw, .int (0 : Int32), .int (0 : Int32), .int (0 : Int32), .ref ry, .int (0 : Int32), .int (0 : Int32), .ref ti, .int (0 : Int32), .int (0 : Int32), .ref po, .ref su, .ref sq, .ref ch, .ref vt, .ref sh])), (vt, .inl (cI, 4, .inl (upd (upd (upd (upd vf 0 a) 1 b) 2 c2) 3 (0 : Int32))))] := hD
  refine lv_iinc (lv' := [(5, .int (3 : Int32)), (0, .ref m0), (1, .int a), (2, .int b), (3, .int c2), (4, .int d2)]) (k := 0) (v := (3 : Int32)) hx hb d_M_add_85 hl rfl (by decide) (by decide) rfl (fun ls hl => ?_)
  refine lv_goto (tgt := 58) hx hb d_M_add_88 (by decide) ?_
  refine lv_iload hx hb d_M_add_58 (lv_at hl 0 rfl) ?_
  refine lv_iconst (v := (4 : Int32)) hx hb d_M_add_60 (by decide) ?_
  refine lv_icmp_ge (tgt := 91) hx hb d_M_add_61 (by decide) (fun h99 => absurd h99 (by decide)) (fun _ => ?_)
  refine lv_aload_n hx hb d_M_add_64 rfl (lv_at hl 1 rfl) ?_
  refine va_get (D := D) (ci := 7) (v := .ref rw) (C := cn_M) (T := ft_M) (N := 19) hx hb hf_M (fun _ h => h) hown hK hP 1 rfl rfl 3 (by decide) (gw.at G hx0 mw_716 rfl _) (fun _ h9 => h9) rfl d_M_add_65 ?_
  refine lv_iconst (v := (4 : Int32)) hx hb d_M_add_68 (by decide) ?_
  refine lv_aload_n hx hb d_M_add_69 rfl (lv_at hl 1 rfl) ?_
  refine va_get (D := D) (ci := 7) (v := .int (0 : Int32)) (C := cn_M) (T := ft_M) (N := 19) hx hb hf_M (fun _ h => h) hown hK hP 1 rfl rfl 2 (by decide) (gw.at G hx0 mw_715 rfl _) (fun _ h9 => h9) rfl d_M_add_70 ?_
  refine lv_imul hx hb d_M_add_73 ?_
  refine tp_i (y := (0 : Int32)) (by decide) ?_
  refine lv_iload hx hb d_M_add_74 (lv_at hl 0 rfl) ?_
  refine lv_iadd hx hb d_M_add_76 ?_
  refine tp_i (y := (3 : Int32)) (by decide) ?_
  refine lv_aload_n hx hb d_M_add_77 rfl (lv_at hl 1 rfl) ?_
  refine va_get (D := D) (ci := 7) (v := .ref vt) (C := cn_M) (T := ft_M) (N := 19) hx hb hf_M (fun _ h => h) hown hK hP 1 rfl rfl 17 (by decide) (gw.at G hx0 mw_730 rfl _) (fun _ h9 => h9) rfl d_M_add_78 ?_
  refine lv_iload hx hb d_M_add_81 (lv_at hl 0 rfl) ?_
  refine va_iald hx hb hK hP 2 0 rfl rfl (vp_in_iff.mpr (by decide)) d_M_add_83 ?_
  refine tp_i (y := (upd (upd (upd (upd vf 0 a) 1 b) 2 c2) 3 (0 : Int32)) 3) (by rfl) ?_
  refine va_iast hx hb hK hP hD hS 0 0 rfl rfl (vp_in_iff.mpr (by decide)) d_M_add_84 (fun H locs hP hD hS => ?_)
  have hP : va_P D kl [(rw, .inl (cI, 32, .inl (upd (upd (upd (upd wf 0 ((upd (upd (upd (upd vf 0 a) 1 b) 2 c2) 3 (0 : Int32)) 0)) 1 ((upd (upd (upd (upd vf 0 a) 1 b) 2 c2) 3 (0 : Int32)) 1)) 2 ((upd (upd (upd (upd vf 0 a) 1 b) 2 c2) 3 (0 : Int32)) 2)) 3 ((upd (upd (upd (upd vf 0 a) 1 b) 2 c2) 3 (0 : Int32)) 3)))), (m0, .inr (7, [.int (0 : Int32), .int (3 : Int32), .int (0 : Int32), .ref rw, .int (0 : Int32), .int (0 : Int32), .int (0 : Int32), .ref ry, .int (0 : Int32), .int (0 : Int32), .ref ti, .int (0 : Int32), .int (0 : Int32), .ref po, .ref su, .ref sq, .ref ch, .ref vt, .ref sh])), (vt, .inl (cI, 4, .inl (upd (upd (upd (upd vf 0 a) 1 b) 2 c2) 3 (0 : Int32))))] H := hP
  have hD : va_D A [(rw, .inl (cI, 32, .inl (upd (upd (upd (upd wf 0 ((upd (upd (upd (upd vf 0 a) 1 b) 2 c2) 3 (0 : Int32)) 0)) 1 ((upd (upd (upd (upd vf 0 a) 1 b) 2 c2) 3 (0 : Int32)) 1)) 2 ((upd (upd (upd (upd vf 0 a) 1 b) 2 c2) 3 (0 : Int32)) 2)) 3 ((upd (upd (upd (upd vf 0 a) 1 b) 2 c2) 3 (0 : Int32)) 3)))), (m0, .inr (7, [.int (0 : Int32), .int (3 : Int32), .int (0 : Int32), .ref rw, .int (0 : Int32), .int (0 : Int32), .int (0 : Int32), .ref ry, .int (0 : Int32), .int (0 : Int32), .ref ti, .int (0 : Int32), .int (0 : Int32), .ref po, .ref su, .ref sq, .ref ch, .ref vt, .ref sh])), (vt, .inl (cI, 4, .inl (upd (upd (upd (upd vf 0 a) 1 b) 2 c2) 3 (0 : Int32))))] := hD
  refine lv_iinc (lv' := [(5, .int (4 : Int32)), (0, .ref m0), (1, .int a), (2, .int b), (3, .int c2), (4, .int d2)]) (k := 0) (v := (4 : Int32)) hx hb d_M_add_85 hl rfl (by decide) (by decide) rfl (fun ls hl => ?_)
  refine lv_goto (tgt := 58) hx hb d_M_add_88 (by decide) ?_
  refine lv_iload hx hb d_M_add_58 (lv_at hl 0 rfl) ?_
  refine lv_iconst (v := (4 : Int32)) hx hb d_M_add_60 (by decide) ?_
  refine lv_icmp_ge (tgt := 91) hx hb d_M_add_61 (by decide) (fun _ => ?_) (fun h99 => absurd h99 (by decide))
  refine lv_aload_n hx hb d_M_add_91 rfl (lv_at hl 1 rfl) ?_
  refine lv_dup hx hb d_M_add_92 rfl ?_
  refine va_get (D := D) (ci := 7) (v := .int (0 : Int32)) (C := cn_M) (T := ft_M) (N := 19) hx hb hf_M (fun _ h => h) hown hK hP 1 rfl rfl 2 (by decide) (gw.at G hx0 mw_715 rfl _) (fun _ h9 => h9) rfl d_M_add_93 ?_
  refine lv_iconst (v := (1 : Int32)) hx hb d_M_add_96 (by decide) ?_
  refine lv_iadd hx hb d_M_add_97 ?_
  refine tp_i (y := (1 : Int32)) (by decide) ?_
  refine va_put (D := D) (ci := 7) (v := .int (1 : Int32)) (ty := .int) (C := cn_M) (T := ft_M) (N := 19) hx hb hf_M (fun _ h => h) fy_M fk_M fn_M hown hK hP hD hS 1 rfl rfl 2 (by decide) (gw.at G hx0 mw_715 rfl _) (fun _ h9 => h9) rfl (by decide +kernel) rfl rfl (Nat.le_of_ble_eq_true rfl) d_M_add_98 (fun H locs hP hD hS => ?_)
  have hP : va_P D kl [(rw, .inl (cI, 32, .inl (upd (upd (upd (upd wf 0 ((upd (upd (upd (upd vf 0 a) 1 b) 2 c2) 3 (0 : Int32)) 0)) 1 ((upd (upd (upd (upd vf 0 a) 1 b) 2 c2) 3 (0 : Int32)) 1)) 2 ((upd (upd (upd (upd vf 0 a) 1 b) 2 c2) 3 (0 : Int32)) 2)) 3 ((upd (upd (upd (upd vf 0 a) 1 b) 2 c2) 3 (0 : Int32)) 3)))), (m0, .inr (7, [.int (0 : Int32), .int (3 : Int32), .int (1 : Int32), .ref rw, .int (0 : Int32), .int (0 : Int32), .int (0 : Int32), .ref ry, .int (0 : Int32), .int (0 : Int32), .ref ti, .int (0 : Int32), .int (0 : Int32), .ref po, .ref su, .ref sq, .ref ch, .ref vt, .ref sh])), (vt, .inl (cI, 4, .inl (upd (upd (upd (upd vf 0 a) 1 b) 2 c2) 3 (0 : Int32))))] H := hP
  have hD : va_D A [(rw, .inl (cI, 32, .inl (upd (upd (upd (upd wf 0 ((upd (upd (upd (upd vf 0 a) 1 b) 2 c2) 3 (0 : Int32)) 0)) 1 ((upd (upd (upd (upd vf 0 a) 1 b) 2 c2) 3 (0 : Int32)) 1)) 2 ((upd (upd (upd (upd vf 0 a) 1 b) 2 c2) 3 (0 : Int32)) 2)) 3 ((upd (upd (upd (upd vf 0 a) 1 b) 2 c2) 3 (0 : Int32)) 3)))), (m0, .inr (7, [.int (0 : Int32), .int (3 : Int32), .int (1 : Int32), .ref rw, .int (0 : Int32), .int (0 : Int32), .int (0 : Int32), .ref ry, .int (0 : Int32), .int (0 : Int32), .ref ti, .int (0 : Int32), .int (0 : Int32), .ref po, .ref su, .ref sq, .ref ch, .ref vt, .ref sh])), (vt, .inl (cI, 4, .inl (upd (upd (upd (upd vf 0 a) 1 b) 2 c2) 3 (0 : Int32))))] := hD
  refine lv_aload_n hx hb d_M_add_101 rfl (lv_at hl 1 rfl) ?_
  refine lv_iconst (v := (0 : Int32)) hx hb d_M_add_102 (by decide) ?_
  refine va_put (D := D) (ci := 7) (v := .int (0 : Int32)) (ty := .boolean) (C := cn_M) (T := ft_M) (N := 19) hx hb hf_M (fun _ h => h) fy_M fk_M fn_M hown hK hP hD hS 1 rfl rfl 4 (by decide) (gw.at G hx0 mw_717 rfl _) (fun _ h9 => h9) rfl (by decide +kernel) rfl rfl (Nat.le_of_ble_eq_true rfl) d_M_add_103 (fun H locs hP hD hS => ?_)
  have hP : va_P D kl [(rw, .inl (cI, 32, .inl (upd (upd (upd (upd wf 0 ((upd (upd (upd (upd vf 0 a) 1 b) 2 c2) 3 (0 : Int32)) 0)) 1 ((upd (upd (upd (upd vf 0 a) 1 b) 2 c2) 3 (0 : Int32)) 1)) 2 ((upd (upd (upd (upd vf 0 a) 1 b) 2 c2) 3 (0 : Int32)) 2)) 3 ((upd (upd (upd (upd vf 0 a) 1 b) 2 c2) 3 (0 : Int32)) 3)))), (m0, .inr (7, [.int (0 : Int32), .int (3 : Int32), .int (1 : Int32), .ref rw, .int (0 : Int32), .int (0 : Int32), .int (0 : Int32), .ref ry, .int (0 : Int32), .int (0 : Int32), .ref ti, .int (0 : Int32), .int (0 : Int32), .ref po, .ref su, .ref sq, .ref ch, .ref vt, .ref sh])), (vt, .inl (cI, 4, .inl (upd (upd (upd (upd vf 0 a) 1 b) 2 c2) 3 (0 : Int32))))] H := hP
  have hD : va_D A [(rw, .inl (cI, 32, .inl (upd (upd (upd (upd wf 0 ((upd (upd (upd (upd vf 0 a) 1 b) 2 c2) 3 (0 : Int32)) 0)) 1 ((upd (upd (upd (upd vf 0 a) 1 b) 2 c2) 3 (0 : Int32)) 1)) 2 ((upd (upd (upd (upd vf 0 a) 1 b) 2 c2) 3 (0 : Int32)) 2)) 3 ((upd (upd (upd (upd vf 0 a) 1 b) 2 c2) 3 (0 : Int32)) 3)))), (m0, .inr (7, [.int (0 : Int32), .int (3 : Int32), .int (1 : Int32), .ref rw, .int (0 : Int32), .int (0 : Int32), .int (0 : Int32), .ref ry, .int (0 : Int32), .int (0 : Int32), .ref ti, .int (0 : Int32), .int (0 : Int32), .ref po, .ref su, .ref sq, .ref ch, .ref vt, .ref sh])), (vt, .inl (cI, 4, .inl (upd (upd (upd (upd vf 0 a) 1 b) 2 c2) 3 (0 : Int32))))] := hD
  refine lv_aload_n hx hb d_M_add_106 rfl (lv_at hl 1 rfl) ?_
  refine va_get (D := D) (ci := 7) (v := .int (1 : Int32)) (C := cn_M) (T := ft_M) (N := 19) hx hb hf_M (fun _ h => h) hown hK hP 1 rfl rfl 2 (by decide) (gw.at G hx0 mw_715 rfl _) (fun _ h9 => h9) rfl d_M_add_107 ?_
  refine lv_iconst (v := (1 : Int32)) hx hb d_M_add_110 (by decide) ?_
  refine lv_isub hx hb d_M_add_111 ?_
  refine tp_i (y := (0 : Int32)) (by decide) ?_
  exact tx_mono (fun _ h => tx_Z.of h) (W.iret (v := (0 : Int32)) hx hb hr (fun t ht hW => ⟨⟨[(m0, .inr (7, [.int (0 : Int32), .int (3 : Int32), .int (1 : Int32), .ref rw, .int (0 : Int32), .int (0 : Int32), .int (0 : Int32), .ref ry, .int (0 : Int32), .int (0 : Int32), .ref ti, .int (0 : Int32), .int (0 : Int32), .ref po, .ref su, .ref sq, .ref ch, .ref vt, .ref sh]))], ⟨rfl, rfl⟩, by rw [ht]; exact hP.sub [1] rfl, hD.sub [1] (by decide) rfl⟩, hS.F ht⟩) hS.2.2 d_M_add_112)

set_option maxHeartbeats 4000000 in
set_option maxRecDepth 100000 in
theorem c_M_holdsAt4 {l : Launch} {s0 : State} {b0 : Addr} {D : va_G} {cI cJ cZ : ClassId} {tC tS : Nat} (E : gE l s0 b0 D cI cJ cZ tC tS) (sz : Nat) (m0 : Nat) (rw : Nat) (ry : Nat) (ti : Nat) (po : Nat) (su : Nat) (sq : Nat) (ch : Nat) (vt : Nat) (sh : Nat) (y : Nat) : cx_M l s0 D kl y_M_holdsAt b_M_holdsAt 5 (some .boolean) ({ frames := 0, cells := 0, slots := 0, locals := 0 } : Room) 0 0 [.ref m0, .ref y, .int (0 : Int32)] [(m0, .inr (7, [.int (0 : Int32), .int (4 : Int32), .int (0 : Int32), .ref rw, .int (0 : Int32), .int (0 : Int32), .int (0 : Int32), .ref ry, .int (0 : Int32), .int (0 : Int32), .ref ti, .int (0 : Int32), .int (0 : Int32), .ref po, .ref su, .ref sq, .ref ch, .ref vt, .ref sh]))] sz (fun o9 _ w9 => o9 = .returned (some (.int (1 : Int32))) ∧ w9 = [(m0, .inr (7, [.int (0 : Int32), .int (4 : Int32), .int (0 : Int32), .ref rw, .int (0 : Int32), .int (0 : Int32), .int (0 : Int32), .ref ry, .int (0 : Int32), .int (0 : Int32), .ref ti, .int (0 : Int32), .int (0 : Int32), .ref po, .ref su, .ref sq, .ref ch, .ref vt, .ref sh]))]) := by
  refine tx_ofW (cc := b_M_holdsAt) (maxL := 5) (ret := (some .boolean)) (by decide) rfl ?_
  intro p e s m args below meth c s₁ B hml hT hv
  obtain ⟨rfl, hsz, hP, hD0, hx0⟩ := hv
  have hx := B.exec
  have hb := B.bytes
  have hr := B.returns
  have G := E.2.1
  have hown : s.vm.findClass cn_M = some m.cls := findClass_of_methodNamed B.named
  have hlocks := B.notSynchronized
  have hK := va_K.moved hx0.1.alike E.2.2.1
  have hf_M : ∀ w99 ∈ u_ws cn_M ft_M 19, w99.before ([.ref m0, .ref y, .int (0 : Int32)] : List Value).toArray s = true := fun w99 h99 => gw.at G hx0 (fw_M w99 h99) (fo_M w99 h99) _
  subst hsz
  have hA0 := cx_new hD0 hx0.2.1
  have hD := hD0.self (sz := s.heap.size)
  generalize hAe : va_A [(m0, .inr (7, [.int (0 : Int32), .int (4 : Int32), .int (0 : Int32), .ref rw, .int (0 : Int32), .int (0 : Int32), .int (0 : Int32), .ref ry, .int (0 : Int32), .int (0 : Int32), .ref ti, .int (0 : Int32), .int (0 : Int32), .ref po, .ref su, .ref sq, .ref ch, .ref vt, .ref sh]))] s.heap.size = A at hD hA0 ⊢
  have hA : ∀ q : Nat, s.heap.size ≤ q → A q := fun q h => by rw [← hAe]; exact Or.inr h
  have hS : va_S A s.heap s.heap [] := va_S.rf
  have hl := lv_entry ([.ref m0, .ref y, .int (0 : Int32)]) (n := 5) (Nat.le_of_ble_eq_true rfl)
  rw [lg_entry_eq]
  generalize (lg_sl ([.ref m0, .ref y, .int (0 : Int32)]) ++ List.replicate (5 - (lg_sl ([.ref m0, .ref y, .int (0 : Int32)])).length) Slot.unset).toArray = ls at hl ⊢
  have hl : lv_has ls 5 [(0, .ref m0), (1, .ref y), (2, .int (0 : Int32))] := hl
  have hP : va_P D kl [(m0, .inr (7, [.int (0 : Int32), .int (4 : Int32), .int (0 : Int32), .ref rw, .int (0 : Int32), .int (0 : Int32), .int (0 : Int32), .ref ry, .int (0 : Int32), .int (0 : Int32), .ref ti, .int (0 : Int32), .int (0 : Int32), .ref po, .ref su, .ref sq, .ref ch, .ref vt, .ref sh]))] s.heap := hP
  have hml : c.maxLocals = 5 := hml
  refine lv_iconst (v := (1 : Int32)) hx hb d_M_holdsAt_0 (by decide) ?_
  refine lv_istore_n (lv' := [(3, .int (1 : Int32)), (0, .ref m0), (1, .ref y), (2, .int (0 : Int32))]) hx hb d_M_holdsAt_1 rfl hl (by decide) rfl (fun ls hl => ?_)
  refine lv_iconst (v := (0 : Int32)) hx hb d_M_holdsAt_2 (by decide) ?_
  refine lv_istore (lv' := [(4, .int (0 : Int32)), (3, .int (1 : Int32)), (0, .ref m0), (1, .ref y), (2, .int (0 : Int32))]) hx hb d_M_holdsAt_3 hl (by decide) rfl (fun ls hl => ?_)
  refine lv_iload hx hb d_M_holdsAt_5 (lv_at hl 0 rfl) ?_
  refine lv_aload_n hx hb d_M_holdsAt_7 rfl (lv_at hl 2 rfl) ?_
  refine va_get (D := D) (ci := 7) (v := .int (0 : Int32)) (C := cn_M) (T := ft_M) (N := 19) hx hb hf_M (fun _ h => h) hown hK hP 0 rfl rfl 2 (by decide) (gw.at G hx0 mw_715 rfl _) (fun _ h9 => h9) rfl d_M_holdsAt_8 ?_
  refine lv_icmp_ge (tgt := 43) hx hb d_M_holdsAt_11 (by decide) (fun _ => ?_) (fun h99 => absurd h99 (by decide))
  refine lv_iload_n hx hb d_M_holdsAt_43 rfl (lv_at hl 1 rfl) ?_
  exact tx_mono (fun _ h => tx_Z.of h) (W.zret (v := (1 : Int32)) hx hb hr (by decide) (fun t ht hW => ⟨⟨[(m0, .inr (7, [.int (0 : Int32), .int (4 : Int32), .int (0 : Int32), .ref rw, .int (0 : Int32), .int (0 : Int32), .int (0 : Int32), .ref ry, .int (0 : Int32), .int (0 : Int32), .ref ti, .int (0 : Int32), .int (0 : Int32), .ref po, .ref su, .ref sq, .ref ch, .ref vt, .ref sh]))], ⟨rfl, rfl⟩, by rw [ht]; exact hP.sub [0] rfl, hD.sub [0] (by decide) rfl⟩, hS.F ht⟩) hS.2.2 d_M_holdsAt_44)

set_option maxHeartbeats 4000000 in
set_option maxRecDepth 100000 in
theorem c_M_holds4 {l : Launch} {s0 : State} {b0 : Addr} {D : va_G} {cI cJ cZ : ClassId} {tC tS : Nat} (E : gE l s0 b0 D cI cJ cZ tC tS) (sz : Nat) (m0 : Nat) (rw : Nat) (ry : Nat) (ti : Nat) (po : Nat) (su : Nat) (sq : Nat) (ch : Nat) (vt : Nat) (sh : Nat) (th : Int32) (a : Int32) (b : Int32) (c2 : Int32) (d2 : Int32) (vf : Nat → Int32) : cx_M l s0 D kl y_M_holds b_M_holds 5 (some .boolean) ({ frames := 1, cells := 0, slots := 0, locals := 24 } : Room) 0 0 [.ref m0, .int a, .int b, .int c2, .int d2] [(m0, .inr (7, [.int th, .int (4 : Int32), .int (0 : Int32), .ref rw, .int (0 : Int32), .int (0 : Int32), .int (0 : Int32), .ref ry, .int (0 : Int32), .int (0 : Int32), .ref ti, .int (0 : Int32), .int (0 : Int32), .ref po, .ref su, .ref sq, .ref ch, .ref vt, .ref sh])), (vt, .inl (cI, 4, .inl vf))] sz (fun o9 _ w9 => o9 = .returned (some (.int (1 : Int32))) ∧ w9 = [(m0, .inr (7, [.int (0 : Int32), .int (4 : Int32), .int (0 : Int32), .ref rw, .int (0 : Int32), .int (0 : Int32), .int (0 : Int32), .ref ry, .int (0 : Int32), .int (0 : Int32), .ref ti, .int (0 : Int32), .int (0 : Int32), .ref po, .ref su, .ref sq, .ref ch, .ref vt, .ref sh]))]) := by
  refine tx_ofW (cc := b_M_holds) (maxL := 5) (ret := (some .boolean)) (by decide) rfl ?_
  intro p e s m args below meth c s₁ B hml hT hv
  obtain ⟨rfl, hsz, hP, hD0, hx0⟩ := hv
  have hx := B.exec
  have hb := B.bytes
  have hr := B.returns
  have G := E.2.1
  have hown : s.vm.findClass cn_M = some m.cls := findClass_of_methodNamed B.named
  have hlocks := B.notSynchronized
  have hK := va_K.moved hx0.1.alike E.2.2.1
  have hf_M : ∀ w99 ∈ u_ws cn_M ft_M 19, w99.before ([.ref m0, .int a, .int b, .int c2, .int d2] : List Value).toArray s = true := fun w99 h99 => gw.at G hx0 (fw_M w99 h99) (fo_M w99 h99) _
  subst hsz
  have hA0 := cx_new hD0 hx0.2.1
  have hD := hD0.self (sz := s.heap.size)
  generalize hAe : va_A [(m0, .inr (7, [.int th, .int (4 : Int32), .int (0 : Int32), .ref rw, .int (0 : Int32), .int (0 : Int32), .int (0 : Int32), .ref ry, .int (0 : Int32), .int (0 : Int32), .ref ti, .int (0 : Int32), .int (0 : Int32), .ref po, .ref su, .ref sq, .ref ch, .ref vt, .ref sh])), (vt, .inl (cI, 4, .inl vf))] s.heap.size = A at hD hA0 ⊢
  have hA : ∀ q : Nat, s.heap.size ≤ q → A q := fun q h => by rw [← hAe]; exact Or.inr h
  have hS : va_S A s.heap s.heap [] := va_S.rf
  have hl := lv_entry ([.ref m0, .int a, .int b, .int c2, .int d2]) (n := 5) (Nat.le_of_ble_eq_true rfl)
  rw [lg_entry_eq]
  generalize (lg_sl ([.ref m0, .int a, .int b, .int c2, .int d2]) ++ List.replicate (5 - (lg_sl ([.ref m0, .int a, .int b, .int c2, .int d2])).length) Slot.unset).toArray = ls at hl ⊢
  have hl : lv_has ls 5 [(0, .ref m0), (1, .int a), (2, .int b), (3, .int c2), (4, .int d2)] := hl
  have hP : va_P D kl [(m0, .inr (7, [.int th, .int (4 : Int32), .int (0 : Int32), .ref rw, .int (0 : Int32), .int (0 : Int32), .int (0 : Int32), .ref ry, .int (0 : Int32), .int (0 : Int32), .ref ti, .int (0 : Int32), .int (0 : Int32), .ref po, .ref su, .ref sq, .ref ch, .ref vt, .ref sh])), (vt, .inl (cI, 4, .inl vf))] s.heap := hP
  have hml : c.maxLocals = 5 := hml
  refine lv_aload_n hx hb d_M_holds_0 rfl (lv_at hl 0 rfl) ?_
  refine lv_iconst (v := (0 : Int32)) hx hb d_M_holds_1 (by decide) ?_
  refine va_put (D := D) (ci := 7) (v := .int (0 : Int32)) (ty := .int) (C := cn_M) (T := ft_M) (N := 19) hx hb hf_M (fun _ h => h) fy_M fk_M fn_M hown hK hP hD hS 0 rfl rfl 0 (by decide) (gw.at G hx0 mw_713 rfl _) (fun _ h9 => h9) rfl (by decide +kernel) rfl rfl (Nat.le_of_ble_eq_true rfl) d_M_holds_2 (fun H locs hP hD hS => ?_)
  have hP : va_P D kl [(m0, .inr (7, [.int (0 : Int32), .int (4 : Int32), .int (0 : Int32), .ref rw, .int (0 : Int32), .int (0 : Int32), .int (0 : Int32), .ref ry, .int (0 : Int32), .int (0 : Int32), .ref ti, .int (0 : Int32), .int (0 : Int32), .ref po, .ref su, .ref sq, .ref ch, .ref vt, .ref sh])), (vt, .inl (cI, 4, .inl vf))] H := hP
  have hD : va_D A [(m0, .inr (7, [.int (0 : Int32), .int (4 : Int32), .int (0 : Int32), .ref rw, .int (0 : Int32), .int (0 : Int32), .int (0 : Int32), .ref ry, .int (0 : Int32), .int (0 : Int32), .ref ti, .int (0 : Int32), .int (0 : Int32), .ref po, .ref su, .ref sq, .ref ch, .ref vt, .ref sh])), (vt, .inl (cI, 4, .inl vf))] := hD
  refine lv_aload_n hx hb d_M_holds_5 rfl (lv_at hl 0 rfl) ?_
  refine lv_iload_n hx hb d_M_holds_6 rfl (lv_at hl 1 rfl) ?_
  refine lv_iload_n hx hb d_M_holds_7 rfl (lv_at hl 2 rfl) ?_
  refine lv_iload_n hx hb d_M_holds_8 rfl (lv_at hl 3 rfl) ?_
  refine lv_iload hx hb d_M_holds_9 (lv_at hl 4 rfl) ?_
  refine cx_call (D := D) (cl := kl) (ws := _) (wc := [(m0, .inr (7, [.int (0 : Int32), .int (4 : Int32), .int (0 : Int32), .ref rw, .int (0 : Int32), .int (0 : Int32), .int (0 : Int32), .ref ry, .int (0 : Int32), .int (0 : Int32), .ref ti, .int (0 : Int32), .int (0 : Int32), .ref po, .ref su, .ref sq, .ref ch, .ref vt, .ref sh])), (vt, .inl (cI, 4, .inl vf))]) (wr := []) (tx_runV (C := cn_M) (b := m0) (As := [.int a, .int b, .int c2, .int d2]) (rest := []) hx hb hml hown (c_M_set4 E H.size m0 rw ry ti po su sq ch vt sh (0 : Int32) a b c2 d2 vf ) (cx_C (b0 := b0) G hx0 mw_783 mw_9 ny_M_set (by decide)) (gw.at G hx0 mw_780 rfl _) (gw.at G hx0 mw_782 rfl _) (gw.at G hx0 ms_M_set rfl _) ⟨cx_blind, va_recv hK hP (q0 := 0) (ci := 7) (q := (cn_M, ft_M, 19)) rfl rfl, (cx_pre (s := s) hx0 hP hD hS hA0 [0, 1] rfl rfl (by decide))⟩ rfl rfl hl.1 rfl (lv_room (Nat.le_of_ble_eq_true rfl)) d_M_holds_11 ⟨by decide, by decide⟩) hP hD hS hA [0, 1] [] rfl rfl (by decide) (by decide) (fun v t w1 H locs ht hW9 hp hP hD hS => ?_) (fun x t w1 H locs ht hW9 hp hP hD hS => by obtain ⟨h9, -⟩ := hp; cases h9)
  obtain ⟨h9, rfl⟩ := hp
  cases h9
  refine W.eq (g2 := F0 m 14 ls []) rfl ?_
  refine W.widen (k := 0) (n := 0) (by decide) (by decide) ?_
  have hP : va_P D kl [(m0, .inr (7, [.int (0 : Int32), .int (4 : Int32), .int (0 : Int32), .ref rw, .int (0 : Int32), .int (0 : Int32), .int (0 : Int32), .ref ry, .int (0 : Int32), .int (0 : Int32), .ref ti, .int (0 : Int32), .int (0 : Int32), .ref po, .ref su, .ref sq, .ref ch, .ref vt, .ref sh])), (vt, .inl (cI, 4, .inl (upd (upd (upd (upd vf 0 a) 1 b) 2 c2) 3 d2)))] H := hP
  have hD : va_D A [(m0, .inr (7, [.int (0 : Int32), .int (4 : Int32), .int (0 : Int32), .ref rw, .int (0 : Int32), .int (0 : Int32), .int (0 : Int32), .ref ry, .int (0 : Int32), .int (0 : Int32), .ref ti, .int (0 : Int32), .int (0 : Int32), .ref po, .ref su, .ref sq, .ref ch, .ref vt, .ref sh])), (vt, .inl (cI, 4, .inl (upd (upd (upd (upd vf 0 a) 1 b) 2 c2) 3 d2)))] := hD
  refine lv_aload_n hx hb d_M_holds_14 rfl (lv_at hl 0 rfl) ?_
  refine lv_aload_n hx hb d_M_holds_15 rfl (lv_at hl 0 rfl) ?_
  refine va_get (D := D) (ci := 7) (v := .ref vt) (C := cn_M) (T := ft_M) (N := 19) hx hb hf_M (fun _ h => h) hown hK hP 0 rfl rfl 17 (by decide) (gw.at G hx0 mw_730 rfl _) (fun _ h9 => h9) rfl d_M_holds_16 ?_
  refine lv_iconst (v := (0 : Int32)) hx hb d_M_holds_19 (by decide) ?_
  refine cx_call (D := D) (cl := kl) (ws := _) (wc := [(m0, .inr (7, [.int (0 : Int32), .int (4 : Int32), .int (0 : Int32), .ref rw, .int (0 : Int32), .int (0 : Int32), .int (0 : Int32), .ref ry, .int (0 : Int32), .int (0 : Int32), .ref ti, .int (0 : Int32), .int (0 : Int32), .ref po, .ref su, .ref sq, .ref ch, .ref vt, .ref sh]))]) (wr := [(vt, .inl (cI, 4, .inl (upd (upd (upd (upd vf 0 a) 1 b) 2 c2) 3 d2)))]) (tx_runV (C := cn_M) (b := m0) (As := [.ref vt, .int (0 : Int32)]) (rest := []) hx hb hml hown (c_M_holdsAt4 E H.size m0 rw ry ti po su sq ch vt sh vt ) (cx_C (b0 := b0) G hx0 mw_836 mw_9 ny_M_holdsAt (by decide)) (gw.at G hx0 mw_833 rfl _) (gw.at G hx0 mw_835 rfl _) (gw.at G hx0 ms_M_holdsAt rfl _) ⟨cx_blind, va_recv hK hP (q0 := 0) (ci := 7) (q := (cn_M, ft_M, 19)) rfl rfl, (cx_pre (s := s) hx0 hP hD hS hA0 [0] rfl rfl (by decide))⟩ rfl rfl hl.1 rfl (lv_room (Nat.le_of_ble_eq_true rfl)) d_M_holds_20 ⟨by decide, by decide⟩) hP hD hS hA [0] [1] rfl rfl (by decide) (by decide) (fun v t w1 H locs ht hW9 hp hP hD hS => ?_) (fun x t w1 H locs ht hW9 hp hP hD hS => by obtain ⟨h9, -⟩ := hp; cases h9)
  obtain ⟨h9, rfl⟩ := hp
  cases h9
  refine W.eq (g2 := F0 m 23 ls [.int (1 : Int32)]) rfl ?_
  refine W.widen (k := 0) (n := 0) (by decide) (by decide) ?_
  have hP : va_P D kl [(vt, .inl (cI, 4, .inl (upd (upd (upd (upd vf 0 a) 1 b) 2 c2) 3 d2))), (m0, .inr (7, [.int (0 : Int32), .int (4 : Int32), .int (0 : Int32), .ref rw, .int (0 : Int32), .int (0 : Int32), .int (0 : Int32), .ref ry, .int (0 : Int32), .int (0 : Int32), .ref ti, .int (0 : Int32), .int (0 : Int32), .ref po, .ref su, .ref sq, .ref ch, .ref vt, .ref sh]))] H := hP
  have hD : va_D A [(vt, .inl (cI, 4, .inl (upd (upd (upd (upd vf 0 a) 1 b) 2 c2) 3 d2))), (m0, .inr (7, [.int (0 : Int32), .int (4 : Int32), .int (0 : Int32), .ref rw, .int (0 : Int32), .int (0 : Int32), .int (0 : Int32), .ref ry, .int (0 : Int32), .int (0 : Int32), .ref ti, .int (0 : Int32), .int (0 : Int32), .ref po, .ref su, .ref sq, .ref ch, .ref vt, .ref sh]))] := hD
  exact tx_mono (fun _ h => tx_Z.of h) (W.zret (v := (1 : Int32)) hx hb hr (by decide) (fun t ht hW => ⟨⟨[(m0, .inr (7, [.int (0 : Int32), .int (4 : Int32), .int (0 : Int32), .ref rw, .int (0 : Int32), .int (0 : Int32), .int (0 : Int32), .ref ry, .int (0 : Int32), .int (0 : Int32), .ref ti, .int (0 : Int32), .int (0 : Int32), .ref po, .ref su, .ref sq, .ref ch, .ref vt, .ref sh]))], ⟨rfl, rfl⟩, by rw [ht]; exact hP.sub [1] rfl, hD.sub [1] (by decide) rfl⟩, hS.F ht⟩) hS.2.2 d_M_holds_23)

set_option maxHeartbeats 4000000 in
set_option maxRecDepth 100000 in
theorem c_M_least4_a {l : Launch} {s0 : State} {b0 : Addr} {D : va_G} {cI cJ cZ : ClassId} {tC tS : Nat} (E : gE l s0 b0 D cI cJ cZ tC tS) (sz : Nat) (m0 : Nat) (rw : Nat) (ry : Nat) (ti : Nat) (po : Nat) (su : Nat) (sq : Nat) (ch : Nat) (vt : Nat) (sh : Nat) (th : Int32) (a : Int32) (b : Int32) (c2 : Int32) (d2 : Int32) (vf : Nat → Int32) (h : ¬ (inw (1000 : Int32) a = true ∧ inw (1000 : Int32) b = true ∧ inw (1000 : Int32) c2 = true ∧ inw (1000 : Int32) d2 = true)) : cx_M l s0 D kl y_M_least b_M_least 9 (some .int) ({ frames := 2, cells := 0, slots := 0, locals := 44 } : Room) 0 0 [.ref m0, .int a, .int b, .int c2, .int d2] [(m0, .inr (7, [.int th, .int (4 : Int32), .int (0 : Int32), .ref rw, .int (0 : Int32), .int (0 : Int32), .int (0 : Int32), .ref ry, .int (0 : Int32), .int (0 : Int32), .ref ti, .int (0 : Int32), .int (0 : Int32), .ref po, .ref su, .ref sq, .ref ch, .ref vt, .ref sh])), (vt, .inl (cI, 4, .inl vf))] sz (fun o9 _ w9 => o9 = .returned (some (.int (0 : Int32))) ∧ w9 = [(m0, .inr (7, [.int (1 : Int32), .int (4 : Int32), .int (0 : Int32), .ref rw, .int (0 : Int32), .int (0 : Int32), .int (0 : Int32), .ref ry, .int (0 : Int32), .int (0 : Int32), .ref ti, .int (0 : Int32), .int (0 : Int32), .ref po, .ref su, .ref sq, .ref ch, .ref vt, .ref sh]))]) := by
  refine tx_ofW (cc := b_M_least) (maxL := 9) (ret := (some .int)) (by decide) rfl ?_
  intro p e s m args below meth c s₁ B hml hT hv
  obtain ⟨rfl, hsz, hP, hD0, hx0⟩ := hv
  have hx := B.exec
  have hb := B.bytes
  have hr := B.returns
  have G := E.2.1
  have hown : s.vm.findClass cn_M = some m.cls := findClass_of_methodNamed B.named
  have hlocks := B.notSynchronized
  have hK := va_K.moved hx0.1.alike E.2.2.1
  have hf_M : ∀ w99 ∈ u_ws cn_M ft_M 19, w99.before ([.ref m0, .int a, .int b, .int c2, .int d2] : List Value).toArray s = true := fun w99 h99 => gw.at G hx0 (fw_M w99 h99) (fo_M w99 h99) _
  subst hsz
  have hA0 := cx_new hD0 hx0.2.1
  have hD := hD0.self (sz := s.heap.size)
  generalize hAe : va_A [(m0, .inr (7, [.int th, .int (4 : Int32), .int (0 : Int32), .ref rw, .int (0 : Int32), .int (0 : Int32), .int (0 : Int32), .ref ry, .int (0 : Int32), .int (0 : Int32), .ref ti, .int (0 : Int32), .int (0 : Int32), .ref po, .ref su, .ref sq, .ref ch, .ref vt, .ref sh])), (vt, .inl (cI, 4, .inl vf))] s.heap.size = A at hD hA0 ⊢
  have hA : ∀ q : Nat, s.heap.size ≤ q → A q := fun q h => by rw [← hAe]; exact Or.inr h
  have hS : va_S A s.heap s.heap [] := va_S.rf
  have hl := lv_entry ([.ref m0, .int a, .int b, .int c2, .int d2]) (n := 9) (Nat.le_of_ble_eq_true rfl)
  rw [lg_entry_eq]
  generalize (lg_sl ([.ref m0, .int a, .int b, .int c2, .int d2]) ++ List.replicate (9 - (lg_sl ([.ref m0, .int a, .int b, .int c2, .int d2])).length) Slot.unset).toArray = ls at hl ⊢
  have hl : lv_has ls 9 [(0, .ref m0), (1, .int a), (2, .int b), (3, .int c2), (4, .int d2)] := hl
  have hP : va_P D kl [(m0, .inr (7, [.int th, .int (4 : Int32), .int (0 : Int32), .ref rw, .int (0 : Int32), .int (0 : Int32), .int (0 : Int32), .ref ry, .int (0 : Int32), .int (0 : Int32), .ref ti, .int (0 : Int32), .int (0 : Int32), .ref po, .ref su, .ref sq, .ref ch, .ref vt, .ref sh])), (vt, .inl (cI, 4, .inl vf))] s.heap := hP
  have hml : c.maxLocals = 9 := hml
  refine lv_aload_n hx hb d_M_least_0 rfl (lv_at hl 0 rfl) ?_
  refine lv_iload_n hx hb d_M_least_1 rfl (lv_at hl 1 rfl) ?_
  refine lv_iload_n hx hb d_M_least_2 rfl (lv_at hl 2 rfl) ?_
  refine lv_iload_n hx hb d_M_least_3 rfl (lv_at hl 3 rfl) ?_
  refine lv_iload hx hb d_M_least_4 (lv_at hl 4 rfl) ?_
  refine cx_call (D := D) (cl := kl) (ws := _) (wc := [(m0, .inr (7, [.int th, .int (4 : Int32), .int (0 : Int32), .ref rw, .int (0 : Int32), .int (0 : Int32), .int (0 : Int32), .ref ry, .int (0 : Int32), .int (0 : Int32), .ref ti, .int (0 : Int32), .int (0 : Int32), .ref po, .ref su, .ref sq, .ref ch, .ref vt, .ref sh])), (vt, .inl (cI, 4, .inl vf))]) (wr := []) (tx_runV (C := cn_M) (b := m0) (As := [.int a, .int b, .int c2, .int d2]) (rest := []) hx hb hml hown (c_M_set4 E s.heap.size m0 rw ry ti po su sq ch vt sh th a b c2 d2 vf ) (cx_C (b0 := b0) G hx0 mw_783 mw_9 ny_M_set (by decide)) (gw.at G hx0 mw_780 rfl _) (gw.at G hx0 mw_782 rfl _) (gw.at G hx0 ms_M_set rfl _) ⟨cx_blind, va_recv hK hP (q0 := 0) (ci := 7) (q := (cn_M, ft_M, 19)) rfl rfl, (cx_pre (s := s) hx0 hP hD hS hA0 [0, 1] rfl rfl (by decide))⟩ rfl rfl hl.1 rfl (lv_room (Nat.le_of_ble_eq_true rfl)) d_M_least_6 ⟨by decide, by decide⟩) hP hD hS hA [0, 1] [] rfl rfl (by decide) (by decide) (fun v t w1 H locs ht hW9 hp hP hD hS => ?_) (fun x t w1 H locs ht hW9 hp hP hD hS => by obtain ⟨h9, -⟩ := hp; cases h9)
  obtain ⟨h9, rfl⟩ := hp
  cases h9
  refine W.eq (g2 := F0 m 9 ls []) rfl ?_
  refine W.widen (k := 0) (n := 0) (by decide) (by decide) ?_
  have hP : va_P D kl [(m0, .inr (7, [.int th, .int (4 : Int32), .int (0 : Int32), .ref rw, .int (0 : Int32), .int (0 : Int32), .int (0 : Int32), .ref ry, .int (0 : Int32), .int (0 : Int32), .ref ti, .int (0 : Int32), .int (0 : Int32), .ref po, .ref su, .ref sq, .ref ch, .ref vt, .ref sh])), (vt, .inl (cI, 4, .inl (upd (upd (upd (upd vf 0 a) 1 b) 2 c2) 3 d2)))] H := hP
  have hD : va_D A [(m0, .inr (7, [.int th, .int (4 : Int32), .int (0 : Int32), .ref rw, .int (0 : Int32), .int (0 : Int32), .int (0 : Int32), .ref ry, .int (0 : Int32), .int (0 : Int32), .ref ti, .int (0 : Int32), .int (0 : Int32), .ref po, .ref su, .ref sq, .ref ch, .ref vt, .ref sh])), (vt, .inl (cI, 4, .inl (upd (upd (upd (upd vf 0 a) 1 b) 2 c2) 3 d2)))] := hD
  refine lv_aload_n hx hb d_M_least_9 rfl (lv_at hl 0 rfl) ?_
  refine lv_sipush (v := (1000 : Int32)) hx hb d_M_least_10 (by decide) ?_
  refine cx_call (D := D) (cl := kl) (ws := _) (wc := [(m0, .inr (7, [.int th, .int (4 : Int32), .int (0 : Int32), .ref rw, .int (0 : Int32), .int (0 : Int32), .int (0 : Int32), .ref ry, .int (0 : Int32), .int (0 : Int32), .ref ti, .int (0 : Int32), .int (0 : Int32), .ref po, .ref su, .ref sq, .ref ch, .ref vt, .ref sh])), (vt, .inl (cI, 4, .inl (upd (upd (upd (upd vf 0 a) 1 b) 2 c2) 3 d2)))]) (wr := []) (tx_runV (C := cn_M) (b := m0) (As := [.int (1000 : Int32)]) (rest := []) hx hb hml hown (c_M_within4_n E H.size m0 rw ry ti po su sq ch vt sh th (1000 : Int32) (upd (upd (upd (upd vf 0 a) 1 b) 2 c2) 3 d2) h) (cx_C (b0 := b0) G hx0 mw_787 mw_9 ny_M_within (by decide)) (gw.at G hx0 mw_784 rfl _) (gw.at G hx0 mw_786 rfl _) (gw.at G hx0 ms_M_within rfl _) ⟨cx_blind, va_recv hK hP (q0 := 0) (ci := 7) (q := (cn_M, ft_M, 19)) rfl rfl, (cx_pre (s := s) hx0 hP hD hS hA0 [0, 1] rfl rfl (by decide))⟩ rfl rfl hl.1 rfl (lv_room (Nat.le_of_ble_eq_true rfl)) d_M_least_13 ⟨by decide, by decide⟩) hP hD hS hA [0, 1] [] rfl rfl (by decide) (by decide) (fun v t w1 H locs ht hW9 hp hP hD hS => ?_) (fun x t w1 H locs ht hW9 hp hP hD hS => by obtain ⟨h9, -⟩ := hp; cases h9)
  obtain ⟨h9, rfl⟩ := hp
  cases h9
  refine W.eq (g2 := F0 m 16 ls [.int (0 : Int32)]) rfl ?_
  refine W.widen (k := 0) (n := 0) (by decide) (by decide) ?_
  have hP : va_P D kl [(m0, .inr (7, [.int th, .int (4 : Int32), .int (0 : Int32), .ref rw, .int (0 : Int32), .int (0 : Int32), .int (0 : Int32), .ref ry, .int (0 : Int32), .int (0 : Int32), .ref ti, .int (0 : Int32), .int (0 : Int32), .ref po, .ref su, .ref sq, .ref ch, .ref vt, .ref sh])), (vt, .inl (cI, 4, .inl (upd (upd (upd (upd vf 0 a) 1 b) 2 c2) 3 d2)))] H := hP
  have hD : va_D A [(m0, .inr (7, [.int th, .int (4 : Int32), .int (0 : Int32), .ref rw, .int (0 : Int32), .int (0 : Int32), .int (0 : Int32), .ref ry, .int (0 : Int32), .int (0 : Int32), .ref ti, .int (0 : Int32), .int (0 : Int32), .ref po, .ref su, .ref sq, .ref ch, .ref vt, .ref sh])), (vt, .inl (cI, 4, .inl (upd (upd (upd (upd vf 0 a) 1 b) 2 c2) 3 d2)))] := hD
  refine lv_if_ne (tgt := 26) hx hb d_M_least_16 (by decide) (fun h99 => absurd h99 (by decide)) (fun _ => ?_)
  refine lv_aload_n hx hb d_M_least_19 rfl (lv_at hl 0 rfl) ?_
  refine lv_iconst (v := (1 : Int32)) hx hb d_M_least_20 (by decide) ?_
  refine va_put (D := D) (ci := 7) (v := .int (1 : Int32)) (ty := .int) (C := cn_M) (T := ft_M) (N := 19) hx hb hf_M (fun _ h => h) fy_M fk_M fn_M hown hK hP hD hS 0 rfl rfl 0 (by decide) (gw.at G hx0 mw_713 rfl _) (fun _ h9 => h9) rfl (by decide +kernel) rfl rfl (Nat.le_of_ble_eq_true rfl) d_M_least_21 (fun H locs hP hD hS => ?_)
  have hP : va_P D kl [(m0, .inr (7, [.int (1 : Int32), .int (4 : Int32), .int (0 : Int32), .ref rw, .int (0 : Int32), .int (0 : Int32), .int (0 : Int32), .ref ry, .int (0 : Int32), .int (0 : Int32), .ref ti, .int (0 : Int32), .int (0 : Int32), .ref po, .ref su, .ref sq, .ref ch, .ref vt, .ref sh])), (vt, .inl (cI, 4, .inl (upd (upd (upd (upd vf 0 a) 1 b) 2 c2) 3 d2)))] H := hP
  have hD : va_D A [(m0, .inr (7, [.int (1 : Int32), .int (4 : Int32), .int (0 : Int32), .ref rw, .int (0 : Int32), .int (0 : Int32), .int (0 : Int32), .ref ry, .int (0 : Int32), .int (0 : Int32), .ref ti, .int (0 : Int32), .int (0 : Int32), .ref po, .ref su, .ref sq, .ref ch, .ref vt, .ref sh])), (vt, .inl (cI, 4, .inl (upd (upd (upd (upd vf 0 a) 1 b) 2 c2) 3 d2)))] := hD
  refine lv_iconst (v := (0 : Int32)) hx hb d_M_least_24 (by decide) ?_
  exact tx_mono (fun _ h => tx_Z.of h) (W.iret (v := (0 : Int32)) hx hb hr (fun t ht hW => ⟨⟨[(m0, .inr (7, [.int (1 : Int32), .int (4 : Int32), .int (0 : Int32), .ref rw, .int (0 : Int32), .int (0 : Int32), .int (0 : Int32), .ref ry, .int (0 : Int32), .int (0 : Int32), .ref ti, .int (0 : Int32), .int (0 : Int32), .ref po, .ref su, .ref sq, .ref ch, .ref vt, .ref sh]))], ⟨rfl, rfl⟩, by rw [ht]; exact hP.sub [0] rfl, hD.sub [0] (by decide) rfl⟩, hS.F ht⟩) hS.2.2 d_M_least_25)

set_option maxHeartbeats 4000000 in
set_option maxRecDepth 100000 in
theorem c_M_least4_s {l : Launch} {s0 : State} {b0 : Addr} {D : va_G} {cI cJ cZ : ClassId} {tC tS : Nat} (E : gE l s0 b0 D cI cJ cZ tC tS) (sz : Nat) (m0 : Nat) (rw : Nat) (ry : Nat) (ti : Nat) (po : Nat) (su : Nat) (sq : Nat) (ch : Nat) (vt : Nat) (sh : Nat) (th : Int32) (a : Int32) (b : Int32) (c2 : Int32) (d2 : Int32) (vf : Nat → Int32) (h : inw (1000 : Int32) a = true ∧ inw (1000 : Int32) b = true ∧ inw (1000 : Int32) c2 = true ∧ inw (1000 : Int32) d2 = true) : cx_M l s0 D kl y_M_least b_M_least 9 (some .int) ({ frames := 4, cells := 0, slots := 0, locals := 91 } : Room) 0 0 [.ref m0, .int a, .int b, .int c2, .int d2] [(m0, .inr (7, [.int th, .int (4 : Int32), .int (0 : Int32), .ref rw, .int (0 : Int32), .int (0 : Int32), .int (0 : Int32), .ref ry, .int (0 : Int32), .int (0 : Int32), .ref ti, .int (0 : Int32), .int (0 : Int32), .ref po, .ref su, .ref sq, .ref ch, .ref vt, .ref sh])), (vt, .inl (cI, 4, .inl vf))] sz (fun o9 _ w9 => o9 = .returned (some (.int (0 : Int32))) ∧ w9 = [(m0, .inr (7, [.int (2 : Int32), .int (4 : Int32), .int (0 : Int32), .ref rw, .int (1 : Int32), .int (0 : Int32), .int (0 : Int32), .ref ry, .int (0 : Int32), .int (0 : Int32), .ref ti, .int (0 : Int32), .int (0 : Int32), .ref po, .ref su, .ref sq, .ref ch, .ref vt, .ref sh]))]) := by
  refine tx_ofW (cc := b_M_least) (maxL := 9) (ret := (some .int)) (by decide) rfl ?_
  intro p e s m args below meth c s₁ B hml hT hv
  obtain ⟨rfl, hsz, hP, hD0, hx0⟩ := hv
  have hx := B.exec
  have hb := B.bytes
  have hr := B.returns
  have G := E.2.1
  have hown : s.vm.findClass cn_M = some m.cls := findClass_of_methodNamed B.named
  have hlocks := B.notSynchronized
  have hK := va_K.moved hx0.1.alike E.2.2.1
  subst hsz
  have hA0 := cx_new hD0 hx0.2.1
  have hD := hD0.self (sz := s.heap.size)
  generalize hAe : va_A [(m0, .inr (7, [.int th, .int (4 : Int32), .int (0 : Int32), .ref rw, .int (0 : Int32), .int (0 : Int32), .int (0 : Int32), .ref ry, .int (0 : Int32), .int (0 : Int32), .ref ti, .int (0 : Int32), .int (0 : Int32), .ref po, .ref su, .ref sq, .ref ch, .ref vt, .ref sh])), (vt, .inl (cI, 4, .inl vf))] s.heap.size = A at hD hA0 ⊢
  have hA : ∀ q : Nat, s.heap.size ≤ q → A q := fun q h => by rw [← hAe]; exact Or.inr h
  have hS : va_S A s.heap s.heap [] := va_S.rf
  have hl := lv_entry ([.ref m0, .int a, .int b, .int c2, .int d2]) (n := 9) (Nat.le_of_ble_eq_true rfl)
  rw [lg_entry_eq]
  generalize (lg_sl ([.ref m0, .int a, .int b, .int c2, .int d2]) ++ List.replicate (9 - (lg_sl ([.ref m0, .int a, .int b, .int c2, .int d2])).length) Slot.unset).toArray = ls at hl ⊢
  have hl : lv_has ls 9 [(0, .ref m0), (1, .int a), (2, .int b), (3, .int c2), (4, .int d2)] := hl
  have hP : va_P D kl [(m0, .inr (7, [.int th, .int (4 : Int32), .int (0 : Int32), .ref rw, .int (0 : Int32), .int (0 : Int32), .int (0 : Int32), .ref ry, .int (0 : Int32), .int (0 : Int32), .ref ti, .int (0 : Int32), .int (0 : Int32), .ref po, .ref su, .ref sq, .ref ch, .ref vt, .ref sh])), (vt, .inl (cI, 4, .inl vf))] s.heap := hP
  have hml : c.maxLocals = 9 := hml
  refine lv_aload_n hx hb d_M_least_0 rfl (lv_at hl 0 rfl) ?_
  refine lv_iload_n hx hb d_M_least_1 rfl (lv_at hl 1 rfl) ?_
  refine lv_iload_n hx hb d_M_least_2 rfl (lv_at hl 2 rfl) ?_
  refine lv_iload_n hx hb d_M_least_3 rfl (lv_at hl 3 rfl) ?_
  refine lv_iload hx hb d_M_least_4 (lv_at hl 4 rfl) ?_
  refine cx_call (D := D) (cl := kl) (ws := _) (wc := [(m0, .inr (7, [.int th, .int (4 : Int32), .int (0 : Int32), .ref rw, .int (0 : Int32), .int (0 : Int32), .int (0 : Int32), .ref ry, .int (0 : Int32), .int (0 : Int32), .ref ti, .int (0 : Int32), .int (0 : Int32), .ref po, .ref su, .ref sq, .ref ch, .ref vt, .ref sh])), (vt, .inl (cI, 4, .inl vf))]) (wr := []) (tx_runV (C := cn_M) (b := m0) (As := [.int a, .int b, .int c2, .int d2]) (rest := []) hx hb hml hown (c_M_set4 E s.heap.size m0 rw ry ti po su sq ch vt sh th a b c2 d2 vf ) (cx_C (b0 := b0) G hx0 mw_783 mw_9 ny_M_set (by decide)) (gw.at G hx0 mw_780 rfl _) (gw.at G hx0 mw_782 rfl _) (gw.at G hx0 ms_M_set rfl _) ⟨cx_blind, va_recv hK hP (q0 := 0) (ci := 7) (q := (cn_M, ft_M, 19)) rfl rfl, (cx_pre (s := s) hx0 hP hD hS hA0 [0, 1] rfl rfl (by decide))⟩ rfl rfl hl.1 rfl (lv_room (Nat.le_of_ble_eq_true rfl)) d_M_least_6 ⟨by decide, by decide⟩) hP hD hS hA [0, 1] [] rfl rfl (by decide) (by decide) (fun v t w1 H locs ht hW9 hp hP hD hS => ?_) (fun x t w1 H locs ht hW9 hp hP hD hS => by obtain ⟨h9, -⟩ := hp; cases h9)
  obtain ⟨h9, rfl⟩ := hp
  cases h9
  refine W.eq (g2 := F0 m 9 ls []) rfl ?_
  refine W.widen (k := 0) (n := 0) (by decide) (by decide) ?_
  have hP : va_P D kl [(m0, .inr (7, [.int th, .int (4 : Int32), .int (0 : Int32), .ref rw, .int (0 : Int32), .int (0 : Int32), .int (0 : Int32), .ref ry, .int (0 : Int32), .int (0 : Int32), .ref ti, .int (0 : Int32), .int (0 : Int32), .ref po, .ref su, .ref sq, .ref ch, .ref vt, .ref sh])), (vt, .inl (cI, 4, .inl (upd (upd (upd (upd vf 0 a) 1 b) 2 c2) 3 d2)))] H := hP
  have hD : va_D A [(m0, .inr (7, [.int th, .int (4 : Int32), .int (0 : Int32), .ref rw, .int (0 : Int32), .int (0 : Int32), .int (0 : Int32), .ref ry, .int (0 : Int32), .int (0 : Int32), .ref ti, .int (0 : Int32), .int (0 : Int32), .ref po, .ref su, .ref sq, .ref ch, .ref vt, .ref sh])), (vt, .inl (cI, 4, .inl (upd (upd (upd (upd vf 0 a) 1 b) 2 c2) 3 d2)))] := hD
  refine lv_aload_n hx hb d_M_least_9 rfl (lv_at hl 0 rfl) ?_
  refine lv_sipush (v := (1000 : Int32)) hx hb d_M_least_10 (by decide) ?_
  refine cx_call (D := D) (cl := kl) (ws := _) (wc := [(m0, .inr (7, [.int th, .int (4 : Int32), .int (0 : Int32), .ref rw, .int (0 : Int32), .int (0 : Int32), .int (0 : Int32), .ref ry, .int (0 : Int32), .int (0 : Int32), .ref ti, .int (0 : Int32), .int (0 : Int32), .ref po, .ref su, .ref sq, .ref ch, .ref vt, .ref sh])), (vt, .inl (cI, 4, .inl (upd (upd (upd (upd vf 0 a) 1 b) 2 c2) 3 d2)))]) (wr := []) (tx_runV (C := cn_M) (b := m0) (As := [.int (1000 : Int32)]) (rest := []) hx hb hml hown (c_M_within4_y E H.size m0 rw ry ti po su sq ch vt sh th (1000 : Int32) (upd (upd (upd (upd vf 0 a) 1 b) 2 c2) 3 d2) h) (cx_C (b0 := b0) G hx0 mw_787 mw_9 ny_M_within (by decide)) (gw.at G hx0 mw_784 rfl _) (gw.at G hx0 mw_786 rfl _) (gw.at G hx0 ms_M_within rfl _) ⟨cx_blind, va_recv hK hP (q0 := 0) (ci := 7) (q := (cn_M, ft_M, 19)) rfl rfl, (cx_pre (s := s) hx0 hP hD hS hA0 [0, 1] rfl rfl (by decide))⟩ rfl rfl hl.1 rfl (lv_room (Nat.le_of_ble_eq_true rfl)) d_M_least_13 ⟨by decide, by decide⟩) hP hD hS hA [0, 1] [] rfl rfl (by decide) (by decide) (fun v t w1 H locs ht hW9 hp hP hD hS => ?_) (fun x t w1 H locs ht hW9 hp hP hD hS => by obtain ⟨h9, -⟩ := hp; cases h9)
  obtain ⟨h9, rfl⟩ := hp
  cases h9
  refine W.eq (g2 := F0 m 16 ls [.int (1 : Int32)]) rfl ?_
  refine W.widen (k := 0) (n := 0) (by decide) (by decide) ?_
  have hP : va_P D kl [(m0, .inr (7, [.int th, .int (4 : Int32), .int (0 : Int32), .ref rw, .int (0 : Int32), .int (0 : Int32), .int (0 : Int32), .ref ry, .int (0 : Int32), .int (0 : Int32), .ref ti, .int (0 : Int32), .int (0 : Int32), .ref po, .ref su, .ref sq, .ref ch, .ref vt, .ref sh])), (vt, .inl (cI, 4, .inl (upd (upd (upd (upd vf 0 a) 1 b) 2 c2) 3 d2)))] H := hP
  have hD : va_D A [(m0, .inr (7, [.int th, .int (4 : Int32), .int (0 : Int32), .ref rw, .int (0 : Int32), .int (0 : Int32), .int (0 : Int32), .ref ry, .int (0 : Int32), .int (0 : Int32), .ref ti, .int (0 : Int32), .int (0 : Int32), .ref po, .ref su, .ref sq, .ref ch, .ref vt, .ref sh])), (vt, .inl (cI, 4, .inl (upd (upd (upd (upd vf 0 a) 1 b) 2 c2) 3 d2)))] := hD
  refine lv_if_ne (tgt := 26) hx hb d_M_least_16 (by decide) (fun _ => ?_) (fun h99 => absurd h99 (by decide))
  refine lv_aload_n hx hb d_M_least_26 rfl (lv_at hl 0 rfl) ?_
  refine lv_iconst (v := (2 : Int32)) hx hb d_M_least_27 (by decide) ?_
  refine cx_call (D := D) (cl := kl) (ws := _) (wc := [(m0, .inr (7, [.int th, .int (4 : Int32), .int (0 : Int32), .ref rw, .int (0 : Int32), .int (0 : Int32), .int (0 : Int32), .ref ry, .int (0 : Int32), .int (0 : Int32), .ref ti, .int (0 : Int32), .int (0 : Int32), .ref po, .ref su, .ref sq, .ref ch, .ref vt, .ref sh]))]) (wr := [(vt, .inl (cI, 4, .inl (upd (upd (upd (upd vf 0 a) 1 b) 2 c2) 3 d2)))]) (tx_runV (C := cn_M) (b := m0) (As := [.int (2 : Int32)]) (rest := []) hx hb hml hown (c_M_based2 E H.size m0 rw ry ti po su sq ch vt sh th (4 : Int32) (by decide)) (cx_C (b0 := b0) G hx0 mw_929 mw_9 ny_M_based (by decide)) (gw.at G hx0 mw_926 rfl _) (gw.at G hx0 mw_928 rfl _) (gw.at G hx0 ms_M_based rfl _) ⟨cx_blind, va_recv hK hP (q0 := 0) (ci := 7) (q := (cn_M, ft_M, 19)) rfl rfl, (cx_pre (s := s) hx0 hP hD hS hA0 [0] rfl rfl (by decide))⟩ rfl rfl hl.1 rfl (lv_room (Nat.le_of_ble_eq_true rfl)) d_M_least_28 ⟨by decide, by decide⟩) hP hD hS hA [0] [1] rfl rfl (by decide) (by decide) (fun v t w1 H locs ht hW9 hp hP hD hS => ?_) (fun x t w1 H locs ht hW9 hp hP hD hS => by obtain ⟨h9, -⟩ := hp; cases h9)
  obtain ⟨h9, rfl⟩ := hp
  cases h9
  refine W.eq (g2 := F0 m 31 ls [.int (0 : Int32)]) rfl ?_
  refine W.widen (k := 0) (n := 0) (by decide) (by decide) ?_
  have hP : va_P D kl [(vt, .inl (cI, 4, .inl (upd (upd (upd (upd vf 0 a) 1 b) 2 c2) 3 d2))), (m0, .inr (7, [.int (2 : Int32), .int (4 : Int32), .int (0 : Int32), .ref rw, .int (1 : Int32), .int (0 : Int32), .int (0 : Int32), .ref ry, .int (0 : Int32), .int (0 : Int32), .ref ti, .int (0 : Int32), .int (0 : Int32), .ref po, .ref su, .ref sq, .ref ch, .ref vt, .ref sh]))] H := hP
  have hD : va_D A [(vt, .inl (cI, 4, .inl (upd (upd (upd (upd vf 0 a) 1 b) 2 c2) 3 d2))), (m0, .inr (7, [.int (2 : Int32), .int (4 : Int32), .int (0 : Int32), .ref rw, .int (1 : Int32), .int (0 : Int32), .int (0 : Int32), .ref ry, .int (0 : Int32), .int (0 : Int32), .ref ti, .int (0 : Int32), .int (0 : Int32), .ref po, .ref su, .ref sq, .ref ch, .ref vt, .ref sh]))] := hD
  refine lv_if_ne (tgt := 36) hx hb d_M_least_31 (by decide) (fun h99 => absurd h99 (by decide)) (fun _ => ?_)
  refine lv_iconst (v := (0 : Int32)) hx hb d_M_least_34 (by decide) ?_
  exact tx_mono (fun _ h => tx_Z.of h) (W.iret (v := (0 : Int32)) hx hb hr (fun t ht hW => ⟨⟨[(m0, .inr (7, [.int (2 : Int32), .int (4 : Int32), .int (0 : Int32), .ref rw, .int (1 : Int32), .int (0 : Int32), .int (0 : Int32), .ref ry, .int (0 : Int32), .int (0 : Int32), .ref ti, .int (0 : Int32), .int (0 : Int32), .ref po, .ref su, .ref sq, .ref ch, .ref vt, .ref sh]))], ⟨rfl, rfl⟩, by rw [ht]; exact hP.sub [1] rfl, hD.sub [1] (by decide) rfl⟩, hS.F ht⟩) hS.2.2 d_M_least_35)

set_option maxHeartbeats 4000000 in
set_option maxRecDepth 100000 in
theorem c_M_add4_n {l : Launch} {s0 : State} {b0 : Addr} {D : va_G} {cI cJ cZ : ClassId} {tC tS : Nat} (E : gE l s0 b0 D cI cJ cZ tC tS) (sz : Nat) (m0 : Nat) (rw : Nat) (ry : Nat) (ti : Nat) (po : Nat) (su : Nat) (sq : Nat) (ch : Nat) (vt : Nat) (sh : Nat) (th : Int32) (a : Int32) (b : Int32) (c2 : Int32) (d2 : Int32) (vf : Nat → Int32) (h : ¬ (inw (5 : Int32) a = true ∧ inw (5 : Int32) b = true ∧ inw (5 : Int32) c2 = true ∧ inw (5 : Int32) d2 = true)) : cx_M l s0 D kl y_M_add b_M_add 6 (some .int) ({ frames := 2, cells := 0, slots := 0, locals := 44 } : Room) 0 0 [.ref m0, .int a, .int b, .int c2, .int d2] [(m0, .inr (7, [.int th, .int (4 : Int32), .int (0 : Int32), .ref rw, .int (0 : Int32), .int (0 : Int32), .int (0 : Int32), .ref ry, .int (0 : Int32), .int (0 : Int32), .ref ti, .int (0 : Int32), .int (0 : Int32), .ref po, .ref su, .ref sq, .ref ch, .ref vt, .ref sh])), (vt, .inl (cI, 4, .inl vf))] sz (fun o9 _ w9 => o9 = .returned (some (.int (0 : Int32))) ∧ w9 = [(m0, .inr (7, [.int (1 : Int32), .int (4 : Int32), .int (0 : Int32), .ref rw, .int (0 : Int32), .int (0 : Int32), .int (0 : Int32), .ref ry, .int (0 : Int32), .int (0 : Int32), .ref ti, .int (0 : Int32), .int (0 : Int32), .ref po, .ref su, .ref sq, .ref ch, .ref vt, .ref sh]))]) := by
  refine tx_ofW (cc := b_M_add) (maxL := 6) (ret := (some .int)) (by decide) rfl ?_
  intro p e s m args below meth c s₁ B hml hT hv
  obtain ⟨rfl, hsz, hP, hD0, hx0⟩ := hv
  have hx := B.exec
  have hb := B.bytes
  have hr := B.returns
  have G := E.2.1
  have hown : s.vm.findClass cn_M = some m.cls := findClass_of_methodNamed B.named
  have hlocks := B.notSynchronized
  have hK := va_K.moved hx0.1.alike E.2.2.1
  have hf_M : ∀ w99 ∈ u_ws cn_M ft_M 19, w99.before ([.ref m0, .int a, .int b, .int c2, .int d2] : List Value).toArray s = true := fun w99 h99 => gw.at G hx0 (fw_M w99 h99) (fo_M w99 h99) _
  subst hsz
  have hA0 := cx_new hD0 hx0.2.1
  have hD := hD0.self (sz := s.heap.size)
  generalize hAe : va_A [(m0, .inr (7, [.int th, .int (4 : Int32), .int (0 : Int32), .ref rw, .int (0 : Int32), .int (0 : Int32), .int (0 : Int32), .ref ry, .int (0 : Int32), .int (0 : Int32), .ref ti, .int (0 : Int32), .int (0 : Int32), .ref po, .ref su, .ref sq, .ref ch, .ref vt, .ref sh])), (vt, .inl (cI, 4, .inl vf))] s.heap.size = A at hD hA0 ⊢
  have hA : ∀ q : Nat, s.heap.size ≤ q → A q := fun q h => by rw [← hAe]; exact Or.inr h
  have hS : va_S A s.heap s.heap [] := va_S.rf
  have hl := lv_entry ([.ref m0, .int a, .int b, .int c2, .int d2]) (n := 6) (Nat.le_of_ble_eq_true rfl)
  rw [lg_entry_eq]
  generalize (lg_sl ([.ref m0, .int a, .int b, .int c2, .int d2]) ++ List.replicate (6 - (lg_sl ([.ref m0, .int a, .int b, .int c2, .int d2])).length) Slot.unset).toArray = ls at hl ⊢
  have hl : lv_has ls 6 [(0, .ref m0), (1, .int a), (2, .int b), (3, .int c2), (4, .int d2)] := hl
  have hP : va_P D kl [(m0, .inr (7, [.int th, .int (4 : Int32), .int (0 : Int32), .ref rw, .int (0 : Int32), .int (0 : Int32), .int (0 : Int32), .ref ry, .int (0 : Int32), .int (0 : Int32), .ref ti, .int (0 : Int32), .int (0 : Int32), .ref po, .ref su, .ref sq, .ref ch, .ref vt, .ref sh])), (vt, .inl (cI, 4, .inl vf))] s.heap := hP
  have hml : c.maxLocals = 6 := hml
  refine lv_aload_n hx hb d_M_add_0 rfl (lv_at hl 0 rfl) ?_
  refine lv_iload_n hx hb d_M_add_1 rfl (lv_at hl 1 rfl) ?_
  refine lv_iload_n hx hb d_M_add_2 rfl (lv_at hl 2 rfl) ?_
  refine lv_iload_n hx hb d_M_add_3 rfl (lv_at hl 3 rfl) ?_
  refine lv_iload hx hb d_M_add_4 (lv_at hl 4 rfl) ?_
  refine cx_call (D := D) (cl := kl) (ws := _) (wc := [(m0, .inr (7, [.int th, .int (4 : Int32), .int (0 : Int32), .ref rw, .int (0 : Int32), .int (0 : Int32), .int (0 : Int32), .ref ry, .int (0 : Int32), .int (0 : Int32), .ref ti, .int (0 : Int32), .int (0 : Int32), .ref po, .ref su, .ref sq, .ref ch, .ref vt, .ref sh])), (vt, .inl (cI, 4, .inl vf))]) (wr := []) (tx_runV (C := cn_M) (b := m0) (As := [.int a, .int b, .int c2, .int d2]) (rest := []) hx hb hml hown (c_M_set4 E s.heap.size m0 rw ry ti po su sq ch vt sh th a b c2 d2 vf ) (cx_C (b0 := b0) G hx0 mw_783 mw_9 ny_M_set (by decide)) (gw.at G hx0 mw_780 rfl _) (gw.at G hx0 mw_782 rfl _) (gw.at G hx0 ms_M_set rfl _) ⟨cx_blind, va_recv hK hP (q0 := 0) (ci := 7) (q := (cn_M, ft_M, 19)) rfl rfl, (cx_pre (s := s) hx0 hP hD hS hA0 [0, 1] rfl rfl (by decide))⟩ rfl rfl hl.1 rfl (lv_room (Nat.le_of_ble_eq_true rfl)) d_M_add_6 ⟨by decide, by decide⟩) hP hD hS hA [0, 1] [] rfl rfl (by decide) (by decide) (fun v t w1 H locs ht hW9 hp hP hD hS => ?_) (fun x t w1 H locs ht hW9 hp hP hD hS => by obtain ⟨h9, -⟩ := hp; cases h9)
  obtain ⟨h9, rfl⟩ := hp
  cases h9
  refine W.eq (g2 := F0 m 9 ls []) rfl ?_
  refine W.widen (k := 0) (n := 0) (by decide) (by decide) ?_
  have hP : va_P D kl [(m0, .inr (7, [.int th, .int (4 : Int32), .int (0 : Int32), .ref rw, .int (0 : Int32), .int (0 : Int32), .int (0 : Int32), .ref ry, .int (0 : Int32), .int (0 : Int32), .ref ti, .int (0 : Int32), .int (0 : Int32), .ref po, .ref su, .ref sq, .ref ch, .ref vt, .ref sh])), (vt, .inl (cI, 4, .inl (upd (upd (upd (upd vf 0 a) 1 b) 2 c2) 3 d2)))] H := hP
  have hD : va_D A [(m0, .inr (7, [.int th, .int (4 : Int32), .int (0 : Int32), .ref rw, .int (0 : Int32), .int (0 : Int32), .int (0 : Int32), .ref ry, .int (0 : Int32), .int (0 : Int32), .ref ti, .int (0 : Int32), .int (0 : Int32), .ref po, .ref su, .ref sq, .ref ch, .ref vt, .ref sh])), (vt, .inl (cI, 4, .inl (upd (upd (upd (upd vf 0 a) 1 b) 2 c2) 3 d2)))] := hD
  refine lv_aload_n hx hb d_M_add_9 rfl (lv_at hl 0 rfl) ?_
  refine lv_aload_n hx hb d_M_add_10 rfl (lv_at hl 0 rfl) ?_
  refine lv_iconst (v := (5 : Int32)) hx hb d_M_add_11 (by decide) ?_
  refine cx_call (D := D) (cl := kl) (ws := _) (wc := [(m0, .inr (7, [.int th, .int (4 : Int32), .int (0 : Int32), .ref rw, .int (0 : Int32), .int (0 : Int32), .int (0 : Int32), .ref ry, .int (0 : Int32), .int (0 : Int32), .ref ti, .int (0 : Int32), .int (0 : Int32), .ref po, .ref su, .ref sq, .ref ch, .ref vt, .ref sh])), (vt, .inl (cI, 4, .inl (upd (upd (upd (upd vf 0 a) 1 b) 2 c2) 3 d2)))]) (wr := []) (tx_runV (C := cn_M) (b := m0) (As := [.int (5 : Int32)]) (rest := [.ref m0]) hx hb hml hown (c_M_within4_n E H.size m0 rw ry ti po su sq ch vt sh th (5 : Int32) (upd (upd (upd (upd vf 0 a) 1 b) 2 c2) 3 d2) h) (cx_C (b0 := b0) G hx0 mw_787 mw_9 ny_M_within (by decide)) (gw.at G hx0 mw_784 rfl _) (gw.at G hx0 mw_786 rfl _) (gw.at G hx0 ms_M_within rfl _) ⟨cx_blind, va_recv hK hP (q0 := 0) (ci := 7) (q := (cn_M, ft_M, 19)) rfl rfl, (cx_pre (s := s) hx0 hP hD hS hA0 [0, 1] rfl rfl (by decide))⟩ rfl rfl hl.1 rfl (lv_room (Nat.le_of_ble_eq_true rfl)) d_M_add_12 ⟨by decide, by decide⟩) hP hD hS hA [0, 1] [] rfl rfl (by decide) (by decide) (fun v t w1 H locs ht hW9 hp hP hD hS => ?_) (fun x t w1 H locs ht hW9 hp hP hD hS => by obtain ⟨h9, -⟩ := hp; cases h9)
  obtain ⟨h9, rfl⟩ := hp
  cases h9
  refine W.eq (g2 := F0 m 15 ls [.int (0 : Int32), .ref m0]) rfl ?_
  refine W.widen (k := 0) (n := 0) (by decide) (by decide) ?_
  have hP : va_P D kl [(m0, .inr (7, [.int th, .int (4 : Int32), .int (0 : Int32), .ref rw, .int (0 : Int32), .int (0 : Int32), .int (0 : Int32), .ref ry, .int (0 : Int32), .int (0 : Int32), .ref ti, .int (0 : Int32), .int (0 : Int32), .ref po, .ref su, .ref sq, .ref ch, .ref vt, .ref sh])), (vt, .inl (cI, 4, .inl (upd (upd (upd (upd vf 0 a) 1 b) 2 c2) 3 d2)))] H := hP
  have hD : va_D A [(m0, .inr (7, [.int th, .int (4 : Int32), .int (0 : Int32), .ref rw, .int (0 : Int32), .int (0 : Int32), .int (0 : Int32), .ref ry, .int (0 : Int32), .int (0 : Int32), .ref ti, .int (0 : Int32), .int (0 : Int32), .ref po, .ref su, .ref sq, .ref ch, .ref vt, .ref sh])), (vt, .inl (cI, 4, .inl (upd (upd (upd (upd vf 0 a) 1 b) 2 c2) 3 d2)))] := hD
  refine lv_if_eq (tgt := 25) hx hb d_M_add_15 (by decide) (fun _ => ?_) (fun h99 => absurd h99 (by decide))
  refine lv_iconst (v := (1 : Int32)) hx hb d_M_add_25 (by decide) ?_
  refine lv_goto (tgt := 43) hx hb d_M_add_26 (by decide) ?_
  refine va_put (D := D) (ci := 7) (v := .int (1 : Int32)) (ty := .int) (C := cn_M) (T := ft_M) (N := 19) hx hb hf_M (fun _ h => h) fy_M fk_M fn_M hown hK hP hD hS 0 rfl rfl 0 (by decide) (gw.at G hx0 mw_713 rfl _) (fun _ h9 => h9) rfl (by decide +kernel) rfl rfl (Nat.le_of_ble_eq_true rfl) d_M_add_43 (fun H locs hP hD hS => ?_)
  have hP : va_P D kl [(m0, .inr (7, [.int (1 : Int32), .int (4 : Int32), .int (0 : Int32), .ref rw, .int (0 : Int32), .int (0 : Int32), .int (0 : Int32), .ref ry, .int (0 : Int32), .int (0 : Int32), .ref ti, .int (0 : Int32), .int (0 : Int32), .ref po, .ref su, .ref sq, .ref ch, .ref vt, .ref sh])), (vt, .inl (cI, 4, .inl (upd (upd (upd (upd vf 0 a) 1 b) 2 c2) 3 d2)))] H := hP
  have hD : va_D A [(m0, .inr (7, [.int (1 : Int32), .int (4 : Int32), .int (0 : Int32), .ref rw, .int (0 : Int32), .int (0 : Int32), .int (0 : Int32), .ref ry, .int (0 : Int32), .int (0 : Int32), .ref ti, .int (0 : Int32), .int (0 : Int32), .ref po, .ref su, .ref sq, .ref ch, .ref vt, .ref sh])), (vt, .inl (cI, 4, .inl (upd (upd (upd (upd vf 0 a) 1 b) 2 c2) 3 d2)))] := hD
  refine lv_aload_n hx hb d_M_add_46 rfl (lv_at hl 0 rfl) ?_
  refine va_get (D := D) (ci := 7) (v := .int (1 : Int32)) (C := cn_M) (T := ft_M) (N := 19) hx hb hf_M (fun _ h => h) hown hK hP 0 rfl rfl 0 (by decide) (gw.at G hx0 mw_713 rfl _) (fun _ h9 => h9) rfl d_M_add_47 ?_
  refine lv_if_le (tgt := 55) hx hb d_M_add_50 (by decide) (fun h99 => absurd h99 (by decide)) (fun _ => ?_)
  refine lv_iconst (v := (0 : Int32)) hx hb d_M_add_53 (by decide) ?_
  exact tx_mono (fun _ h => tx_Z.of h) (W.iret (v := (0 : Int32)) hx hb hr (fun t ht hW => ⟨⟨[(m0, .inr (7, [.int (1 : Int32), .int (4 : Int32), .int (0 : Int32), .ref rw, .int (0 : Int32), .int (0 : Int32), .int (0 : Int32), .ref ry, .int (0 : Int32), .int (0 : Int32), .ref ti, .int (0 : Int32), .int (0 : Int32), .ref po, .ref su, .ref sq, .ref ch, .ref vt, .ref sh]))], ⟨rfl, rfl⟩, by rw [ht]; exact hP.sub [0] rfl, hD.sub [0] (by decide) rfl⟩, hS.F ht⟩) hS.2.2 d_M_add_54)

set_option maxHeartbeats 4000000 in
set_option maxRecDepth 100000 in
theorem c_M_add4_z {l : Launch} {s0 : State} {b0 : Addr} {D : va_G} {cI cJ cZ : ClassId} {tC tS : Nat} (E : gE l s0 b0 D cI cJ cZ tC tS) (sz : Nat) (m0 : Nat) (rw : Nat) (ry : Nat) (ti : Nat) (po : Nat) (su : Nat) (sq : Nat) (ch : Nat) (vt : Nat) (sh : Nat) (th : Int32) (a : Int32) (b : Int32) (c2 : Int32) (d2 : Int32) (vf : Nat → Int32) (h : inw (5 : Int32) a = true ∧ inw (5 : Int32) b = true ∧ inw (5 : Int32) c2 = true ∧ inw (5 : Int32) d2 = true) (h2 : all4 a b c2 d2) : cx_M l s0 D kl y_M_add b_M_add 6 (some .int) ({ frames := 2, cells := 0, slots := 0, locals := 44 } : Room) 0 0 [.ref m0, .int a, .int b, .int c2, .int d2] [(m0, .inr (7, [.int th, .int (4 : Int32), .int (0 : Int32), .ref rw, .int (0 : Int32), .int (0 : Int32), .int (0 : Int32), .ref ry, .int (0 : Int32), .int (0 : Int32), .ref ti, .int (0 : Int32), .int (0 : Int32), .ref po, .ref su, .ref sq, .ref ch, .ref vt, .ref sh])), (vt, .inl (cI, 4, .inl vf))] sz (fun o9 _ w9 => o9 = .returned (some (.int (0 : Int32))) ∧ w9 = [(m0, .inr (7, [.int (1 : Int32), .int (4 : Int32), .int (0 : Int32), .ref rw, .int (0 : Int32), .int (0 : Int32), .int (0 : Int32), .ref ry, .int (0 : Int32), .int (0 : Int32), .ref ti, .int (0 : Int32), .int (0 : Int32), .ref po, .ref su, .ref sq, .ref ch, .ref vt, .ref sh]))]) := by
  refine tx_ofW (cc := b_M_add) (maxL := 6) (ret := (some .int)) (by decide) rfl ?_
  intro p e s m args below meth c s₁ B hml hT hv
  obtain ⟨rfl, hsz, hP, hD0, hx0⟩ := hv
  have hx := B.exec
  have hb := B.bytes
  have hr := B.returns
  have G := E.2.1
  have hown : s.vm.findClass cn_M = some m.cls := findClass_of_methodNamed B.named
  have hlocks := B.notSynchronized
  have hK := va_K.moved hx0.1.alike E.2.2.1
  have hf_M : ∀ w99 ∈ u_ws cn_M ft_M 19, w99.before ([.ref m0, .int a, .int b, .int c2, .int d2] : List Value).toArray s = true := fun w99 h99 => gw.at G hx0 (fw_M w99 h99) (fo_M w99 h99) _
  subst hsz
  have hA0 := cx_new hD0 hx0.2.1
  have hD := hD0.self (sz := s.heap.size)
  generalize hAe : va_A [(m0, .inr (7, [.int th, .int (4 : Int32), .int (0 : Int32), .ref rw, .int (0 : Int32), .int (0 : Int32), .int (0 : Int32), .ref ry, .int (0 : Int32), .int (0 : Int32), .ref ti, .int (0 : Int32), .int (0 : Int32), .ref po, .ref su, .ref sq, .ref ch, .ref vt, .ref sh])), (vt, .inl (cI, 4, .inl vf))] s.heap.size = A at hD hA0 ⊢
  have hA : ∀ q : Nat, s.heap.size ≤ q → A q := fun q h => by rw [← hAe]; exact Or.inr h
  have hS : va_S A s.heap s.heap [] := va_S.rf
  have hl := lv_entry ([.ref m0, .int a, .int b, .int c2, .int d2]) (n := 6) (Nat.le_of_ble_eq_true rfl)
  rw [lg_entry_eq]
  generalize (lg_sl ([.ref m0, .int a, .int b, .int c2, .int d2]) ++ List.replicate (6 - (lg_sl ([.ref m0, .int a, .int b, .int c2, .int d2])).length) Slot.unset).toArray = ls at hl ⊢
  have hl : lv_has ls 6 [(0, .ref m0), (1, .int a), (2, .int b), (3, .int c2), (4, .int d2)] := hl
  have hP : va_P D kl [(m0, .inr (7, [.int th, .int (4 : Int32), .int (0 : Int32), .ref rw, .int (0 : Int32), .int (0 : Int32), .int (0 : Int32), .ref ry, .int (0 : Int32), .int (0 : Int32), .ref ti, .int (0 : Int32), .int (0 : Int32), .ref po, .ref su, .ref sq, .ref ch, .ref vt, .ref sh])), (vt, .inl (cI, 4, .inl vf))] s.heap := hP
  have hml : c.maxLocals = 6 := hml
  refine lv_aload_n hx hb d_M_add_0 rfl (lv_at hl 0 rfl) ?_
  refine lv_iload_n hx hb d_M_add_1 rfl (lv_at hl 1 rfl) ?_
  refine lv_iload_n hx hb d_M_add_2 rfl (lv_at hl 2 rfl) ?_
  refine lv_iload_n hx hb d_M_add_3 rfl (lv_at hl 3 rfl) ?_
  refine lv_iload hx hb d_M_add_4 (lv_at hl 4 rfl) ?_
  refine cx_call (D := D) (cl := kl) (ws := _) (wc := [(m0, .inr (7, [.int th, .int (4 : Int32), .int (0 : Int32), .ref rw, .int (0 : Int32), .int (0 : Int32), .int (0 : Int32), .ref ry, .int (0 : Int32), .int (0 : Int32), .ref ti, .int (0 : Int32), .int (0 : Int32), .ref po, .ref su, .ref sq, .ref ch, .ref vt, .ref sh])), (vt, .inl (cI, 4, .inl vf))]) (wr := []) (tx_runV (C := cn_M) (b := m0) (As := [.int a, .int b, .int c2, .int d2]) (rest := []) hx hb hml hown (c_M_set4 E s.heap.size m0 rw ry ti po su sq ch vt sh th a b c2 d2 vf ) (cx_C (b0 := b0) G hx0 mw_783 mw_9 ny_M_set (by decide)) (gw.at G hx0 mw_780 rfl _) (gw.at G hx0 mw_782 rfl _) (gw.at G hx0 ms_M_set rfl _) ⟨cx_blind, va_recv hK hP (q0 := 0) (ci := 7) (q := (cn_M, ft_M, 19)) rfl rfl, (cx_pre (s := s) hx0 hP hD hS hA0 [0, 1] rfl rfl (by decide))⟩ rfl rfl hl.1 rfl (lv_room (Nat.le_of_ble_eq_true rfl)) d_M_add_6 ⟨by decide, by decide⟩) hP hD hS hA [0, 1] [] rfl rfl (by decide) (by decide) (fun v t w1 H locs ht hW9 hp hP hD hS => ?_) (fun x t w1 H locs ht hW9 hp hP hD hS => by obtain ⟨h9, -⟩ := hp; cases h9)
  obtain ⟨h9, rfl⟩ := hp
  cases h9
  refine W.eq (g2 := F0 m 9 ls []) rfl ?_
  refine W.widen (k := 0) (n := 0) (by decide) (by decide) ?_
  have hP : va_P D kl [(m0, .inr (7, [.int th, .int (4 : Int32), .int (0 : Int32), .ref rw, .int (0 : Int32), .int (0 : Int32), .int (0 : Int32), .ref ry, .int (0 : Int32), .int (0 : Int32), .ref ti, .int (0 : Int32), .int (0 : Int32), .ref po, .ref su, .ref sq, .ref ch, .ref vt, .ref sh])), (vt, .inl (cI, 4, .inl (upd (upd (upd (upd vf 0 a) 1 b) 2 c2) 3 d2)))] H := hP
  have hD : va_D A [(m0, .inr (7, [.int th, .int (4 : Int32), .int (0 : Int32), .ref rw, .int (0 : Int32), .int (0 : Int32), .int (0 : Int32), .ref ry, .int (0 : Int32), .int (0 : Int32), .ref ti, .int (0 : Int32), .int (0 : Int32), .ref po, .ref su, .ref sq, .ref ch, .ref vt, .ref sh])), (vt, .inl (cI, 4, .inl (upd (upd (upd (upd vf 0 a) 1 b) 2 c2) 3 d2)))] := hD
  refine lv_aload_n hx hb d_M_add_9 rfl (lv_at hl 0 rfl) ?_
  refine lv_aload_n hx hb d_M_add_10 rfl (lv_at hl 0 rfl) ?_
  refine lv_iconst (v := (5 : Int32)) hx hb d_M_add_11 (by decide) ?_
  refine cx_call (D := D) (cl := kl) (ws := _) (wc := [(m0, .inr (7, [.int th, .int (4 : Int32), .int (0 : Int32), .ref rw, .int (0 : Int32), .int (0 : Int32), .int (0 : Int32), .ref ry, .int (0 : Int32), .int (0 : Int32), .ref ti, .int (0 : Int32), .int (0 : Int32), .ref po, .ref su, .ref sq, .ref ch, .ref vt, .ref sh])), (vt, .inl (cI, 4, .inl (upd (upd (upd (upd vf 0 a) 1 b) 2 c2) 3 d2)))]) (wr := []) (tx_runV (C := cn_M) (b := m0) (As := [.int (5 : Int32)]) (rest := [.ref m0]) hx hb hml hown (c_M_within4_y E H.size m0 rw ry ti po su sq ch vt sh th (5 : Int32) (upd (upd (upd (upd vf 0 a) 1 b) 2 c2) 3 d2) h) (cx_C (b0 := b0) G hx0 mw_787 mw_9 ny_M_within (by decide)) (gw.at G hx0 mw_784 rfl _) (gw.at G hx0 mw_786 rfl _) (gw.at G hx0 ms_M_within rfl _) ⟨cx_blind, va_recv hK hP (q0 := 0) (ci := 7) (q := (cn_M, ft_M, 19)) rfl rfl, (cx_pre (s := s) hx0 hP hD hS hA0 [0, 1] rfl rfl (by decide))⟩ rfl rfl hl.1 rfl (lv_room (Nat.le_of_ble_eq_true rfl)) d_M_add_12 ⟨by decide, by decide⟩) hP hD hS hA [0, 1] [] rfl rfl (by decide) (by decide) (fun v t w1 H locs ht hW9 hp hP hD hS => ?_) (fun x t w1 H locs ht hW9 hp hP hD hS => by obtain ⟨h9, -⟩ := hp; cases h9)
  obtain ⟨h9, rfl⟩ := hp
  cases h9
  refine W.eq (g2 := F0 m 15 ls [.int (1 : Int32), .ref m0]) rfl ?_
  refine W.widen (k := 0) (n := 0) (by decide) (by decide) ?_
  have hP : va_P D kl [(m0, .inr (7, [.int th, .int (4 : Int32), .int (0 : Int32), .ref rw, .int (0 : Int32), .int (0 : Int32), .int (0 : Int32), .ref ry, .int (0 : Int32), .int (0 : Int32), .ref ti, .int (0 : Int32), .int (0 : Int32), .ref po, .ref su, .ref sq, .ref ch, .ref vt, .ref sh])), (vt, .inl (cI, 4, .inl (upd (upd (upd (upd vf 0 a) 1 b) 2 c2) 3 d2)))] H := hP
  have hD : va_D A [(m0, .inr (7, [.int th, .int (4 : Int32), .int (0 : Int32), .ref rw, .int (0 : Int32), .int (0 : Int32), .int (0 : Int32), .ref ry, .int (0 : Int32), .int (0 : Int32), .ref ti, .int (0 : Int32), .int (0 : Int32), .ref po, .ref su, .ref sq, .ref ch, .ref vt, .ref sh])), (vt, .inl (cI, 4, .inl (upd (upd (upd (upd vf 0 a) 1 b) 2 c2) 3 d2)))] := hD
  refine lv_if_eq (tgt := 25) hx hb d_M_add_15 (by decide) (fun h99 => absurd h99 (by decide)) (fun _ => ?_)
  refine lv_aload_n hx hb d_M_add_18 rfl (lv_at hl 0 rfl) ?_
  refine cx_call (D := D) (cl := kl) (ws := _) (wc := [(m0, .inr (7, [.int th, .int (4 : Int32), .int (0 : Int32), .ref rw, .int (0 : Int32), .int (0 : Int32), .int (0 : Int32), .ref ry, .int (0 : Int32), .int (0 : Int32), .ref ti, .int (0 : Int32), .int (0 : Int32), .ref po, .ref su, .ref sq, .ref ch, .ref vt, .ref sh])), (vt, .inl (cI, 4, .inl (upd (upd (upd (upd vf 0 a) 1 b) 2 c2) 3 d2)))]) (wr := []) (tx_runV (C := cn_M) (b := m0) (As := []) (rest := [.ref m0]) hx hb hml hown (c_M_nothing_y E H.size m0 rw ry ti po su sq ch vt sh th (4 : Int32) (upd (upd (upd (upd vf 0 a) 1 b) 2 c2) 3 d2) h2) (cx_C (b0 := b0) G hx0 mw_794 mw_9 ny_M_nothing (by decide)) (gw.at G hx0 mw_791 rfl _) (gw.at G hx0 mw_793 rfl _) (gw.at G hx0 ms_M_nothing rfl _) ⟨cx_blind, va_recv hK hP (q0 := 0) (ci := 7) (q := (cn_M, ft_M, 19)) rfl rfl, (cx_pre (s := s) hx0 hP hD hS hA0 [0, 1] rfl rfl (by decide))⟩ rfl rfl hl.1 rfl (lv_room (Nat.le_of_ble_eq_true rfl)) d_M_add_19 ⟨by decide, by decide⟩) hP hD hS hA [0, 1] [] rfl rfl (by decide) (by decide) (fun v t w1 H locs ht hW9 hp hP hD hS => ?_) (fun x t w1 H locs ht hW9 hp hP hD hS => by obtain ⟨h9, -⟩ := hp; cases h9)
  obtain ⟨h9, rfl⟩ := hp
  cases h9
  refine W.eq (g2 := F0 m 22 ls [.int (1 : Int32), .ref m0]) rfl ?_
  refine W.widen (k := 0) (n := 0) (by decide) (by decide) ?_
  have hP : va_P D kl [(m0, .inr (7, [.int th, .int (4 : Int32), .int (0 : Int32), .ref rw, .int (0 : Int32), .int (0 : Int32), .int (0 : Int32), .ref ry, .int (0 : Int32), .int (0 : Int32), .ref ti, .int (0 : Int32), .int (0 : Int32), .ref po, .ref su, .ref sq, .ref ch, .ref vt, .ref sh])), (vt, .inl (cI, 4, .inl (upd (upd (upd (upd vf 0 a) 1 b) 2 c2) 3 d2)))] H := hP
  have hD : va_D A [(m0, .inr (7, [.int th, .int (4 : Int32), .int (0 : Int32), .ref rw, .int (0 : Int32), .int (0 : Int32), .int (0 : Int32), .ref ry, .int (0 : Int32), .int (0 : Int32), .ref ti, .int (0 : Int32), .int (0 : Int32), .ref po, .ref su, .ref sq, .ref ch, .ref vt, .ref sh])), (vt, .inl (cI, 4, .inl (upd (upd (upd (upd vf 0 a) 1 b) 2 c2) 3 d2)))] := hD
  refine lv_if_eq (tgt := 29) hx hb d_M_add_22 (by decide) (fun h99 => absurd h99 (by decide)) (fun _ => ?_)
  refine lv_iconst (v := (1 : Int32)) hx hb d_M_add_25 (by decide) ?_
  refine lv_goto (tgt := 43) hx hb d_M_add_26 (by decide) ?_
  refine va_put (D := D) (ci := 7) (v := .int (1 : Int32)) (ty := .int) (C := cn_M) (T := ft_M) (N := 19) hx hb hf_M (fun _ h => h) fy_M fk_M fn_M hown hK hP hD hS 0 rfl rfl 0 (by decide) (gw.at G hx0 mw_713 rfl _) (fun _ h9 => h9) rfl (by decide +kernel) rfl rfl (Nat.le_of_ble_eq_true rfl) d_M_add_43 (fun H locs hP hD hS => ?_)
  have hP : va_P D kl [(m0, .inr (7, [.int (1 : Int32), .int (4 : Int32), .int (0 : Int32), .ref rw, .int (0 : Int32), .int (0 : Int32), .int (0 : Int32), .ref ry, .int (0 : Int32), .int (0 : Int32), .ref ti, .int (0 : Int32), .int (0 : Int32), .ref po, .ref su, .ref sq, .ref ch, .ref vt, .ref sh])), (vt, .inl (cI, 4, .inl (upd (upd (upd (upd vf 0 a) 1 b) 2 c2) 3 d2)))] H := hP
  have hD : va_D A [(m0, .inr (7, [.int (1 : Int32), .int (4 : Int32), .int (0 : Int32), .ref rw, .int (0 : Int32), .int (0 : Int32), .int (0 : Int32), .ref ry, .int (0 : Int32), .int (0 : Int32), .ref ti, .int (0 : Int32), .int (0 : Int32), .ref po, .ref su, .ref sq, .ref ch, .ref vt, .ref sh])), (vt, .inl (cI, 4, .inl (upd (upd (upd (upd vf 0 a) 1 b) 2 c2) 3 d2)))] := hD
  refine lv_aload_n hx hb d_M_add_46 rfl (lv_at hl 0 rfl) ?_
  refine va_get (D := D) (ci := 7) (v := .int (1 : Int32)) (C := cn_M) (T := ft_M) (N := 19) hx hb hf_M (fun _ h => h) hown hK hP 0 rfl rfl 0 (by decide) (gw.at G hx0 mw_713 rfl _) (fun _ h9 => h9) rfl d_M_add_47 ?_
  refine lv_if_le (tgt := 55) hx hb d_M_add_50 (by decide) (fun h99 => absurd h99 (by decide)) (fun _ => ?_)
  refine lv_iconst (v := (0 : Int32)) hx hb d_M_add_53 (by decide) ?_
  exact tx_mono (fun _ h => tx_Z.of h) (W.iret (v := (0 : Int32)) hx hb hr (fun t ht hW => ⟨⟨[(m0, .inr (7, [.int (1 : Int32), .int (4 : Int32), .int (0 : Int32), .ref rw, .int (0 : Int32), .int (0 : Int32), .int (0 : Int32), .ref ry, .int (0 : Int32), .int (0 : Int32), .ref ti, .int (0 : Int32), .int (0 : Int32), .ref po, .ref su, .ref sq, .ref ch, .ref vt, .ref sh]))], ⟨rfl, rfl⟩, by rw [ht]; exact hP.sub [0] rfl, hD.sub [0] (by decide) rfl⟩, hS.F ht⟩) hS.2.2 d_M_add_54)

set_option maxHeartbeats 4000000 in
set_option maxRecDepth 100000 in
theorem c_M_add4_y {l : Launch} {s0 : State} {b0 : Addr} {D : va_G} {cI cJ cZ : ClassId} {tC tS : Nat} (E : gE l s0 b0 D cI cJ cZ tC tS) (sz : Nat) (m0 : Nat) (rw : Nat) (ry : Nat) (ti : Nat) (po : Nat) (su : Nat) (sq : Nat) (ch : Nat) (vt : Nat) (sh : Nat) (th : Int32) (a : Int32) (b : Int32) (c2 : Int32) (d2 : Int32) (vf : Nat → Int32) (wf : Nat → Int32) (h : inw (5 : Int32) a = true ∧ inw (5 : Int32) b = true ∧ inw (5 : Int32) c2 = true ∧ inw (5 : Int32) d2 = true) (h2 : ¬ all4 a b c2 d2) : cx_M l s0 D kl y_M_add b_M_add 6 (some .int) ({ frames := 2, cells := 0, slots := 0, locals := 44 } : Room) 0 0 [.ref m0, .int a, .int b, .int c2, .int d2] [(m0, .inr (7, [.int th, .int (4 : Int32), .int (0 : Int32), .ref rw, .int (0 : Int32), .int (0 : Int32), .int (0 : Int32), .ref ry, .int (0 : Int32), .int (0 : Int32), .ref ti, .int (0 : Int32), .int (0 : Int32), .ref po, .ref su, .ref sq, .ref ch, .ref vt, .ref sh])), (vt, .inl (cI, 4, .inl vf)), (rw, .inl (cI, 32, .inl wf))] sz (fun o9 _ w9 => o9 = .returned (some (.int (0 : Int32))) ∧ w9 = [(m0, .inr (7, [.int (0 : Int32), .int (4 : Int32), .int (1 : Int32), .ref rw, .int (0 : Int32), .int (0 : Int32), .int (0 : Int32), .ref ry, .int (0 : Int32), .int (0 : Int32), .ref ti, .int (0 : Int32), .int (0 : Int32), .ref po, .ref su, .ref sq, .ref ch, .ref vt, .ref sh]))]) := by
  refine tx_ofW (cc := b_M_add) (maxL := 6) (ret := (some .int)) (by decide) rfl ?_
  intro p e s m args below meth c s₁ B hml hT hv
  obtain ⟨rfl, hsz, hP, hD0, hx0⟩ := hv
  have hx := B.exec
  have hb := B.bytes
  have hr := B.returns
  have G := E.2.1
  have hown : s.vm.findClass cn_M = some m.cls := findClass_of_methodNamed B.named
  have hlocks := B.notSynchronized
  have hK := va_K.moved hx0.1.alike E.2.2.1
  have hf_M : ∀ w99 ∈ u_ws cn_M ft_M 19, w99.before ([.ref m0, .int a, .int b, .int c2, .int d2] : List Value).toArray s = true := fun w99 h99 => gw.at G hx0 (fw_M w99 h99) (fo_M w99 h99) _
  subst hsz
  have hA0 := cx_new hD0 hx0.2.1
  have hD := hD0.self (sz := s.heap.size)
  generalize hAe : va_A [(m0, .inr (7, [.int th, .int (4 : Int32), .int (0 : Int32), .ref rw, .int (0 : Int32), .int (0 : Int32), .int (0 : Int32), .ref ry, .int (0 : Int32), .int (0 : Int32), .ref ti, .int (0 : Int32), .int (0 : Int32), .ref po, .ref su, .ref sq, .ref ch, .ref vt, .ref sh])), (vt, .inl (cI, 4, .inl vf)), (rw, .inl (cI, 32, .inl wf))] s.heap.size = A at hD hA0 ⊢
  have hA : ∀ q : Nat, s.heap.size ≤ q → A q := fun q h => by rw [← hAe]; exact Or.inr h
  have hS : va_S A s.heap s.heap [] := va_S.rf
  have hl := lv_entry ([.ref m0, .int a, .int b, .int c2, .int d2]) (n := 6) (Nat.le_of_ble_eq_true rfl)
  rw [lg_entry_eq]
  generalize (lg_sl ([.ref m0, .int a, .int b, .int c2, .int d2]) ++ List.replicate (6 - (lg_sl ([.ref m0, .int a, .int b, .int c2, .int d2])).length) Slot.unset).toArray = ls at hl ⊢
  have hl : lv_has ls 6 [(0, .ref m0), (1, .int a), (2, .int b), (3, .int c2), (4, .int d2)] := hl
  have hP : va_P D kl [(m0, .inr (7, [.int th, .int (4 : Int32), .int (0 : Int32), .ref rw, .int (0 : Int32), .int (0 : Int32), .int (0 : Int32), .ref ry, .int (0 : Int32), .int (0 : Int32), .ref ti, .int (0 : Int32), .int (0 : Int32), .ref po, .ref su, .ref sq, .ref ch, .ref vt, .ref sh])), (vt, .inl (cI, 4, .inl vf)), (rw, .inl (cI, 32, .inl wf))] s.heap := hP
  have hml : c.maxLocals = 6 := hml
  refine lv_aload_n hx hb d_M_add_0 rfl (lv_at hl 0 rfl) ?_
  refine lv_iload_n hx hb d_M_add_1 rfl (lv_at hl 1 rfl) ?_
  refine lv_iload_n hx hb d_M_add_2 rfl (lv_at hl 2 rfl) ?_
  refine lv_iload_n hx hb d_M_add_3 rfl (lv_at hl 3 rfl) ?_
  refine lv_iload hx hb d_M_add_4 (lv_at hl 4 rfl) ?_
  refine cx_call (D := D) (cl := kl) (ws := _) (wc := [(m0, .inr (7, [.int th, .int (4 : Int32), .int (0 : Int32), .ref rw, .int (0 : Int32), .int (0 : Int32), .int (0 : Int32), .ref ry, .int (0 : Int32), .int (0 : Int32), .ref ti, .int (0 : Int32), .int (0 : Int32), .ref po, .ref su, .ref sq, .ref ch, .ref vt, .ref sh])), (vt, .inl (cI, 4, .inl vf))]) (wr := [(rw, .inl (cI, 32, .inl wf))]) (tx_runV (C := cn_M) (b := m0) (As := [.int a, .int b, .int c2, .int d2]) (rest := []) hx hb hml hown (c_M_set4 E s.heap.size m0 rw ry ti po su sq ch vt sh th a b c2 d2 vf ) (cx_C (b0 := b0) G hx0 mw_783 mw_9 ny_M_set (by decide)) (gw.at G hx0 mw_780 rfl _) (gw.at G hx0 mw_782 rfl _) (gw.at G hx0 ms_M_set rfl _) ⟨cx_blind, va_recv hK hP (q0 := 0) (ci := 7) (q := (cn_M, ft_M, 19)) rfl rfl, (cx_pre (s := s) hx0 hP hD hS hA0 [0, 1] rfl rfl (by decide))⟩ rfl rfl hl.1 rfl (lv_room (Nat.le_of_ble_eq_true rfl)) d_M_add_6 ⟨by decide, by decide⟩) hP hD hS hA [0, 1] [2] rfl rfl (by decide) (by decide) (fun v t w1 H locs ht hW9 hp hP hD hS => ?_) (fun x t w1 H locs ht hW9 hp hP hD hS => by obtain ⟨h9, -⟩ := hp; cases h9)
  obtain ⟨h9, rfl⟩ := hp
  cases h9
  refine W.eq (g2 := F0 m 9 ls []) rfl ?_
  refine W.widen (k := 0) (n := 0) (by decide) (by decide) ?_
  have hP : va_P D kl [(rw, .inl (cI, 32, .inl wf)), (m0, .inr (7, [.int th, .int (4 : Int32), .int (0 : Int32), .ref rw, .int (0 : Int32), .int (0 : Int32), .int (0 : Int32), .ref ry, .int (0 : Int32), .int (0 : Int32), .ref ti, .int (0 : Int32), .int (0 : Int32), .ref po, .ref su, .ref sq, .ref ch, .ref vt, .ref sh])), (vt, .inl (cI, 4, .inl (upd (upd (upd (upd vf 0 a) 1 b) 2 c2) 3 d2)))] H := hP
  have hD : va_D A [(rw, .inl (cI, 32, .inl wf)), (m0, .inr (7, [.int th, .int (4 : Int32), .int (0 : Int32), .ref rw, .int (0 : Int32), .int (0 : Int32), .int (0 : Int32), .ref ry, .int (0 : Int32), .int (0 : Int32), .ref ti, .int (0 : Int32), .int (0 : Int32), .ref po, .ref su, .ref sq, .ref ch, .ref vt, .ref sh])), (vt, .inl (cI, 4, .inl (upd (upd (upd (upd vf 0 a) 1 b) 2 c2) 3 d2)))] := hD
  refine lv_aload_n hx hb d_M_add_9 rfl (lv_at hl 0 rfl) ?_
  refine lv_aload_n hx hb d_M_add_10 rfl (lv_at hl 0 rfl) ?_
  refine lv_iconst (v := (5 : Int32)) hx hb d_M_add_11 (by decide) ?_
  refine cx_call (D := D) (cl := kl) (ws := _) (wc := [(m0, .inr (7, [.int th, .int (4 : Int32), .int (0 : Int32), .ref rw, .int (0 : Int32), .int (0 : Int32), .int (0 : Int32), .ref ry, .int (0 : Int32), .int (0 : Int32), .ref ti, .int (0 : Int32), .int (0 : Int32), .ref po, .ref su, .ref sq, .ref ch, .ref vt, .ref sh])), (vt, .inl (cI, 4, .inl (upd (upd (upd (upd vf 0 a) 1 b) 2 c2) 3 d2)))]) (wr := [(rw, .inl (cI, 32, .inl wf))]) (tx_runV (C := cn_M) (b := m0) (As := [.int (5 : Int32)]) (rest := [.ref m0]) hx hb hml hown (c_M_within4_y E H.size m0 rw ry ti po su sq ch vt sh th (5 : Int32) (upd (upd (upd (upd vf 0 a) 1 b) 2 c2) 3 d2) h) (cx_C (b0 := b0) G hx0 mw_787 mw_9 ny_M_within (by decide)) (gw.at G hx0 mw_784 rfl _) (gw.at G hx0 mw_786 rfl _) (gw.at G hx0 ms_M_within rfl _) ⟨cx_blind, va_recv hK hP (q0 := 1) (ci := 7) (q := (cn_M, ft_M, 19)) rfl rfl, (cx_pre (s := s) hx0 hP hD hS hA0 [1, 2] rfl rfl (by decide))⟩ rfl rfl hl.1 rfl (lv_room (Nat.le_of_ble_eq_true rfl)) d_M_add_12 ⟨by decide, by decide⟩) hP hD hS hA [1, 2] [0] rfl rfl (by decide) (by decide) (fun v t w1 H locs ht hW9 hp hP hD hS => ?_) (fun x t w1 H locs ht hW9 hp hP hD hS => by obtain ⟨h9, -⟩ := hp; cases h9)
  obtain ⟨h9, rfl⟩ := hp
  cases h9
  refine W.eq (g2 := F0 m 15 ls [.int (1 : Int32), .ref m0]) rfl ?_
  refine W.widen (k := 0) (n := 0) (by decide) (by decide) ?_
  have hP : va_P D kl [(rw, .inl (cI, 32, .inl wf)), (m0, .inr (7, [.int th, .int (4 : Int32), .int (0 : Int32), .ref rw, .int (0 : Int32), .int (0 : Int32), .int (0 : Int32), .ref ry, .int (0 : Int32), .int (0 : Int32), .ref ti, .int (0 : Int32), .int (0 : Int32), .ref po, .ref su, .ref sq, .ref ch, .ref vt, .ref sh])), (vt, .inl (cI, 4, .inl (upd (upd (upd (upd vf 0 a) 1 b) 2 c2) 3 d2)))] H := hP
  have hD : va_D A [(rw, .inl (cI, 32, .inl wf)), (m0, .inr (7, [.int th, .int (4 : Int32), .int (0 : Int32), .ref rw, .int (0 : Int32), .int (0 : Int32), .int (0 : Int32), .ref ry, .int (0 : Int32), .int (0 : Int32), .ref ti, .int (0 : Int32), .int (0 : Int32), .ref po, .ref su, .ref sq, .ref ch, .ref vt, .ref sh])), (vt, .inl (cI, 4, .inl (upd (upd (upd (upd vf 0 a) 1 b) 2 c2) 3 d2)))] := hD
  refine lv_if_eq (tgt := 25) hx hb d_M_add_15 (by decide) (fun h99 => absurd h99 (by decide)) (fun _ => ?_)
  refine lv_aload_n hx hb d_M_add_18 rfl (lv_at hl 0 rfl) ?_
  refine cx_call (D := D) (cl := kl) (ws := _) (wc := [(m0, .inr (7, [.int th, .int (4 : Int32), .int (0 : Int32), .ref rw, .int (0 : Int32), .int (0 : Int32), .int (0 : Int32), .ref ry, .int (0 : Int32), .int (0 : Int32), .ref ti, .int (0 : Int32), .int (0 : Int32), .ref po, .ref su, .ref sq, .ref ch, .ref vt, .ref sh])), (vt, .inl (cI, 4, .inl (upd (upd (upd (upd vf 0 a) 1 b) 2 c2) 3 d2)))]) (wr := [(rw, .inl (cI, 32, .inl wf))]) (tx_runV (C := cn_M) (b := m0) (As := []) (rest := [.ref m0]) hx hb hml hown (c_M_nothing_n E H.size m0 rw ry ti po su sq ch vt sh th (4 : Int32) (upd (upd (upd (upd vf 0 a) 1 b) 2 c2) 3 d2) h2) (cx_C (b0 := b0) G hx0 mw_794 mw_9 ny_M_nothing (by decide)) (gw.at G hx0 mw_791 rfl _) (gw.at G hx0 mw_793 rfl _) (gw.at G hx0 ms_M_nothing rfl _) ⟨cx_blind, va_recv hK hP (q0 := 1) (ci := 7) (q := (cn_M, ft_M, 19)) rfl rfl, (cx_pre (s := s) hx0 hP hD hS hA0 [1, 2] rfl rfl (by decide))⟩ rfl rfl hl.1 rfl (lv_room (Nat.le_of_ble_eq_true rfl)) d_M_add_19 ⟨by decide, by decide⟩) hP hD hS hA [1, 2] [0] rfl rfl (by decide) (by decide) (fun v t w1 H locs ht hW9 hp hP hD hS => ?_) (fun x t w1 H locs ht hW9 hp hP hD hS => by obtain ⟨h9, -⟩ := hp; cases h9)
  obtain ⟨h9, rfl⟩ := hp
  cases h9
  refine W.eq (g2 := F0 m 22 ls [.int (0 : Int32), .ref m0]) rfl ?_
  refine W.widen (k := 0) (n := 0) (by decide) (by decide) ?_
  have hP : va_P D kl [(rw, .inl (cI, 32, .inl wf)), (m0, .inr (7, [.int th, .int (4 : Int32), .int (0 : Int32), .ref rw, .int (0 : Int32), .int (0 : Int32), .int (0 : Int32), .ref ry, .int (0 : Int32), .int (0 : Int32), .ref ti, .int (0 : Int32), .int (0 : Int32), .ref po, .ref su, .ref sq, .ref ch, .ref vt, .ref sh])), (vt, .inl (cI, 4, .inl (upd (upd (upd (upd vf 0 a) 1 b) 2 c2) 3 d2)))] H := hP
  have hD : va_D A [(rw, .inl (cI, 32, .inl wf)), (m0, .inr (7, [.int th, .int (4 : Int32), .int (0 : Int32), .ref rw, .int (0 : Int32), .int (0 : Int32), .int (0 : Int32), .ref ry, .int (0 : Int32), .int (0 : Int32), .ref ti, .int (0 : Int32), .int (0 : Int32), .ref po, .ref su, .ref sq, .ref ch, .ref vt, .ref sh])), (vt, .inl (cI, 4, .inl (upd (upd (upd (upd vf 0 a) 1 b) 2 c2) 3 d2)))] := hD
  refine lv_if_eq (tgt := 29) hx hb d_M_add_22 (by decide) (fun _ => ?_) (fun h99 => absurd h99 (by decide))
  refine lv_aload_n hx hb d_M_add_29 rfl (lv_at hl 0 rfl) ?_
  refine va_get (D := D) (ci := 7) (v := .int (0 : Int32)) (C := cn_M) (T := ft_M) (N := 19) hx hb hf_M (fun _ h => h) hown hK hP 1 rfl rfl 2 (by decide) (gw.at G hx0 mw_715 rfl _) (fun _ h9 => h9) rfl d_M_add_30 ?_
  refine lv_bipush (v := (8 : Int32)) hx hb d_M_add_33 (by decide) ?_
  refine lv_icmp_ne (tgt := 42) hx hb d_M_add_35 (by decide) (fun _ => ?_) (fun h99 => absurd h99 (by decide))
  refine lv_iconst (v := (0 : Int32)) hx hb d_M_add_42 (by decide) ?_
  refine va_put (D := D) (ci := 7) (v := .int (0 : Int32)) (ty := .int) (C := cn_M) (T := ft_M) (N := 19) hx hb hf_M (fun _ h => h) fy_M fk_M fn_M hown hK hP hD hS 1 rfl rfl 0 (by decide) (gw.at G hx0 mw_713 rfl _) (fun _ h9 => h9) rfl (by decide +kernel) rfl rfl (Nat.le_of_ble_eq_true rfl) d_M_add_43 (fun H locs hP hD hS => ?_)
  have hP : va_P D kl [(rw, .inl (cI, 32, .inl wf)), (m0, .inr (7, [.int (0 : Int32), .int (4 : Int32), .int (0 : Int32), .ref rw, .int (0 : Int32), .int (0 : Int32), .int (0 : Int32), .ref ry, .int (0 : Int32), .int (0 : Int32), .ref ti, .int (0 : Int32), .int (0 : Int32), .ref po, .ref su, .ref sq, .ref ch, .ref vt, .ref sh])), (vt, .inl (cI, 4, .inl (upd (upd (upd (upd vf 0 a) 1 b) 2 c2) 3 d2)))] H := hP
  have hD : va_D A [(rw, .inl (cI, 32, .inl wf)), (m0, .inr (7, [.int (0 : Int32), .int (4 : Int32), .int (0 : Int32), .ref rw, .int (0 : Int32), .int (0 : Int32), .int (0 : Int32), .ref ry, .int (0 : Int32), .int (0 : Int32), .ref ti, .int (0 : Int32), .int (0 : Int32), .ref po, .ref su, .ref sq, .ref ch, .ref vt, .ref sh])), (vt, .inl (cI, 4, .inl (upd (upd (upd (upd vf 0 a) 1 b) 2 c2) 3 d2)))] := hD
  refine lv_aload_n hx hb d_M_add_46 rfl (lv_at hl 0 rfl) ?_
  refine va_get (D := D) (ci := 7) (v := .int (0 : Int32)) (C := cn_M) (T := ft_M) (N := 19) hx hb hf_M (fun _ h => h) hown hK hP 1 rfl rfl 0 (by decide) (gw.at G hx0 mw_713 rfl _) (fun _ h9 => h9) rfl d_M_add_47 ?_
  refine lv_if_le (tgt := 55) hx hb d_M_add_50 (by decide) (fun _ => ?_) (fun h99 => absurd h99 (by decide))
  refine lv_iconst (v := (0 : Int32)) hx hb d_M_add_55 (by decide) ?_
  refine lv_istore (lv' := [(5, .int (0 : Int32)), (0, .ref m0), (1, .int a), (2, .int b), (3, .int c2), (4, .int d2)]) hx hb d_M_add_56 hl (by decide) rfl (fun ls hl => ?_)
  refine lv_iload hx hb d_M_add_58 (lv_at hl 0 rfl) ?_
  refine lv_iconst (v := (4 : Int32)) hx hb d_M_add_60 (by decide) ?_
  refine lv_icmp_ge (tgt := 91) hx hb d_M_add_61 (by decide) (fun h99 => absurd h99 (by decide)) (fun _ => ?_)
  refine lv_aload_n hx hb d_M_add_64 rfl (lv_at hl 1 rfl) ?_
  refine va_get (D := D) (ci := 7) (v := .ref rw) (C := cn_M) (T := ft_M) (N := 19) hx hb hf_M (fun _ h => h) hown hK hP 1 rfl rfl 3 (by decide) (gw.at G hx0 mw_716 rfl _) (fun _ h9 => h9) rfl d_M_add_65 ?_
  refine lv_iconst (v := (4 : Int32)) hx hb d_M_add_68 (by decide) ?_
  refine lv_aload_n hx hb d_M_add_69 rfl (lv_at hl 1 rfl) ?_
  refine va_get (D := D) (ci := 7) (v := .int (0 : Int32)) (C := cn_M) (T := ft_M) (N := 19) hx hb hf_M (fun _ h => h) hown hK hP 1 rfl rfl 2 (by decide) (gw.at G hx0 mw_715 rfl _) (fun _ h9 => h9) rfl d_M_add_70 ?_
  refine lv_imul hx hb d_M_add_73 ?_
  refine tp_i (y := (0 : Int32)) (by decide) ?_
  refine lv_iload hx hb d_M_add_74 (lv_at hl 0 rfl) ?_
  refine lv_iadd hx hb d_M_add_76 ?_
  refine tp_i (y := (0 : Int32)) (by decide) ?_
  refine lv_aload_n hx hb d_M_add_77 rfl (lv_at hl 1 rfl) ?_
  refine va_get (D := D) (ci := 7) (v := .ref vt) (C := cn_M) (T := ft_M) (N := 19) hx hb hf_M (fun _ h => h) hown hK hP 1 rfl rfl 17 (by decide) (gw.at G hx0 mw_730 rfl _) (fun _ h9 => h9) rfl d_M_add_78 ?_
  refine lv_iload hx hb d_M_add_81 (lv_at hl 0 rfl) ?_
  refine va_iald hx hb hK hP 2 0 rfl rfl (vp_in_iff.mpr (by decide)) d_M_add_83 ?_
  refine tp_i (y := (upd (upd (upd (upd vf 0 a) 1 b) 2 c2) 3 d2) 0) (by rfl) ?_
  refine va_iast hx hb hK hP hD hS 0 0 rfl rfl (vp_in_iff.mpr (by decide)) d_M_add_84 (fun H locs hP hD hS => ?_)
  have hP : va_P D kl [(rw, .inl (cI, 32, .inl (upd wf 0 ((upd (upd (upd (upd vf 0 a) 1 b) 2 c2) 3 d2) 0)))), (m0, .inr (7, [.int (0 : Int32), .int (4 : Int32), .int (0 : Int32), .ref rw, .int (0 : Int32), .int (0 : Int32), .int (0 : Int32), .ref ry, .int (0 : Int32), .int (0 : Int32), .ref ti, .int (0 : Int32), .int (0 : Int32), .ref po, .ref su, .ref sq, .ref ch, .ref vt, .ref sh])), (vt, .inl (cI, 4, .inl (upd (upd (upd (upd vf 0 a) 1 b) 2 c2) 3 d2)))] H := hP
  have hD : va_D A [(rw, .inl (cI, 32, .inl (upd wf 0 ((upd (upd (upd (upd vf 0 a) 1 b) 2 c2) 3 d2) 0)))), (m0, .inr (7, [.int (0 : Int32), .int (4 : Int32), .int (0 : Int32), .ref rw, .int (0 : Int32), .int (0 : Int32), .int (0 : Int32), .ref ry, .int (0 : Int32), .int (0 : Int32), .ref ti, .int (0 : Int32), .int (0 : Int32), .ref po, .ref su, .ref sq, .ref ch, .ref vt, .ref sh])), (vt, .inl (cI, 4, .inl (upd (upd (upd (upd vf 0 a) 1 b) 2 c2) 3 d2)))] := hD
  refine lv_iinc (lv' := [(5, .int (1 : Int32)), (0, .ref m0), (1, .int a), (2, .int b), (3, .int c2), (4, .int d2)]) (k := 0) (v := (1 : Int32)) hx hb d_M_add_85 hl rfl (by decide) (by decide) rfl (fun ls hl => ?_)
  refine lv_goto (tgt := 58) hx hb d_M_add_88 (by decide) ?_
  refine lv_iload hx hb d_M_add_58 (lv_at hl 0 rfl) ?_
  refine lv_iconst (v := (4 : Int32)) hx hb d_M_add_60 (by decide) ?_
  refine lv_icmp_ge (tgt := 91) hx hb d_M_add_61 (by decide) (fun h99 => absurd h99 (by decide)) (fun _ => ?_)
  refine lv_aload_n hx hb d_M_add_64 rfl (lv_at hl 1 rfl) ?_
  refine va_get (D := D) (ci := 7) (v := .ref rw) (C := cn_M) (T := ft_M) (N := 19) hx hb hf_M (fun _ h => h) hown hK hP 1 rfl rfl 3 (by decide) (gw.at G hx0 mw_716 rfl _) (fun _ h9 => h9) rfl d_M_add_65 ?_
  refine lv_iconst (v := (4 : Int32)) hx hb d_M_add_68 (by decide) ?_
  refine lv_aload_n hx hb d_M_add_69 rfl (lv_at hl 1 rfl) ?_
  refine va_get (D := D) (ci := 7) (v := .int (0 : Int32)) (C := cn_M) (T := ft_M) (N := 19) hx hb hf_M (fun _ h => h) hown hK hP 1 rfl rfl 2 (by decide) (gw.at G hx0 mw_715 rfl _) (fun _ h9 => h9) rfl d_M_add_70 ?_
  refine lv_imul hx hb d_M_add_73 ?_
  refine tp_i (y := (0 : Int32)) (by decide) ?_
  refine lv_iload hx hb d_M_add_74 (lv_at hl 0 rfl) ?_
  refine lv_iadd hx hb d_M_add_76 ?_
  refine tp_i (y := (1 : Int32)) (by decide) ?_
  refine lv_aload_n hx hb d_M_add_77 rfl (lv_at hl 1 rfl) ?_
  refine va_get (D := D) (ci := 7) (v := .ref vt) (C := cn_M) (T := ft_M) (N := 19) hx hb hf_M (fun _ h => h) hown hK hP 1 rfl rfl 17 (by decide) (gw.at G hx0 mw_730 rfl _) (fun _ h9 => h9) rfl d_M_add_78 ?_
  refine lv_iload hx hb d_M_add_81 (lv_at hl 0 rfl) ?_
  refine va_iald hx hb hK hP 2 0 rfl rfl (vp_in_iff.mpr (by decide)) d_M_add_83 ?_
  refine tp_i (y := (upd (upd (upd (upd vf 0 a) 1 b) 2 c2) 3 d2) 1) (by rfl) ?_
  refine va_iast hx hb hK hP hD hS 0 0 rfl rfl (vp_in_iff.mpr (by decide)) d_M_add_84 (fun H locs hP hD hS => ?_)
  have hP : va_P D kl [(rw, .inl (cI, 32, .inl (upd (upd wf 0 ((upd (upd (upd (upd vf 0 a) 1 b) 2 c2) 3 d2) 0)) 1 ((upd (upd (upd (upd vf 0 a) 1 b) 2 c2) 3 d2) 1)))), (m0, .inr (7, [.int (0 : Int32), .int (4 : Int32), .int (0 : Int32), .ref rw, .int (0 : Int32), .int (0 : Int32), .int (0 : Int32), .ref ry, .int (0 : Int32), .int (0 : Int32), .ref ti, .int (0 : Int32), .int (0 : Int32), .ref po, .ref su, .ref sq, .ref ch, .ref vt, .ref sh])), (vt, .inl (cI, 4, .inl (upd (upd (upd (upd vf 0 a) 1 b) 2 c2) 3 d2)))] H := hP
  have hD : va_D A [(rw, .inl (cI, 32, .inl (upd (upd wf 0 ((upd (upd (upd (upd vf 0 a) 1 b) 2 c2) 3 d2) 0)) 1 ((upd (upd (upd (upd vf 0 a) 1 b) 2 c2) 3 d2) 1)))), (m0, .inr (7, [.int (0 : Int32), .int (4 : Int32), .int (0 : Int32), .ref rw, .int (0 : Int32), .int (0 : Int32), .int (0 : Int32), .ref ry, .int (0 : Int32), .int (0 : Int32), .ref ti, .int (0 : Int32), .int (0 : Int32), .ref po, .ref su, .ref sq, .ref ch, .ref vt, .ref sh])), (vt, .inl (cI, 4, .inl (upd (upd (upd (upd vf 0 a) 1 b) 2 c2) 3 d2)))] := hD
  refine lv_iinc (lv' := [(5, .int (2 : Int32)), (0, .ref m0), (1, .int a), (2, .int b), (3, .int c2), (4, .int d2)]) (k := 0) (v := (2 : Int32)) hx hb d_M_add_85 hl rfl (by decide) (by decide) rfl (fun ls hl => ?_)
  refine lv_goto (tgt := 58) hx hb d_M_add_88 (by decide) ?_
  refine lv_iload hx hb d_M_add_58 (lv_at hl 0 rfl) ?_
  refine lv_iconst (v := (4 : Int32)) hx hb d_M_add_60 (by decide) ?_
  refine lv_icmp_ge (tgt := 91) hx hb d_M_add_61 (by decide) (fun h99 => absurd h99 (by decide)) (fun _ => ?_)
  refine lv_aload_n hx hb d_M_add_64 rfl (lv_at hl 1 rfl) ?_
  refine va_get (D := D) (ci := 7) (v := .ref rw) (C := cn_M) (T := ft_M) (N := 19) hx hb hf_M (fun _ h => h) hown hK hP 1 rfl rfl 3 (by decide) (gw.at G hx0 mw_716 rfl _) (fun _ h9 => h9) rfl d_M_add_65 ?_
  refine lv_iconst (v := (4 : Int32)) hx hb d_M_add_68 (by decide) ?_
  refine lv_aload_n hx hb d_M_add_69 rfl (lv_at hl 1 rfl) ?_
  refine va_get (D := D) (ci := 7) (v := .int (0 : Int32)) (C := cn_M) (T := ft_M) (N := 19) hx hb hf_M (fun _ h => h) hown hK hP 1 rfl rfl 2 (by decide) (gw.at G hx0 mw_715 rfl _) (fun _ h9 => h9) rfl d_M_add_70 ?_
  refine lv_imul hx hb d_M_add_73 ?_
  refine tp_i (y := (0 : Int32)) (by decide) ?_
  refine lv_iload hx hb d_M_add_74 (lv_at hl 0 rfl) ?_
  refine lv_iadd hx hb d_M_add_76 ?_
  refine tp_i (y := (2 : Int32)) (by decide) ?_
  refine lv_aload_n hx hb d_M_add_77 rfl (lv_at hl 1 rfl) ?_
  refine va_get (D := D) (ci := 7) (v := .ref vt) (C := cn_M) (T := ft_M) (N := 19) hx hb hf_M (fun _ h => h) hown hK hP 1 rfl rfl 17 (by decide) (gw.at G hx0 mw_730 rfl _) (fun _ h9 => h9) rfl d_M_add_78 ?_
  refine lv_iload hx hb d_M_add_81 (lv_at hl 0 rfl) ?_
  refine va_iald hx hb hK hP 2 0 rfl rfl (vp_in_iff.mpr (by decide)) d_M_add_83 ?_
  refine tp_i (y := (upd (upd (upd (upd vf 0 a) 1 b) 2 c2) 3 d2) 2) (by rfl) ?_
  refine va_iast hx hb hK hP hD hS 0 0 rfl rfl (vp_in_iff.mpr (by decide)) d_M_add_84 (fun H locs hP hD hS => ?_)
  have hP : va_P D kl [(rw, .inl (cI, 32, .inl (upd (upd (upd wf 0 ((upd (upd (upd (upd vf 0 a) 1 b) 2 c2) 3 d2) 0)) 1 ((upd (upd (upd (upd vf 0 a) 1 b) 2 c2) 3 d2) 1)) 2 ((upd (upd (upd (upd vf 0 a) 1 b) 2 c2) 3 d2) 2)))), (m0, .inr (7, [.int (0 : Int32), .int (4 : Int32), .int (0 : Int32), .ref rw, .int (0 : Int32), .int (0 : Int32), .int (0 : Int32), .ref ry, .int (0 : Int32), .int (0 : Int32), .ref ti, .int (0 : Int32), .int (0 : Int32), .ref po, .ref su, .ref sq, .ref ch, .ref vt, .ref sh])), (vt, .inl (cI, 4, .inl (upd (upd (upd (upd vf 0 a) 1 b) 2 c2) 3 d2)))] H := hP
  have hD : va_D A [(rw, .inl (cI, 32, .inl (upd (upd (upd wf 0 ((upd (upd (upd (upd vf 0 a) 1 b) 2 c2) 3 d2) 0)) 1 ((upd (upd (upd (upd vf 0 a) 1 b) 2 c2) 3 d2) 1)) 2 ((upd (upd (upd (upd vf 0 a) 1 b) 2 c2) 3 d2) 2)))), (m0, .inr (7, [.int (0 : Int32), .int (4 : Int32), .int (0 : Int32), .ref rw, .int (0 : Int32), .int (0 : Int32), .int (0 : Int32), .ref ry, .int (0 : Int32), .int (0 : Int32), .ref ti, .int (0 : Int32), .int (0 : Int32), .ref po, .ref su, .ref sq, .ref ch, .ref vt, .ref sh])), (vt, .inl (cI, 4, .inl (upd (upd (upd (upd vf 0 a) 1 b) 2 c2) 3 d2)))] := hD
  refine lv_iinc (lv' := [(5, .int (3 : Int32)), (0, .ref m0), (1, .int a), (2, .int b), (3, .int c2), (4, .int d2)]) (k := 0) (v := (3 : Int32)) hx hb d_M_add_85 hl rfl (by decide) (by decide) rfl (fun ls hl => ?_)
  refine lv_goto (tgt := 58) hx hb d_M_add_88 (by decide) ?_
  refine lv_iload hx hb d_M_add_58 (lv_at hl 0 rfl) ?_
  refine lv_iconst (v := (4 : Int32)) hx hb d_M_add_60 (by decide) ?_
  refine lv_icmp_ge (tgt := 91) hx hb d_M_add_61 (by decide) (fun h99 => absurd h99 (by decide)) (fun _ => ?_)
  refine lv_aload_n hx hb d_M_add_64 rfl (lv_at hl 1 rfl) ?_
  refine va_get (D := D) (ci := 7) (v := .ref rw) (C := cn_M) (T := ft_M) (N := 19) hx hb hf_M (fun _ h => h) hown hK hP 1 rfl rfl 3 (by decide) (gw.at G hx0 mw_716 rfl _) (fun _ h9 => h9) rfl d_M_add_65 ?_
  refine lv_iconst (v := (4 : Int32)) hx hb d_M_add_68 (by decide) ?_
  refine lv_aload_n hx hb d_M_add_69 rfl (lv_at hl 1 rfl) ?_
  refine va_get (D := D) (ci := 7) (v := .int (0 : Int32)) (C := cn_M) (T := ft_M) (N := 19) hx hb hf_M (fun _ h => h) hown hK hP 1 rfl rfl 2 (by decide) (gw.at G hx0 mw_715 rfl _) (fun _ h9 => h9) rfl d_M_add_70 ?_
  refine lv_imul hx hb d_M_add_73 ?_
  refine tp_i (y := (0 : Int32)) (by decide) ?_
  refine lv_iload hx hb d_M_add_74 (lv_at hl 0 rfl) ?_
  refine lv_iadd hx hb d_M_add_76 ?_
  refine tp_i (y := (3 : Int32)) (by decide) ?_
  refine lv_aload_n hx hb d_M_add_77 rfl (lv_at hl 1 rfl) ?_
  refine va_get (D := D) (ci := 7) (v := .ref vt) (C := cn_M) (T := ft_M) (N := 19) hx hb hf_M (fun _ h => h) hown hK hP 1 rfl rfl 17 (by decide) (gw.at G hx0 mw_730 rfl _) (fun _ h9 => h9) rfl d_M_add_78 ?_
  refine lv_iload hx hb d_M_add_81 (lv_at hl 0 rfl) ?_
  refine va_iald hx hb hK hP 2 0 rfl rfl (vp_in_iff.mpr (by decide)) d_M_add_83 ?_
  refine tp_i (y := (upd (upd (upd (upd vf 0 a) 1 b) 2 c2) 3 d2) 3) (by rfl) ?_
  refine va_iast hx hb hK hP hD hS 0 0 rfl rfl (vp_in_iff.mpr (by decide)) d_M_add_84 (fun H locs hP hD hS => ?_)
  have hP : va_P D kl [(rw, .inl (cI, 32, .inl (upd (upd (upd (upd wf 0 ((upd (upd (upd (upd vf 0 a) 1 b) 2 c2) 3 d2) 0)) 1 ((upd (upd (upd (upd vf 0 a) 1 b) 2 c2) 3 d2) 1)) 2 ((upd (upd (upd (upd vf 0 a) 1 b) 2 c2) 3 d2) 2)) 3 ((upd (upd (upd (upd vf 0 a) 1 b) 2 c2) 3 d2) 3)))), (m0, .inr (7, [.int (0 : Int32), .int (4 : Int32), .int (0 : Int32), .ref rw, .int (0 : Int32), .int (0 : Int32), .int (0 : Int32), .ref ry, .int (0 : Int32), .int (0 : Int32), .ref ti, .int (0 : Int32), .int (0 : Int32), .ref po, .ref su, .ref sq, .ref ch, .ref vt, .ref sh])), (vt, .inl (cI, 4, .inl (upd (upd (upd (upd vf 0 a) 1 b) 2 c2) 3 d2)))] H := hP
  have hD : va_D A [(rw, .inl (cI, 32, .inl (upd (upd (upd (upd wf 0 ((upd (upd (upd (upd vf 0 a) 1 b) 2 c2) 3 d2) 0)) 1 ((upd (upd (upd (upd vf 0 a) 1 b) 2 c2) 3 d2) 1)) 2 ((upd (upd (upd (upd vf 0 a) 1 b) 2 c2) 3 d2) 2)) 3 ((upd (upd (upd (upd vf 0 a) 1 b) 2 c2) 3 d2) 3)))), (m0, .inr (7, [.int (0 : Int32), .int (4 : Int32), .int (0 : Int32), .ref rw, .int (0 : Int32), .int (0 : Int32), .int (0 : Int32), .ref ry, .int (0 : Int32), .int (0 : Int32), .ref ti, .int (0 : Int32), .int (0 : Int32), .ref po, .ref su, .ref sq, .ref ch, .ref vt, .ref sh])), (vt, .inl (cI, 4, .inl (upd (upd (upd (upd vf 0 a) 1 b) 2 c2) 3 d2)))] := hD
  refine lv_iinc (lv' := [(5, .int (4 : Int32)), (0, .ref m0), (1, .int a), (2, .int b), (3, .int c2), (4, .int d2)]) (k := 0) (v := (4 : Int32)) hx hb d_M_add_85 hl rfl (by decide) (by decide) rfl (fun ls hl => ?_)
  refine lv_goto (tgt := 58) hx hb d_M_add_88 (by decide) ?_
  refine lv_iload hx hb d_M_add_58 (lv_at hl 0 rfl) ?_
  refine lv_iconst (v := (4 : Int32)) hx hb d_M_add_60 (by decide) ?_
  refine lv_icmp_ge (tgt := 91) hx hb d_M_add_61 (by decide) (fun _ => ?_) (fun h99 => absurd h99 (by decide))
  refine lv_aload_n hx hb d_M_add_91 rfl (lv_at hl 1 rfl) ?_
  refine lv_dup hx hb d_M_add_92 rfl ?_
  refine va_get (D := D) (ci := 7) (v := .int (0 : Int32)) (C := cn_M) (T := ft_M) (N := 19) hx hb hf_M (fun _ h => h) hown hK hP 1 rfl rfl 2 (by decide) (gw.at G hx0 mw_715 rfl _) (fun _ h9 => h9) rfl d_M_add_93 ?_
  refine lv_iconst (v := (1 : Int32)) hx hb d_M_add_96 (by decide) ?_
  refine lv_iadd hx hb d_M_add_97 ?_
  refine tp_i (y := (1 : Int32)) (by decide) ?_
  refine va_put (D := D) (ci := 7) (v := .int (1 : Int32)) (ty := .int) (C := cn_M) (T := ft_M) (N := 19) hx hb hf_M (fun _ h => h) fy_M fk_M fn_M hown hK hP hD hS 1 rfl rfl 2 (by decide) (gw.at G hx0 mw_715 rfl _) (fun _ h9 => h9) rfl (by decide +kernel) rfl rfl (Nat.le_of_ble_eq_true rfl) d_M_add_98 (fun H locs hP hD hS => ?_)
  have hP : va_P D kl [(rw, .inl (cI, 32, .inl (upd (upd (upd (upd wf 0 ((upd (upd (upd (upd vf 0 a) 1 b) 2 c2) 3 d2) 0)) 1 ((upd (upd (upd (upd vf 0 a) 1 b) 2 c2) 3 d2) 1)) 2 ((upd (upd (upd (upd vf 0 a) 1 b) 2 c2) 3 d2) 2)) 3 ((upd (upd (upd (upd vf 0 a) 1 b) 2 c2) 3 d2) 3)))), (m0, .inr (7, [.int (0 : Int32), .int (4 : Int32), .int (1 : Int32), .ref rw, .int (0 : Int32), .int (0 : Int32), .int (0 : Int32), .ref ry, .int (0 : Int32), .int (0 : Int32), .ref ti, .int (0 : Int32), .int (0 : Int32), .ref po, .ref su, .ref sq, .ref ch, .ref vt, .ref sh])), (vt, .inl (cI, 4, .inl (upd (upd (upd (upd vf 0 a) 1 b) 2 c2) 3 d2)))] H := hP
  have hD : va_D A [(rw, .inl (cI, 32, .inl (upd (upd (upd (upd wf 0 ((upd (upd (upd (upd vf 0 a) 1 b) 2 c2) 3 d2) 0)) 1 ((upd (upd (upd (upd vf 0 a) 1 b) 2 c2) 3 d2) 1)) 2 ((upd (upd (upd (upd vf 0 a) 1 b) 2 c2) 3 d2) 2)) 3 ((upd (upd (upd (upd vf 0 a) 1 b) 2 c2) 3 d2) 3)))), (m0, .inr (7, [.int (0 : Int32), .int (4 : Int32), .int (1 : Int32), .ref rw, .int (0 : Int32), .int (0 : Int32), .int (0 : Int32), .ref ry, .int (0 : Int32), .int (0 : Int32), .ref ti, .int (0 : Int32), .int (0 : Int32), .ref po, .ref su, .ref sq, .ref ch, .ref vt, .ref sh])), (vt, .inl (cI, 4, .inl (upd (upd (upd (upd vf 0 a) 1 b) 2 c2) 3 d2)))] := hD
  refine lv_aload_n hx hb d_M_add_101 rfl (lv_at hl 1 rfl) ?_
  refine lv_iconst (v := (0 : Int32)) hx hb d_M_add_102 (by decide) ?_
  refine va_put (D := D) (ci := 7) (v := .int (0 : Int32)) (ty := .boolean) (C := cn_M) (T := ft_M) (N := 19) hx hb hf_M (fun _ h => h) fy_M fk_M fn_M hown hK hP hD hS 1 rfl rfl 4 (by decide) (gw.at G hx0 mw_717 rfl _) (fun _ h9 => h9) rfl (by decide +kernel) rfl rfl (Nat.le_of_ble_eq_true rfl) d_M_add_103 (fun H locs hP hD hS => ?_)
  have hP : va_P D kl [(rw, .inl (cI, 32, .inl (upd (upd (upd (upd wf 0 ((upd (upd (upd (upd vf 0 a) 1 b) 2 c2) 3 d2) 0)) 1 ((upd (upd (upd (upd vf 0 a) 1 b) 2 c2) 3 d2) 1)) 2 ((upd (upd (upd (upd vf 0 a) 1 b) 2 c2) 3 d2) 2)) 3 ((upd (upd (upd (upd vf 0 a) 1 b) 2 c2) 3 d2) 3)))), (m0, .inr (7, [.int (0 : Int32), .int (4 : Int32), .int (1 : Int32), .ref rw, .int (0 : Int32), .int (0 : Int32), .int (0 : Int32), .ref ry, .int (0 : Int32), .int (0 : Int32), .ref ti, .int (0 : Int32), .int (0 : Int32), .ref po, .ref su, .ref sq, .ref ch, .ref vt, .ref sh])), (vt, .inl (cI, 4, .inl (upd (upd (upd (upd vf 0 a) 1 b) 2 c2) 3 d2)))] H := hP
  have hD : va_D A [(rw, .inl (cI, 32, .inl (upd (upd (upd (upd wf 0 ((upd (upd (upd (upd vf 0 a) 1 b) 2 c2) 3 d2) 0)) 1 ((upd (upd (upd (upd vf 0 a) 1 b) 2 c2) 3 d2) 1)) 2 ((upd (upd (upd (upd vf 0 a) 1 b) 2 c2) 3 d2) 2)) 3 ((upd (upd (upd (upd vf 0 a) 1 b) 2 c2) 3 d2) 3)))), (m0, .inr (7, [.int (0 : Int32), .int (4 : Int32), .int (1 : Int32), .ref rw, .int (0 : Int32), .int (0 : Int32), .int (0 : Int32), .ref ry, .int (0 : Int32), .int (0 : Int32), .ref ti, .int (0 : Int32), .int (0 : Int32), .ref po, .ref su, .ref sq, .ref ch, .ref vt, .ref sh])), (vt, .inl (cI, 4, .inl (upd (upd (upd (upd vf 0 a) 1 b) 2 c2) 3 d2)))] := hD
  refine lv_aload_n hx hb d_M_add_106 rfl (lv_at hl 1 rfl) ?_
  refine va_get (D := D) (ci := 7) (v := .int (1 : Int32)) (C := cn_M) (T := ft_M) (N := 19) hx hb hf_M (fun _ h => h) hown hK hP 1 rfl rfl 2 (by decide) (gw.at G hx0 mw_715 rfl _) (fun _ h9 => h9) rfl d_M_add_107 ?_
  refine lv_iconst (v := (1 : Int32)) hx hb d_M_add_110 (by decide) ?_
  refine lv_isub hx hb d_M_add_111 ?_
  refine tp_i (y := (0 : Int32)) (by decide) ?_
  exact tx_mono (fun _ h => tx_Z.of h) (W.iret (v := (0 : Int32)) hx hb hr (fun t ht hW => ⟨⟨[(m0, .inr (7, [.int (0 : Int32), .int (4 : Int32), .int (1 : Int32), .ref rw, .int (0 : Int32), .int (0 : Int32), .int (0 : Int32), .ref ry, .int (0 : Int32), .int (0 : Int32), .ref ti, .int (0 : Int32), .int (0 : Int32), .ref po, .ref su, .ref sq, .ref ch, .ref vt, .ref sh]))], ⟨rfl, rfl⟩, by rw [ht]; exact hP.sub [1] rfl, hD.sub [1] (by decide) rfl⟩, hS.F ht⟩) hS.2.2 d_M_add_112)

theorem jd1 {v : Int32} (h : ¬ (2 : Int32) ≤ v) : jmax 2 (jmin 4 v) = 2 := by
  have h1 : v < 2 := Int32.not_le.mp h
  have h2 : v < 4 := Int32.lt_trans h1 (by decide)
  unfold jmax jmin
  rw [if_pos h2, if_neg (Int32.not_lt.mpr (Int32.le_of_lt h1))]
theorem jd2 {v : Int32} (h : ¬ v ≤ (4 : Int32)) : jmax 2 (jmin 4 v) = 4 := by
  unfold jmax jmin
  rw [if_neg (Int32.not_lt.mpr (Int32.le_of_lt (Int32.not_le.mp h)))]
  decide
theorem jd3 {v : Int32} (h1 : (2 : Int32) ≤ v) (h2 : v ≤ (4 : Int32)) : jmax 2 (jmin 4 v) = v := by
  have e1 : jmin 4 v = v := by
    unfold jmin
    split
    · rfl
    · rename_i h; exact Int32.le_antisymm (Int32.not_lt.mp h) h2
  rw [e1]
  unfold jmax
  split
  · rfl
  · rename_i h; exact Int32.le_antisymm h1 (Int32.not_lt.mp h)
set_option maxHeartbeats 4000000 in
set_option maxRecDepth 100000 in
theorem c_M_init {l : Launch} {s0 : State} {b0 : Addr} {D : va_G} {cI cJ cZ : ClassId} {tC tS : Nat} (E : gE l s0 b0 D cI cJ cZ tC tS) (sz : Nat) (m0 : Nat) (v : Int32) (z : Int32) (hd : jmax (2 : Int32) (jmin (4 : Int32) v) = z) : cx_M l s0 D kl y_M_init b_M_init 2 none ({ frames := 1, cells := 9, slots := 5568, locals := 20 } : Room) 9 5568 [.ref m0, .int v] [(m0, .inr (7, [.int (0 : Int32), .int (0 : Int32), .int (0 : Int32), .null, .int (0 : Int32), .int (0 : Int32), .int (0 : Int32), .null, .int (0 : Int32), .int (0 : Int32), .null, .int (0 : Int32), .int (0 : Int32), .null, .null, .null, .null, .null, .null]))] sz (fun o9 _ w9 => ∃ (q_1 : Nat) (q_2 : Nat) (q_3 : Nat) (q_4 : Nat) (q_5 : Nat) (q_6 : Nat) (q_7 : Nat) (q_8 : Nat) (q_9 : Nat), o9 = .returned none ∧ w9 = [(m0, .inr (7, [.int (0 : Int32), .int z, .int (0 : Int32), .ref q_1, .int (0 : Int32), .int (0 : Int32), .int (0 : Int32), .ref q_2, .int (0 : Int32), .int (0 : Int32), .ref q_3, .int (0 : Int32), .int (0 : Int32), .ref q_4, .ref q_5, .ref q_6, .ref q_7, .ref q_8, .ref q_9])), (q_1, .inl (cI, 32, .inl (fun _ => (0 : Int32)))), (q_8, .inl (cI, 4, .inl (fun _ => (0 : Int32))))]) := by
  refine tx_ofW (cc := b_M_init) (maxL := 2) (ret := none) (by decide) rfl ?_
  intro p e s m args below meth c s₁ B hml hT hv
  obtain ⟨rfl, hsz, hP, hD0, hx0⟩ := hv
  have hx := B.exec
  have hb := B.bytes
  have hr := B.returns
  have G := E.2.1
  have hown : s.vm.findClass cn_M = some m.cls := findClass_of_methodNamed B.named
  have hlocks := B.notSynchronized
  have hK := va_K.moved hx0.1.alike E.2.2.1
  have hin : meth.name = "<init>" := (name_of_methodNamed B.named B.method).1
  have hf_M : ∀ w99 ∈ u_ws cn_M ft_M 19, w99.before ([.ref m0, .int v] : List Value).toArray s = true := fun w99 h99 => gw.at G hx0 (fw_M w99 h99) (fo_M w99 h99) _
  subst hsz
  have hA0 := cx_new hD0 hx0.2.1
  have hD := hD0.self (sz := s.heap.size)
  generalize hAe : va_A [(m0, .inr (7, [.int (0 : Int32), .int (0 : Int32), .int (0 : Int32), .null, .int (0 : Int32), .int (0 : Int32), .int (0 : Int32), .null, .int (0 : Int32), .int (0 : Int32), .null, .int (0 : Int32), .int (0 : Int32), .null, .null, .null, .null, .null, .null]))] s.heap.size = A at hD hA0 ⊢
  have hA : ∀ q : Nat, s.heap.size ≤ q → A q := fun q h => by rw [← hAe]; exact Or.inr h
  have hS : va_S A s.heap s.heap [] := va_S.rf
  have hl := lv_entry ([.ref m0, .int v]) (n := 2) (Nat.le_of_ble_eq_true rfl)
  rw [lg_entry_eq]
  generalize (lg_sl ([.ref m0, .int v]) ++ List.replicate (2 - (lg_sl ([.ref m0, .int v])).length) Slot.unset).toArray = ls at hl ⊢
  have hl : lv_has ls 2 [(0, .ref m0), (1, .int v)] := hl
  have hP : va_P D kl [(m0, .inr (7, [.int (0 : Int32), .int (0 : Int32), .int (0 : Int32), .null, .int (0 : Int32), .int (0 : Int32), .int (0 : Int32), .null, .int (0 : Int32), .int (0 : Int32), .null, .int (0 : Int32), .int (0 : Int32), .null, .null, .null, .null, .null, .null]))] s.heap := hP
  have hml : c.maxLocals = 2 := hml
  refine lv_aload_n hx hb d_M_init_0 rfl (lv_at hl 0 rfl) ?_
  refine W.objInit hx hb hown (gw.at G hx0 mw_712 rfl _) (gw.at G hx0 mw_25 rfl _) (gw.at G hx0 mw_26 rfl _) rfl (by rw [hml]; exact hl.1) rfl d_M_init_1 (by decide) (Nat.le_of_ble_eq_true rfl) ?_
  refine W.eq (g2 := F0 m 4 ls []) rfl ?_
  refine lv_aload_n hx hb d_M_init_4 rfl (lv_at hl 0 rfl) ?_
  refine lv_bipush (v := (32 : Int32)) hx hb d_M_init_5 (by decide) ?_
  refine cx_newa (atype := .int) (N' := 32) (a0 := (32, .inl (fun _ => (0 : Int32)))) (cA := cI) (ty := .int) 0 hx hb (gw.at G hx0 mw_55 rfl _) rfl (fun C h => by cases h) hK rfl hP hD hS hA (fun _ => rfl) (by decide) (by decide) (by decide +kernel) (by decide) (by decide) d_M_init_7 (fun q_1 H hP hD hS => ?_)
  have hP : va_P D kl [(m0, .inr (7, [.int (0 : Int32), .int (0 : Int32), .int (0 : Int32), .null, .int (0 : Int32), .int (0 : Int32), .int (0 : Int32), .null, .int (0 : Int32), .int (0 : Int32), .null, .int (0 : Int32), .int (0 : Int32), .null, .null, .null, .null, .null, .null])), (q_1, .inl (cI, 32, .inl (fun _ => (0 : Int32))))] H := hP
  have hD : va_D A [(m0, .inr (7, [.int (0 : Int32), .int (0 : Int32), .int (0 : Int32), .null, .int (0 : Int32), .int (0 : Int32), .int (0 : Int32), .null, .int (0 : Int32), .int (0 : Int32), .null, .int (0 : Int32), .int (0 : Int32), .null, .null, .null, .null, .null, .null])), (q_1, .inl (cI, 32, .inl (fun _ => (0 : Int32))))] := hD
  refine W.widen (k := 1) (n := 32) (by decide) (by decide) ?_
  refine va_putF (D := D) (ci := 7) (v := .ref q_1) (ty := .array .int) (C := cn_M) (T := ft_M) (N := 19) hx hb hf_M (fun _ h => h) fy_M fk_M fn_M hown hK hP hD hS 0 rfl rfl 3 (by decide) (gw.at G hx0 mw_716 rfl _) (fun _ h9 => h9) rfl hin rfl (by decide +kernel) rfl rfl (Nat.le_of_ble_eq_true rfl) d_M_init_9 (fun H locs hP hD hS => ?_)
  have hP : va_P D kl [(m0, .inr (7, [.int (0 : Int32), .int (0 : Int32), .int (0 : Int32), .ref q_1, .int (0 : Int32), .int (0 : Int32), .int (0 : Int32), .null, .int (0 : Int32), .int (0 : Int32), .null, .int (0 : Int32), .int (0 : Int32), .null, .null, .null, .null, .null, .null])), (q_1, .inl (cI, 32, .inl (fun _ => (0 : Int32))))] H := hP
  have hD : va_D A [(m0, .inr (7, [.int (0 : Int32), .int (0 : Int32), .int (0 : Int32), .ref q_1, .int (0 : Int32), .int (0 : Int32), .int (0 : Int32), .null, .int (0 : Int32), .int (0 : Int32), .null, .int (0 : Int32), .int (0 : Int32), .null, .null, .null, .null, .null, .null])), (q_1, .inl (cI, 32, .inl (fun _ => (0 : Int32))))] := hD
  refine lv_aload_n hx hb d_M_init_12 rfl (lv_at hl 0 rfl) ?_
  refine lv_sipush (v := (256 : Int32)) hx hb d_M_init_13 (by decide) ?_
  refine cx_newa (atype := .int) (N' := 256) (a0 := (256, .inl (fun _ => (0 : Int32)))) (cA := cI) (ty := .int) 0 hx hb (gw.at G hx0 mw_55 rfl _) rfl (fun C h => by cases h) hK rfl hP hD hS hA (fun _ => rfl) (by decide) (by decide) (by decide +kernel) (by decide) (by decide) d_M_init_16 (fun q_2 H hP hD hS => ?_)
  have hP : va_P D kl [(m0, .inr (7, [.int (0 : Int32), .int (0 : Int32), .int (0 : Int32), .ref q_1, .int (0 : Int32), .int (0 : Int32), .int (0 : Int32), .null, .int (0 : Int32), .int (0 : Int32), .null, .int (0 : Int32), .int (0 : Int32), .null, .null, .null, .null, .null, .null])), (q_1, .inl (cI, 32, .inl (fun _ => (0 : Int32)))), (q_2, .inl (cI, 256, .inl (fun _ => (0 : Int32))))] H := hP
  have hD : va_D A [(m0, .inr (7, [.int (0 : Int32), .int (0 : Int32), .int (0 : Int32), .ref q_1, .int (0 : Int32), .int (0 : Int32), .int (0 : Int32), .null, .int (0 : Int32), .int (0 : Int32), .null, .int (0 : Int32), .int (0 : Int32), .null, .null, .null, .null, .null, .null])), (q_1, .inl (cI, 32, .inl (fun _ => (0 : Int32)))), (q_2, .inl (cI, 256, .inl (fun _ => (0 : Int32))))] := hD
  refine W.widen (k := 2) (n := 288) (by decide) (by decide) ?_
  refine va_putF (D := D) (ci := 7) (v := .ref q_2) (ty := .array .int) (C := cn_M) (T := ft_M) (N := 19) hx hb hf_M (fun _ h => h) fy_M fk_M fn_M hown hK hP hD hS 0 rfl rfl 7 (by decide) (gw.at G hx0 mw_720 rfl _) (fun _ h9 => h9) rfl hin rfl (by decide +kernel) rfl rfl (Nat.le_of_ble_eq_true rfl) d_M_init_18 (fun H locs hP hD hS => ?_)
  have hP : va_P D kl [(m0, .inr (7, [.int (0 : Int32), .int (0 : Int32), .int (0 : Int32), .ref q_1, .int (0 : Int32), .int (0 : Int32), .int (0 : Int32), .ref q_2, .int (0 : Int32), .int (0 : Int32), .null, .int (0 : Int32), .int (0 : Int32), .null, .null, .null, .null, .null, .null])), (q_1, .inl (cI, 32, .inl (fun _ => (0 : Int32)))), (q_2, .inl (cI, 256, .inl (fun _ => (0 : Int32))))] H := hP
  have hD : va_D A [(m0, .inr (7, [.int (0 : Int32), .int (0 : Int32), .int (0 : Int32), .ref q_1, .int (0 : Int32), .int (0 : Int32), .int (0 : Int32), .ref q_2, .int (0 : Int32), .int (0 : Int32), .null, .int (0 : Int32), .int (0 : Int32), .null, .null, .null, .null, .null, .null])), (q_1, .inl (cI, 32, .inl (fun _ => (0 : Int32)))), (q_2, .inl (cI, 256, .inl (fun _ => (0 : Int32))))] := hD
  refine lv_aload_n hx hb d_M_init_21 rfl (lv_at hl 0 rfl) ?_
  refine lv_bipush (v := (8 : Int32)) hx hb d_M_init_22 (by decide) ?_
  refine cx_newa (atype := .int) (N' := 8) (a0 := (8, .inl (fun _ => (0 : Int32)))) (cA := cI) (ty := .int) 0 hx hb (gw.at G hx0 mw_55 rfl _) rfl (fun C h => by cases h) hK rfl hP hD hS hA (fun _ => rfl) (by decide) (by decide) (by decide +kernel) (by decide) (by decide) d_M_init_24 (fun q_3 H hP hD hS => ?_)
  have hP : va_P D kl [(m0, .inr (7, [.int (0 : Int32), .int (0 : Int32), .int (0 : Int32), .ref q_1, .int (0 : Int32), .int (0 : Int32), .int (0 : Int32), .ref q_2, .int (0 : Int32), .int (0 : Int32), .null, .int (0 : Int32), .int (0 : Int32), .null, .null, .null, .null, .null, .null])), (q_1, .inl (cI, 32, .inl (fun _ => (0 : Int32)))), (q_2, .inl (cI, 256, .inl (fun _ => (0 : Int32)))), (q_3, .inl (cI, 8, .inl (fun _ => (0 : Int32))))] H := hP
  have hD : va_D A [(m0, .inr (7, [.int (0 : Int32), .int (0 : Int32), .int (0 : Int32), .ref q_1, .int (0 : Int32), .int (0 : Int32), .int (0 : Int32), .ref q_2, .int (0 : Int32), .int (0 : Int32), .null, .int (0 : Int32), .int (0 : Int32), .null, .null, .null, .null, .null, .null])), (q_1, .inl (cI, 32, .inl (fun _ => (0 : Int32)))), (q_2, .inl (cI, 256, .inl (fun _ => (0 : Int32)))), (q_3, .inl (cI, 8, .inl (fun _ => (0 : Int32))))] := hD
  refine W.widen (k := 3) (n := 296) (by decide) (by decide) ?_
  refine va_putF (D := D) (ci := 7) (v := .ref q_3) (ty := .array .int) (C := cn_M) (T := ft_M) (N := 19) hx hb hf_M (fun _ h => h) fy_M fk_M fn_M hown hK hP hD hS 0 rfl rfl 10 (by decide) (gw.at G hx0 mw_723 rfl _) (fun _ h9 => h9) rfl hin rfl (by decide +kernel) rfl rfl (Nat.le_of_ble_eq_true rfl) d_M_init_26 (fun H locs hP hD hS => ?_)
  have hP : va_P D kl [(m0, .inr (7, [.int (0 : Int32), .int (0 : Int32), .int (0 : Int32), .ref q_1, .int (0 : Int32), .int (0 : Int32), .int (0 : Int32), .ref q_2, .int (0 : Int32), .int (0 : Int32), .ref q_3, .int (0 : Int32), .int (0 : Int32), .null, .null, .null, .null, .null, .null])), (q_1, .inl (cI, 32, .inl (fun _ => (0 : Int32)))), (q_2, .inl (cI, 256, .inl (fun _ => (0 : Int32)))), (q_3, .inl (cI, 8, .inl (fun _ => (0 : Int32))))] H := hP
  have hD : va_D A [(m0, .inr (7, [.int (0 : Int32), .int (0 : Int32), .int (0 : Int32), .ref q_1, .int (0 : Int32), .int (0 : Int32), .int (0 : Int32), .ref q_2, .int (0 : Int32), .int (0 : Int32), .ref q_3, .int (0 : Int32), .int (0 : Int32), .null, .null, .null, .null, .null, .null])), (q_1, .inl (cI, 32, .inl (fun _ => (0 : Int32)))), (q_2, .inl (cI, 256, .inl (fun _ => (0 : Int32)))), (q_3, .inl (cI, 8, .inl (fun _ => (0 : Int32))))] := hD
  refine lv_aload_n hx hb d_M_init_29 rfl (lv_at hl 0 rfl) ?_
  refine lv_sipush (v := (4000 : Int32)) hx hb d_M_init_30 (by decide) ?_
  refine cx_newa (atype := .int) (N' := 4000) (a0 := (4000, .inl (fun _ => (0 : Int32)))) (cA := cI) (ty := .int) 0 hx hb (gw.at G hx0 mw_55 rfl _) rfl (fun C h => by cases h) hK rfl hP hD hS hA (fun _ => rfl) (by decide) (by decide) (by decide +kernel) (by decide) (by decide) d_M_init_33 (fun q_4 H hP hD hS => ?_)
  have hP : va_P D kl [(m0, .inr (7, [.int (0 : Int32), .int (0 : Int32), .int (0 : Int32), .ref q_1, .int (0 : Int32), .int (0 : Int32), .int (0 : Int32), .ref q_2, .int (0 : Int32), .int (0 : Int32), .ref q_3, .int (0 : Int32), .int (0 : Int32), .null, .null, .null, .null, .null, .null])), (q_1, .inl (cI, 32, .inl (fun _ => (0 : Int32)))), (q_2, .inl (cI, 256, .inl (fun _ => (0 : Int32)))), (q_3, .inl (cI, 8, .inl (fun _ => (0 : Int32)))), (q_4, .inl (cI, 4000, .inl (fun _ => (0 : Int32))))] H := hP
  have hD : va_D A [(m0, .inr (7, [.int (0 : Int32), .int (0 : Int32), .int (0 : Int32), .ref q_1, .int (0 : Int32), .int (0 : Int32), .int (0 : Int32), .ref q_2, .int (0 : Int32), .int (0 : Int32), .ref q_3, .int (0 : Int32), .int (0 : Int32), .null, .null, .null, .null, .null, .null])), (q_1, .inl (cI, 32, .inl (fun _ => (0 : Int32)))), (q_2, .inl (cI, 256, .inl (fun _ => (0 : Int32)))), (q_3, .inl (cI, 8, .inl (fun _ => (0 : Int32)))), (q_4, .inl (cI, 4000, .inl (fun _ => (0 : Int32))))] := hD
  refine W.widen (k := 4) (n := 4296) (by decide) (by decide) ?_
  refine va_putF (D := D) (ci := 7) (v := .ref q_4) (ty := .array .int) (C := cn_M) (T := ft_M) (N := 19) hx hb hf_M (fun _ h => h) fy_M fk_M fn_M hown hK hP hD hS 0 rfl rfl 13 (by decide) (gw.at G hx0 mw_726 rfl _) (fun _ h9 => h9) rfl hin rfl (by decide +kernel) rfl rfl (Nat.le_of_ble_eq_true rfl) d_M_init_35 (fun H locs hP hD hS => ?_)
  have hP : va_P D kl [(m0, .inr (7, [.int (0 : Int32), .int (0 : Int32), .int (0 : Int32), .ref q_1, .int (0 : Int32), .int (0 : Int32), .int (0 : Int32), .ref q_2, .int (0 : Int32), .int (0 : Int32), .ref q_3, .int (0 : Int32), .int (0 : Int32), .ref q_4, .null, .null, .null, .null, .null])), (q_1, .inl (cI, 32, .inl (fun _ => (0 : Int32)))), (q_2, .inl (cI, 256, .inl (fun _ => (0 : Int32)))), (q_3, .inl (cI, 8, .inl (fun _ => (0 : Int32)))), (q_4, .inl (cI, 4000, .inl (fun _ => (0 : Int32))))] H := hP
  have hD : va_D A [(m0, .inr (7, [.int (0 : Int32), .int (0 : Int32), .int (0 : Int32), .ref q_1, .int (0 : Int32), .int (0 : Int32), .int (0 : Int32), .ref q_2, .int (0 : Int32), .int (0 : Int32), .ref q_3, .int (0 : Int32), .int (0 : Int32), .ref q_4, .null, .null, .null, .null, .null])), (q_1, .inl (cI, 32, .inl (fun _ => (0 : Int32)))), (q_2, .inl (cI, 256, .inl (fun _ => (0 : Int32)))), (q_3, .inl (cI, 8, .inl (fun _ => (0 : Int32)))), (q_4, .inl (cI, 4000, .inl (fun _ => (0 : Int32))))] := hD
  refine lv_aload_n hx hb d_M_init_38 rfl (lv_at hl 0 rfl) ?_
  refine lv_sipush (v := (1000 : Int32)) hx hb d_M_init_39 (by decide) ?_
  refine cx_newa (atype := .boolean) (N' := 1000) (a0 := (1000, .inl (fun _ => (0 : Int32)))) (cA := cZ) (ty := .boolean) 2 hx hb (gw.at G hx0 mw_771 rfl _) rfl (fun C h => by cases h) hK rfl hP hD hS hA (fun _ => rfl) (by decide) (by decide) (by decide +kernel) (by decide) (by decide) d_M_init_42 (fun q_5 H hP hD hS => ?_)
  have hP : va_P D kl [(m0, .inr (7, [.int (0 : Int32), .int (0 : Int32), .int (0 : Int32), .ref q_1, .int (0 : Int32), .int (0 : Int32), .int (0 : Int32), .ref q_2, .int (0 : Int32), .int (0 : Int32), .ref q_3, .int (0 : Int32), .int (0 : Int32), .ref q_4, .null, .null, .null, .null, .null])), (q_1, .inl (cI, 32, .inl (fun _ => (0 : Int32)))), (q_2, .inl (cI, 256, .inl (fun _ => (0 : Int32)))), (q_3, .inl (cI, 8, .inl (fun _ => (0 : Int32)))), (q_4, .inl (cI, 4000, .inl (fun _ => (0 : Int32)))), (q_5, .inl (cZ, 1000, .inl (fun _ => (0 : Int32))))] H := hP
  have hD : va_D A [(m0, .inr (7, [.int (0 : Int32), .int (0 : Int32), .int (0 : Int32), .ref q_1, .int (0 : Int32), .int (0 : Int32), .int (0 : Int32), .ref q_2, .int (0 : Int32), .int (0 : Int32), .ref q_3, .int (0 : Int32), .int (0 : Int32), .ref q_4, .null, .null, .null, .null, .null])), (q_1, .inl (cI, 32, .inl (fun _ => (0 : Int32)))), (q_2, .inl (cI, 256, .inl (fun _ => (0 : Int32)))), (q_3, .inl (cI, 8, .inl (fun _ => (0 : Int32)))), (q_4, .inl (cI, 4000, .inl (fun _ => (0 : Int32)))), (q_5, .inl (cZ, 1000, .inl (fun _ => (0 : Int32))))] := hD
  refine W.widen (k := 5) (n := 5296) (by decide) (by decide) ?_
  refine va_putF (D := D) (ci := 7) (v := .ref q_5) (ty := .array .boolean) (C := cn_M) (T := ft_M) (N := 19) hx hb hf_M (fun _ h => h) fy_M fk_M fn_M hown hK hP hD hS 0 rfl rfl 14 (by decide) (gw.at G hx0 mw_727 rfl _) (fun _ h9 => h9) rfl hin rfl (by decide +kernel) rfl rfl (Nat.le_of_ble_eq_true rfl) d_M_init_44 (fun H locs hP hD hS => ?_)
  have hP : va_P D kl [(m0, .inr (7, [.int (0 : Int32), .int (0 : Int32), .int (0 : Int32), .ref q_1, .int (0 : Int32), .int (0 : Int32), .int (0 : Int32), .ref q_2, .int (0 : Int32), .int (0 : Int32), .ref q_3, .int (0 : Int32), .int (0 : Int32), .ref q_4, .ref q_5, .null, .null, .null, .null])), (q_1, .inl (cI, 32, .inl (fun _ => (0 : Int32)))), (q_2, .inl (cI, 256, .inl (fun _ => (0 : Int32)))), (q_3, .inl (cI, 8, .inl (fun _ => (0 : Int32)))), (q_4, .inl (cI, 4000, .inl (fun _ => (0 : Int32)))), (q_5, .inl (cZ, 1000, .inl (fun _ => (0 : Int32))))] H := hP
  have hD : va_D A [(m0, .inr (7, [.int (0 : Int32), .int (0 : Int32), .int (0 : Int32), .ref q_1, .int (0 : Int32), .int (0 : Int32), .int (0 : Int32), .ref q_2, .int (0 : Int32), .int (0 : Int32), .ref q_3, .int (0 : Int32), .int (0 : Int32), .ref q_4, .ref q_5, .null, .null, .null, .null])), (q_1, .inl (cI, 32, .inl (fun _ => (0 : Int32)))), (q_2, .inl (cI, 256, .inl (fun _ => (0 : Int32)))), (q_3, .inl (cI, 8, .inl (fun _ => (0 : Int32)))), (q_4, .inl (cI, 4000, .inl (fun _ => (0 : Int32)))), (q_5, .inl (cZ, 1000, .inl (fun _ => (0 : Int32))))] := hD
  refine lv_aload_n hx hb d_M_init_47 rfl (lv_at hl 0 rfl) ?_
  refine lv_sipush (v := (256 : Int32)) hx hb d_M_init_48 (by decide) ?_
  refine cx_newa (atype := .long) (N' := 256) (a0 := (256, .inr (.inl (fun _ => (0 : Int64))))) (cA := cJ) (ty := .long) 1 hx hb (gw.at G hx0 mw_74 rfl _) rfl (fun C h => by cases h) hK rfl hP hD hS hA (fun _ => rfl) (by decide) (by decide) (by decide +kernel) (by decide) (by decide) d_M_init_51 (fun q_6 H hP hD hS => ?_)
  have hP : va_P D kl [(m0, .inr (7, [.int (0 : Int32), .int (0 : Int32), .int (0 : Int32), .ref q_1, .int (0 : Int32), .int (0 : Int32), .int (0 : Int32), .ref q_2, .int (0 : Int32), .int (0 : Int32), .ref q_3, .int (0 : Int32), .int (0 : Int32), .ref q_4, .ref q_5, .null, .null, .null, .null])), (q_1, .inl (cI, 32, .inl (fun _ => (0 : Int32)))), (q_2, .inl (cI, 256, .inl (fun _ => (0 : Int32)))), (q_3, .inl (cI, 8, .inl (fun _ => (0 : Int32)))), (q_4, .inl (cI, 4000, .inl (fun _ => (0 : Int32)))), (q_5, .inl (cZ, 1000, .inl (fun _ => (0 : Int32)))), (q_6, .inl (cJ, 256, .inr (.inl (fun _ => (0 : Int64)))))] H := hP
  have hD : va_D A [(m0, .inr (7, [.int (0 : Int32), .int (0 : Int32), .int (0 : Int32), .ref q_1, .int (0 : Int32), .int (0 : Int32), .int (0 : Int32), .ref q_2, .int (0 : Int32), .int (0 : Int32), .ref q_3, .int (0 : Int32), .int (0 : Int32), .ref q_4, .ref q_5, .null, .null, .null, .null])), (q_1, .inl (cI, 32, .inl (fun _ => (0 : Int32)))), (q_2, .inl (cI, 256, .inl (fun _ => (0 : Int32)))), (q_3, .inl (cI, 8, .inl (fun _ => (0 : Int32)))), (q_4, .inl (cI, 4000, .inl (fun _ => (0 : Int32)))), (q_5, .inl (cZ, 1000, .inl (fun _ => (0 : Int32)))), (q_6, .inl (cJ, 256, .inr (.inl (fun _ => (0 : Int64)))))] := hD
  refine W.widen (k := 6) (n := 5552) (by decide) (by decide) ?_
  refine va_putF (D := D) (ci := 7) (v := .ref q_6) (ty := .array .long) (C := cn_M) (T := ft_M) (N := 19) hx hb hf_M (fun _ h => h) fy_M fk_M fn_M hown hK hP hD hS 0 rfl rfl 15 (by decide) (gw.at G hx0 mw_728 rfl _) (fun _ h9 => h9) rfl hin rfl (by decide +kernel) rfl rfl (Nat.le_of_ble_eq_true rfl) d_M_init_53 (fun H locs hP hD hS => ?_)
  have hP : va_P D kl [(m0, .inr (7, [.int (0 : Int32), .int (0 : Int32), .int (0 : Int32), .ref q_1, .int (0 : Int32), .int (0 : Int32), .int (0 : Int32), .ref q_2, .int (0 : Int32), .int (0 : Int32), .ref q_3, .int (0 : Int32), .int (0 : Int32), .ref q_4, .ref q_5, .ref q_6, .null, .null, .null])), (q_1, .inl (cI, 32, .inl (fun _ => (0 : Int32)))), (q_2, .inl (cI, 256, .inl (fun _ => (0 : Int32)))), (q_3, .inl (cI, 8, .inl (fun _ => (0 : Int32)))), (q_4, .inl (cI, 4000, .inl (fun _ => (0 : Int32)))), (q_5, .inl (cZ, 1000, .inl (fun _ => (0 : Int32)))), (q_6, .inl (cJ, 256, .inr (.inl (fun _ => (0 : Int64)))))] H := hP
  have hD : va_D A [(m0, .inr (7, [.int (0 : Int32), .int (0 : Int32), .int (0 : Int32), .ref q_1, .int (0 : Int32), .int (0 : Int32), .int (0 : Int32), .ref q_2, .int (0 : Int32), .int (0 : Int32), .ref q_3, .int (0 : Int32), .int (0 : Int32), .ref q_4, .ref q_5, .ref q_6, .null, .null, .null])), (q_1, .inl (cI, 32, .inl (fun _ => (0 : Int32)))), (q_2, .inl (cI, 256, .inl (fun _ => (0 : Int32)))), (q_3, .inl (cI, 8, .inl (fun _ => (0 : Int32)))), (q_4, .inl (cI, 4000, .inl (fun _ => (0 : Int32)))), (q_5, .inl (cZ, 1000, .inl (fun _ => (0 : Int32)))), (q_6, .inl (cJ, 256, .inr (.inl (fun _ => (0 : Int64)))))] := hD
  refine lv_aload_n hx hb d_M_init_56 rfl (lv_at hl 0 rfl) ?_
  refine lv_bipush (v := (8 : Int32)) hx hb d_M_init_57 (by decide) ?_
  refine cx_newa (atype := .int) (N' := 8) (a0 := (8, .inl (fun _ => (0 : Int32)))) (cA := cI) (ty := .int) 0 hx hb (gw.at G hx0 mw_55 rfl _) rfl (fun C h => by cases h) hK rfl hP hD hS hA (fun _ => rfl) (by decide) (by decide) (by decide +kernel) (by decide) (by decide) d_M_init_59 (fun q_7 H hP hD hS => ?_)
  have hP : va_P D kl [(m0, .inr (7, [.int (0 : Int32), .int (0 : Int32), .int (0 : Int32), .ref q_1, .int (0 : Int32), .int (0 : Int32), .int (0 : Int32), .ref q_2, .int (0 : Int32), .int (0 : Int32), .ref q_3, .int (0 : Int32), .int (0 : Int32), .ref q_4, .ref q_5, .ref q_6, .null, .null, .null])), (q_1, .inl (cI, 32, .inl (fun _ => (0 : Int32)))), (q_2, .inl (cI, 256, .inl (fun _ => (0 : Int32)))), (q_3, .inl (cI, 8, .inl (fun _ => (0 : Int32)))), (q_4, .inl (cI, 4000, .inl (fun _ => (0 : Int32)))), (q_5, .inl (cZ, 1000, .inl (fun _ => (0 : Int32)))), (q_6, .inl (cJ, 256, .inr (.inl (fun _ => (0 : Int64))))), (q_7, .inl (cI, 8, .inl (fun _ => (0 : Int32))))] H := hP
  have hD : va_D A [(m0, .inr (7, [.int (0 : Int32), .int (0 : Int32), .int (0 : Int32), .ref q_1, .int (0 : Int32), .int (0 : Int32), .int (0 : Int32), .ref q_2, .int (0 : Int32), .int (0 : Int32), .ref q_3, .int (0 : Int32), .int (0 : Int32), .ref q_4, .ref q_5, .ref q_6, .null, .null, .null])), (q_1, .inl (cI, 32, .inl (fun _ => (0 : Int32)))), (q_2, .inl (cI, 256, .inl (fun _ => (0 : Int32)))), (q_3, .inl (cI, 8, .inl (fun _ => (0 : Int32)))), (q_4, .inl (cI, 4000, .inl (fun _ => (0 : Int32)))), (q_5, .inl (cZ, 1000, .inl (fun _ => (0 : Int32)))), (q_6, .inl (cJ, 256, .inr (.inl (fun _ => (0 : Int64))))), (q_7, .inl (cI, 8, .inl (fun _ => (0 : Int32))))] := hD
  refine W.widen (k := 7) (n := 5560) (by decide) (by decide) ?_
  refine va_putF (D := D) (ci := 7) (v := .ref q_7) (ty := .array .int) (C := cn_M) (T := ft_M) (N := 19) hx hb hf_M (fun _ h => h) fy_M fk_M fn_M hown hK hP hD hS 0 rfl rfl 16 (by decide) (gw.at G hx0 mw_729 rfl _) (fun _ h9 => h9) rfl hin rfl (by decide +kernel) rfl rfl (Nat.le_of_ble_eq_true rfl) d_M_init_61 (fun H locs hP hD hS => ?_)
  have hP : va_P D kl [(m0, .inr (7, [.int (0 : Int32), .int (0 : Int32), .int (0 : Int32), .ref q_1, .int (0 : Int32), .int (0 : Int32), .int (0 : Int32), .ref q_2, .int (0 : Int32), .int (0 : Int32), .ref q_3, .int (0 : Int32), .int (0 : Int32), .ref q_4, .ref q_5, .ref q_6, .ref q_7, .null, .null])), (q_1, .inl (cI, 32, .inl (fun _ => (0 : Int32)))), (q_2, .inl (cI, 256, .inl (fun _ => (0 : Int32)))), (q_3, .inl (cI, 8, .inl (fun _ => (0 : Int32)))), (q_4, .inl (cI, 4000, .inl (fun _ => (0 : Int32)))), (q_5, .inl (cZ, 1000, .inl (fun _ => (0 : Int32)))), (q_6, .inl (cJ, 256, .inr (.inl (fun _ => (0 : Int64))))), (q_7, .inl (cI, 8, .inl (fun _ => (0 : Int32))))] H := hP
  have hD : va_D A [(m0, .inr (7, [.int (0 : Int32), .int (0 : Int32), .int (0 : Int32), .ref q_1, .int (0 : Int32), .int (0 : Int32), .int (0 : Int32), .ref q_2, .int (0 : Int32), .int (0 : Int32), .ref q_3, .int (0 : Int32), .int (0 : Int32), .ref q_4, .ref q_5, .ref q_6, .ref q_7, .null, .null])), (q_1, .inl (cI, 32, .inl (fun _ => (0 : Int32)))), (q_2, .inl (cI, 256, .inl (fun _ => (0 : Int32)))), (q_3, .inl (cI, 8, .inl (fun _ => (0 : Int32)))), (q_4, .inl (cI, 4000, .inl (fun _ => (0 : Int32)))), (q_5, .inl (cZ, 1000, .inl (fun _ => (0 : Int32)))), (q_6, .inl (cJ, 256, .inr (.inl (fun _ => (0 : Int64))))), (q_7, .inl (cI, 8, .inl (fun _ => (0 : Int32))))] := hD
  refine lv_aload_n hx hb d_M_init_64 rfl (lv_at hl 0 rfl) ?_
  refine lv_iconst (v := (4 : Int32)) hx hb d_M_init_65 (by decide) ?_
  refine cx_newa (atype := .int) (N' := 4) (a0 := (4, .inl (fun _ => (0 : Int32)))) (cA := cI) (ty := .int) 0 hx hb (gw.at G hx0 mw_55 rfl _) rfl (fun C h => by cases h) hK rfl hP hD hS hA (fun _ => rfl) (by decide) (by decide) (by decide +kernel) (by decide) (by decide) d_M_init_66 (fun q_8 H hP hD hS => ?_)
  have hP : va_P D kl [(m0, .inr (7, [.int (0 : Int32), .int (0 : Int32), .int (0 : Int32), .ref q_1, .int (0 : Int32), .int (0 : Int32), .int (0 : Int32), .ref q_2, .int (0 : Int32), .int (0 : Int32), .ref q_3, .int (0 : Int32), .int (0 : Int32), .ref q_4, .ref q_5, .ref q_6, .ref q_7, .null, .null])), (q_1, .inl (cI, 32, .inl (fun _ => (0 : Int32)))), (q_2, .inl (cI, 256, .inl (fun _ => (0 : Int32)))), (q_3, .inl (cI, 8, .inl (fun _ => (0 : Int32)))), (q_4, .inl (cI, 4000, .inl (fun _ => (0 : Int32)))), (q_5, .inl (cZ, 1000, .inl (fun _ => (0 : Int32)))), (q_6, .inl (cJ, 256, .inr (.inl (fun _ => (0 : Int64))))), (q_7, .inl (cI, 8, .inl (fun _ => (0 : Int32)))), (q_8, .inl (cI, 4, .inl (fun _ => (0 : Int32))))] H := hP
  have hD : va_D A [(m0, .inr (7, [.int (0 : Int32), .int (0 : Int32), .int (0 : Int32), .ref q_1, .int (0 : Int32), .int (0 : Int32), .int (0 : Int32), .ref q_2, .int (0 : Int32), .int (0 : Int32), .ref q_3, .int (0 : Int32), .int (0 : Int32), .ref q_4, .ref q_5, .ref q_6, .ref q_7, .null, .null])), (q_1, .inl (cI, 32, .inl (fun _ => (0 : Int32)))), (q_2, .inl (cI, 256, .inl (fun _ => (0 : Int32)))), (q_3, .inl (cI, 8, .inl (fun _ => (0 : Int32)))), (q_4, .inl (cI, 4000, .inl (fun _ => (0 : Int32)))), (q_5, .inl (cZ, 1000, .inl (fun _ => (0 : Int32)))), (q_6, .inl (cJ, 256, .inr (.inl (fun _ => (0 : Int64))))), (q_7, .inl (cI, 8, .inl (fun _ => (0 : Int32)))), (q_8, .inl (cI, 4, .inl (fun _ => (0 : Int32))))] := hD
  refine W.widen (k := 8) (n := 5564) (by decide) (by decide) ?_
  refine va_putF (D := D) (ci := 7) (v := .ref q_8) (ty := .array .int) (C := cn_M) (T := ft_M) (N := 19) hx hb hf_M (fun _ h => h) fy_M fk_M fn_M hown hK hP hD hS 0 rfl rfl 17 (by decide) (gw.at G hx0 mw_730 rfl _) (fun _ h9 => h9) rfl hin rfl (by decide +kernel) rfl rfl (Nat.le_of_ble_eq_true rfl) d_M_init_68 (fun H locs hP hD hS => ?_)
  have hP : va_P D kl [(m0, .inr (7, [.int (0 : Int32), .int (0 : Int32), .int (0 : Int32), .ref q_1, .int (0 : Int32), .int (0 : Int32), .int (0 : Int32), .ref q_2, .int (0 : Int32), .int (0 : Int32), .ref q_3, .int (0 : Int32), .int (0 : Int32), .ref q_4, .ref q_5, .ref q_6, .ref q_7, .ref q_8, .null])), (q_1, .inl (cI, 32, .inl (fun _ => (0 : Int32)))), (q_2, .inl (cI, 256, .inl (fun _ => (0 : Int32)))), (q_3, .inl (cI, 8, .inl (fun _ => (0 : Int32)))), (q_4, .inl (cI, 4000, .inl (fun _ => (0 : Int32)))), (q_5, .inl (cZ, 1000, .inl (fun _ => (0 : Int32)))), (q_6, .inl (cJ, 256, .inr (.inl (fun _ => (0 : Int64))))), (q_7, .inl (cI, 8, .inl (fun _ => (0 : Int32)))), (q_8, .inl (cI, 4, .inl (fun _ => (0 : Int32))))] H := hP
  have hD : va_D A [(m0, .inr (7, [.int (0 : Int32), .int (0 : Int32), .int (0 : Int32), .ref q_1, .int (0 : Int32), .int (0 : Int32), .int (0 : Int32), .ref q_2, .int (0 : Int32), .int (0 : Int32), .ref q_3, .int (0 : Int32), .int (0 : Int32), .ref q_4, .ref q_5, .ref q_6, .ref q_7, .ref q_8, .null])), (q_1, .inl (cI, 32, .inl (fun _ => (0 : Int32)))), (q_2, .inl (cI, 256, .inl (fun _ => (0 : Int32)))), (q_3, .inl (cI, 8, .inl (fun _ => (0 : Int32)))), (q_4, .inl (cI, 4000, .inl (fun _ => (0 : Int32)))), (q_5, .inl (cZ, 1000, .inl (fun _ => (0 : Int32)))), (q_6, .inl (cJ, 256, .inr (.inl (fun _ => (0 : Int64))))), (q_7, .inl (cI, 8, .inl (fun _ => (0 : Int32)))), (q_8, .inl (cI, 4, .inl (fun _ => (0 : Int32))))] := hD
  refine lv_aload_n hx hb d_M_init_71 rfl (lv_at hl 0 rfl) ?_
  refine lv_iconst (v := (4 : Int32)) hx hb d_M_init_72 (by decide) ?_
  refine cx_newa (atype := .int) (N' := 4) (a0 := (4, .inl (fun _ => (0 : Int32)))) (cA := cI) (ty := .int) 0 hx hb (gw.at G hx0 mw_55 rfl _) rfl (fun C h => by cases h) hK rfl hP hD hS hA (fun _ => rfl) (by decide) (by decide) (by decide +kernel) (by decide) (by decide) d_M_init_73 (fun q_9 H hP hD hS => ?_)
  have hP : va_P D kl [(m0, .inr (7, [.int (0 : Int32), .int (0 : Int32), .int (0 : Int32), .ref q_1, .int (0 : Int32), .int (0 : Int32), .int (0 : Int32), .ref q_2, .int (0 : Int32), .int (0 : Int32), .ref q_3, .int (0 : Int32), .int (0 : Int32), .ref q_4, .ref q_5, .ref q_6, .ref q_7, .ref q_8, .null])), (q_1, .inl (cI, 32, .inl (fun _ => (0 : Int32)))), (q_2, .inl (cI, 256, .inl (fun _ => (0 : Int32)))), (q_3, .inl (cI, 8, .inl (fun _ => (0 : Int32)))), (q_4, .inl (cI, 4000, .inl (fun _ => (0 : Int32)))), (q_5, .inl (cZ, 1000, .inl (fun _ => (0 : Int32)))), (q_6, .inl (cJ, 256, .inr (.inl (fun _ => (0 : Int64))))), (q_7, .inl (cI, 8, .inl (fun _ => (0 : Int32)))), (q_8, .inl (cI, 4, .inl (fun _ => (0 : Int32)))), (q_9, .inl (cI, 4, .inl (fun _ => (0 : Int32))))] H := hP
  have hD : va_D A [(m0, .inr (7, [.int (0 : Int32), .int (0 : Int32), .int (0 : Int32), .ref q_1, .int (0 : Int32), .int (0 : Int32), .int (0 : Int32), .ref q_2, .int (0 : Int32), .int (0 : Int32), .ref q_3, .int (0 : Int32), .int (0 : Int32), .ref q_4, .ref q_5, .ref q_6, .ref q_7, .ref q_8, .null])), (q_1, .inl (cI, 32, .inl (fun _ => (0 : Int32)))), (q_2, .inl (cI, 256, .inl (fun _ => (0 : Int32)))), (q_3, .inl (cI, 8, .inl (fun _ => (0 : Int32)))), (q_4, .inl (cI, 4000, .inl (fun _ => (0 : Int32)))), (q_5, .inl (cZ, 1000, .inl (fun _ => (0 : Int32)))), (q_6, .inl (cJ, 256, .inr (.inl (fun _ => (0 : Int64))))), (q_7, .inl (cI, 8, .inl (fun _ => (0 : Int32)))), (q_8, .inl (cI, 4, .inl (fun _ => (0 : Int32)))), (q_9, .inl (cI, 4, .inl (fun _ => (0 : Int32))))] := hD
  refine W.widen (k := 9) (n := 5568) (by decide) (by decide) ?_
  refine va_putF (D := D) (ci := 7) (v := .ref q_9) (ty := .array .int) (C := cn_M) (T := ft_M) (N := 19) hx hb hf_M (fun _ h => h) fy_M fk_M fn_M hown hK hP hD hS 0 rfl rfl 18 (by decide) (gw.at G hx0 mw_731 rfl _) (fun _ h9 => h9) rfl hin rfl (by decide +kernel) rfl rfl (Nat.le_of_ble_eq_true rfl) d_M_init_75 (fun H locs hP hD hS => ?_)
  have hP : va_P D kl [(m0, .inr (7, [.int (0 : Int32), .int (0 : Int32), .int (0 : Int32), .ref q_1, .int (0 : Int32), .int (0 : Int32), .int (0 : Int32), .ref q_2, .int (0 : Int32), .int (0 : Int32), .ref q_3, .int (0 : Int32), .int (0 : Int32), .ref q_4, .ref q_5, .ref q_6, .ref q_7, .ref q_8, .ref q_9])), (q_1, .inl (cI, 32, .inl (fun _ => (0 : Int32)))), (q_2, .inl (cI, 256, .inl (fun _ => (0 : Int32)))), (q_3, .inl (cI, 8, .inl (fun _ => (0 : Int32)))), (q_4, .inl (cI, 4000, .inl (fun _ => (0 : Int32)))), (q_5, .inl (cZ, 1000, .inl (fun _ => (0 : Int32)))), (q_6, .inl (cJ, 256, .inr (.inl (fun _ => (0 : Int64))))), (q_7, .inl (cI, 8, .inl (fun _ => (0 : Int32)))), (q_8, .inl (cI, 4, .inl (fun _ => (0 : Int32)))), (q_9, .inl (cI, 4, .inl (fun _ => (0 : Int32))))] H := hP
  have hD : va_D A [(m0, .inr (7, [.int (0 : Int32), .int (0 : Int32), .int (0 : Int32), .ref q_1, .int (0 : Int32), .int (0 : Int32), .int (0 : Int32), .ref q_2, .int (0 : Int32), .int (0 : Int32), .ref q_3, .int (0 : Int32), .int (0 : Int32), .ref q_4, .ref q_5, .ref q_6, .ref q_7, .ref q_8, .ref q_9])), (q_1, .inl (cI, 32, .inl (fun _ => (0 : Int32)))), (q_2, .inl (cI, 256, .inl (fun _ => (0 : Int32)))), (q_3, .inl (cI, 8, .inl (fun _ => (0 : Int32)))), (q_4, .inl (cI, 4000, .inl (fun _ => (0 : Int32)))), (q_5, .inl (cZ, 1000, .inl (fun _ => (0 : Int32)))), (q_6, .inl (cJ, 256, .inr (.inl (fun _ => (0 : Int64))))), (q_7, .inl (cI, 8, .inl (fun _ => (0 : Int32)))), (q_8, .inl (cI, 4, .inl (fun _ => (0 : Int32)))), (q_9, .inl (cI, 4, .inl (fun _ => (0 : Int32))))] := hD
  refine lv_aload_n hx hb d_M_init_78 rfl (lv_at hl 0 rfl) ?_
  refine lv_iload_n hx hb d_M_init_79 rfl (lv_at hl 1 rfl) ?_
  refine lv_iconst (v := (2 : Int32)) hx hb d_M_init_80 (by decide) ?_
  refine lv_icmp_ge (tgt := 88) hx hb d_M_init_81 (by decide) (fun h_10 => ?_) (fun h_10 => ?_)
  · refine lv_iload_n hx hb d_M_init_88 rfl (lv_at hl 1 rfl) ?_
    refine lv_iconst (v := (4 : Int32)) hx hb d_M_init_89 (by decide) ?_
    refine lv_icmp_le (tgt := 97) hx hb d_M_init_90 (by decide) (fun h_11 => ?_) (fun h_11 => ?_)
    · refine lv_iload_n hx hb d_M_init_97 rfl (lv_at hl 1 rfl) ?_
      refine tp_i (y := z) ((jd3 h_10 h_11).symm.trans hd) ?_
      refine va_putF (D := D) (ci := 7) (v := .int z) (ty := .int) (C := cn_M) (T := ft_M) (N := 19) hx hb hf_M (fun _ h => h) fy_M fk_M fn_M hown hK hP hD hS 0 rfl rfl 1 (by decide) (gw.at G hx0 mw_714 rfl _) (fun _ h9 => h9) rfl hin rfl (by decide +kernel) rfl rfl (Nat.le_of_ble_eq_true rfl) d_M_init_98 (fun H locs hP hD hS => ?_)
      have hP : va_P D kl [(m0, .inr (7, [.int (0 : Int32), .int z, .int (0 : Int32), .ref q_1, .int (0 : Int32), .int (0 : Int32), .int (0 : Int32), .ref q_2, .int (0 : Int32), .int (0 : Int32), .ref q_3, .int (0 : Int32), .int (0 : Int32), .ref q_4, .ref q_5, .ref q_6, .ref q_7, .ref q_8, .ref q_9])), (q_1, .inl (cI, 32, .inl (fun _ => (0 : Int32)))), (q_2, .inl (cI, 256, .inl (fun _ => (0 : Int32)))), (q_3, .inl (cI, 8, .inl (fun _ => (0 : Int32)))), (q_4, .inl (cI, 4000, .inl (fun _ => (0 : Int32)))), (q_5, .inl (cZ, 1000, .inl (fun _ => (0 : Int32)))), (q_6, .inl (cJ, 256, .inr (.inl (fun _ => (0 : Int64))))), (q_7, .inl (cI, 8, .inl (fun _ => (0 : Int32)))), (q_8, .inl (cI, 4, .inl (fun _ => (0 : Int32)))), (q_9, .inl (cI, 4, .inl (fun _ => (0 : Int32))))] H := hP
      have hD : va_D A [(m0, .inr (7, [.int (0 : Int32), .int z, .int (0 : Int32), .ref q_1, .int (0 : Int32), .int (0 : Int32), .int (0 : Int32), .ref q_2, .int (0 : Int32), .int (0 : Int32), .ref q_3, .int (0 : Int32), .int (0 : Int32), .ref q_4, .ref q_5, .ref q_6, .ref q_7, .ref q_8, .ref q_9])), (q_1, .inl (cI, 32, .inl (fun _ => (0 : Int32)))), (q_2, .inl (cI, 256, .inl (fun _ => (0 : Int32)))), (q_3, .inl (cI, 8, .inl (fun _ => (0 : Int32)))), (q_4, .inl (cI, 4000, .inl (fun _ => (0 : Int32)))), (q_5, .inl (cZ, 1000, .inl (fun _ => (0 : Int32)))), (q_6, .inl (cJ, 256, .inr (.inl (fun _ => (0 : Int64))))), (q_7, .inl (cI, 8, .inl (fun _ => (0 : Int32)))), (q_8, .inl (cI, 4, .inl (fun _ => (0 : Int32)))), (q_9, .inl (cI, 4, .inl (fun _ => (0 : Int32))))] := hD
      exact tx_mono (fun _ h => tx_Z.of h) (W.vret hx hb hr (fun t ht hW => ⟨⟨[(m0, .inr (7, [.int (0 : Int32), .int z, .int (0 : Int32), .ref q_1, .int (0 : Int32), .int (0 : Int32), .int (0 : Int32), .ref q_2, .int (0 : Int32), .int (0 : Int32), .ref q_3, .int (0 : Int32), .int (0 : Int32), .ref q_4, .ref q_5, .ref q_6, .ref q_7, .ref q_8, .ref q_9])), (q_1, .inl (cI, 32, .inl (fun _ => (0 : Int32)))), (q_8, .inl (cI, 4, .inl (fun _ => (0 : Int32))))], ⟨q_1, q_2, q_3, q_4, q_5, q_6, q_7, q_8, q_9, rfl, rfl⟩, by rw [ht]; exact hP.sub [0, 1, 8] rfl, hD.sub [0, 1, 8] (by decide) rfl⟩, hS.F ht⟩) hS.2.2 d_M_init_101)
    · refine lv_iconst (v := (4 : Int32)) hx hb d_M_init_93 (by decide) ?_
      refine lv_goto (tgt := 98) hx hb d_M_init_94 (by decide) ?_
      refine tp_i (y := z) ((jd2 h_11).symm.trans hd) ?_
      refine va_putF (D := D) (ci := 7) (v := .int z) (ty := .int) (C := cn_M) (T := ft_M) (N := 19) hx hb hf_M (fun _ h => h) fy_M fk_M fn_M hown hK hP hD hS 0 rfl rfl 1 (by decide) (gw.at G hx0 mw_714 rfl _) (fun _ h9 => h9) rfl hin rfl (by decide +kernel) rfl rfl (Nat.le_of_ble_eq_true rfl) d_M_init_98 (fun H locs hP hD hS => ?_)
      have hP : va_P D kl [(m0, .inr (7, [.int (0 : Int32), .int z, .int (0 : Int32), .ref q_1, .int (0 : Int32), .int (0 : Int32), .int (0 : Int32), .ref q_2, .int (0 : Int32), .int (0 : Int32), .ref q_3, .int (0 : Int32), .int (0 : Int32), .ref q_4, .ref q_5, .ref q_6, .ref q_7, .ref q_8, .ref q_9])), (q_1, .inl (cI, 32, .inl (fun _ => (0 : Int32)))), (q_2, .inl (cI, 256, .inl (fun _ => (0 : Int32)))), (q_3, .inl (cI, 8, .inl (fun _ => (0 : Int32)))), (q_4, .inl (cI, 4000, .inl (fun _ => (0 : Int32)))), (q_5, .inl (cZ, 1000, .inl (fun _ => (0 : Int32)))), (q_6, .inl (cJ, 256, .inr (.inl (fun _ => (0 : Int64))))), (q_7, .inl (cI, 8, .inl (fun _ => (0 : Int32)))), (q_8, .inl (cI, 4, .inl (fun _ => (0 : Int32)))), (q_9, .inl (cI, 4, .inl (fun _ => (0 : Int32))))] H := hP
      have hD : va_D A [(m0, .inr (7, [.int (0 : Int32), .int z, .int (0 : Int32), .ref q_1, .int (0 : Int32), .int (0 : Int32), .int (0 : Int32), .ref q_2, .int (0 : Int32), .int (0 : Int32), .ref q_3, .int (0 : Int32), .int (0 : Int32), .ref q_4, .ref q_5, .ref q_6, .ref q_7, .ref q_8, .ref q_9])), (q_1, .inl (cI, 32, .inl (fun _ => (0 : Int32)))), (q_2, .inl (cI, 256, .inl (fun _ => (0 : Int32)))), (q_3, .inl (cI, 8, .inl (fun _ => (0 : Int32)))), (q_4, .inl (cI, 4000, .inl (fun _ => (0 : Int32)))), (q_5, .inl (cZ, 1000, .inl (fun _ => (0 : Int32)))), (q_6, .inl (cJ, 256, .inr (.inl (fun _ => (0 : Int64))))), (q_7, .inl (cI, 8, .inl (fun _ => (0 : Int32)))), (q_8, .inl (cI, 4, .inl (fun _ => (0 : Int32)))), (q_9, .inl (cI, 4, .inl (fun _ => (0 : Int32))))] := hD
      exact tx_mono (fun _ h => tx_Z.of h) (W.vret hx hb hr (fun t ht hW => ⟨⟨[(m0, .inr (7, [.int (0 : Int32), .int z, .int (0 : Int32), .ref q_1, .int (0 : Int32), .int (0 : Int32), .int (0 : Int32), .ref q_2, .int (0 : Int32), .int (0 : Int32), .ref q_3, .int (0 : Int32), .int (0 : Int32), .ref q_4, .ref q_5, .ref q_6, .ref q_7, .ref q_8, .ref q_9])), (q_1, .inl (cI, 32, .inl (fun _ => (0 : Int32)))), (q_8, .inl (cI, 4, .inl (fun _ => (0 : Int32))))], ⟨q_1, q_2, q_3, q_4, q_5, q_6, q_7, q_8, q_9, rfl, rfl⟩, by rw [ht]; exact hP.sub [0, 1, 8] rfl, hD.sub [0, 1, 8] (by decide) rfl⟩, hS.F ht⟩) hS.2.2 d_M_init_101)
  · refine lv_iconst (v := (2 : Int32)) hx hb d_M_init_84 (by decide) ?_
    refine lv_goto (tgt := 98) hx hb d_M_init_85 (by decide) ?_
    refine tp_i (y := z) ((jd1 h_10).symm.trans hd) ?_
    refine va_putF (D := D) (ci := 7) (v := .int z) (ty := .int) (C := cn_M) (T := ft_M) (N := 19) hx hb hf_M (fun _ h => h) fy_M fk_M fn_M hown hK hP hD hS 0 rfl rfl 1 (by decide) (gw.at G hx0 mw_714 rfl _) (fun _ h9 => h9) rfl hin rfl (by decide +kernel) rfl rfl (Nat.le_of_ble_eq_true rfl) d_M_init_98 (fun H locs hP hD hS => ?_)
    have hP : va_P D kl [(m0, .inr (7, [.int (0 : Int32), .int z, .int (0 : Int32), .ref q_1, .int (0 : Int32), .int (0 : Int32), .int (0 : Int32), .ref q_2, .int (0 : Int32), .int (0 : Int32), .ref q_3, .int (0 : Int32), .int (0 : Int32), .ref q_4, .ref q_5, .ref q_6, .ref q_7, .ref q_8, .ref q_9])), (q_1, .inl (cI, 32, .inl (fun _ => (0 : Int32)))), (q_2, .inl (cI, 256, .inl (fun _ => (0 : Int32)))), (q_3, .inl (cI, 8, .inl (fun _ => (0 : Int32)))), (q_4, .inl (cI, 4000, .inl (fun _ => (0 : Int32)))), (q_5, .inl (cZ, 1000, .inl (fun _ => (0 : Int32)))), (q_6, .inl (cJ, 256, .inr (.inl (fun _ => (0 : Int64))))), (q_7, .inl (cI, 8, .inl (fun _ => (0 : Int32)))), (q_8, .inl (cI, 4, .inl (fun _ => (0 : Int32)))), (q_9, .inl (cI, 4, .inl (fun _ => (0 : Int32))))] H := hP
    have hD : va_D A [(m0, .inr (7, [.int (0 : Int32), .int z, .int (0 : Int32), .ref q_1, .int (0 : Int32), .int (0 : Int32), .int (0 : Int32), .ref q_2, .int (0 : Int32), .int (0 : Int32), .ref q_3, .int (0 : Int32), .int (0 : Int32), .ref q_4, .ref q_5, .ref q_6, .ref q_7, .ref q_8, .ref q_9])), (q_1, .inl (cI, 32, .inl (fun _ => (0 : Int32)))), (q_2, .inl (cI, 256, .inl (fun _ => (0 : Int32)))), (q_3, .inl (cI, 8, .inl (fun _ => (0 : Int32)))), (q_4, .inl (cI, 4000, .inl (fun _ => (0 : Int32)))), (q_5, .inl (cZ, 1000, .inl (fun _ => (0 : Int32)))), (q_6, .inl (cJ, 256, .inr (.inl (fun _ => (0 : Int64))))), (q_7, .inl (cI, 8, .inl (fun _ => (0 : Int32)))), (q_8, .inl (cI, 4, .inl (fun _ => (0 : Int32)))), (q_9, .inl (cI, 4, .inl (fun _ => (0 : Int32))))] := hD
    exact tx_mono (fun _ h => tx_Z.of h) (W.vret hx hb hr (fun t ht hW => ⟨⟨[(m0, .inr (7, [.int (0 : Int32), .int z, .int (0 : Int32), .ref q_1, .int (0 : Int32), .int (0 : Int32), .int (0 : Int32), .ref q_2, .int (0 : Int32), .int (0 : Int32), .ref q_3, .int (0 : Int32), .int (0 : Int32), .ref q_4, .ref q_5, .ref q_6, .ref q_7, .ref q_8, .ref q_9])), (q_1, .inl (cI, 32, .inl (fun _ => (0 : Int32)))), (q_8, .inl (cI, 4, .inl (fun _ => (0 : Int32))))], ⟨q_1, q_2, q_3, q_4, q_5, q_6, q_7, q_8, q_9, rfl, rfl⟩, by rw [ht]; exact hP.sub [0, 1, 8] rfl, hD.sub [0, 1, 8] (by decide) rfl⟩, hS.F ht⟩) hS.2.2 d_M_init_101)

