/-! ===== own rows, laid by wip/tools/sym.py: the reference's products ===== -/
/-- a row of the reference times a point at a place -/
def prm (wf : Nat → Int32) (k : Nat) (g : Nat → Int32) (a : Nat) : Int64 := (0 : Int64) + (wf (4 * k + 0)).toInt64 * (g (a + 0)).toInt64 + (wf (4 * k + 1)).toInt64 * (g (a + 1)).toInt64 + (wf (4 * k + 2)).toInt64 * (g (a + 2)).toInt64 + (wf (4 * k + 3)).toInt64 * (g (a + 3)).toInt64
set_option maxHeartbeats 4000000 in
set_option maxRecDepth 100000 in
theorem c_M_product {l : Launch} {s0 : State} {b0 : Addr} {D : va_G} {cI cJ cZ : ClassId} {tC tS : Nat} (E : gE l s0 b0 D cI cJ cZ tC tS) (sz : Nat) (m0 : Nat) (rw : Nat) (ry : Nat) (ti : Nat) (po : Nat) (su : Nat) (sq : Nat) (ch : Nat) (vt : Nat) (sh : Nat) (th : Int32) (zz : Int32) (kn : Int32) (rk : Int32) (ry1 : Int32) (sp : Int32) (lg : Int32) (fo1 : Int32) (pt : Int32) (rn : Nat) (wf : Nat → Int32) (k : Nat) (yy : Nat) (yz : Nat) (g : Nat → Int32) (a : Nat) (hk : k < 8) (ha : a + 4 ≤ yz) (hz : yz ≤ 4000) : cx_M l s0 D kl y_M_product b_M_product 7 (some .long) ({ frames := 0, cells := 0, slots := 0, locals := 0 } : Room) 0 0 [.ref m0, .int (nI k), .ref yy, .int (nI a)] [(m0, .inr (7, [.int th, .int zz, .int (nI rn), .ref rw, .int kn, .int rk, .int ry1, .ref ry, .int sp, .int lg, .ref ti, .int fo1, .int pt, .ref po, .ref su, .ref sq, .ref ch, .ref vt, .ref sh])), (rw, .inl (cI, 32, .inl wf)), (yy, .inl (cI, yz, .inl g))] sz (fun o9 _ w9 => o9 = .returned (some (.long (prm wf k g a))) ∧ w9 = [(m0, .inr (7, [.int th, .int zz, .int (nI rn), .ref rw, .int kn, .int rk, .int ry1, .ref ry, .int sp, .int lg, .ref ti, .int fo1, .int pt, .ref po, .ref su, .ref sq, .ref ch, .ref vt, .ref sh])), (rw, .inl (cI, 32, .inl wf)), (yy, .inl (cI, yz, .inl g))]) := by
  refine tx_ofW (cc := b_M_product) (maxL := 7) (ret := (some .long)) (by decide) rfl ?_
  intro p e s m args below meth c s₁ B hml hT hv
  obtain ⟨rfl, hsz, hP, hD0, hx0⟩ := hv
  have hx := B.exec
  have hb := B.bytes
  have hr := B.returns
  have G := E.2.1
  have hown : s.vm.findClass cn_M = some m.cls := findClass_of_methodNamed B.named
  have hlocks := B.notSynchronized
  have hK := va_K.moved hx0.1.alike E.2.2.1
  have hf_M : ∀ w99 ∈ u_ws cn_M ft_M 19, w99.before ([.ref m0, .int (nI k), .ref yy, .int (nI a)] : List Value).toArray s = true := fun w99 h99 => gw.at G hx0 (fw_M w99 h99) (fo_M w99 h99) _
  subst hsz
  have hA0 := cx_new hD0 hx0.2.1
  have hD := hD0.self (sz := s.heap.size)
  generalize hAe : va_A [(m0, .inr (7, [.int th, .int zz, .int (nI rn), .ref rw, .int kn, .int rk, .int ry1, .ref ry, .int sp, .int lg, .ref ti, .int fo1, .int pt, .ref po, .ref su, .ref sq, .ref ch, .ref vt, .ref sh])), (rw, .inl (cI, 32, .inl wf)), (yy, .inl (cI, yz, .inl g))] s.heap.size = A at hD hA0 ⊢
  have hA : ∀ q : Nat, s.heap.size ≤ q → A q := fun q h => by rw [← hAe]; exact Or.inr h
  have hS : va_S A s.heap s.heap [] := va_S.rf
  have hl := lv_entry ([.ref m0, .int (nI k), .ref yy, .int (nI a)]) (n := 7) (Nat.le_of_ble_eq_true rfl)
  rw [lg_entry_eq]
  generalize (lg_sl ([.ref m0, .int (nI k), .ref yy, .int (nI a)]) ++ List.replicate (7 - (lg_sl ([.ref m0, .int (nI k), .ref yy, .int (nI a)])).length) Slot.unset).toArray = ls at hl ⊢
  have hl : lv_has ls 7 [(0, .ref m0), (1, .int (nI k)), (2, .ref yy), (3, .int (nI a))] := hl
  have hP : va_P D kl [(m0, .inr (7, [.int th, .int zz, .int (nI rn), .ref rw, .int kn, .int rk, .int ry1, .ref ry, .int sp, .int lg, .ref ti, .int fo1, .int pt, .ref po, .ref su, .ref sq, .ref ch, .ref vt, .ref sh])), (rw, .inl (cI, 32, .inl wf)), (yy, .inl (cI, yz, .inl g))] s.heap := hP
  have hml : c.maxLocals = 7 := hml
  refine lv_lconst (v := (0 : Int64)) hx hb d_M_product_0 (by decide) ?_
  refine lv_lstore (lv' := [(4, .long (0 : Int64)), (0, .ref m0), (1, .int (nI k)), (2, .ref yy), (3, .int (nI a))]) hx hb d_M_product_1 hl (by decide) rfl (fun ls hl => ?_)
  refine lv_iconst (v := (0 : Int32)) hx hb d_M_product_3 (by decide) ?_
  refine lv_istore (lv' := [(6, .int (0 : Int32)), (4, .long (0 : Int64)), (0, .ref m0), (1, .int (nI k)), (2, .ref yy), (3, .int (nI a))]) hx hb d_M_product_4 hl (by decide) rfl (fun ls hl => ?_)
  refine lv_iload hx hb d_M_product_6 (lv_at hl 0 rfl) ?_
  refine lv_iconst (v := (4 : Int32)) hx hb d_M_product_8 (by decide) ?_
  refine lv_icmp_ge (tgt := 43) hx hb d_M_product_9 (by decide) (fun h99 => absurd h99 (by decide)) (fun _ => ?_)
  refine lv_lload hx hb d_M_product_12 (lv_at hl 1 rfl) ?_
  refine lv_aload_n hx hb d_M_product_14 rfl (lv_at hl 2 rfl) ?_
  refine va_get (D := D) (ci := 7) (v := .ref rw) (C := cn_M) (T := ft_M) (N := 19) hx hb hf_M (fun _ h => h) hown hK hP 0 rfl rfl 3 (by decide) (gw.at G hx0 mw_716 rfl _) (fun _ h9 => h9) rfl d_M_product_15 ?_
  refine lv_iconst (v := (4 : Int32)) hx hb d_M_product_18 (by decide) ?_
  refine lv_iload_n hx hb d_M_product_19 rfl (lv_at hl 3 rfl) ?_
  refine lv_imul hx hb d_M_product_20 ?_
  refine tp_i (y := nI (4 * k)) (nI_mul 4 k) ?_
  refine lv_iload hx hb d_M_product_21 (lv_at hl 0 rfl) ?_
  refine lv_iadd hx hb d_M_product_23 ?_
  refine tp_i (y := nI ((4 * k) + 0)) (nI_add (4 * k) 0) ?_
  refine va_iald hx hb hK hP 1 0 rfl rfl (vp_in_nI (n := (4 * k) + 0) (by omega) (by omega)) d_M_product_24 ?_
  refine tp_i (y := wf ((4 * k) + 0)) (congrArg wf (nI_clamp (n := (4 * k) + 0) (by omega))) ?_
  refine lv_i2l (v := (wf ((4 * k) + 0)).toInt64) hx hb d_M_product_25 rfl ?_
  refine lv_aload_n hx hb d_M_product_26 rfl (lv_at hl 4 rfl) ?_
  refine lv_iload_n hx hb d_M_product_27 rfl (lv_at hl 5 rfl) ?_
  refine lv_iload hx hb d_M_product_28 (lv_at hl 0 rfl) ?_
  refine lv_iadd hx hb d_M_product_30 ?_
  refine tp_i (y := nI (a + 0)) (nI_add a 0) ?_
  refine va_iald hx hb hK hP 2 0 rfl rfl (vp_in_nI (n := a + 0) (by omega) (by omega)) d_M_product_31 ?_
  refine tp_i (y := g (a + 0)) (congrArg g (nI_clamp (n := a + 0) (by omega))) ?_
  refine lv_i2l (v := (g (a + 0)).toInt64) hx hb d_M_product_32 rfl ?_
  refine lv_lmul hx hb d_M_product_33 ?_
  refine lv_ladd hx hb d_M_product_34 ?_
  refine lv_lstore (lv' := [(4, .long ((0 : Int64) + (((wf ((4 * k) + 0)).toInt64) * ((g (a + 0)).toInt64)))), (6, .int (0 : Int32)), (0, .ref m0), (1, .int (nI k)), (2, .ref yy), (3, .int (nI a))]) hx hb d_M_product_35 hl (by decide) rfl (fun ls hl => ?_)
  refine lv_iinc (lv' := [(6, .int (1 : Int32)), (4, .long ((0 : Int64) + (((wf ((4 * k) + 0)).toInt64) * ((g (a + 0)).toInt64)))), (0, .ref m0), (1, .int (nI k)), (2, .ref yy), (3, .int (nI a))]) (k := 1) (v := (1 : Int32)) hx hb d_M_product_37 hl rfl (by decide) (by decide) rfl (fun ls hl => ?_)
  refine lv_goto (tgt := 6) hx hb d_M_product_40 (by decide) ?_
  refine lv_iload hx hb d_M_product_6 (lv_at hl 0 rfl) ?_
  refine lv_iconst (v := (4 : Int32)) hx hb d_M_product_8 (by decide) ?_
  refine lv_icmp_ge (tgt := 43) hx hb d_M_product_9 (by decide) (fun h99 => absurd h99 (by decide)) (fun _ => ?_)
  refine lv_lload hx hb d_M_product_12 (lv_at hl 1 rfl) ?_
  refine lv_aload_n hx hb d_M_product_14 rfl (lv_at hl 2 rfl) ?_
  refine va_get (D := D) (ci := 7) (v := .ref rw) (C := cn_M) (T := ft_M) (N := 19) hx hb hf_M (fun _ h => h) hown hK hP 0 rfl rfl 3 (by decide) (gw.at G hx0 mw_716 rfl _) (fun _ h9 => h9) rfl d_M_product_15 ?_
  refine lv_iconst (v := (4 : Int32)) hx hb d_M_product_18 (by decide) ?_
  refine lv_iload_n hx hb d_M_product_19 rfl (lv_at hl 3 rfl) ?_
  refine lv_imul hx hb d_M_product_20 ?_
  refine tp_i (y := nI (4 * k)) (nI_mul 4 k) ?_
  refine lv_iload hx hb d_M_product_21 (lv_at hl 0 rfl) ?_
  refine lv_iadd hx hb d_M_product_23 ?_
  refine tp_i (y := nI ((4 * k) + 1)) (nI_add (4 * k) 1) ?_
  refine va_iald hx hb hK hP 1 0 rfl rfl (vp_in_nI (n := (4 * k) + 1) (by omega) (by omega)) d_M_product_24 ?_
  refine tp_i (y := wf ((4 * k) + 1)) (congrArg wf (nI_clamp (n := (4 * k) + 1) (by omega))) ?_
  refine lv_i2l (v := (wf ((4 * k) + 1)).toInt64) hx hb d_M_product_25 rfl ?_
  refine lv_aload_n hx hb d_M_product_26 rfl (lv_at hl 4 rfl) ?_
  refine lv_iload_n hx hb d_M_product_27 rfl (lv_at hl 5 rfl) ?_
  refine lv_iload hx hb d_M_product_28 (lv_at hl 0 rfl) ?_
  refine lv_iadd hx hb d_M_product_30 ?_
  refine tp_i (y := nI (a + 1)) (nI_add a 1) ?_
  refine va_iald hx hb hK hP 2 0 rfl rfl (vp_in_nI (n := a + 1) (by omega) (by omega)) d_M_product_31 ?_
  refine tp_i (y := g (a + 1)) (congrArg g (nI_clamp (n := a + 1) (by omega))) ?_
  refine lv_i2l (v := (g (a + 1)).toInt64) hx hb d_M_product_32 rfl ?_
  refine lv_lmul hx hb d_M_product_33 ?_
  refine lv_ladd hx hb d_M_product_34 ?_
  refine lv_lstore (lv' := [(4, .long (((0 : Int64) + (((wf ((4 * k) + 0)).toInt64) * ((g (a + 0)).toInt64))) + (((wf ((4 * k) + 1)).toInt64) * ((g (a + 1)).toInt64)))), (6, .int (1 : Int32)), (0, .ref m0), (1, .int (nI k)), (2, .ref yy), (3, .int (nI a))]) hx hb d_M_product_35 hl (by decide) rfl (fun ls hl => ?_)
  refine lv_iinc (lv' := [(6, .int (2 : Int32)), (4, .long (((0 : Int64) + (((wf ((4 * k) + 0)).toInt64) * ((g (a + 0)).toInt64))) + (((wf ((4 * k) + 1)).toInt64) * ((g (a + 1)).toInt64)))), (0, .ref m0), (1, .int (nI k)), (2, .ref yy), (3, .int (nI a))]) (k := 1) (v := (2 : Int32)) hx hb d_M_product_37 hl rfl (by decide) (by decide) rfl (fun ls hl => ?_)
  refine lv_goto (tgt := 6) hx hb d_M_product_40 (by decide) ?_
  refine lv_iload hx hb d_M_product_6 (lv_at hl 0 rfl) ?_
  refine lv_iconst (v := (4 : Int32)) hx hb d_M_product_8 (by decide) ?_
  refine lv_icmp_ge (tgt := 43) hx hb d_M_product_9 (by decide) (fun h99 => absurd h99 (by decide)) (fun _ => ?_)
  refine lv_lload hx hb d_M_product_12 (lv_at hl 1 rfl) ?_
  refine lv_aload_n hx hb d_M_product_14 rfl (lv_at hl 2 rfl) ?_
  refine va_get (D := D) (ci := 7) (v := .ref rw) (C := cn_M) (T := ft_M) (N := 19) hx hb hf_M (fun _ h => h) hown hK hP 0 rfl rfl 3 (by decide) (gw.at G hx0 mw_716 rfl _) (fun _ h9 => h9) rfl d_M_product_15 ?_
  refine lv_iconst (v := (4 : Int32)) hx hb d_M_product_18 (by decide) ?_
  refine lv_iload_n hx hb d_M_product_19 rfl (lv_at hl 3 rfl) ?_
  refine lv_imul hx hb d_M_product_20 ?_
  refine tp_i (y := nI (4 * k)) (nI_mul 4 k) ?_
  refine lv_iload hx hb d_M_product_21 (lv_at hl 0 rfl) ?_
  refine lv_iadd hx hb d_M_product_23 ?_
  refine tp_i (y := nI ((4 * k) + 2)) (nI_add (4 * k) 2) ?_
  refine va_iald hx hb hK hP 1 0 rfl rfl (vp_in_nI (n := (4 * k) + 2) (by omega) (by omega)) d_M_product_24 ?_
  refine tp_i (y := wf ((4 * k) + 2)) (congrArg wf (nI_clamp (n := (4 * k) + 2) (by omega))) ?_
  refine lv_i2l (v := (wf ((4 * k) + 2)).toInt64) hx hb d_M_product_25 rfl ?_
  refine lv_aload_n hx hb d_M_product_26 rfl (lv_at hl 4 rfl) ?_
  refine lv_iload_n hx hb d_M_product_27 rfl (lv_at hl 5 rfl) ?_
  refine lv_iload hx hb d_M_product_28 (lv_at hl 0 rfl) ?_
  refine lv_iadd hx hb d_M_product_30 ?_
  refine tp_i (y := nI (a + 2)) (nI_add a 2) ?_
  refine va_iald hx hb hK hP 2 0 rfl rfl (vp_in_nI (n := a + 2) (by omega) (by omega)) d_M_product_31 ?_
  refine tp_i (y := g (a + 2)) (congrArg g (nI_clamp (n := a + 2) (by omega))) ?_
  refine lv_i2l (v := (g (a + 2)).toInt64) hx hb d_M_product_32 rfl ?_
  refine lv_lmul hx hb d_M_product_33 ?_
  refine lv_ladd hx hb d_M_product_34 ?_
  refine lv_lstore (lv' := [(4, .long ((((0 : Int64) + (((wf ((4 * k) + 0)).toInt64) * ((g (a + 0)).toInt64))) + (((wf ((4 * k) + 1)).toInt64) * ((g (a + 1)).toInt64))) + (((wf ((4 * k) + 2)).toInt64) * ((g (a + 2)).toInt64)))), (6, .int (2 : Int32)), (0, .ref m0), (1, .int (nI k)), (2, .ref yy), (3, .int (nI a))]) hx hb d_M_product_35 hl (by decide) rfl (fun ls hl => ?_)
  refine lv_iinc (lv' := [(6, .int (3 : Int32)), (4, .long ((((0 : Int64) + (((wf ((4 * k) + 0)).toInt64) * ((g (a + 0)).toInt64))) + (((wf ((4 * k) + 1)).toInt64) * ((g (a + 1)).toInt64))) + (((wf ((4 * k) + 2)).toInt64) * ((g (a + 2)).toInt64)))), (0, .ref m0), (1, .int (nI k)), (2, .ref yy), (3, .int (nI a))]) (k := 1) (v := (3 : Int32)) hx hb d_M_product_37 hl rfl (by decide) (by decide) rfl (fun ls hl => ?_)
  refine lv_goto (tgt := 6) hx hb d_M_product_40 (by decide) ?_
  refine lv_iload hx hb d_M_product_6 (lv_at hl 0 rfl) ?_
  refine lv_iconst (v := (4 : Int32)) hx hb d_M_product_8 (by decide) ?_
  refine lv_icmp_ge (tgt := 43) hx hb d_M_product_9 (by decide) (fun h99 => absurd h99 (by decide)) (fun _ => ?_)
  refine lv_lload hx hb d_M_product_12 (lv_at hl 1 rfl) ?_
  refine lv_aload_n hx hb d_M_product_14 rfl (lv_at hl 2 rfl) ?_
  refine va_get (D := D) (ci := 7) (v := .ref rw) (C := cn_M) (T := ft_M) (N := 19) hx hb hf_M (fun _ h => h) hown hK hP 0 rfl rfl 3 (by decide) (gw.at G hx0 mw_716 rfl _) (fun _ h9 => h9) rfl d_M_product_15 ?_
  refine lv_iconst (v := (4 : Int32)) hx hb d_M_product_18 (by decide) ?_
  refine lv_iload_n hx hb d_M_product_19 rfl (lv_at hl 3 rfl) ?_
  refine lv_imul hx hb d_M_product_20 ?_
  refine tp_i (y := nI (4 * k)) (nI_mul 4 k) ?_
  refine lv_iload hx hb d_M_product_21 (lv_at hl 0 rfl) ?_
  refine lv_iadd hx hb d_M_product_23 ?_
  refine tp_i (y := nI ((4 * k) + 3)) (nI_add (4 * k) 3) ?_
  refine va_iald hx hb hK hP 1 0 rfl rfl (vp_in_nI (n := (4 * k) + 3) (by omega) (by omega)) d_M_product_24 ?_
  refine tp_i (y := wf ((4 * k) + 3)) (congrArg wf (nI_clamp (n := (4 * k) + 3) (by omega))) ?_
  refine lv_i2l (v := (wf ((4 * k) + 3)).toInt64) hx hb d_M_product_25 rfl ?_
  refine lv_aload_n hx hb d_M_product_26 rfl (lv_at hl 4 rfl) ?_
  refine lv_iload_n hx hb d_M_product_27 rfl (lv_at hl 5 rfl) ?_
  refine lv_iload hx hb d_M_product_28 (lv_at hl 0 rfl) ?_
  refine lv_iadd hx hb d_M_product_30 ?_
  refine tp_i (y := nI (a + 3)) (nI_add a 3) ?_
  refine va_iald hx hb hK hP 2 0 rfl rfl (vp_in_nI (n := a + 3) (by omega) (by omega)) d_M_product_31 ?_
  refine tp_i (y := g (a + 3)) (congrArg g (nI_clamp (n := a + 3) (by omega))) ?_
  refine lv_i2l (v := (g (a + 3)).toInt64) hx hb d_M_product_32 rfl ?_
  refine lv_lmul hx hb d_M_product_33 ?_
  refine lv_ladd hx hb d_M_product_34 ?_
  refine lv_lstore (lv' := [(4, .long (((((0 : Int64) + (((wf ((4 * k) + 0)).toInt64) * ((g (a + 0)).toInt64))) + (((wf ((4 * k) + 1)).toInt64) * ((g (a + 1)).toInt64))) + (((wf ((4 * k) + 2)).toInt64) * ((g (a + 2)).toInt64))) + (((wf ((4 * k) + 3)).toInt64) * ((g (a + 3)).toInt64)))), (6, .int (3 : Int32)), (0, .ref m0), (1, .int (nI k)), (2, .ref yy), (3, .int (nI a))]) hx hb d_M_product_35 hl (by decide) rfl (fun ls hl => ?_)
  refine lv_iinc (lv' := [(6, .int (4 : Int32)), (4, .long (((((0 : Int64) + (((wf ((4 * k) + 0)).toInt64) * ((g (a + 0)).toInt64))) + (((wf ((4 * k) + 1)).toInt64) * ((g (a + 1)).toInt64))) + (((wf ((4 * k) + 2)).toInt64) * ((g (a + 2)).toInt64))) + (((wf ((4 * k) + 3)).toInt64) * ((g (a + 3)).toInt64)))), (0, .ref m0), (1, .int (nI k)), (2, .ref yy), (3, .int (nI a))]) (k := 1) (v := (4 : Int32)) hx hb d_M_product_37 hl rfl (by decide) (by decide) rfl (fun ls hl => ?_)
  refine lv_goto (tgt := 6) hx hb d_M_product_40 (by decide) ?_
  refine lv_iload hx hb d_M_product_6 (lv_at hl 0 rfl) ?_
  refine lv_iconst (v := (4 : Int32)) hx hb d_M_product_8 (by decide) ?_
  refine lv_icmp_ge (tgt := 43) hx hb d_M_product_9 (by decide) (fun _ => ?_) (fun h99 => absurd h99 (by decide))
  refine lv_lload hx hb d_M_product_43 (lv_at hl 1 rfl) ?_
  exact tx_mono (fun _ h => tx_Z.of h) (W.lret (v := ((((0 : Int64) + (((wf ((4 * k) + 0)).toInt64) * ((g (a + 0)).toInt64))) + (((wf ((4 * k) + 1)).toInt64) * ((g (a + 1)).toInt64))) + (((wf ((4 * k) + 2)).toInt64) * ((g (a + 2)).toInt64))) + (((wf ((4 * k) + 3)).toInt64) * ((g (a + 3)).toInt64))) hx hb hr (fun t ht hW => ⟨⟨[(m0, .inr (7, [.int th, .int zz, .int (nI rn), .ref rw, .int kn, .int rk, .int ry1, .ref ry, .int sp, .int lg, .ref ti, .int fo1, .int pt, .ref po, .ref su, .ref sq, .ref ch, .ref vt, .ref sh])), (rw, .inl (cI, 32, .inl wf)), (yy, .inl (cI, yz, .inl g))], ⟨rfl, rfl⟩, by rw [ht]; exact hP.sub [0, 1, 2] rfl, hD.sub [0, 1, 2] (by decide) rfl⟩, hS.F ht⟩) hS.2.2 d_M_product_45)

