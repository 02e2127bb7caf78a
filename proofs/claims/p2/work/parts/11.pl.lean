/-! ===== own rows, laid by wip/tools/sym.py: PointList ===== -/
set_option maxHeartbeats 4000000 in
set_option maxRecDepth 100000 in
theorem c_PL_at {l : Launch} {s0 : State} {b0 : Addr} {D : va_G} {cI cJ cZ : ClassId} {tC tS : Nat} (E : gE l s0 b0 D cI cJ cZ tC tS) (sz : Nat) (pl : Nat) (pa : Nat) (ct : Nat) (mo : Nat) (pz : Nat) (pf : Nat → Int32) (k : Nat) (i : Nat) (hpz : pz = mo * 4) (hmo : mo ≤ 107) (hct : ct ≤ mo) (hk : k < mo) (hi : i < 4) : cx_M l s0 D kl y_PL_at b_PL_at 3 (some .int) ({ frames := 0, cells := 0, slots := 0, locals := 0 } : Room) 0 0 [.ref pl, .int (nI k), .int (nI i)] [(pl, .inr (1, [.ref pa, .int (nI ct), .int (nI mo)])), (pa, .inl (cI, pz, .inl pf))] sz (fun o9 _ w9 => o9 = .returned (some (.int (pf (k * 4 + i)))) ∧ w9 = [(pl, .inr (1, [.ref pa, .int (nI ct), .int (nI mo)])), (pa, .inl (cI, pz, .inl pf))]) := by
  refine tx_ofW (cc := b_PL_at) (maxL := 3) (ret := (some .int)) (by decide) rfl ?_
  intro p e s m args below meth c s₁ B hml hT hv
  obtain ⟨rfl, hsz, hP, hD0, hx0⟩ := hv
  have hx := B.exec
  have hb := B.bytes
  have hr := B.returns
  have G := E.2.1
  have hown : s.vm.findClass cn_PL = some m.cls := findClass_of_methodNamed B.named
  have hlocks := B.notSynchronized
  have hK := va_K.moved hx0.1.alike E.2.2.1
  have hf_PL : ∀ w99 ∈ u_ws cn_PL ft_PL 3, w99.before ([.ref pl, .int (nI k), .int (nI i)] : List Value).toArray s = true := fun w99 h99 => gw.at G hx0 (fw_PL w99 h99) (fo_PL w99 h99) _
  subst hsz
  have hA0 := cx_new hD0 hx0.2.1
  have hD := hD0.self (sz := s.heap.size)
  generalize hAe : va_A [(pl, .inr (1, [.ref pa, .int (nI ct), .int (nI mo)])), (pa, .inl (cI, pz, .inl pf))] s.heap.size = A at hD hA0 ⊢
  have hA : ∀ q : Nat, s.heap.size ≤ q → A q := fun q h => by rw [← hAe]; exact Or.inr h
  have hS : va_S A s.heap s.heap [] := va_S.rf
  have hl := lv_entry ([.ref pl, .int (nI k), .int (nI i)]) (n := 3) (Nat.le_of_ble_eq_true rfl)
  rw [lg_entry_eq]
  generalize (lg_sl ([.ref pl, .int (nI k), .int (nI i)]) ++ List.replicate (3 - (lg_sl ([.ref pl, .int (nI k), .int (nI i)])).length) Slot.unset).toArray = ls at hl ⊢
  have hl : lv_has ls 3 [(0, .ref pl), (1, .int (nI k)), (2, .int (nI i))] := hl
  have hP : va_P D kl [(pl, .inr (1, [.ref pa, .int (nI ct), .int (nI mo)])), (pa, .inl (cI, pz, .inl pf))] s.heap := hP
  have hml : c.maxLocals = 3 := hml
  refine lv_aload_n hx hb d_PL_at_0 rfl (lv_at hl 0 rfl) ?_
  refine va_get (D := D) (ci := 1) (v := .ref pa) (C := cn_PL) (T := ft_PL) (N := 3) hx hb hf_PL (fun _ h => h) hown hK hP 0 rfl rfl 0 (by decide) (gw.at G hx0 mw_39 rfl _) (fun _ h9 => h9) rfl d_PL_at_1 ?_
  refine lv_iload_n hx hb d_PL_at_4 rfl (lv_at hl 1 rfl) ?_
  refine lv_iconst (v := (4 : Int32)) hx hb d_PL_at_5 (by decide) ?_
  refine lv_imul hx hb d_PL_at_6 ?_
  refine tp_i (y := nI (k * 4)) (nI_mul k 4) ?_
  refine lv_iload_n hx hb d_PL_at_7 rfl (lv_at hl 2 rfl) ?_
  refine lv_iadd hx hb d_PL_at_8 ?_
  refine tp_i (y := nI ((k * 4) + i)) (nI_add (k * 4) i) ?_
  refine va_iald hx hb hK hP 1 0 rfl rfl (vp_in_nI (n := (k * 4) + i) (by omega) (by omega)) d_PL_at_9 ?_
  refine tp_i (y := pf ((k * 4) + i)) (congrArg pf (nI_clamp (n := (k * 4) + i) (by omega))) ?_
  exact tx_mono (fun _ h => tx_Z.of h) (W.iret (v := pf ((k * 4) + i)) hx hb hr (fun t ht hW => ⟨⟨[(pl, .inr (1, [.ref pa, .int (nI ct), .int (nI mo)])), (pa, .inl (cI, pz, .inl pf))], ⟨rfl, rfl⟩, by rw [ht]; exact hP.sub [0, 1] rfl, hD.sub [0, 1] (by decide) rfl⟩, hS.F ht⟩) hS.2.2 d_PL_at_10)

set_option maxHeartbeats 4000000 in
set_option maxRecDepth 100000 in
theorem c_PL_product {l : Launch} {s0 : State} {b0 : Addr} {D : va_G} {cI cJ cZ : ClassId} {tC tS : Nat} (E : gE l s0 b0 D cI cJ cZ tC tS) (sz : Nat) (pl : Nat) (pa : Nat) (ct : Nat) (mo : Nat) (pz : Nat) (pf : Nat → Int32) (k : Nat) (ga : Nat) (g : Nat → Int32) (hpz : pz = mo * 4) (hmo : mo ≤ 107) (hct : ct ≤ mo) (hk : k < mo) : cx_M l s0 D kl y_PL_product b_PL_product 6 (some .long) ({ frames := 1, cells := 0, slots := 0, locals := 22 } : Room) 0 0 [.ref pl, .int (nI k), .ref ga] [(pl, .inr (1, [.ref pa, .int (nI ct), .int (nI mo)])), (pa, .inl (cI, pz, .inl pf)), (ga, .inl (cI, 4, .inl g))] sz (fun o9 _ w9 => o9 = .returned (some (.long (pr4 pf k g))) ∧ w9 = [(pl, .inr (1, [.ref pa, .int (nI ct), .int (nI mo)])), (pa, .inl (cI, pz, .inl pf)), (ga, .inl (cI, 4, .inl g))]) := by
  refine tx_ofW (cc := b_PL_product) (maxL := 6) (ret := (some .long)) (by decide) rfl ?_
  intro p e s m args below meth c s₁ B hml hT hv
  obtain ⟨rfl, hsz, hP, hD0, hx0⟩ := hv
  have hx := B.exec
  have hb := B.bytes
  have hr := B.returns
  have G := E.2.1
  have hown : s.vm.findClass cn_PL = some m.cls := findClass_of_methodNamed B.named
  have hlocks := B.notSynchronized
  have hK := va_K.moved hx0.1.alike E.2.2.1
  subst hsz
  have hA0 := cx_new hD0 hx0.2.1
  have hD := hD0.self (sz := s.heap.size)
  generalize hAe : va_A [(pl, .inr (1, [.ref pa, .int (nI ct), .int (nI mo)])), (pa, .inl (cI, pz, .inl pf)), (ga, .inl (cI, 4, .inl g))] s.heap.size = A at hD hA0 ⊢
  have hA : ∀ q : Nat, s.heap.size ≤ q → A q := fun q h => by rw [← hAe]; exact Or.inr h
  have hS : va_S A s.heap s.heap [] := va_S.rf
  have hl := lv_entry ([.ref pl, .int (nI k), .ref ga]) (n := 6) (Nat.le_of_ble_eq_true rfl)
  rw [lg_entry_eq]
  generalize (lg_sl ([.ref pl, .int (nI k), .ref ga]) ++ List.replicate (6 - (lg_sl ([.ref pl, .int (nI k), .ref ga])).length) Slot.unset).toArray = ls at hl ⊢
  have hl : lv_has ls 6 [(0, .ref pl), (1, .int (nI k)), (2, .ref ga)] := hl
  have hP : va_P D kl [(pl, .inr (1, [.ref pa, .int (nI ct), .int (nI mo)])), (pa, .inl (cI, pz, .inl pf)), (ga, .inl (cI, 4, .inl g))] s.heap := hP
  have hml : c.maxLocals = 6 := hml
  refine lv_lconst (v := (0 : Int64)) hx hb d_PL_product_0 (by decide) ?_
  refine lv_lstore_n (lv' := [(3, .long (0 : Int64)), (0, .ref pl), (1, .int (nI k)), (2, .ref ga)]) hx hb d_PL_product_1 rfl hl (by decide) rfl (fun ls hl => ?_)
  refine lv_iconst (v := (0 : Int32)) hx hb d_PL_product_2 (by decide) ?_
  refine lv_istore (lv' := [(5, .int (0 : Int32)), (3, .long (0 : Int64)), (0, .ref pl), (1, .int (nI k)), (2, .ref ga)]) hx hb d_PL_product_3 hl (by decide) rfl (fun ls hl => ?_)
  refine lv_iload hx hb d_PL_product_5 (lv_at hl 0 rfl) ?_
  refine lv_iconst (v := (4 : Int32)) hx hb d_PL_product_7 (by decide) ?_
  refine lv_icmp_ge (tgt := 34) hx hb d_PL_product_8 (by decide) (fun h99 => absurd h99 (by decide)) (fun _ => ?_)
  refine lv_lload_n hx hb d_PL_product_11 rfl (lv_at hl 1 rfl) ?_
  refine lv_aload_n hx hb d_PL_product_12 rfl (lv_at hl 2 rfl) ?_
  refine lv_iload_n hx hb d_PL_product_13 rfl (lv_at hl 3 rfl) ?_
  refine lv_iload hx hb d_PL_product_14 (lv_at hl 0 rfl) ?_
  refine cx_call (D := D) (cl := kl) (ws := _) (wc := [(pl, .inr (1, [.ref pa, .int (nI ct), .int (nI mo)])), (pa, .inl (cI, pz, .inl pf))]) (wr := [(ga, .inl (cI, 4, .inl g))]) (tx_runV (C := cn_PL) (b := pl) (As := [.int (nI k), .int (0 : Int32)]) (rest := [.long (0 : Int64)]) hx hb hml hown (c_PL_at E s.heap.size pl pa ct mo pz pf k 0 hpz hmo hct hk (by decide)) (cx_C (b0 := b0) G hx0 mw_251 mw_3 ny_PL_at (by decide)) (gw.at G hx0 mw_248 rfl _) (gw.at G hx0 mw_249 rfl _) (gw.at G hx0 mw_250 rfl _) ⟨cx_blind, va_recv hK hP (q0 := 0) (ci := 1) (q := (cn_PL, ft_PL, 3)) rfl rfl, (cx_pre (s := s) hx0 hP hD hS hA0 [0, 1] rfl rfl (by decide))⟩ rfl rfl hl.1 rfl (lv_room (Nat.le_of_ble_eq_true rfl)) d_PL_product_16 ⟨by decide, by decide⟩) hP hD hS hA [0, 1] [2] rfl rfl (by decide) (by decide) (fun v t w1 H locs ht hW9 hp hP hD hS => ?_) (fun x t w1 H locs ht hW9 hp hP hD hS => by obtain ⟨h9, -⟩ := hp; cases h9)
  obtain ⟨h9, rfl⟩ := hp
  cases h9
  refine W.eq (g2 := F0 m 19 ls [.int (pf (k * 4 + 0)), .long (0 : Int64)]) rfl ?_
  refine W.widen (k := 0) (n := 0) (by decide) (by decide) ?_
  have hP : va_P D kl [(ga, .inl (cI, 4, .inl g)), (pl, .inr (1, [.ref pa, .int (nI ct), .int (nI mo)])), (pa, .inl (cI, pz, .inl pf))] H := hP
  have hD : va_D A [(ga, .inl (cI, 4, .inl g)), (pl, .inr (1, [.ref pa, .int (nI ct), .int (nI mo)])), (pa, .inl (cI, pz, .inl pf))] := hD
  refine lv_i2l (v := (pf (k * 4 + 0)).toInt64) hx hb d_PL_product_19 rfl ?_
  refine lv_aload_n hx hb d_PL_product_20 rfl (lv_at hl 4 rfl) ?_
  refine lv_iload hx hb d_PL_product_21 (lv_at hl 0 rfl) ?_
  refine va_iald hx hb hK hP 0 0 rfl rfl (vp_in_iff.mpr (by decide)) d_PL_product_23 ?_
  refine tp_i (y := g 0) (by rfl) ?_
  refine lv_i2l (v := (g 0).toInt64) hx hb d_PL_product_24 rfl ?_
  refine lv_lmul hx hb d_PL_product_25 ?_
  refine lv_ladd hx hb d_PL_product_26 ?_
  refine lv_lstore_n (lv' := [(3, .long ((0 : Int64) + (((pf (k * 4 + 0)).toInt64) * ((g 0).toInt64)))), (5, .int (0 : Int32)), (0, .ref pl), (1, .int (nI k)), (2, .ref ga)]) hx hb d_PL_product_27 rfl hl (by decide) rfl (fun ls hl => ?_)
  refine lv_iinc (lv' := [(5, .int (1 : Int32)), (3, .long ((0 : Int64) + (((pf (k * 4 + 0)).toInt64) * ((g 0).toInt64)))), (0, .ref pl), (1, .int (nI k)), (2, .ref ga)]) (k := 1) (v := (1 : Int32)) hx hb d_PL_product_28 hl rfl (by decide) (by decide) rfl (fun ls hl => ?_)
  refine lv_goto (tgt := 5) hx hb d_PL_product_31 (by decide) ?_
  refine lv_iload hx hb d_PL_product_5 (lv_at hl 0 rfl) ?_
  refine lv_iconst (v := (4 : Int32)) hx hb d_PL_product_7 (by decide) ?_
  refine lv_icmp_ge (tgt := 34) hx hb d_PL_product_8 (by decide) (fun h99 => absurd h99 (by decide)) (fun _ => ?_)
  refine lv_lload_n hx hb d_PL_product_11 rfl (lv_at hl 1 rfl) ?_
  refine lv_aload_n hx hb d_PL_product_12 rfl (lv_at hl 2 rfl) ?_
  refine lv_iload_n hx hb d_PL_product_13 rfl (lv_at hl 3 rfl) ?_
  refine lv_iload hx hb d_PL_product_14 (lv_at hl 0 rfl) ?_
  refine cx_call (D := D) (cl := kl) (ws := _) (wc := [(pl, .inr (1, [.ref pa, .int (nI ct), .int (nI mo)])), (pa, .inl (cI, pz, .inl pf))]) (wr := [(ga, .inl (cI, 4, .inl g))]) (tx_runV (C := cn_PL) (b := pl) (As := [.int (nI k), .int (1 : Int32)]) (rest := [.long ((0 : Int64) + (((pf (k * 4 + 0)).toInt64) * ((g 0).toInt64)))]) hx hb hml hown (c_PL_at E H.size pl pa ct mo pz pf k 1 hpz hmo hct hk (by decide)) (cx_C (b0 := b0) G hx0 mw_251 mw_3 ny_PL_at (by decide)) (gw.at G hx0 mw_248 rfl _) (gw.at G hx0 mw_249 rfl _) (gw.at G hx0 mw_250 rfl _) ⟨cx_blind, va_recv hK hP (q0 := 1) (ci := 1) (q := (cn_PL, ft_PL, 3)) rfl rfl, (cx_pre (s := s) hx0 hP hD hS hA0 [1, 2] rfl rfl (by decide))⟩ rfl rfl hl.1 rfl (lv_room (Nat.le_of_ble_eq_true rfl)) d_PL_product_16 ⟨by decide, by decide⟩) hP hD hS hA [1, 2] [0] rfl rfl (by decide) (by decide) (fun v t w1 H locs ht hW9 hp hP hD hS => ?_) (fun x t w1 H locs ht hW9 hp hP hD hS => by obtain ⟨h9, -⟩ := hp; cases h9)
  obtain ⟨h9, rfl⟩ := hp
  cases h9
  refine W.eq (g2 := F0 m 19 ls [.int (pf (k * 4 + 1)), .long ((0 : Int64) + (((pf (k * 4 + 0)).toInt64) * ((g 0).toInt64)))]) rfl ?_
  refine W.widen (k := 0) (n := 0) (by decide) (by decide) ?_
  have hP : va_P D kl [(ga, .inl (cI, 4, .inl g)), (pl, .inr (1, [.ref pa, .int (nI ct), .int (nI mo)])), (pa, .inl (cI, pz, .inl pf))] H := hP
  have hD : va_D A [(ga, .inl (cI, 4, .inl g)), (pl, .inr (1, [.ref pa, .int (nI ct), .int (nI mo)])), (pa, .inl (cI, pz, .inl pf))] := hD
  refine lv_i2l (v := (pf (k * 4 + 1)).toInt64) hx hb d_PL_product_19 rfl ?_
  refine lv_aload_n hx hb d_PL_product_20 rfl (lv_at hl 4 rfl) ?_
  refine lv_iload hx hb d_PL_product_21 (lv_at hl 0 rfl) ?_
  refine va_iald hx hb hK hP 0 0 rfl rfl (vp_in_iff.mpr (by decide)) d_PL_product_23 ?_
  refine tp_i (y := g 1) (by rfl) ?_
  refine lv_i2l (v := (g 1).toInt64) hx hb d_PL_product_24 rfl ?_
  refine lv_lmul hx hb d_PL_product_25 ?_
  refine lv_ladd hx hb d_PL_product_26 ?_
  refine lv_lstore_n (lv' := [(3, .long (((0 : Int64) + (((pf (k * 4 + 0)).toInt64) * ((g 0).toInt64))) + (((pf (k * 4 + 1)).toInt64) * ((g 1).toInt64)))), (5, .int (1 : Int32)), (0, .ref pl), (1, .int (nI k)), (2, .ref ga)]) hx hb d_PL_product_27 rfl hl (by decide) rfl (fun ls hl => ?_)
  refine lv_iinc (lv' := [(5, .int (2 : Int32)), (3, .long (((0 : Int64) + (((pf (k * 4 + 0)).toInt64) * ((g 0).toInt64))) + (((pf (k * 4 + 1)).toInt64) * ((g 1).toInt64)))), (0, .ref pl), (1, .int (nI k)), (2, .ref ga)]) (k := 1) (v := (2 : Int32)) hx hb d_PL_product_28 hl rfl (by decide) (by decide) rfl (fun ls hl => ?_)
  refine lv_goto (tgt := 5) hx hb d_PL_product_31 (by decide) ?_
  refine lv_iload hx hb d_PL_product_5 (lv_at hl 0 rfl) ?_
  refine lv_iconst (v := (4 : Int32)) hx hb d_PL_product_7 (by decide) ?_
  refine lv_icmp_ge (tgt := 34) hx hb d_PL_product_8 (by decide) (fun h99 => absurd h99 (by decide)) (fun _ => ?_)
  refine lv_lload_n hx hb d_PL_product_11 rfl (lv_at hl 1 rfl) ?_
  refine lv_aload_n hx hb d_PL_product_12 rfl (lv_at hl 2 rfl) ?_
  refine lv_iload_n hx hb d_PL_product_13 rfl (lv_at hl 3 rfl) ?_
  refine lv_iload hx hb d_PL_product_14 (lv_at hl 0 rfl) ?_
  refine cx_call (D := D) (cl := kl) (ws := _) (wc := [(pl, .inr (1, [.ref pa, .int (nI ct), .int (nI mo)])), (pa, .inl (cI, pz, .inl pf))]) (wr := [(ga, .inl (cI, 4, .inl g))]) (tx_runV (C := cn_PL) (b := pl) (As := [.int (nI k), .int (2 : Int32)]) (rest := [.long (((0 : Int64) + (((pf (k * 4 + 0)).toInt64) * ((g 0).toInt64))) + (((pf (k * 4 + 1)).toInt64) * ((g 1).toInt64)))]) hx hb hml hown (c_PL_at E H.size pl pa ct mo pz pf k 2 hpz hmo hct hk (by decide)) (cx_C (b0 := b0) G hx0 mw_251 mw_3 ny_PL_at (by decide)) (gw.at G hx0 mw_248 rfl _) (gw.at G hx0 mw_249 rfl _) (gw.at G hx0 mw_250 rfl _) ⟨cx_blind, va_recv hK hP (q0 := 1) (ci := 1) (q := (cn_PL, ft_PL, 3)) rfl rfl, (cx_pre (s := s) hx0 hP hD hS hA0 [1, 2] rfl rfl (by decide))⟩ rfl rfl hl.1 rfl (lv_room (Nat.le_of_ble_eq_true rfl)) d_PL_product_16 ⟨by decide, by decide⟩) hP hD hS hA [1, 2] [0] rfl rfl (by decide) (by decide) (fun v t w1 H locs ht hW9 hp hP hD hS => ?_) (fun x t w1 H locs ht hW9 hp hP hD hS => by obtain ⟨h9, -⟩ := hp; cases h9)
  obtain ⟨h9, rfl⟩ := hp
  cases h9
  refine W.eq (g2 := F0 m 19 ls [.int (pf (k * 4 + 2)), .long (((0 : Int64) + (((pf (k * 4 + 0)).toInt64) * ((g 0).toInt64))) + (((pf (k * 4 + 1)).toInt64) * ((g 1).toInt64)))]) rfl ?_
  refine W.widen (k := 0) (n := 0) (by decide) (by decide) ?_
  have hP : va_P D kl [(ga, .inl (cI, 4, .inl g)), (pl, .inr (1, [.ref pa, .int (nI ct), .int (nI mo)])), (pa, .inl (cI, pz, .inl pf))] H := hP
  have hD : va_D A [(ga, .inl (cI, 4, .inl g)), (pl, .inr (1, [.ref pa, .int (nI ct), .int (nI mo)])), (pa, .inl (cI, pz, .inl pf))] := hD
  refine lv_i2l (v := (pf (k * 4 + 2)).toInt64) hx hb d_PL_product_19 rfl ?_
  refine lv_aload_n hx hb d_PL_product_20 rfl (lv_at hl 4 rfl) ?_
  refine lv_iload hx hb d_PL_product_21 (lv_at hl 0 rfl) ?_
  refine va_iald hx hb hK hP 0 0 rfl rfl (vp_in_iff.mpr (by decide)) d_PL_product_23 ?_
  refine tp_i (y := g 2) (by rfl) ?_
  refine lv_i2l (v := (g 2).toInt64) hx hb d_PL_product_24 rfl ?_
  refine lv_lmul hx hb d_PL_product_25 ?_
  refine lv_ladd hx hb d_PL_product_26 ?_
  refine lv_lstore_n (lv' := [(3, .long ((((0 : Int64) + (((pf (k * 4 + 0)).toInt64) * ((g 0).toInt64))) + (((pf (k * 4 + 1)).toInt64) * ((g 1).toInt64))) + (((pf (k * 4 + 2)).toInt64) * ((g 2).toInt64)))), (5, .int (2 : Int32)), (0, .ref pl), (1, .int (nI k)), (2, .ref ga)]) hx hb d_PL_product_27 rfl hl (by decide) rfl (fun ls hl => ?_)
  refine lv_iinc (lv' := [(5, .int (3 : Int32)), (3, .long ((((0 : Int64) + (((pf (k * 4 + 0)).toInt64) * ((g 0).toInt64))) + (((pf (k * 4 + 1)).toInt64) * ((g 1).toInt64))) + (((pf (k * 4 + 2)).toInt64) * ((g 2).toInt64)))), (0, .ref pl), (1, .int (nI k)), (2, .ref ga)]) (k := 1) (v := (3 : Int32)) hx hb d_PL_product_28 hl rfl (by decide) (by decide) rfl (fun ls hl => ?_)
  refine lv_goto (tgt := 5) hx hb d_PL_product_31 (by decide) ?_
  refine lv_iload hx hb d_PL_product_5 (lv_at hl 0 rfl) ?_
  refine lv_iconst (v := (4 : Int32)) hx hb d_PL_product_7 (by decide) ?_
  refine lv_icmp_ge (tgt := 34) hx hb d_PL_product_8 (by decide) (fun h99 => absurd h99 (by decide)) (fun _ => ?_)
  refine lv_lload_n hx hb d_PL_product_11 rfl (lv_at hl 1 rfl) ?_
  refine lv_aload_n hx hb d_PL_product_12 rfl (lv_at hl 2 rfl) ?_
  refine lv_iload_n hx hb d_PL_product_13 rfl (lv_at hl 3 rfl) ?_
  refine lv_iload hx hb d_PL_product_14 (lv_at hl 0 rfl) ?_
  refine cx_call (D := D) (cl := kl) (ws := _) (wc := [(pl, .inr (1, [.ref pa, .int (nI ct), .int (nI mo)])), (pa, .inl (cI, pz, .inl pf))]) (wr := [(ga, .inl (cI, 4, .inl g))]) (tx_runV (C := cn_PL) (b := pl) (As := [.int (nI k), .int (3 : Int32)]) (rest := [.long ((((0 : Int64) + (((pf (k * 4 + 0)).toInt64) * ((g 0).toInt64))) + (((pf (k * 4 + 1)).toInt64) * ((g 1).toInt64))) + (((pf (k * 4 + 2)).toInt64) * ((g 2).toInt64)))]) hx hb hml hown (c_PL_at E H.size pl pa ct mo pz pf k 3 hpz hmo hct hk (by decide)) (cx_C (b0 := b0) G hx0 mw_251 mw_3 ny_PL_at (by decide)) (gw.at G hx0 mw_248 rfl _) (gw.at G hx0 mw_249 rfl _) (gw.at G hx0 mw_250 rfl _) ⟨cx_blind, va_recv hK hP (q0 := 1) (ci := 1) (q := (cn_PL, ft_PL, 3)) rfl rfl, (cx_pre (s := s) hx0 hP hD hS hA0 [1, 2] rfl rfl (by decide))⟩ rfl rfl hl.1 rfl (lv_room (Nat.le_of_ble_eq_true rfl)) d_PL_product_16 ⟨by decide, by decide⟩) hP hD hS hA [1, 2] [0] rfl rfl (by decide) (by decide) (fun v t w1 H locs ht hW9 hp hP hD hS => ?_) (fun x t w1 H locs ht hW9 hp hP hD hS => by obtain ⟨h9, -⟩ := hp; cases h9)
  obtain ⟨h9, rfl⟩ := hp
  cases h9
  refine W.eq (g2 := F0 m 19 ls [.int (pf (k * 4 + 3)), .long ((((0 : Int64) + (((pf (k * 4 + 0)).toInt64) * ((g 0).toInt64))) + (((pf (k * 4 + 1)).toInt64) * ((g 1).toInt64))) + (((pf (k * 4 + 2)).toInt64) * ((g 2).toInt64)))]) rfl ?_
  refine W.widen (k := 0) (n := 0) (by decide) (by decide) ?_
  have hP : va_P D kl [(ga, .inl (cI, 4, .inl g)), (pl, .inr (1, [.ref pa, .int (nI ct), .int (nI mo)])), (pa, .inl (cI, pz, .inl pf))] H := hP
  have hD : va_D A [(ga, .inl (cI, 4, .inl g)), (pl, .inr (1, [.ref pa, .int (nI ct), .int (nI mo)])), (pa, .inl (cI, pz, .inl pf))] := hD
  refine lv_i2l (v := (pf (k * 4 + 3)).toInt64) hx hb d_PL_product_19 rfl ?_
  refine lv_aload_n hx hb d_PL_product_20 rfl (lv_at hl 4 rfl) ?_
  refine lv_iload hx hb d_PL_product_21 (lv_at hl 0 rfl) ?_
  refine va_iald hx hb hK hP 0 0 rfl rfl (vp_in_iff.mpr (by decide)) d_PL_product_23 ?_
  refine tp_i (y := g 3) (by rfl) ?_
  refine lv_i2l (v := (g 3).toInt64) hx hb d_PL_product_24 rfl ?_
  refine lv_lmul hx hb d_PL_product_25 ?_
  refine lv_ladd hx hb d_PL_product_26 ?_
  refine lv_lstore_n (lv' := [(3, .long (((((0 : Int64) + (((pf (k * 4 + 0)).toInt64) * ((g 0).toInt64))) + (((pf (k * 4 + 1)).toInt64) * ((g 1).toInt64))) + (((pf (k * 4 + 2)).toInt64) * ((g 2).toInt64))) + (((pf (k * 4 + 3)).toInt64) * ((g 3).toInt64)))), (5, .int (3 : Int32)), (0, .ref pl), (1, .int (nI k)), (2, .ref ga)]) hx hb d_PL_product_27 rfl hl (by decide) rfl (fun ls hl => ?_)
  refine lv_iinc (lv' := [(5, .int (4 : Int32)), (3, .long (((((0 : Int64) + (((pf (k * 4 + 0)).toInt64) * ((g 0).toInt64))) + (((pf (k * 4 + 1)).toInt64) * ((g 1).toInt64))) + (((pf (k * 4 + 2)).toInt64) * ((g 2).toInt64))) + (((pf (k * 4 + 3)).toInt64) * ((g 3).toInt64)))), (0, .ref pl), (1, .int (nI k)), (2, .ref ga)]) (k := 1) (v := (4 : Int32)) hx hb d_PL_product_28 hl rfl (by decide) (by decide) rfl (fun ls hl => ?_)
  refine lv_goto (tgt := 5) hx hb d_PL_product_31 (by decide) ?_
  refine lv_iload hx hb d_PL_product_5 (lv_at hl 0 rfl) ?_
  refine lv_iconst (v := (4 : Int32)) hx hb d_PL_product_7 (by decide) ?_
  refine lv_icmp_ge (tgt := 34) hx hb d_PL_product_8 (by decide) (fun _ => ?_) (fun h99 => absurd h99 (by decide))
  refine lv_lload_n hx hb d_PL_product_34 rfl (lv_at hl 1 rfl) ?_
  exact tx_mono (fun _ h => tx_Z.of h) (W.lret (v := ((((0 : Int64) + (((pf (k * 4 + 0)).toInt64) * ((g 0).toInt64))) + (((pf (k * 4 + 1)).toInt64) * ((g 1).toInt64))) + (((pf (k * 4 + 2)).toInt64) * ((g 2).toInt64))) + (((pf (k * 4 + 3)).toInt64) * ((g 3).toInt64))) hx hb hr (fun t ht hW => ⟨⟨[(pl, .inr (1, [.ref pa, .int (nI ct), .int (nI mo)])), (pa, .inl (cI, pz, .inl pf)), (ga, .inl (cI, 4, .inl g))], ⟨rfl, rfl⟩, by rw [ht]; exact hP.sub [1, 2, 0] rfl, hD.sub [1, 2, 0] (by decide) rfl⟩, hS.F ht⟩) hS.2.2 d_PL_product_35)

