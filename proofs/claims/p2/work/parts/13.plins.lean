/-! ===== own rows, laid by wip/tools/sym.py: PointList.insertInOrder ===== -/
set_option maxHeartbeats 4000000 in
set_option maxRecDepth 100000 in
theorem c_PL_ins_put {l : Launch} {s0 : State} {b0 : Addr} {D : va_G} {cI cJ cZ : ClassId} {tC tS : Nat} (E : gE l s0 b0 D cI cJ cZ tC tS) (sz : Nat) (pl : Nat) (pa : Nat) (ct : Nat) (mo : Nat) (pz : Nat) (pf : Nat → Int32) (ga : Nat) (g : Nat → Int32) (q : Nat) (hpz : pz = mo * 4) (hmo : mo ≤ 107) (hct : ct ≤ mo) (hq : ipl pf g ct = q) (hp : q = 0 ∨ ord4 pf (q - 1) g < 0) (hlt : ct < mo) : cx_M l s0 D kl y_PL_insertInOrder b_PL_insertInOrder 3 none ({ frames := 3, cells := 0, slots := 0, locals := 90 } : Room) 0 0 [.ref pl, .ref ga] [(pl, .inr (1, [.ref pa, .int (nI ct), .int (nI mo)])), (pa, .inl (cI, pz, .inl pf)), (ga, .inl (cI, 4, .inl g))] sz (fun o9 _ w9 => o9 = .returned none ∧ w9 = [(pl, .inr (1, [.ref pa, .int (nI (ct + 1)), .int (nI mo)])), (pa, .inl (cI, pz, .inl (va_cpy g (va_cpy pf pf (q * 4) (q * 4 + 4) (ct * 4 - q * 4)) 0 (q * 4) 4))), (ga, .inl (cI, 4, .inl g))]) := by
  refine tx_ofW (cc := b_PL_insertInOrder) (maxL := 3) (ret := none) (by decide) rfl ?_
  intro p e s m args below meth c s₁ B hml hT hv
  obtain ⟨rfl, hsz, hP, hD0, hx0⟩ := hv
  have hx := B.exec
  have hb := B.bytes
  have hr := B.returns
  have G := E.2.1
  have hown : s.vm.findClass cn_PL = some m.cls := findClass_of_methodNamed B.named
  have hlocks := B.notSynchronized
  have hK := va_K.moved hx0.1.alike E.2.2.1
  have hf_PL : ∀ w99 ∈ u_ws cn_PL ft_PL 3, w99.before ([.ref pl, .ref ga] : List Value).toArray s = true := fun w99 h99 => gw.at G hx0 (fw_PL w99 h99) (fo_PL w99 h99) _
  subst hsz
  have hA0 := cx_new hD0 hx0.2.1
  have hD := hD0.self (sz := s.heap.size)
  generalize hAe : va_A [(pl, .inr (1, [.ref pa, .int (nI ct), .int (nI mo)])), (pa, .inl (cI, pz, .inl pf)), (ga, .inl (cI, 4, .inl g))] s.heap.size = A at hD hA0 ⊢
  have hA : ∀ q : Nat, s.heap.size ≤ q → A q := fun q h => by rw [← hAe]; exact Or.inr h
  have hS : va_S A s.heap s.heap [] := va_S.rf
  have hl := lv_entry ([.ref pl, .ref ga]) (n := 3) (Nat.le_of_ble_eq_true rfl)
  rw [lg_entry_eq]
  generalize (lg_sl ([.ref pl, .ref ga]) ++ List.replicate (3 - (lg_sl ([.ref pl, .ref ga])).length) Slot.unset).toArray = ls at hl ⊢
  have hl : lv_has ls 3 [(0, .ref pl), (1, .ref ga)] := hl
  have hP : va_P D kl [(pl, .inr (1, [.ref pa, .int (nI ct), .int (nI mo)])), (pa, .inl (cI, pz, .inl pf)), (ga, .inl (cI, 4, .inl g))] s.heap := hP
  have hml : c.maxLocals = 3 := hml
  have hqc : q ≤ ct := by rw [← hq]; exact ipl_le pf g ct
  generalize hQe : tx_Z below (cx_Q D kl A (fun o9 _ w9 => o9 = .returned none ∧ w9 = [(pl, .inr (1, [.ref pa, .int (nI (ct + 1)), .int (nI mo)])), (pa, .inl (cI, pz, .inl (va_cpy g (va_cpy pf pf (q * 4) (q * 4 + 4) (ct * 4 - q * 4)) 0 (q * 4) 4))), (ga, .inl (cI, 4, .inl g))])) ([.ref pl, .ref ga] : List Value).toArray s 0 0 A = Q
  refine lv_aload_n hx hb d_PL_insertInOrder_0 rfl (lv_at hl 0 rfl) ?_
  refine va_get (D := D) (ci := 1) (v := .int (nI ct)) (C := cn_PL) (T := ft_PL) (N := 3) hx hb hf_PL (fun _ h => h) hown hK hP 0 rfl rfl 1 (by decide) (gw.at G hx0 mw_42 rfl _) (fun _ h9 => h9) rfl d_PL_insertInOrder_1 ?_
  refine lv_istore_n (lv' := [(2, .int (nI ct)), (0, .ref pl), (1, .ref ga)]) hx hb d_PL_insertInOrder_4 rfl hl (by decide) rfl (fun ls hl => ?_)
  have lp_5 : ∀ (n9 : Nat) (z : Nat) (ls : Array Slot) (H : Heap) (locs : List Loc), z = n9 → (ipl pf g ct = ipl pf g z) → (z ≤ ct) → lv_has ls 3 [(2, .int (nI z)), (0, .ref pl), (1, .ref ga)] → va_P D kl [(pl, .inr (1, [.ref pa, .int (nI ct), .int (nI mo)])), (pa, .inl (cI, pz, .inl pf)), (ga, .inl (cI, 4, .inl g))] H → va_D A [(pl, .inr (1, [.ref pa, .int (nI ct), .int (nI mo)])), (pa, .inl (cI, pz, .inl pf)), (ga, .inl (cI, 4, .inl g))] → va_S A s.heap H locs → W p l e ({ frames := 3, cells := 0, slots := 0, locals := 90 } : Room) s m ([.ref pl, .ref ga] : List Value).toArray below meth c H locs 0 0 Q (F0 m 5 ls []) := by
    intro n9
    induction n9 using Nat.strongRecOn with
    | ind n9 ih_5 =>
      intro z ls H locs hm_5 hz hzl hl hP hD hS
      refine lv_iload_n hx hb d_PL_insertInOrder_5 rfl (lv_at hl 0 rfl) ?_
      refine lv_if_le (tgt := 26) hx hb d_PL_insertInOrder_6 (by decide) (fun h_1 => ?_) (fun h_1 => ?_)
      · have h_1 : z ≤ 0 := (nI_leI (a := z) (b := 0) (by omega) (by omega)).mp h_1
        have hzq : q = z := by
          rw [← hq, hz]
          exact ipl_here (Or.inl (by omega))
        subst hzq
        refine lv_iload_n hx hb d_PL_insertInOrder_26 rfl (lv_at hl 0 rfl) ?_
        refine lv_if_eq (tgt := 41) hx hb d_PL_insertInOrder_27 (by decide) (fun h_2 => ?_) (fun h_2 => ?_)
        · have h_2 : q = 0 := (nI_eq (a := q) (b := 0) (by omega) (by omega)).mp h_2
          refine lv_aload_n hx hb d_PL_insertInOrder_41 rfl (lv_at hl 1 rfl) ?_
          refine lv_iload_n hx hb d_PL_insertInOrder_42 rfl (lv_at hl 0 rfl) ?_
          refine lv_aload_n hx hb d_PL_insertInOrder_43 rfl (lv_at hl 2 rfl) ?_
          refine cx_call (D := D) (cl := kl) (ws := _) (wc := [(pl, .inr (1, [.ref pa, .int (nI ct), .int (nI mo)])), (pa, .inl (cI, pz, .inl pf)), (ga, .inl (cI, 4, .inl g))]) (wr := []) (tx_runV (C := cn_PL) (b := pl) (As := [.int (nI q), .ref ga]) (rest := []) hx hb hml hown (c_PL_put E H.size pl pa ct mo pz pf q ga g hpz hmo hct hqc hlt) (cx_C (b0 := b0) G hx0 mw_355 mw_3 ny_PL_putAt (by decide)) (gw.at G hx0 mw_488 rfl _) (gw.at G hx0 mw_353 rfl _) (gw.at G hx0 mw_354 rfl _) ⟨cx_blind, va_recv hK hP (q0 := 0) (ci := 1) (q := (cn_PL, ft_PL, 3)) rfl rfl, (cx_pre (s := s) hx0 hP hD hS hA0 [0, 1, 2] rfl rfl (by decide))⟩ rfl rfl hl.1 rfl (lv_room (Nat.le_of_ble_eq_true rfl)) d_PL_insertInOrder_44 ⟨by decide, by decide⟩) hP hD hS hA [0, 1, 2] [] rfl rfl (by decide) (by decide) (fun v t w1 H locs ht hW9 hp hP hD hS => ?_) (fun x t w1 H locs ht hW9 hp hP hD hS => by obtain ⟨h9, -⟩ := hp; cases h9)
          obtain ⟨h9, rfl⟩ := hp
          cases h9
          refine W.eq (g2 := F0 m 47 ls []) rfl ?_
          refine W.widen (k := 0) (n := 0) (by decide) (by decide) ?_
          have hP : va_P D kl [(pl, .inr (1, [.ref pa, .int (nI (ct + 1)), .int (nI mo)])), (pa, .inl (cI, pz, .inl (va_cpy g (va_cpy pf pf (q * 4) (q * 4 + 4) (ct * 4 - q * 4)) 0 (q * 4) 4))), (ga, .inl (cI, 4, .inl g))] H := hP
          have hD : va_D A [(pl, .inr (1, [.ref pa, .int (nI (ct + 1)), .int (nI mo)])), (pa, .inl (cI, pz, .inl (va_cpy g (va_cpy pf pf (q * 4) (q * 4 + 4) (ct * 4 - q * 4)) 0 (q * 4) 4))), (ga, .inl (cI, 4, .inl g))] := hD
          rw [← hQe]
          exact tx_mono (fun _ h => tx_Z.of h) (W.vret hx hb hr (fun t ht hW => ⟨⟨[(pl, .inr (1, [.ref pa, .int (nI (ct + 1)), .int (nI mo)])), (pa, .inl (cI, pz, .inl (va_cpy g (va_cpy pf pf (q * 4) (q * 4 + 4) (ct * 4 - q * 4)) 0 (q * 4) 4))), (ga, .inl (cI, 4, .inl g))], ⟨rfl, rfl⟩, by rw [ht]; exact hP.sub [0, 1, 2] rfl, hD.sub [0, 1, 2] (by decide) rfl⟩, hS.F ht⟩) hS.2.2 d_PL_insertInOrder_47)
        · have h_2 : ¬ (q = 0) := fun z99 => h_2 ((nI_eq (a := q) (b := 0) (by omega) (by omega)).mpr z99)
          refine lv_aload_n hx hb d_PL_insertInOrder_30 rfl (lv_at hl 1 rfl) ?_
          refine lv_iload_n hx hb d_PL_insertInOrder_31 rfl (lv_at hl 0 rfl) ?_
          refine lv_iconst (v := (1 : Int32)) hx hb d_PL_insertInOrder_32 (by decide) ?_
          refine lv_isub hx hb d_PL_insertInOrder_33 ?_
          refine tp_i (y := nI (q - 1)) (nI_sub (a := q) (b := 1) (by omega)) ?_
          refine lv_aload_n hx hb d_PL_insertInOrder_34 rfl (lv_at hl 2 rfl) ?_
          refine cx_call (D := D) (cl := kl) (ws := _) (wc := [(pl, .inr (1, [.ref pa, .int (nI ct), .int (nI mo)])), (pa, .inl (cI, pz, .inl pf)), (ga, .inl (cI, 4, .inl g))]) (wr := []) (tx_runV (C := cn_PL) (b := pl) (As := [.int (nI (q - 1)), .ref ga]) (rest := []) hx hb hml hown (c_PL_order E H.size pl pa ct mo pz pf (q - 1) ga g hpz hmo hct (by omega)) (cx_C (b0 := b0) G hx0 mw_487 mw_3 ny_PL_order (by decide)) (gw.at G hx0 mw_484 rfl _) (gw.at G hx0 mw_486 rfl _) (gw.at G hx0 ms_PL_order rfl _) ⟨cx_blind, va_recv hK hP (q0 := 0) (ci := 1) (q := (cn_PL, ft_PL, 3)) rfl rfl, (cx_pre (s := s) hx0 hP hD hS hA0 [0, 1, 2] rfl rfl (by decide))⟩ rfl rfl hl.1 rfl (lv_room (Nat.le_of_ble_eq_true rfl)) d_PL_insertInOrder_35 ⟨by decide, by decide⟩) hP hD hS hA [0, 1, 2] [] rfl rfl (by decide) (by decide) (fun v t w1 H locs ht hW9 hp hP hD hS => ?_) (fun x t w1 H locs ht hW9 hp hP hD hS => by obtain ⟨h9, -⟩ := hp; cases h9)
          obtain ⟨h9, rfl⟩ := hp
          cases h9
          refine W.eq (g2 := F0 m 38 ls [.int (ord4 pf (q - 1) g)]) rfl ?_
          refine W.widen (k := 0) (n := 0) (by decide) (by decide) ?_
          have hP : va_P D kl [(pl, .inr (1, [.ref pa, .int (nI ct), .int (nI mo)])), (pa, .inl (cI, pz, .inl pf)), (ga, .inl (cI, 4, .inl g))] H := hP
          have hD : va_D A [(pl, .inr (1, [.ref pa, .int (nI ct), .int (nI mo)])), (pa, .inl (cI, pz, .inl pf)), (ga, .inl (cI, 4, .inl g))] := hD
          refine lv_if_ge (tgt := 47) hx hb d_PL_insertInOrder_38 (by decide) (fun h99 => absurd h99 (Int32.not_le.mpr (hp.resolve_left h_2))) (fun _ => ?_)
          refine lv_aload_n hx hb d_PL_insertInOrder_41 rfl (lv_at hl 1 rfl) ?_
          refine lv_iload_n hx hb d_PL_insertInOrder_42 rfl (lv_at hl 0 rfl) ?_
          refine lv_aload_n hx hb d_PL_insertInOrder_43 rfl (lv_at hl 2 rfl) ?_
          refine cx_call (D := D) (cl := kl) (ws := _) (wc := [(pl, .inr (1, [.ref pa, .int (nI ct), .int (nI mo)])), (pa, .inl (cI, pz, .inl pf)), (ga, .inl (cI, 4, .inl g))]) (wr := []) (tx_runV (C := cn_PL) (b := pl) (As := [.int (nI q), .ref ga]) (rest := []) hx hb hml hown (c_PL_put E H.size pl pa ct mo pz pf q ga g hpz hmo hct hqc hlt) (cx_C (b0 := b0) G hx0 mw_355 mw_3 ny_PL_putAt (by decide)) (gw.at G hx0 mw_488 rfl _) (gw.at G hx0 mw_353 rfl _) (gw.at G hx0 mw_354 rfl _) ⟨cx_blind, va_recv hK hP (q0 := 0) (ci := 1) (q := (cn_PL, ft_PL, 3)) rfl rfl, (cx_pre (s := s) hx0 hP hD hS hA0 [0, 1, 2] rfl rfl (by decide))⟩ rfl rfl hl.1 rfl (lv_room (Nat.le_of_ble_eq_true rfl)) d_PL_insertInOrder_44 ⟨by decide, by decide⟩) hP hD hS hA [0, 1, 2] [] rfl rfl (by decide) (by decide) (fun v t w1 H locs ht hW9 hp hP hD hS => ?_) (fun x t w1 H locs ht hW9 hp hP hD hS => by obtain ⟨h9, -⟩ := hp; cases h9)
          obtain ⟨h9, rfl⟩ := hp
          cases h9
          refine W.eq (g2 := F0 m 47 ls []) rfl ?_
          refine W.widen (k := 0) (n := 0) (by decide) (by decide) ?_
          have hP : va_P D kl [(pl, .inr (1, [.ref pa, .int (nI (ct + 1)), .int (nI mo)])), (pa, .inl (cI, pz, .inl (va_cpy g (va_cpy pf pf (q * 4) (q * 4 + 4) (ct * 4 - q * 4)) 0 (q * 4) 4))), (ga, .inl (cI, 4, .inl g))] H := hP
          have hD : va_D A [(pl, .inr (1, [.ref pa, .int (nI (ct + 1)), .int (nI mo)])), (pa, .inl (cI, pz, .inl (va_cpy g (va_cpy pf pf (q * 4) (q * 4 + 4) (ct * 4 - q * 4)) 0 (q * 4) 4))), (ga, .inl (cI, 4, .inl g))] := hD
          rw [← hQe]
          exact tx_mono (fun _ h => tx_Z.of h) (W.vret hx hb hr (fun t ht hW => ⟨⟨[(pl, .inr (1, [.ref pa, .int (nI (ct + 1)), .int (nI mo)])), (pa, .inl (cI, pz, .inl (va_cpy g (va_cpy pf pf (q * 4) (q * 4 + 4) (ct * 4 - q * 4)) 0 (q * 4) 4))), (ga, .inl (cI, 4, .inl g))], ⟨rfl, rfl⟩, by rw [ht]; exact hP.sub [0, 1, 2] rfl, hD.sub [0, 1, 2] (by decide) rfl⟩, hS.F ht⟩) hS.2.2 d_PL_insertInOrder_47)
      · have h_1 : ¬ (z ≤ 0) := fun z99 => h_1 ((nI_leI (a := z) (b := 0) (by omega) (by omega)).mpr z99)
        refine lv_aload_n hx hb d_PL_insertInOrder_9 rfl (lv_at hl 1 rfl) ?_
        refine lv_iload_n hx hb d_PL_insertInOrder_10 rfl (lv_at hl 0 rfl) ?_
        refine lv_iconst (v := (1 : Int32)) hx hb d_PL_insertInOrder_11 (by decide) ?_
        refine lv_isub hx hb d_PL_insertInOrder_12 ?_
        refine tp_i (y := nI (z - 1)) (nI_sub (a := z) (b := 1) (by omega)) ?_
        refine lv_aload_n hx hb d_PL_insertInOrder_13 rfl (lv_at hl 2 rfl) ?_
        refine cx_call (D := D) (cl := kl) (ws := _) (wc := [(pl, .inr (1, [.ref pa, .int (nI ct), .int (nI mo)])), (pa, .inl (cI, pz, .inl pf)), (ga, .inl (cI, 4, .inl g))]) (wr := []) (tx_runV (C := cn_PL) (b := pl) (As := [.int (nI (z - 1)), .ref ga]) (rest := []) hx hb hml hown (c_PL_order E H.size pl pa ct mo pz pf (z - 1) ga g hpz hmo hct (by omega)) (cx_C (b0 := b0) G hx0 mw_487 mw_3 ny_PL_order (by decide)) (gw.at G hx0 mw_484 rfl _) (gw.at G hx0 mw_486 rfl _) (gw.at G hx0 ms_PL_order rfl _) ⟨cx_blind, va_recv hK hP (q0 := 0) (ci := 1) (q := (cn_PL, ft_PL, 3)) rfl rfl, (cx_pre (s := s) hx0 hP hD hS hA0 [0, 1, 2] rfl rfl (by decide))⟩ rfl rfl hl.1 rfl (lv_room (Nat.le_of_ble_eq_true rfl)) d_PL_insertInOrder_14 ⟨by decide, by decide⟩) hP hD hS hA [0, 1, 2] [] rfl rfl (by decide) (by decide) (fun v t w1 H locs ht hW9 hp hP hD hS => ?_) (fun x t w1 H locs ht hW9 hp hP hD hS => by obtain ⟨h9, -⟩ := hp; cases h9)
        obtain ⟨h9, rfl⟩ := hp
        cases h9
        refine W.eq (g2 := F0 m 17 ls [.int (ord4 pf (z - 1) g)]) rfl ?_
        refine W.widen (k := 0) (n := 0) (by decide) (by decide) ?_
        have hP : va_P D kl [(pl, .inr (1, [.ref pa, .int (nI ct), .int (nI mo)])), (pa, .inl (cI, pz, .inl pf)), (ga, .inl (cI, 4, .inl g))] H := hP
        have hD : va_D A [(pl, .inr (1, [.ref pa, .int (nI ct), .int (nI mo)])), (pa, .inl (cI, pz, .inl pf)), (ga, .inl (cI, 4, .inl g))] := hD
        refine lv_if_le (tgt := 26) hx hb d_PL_insertInOrder_17 (by decide) (fun h_3 => ?_) (fun h_3 => ?_)
        · have hzq : q = z := by
            rw [← hq, hz]
            exact ipl_here (Or.inr (Int32.not_lt.mpr h_3))
          subst hzq
          refine lv_iload_n hx hb d_PL_insertInOrder_26 rfl (lv_at hl 0 rfl) ?_
          refine lv_if_eq (tgt := 41) hx hb d_PL_insertInOrder_27 (by decide) (fun h_4 => ?_) (fun h_4 => ?_)
          · have h_4 : q = 0 := (nI_eq (a := q) (b := 0) (by omega) (by omega)).mp h_4
            refine lv_aload_n hx hb d_PL_insertInOrder_41 rfl (lv_at hl 1 rfl) ?_
            refine lv_iload_n hx hb d_PL_insertInOrder_42 rfl (lv_at hl 0 rfl) ?_
            refine lv_aload_n hx hb d_PL_insertInOrder_43 rfl (lv_at hl 2 rfl) ?_
            refine cx_call (D := D) (cl := kl) (ws := _) (wc := [(pl, .inr (1, [.ref pa, .int (nI ct), .int (nI mo)])), (pa, .inl (cI, pz, .inl pf)), (ga, .inl (cI, 4, .inl g))]) (wr := []) (tx_runV (C := cn_PL) (b := pl) (As := [.int (nI q), .ref ga]) (rest := []) hx hb hml hown (c_PL_put E H.size pl pa ct mo pz pf q ga g hpz hmo hct hqc hlt) (cx_C (b0 := b0) G hx0 mw_355 mw_3 ny_PL_putAt (by decide)) (gw.at G hx0 mw_488 rfl _) (gw.at G hx0 mw_353 rfl _) (gw.at G hx0 mw_354 rfl _) ⟨cx_blind, va_recv hK hP (q0 := 0) (ci := 1) (q := (cn_PL, ft_PL, 3)) rfl rfl, (cx_pre (s := s) hx0 hP hD hS hA0 [0, 1, 2] rfl rfl (by decide))⟩ rfl rfl hl.1 rfl (lv_room (Nat.le_of_ble_eq_true rfl)) d_PL_insertInOrder_44 ⟨by decide, by decide⟩) hP hD hS hA [0, 1, 2] [] rfl rfl (by decide) (by decide) (fun v t w1 H locs ht hW9 hp hP hD hS => ?_) (fun x t w1 H locs ht hW9 hp hP hD hS => by obtain ⟨h9, -⟩ := hp; cases h9)
            obtain ⟨h9, rfl⟩ := hp
            cases h9
            refine W.eq (g2 := F0 m 47 ls []) rfl ?_
            refine W.widen (k := 0) (n := 0) (by decide) (by decide) ?_
            have hP : va_P D kl [(pl, .inr (1, [.ref pa, .int (nI (ct + 1)), .int (nI mo)])), (pa, .inl (cI, pz, .inl (va_cpy g (va_cpy pf pf (q * 4) (q * 4 + 4) (ct * 4 - q * 4)) 0 (q * 4) 4))), (ga, .inl (cI, 4, .inl g))] H := hP
            have hD : va_D A [(pl, .inr (1, [.ref pa, .int (nI (ct + 1)), .int (nI mo)])), (pa, .inl (cI, pz, .inl (va_cpy g (va_cpy pf pf (q * 4) (q * 4 + 4) (ct * 4 - q * 4)) 0 (q * 4) 4))), (ga, .inl (cI, 4, .inl g))] := hD
            rw [← hQe]
            exact tx_mono (fun _ h => tx_Z.of h) (W.vret hx hb hr (fun t ht hW => ⟨⟨[(pl, .inr (1, [.ref pa, .int (nI (ct + 1)), .int (nI mo)])), (pa, .inl (cI, pz, .inl (va_cpy g (va_cpy pf pf (q * 4) (q * 4 + 4) (ct * 4 - q * 4)) 0 (q * 4) 4))), (ga, .inl (cI, 4, .inl g))], ⟨rfl, rfl⟩, by rw [ht]; exact hP.sub [0, 1, 2] rfl, hD.sub [0, 1, 2] (by decide) rfl⟩, hS.F ht⟩) hS.2.2 d_PL_insertInOrder_47)
          · have h_4 : ¬ (q = 0) := fun z99 => h_4 ((nI_eq (a := q) (b := 0) (by omega) (by omega)).mpr z99)
            refine lv_aload_n hx hb d_PL_insertInOrder_30 rfl (lv_at hl 1 rfl) ?_
            refine lv_iload_n hx hb d_PL_insertInOrder_31 rfl (lv_at hl 0 rfl) ?_
            refine lv_iconst (v := (1 : Int32)) hx hb d_PL_insertInOrder_32 (by decide) ?_
            refine lv_isub hx hb d_PL_insertInOrder_33 ?_
            refine tp_i (y := nI (q - 1)) (nI_sub (a := q) (b := 1) (by omega)) ?_
            refine lv_aload_n hx hb d_PL_insertInOrder_34 rfl (lv_at hl 2 rfl) ?_
            refine cx_call (D := D) (cl := kl) (ws := _) (wc := [(pl, .inr (1, [.ref pa, .int (nI ct), .int (nI mo)])), (pa, .inl (cI, pz, .inl pf)), (ga, .inl (cI, 4, .inl g))]) (wr := []) (tx_runV (C := cn_PL) (b := pl) (As := [.int (nI (q - 1)), .ref ga]) (rest := []) hx hb hml hown (c_PL_order E H.size pl pa ct mo pz pf (q - 1) ga g hpz hmo hct (by omega)) (cx_C (b0 := b0) G hx0 mw_487 mw_3 ny_PL_order (by decide)) (gw.at G hx0 mw_484 rfl _) (gw.at G hx0 mw_486 rfl _) (gw.at G hx0 ms_PL_order rfl _) ⟨cx_blind, va_recv hK hP (q0 := 0) (ci := 1) (q := (cn_PL, ft_PL, 3)) rfl rfl, (cx_pre (s := s) hx0 hP hD hS hA0 [0, 1, 2] rfl rfl (by decide))⟩ rfl rfl hl.1 rfl (lv_room (Nat.le_of_ble_eq_true rfl)) d_PL_insertInOrder_35 ⟨by decide, by decide⟩) hP hD hS hA [0, 1, 2] [] rfl rfl (by decide) (by decide) (fun v t w1 H locs ht hW9 hp hP hD hS => ?_) (fun x t w1 H locs ht hW9 hp hP hD hS => by obtain ⟨h9, -⟩ := hp; cases h9)
            obtain ⟨h9, rfl⟩ := hp
            cases h9
            refine W.eq (g2 := F0 m 38 ls [.int (ord4 pf (q - 1) g)]) rfl ?_
            refine W.widen (k := 0) (n := 0) (by decide) (by decide) ?_
            have hP : va_P D kl [(pl, .inr (1, [.ref pa, .int (nI ct), .int (nI mo)])), (pa, .inl (cI, pz, .inl pf)), (ga, .inl (cI, 4, .inl g))] H := hP
            have hD : va_D A [(pl, .inr (1, [.ref pa, .int (nI ct), .int (nI mo)])), (pa, .inl (cI, pz, .inl pf)), (ga, .inl (cI, 4, .inl g))] := hD
            refine lv_if_ge (tgt := 47) hx hb d_PL_insertInOrder_38 (by decide) (fun h99 => absurd h99 (Int32.not_le.mpr (hp.resolve_left h_4))) (fun _ => ?_)
            refine lv_aload_n hx hb d_PL_insertInOrder_41 rfl (lv_at hl 1 rfl) ?_
            refine lv_iload_n hx hb d_PL_insertInOrder_42 rfl (lv_at hl 0 rfl) ?_
            refine lv_aload_n hx hb d_PL_insertInOrder_43 rfl (lv_at hl 2 rfl) ?_
            refine cx_call (D := D) (cl := kl) (ws := _) (wc := [(pl, .inr (1, [.ref pa, .int (nI ct), .int (nI mo)])), (pa, .inl (cI, pz, .inl pf)), (ga, .inl (cI, 4, .inl g))]) (wr := []) (tx_runV (C := cn_PL) (b := pl) (As := [.int (nI q), .ref ga]) (rest := []) hx hb hml hown (c_PL_put E H.size pl pa ct mo pz pf q ga g hpz hmo hct hqc hlt) (cx_C (b0 := b0) G hx0 mw_355 mw_3 ny_PL_putAt (by decide)) (gw.at G hx0 mw_488 rfl _) (gw.at G hx0 mw_353 rfl _) (gw.at G hx0 mw_354 rfl _) ⟨cx_blind, va_recv hK hP (q0 := 0) (ci := 1) (q := (cn_PL, ft_PL, 3)) rfl rfl, (cx_pre (s := s) hx0 hP hD hS hA0 [0, 1, 2] rfl rfl (by decide))⟩ rfl rfl hl.1 rfl (lv_room (Nat.le_of_ble_eq_true rfl)) d_PL_insertInOrder_44 ⟨by decide, by decide⟩) hP hD hS hA [0, 1, 2] [] rfl rfl (by decide) (by decide) (fun v t w1 H locs ht hW9 hp hP hD hS => ?_) (fun x t w1 H locs ht hW9 hp hP hD hS => by obtain ⟨h9, -⟩ := hp; cases h9)
            obtain ⟨h9, rfl⟩ := hp
            cases h9
            refine W.eq (g2 := F0 m 47 ls []) rfl ?_
            refine W.widen (k := 0) (n := 0) (by decide) (by decide) ?_
            have hP : va_P D kl [(pl, .inr (1, [.ref pa, .int (nI (ct + 1)), .int (nI mo)])), (pa, .inl (cI, pz, .inl (va_cpy g (va_cpy pf pf (q * 4) (q * 4 + 4) (ct * 4 - q * 4)) 0 (q * 4) 4))), (ga, .inl (cI, 4, .inl g))] H := hP
            have hD : va_D A [(pl, .inr (1, [.ref pa, .int (nI (ct + 1)), .int (nI mo)])), (pa, .inl (cI, pz, .inl (va_cpy g (va_cpy pf pf (q * 4) (q * 4 + 4) (ct * 4 - q * 4)) 0 (q * 4) 4))), (ga, .inl (cI, 4, .inl g))] := hD
            rw [← hQe]
            exact tx_mono (fun _ h => tx_Z.of h) (W.vret hx hb hr (fun t ht hW => ⟨⟨[(pl, .inr (1, [.ref pa, .int (nI (ct + 1)), .int (nI mo)])), (pa, .inl (cI, pz, .inl (va_cpy g (va_cpy pf pf (q * 4) (q * 4 + 4) (ct * 4 - q * 4)) 0 (q * 4) 4))), (ga, .inl (cI, 4, .inl g))], ⟨rfl, rfl⟩, by rw [ht]; exact hP.sub [0, 1, 2] rfl, hD.sub [0, 1, 2] (by decide) rfl⟩, hS.F ht⟩) hS.2.2 d_PL_insertInOrder_47)
        · refine lv_iinc (lv' := [(2, .int (nI (z - 1))), (0, .ref pl), (1, .ref ga)]) (k := 0) (v := nI (z - 1)) hx hb d_PL_insertInOrder_20 hl rfl (nI_dec (by omega)) (by decide) rfl (fun ls hl => ?_)
          refine lv_goto (tgt := 5) hx hb d_PL_insertInOrder_23 (by decide) ?_
          exact ih_5 _ (by omega) (z - 1) ls H locs rfl (hz.trans (ipl_down (by omega) (Int32.not_le.mp h_3))) (by omega) (lv_sub hl [0, 1, 2] rfl) (hP.sub [0, 1, 2] rfl) (hD.sub [0, 1, 2] (by decide) rfl) hS
  exact lp_5 _ ct ls s.heap [] rfl rfl (Nat.le_refl _) (lv_sub hl [0, 1, 2] rfl) (hP.sub [0, 1, 2] rfl) (hD.sub [0, 1, 2] (by decide) rfl) hS

set_option maxHeartbeats 4000000 in
set_option maxRecDepth 100000 in
theorem c_PL_ins_full {l : Launch} {s0 : State} {b0 : Addr} {D : va_G} {cI cJ cZ : ClassId} {tC tS : Nat} (E : gE l s0 b0 D cI cJ cZ tC tS) (sz : Nat) (pl : Nat) (pa : Nat) (ct : Nat) (mo : Nat) (pz : Nat) (pf : Nat → Int32) (ga : Nat) (g : Nat → Int32) (q : Nat) (hpz : pz = mo * 4) (hmo : mo ≤ 107) (hct : ct ≤ mo) (hq : ipl pf g ct = q) (hp : q = 0 ∨ ord4 pf (q - 1) g < 0) (hlt : ct = mo) : cx_M l s0 D kl y_PL_insertInOrder b_PL_insertInOrder 3 none ({ frames := 3, cells := 0, slots := 0, locals := 90 } : Room) 0 0 [.ref pl, .ref ga] [(pl, .inr (1, [.ref pa, .int (nI ct), .int (nI mo)])), (pa, .inl (cI, pz, .inl pf)), (ga, .inl (cI, 4, .inl g))] sz (fun o9 _ w9 => o9 = .returned none ∧ w9 = [(pl, .inr (1, [.ref pa, .int (nI ct), .int (nI mo)])), (pa, .inl (cI, pz, .inl pf)), (ga, .inl (cI, 4, .inl g))]) := by
  refine tx_ofW (cc := b_PL_insertInOrder) (maxL := 3) (ret := none) (by decide) rfl ?_
  intro p e s m args below meth c s₁ B hml hT hv
  obtain ⟨rfl, hsz, hP, hD0, hx0⟩ := hv
  have hx := B.exec
  have hb := B.bytes
  have hr := B.returns
  have G := E.2.1
  have hown : s.vm.findClass cn_PL = some m.cls := findClass_of_methodNamed B.named
  have hlocks := B.notSynchronized
  have hK := va_K.moved hx0.1.alike E.2.2.1
  have hf_PL : ∀ w99 ∈ u_ws cn_PL ft_PL 3, w99.before ([.ref pl, .ref ga] : List Value).toArray s = true := fun w99 h99 => gw.at G hx0 (fw_PL w99 h99) (fo_PL w99 h99) _
  subst hsz
  have hA0 := cx_new hD0 hx0.2.1
  have hD := hD0.self (sz := s.heap.size)
  generalize hAe : va_A [(pl, .inr (1, [.ref pa, .int (nI ct), .int (nI mo)])), (pa, .inl (cI, pz, .inl pf)), (ga, .inl (cI, 4, .inl g))] s.heap.size = A at hD hA0 ⊢
  have hA : ∀ q : Nat, s.heap.size ≤ q → A q := fun q h => by rw [← hAe]; exact Or.inr h
  have hS : va_S A s.heap s.heap [] := va_S.rf
  have hl := lv_entry ([.ref pl, .ref ga]) (n := 3) (Nat.le_of_ble_eq_true rfl)
  rw [lg_entry_eq]
  generalize (lg_sl ([.ref pl, .ref ga]) ++ List.replicate (3 - (lg_sl ([.ref pl, .ref ga])).length) Slot.unset).toArray = ls at hl ⊢
  have hl : lv_has ls 3 [(0, .ref pl), (1, .ref ga)] := hl
  have hP : va_P D kl [(pl, .inr (1, [.ref pa, .int (nI ct), .int (nI mo)])), (pa, .inl (cI, pz, .inl pf)), (ga, .inl (cI, 4, .inl g))] s.heap := hP
  have hml : c.maxLocals = 3 := hml
  have hqc : q ≤ ct := by rw [← hq]; exact ipl_le pf g ct
  generalize hQe : tx_Z below (cx_Q D kl A (fun o9 _ w9 => o9 = .returned none ∧ w9 = [(pl, .inr (1, [.ref pa, .int (nI ct), .int (nI mo)])), (pa, .inl (cI, pz, .inl pf)), (ga, .inl (cI, 4, .inl g))])) ([.ref pl, .ref ga] : List Value).toArray s 0 0 A = Q
  refine lv_aload_n hx hb d_PL_insertInOrder_0 rfl (lv_at hl 0 rfl) ?_
  refine va_get (D := D) (ci := 1) (v := .int (nI ct)) (C := cn_PL) (T := ft_PL) (N := 3) hx hb hf_PL (fun _ h => h) hown hK hP 0 rfl rfl 1 (by decide) (gw.at G hx0 mw_42 rfl _) (fun _ h9 => h9) rfl d_PL_insertInOrder_1 ?_
  refine lv_istore_n (lv' := [(2, .int (nI ct)), (0, .ref pl), (1, .ref ga)]) hx hb d_PL_insertInOrder_4 rfl hl (by decide) rfl (fun ls hl => ?_)
  have lp_5 : ∀ (n9 : Nat) (z : Nat) (ls : Array Slot) (H : Heap) (locs : List Loc), z = n9 → (ipl pf g ct = ipl pf g z) → (z ≤ ct) → lv_has ls 3 [(2, .int (nI z)), (0, .ref pl), (1, .ref ga)] → va_P D kl [(pl, .inr (1, [.ref pa, .int (nI ct), .int (nI mo)])), (pa, .inl (cI, pz, .inl pf)), (ga, .inl (cI, 4, .inl g))] H → va_D A [(pl, .inr (1, [.ref pa, .int (nI ct), .int (nI mo)])), (pa, .inl (cI, pz, .inl pf)), (ga, .inl (cI, 4, .inl g))] → va_S A s.heap H locs → W p l e ({ frames := 3, cells := 0, slots := 0, locals := 90 } : Room) s m ([.ref pl, .ref ga] : List Value).toArray below meth c H locs 0 0 Q (F0 m 5 ls []) := by
    intro n9
    induction n9 using Nat.strongRecOn with
    | ind n9 ih_5 =>
      intro z ls H locs hm_5 hz hzl hl hP hD hS
      refine lv_iload_n hx hb d_PL_insertInOrder_5 rfl (lv_at hl 0 rfl) ?_
      refine lv_if_le (tgt := 26) hx hb d_PL_insertInOrder_6 (by decide) (fun h_1 => ?_) (fun h_1 => ?_)
      · have h_1 : z ≤ 0 := (nI_leI (a := z) (b := 0) (by omega) (by omega)).mp h_1
        have hzq : q = z := by
          rw [← hq, hz]
          exact ipl_here (Or.inl (by omega))
        subst hzq
        refine lv_iload_n hx hb d_PL_insertInOrder_26 rfl (lv_at hl 0 rfl) ?_
        refine lv_if_eq (tgt := 41) hx hb d_PL_insertInOrder_27 (by decide) (fun h_2 => ?_) (fun h_2 => ?_)
        · have h_2 : q = 0 := (nI_eq (a := q) (b := 0) (by omega) (by omega)).mp h_2
          refine lv_aload_n hx hb d_PL_insertInOrder_41 rfl (lv_at hl 1 rfl) ?_
          refine lv_iload_n hx hb d_PL_insertInOrder_42 rfl (lv_at hl 0 rfl) ?_
          refine lv_aload_n hx hb d_PL_insertInOrder_43 rfl (lv_at hl 2 rfl) ?_
          refine cx_call (D := D) (cl := kl) (ws := _) (wc := [(pl, .inr (1, [.ref pa, .int (nI ct), .int (nI mo)])), (pa, .inl (cI, pz, .inl pf))]) (wr := [(ga, .inl (cI, 4, .inl g))]) (tx_runV (C := cn_PL) (b := pl) (As := [.int (nI q), .ref ga]) (rest := []) hx hb hml hown (c_PL_putFull E H.size pl pa ct mo pz pf q ga hpz hmo hct hlt) (cx_C (b0 := b0) G hx0 mw_355 mw_3 ny_PL_putAt (by decide)) (gw.at G hx0 mw_488 rfl _) (gw.at G hx0 mw_353 rfl _) (gw.at G hx0 mw_354 rfl _) ⟨cx_blind, va_recv hK hP (q0 := 0) (ci := 1) (q := (cn_PL, ft_PL, 3)) rfl rfl, (cx_pre (s := s) hx0 hP hD hS hA0 [0, 1] rfl rfl (by decide))⟩ rfl rfl hl.1 rfl (lv_room (Nat.le_of_ble_eq_true rfl)) d_PL_insertInOrder_44 ⟨by decide, by decide⟩) hP hD hS hA [0, 1] [2] rfl rfl (by decide) (by decide) (fun v t w1 H locs ht hW9 hp hP hD hS => ?_) (fun x t w1 H locs ht hW9 hp hP hD hS => by obtain ⟨h9, -⟩ := hp; cases h9)
          obtain ⟨h9, rfl⟩ := hp
          cases h9
          refine W.eq (g2 := F0 m 47 ls []) rfl ?_
          refine W.widen (k := 0) (n := 0) (by decide) (by decide) ?_
          have hP : va_P D kl [(ga, .inl (cI, 4, .inl g)), (pl, .inr (1, [.ref pa, .int (nI ct), .int (nI mo)])), (pa, .inl (cI, pz, .inl pf))] H := hP
          have hD : va_D A [(ga, .inl (cI, 4, .inl g)), (pl, .inr (1, [.ref pa, .int (nI ct), .int (nI mo)])), (pa, .inl (cI, pz, .inl pf))] := hD
          rw [← hQe]
          exact tx_mono (fun _ h => tx_Z.of h) (W.vret hx hb hr (fun t ht hW => ⟨⟨[(pl, .inr (1, [.ref pa, .int (nI ct), .int (nI mo)])), (pa, .inl (cI, pz, .inl pf)), (ga, .inl (cI, 4, .inl g))], ⟨rfl, rfl⟩, by rw [ht]; exact hP.sub [1, 2, 0] rfl, hD.sub [1, 2, 0] (by decide) rfl⟩, hS.F ht⟩) hS.2.2 d_PL_insertInOrder_47)
        · have h_2 : ¬ (q = 0) := fun z99 => h_2 ((nI_eq (a := q) (b := 0) (by omega) (by omega)).mpr z99)
          refine lv_aload_n hx hb d_PL_insertInOrder_30 rfl (lv_at hl 1 rfl) ?_
          refine lv_iload_n hx hb d_PL_insertInOrder_31 rfl (lv_at hl 0 rfl) ?_
          refine lv_iconst (v := (1 : Int32)) hx hb d_PL_insertInOrder_32 (by decide) ?_
          refine lv_isub hx hb d_PL_insertInOrder_33 ?_
          refine tp_i (y := nI (q - 1)) (nI_sub (a := q) (b := 1) (by omega)) ?_
          refine lv_aload_n hx hb d_PL_insertInOrder_34 rfl (lv_at hl 2 rfl) ?_
          refine cx_call (D := D) (cl := kl) (ws := _) (wc := [(pl, .inr (1, [.ref pa, .int (nI ct), .int (nI mo)])), (pa, .inl (cI, pz, .inl pf)), (ga, .inl (cI, 4, .inl g))]) (wr := []) (tx_runV (C := cn_PL) (b := pl) (As := [.int (nI (q - 1)), .ref ga]) (rest := []) hx hb hml hown (c_PL_order E H.size pl pa ct mo pz pf (q - 1) ga g hpz hmo hct (by omega)) (cx_C (b0 := b0) G hx0 mw_487 mw_3 ny_PL_order (by decide)) (gw.at G hx0 mw_484 rfl _) (gw.at G hx0 mw_486 rfl _) (gw.at G hx0 ms_PL_order rfl _) ⟨cx_blind, va_recv hK hP (q0 := 0) (ci := 1) (q := (cn_PL, ft_PL, 3)) rfl rfl, (cx_pre (s := s) hx0 hP hD hS hA0 [0, 1, 2] rfl rfl (by decide))⟩ rfl rfl hl.1 rfl (lv_room (Nat.le_of_ble_eq_true rfl)) d_PL_insertInOrder_35 ⟨by decide, by decide⟩) hP hD hS hA [0, 1, 2] [] rfl rfl (by decide) (by decide) (fun v t w1 H locs ht hW9 hp hP hD hS => ?_) (fun x t w1 H locs ht hW9 hp hP hD hS => by obtain ⟨h9, -⟩ := hp; cases h9)
          obtain ⟨h9, rfl⟩ := hp
          cases h9
          refine W.eq (g2 := F0 m 38 ls [.int (ord4 pf (q - 1) g)]) rfl ?_
          refine W.widen (k := 0) (n := 0) (by decide) (by decide) ?_
          have hP : va_P D kl [(pl, .inr (1, [.ref pa, .int (nI ct), .int (nI mo)])), (pa, .inl (cI, pz, .inl pf)), (ga, .inl (cI, 4, .inl g))] H := hP
          have hD : va_D A [(pl, .inr (1, [.ref pa, .int (nI ct), .int (nI mo)])), (pa, .inl (cI, pz, .inl pf)), (ga, .inl (cI, 4, .inl g))] := hD
          refine lv_if_ge (tgt := 47) hx hb d_PL_insertInOrder_38 (by decide) (fun h99 => absurd h99 (Int32.not_le.mpr (hp.resolve_left h_2))) (fun _ => ?_)
          refine lv_aload_n hx hb d_PL_insertInOrder_41 rfl (lv_at hl 1 rfl) ?_
          refine lv_iload_n hx hb d_PL_insertInOrder_42 rfl (lv_at hl 0 rfl) ?_
          refine lv_aload_n hx hb d_PL_insertInOrder_43 rfl (lv_at hl 2 rfl) ?_
          refine cx_call (D := D) (cl := kl) (ws := _) (wc := [(pl, .inr (1, [.ref pa, .int (nI ct), .int (nI mo)])), (pa, .inl (cI, pz, .inl pf))]) (wr := [(ga, .inl (cI, 4, .inl g))]) (tx_runV (C := cn_PL) (b := pl) (As := [.int (nI q), .ref ga]) (rest := []) hx hb hml hown (c_PL_putFull E H.size pl pa ct mo pz pf q ga hpz hmo hct hlt) (cx_C (b0 := b0) G hx0 mw_355 mw_3 ny_PL_putAt (by decide)) (gw.at G hx0 mw_488 rfl _) (gw.at G hx0 mw_353 rfl _) (gw.at G hx0 mw_354 rfl _) ⟨cx_blind, va_recv hK hP (q0 := 0) (ci := 1) (q := (cn_PL, ft_PL, 3)) rfl rfl, (cx_pre (s := s) hx0 hP hD hS hA0 [0, 1] rfl rfl (by decide))⟩ rfl rfl hl.1 rfl (lv_room (Nat.le_of_ble_eq_true rfl)) d_PL_insertInOrder_44 ⟨by decide, by decide⟩) hP hD hS hA [0, 1] [2] rfl rfl (by decide) (by decide) (fun v t w1 H locs ht hW9 hp hP hD hS => ?_) (fun x t w1 H locs ht hW9 hp hP hD hS => by obtain ⟨h9, -⟩ := hp; cases h9)
          obtain ⟨h9, rfl⟩ := hp
          cases h9
          refine W.eq (g2 := F0 m 47 ls []) rfl ?_
          refine W.widen (k := 0) (n := 0) (by decide) (by decide) ?_
          have hP : va_P D kl [(ga, .inl (cI, 4, .inl g)), (pl, .inr (1, [.ref pa, .int (nI ct), .int (nI mo)])), (pa, .inl (cI, pz, .inl pf))] H := hP
          have hD : va_D A [(ga, .inl (cI, 4, .inl g)), (pl, .inr (1, [.ref pa, .int (nI ct), .int (nI mo)])), (pa, .inl (cI, pz, .inl pf))] := hD
          rw [← hQe]
          exact tx_mono (fun _ h => tx_Z.of h) (W.vret hx hb hr (fun t ht hW => ⟨⟨[(pl, .inr (1, [.ref pa, .int (nI ct), .int (nI mo)])), (pa, .inl (cI, pz, .inl pf)), (ga, .inl (cI, 4, .inl g))], ⟨rfl, rfl⟩, by rw [ht]; exact hP.sub [1, 2, 0] rfl, hD.sub [1, 2, 0] (by decide) rfl⟩, hS.F ht⟩) hS.2.2 d_PL_insertInOrder_47)
      · have h_1 : ¬ (z ≤ 0) := fun z99 => h_1 ((nI_leI (a := z) (b := 0) (by omega) (by omega)).mpr z99)
        refine lv_aload_n hx hb d_PL_insertInOrder_9 rfl (lv_at hl 1 rfl) ?_
        refine lv_iload_n hx hb d_PL_insertInOrder_10 rfl (lv_at hl 0 rfl) ?_
        refine lv_iconst (v := (1 : Int32)) hx hb d_PL_insertInOrder_11 (by decide) ?_
        refine lv_isub hx hb d_PL_insertInOrder_12 ?_
        refine tp_i (y := nI (z - 1)) (nI_sub (a := z) (b := 1) (by omega)) ?_
        refine lv_aload_n hx hb d_PL_insertInOrder_13 rfl (lv_at hl 2 rfl) ?_
        refine cx_call (D := D) (cl := kl) (ws := _) (wc := [(pl, .inr (1, [.ref pa, .int (nI ct), .int (nI mo)])), (pa, .inl (cI, pz, .inl pf)), (ga, .inl (cI, 4, .inl g))]) (wr := []) (tx_runV (C := cn_PL) (b := pl) (As := [.int (nI (z - 1)), .ref ga]) (rest := []) hx hb hml hown (c_PL_order E H.size pl pa ct mo pz pf (z - 1) ga g hpz hmo hct (by omega)) (cx_C (b0 := b0) G hx0 mw_487 mw_3 ny_PL_order (by decide)) (gw.at G hx0 mw_484 rfl _) (gw.at G hx0 mw_486 rfl _) (gw.at G hx0 ms_PL_order rfl _) ⟨cx_blind, va_recv hK hP (q0 := 0) (ci := 1) (q := (cn_PL, ft_PL, 3)) rfl rfl, (cx_pre (s := s) hx0 hP hD hS hA0 [0, 1, 2] rfl rfl (by decide))⟩ rfl rfl hl.1 rfl (lv_room (Nat.le_of_ble_eq_true rfl)) d_PL_insertInOrder_14 ⟨by decide, by decide⟩) hP hD hS hA [0, 1, 2] [] rfl rfl (by decide) (by decide) (fun v t w1 H locs ht hW9 hp hP hD hS => ?_) (fun x t w1 H locs ht hW9 hp hP hD hS => by obtain ⟨h9, -⟩ := hp; cases h9)
        obtain ⟨h9, rfl⟩ := hp
        cases h9
        refine W.eq (g2 := F0 m 17 ls [.int (ord4 pf (z - 1) g)]) rfl ?_
        refine W.widen (k := 0) (n := 0) (by decide) (by decide) ?_
        have hP : va_P D kl [(pl, .inr (1, [.ref pa, .int (nI ct), .int (nI mo)])), (pa, .inl (cI, pz, .inl pf)), (ga, .inl (cI, 4, .inl g))] H := hP
        have hD : va_D A [(pl, .inr (1, [.ref pa, .int (nI ct), .int (nI mo)])), (pa, .inl (cI, pz, .inl pf)), (ga, .inl (cI, 4, .inl g))] := hD
        refine lv_if_le (tgt := 26) hx hb d_PL_insertInOrder_17 (by decide) (fun h_3 => ?_) (fun h_3 => ?_)
        · have hzq : q = z := by
            rw [← hq, hz]
            exact ipl_here (Or.inr (Int32.not_lt.mpr h_3))
          subst hzq
          refine lv_iload_n hx hb d_PL_insertInOrder_26 rfl (lv_at hl 0 rfl) ?_
          refine lv_if_eq (tgt := 41) hx hb d_PL_insertInOrder_27 (by decide) (fun h_4 => ?_) (fun h_4 => ?_)
          · have h_4 : q = 0 := (nI_eq (a := q) (b := 0) (by omega) (by omega)).mp h_4
            refine lv_aload_n hx hb d_PL_insertInOrder_41 rfl (lv_at hl 1 rfl) ?_
            refine lv_iload_n hx hb d_PL_insertInOrder_42 rfl (lv_at hl 0 rfl) ?_
            refine lv_aload_n hx hb d_PL_insertInOrder_43 rfl (lv_at hl 2 rfl) ?_
            refine cx_call (D := D) (cl := kl) (ws := _) (wc := [(pl, .inr (1, [.ref pa, .int (nI ct), .int (nI mo)])), (pa, .inl (cI, pz, .inl pf))]) (wr := [(ga, .inl (cI, 4, .inl g))]) (tx_runV (C := cn_PL) (b := pl) (As := [.int (nI q), .ref ga]) (rest := []) hx hb hml hown (c_PL_putFull E H.size pl pa ct mo pz pf q ga hpz hmo hct hlt) (cx_C (b0 := b0) G hx0 mw_355 mw_3 ny_PL_putAt (by decide)) (gw.at G hx0 mw_488 rfl _) (gw.at G hx0 mw_353 rfl _) (gw.at G hx0 mw_354 rfl _) ⟨cx_blind, va_recv hK hP (q0 := 0) (ci := 1) (q := (cn_PL, ft_PL, 3)) rfl rfl, (cx_pre (s := s) hx0 hP hD hS hA0 [0, 1] rfl rfl (by decide))⟩ rfl rfl hl.1 rfl (lv_room (Nat.le_of_ble_eq_true rfl)) d_PL_insertInOrder_44 ⟨by decide, by decide⟩) hP hD hS hA [0, 1] [2] rfl rfl (by decide) (by decide) (fun v t w1 H locs ht hW9 hp hP hD hS => ?_) (fun x t w1 H locs ht hW9 hp hP hD hS => by obtain ⟨h9, -⟩ := hp; cases h9)
            obtain ⟨h9, rfl⟩ := hp
            cases h9
            refine W.eq (g2 := F0 m 47 ls []) rfl ?_
            refine W.widen (k := 0) (n := 0) (by decide) (by decide) ?_
            have hP : va_P D kl [(ga, .inl (cI, 4, .inl g)), (pl, .inr (1, [.ref pa, .int (nI ct), .int (nI mo)])), (pa, .inl (cI, pz, .inl pf))] H := hP
            have hD : va_D A [(ga, .inl (cI, 4, .inl g)), (pl, .inr (1, [.ref pa, .int (nI ct), .int (nI mo)])), (pa, .inl (cI, pz, .inl pf))] := hD
            rw [← hQe]
            exact tx_mono (fun _ h => tx_Z.of h) (W.vret hx hb hr (fun t ht hW => ⟨⟨[(pl, .inr (1, [.ref pa, .int (nI ct), .int (nI mo)])), (pa, .inl (cI, pz, .inl pf)), (ga, .inl (cI, 4, .inl g))], ⟨rfl, rfl⟩, by rw [ht]; exact hP.sub [1, 2, 0] rfl, hD.sub [1, 2, 0] (by decide) rfl⟩, hS.F ht⟩) hS.2.2 d_PL_insertInOrder_47)
          · have h_4 : ¬ (q = 0) := fun z99 => h_4 ((nI_eq (a := q) (b := 0) (by omega) (by omega)).mpr z99)
            refine lv_aload_n hx hb d_PL_insertInOrder_30 rfl (lv_at hl 1 rfl) ?_
            refine lv_iload_n hx hb d_PL_insertInOrder_31 rfl (lv_at hl 0 rfl) ?_
            refine lv_iconst (v := (1 : Int32)) hx hb d_PL_insertInOrder_32 (by decide) ?_
            refine lv_isub hx hb d_PL_insertInOrder_33 ?_
            refine tp_i (y := nI (q - 1)) (nI_sub (a := q) (b := 1) (by omega)) ?_
            refine lv_aload_n hx hb d_PL_insertInOrder_34 rfl (lv_at hl 2 rfl) ?_
            refine cx_call (D := D) (cl := kl) (ws := _) (wc := [(pl, .inr (1, [.ref pa, .int (nI ct), .int (nI mo)])), (pa, .inl (cI, pz, .inl pf)), (ga, .inl (cI, 4, .inl g))]) (wr := []) (tx_runV (C := cn_PL) (b := pl) (As := [.int (nI (q - 1)), .ref ga]) (rest := []) hx hb hml hown (c_PL_order E H.size pl pa ct mo pz pf (q - 1) ga g hpz hmo hct (by omega)) (cx_C (b0 := b0) G hx0 mw_487 mw_3 ny_PL_order (by decide)) (gw.at G hx0 mw_484 rfl _) (gw.at G hx0 mw_486 rfl _) (gw.at G hx0 ms_PL_order rfl _) ⟨cx_blind, va_recv hK hP (q0 := 0) (ci := 1) (q := (cn_PL, ft_PL, 3)) rfl rfl, (cx_pre (s := s) hx0 hP hD hS hA0 [0, 1, 2] rfl rfl (by decide))⟩ rfl rfl hl.1 rfl (lv_room (Nat.le_of_ble_eq_true rfl)) d_PL_insertInOrder_35 ⟨by decide, by decide⟩) hP hD hS hA [0, 1, 2] [] rfl rfl (by decide) (by decide) (fun v t w1 H locs ht hW9 hp hP hD hS => ?_) (fun x t w1 H locs ht hW9 hp hP hD hS => by obtain ⟨h9, -⟩ := hp; cases h9)
            obtain ⟨h9, rfl⟩ := hp
            cases h9
            refine W.eq (g2 := F0 m 38 ls [.int (ord4 pf (q - 1) g)]) rfl ?_
            refine W.widen (k := 0) (n := 0) (by decide) (by decide) ?_
            have hP : va_P D kl [(pl, .inr (1, [.ref pa, .int (nI ct), .int (nI mo)])), (pa, .inl (cI, pz, .inl pf)), (ga, .inl (cI, 4, .inl g))] H := hP
            have hD : va_D A [(pl, .inr (1, [.ref pa, .int (nI ct), .int (nI mo)])), (pa, .inl (cI, pz, .inl pf)), (ga, .inl (cI, 4, .inl g))] := hD
            refine lv_if_ge (tgt := 47) hx hb d_PL_insertInOrder_38 (by decide) (fun h99 => absurd h99 (Int32.not_le.mpr (hp.resolve_left h_4))) (fun _ => ?_)
            refine lv_aload_n hx hb d_PL_insertInOrder_41 rfl (lv_at hl 1 rfl) ?_
            refine lv_iload_n hx hb d_PL_insertInOrder_42 rfl (lv_at hl 0 rfl) ?_
            refine lv_aload_n hx hb d_PL_insertInOrder_43 rfl (lv_at hl 2 rfl) ?_
            refine cx_call (D := D) (cl := kl) (ws := _) (wc := [(pl, .inr (1, [.ref pa, .int (nI ct), .int (nI mo)])), (pa, .inl (cI, pz, .inl pf))]) (wr := [(ga, .inl (cI, 4, .inl g))]) (tx_runV (C := cn_PL) (b := pl) (As := [.int (nI q), .ref ga]) (rest := []) hx hb hml hown (c_PL_putFull E H.size pl pa ct mo pz pf q ga hpz hmo hct hlt) (cx_C (b0 := b0) G hx0 mw_355 mw_3 ny_PL_putAt (by decide)) (gw.at G hx0 mw_488 rfl _) (gw.at G hx0 mw_353 rfl _) (gw.at G hx0 mw_354 rfl _) ⟨cx_blind, va_recv hK hP (q0 := 0) (ci := 1) (q := (cn_PL, ft_PL, 3)) rfl rfl, (cx_pre (s := s) hx0 hP hD hS hA0 [0, 1] rfl rfl (by decide))⟩ rfl rfl hl.1 rfl (lv_room (Nat.le_of_ble_eq_true rfl)) d_PL_insertInOrder_44 ⟨by decide, by decide⟩) hP hD hS hA [0, 1] [2] rfl rfl (by decide) (by decide) (fun v t w1 H locs ht hW9 hp hP hD hS => ?_) (fun x t w1 H locs ht hW9 hp hP hD hS => by obtain ⟨h9, -⟩ := hp; cases h9)
            obtain ⟨h9, rfl⟩ := hp
            cases h9
            refine W.eq (g2 := F0 m 47 ls []) rfl ?_
            refine W.widen (k := 0) (n := 0) (by decide) (by decide) ?_
            have hP : va_P D kl [(ga, .inl (cI, 4, .inl g)), (pl, .inr (1, [.ref pa, .int (nI ct), .int (nI mo)])), (pa, .inl (cI, pz, .inl pf))] H := hP
            have hD : va_D A [(ga, .inl (cI, 4, .inl g)), (pl, .inr (1, [.ref pa, .int (nI ct), .int (nI mo)])), (pa, .inl (cI, pz, .inl pf))] := hD
            rw [← hQe]
            exact tx_mono (fun _ h => tx_Z.of h) (W.vret hx hb hr (fun t ht hW => ⟨⟨[(pl, .inr (1, [.ref pa, .int (nI ct), .int (nI mo)])), (pa, .inl (cI, pz, .inl pf)), (ga, .inl (cI, 4, .inl g))], ⟨rfl, rfl⟩, by rw [ht]; exact hP.sub [1, 2, 0] rfl, hD.sub [1, 2, 0] (by decide) rfl⟩, hS.F ht⟩) hS.2.2 d_PL_insertInOrder_47)
        · refine lv_iinc (lv' := [(2, .int (nI (z - 1))), (0, .ref pl), (1, .ref ga)]) (k := 0) (v := nI (z - 1)) hx hb d_PL_insertInOrder_20 hl rfl (nI_dec (by omega)) (by decide) rfl (fun ls hl => ?_)
          refine lv_goto (tgt := 5) hx hb d_PL_insertInOrder_23 (by decide) ?_
          exact ih_5 _ (by omega) (z - 1) ls H locs rfl (hz.trans (ipl_down (by omega) (Int32.not_le.mp h_3))) (by omega) (lv_sub hl [0, 1, 2] rfl) (hP.sub [0, 1, 2] rfl) (hD.sub [0, 1, 2] (by decide) rfl) hS
  exact lp_5 _ ct ls s.heap [] rfl rfl (Nat.le_refl _) (lv_sub hl [0, 1, 2] rfl) (hP.sub [0, 1, 2] rfl) (hD.sub [0, 1, 2] (by decide) rfl) hS

set_option maxHeartbeats 4000000 in
set_option maxRecDepth 100000 in
theorem c_PL_ins_same {l : Launch} {s0 : State} {b0 : Addr} {D : va_G} {cI cJ cZ : ClassId} {tC tS : Nat} (E : gE l s0 b0 D cI cJ cZ tC tS) (sz : Nat) (pl : Nat) (pa : Nat) (ct : Nat) (mo : Nat) (pz : Nat) (pf : Nat → Int32) (ga : Nat) (g : Nat → Int32) (q : Nat) (hpz : pz = mo * 4) (hmo : mo ≤ 107) (hct : ct ≤ mo) (hq : ipl pf g ct = q) (hp : ¬ (q = 0 ∨ ord4 pf (q - 1) g < 0)) : cx_M l s0 D kl y_PL_insertInOrder b_PL_insertInOrder 3 none ({ frames := 3, cells := 0, slots := 0, locals := 90 } : Room) 0 0 [.ref pl, .ref ga] [(pl, .inr (1, [.ref pa, .int (nI ct), .int (nI mo)])), (pa, .inl (cI, pz, .inl pf)), (ga, .inl (cI, 4, .inl g))] sz (fun o9 _ w9 => o9 = .returned none ∧ w9 = [(pl, .inr (1, [.ref pa, .int (nI ct), .int (nI mo)])), (pa, .inl (cI, pz, .inl pf)), (ga, .inl (cI, 4, .inl g))]) := by
  refine tx_ofW (cc := b_PL_insertInOrder) (maxL := 3) (ret := none) (by decide) rfl ?_
  intro p e s m args below meth c s₁ B hml hT hv
  obtain ⟨rfl, hsz, hP, hD0, hx0⟩ := hv
  have hx := B.exec
  have hb := B.bytes
  have hr := B.returns
  have G := E.2.1
  have hown : s.vm.findClass cn_PL = some m.cls := findClass_of_methodNamed B.named
  have hlocks := B.notSynchronized
  have hK := va_K.moved hx0.1.alike E.2.2.1
  have hf_PL : ∀ w99 ∈ u_ws cn_PL ft_PL 3, w99.before ([.ref pl, .ref ga] : List Value).toArray s = true := fun w99 h99 => gw.at G hx0 (fw_PL w99 h99) (fo_PL w99 h99) _
  subst hsz
  have hA0 := cx_new hD0 hx0.2.1
  have hD := hD0.self (sz := s.heap.size)
  generalize hAe : va_A [(pl, .inr (1, [.ref pa, .int (nI ct), .int (nI mo)])), (pa, .inl (cI, pz, .inl pf)), (ga, .inl (cI, 4, .inl g))] s.heap.size = A at hD hA0 ⊢
  have hA : ∀ q : Nat, s.heap.size ≤ q → A q := fun q h => by rw [← hAe]; exact Or.inr h
  have hS : va_S A s.heap s.heap [] := va_S.rf
  have hl := lv_entry ([.ref pl, .ref ga]) (n := 3) (Nat.le_of_ble_eq_true rfl)
  rw [lg_entry_eq]
  generalize (lg_sl ([.ref pl, .ref ga]) ++ List.replicate (3 - (lg_sl ([.ref pl, .ref ga])).length) Slot.unset).toArray = ls at hl ⊢
  have hl : lv_has ls 3 [(0, .ref pl), (1, .ref ga)] := hl
  have hP : va_P D kl [(pl, .inr (1, [.ref pa, .int (nI ct), .int (nI mo)])), (pa, .inl (cI, pz, .inl pf)), (ga, .inl (cI, 4, .inl g))] s.heap := hP
  have hml : c.maxLocals = 3 := hml
  have hqc : q ≤ ct := by rw [← hq]; exact ipl_le pf g ct
  have hq0 : ¬ q = 0 := fun h => hp (Or.inl h)
  generalize hQe : tx_Z below (cx_Q D kl A (fun o9 _ w9 => o9 = .returned none ∧ w9 = [(pl, .inr (1, [.ref pa, .int (nI ct), .int (nI mo)])), (pa, .inl (cI, pz, .inl pf)), (ga, .inl (cI, 4, .inl g))])) ([.ref pl, .ref ga] : List Value).toArray s 0 0 A = Q
  refine lv_aload_n hx hb d_PL_insertInOrder_0 rfl (lv_at hl 0 rfl) ?_
  refine va_get (D := D) (ci := 1) (v := .int (nI ct)) (C := cn_PL) (T := ft_PL) (N := 3) hx hb hf_PL (fun _ h => h) hown hK hP 0 rfl rfl 1 (by decide) (gw.at G hx0 mw_42 rfl _) (fun _ h9 => h9) rfl d_PL_insertInOrder_1 ?_
  refine lv_istore_n (lv' := [(2, .int (nI ct)), (0, .ref pl), (1, .ref ga)]) hx hb d_PL_insertInOrder_4 rfl hl (by decide) rfl (fun ls hl => ?_)
  have lp_5 : ∀ (n9 : Nat) (z : Nat) (ls : Array Slot) (H : Heap) (locs : List Loc), z = n9 → (ipl pf g ct = ipl pf g z) → (z ≤ ct) → lv_has ls 3 [(2, .int (nI z)), (0, .ref pl), (1, .ref ga)] → va_P D kl [(pl, .inr (1, [.ref pa, .int (nI ct), .int (nI mo)])), (pa, .inl (cI, pz, .inl pf)), (ga, .inl (cI, 4, .inl g))] H → va_D A [(pl, .inr (1, [.ref pa, .int (nI ct), .int (nI mo)])), (pa, .inl (cI, pz, .inl pf)), (ga, .inl (cI, 4, .inl g))] → va_S A s.heap H locs → W p l e ({ frames := 3, cells := 0, slots := 0, locals := 90 } : Room) s m ([.ref pl, .ref ga] : List Value).toArray below meth c H locs 0 0 Q (F0 m 5 ls []) := by
    intro n9
    induction n9 using Nat.strongRecOn with
    | ind n9 ih_5 =>
      intro z ls H locs hm_5 hz hzl hl hP hD hS
      refine lv_iload_n hx hb d_PL_insertInOrder_5 rfl (lv_at hl 0 rfl) ?_
      refine lv_if_le (tgt := 26) hx hb d_PL_insertInOrder_6 (by decide) (fun h_1 => ?_) (fun h_1 => ?_)
      · have h_1 : z ≤ 0 := (nI_leI (a := z) (b := 0) (by omega) (by omega)).mp h_1
        have hzq : q = z := by
          rw [← hq, hz]
          exact ipl_here (Or.inl (by omega))
        subst hzq
        refine lv_iload_n hx hb d_PL_insertInOrder_26 rfl (lv_at hl 0 rfl) ?_
        refine lv_if_eq (tgt := 41) hx hb d_PL_insertInOrder_27 (by decide) (fun h99 => absurd h99 (fun z99 => absurd ((nI_eq (a := q) (b := 0) (by omega) (by omega)).mp z99) (by omega))) (fun _ => ?_)
        refine lv_aload_n hx hb d_PL_insertInOrder_30 rfl (lv_at hl 1 rfl) ?_
        refine lv_iload_n hx hb d_PL_insertInOrder_31 rfl (lv_at hl 0 rfl) ?_
        refine lv_iconst (v := (1 : Int32)) hx hb d_PL_insertInOrder_32 (by decide) ?_
        refine lv_isub hx hb d_PL_insertInOrder_33 ?_
        refine tp_i (y := nI (q - 1)) (nI_sub (a := q) (b := 1) (by omega)) ?_
        refine lv_aload_n hx hb d_PL_insertInOrder_34 rfl (lv_at hl 2 rfl) ?_
        refine cx_call (D := D) (cl := kl) (ws := _) (wc := [(pl, .inr (1, [.ref pa, .int (nI ct), .int (nI mo)])), (pa, .inl (cI, pz, .inl pf)), (ga, .inl (cI, 4, .inl g))]) (wr := []) (tx_runV (C := cn_PL) (b := pl) (As := [.int (nI (q - 1)), .ref ga]) (rest := []) hx hb hml hown (c_PL_order E H.size pl pa ct mo pz pf (q - 1) ga g hpz hmo hct (by omega)) (cx_C (b0 := b0) G hx0 mw_487 mw_3 ny_PL_order (by decide)) (gw.at G hx0 mw_484 rfl _) (gw.at G hx0 mw_486 rfl _) (gw.at G hx0 ms_PL_order rfl _) ⟨cx_blind, va_recv hK hP (q0 := 0) (ci := 1) (q := (cn_PL, ft_PL, 3)) rfl rfl, (cx_pre (s := s) hx0 hP hD hS hA0 [0, 1, 2] rfl rfl (by decide))⟩ rfl rfl hl.1 rfl (lv_room (Nat.le_of_ble_eq_true rfl)) d_PL_insertInOrder_35 ⟨by decide, by decide⟩) hP hD hS hA [0, 1, 2] [] rfl rfl (by decide) (by decide) (fun v t w1 H locs ht hW9 hp hP hD hS => ?_) (fun x t w1 H locs ht hW9 hp hP hD hS => by obtain ⟨h9, -⟩ := hp; cases h9)
        obtain ⟨h9, rfl⟩ := hp
        cases h9
        refine W.eq (g2 := F0 m 38 ls [.int (ord4 pf (q - 1) g)]) rfl ?_
        refine W.widen (k := 0) (n := 0) (by decide) (by decide) ?_
        have hP : va_P D kl [(pl, .inr (1, [.ref pa, .int (nI ct), .int (nI mo)])), (pa, .inl (cI, pz, .inl pf)), (ga, .inl (cI, 4, .inl g))] H := hP
        have hD : va_D A [(pl, .inr (1, [.ref pa, .int (nI ct), .int (nI mo)])), (pa, .inl (cI, pz, .inl pf)), (ga, .inl (cI, 4, .inl g))] := hD
        refine lv_if_ge (tgt := 47) hx hb d_PL_insertInOrder_38 (by decide) (fun _ => ?_) (fun h99 => absurd h99 (not_not_intro (Int32.not_lt.mp (fun h => hp (Or.inr h)))))
        rw [← hQe]
        exact tx_mono (fun _ h => tx_Z.of h) (W.vret hx hb hr (fun t ht hW => ⟨⟨[(pl, .inr (1, [.ref pa, .int (nI ct), .int (nI mo)])), (pa, .inl (cI, pz, .inl pf)), (ga, .inl (cI, 4, .inl g))], ⟨rfl, rfl⟩, by rw [ht]; exact hP.sub [0, 1, 2] rfl, hD.sub [0, 1, 2] (by decide) rfl⟩, hS.F ht⟩) hS.2.2 d_PL_insertInOrder_47)
      · have h_1 : ¬ (z ≤ 0) := fun z99 => h_1 ((nI_leI (a := z) (b := 0) (by omega) (by omega)).mpr z99)
        refine lv_aload_n hx hb d_PL_insertInOrder_9 rfl (lv_at hl 1 rfl) ?_
        refine lv_iload_n hx hb d_PL_insertInOrder_10 rfl (lv_at hl 0 rfl) ?_
        refine lv_iconst (v := (1 : Int32)) hx hb d_PL_insertInOrder_11 (by decide) ?_
        refine lv_isub hx hb d_PL_insertInOrder_12 ?_
        refine tp_i (y := nI (z - 1)) (nI_sub (a := z) (b := 1) (by omega)) ?_
        refine lv_aload_n hx hb d_PL_insertInOrder_13 rfl (lv_at hl 2 rfl) ?_
        refine cx_call (D := D) (cl := kl) (ws := _) (wc := [(pl, .inr (1, [.ref pa, .int (nI ct), .int (nI mo)])), (pa, .inl (cI, pz, .inl pf)), (ga, .inl (cI, 4, .inl g))]) (wr := []) (tx_runV (C := cn_PL) (b := pl) (As := [.int (nI (z - 1)), .ref ga]) (rest := []) hx hb hml hown (c_PL_order E H.size pl pa ct mo pz pf (z - 1) ga g hpz hmo hct (by omega)) (cx_C (b0 := b0) G hx0 mw_487 mw_3 ny_PL_order (by decide)) (gw.at G hx0 mw_484 rfl _) (gw.at G hx0 mw_486 rfl _) (gw.at G hx0 ms_PL_order rfl _) ⟨cx_blind, va_recv hK hP (q0 := 0) (ci := 1) (q := (cn_PL, ft_PL, 3)) rfl rfl, (cx_pre (s := s) hx0 hP hD hS hA0 [0, 1, 2] rfl rfl (by decide))⟩ rfl rfl hl.1 rfl (lv_room (Nat.le_of_ble_eq_true rfl)) d_PL_insertInOrder_14 ⟨by decide, by decide⟩) hP hD hS hA [0, 1, 2] [] rfl rfl (by decide) (by decide) (fun v t w1 H locs ht hW9 hp hP hD hS => ?_) (fun x t w1 H locs ht hW9 hp hP hD hS => by obtain ⟨h9, -⟩ := hp; cases h9)
        obtain ⟨h9, rfl⟩ := hp
        cases h9
        refine W.eq (g2 := F0 m 17 ls [.int (ord4 pf (z - 1) g)]) rfl ?_
        refine W.widen (k := 0) (n := 0) (by decide) (by decide) ?_
        have hP : va_P D kl [(pl, .inr (1, [.ref pa, .int (nI ct), .int (nI mo)])), (pa, .inl (cI, pz, .inl pf)), (ga, .inl (cI, 4, .inl g))] H := hP
        have hD : va_D A [(pl, .inr (1, [.ref pa, .int (nI ct), .int (nI mo)])), (pa, .inl (cI, pz, .inl pf)), (ga, .inl (cI, 4, .inl g))] := hD
        refine lv_if_le (tgt := 26) hx hb d_PL_insertInOrder_17 (by decide) (fun h_2 => ?_) (fun h_2 => ?_)
        · have hzq : q = z := by
            rw [← hq, hz]
            exact ipl_here (Or.inr (Int32.not_lt.mpr h_2))
          subst hzq
          refine lv_iload_n hx hb d_PL_insertInOrder_26 rfl (lv_at hl 0 rfl) ?_
          refine lv_if_eq (tgt := 41) hx hb d_PL_insertInOrder_27 (by decide) (fun h99 => absurd h99 (fun z99 => absurd ((nI_eq (a := q) (b := 0) (by omega) (by omega)).mp z99) (by omega))) (fun _ => ?_)
          refine lv_aload_n hx hb d_PL_insertInOrder_30 rfl (lv_at hl 1 rfl) ?_
          refine lv_iload_n hx hb d_PL_insertInOrder_31 rfl (lv_at hl 0 rfl) ?_
          refine lv_iconst (v := (1 : Int32)) hx hb d_PL_insertInOrder_32 (by decide) ?_
          refine lv_isub hx hb d_PL_insertInOrder_33 ?_
          refine tp_i (y := nI (q - 1)) (nI_sub (a := q) (b := 1) (by omega)) ?_
          refine lv_aload_n hx hb d_PL_insertInOrder_34 rfl (lv_at hl 2 rfl) ?_
          refine cx_call (D := D) (cl := kl) (ws := _) (wc := [(pl, .inr (1, [.ref pa, .int (nI ct), .int (nI mo)])), (pa, .inl (cI, pz, .inl pf)), (ga, .inl (cI, 4, .inl g))]) (wr := []) (tx_runV (C := cn_PL) (b := pl) (As := [.int (nI (q - 1)), .ref ga]) (rest := []) hx hb hml hown (c_PL_order E H.size pl pa ct mo pz pf (q - 1) ga g hpz hmo hct (by omega)) (cx_C (b0 := b0) G hx0 mw_487 mw_3 ny_PL_order (by decide)) (gw.at G hx0 mw_484 rfl _) (gw.at G hx0 mw_486 rfl _) (gw.at G hx0 ms_PL_order rfl _) ⟨cx_blind, va_recv hK hP (q0 := 0) (ci := 1) (q := (cn_PL, ft_PL, 3)) rfl rfl, (cx_pre (s := s) hx0 hP hD hS hA0 [0, 1, 2] rfl rfl (by decide))⟩ rfl rfl hl.1 rfl (lv_room (Nat.le_of_ble_eq_true rfl)) d_PL_insertInOrder_35 ⟨by decide, by decide⟩) hP hD hS hA [0, 1, 2] [] rfl rfl (by decide) (by decide) (fun v t w1 H locs ht hW9 hp hP hD hS => ?_) (fun x t w1 H locs ht hW9 hp hP hD hS => by obtain ⟨h9, -⟩ := hp; cases h9)
          obtain ⟨h9, rfl⟩ := hp
          cases h9
          refine W.eq (g2 := F0 m 38 ls [.int (ord4 pf (q - 1) g)]) rfl ?_
          refine W.widen (k := 0) (n := 0) (by decide) (by decide) ?_
          have hP : va_P D kl [(pl, .inr (1, [.ref pa, .int (nI ct), .int (nI mo)])), (pa, .inl (cI, pz, .inl pf)), (ga, .inl (cI, 4, .inl g))] H := hP
          have hD : va_D A [(pl, .inr (1, [.ref pa, .int (nI ct), .int (nI mo)])), (pa, .inl (cI, pz, .inl pf)), (ga, .inl (cI, 4, .inl g))] := hD
          refine lv_if_ge (tgt := 47) hx hb d_PL_insertInOrder_38 (by decide) (fun _ => ?_) (fun h99 => absurd h99 (not_not_intro (Int32.not_lt.mp (fun h => hp (Or.inr h)))))
          rw [← hQe]
          exact tx_mono (fun _ h => tx_Z.of h) (W.vret hx hb hr (fun t ht hW => ⟨⟨[(pl, .inr (1, [.ref pa, .int (nI ct), .int (nI mo)])), (pa, .inl (cI, pz, .inl pf)), (ga, .inl (cI, 4, .inl g))], ⟨rfl, rfl⟩, by rw [ht]; exact hP.sub [0, 1, 2] rfl, hD.sub [0, 1, 2] (by decide) rfl⟩, hS.F ht⟩) hS.2.2 d_PL_insertInOrder_47)
        · refine lv_iinc (lv' := [(2, .int (nI (z - 1))), (0, .ref pl), (1, .ref ga)]) (k := 0) (v := nI (z - 1)) hx hb d_PL_insertInOrder_20 hl rfl (nI_dec (by omega)) (by decide) rfl (fun ls hl => ?_)
          refine lv_goto (tgt := 5) hx hb d_PL_insertInOrder_23 (by decide) ?_
          exact ih_5 _ (by omega) (z - 1) ls H locs rfl (hz.trans (ipl_down (by omega) (Int32.not_le.mp h_2))) (by omega) (lv_sub hl [0, 1, 2] rfl) (hP.sub [0, 1, 2] rfl) (hD.sub [0, 1, 2] (by decide) rfl) hS
  exact lp_5 _ ct ls s.heap [] rfl rfl (Nat.le_refl _) (lv_sub hl [0, 1, 2] rfl) (hP.sub [0, 1, 2] rfl) (hD.sub [0, 1, 2] (by decide) rfl) hS

