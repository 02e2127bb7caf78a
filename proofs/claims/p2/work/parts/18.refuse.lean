/-! ===== own rows, laid by wip/tools/sym.py: refusals, look, holds ===== -/
set_option maxHeartbeats 4000000 in
set_option maxRecDepth 100000 in
theorem c_PL_has_y {l : Launch} {s0 : State} {b0 : Addr} {D : va_G} {cI cJ cZ : ClassId} {tC tS : Nat} (E : gE l s0 b0 D cI cJ cZ tC tS) (sz : Nat) (rl : Nat) (rc : Nat) (ct : Int32) (mo : Int32) (w : Int32) (h1 : ¬ w < 0) (h2 : w < ct) : cx_M l s0 D kl y_PL_has b_PL_has 2 (some .boolean) ({ frames := 0, cells := 0, slots := 0, locals := 0 } : Room) 0 0 [.ref rl, .int w] [(rl, .inr (1, [.ref rc, .int ct, .int mo]))] sz (fun o9 _ w9 => o9 = .returned (some (.int (1 : Int32))) ∧ w9 = [(rl, .inr (1, [.ref rc, .int ct, .int mo]))]) := by
  refine tx_ofW (cc := b_PL_has) (maxL := 2) (ret := (some .boolean)) (by decide) rfl ?_
  intro p e s m args below meth c s₁ B hml hT hv
  obtain ⟨rfl, hsz, hP, hD0, hx0⟩ := hv
  have hx := B.exec
  have hb := B.bytes
  have hr := B.returns
  have G := E.2.1
  have hown : s.vm.findClass cn_PL = some m.cls := findClass_of_methodNamed B.named
  have hlocks := B.notSynchronized
  have hK := va_K.moved hx0.1.alike E.2.2.1
  have hf_PL : ∀ w99 ∈ u_ws cn_PL ft_PL 3, w99.before ([.ref rl, .int w] : List Value).toArray s = true := fun w99 h99 => gw.at G hx0 (fw_PL w99 h99) (fo_PL w99 h99) _
  subst hsz
  have hA0 := cx_new hD0 hx0.2.1
  have hD := hD0.self (sz := s.heap.size)
  generalize hAe : va_A [(rl, .inr (1, [.ref rc, .int ct, .int mo]))] s.heap.size = A at hD hA0 ⊢
  have hA : ∀ q : Nat, s.heap.size ≤ q → A q := fun q h => by rw [← hAe]; exact Or.inr h
  have hS : va_S A s.heap s.heap [] := va_S.rf
  have hl := lv_entry ([.ref rl, .int w]) (n := 2) (Nat.le_of_ble_eq_true rfl)
  rw [lg_entry_eq]
  generalize (lg_sl ([.ref rl, .int w]) ++ List.replicate (2 - (lg_sl ([.ref rl, .int w])).length) Slot.unset).toArray = ls at hl ⊢
  have hl : lv_has ls 2 [(0, .ref rl), (1, .int w)] := hl
  have hP : va_P D kl [(rl, .inr (1, [.ref rc, .int ct, .int mo]))] s.heap := hP
  have hml : c.maxLocals = 2 := hml
  refine lv_iload_n hx hb d_PL_has_0 rfl (lv_at hl 1 rfl) ?_
  refine lv_if_lt (tgt := 16) hx hb d_PL_has_1 (by decide) (fun h99 => absurd h99 h1) (fun _ => ?_)
  refine lv_iload_n hx hb d_PL_has_4 rfl (lv_at hl 1 rfl) ?_
  refine lv_aload_n hx hb d_PL_has_5 rfl (lv_at hl 0 rfl) ?_
  refine va_get (D := D) (ci := 1) (v := .int ct) (C := cn_PL) (T := ft_PL) (N := 3) hx hb hf_PL (fun _ h => h) hown hK hP 0 rfl rfl 1 (by decide) (gw.at G hx0 mw_42 rfl _) (fun _ h9 => h9) rfl d_PL_has_6 ?_
  refine lv_icmp_ge (tgt := 16) hx hb d_PL_has_9 (by decide) (fun h99 => absurd h99 (Int32.not_le.mpr h2)) (fun _ => ?_)
  refine lv_iconst (v := (1 : Int32)) hx hb d_PL_has_12 (by decide) ?_
  refine lv_goto (tgt := 17) hx hb d_PL_has_13 (by decide) ?_
  exact tx_mono (fun _ h => tx_Z.of h) (W.zret (v := (1 : Int32)) hx hb hr (by decide) (fun t ht hW => ⟨⟨[(rl, .inr (1, [.ref rc, .int ct, .int mo]))], ⟨rfl, rfl⟩, by rw [ht]; exact hP.sub [0] rfl, hD.sub [0] (by decide) rfl⟩, hS.F ht⟩) hS.2.2 d_PL_has_17)

set_option maxHeartbeats 4000000 in
set_option maxRecDepth 100000 in
theorem c_PL_has_n {l : Launch} {s0 : State} {b0 : Addr} {D : va_G} {cI cJ cZ : ClassId} {tC tS : Nat} (E : gE l s0 b0 D cI cJ cZ tC tS) (sz : Nat) (rl : Nat) (rc : Nat) (ct : Int32) (mo : Int32) (w : Int32) (h : ¬ (¬ w < 0 ∧ w < ct)) : cx_M l s0 D kl y_PL_has b_PL_has 2 (some .boolean) ({ frames := 0, cells := 0, slots := 0, locals := 0 } : Room) 0 0 [.ref rl, .int w] [(rl, .inr (1, [.ref rc, .int ct, .int mo]))] sz (fun o9 _ w9 => o9 = .returned (some (.int (0 : Int32))) ∧ w9 = [(rl, .inr (1, [.ref rc, .int ct, .int mo]))]) := by
  refine tx_ofW (cc := b_PL_has) (maxL := 2) (ret := (some .boolean)) (by decide) rfl ?_
  intro p e s m args below meth c s₁ B hml hT hv
  obtain ⟨rfl, hsz, hP, hD0, hx0⟩ := hv
  have hx := B.exec
  have hb := B.bytes
  have hr := B.returns
  have G := E.2.1
  have hown : s.vm.findClass cn_PL = some m.cls := findClass_of_methodNamed B.named
  have hlocks := B.notSynchronized
  have hK := va_K.moved hx0.1.alike E.2.2.1
  have hf_PL : ∀ w99 ∈ u_ws cn_PL ft_PL 3, w99.before ([.ref rl, .int w] : List Value).toArray s = true := fun w99 h99 => gw.at G hx0 (fw_PL w99 h99) (fo_PL w99 h99) _
  subst hsz
  have hA0 := cx_new hD0 hx0.2.1
  have hD := hD0.self (sz := s.heap.size)
  generalize hAe : va_A [(rl, .inr (1, [.ref rc, .int ct, .int mo]))] s.heap.size = A at hD hA0 ⊢
  have hA : ∀ q : Nat, s.heap.size ≤ q → A q := fun q h => by rw [← hAe]; exact Or.inr h
  have hS : va_S A s.heap s.heap [] := va_S.rf
  have hl := lv_entry ([.ref rl, .int w]) (n := 2) (Nat.le_of_ble_eq_true rfl)
  rw [lg_entry_eq]
  generalize (lg_sl ([.ref rl, .int w]) ++ List.replicate (2 - (lg_sl ([.ref rl, .int w])).length) Slot.unset).toArray = ls at hl ⊢
  have hl : lv_has ls 2 [(0, .ref rl), (1, .int w)] := hl
  have hP : va_P D kl [(rl, .inr (1, [.ref rc, .int ct, .int mo]))] s.heap := hP
  have hml : c.maxLocals = 2 := hml
  refine lv_iload_n hx hb d_PL_has_0 rfl (lv_at hl 1 rfl) ?_
  refine lv_if_lt (tgt := 16) hx hb d_PL_has_1 (by decide) (fun h_1 => ?_) (fun h_1 => ?_)
  · refine lv_iconst (v := (0 : Int32)) hx hb d_PL_has_16 (by decide) ?_
    exact tx_mono (fun _ h => tx_Z.of h) (W.zret (v := (0 : Int32)) hx hb hr (by decide) (fun t ht hW => ⟨⟨[(rl, .inr (1, [.ref rc, .int ct, .int mo]))], ⟨rfl, rfl⟩, by rw [ht]; exact hP.sub [0] rfl, hD.sub [0] (by decide) rfl⟩, hS.F ht⟩) hS.2.2 d_PL_has_17)
  · refine lv_iload_n hx hb d_PL_has_4 rfl (lv_at hl 1 rfl) ?_
    refine lv_aload_n hx hb d_PL_has_5 rfl (lv_at hl 0 rfl) ?_
    refine va_get (D := D) (ci := 1) (v := .int ct) (C := cn_PL) (T := ft_PL) (N := 3) hx hb hf_PL (fun _ h => h) hown hK hP 0 rfl rfl 1 (by decide) (gw.at G hx0 mw_42 rfl _) (fun _ h9 => h9) rfl d_PL_has_6 ?_
    refine lv_icmp_ge (tgt := 16) hx hb d_PL_has_9 (by decide) (fun h_2 => ?_) (fun h_2 => ?_)
    · refine lv_iconst (v := (0 : Int32)) hx hb d_PL_has_16 (by decide) ?_
      exact tx_mono (fun _ h => tx_Z.of h) (W.zret (v := (0 : Int32)) hx hb hr (by decide) (fun t ht hW => ⟨⟨[(rl, .inr (1, [.ref rc, .int ct, .int mo]))], ⟨rfl, rfl⟩, by rw [ht]; exact hP.sub [0] rfl, hD.sub [0] (by decide) rfl⟩, hS.F ht⟩) hS.2.2 d_PL_has_17)
    · refine lv_iconst (v := (1 : Int32)) hx hb d_PL_has_12 (by decide) ?_
      refine lv_goto (tgt := 17) hx hb d_PL_has_13 (by decide) ?_
      exact absurd ⟨h_1, Int32.not_le.mp h_2⟩ h

set_option maxHeartbeats 4000000 in
set_option maxRecDepth 100000 in
theorem c_D_needRow_t {l : Launch} {s0 : State} {b0 : Addr} {D : va_G} {cI cJ cZ : ClassId} {tC tS : Nat} (E : gE l s0 b0 D cI cJ cZ tC tS) (sz : Nat) (d0 : Nat) (gv : Nat) (dr : Nat) (rl : Nat) (yl : Nat) (mi : Nat) (fl : Nat) (bf : Nat) (dm : Int32) (rk : Int32) (sp : Int32) (kn : Int32) (rc : Nat) (ct : Int32) (mo : Int32) (w : Int32) (h : ¬ (¬ w < 0 ∧ w < ct)) : cx_M l s0 D kl y_D_needRow b_D_needRow 2 none ({ frames := 6, cells := 1, slots := 6, locals := 82 } : Room) 1 6 [.ref d0, .int w] [(d0, .inr (0, [.int dm, .ref gv, .ref dr, .ref rl, .ref yl, .ref mi, .ref fl, .ref bf, .int rk, .int sp, .int kn])), (rl, .inr (1, [.ref rc, .int ct, .int mo]))] sz (fun o9 t9 w9 => ∃ (x9 : Nat), o9 = .threw x9 ∧ tx_X ex_x x9 t9 ∧ w9 = [(d0, .inr (0, [.int dm, .ref gv, .ref dr, .ref rl, .ref yl, .ref mi, .ref fl, .ref bf, .int rk, .int sp, .int kn])), (rl, .inr (1, [.ref rc, .int ct, .int mo]))]) := by
  refine tx_ofW (cc := b_D_needRow) (maxL := 2) (ret := none) (by decide) rfl ?_
  intro p e s m args below meth c s₁ B hml hT hv
  obtain ⟨rfl, hsz, hP, hD0, hx0⟩ := hv
  have hx := B.exec
  have hb := B.bytes
  have hr := B.returns
  have G := E.2.1
  have hown : s.vm.findClass cn_D = some m.cls := findClass_of_methodNamed B.named
  have hlocks := B.notSynchronized
  have hK := va_K.moved hx0.1.alike E.2.2.1
  have hf_D : ∀ w99 ∈ u_ws cn_D ft_D 11, w99.before ([.ref d0, .int w] : List Value).toArray s = true := fun w99 h99 => gw.at G hx0 (fw_D w99 h99) (fo_D w99 h99) _
  subst hsz
  have hA0 := cx_new hD0 hx0.2.1
  have hD := hD0.self (sz := s.heap.size)
  generalize hAe : va_A [(d0, .inr (0, [.int dm, .ref gv, .ref dr, .ref rl, .ref yl, .ref mi, .ref fl, .ref bf, .int rk, .int sp, .int kn])), (rl, .inr (1, [.ref rc, .int ct, .int mo]))] s.heap.size = A at hD hA0 ⊢
  have hA : ∀ q : Nat, s.heap.size ≤ q → A q := fun q h => by rw [← hAe]; exact Or.inr h
  have hS : va_S A s.heap s.heap [] := va_S.rf
  have hl := lv_entry ([.ref d0, .int w]) (n := 2) (Nat.le_of_ble_eq_true rfl)
  rw [lg_entry_eq]
  generalize (lg_sl ([.ref d0, .int w]) ++ List.replicate (2 - (lg_sl ([.ref d0, .int w])).length) Slot.unset).toArray = ls at hl ⊢
  have hl : lv_has ls 2 [(0, .ref d0), (1, .int w)] := hl
  have hP : va_P D kl [(d0, .inr (0, [.int dm, .ref gv, .ref dr, .ref rl, .ref yl, .ref mi, .ref fl, .ref bf, .int rk, .int sp, .int kn])), (rl, .inr (1, [.ref rc, .int ct, .int mo]))] s.heap := hP
  have hml : c.maxLocals = 2 := hml
  refine lv_aload_n hx hb d_D_needRow_0 rfl (lv_at hl 0 rfl) ?_
  refine va_get (D := D) (ci := 0) (v := .ref rl) (C := cn_D) (T := ft_D) (N := 11) hx hb hf_D (fun _ h => h) hown hK hP 0 rfl rfl 3 (by decide) (gw.at G hx0 mw_197 rfl _) (fun _ h9 => h9) rfl d_D_needRow_1 ?_
  refine lv_iload_n hx hb d_D_needRow_4 rfl (lv_at hl 1 rfl) ?_
  refine cx_call (D := D) (cl := kl) (ws := _) (wc := [(rl, .inr (1, [.ref rc, .int ct, .int mo]))]) (wr := [(d0, .inr (0, [.int dm, .ref gv, .ref dr, .ref rl, .ref yl, .ref mi, .ref fl, .ref bf, .int rk, .int sp, .int kn]))]) (tx_runV (C := cn_PL) (b := rl) (As := [.int w]) (rest := []) hx hb hml hown (c_PL_has_n E s.heap.size rl rc ct mo w h) (cx_C (b0 := b0) G hx0 mw_394 mw_3 ny_PL_has (by decide)) (gw.at G hx0 mw_391 rfl _) (gw.at G hx0 mw_392 rfl _) (gw.at G hx0 mw_393 rfl _) ⟨cx_blind, va_recv hK hP (q0 := 1) (ci := 1) (q := (cn_PL, ft_PL, 3)) rfl rfl, (cx_pre (s := s) hx0 hP hD hS hA0 [1] rfl rfl (by decide))⟩ rfl rfl hl.1 rfl (lv_room (Nat.le_of_ble_eq_true rfl)) d_D_needRow_5 ⟨by decide, by decide⟩) hP hD hS hA [1] [0] rfl rfl (by decide) (by decide) (fun v t w1 H locs ht hW9 hp hP hD hS => ?_) (fun x t w1 H locs ht hW9 hp hP hD hS => by obtain ⟨h9, -⟩ := hp; cases h9)
  obtain ⟨h9, rfl⟩ := hp
  cases h9
  refine W.eq (g2 := F0 m 8 ls [.int (0 : Int32)]) rfl ?_
  refine W.widen (k := 0) (n := 0) (by decide) (by decide) ?_
  have hP : va_P D kl [(d0, .inr (0, [.int dm, .ref gv, .ref dr, .ref rl, .ref yl, .ref mi, .ref fl, .ref bf, .int rk, .int sp, .int kn])), (rl, .inr (1, [.ref rc, .int ct, .int mo]))] H := hP
  have hD : va_D A [(d0, .inr (0, [.int dm, .ref gv, .ref dr, .ref rl, .ref yl, .ref mi, .ref fl, .ref bf, .int rk, .int sp, .int kn])), (rl, .inr (1, [.ref rc, .int ct, .int mo]))] := hD
  refine lv_if_ne (tgt := 21) hx hb d_D_needRow_8 (by decide) (fun h99 => absurd h99 (by decide)) (fun _ => ?_)
  refine cx_throw (A := A) (ws := [(d0, .inr (0, [.int dm, .ref gv, .ref dr, .ref rl, .ref yl, .ref mi, .ref fl, .ref bf, .int rk, .int sp, .int kn])), (rl, .inr (1, [.ref rc, .int ct, .int mo]))]) (post := (fun o9 t9 w9 => ∃ (x9 : Nat), o9 = .threw x9 ∧ tx_X ex_x x9 t9 ∧ w9 = [(d0, .inr (0, [.int dm, .ref gv, .ref dr, .ref rl, .ref yl, .ref mi, .ref fl, .ref bf, .int rk, .int sp, .int kn])), (rl, .inr (1, [.ref rc, .int ct, .int mo]))])) E hx0 hx hb hml hl.1 hlocks hown hT (hP.sub [0, 1] rfl) (hD.sub [0, 1] (by decide) rfl) hS hA0 st_x sl_x si_x sf_x (is := 171) (text := _) (by decide +kernel : (171, "no such row") ∈ ge_texts) d_D_needRow_11 d_D_needRow_14 d_D_needRow_15 d_D_needRow_17 d_D_needRow_20 (by decide) (fun x t hX => ⟨x, rfl, hX, rfl⟩)

set_option maxHeartbeats 4000000 in
set_option maxRecDepth 100000 in
theorem c_D_needRow_r {l : Launch} {s0 : State} {b0 : Addr} {D : va_G} {cI cJ cZ : ClassId} {tC tS : Nat} (E : gE l s0 b0 D cI cJ cZ tC tS) (sz : Nat) (d0 : Nat) (gv : Nat) (dr : Nat) (rl : Nat) (yl : Nat) (mi : Nat) (fl : Nat) (bf : Nat) (dm : Int32) (rk : Int32) (sp : Int32) (kn : Int32) (rc : Nat) (ct : Int32) (mo : Int32) (w : Int32) (h1 : ¬ w < 0) (h2 : w < ct) : cx_M l s0 D kl y_D_needRow b_D_needRow 2 none ({ frames := 1, cells := 0, slots := 0, locals := 21 } : Room) 0 0 [.ref d0, .int w] [(d0, .inr (0, [.int dm, .ref gv, .ref dr, .ref rl, .ref yl, .ref mi, .ref fl, .ref bf, .int rk, .int sp, .int kn])), (rl, .inr (1, [.ref rc, .int ct, .int mo]))] sz (fun o9 _ w9 => o9 = .returned none ∧ w9 = [(d0, .inr (0, [.int dm, .ref gv, .ref dr, .ref rl, .ref yl, .ref mi, .ref fl, .ref bf, .int rk, .int sp, .int kn])), (rl, .inr (1, [.ref rc, .int ct, .int mo]))]) := by
  refine tx_ofW (cc := b_D_needRow) (maxL := 2) (ret := none) (by decide) rfl ?_
  intro p e s m args below meth c s₁ B hml hT hv
  obtain ⟨rfl, hsz, hP, hD0, hx0⟩ := hv
  have hx := B.exec
  have hb := B.bytes
  have hr := B.returns
  have G := E.2.1
  have hown : s.vm.findClass cn_D = some m.cls := findClass_of_methodNamed B.named
  have hlocks := B.notSynchronized
  have hK := va_K.moved hx0.1.alike E.2.2.1
  have hf_D : ∀ w99 ∈ u_ws cn_D ft_D 11, w99.before ([.ref d0, .int w] : List Value).toArray s = true := fun w99 h99 => gw.at G hx0 (fw_D w99 h99) (fo_D w99 h99) _
  subst hsz
  have hA0 := cx_new hD0 hx0.2.1
  have hD := hD0.self (sz := s.heap.size)
  generalize hAe : va_A [(d0, .inr (0, [.int dm, .ref gv, .ref dr, .ref rl, .ref yl, .ref mi, .ref fl, .ref bf, .int rk, .int sp, .int kn])), (rl, .inr (1, [.ref rc, .int ct, .int mo]))] s.heap.size = A at hD hA0 ⊢
  have hA : ∀ q : Nat, s.heap.size ≤ q → A q := fun q h => by rw [← hAe]; exact Or.inr h
  have hS : va_S A s.heap s.heap [] := va_S.rf
  have hl := lv_entry ([.ref d0, .int w]) (n := 2) (Nat.le_of_ble_eq_true rfl)
  rw [lg_entry_eq]
  generalize (lg_sl ([.ref d0, .int w]) ++ List.replicate (2 - (lg_sl ([.ref d0, .int w])).length) Slot.unset).toArray = ls at hl ⊢
  have hl : lv_has ls 2 [(0, .ref d0), (1, .int w)] := hl
  have hP : va_P D kl [(d0, .inr (0, [.int dm, .ref gv, .ref dr, .ref rl, .ref yl, .ref mi, .ref fl, .ref bf, .int rk, .int sp, .int kn])), (rl, .inr (1, [.ref rc, .int ct, .int mo]))] s.heap := hP
  have hml : c.maxLocals = 2 := hml
  refine lv_aload_n hx hb d_D_needRow_0 rfl (lv_at hl 0 rfl) ?_
  refine va_get (D := D) (ci := 0) (v := .ref rl) (C := cn_D) (T := ft_D) (N := 11) hx hb hf_D (fun _ h => h) hown hK hP 0 rfl rfl 3 (by decide) (gw.at G hx0 mw_197 rfl _) (fun _ h9 => h9) rfl d_D_needRow_1 ?_
  refine lv_iload_n hx hb d_D_needRow_4 rfl (lv_at hl 1 rfl) ?_
  refine cx_call (D := D) (cl := kl) (ws := _) (wc := [(rl, .inr (1, [.ref rc, .int ct, .int mo]))]) (wr := [(d0, .inr (0, [.int dm, .ref gv, .ref dr, .ref rl, .ref yl, .ref mi, .ref fl, .ref bf, .int rk, .int sp, .int kn]))]) (tx_runV (C := cn_PL) (b := rl) (As := [.int w]) (rest := []) hx hb hml hown (c_PL_has_y E s.heap.size rl rc ct mo w h1 h2) (cx_C (b0 := b0) G hx0 mw_394 mw_3 ny_PL_has (by decide)) (gw.at G hx0 mw_391 rfl _) (gw.at G hx0 mw_392 rfl _) (gw.at G hx0 mw_393 rfl _) ⟨cx_blind, va_recv hK hP (q0 := 1) (ci := 1) (q := (cn_PL, ft_PL, 3)) rfl rfl, (cx_pre (s := s) hx0 hP hD hS hA0 [1] rfl rfl (by decide))⟩ rfl rfl hl.1 rfl (lv_room (Nat.le_of_ble_eq_true rfl)) d_D_needRow_5 ⟨by decide, by decide⟩) hP hD hS hA [1] [0] rfl rfl (by decide) (by decide) (fun v t w1 H locs ht hW9 hp hP hD hS => ?_) (fun x t w1 H locs ht hW9 hp hP hD hS => by obtain ⟨h9, -⟩ := hp; cases h9)
  obtain ⟨h9, rfl⟩ := hp
  cases h9
  refine W.eq (g2 := F0 m 8 ls [.int (1 : Int32)]) rfl ?_
  refine W.widen (k := 0) (n := 0) (by decide) (by decide) ?_
  have hP : va_P D kl [(d0, .inr (0, [.int dm, .ref gv, .ref dr, .ref rl, .ref yl, .ref mi, .ref fl, .ref bf, .int rk, .int sp, .int kn])), (rl, .inr (1, [.ref rc, .int ct, .int mo]))] H := hP
  have hD : va_D A [(d0, .inr (0, [.int dm, .ref gv, .ref dr, .ref rl, .ref yl, .ref mi, .ref fl, .ref bf, .int rk, .int sp, .int kn])), (rl, .inr (1, [.ref rc, .int ct, .int mo]))] := hD
  refine lv_if_ne (tgt := 21) hx hb d_D_needRow_8 (by decide) (fun _ => ?_) (fun h99 => absurd h99 (by decide))
  exact tx_mono (fun _ h => tx_Z.of h) (W.vret hx hb hr (fun t ht hW => ⟨⟨[(d0, .inr (0, [.int dm, .ref gv, .ref dr, .ref rl, .ref yl, .ref mi, .ref fl, .ref bf, .int rk, .int sp, .int kn])), (rl, .inr (1, [.ref rc, .int ct, .int mo]))], ⟨rfl, rfl⟩, by rw [ht]; exact hP.sub [0, 1] rfl, hD.sub [0, 1] (by decide) rfl⟩, hS.F ht⟩) hS.2.2 d_D_needRow_21)

set_option maxHeartbeats 4000000 in
set_option maxRecDepth 100000 in
theorem c_D_know_t {l : Launch} {s0 : State} {b0 : Addr} {D : va_G} {cI cJ cZ : ClassId} {tC tS : Nat} (E : gE l s0 b0 D cI cJ cZ tC tS) (sz : Nat) (d0 : Nat) (gv : Nat) (dr : Nat) (rl : Nat) (yl : Nat) (mi : Nat) (fl : Nat) (bf : Nat) (dm : Int32) (rk : Int32) (sp : Int32) (kn : Int32) (w : Int32) (h : rk < dm) : cx_M l s0 D kl y_D_know b_D_know 2 none ({ frames := 6, cells := 1, slots := 6, locals := 82 } : Room) 1 6 [.ref d0, .int w] [(d0, .inr (0, [.int dm, .ref gv, .ref dr, .ref rl, .ref yl, .ref mi, .ref fl, .ref bf, .int rk, .int sp, .int kn]))] sz (fun o9 t9 w9 => ∃ (x9 : Nat), o9 = .threw x9 ∧ tx_X ex_s x9 t9 ∧ w9 = [(d0, .inr (0, [.int dm, .ref gv, .ref dr, .ref rl, .ref yl, .ref mi, .ref fl, .ref bf, .int rk, .int sp, .int kn]))]) := by
  refine tx_ofW (cc := b_D_know) (maxL := 2) (ret := none) (by decide) rfl ?_
  intro p e s m args below meth c s₁ B hml hT hv
  obtain ⟨rfl, hsz, hP, hD0, hx0⟩ := hv
  have hx := B.exec
  have hb := B.bytes
  have hr := B.returns
  have G := E.2.1
  have hown : s.vm.findClass cn_D = some m.cls := findClass_of_methodNamed B.named
  have hlocks := B.notSynchronized
  have hK := va_K.moved hx0.1.alike E.2.2.1
  have hf_D : ∀ w99 ∈ u_ws cn_D ft_D 11, w99.before ([.ref d0, .int w] : List Value).toArray s = true := fun w99 h99 => gw.at G hx0 (fw_D w99 h99) (fo_D w99 h99) _
  subst hsz
  have hA0 := cx_new hD0 hx0.2.1
  have hD := hD0.self (sz := s.heap.size)
  generalize hAe : va_A [(d0, .inr (0, [.int dm, .ref gv, .ref dr, .ref rl, .ref yl, .ref mi, .ref fl, .ref bf, .int rk, .int sp, .int kn]))] s.heap.size = A at hD hA0 ⊢
  have hA : ∀ q : Nat, s.heap.size ≤ q → A q := fun q h => by rw [← hAe]; exact Or.inr h
  have hS : va_S A s.heap s.heap [] := va_S.rf
  have hl := lv_entry ([.ref d0, .int w]) (n := 2) (Nat.le_of_ble_eq_true rfl)
  rw [lg_entry_eq]
  generalize (lg_sl ([.ref d0, .int w]) ++ List.replicate (2 - (lg_sl ([.ref d0, .int w])).length) Slot.unset).toArray = ls at hl ⊢
  have hl : lv_has ls 2 [(0, .ref d0), (1, .int w)] := hl
  have hP : va_P D kl [(d0, .inr (0, [.int dm, .ref gv, .ref dr, .ref rl, .ref yl, .ref mi, .ref fl, .ref bf, .int rk, .int sp, .int kn]))] s.heap := hP
  have hml : c.maxLocals = 2 := hml
  refine lv_aload_n hx hb d_D_know_0 rfl (lv_at hl 0 rfl) ?_
  refine va_get (D := D) (ci := 0) (v := .int rk) (C := cn_D) (T := ft_D) (N := 11) hx hb hf_D (fun _ h => h) hown hK hP 0 rfl rfl 8 (by decide) (gw.at G hx0 mw_202 rfl _) (fun _ h9 => h9) rfl d_D_know_1 ?_
  refine lv_aload_n hx hb d_D_know_4 rfl (lv_at hl 0 rfl) ?_
  refine va_get (D := D) (ci := 0) (v := .int dm) (C := cn_D) (T := ft_D) (N := 11) hx hb hf_D (fun _ h => h) hown hK hP 0 rfl rfl 0 (by decide) (gw.at G hx0 mw_194 rfl _) (fun _ h9 => h9) rfl d_D_know_5 ?_
  refine lv_icmp_ge (tgt := 21) hx hb d_D_know_8 (by decide) (fun h99 => absurd h99 (Int32.not_le.mpr h)) (fun _ => ?_)
  refine cx_throw (A := A) (ws := [(d0, .inr (0, [.int dm, .ref gv, .ref dr, .ref rl, .ref yl, .ref mi, .ref fl, .ref bf, .int rk, .int sp, .int kn]))]) (post := (fun o9 t9 w9 => ∃ (x9 : Nat), o9 = .threw x9 ∧ tx_X ex_s x9 t9 ∧ w9 = [(d0, .inr (0, [.int dm, .ref gv, .ref dr, .ref rl, .ref yl, .ref mi, .ref fl, .ref bf, .int rk, .int sp, .int kn]))])) E hx0 hx hb hml hl.1 hlocks hown hT (hP.sub [0] rfl) (hD.sub [0] (by decide) rfl) hS hA0 st_s sl_s si_s sf_s (is := 177) (text := _) (by decide +kernel : (177, "the cone is not pointed") ∈ ge_texts) d_D_know_11 d_D_know_14 d_D_know_15 d_D_know_17 d_D_know_20 (by decide) (fun x t hX => ⟨x, rfl, hX, rfl⟩)

set_option maxHeartbeats 4000000 in
set_option maxRecDepth 100000 in
theorem c_D_look0 {l : Launch} {s0 : State} {b0 : Addr} {D : va_G} {cI cJ cZ : ClassId} {tC tS : Nat} (E : gE l s0 b0 D cI cJ cZ tC tS) (sz : Nat) (d0 : Nat) (gv : Nat) (dr : Nat) (rl : Nat) (yl : Nat) (mi : Nat) (fl : Nat) (bf : Nat) (dm : Int32) (rk : Int32) (sp : Int32) (kn : Int32) (rc : Nat) (ct : Int32) (mo : Int32) : cx_M l s0 D kl y_D_look b_D_look 2 (some .int) ({ frames := 0, cells := 0, slots := 0, locals := 0 } : Room) 0 0 [.ref d0, .int (0 : Int32)] [(d0, .inr (0, [.int dm, .ref gv, .ref dr, .ref rl, .ref yl, .ref mi, .ref fl, .ref bf, .int rk, .int sp, .int kn])), (rl, .inr (1, [.ref rc, .int ct, .int mo]))] sz (fun o9 _ w9 => o9 = .returned (some (.int dm)) ∧ w9 = [(d0, .inr (0, [.int dm, .ref gv, .ref dr, .ref rl, .ref yl, .ref mi, .ref fl, .ref bf, .int rk, .int sp, .int kn])), (rl, .inr (1, [.ref rc, .int ct, .int mo]))]) := by
  refine tx_ofW (cc := b_D_look) (maxL := 2) (ret := (some .int)) (by decide) rfl ?_
  intro p e s m args below meth c s₁ B hml hT hv
  obtain ⟨rfl, hsz, hP, hD0, hx0⟩ := hv
  have hx := B.exec
  have hb := B.bytes
  have hr := B.returns
  have G := E.2.1
  have hown : s.vm.findClass cn_D = some m.cls := findClass_of_methodNamed B.named
  have hlocks := B.notSynchronized
  have hK := va_K.moved hx0.1.alike E.2.2.1
  have hf_D : ∀ w99 ∈ u_ws cn_D ft_D 11, w99.before ([.ref d0, .int (0 : Int32)] : List Value).toArray s = true := fun w99 h99 => gw.at G hx0 (fw_D w99 h99) (fo_D w99 h99) _
  subst hsz
  have hA0 := cx_new hD0 hx0.2.1
  have hD := hD0.self (sz := s.heap.size)
  generalize hAe : va_A [(d0, .inr (0, [.int dm, .ref gv, .ref dr, .ref rl, .ref yl, .ref mi, .ref fl, .ref bf, .int rk, .int sp, .int kn])), (rl, .inr (1, [.ref rc, .int ct, .int mo]))] s.heap.size = A at hD hA0 ⊢
  have hA : ∀ q : Nat, s.heap.size ≤ q → A q := fun q h => by rw [← hAe]; exact Or.inr h
  have hS : va_S A s.heap s.heap [] := va_S.rf
  have hl := lv_entry ([.ref d0, .int (0 : Int32)]) (n := 2) (Nat.le_of_ble_eq_true rfl)
  rw [lg_entry_eq]
  generalize (lg_sl ([.ref d0, .int (0 : Int32)]) ++ List.replicate (2 - (lg_sl ([.ref d0, .int (0 : Int32)])).length) Slot.unset).toArray = ls at hl ⊢
  have hl : lv_has ls 2 [(0, .ref d0), (1, .int (0 : Int32))] := hl
  have hP : va_P D kl [(d0, .inr (0, [.int dm, .ref gv, .ref dr, .ref rl, .ref yl, .ref mi, .ref fl, .ref bf, .int rk, .int sp, .int kn])), (rl, .inr (1, [.ref rc, .int ct, .int mo]))] s.heap := hP
  have hml : c.maxLocals = 2 := hml
  refine lv_iload_n hx hb d_D_look_0 rfl (lv_at hl 1 rfl) ?_
  refine lv_tableIn (off := 31) (tgt := 32) hx hb d_D_look_1 (by decide) (by decide) (by decide) (by decide) ?_
  refine lv_aload_n hx hb d_D_look_32 rfl (lv_at hl 0 rfl) ?_
  refine va_get (D := D) (ci := 0) (v := .int dm) (C := cn_D) (T := ft_D) (N := 11) hx hb hf_D (fun _ h => h) hown hK hP 0 rfl rfl 0 (by decide) (gw.at G hx0 mw_194 rfl _) (fun _ h9 => h9) rfl d_D_look_33 ?_
  exact tx_mono (fun _ h => tx_Z.of h) (W.iret (v := dm) hx hb hr (fun t ht hW => ⟨⟨[(d0, .inr (0, [.int dm, .ref gv, .ref dr, .ref rl, .ref yl, .ref mi, .ref fl, .ref bf, .int rk, .int sp, .int kn])), (rl, .inr (1, [.ref rc, .int ct, .int mo]))], ⟨rfl, rfl⟩, by rw [ht]; exact hP.sub [0, 1] rfl, hD.sub [0, 1] (by decide) rfl⟩, hS.F ht⟩) hS.2.2 d_D_look_36)

set_option maxHeartbeats 4000000 in
set_option maxRecDepth 100000 in
theorem c_D_look1 {l : Launch} {s0 : State} {b0 : Addr} {D : va_G} {cI cJ cZ : ClassId} {tC tS : Nat} (E : gE l s0 b0 D cI cJ cZ tC tS) (sz : Nat) (d0 : Nat) (gv : Nat) (dr : Nat) (rl : Nat) (yl : Nat) (mi : Nat) (fl : Nat) (bf : Nat) (dm : Int32) (rk : Int32) (sp : Int32) (kn : Int32) (rc : Nat) (ct : Int32) (mo : Int32) : cx_M l s0 D kl y_D_look b_D_look 2 (some .int) ({ frames := 0, cells := 0, slots := 0, locals := 0 } : Room) 0 0 [.ref d0, .int (1 : Int32)] [(d0, .inr (0, [.int dm, .ref gv, .ref dr, .ref rl, .ref yl, .ref mi, .ref fl, .ref bf, .int rk, .int sp, .int kn])), (rl, .inr (1, [.ref rc, .int ct, .int mo]))] sz (fun o9 _ w9 => o9 = .returned (some (.int ct)) ∧ w9 = [(d0, .inr (0, [.int dm, .ref gv, .ref dr, .ref rl, .ref yl, .ref mi, .ref fl, .ref bf, .int rk, .int sp, .int kn])), (rl, .inr (1, [.ref rc, .int ct, .int mo]))]) := by
  refine tx_ofW (cc := b_D_look) (maxL := 2) (ret := (some .int)) (by decide) rfl ?_
  intro p e s m args below meth c s₁ B hml hT hv
  obtain ⟨rfl, hsz, hP, hD0, hx0⟩ := hv
  have hx := B.exec
  have hb := B.bytes
  have hr := B.returns
  have G := E.2.1
  have hown : s.vm.findClass cn_D = some m.cls := findClass_of_methodNamed B.named
  have hlocks := B.notSynchronized
  have hK := va_K.moved hx0.1.alike E.2.2.1
  have hf_D : ∀ w99 ∈ u_ws cn_D ft_D 11, w99.before ([.ref d0, .int (1 : Int32)] : List Value).toArray s = true := fun w99 h99 => gw.at G hx0 (fw_D w99 h99) (fo_D w99 h99) _
  have hf_PL : ∀ w99 ∈ u_ws cn_PL ft_PL 3, w99.before ([.ref d0, .int (1 : Int32)] : List Value).toArray s = true := fun w99 h99 => gw.at G hx0 (fw_PL w99 h99) (fo_PL w99 h99) _
  subst hsz
  have hA0 := cx_new hD0 hx0.2.1
  have hD := hD0.self (sz := s.heap.size)
  generalize hAe : va_A [(d0, .inr (0, [.int dm, .ref gv, .ref dr, .ref rl, .ref yl, .ref mi, .ref fl, .ref bf, .int rk, .int sp, .int kn])), (rl, .inr (1, [.ref rc, .int ct, .int mo]))] s.heap.size = A at hD hA0 ⊢
  have hA : ∀ q : Nat, s.heap.size ≤ q → A q := fun q h => by rw [← hAe]; exact Or.inr h
  have hS : va_S A s.heap s.heap [] := va_S.rf
  have hl := lv_entry ([.ref d0, .int (1 : Int32)]) (n := 2) (Nat.le_of_ble_eq_true rfl)
  rw [lg_entry_eq]
  generalize (lg_sl ([.ref d0, .int (1 : Int32)]) ++ List.replicate (2 - (lg_sl ([.ref d0, .int (1 : Int32)])).length) Slot.unset).toArray = ls at hl ⊢
  have hl : lv_has ls 2 [(0, .ref d0), (1, .int (1 : Int32))] := hl
  have hP : va_P D kl [(d0, .inr (0, [.int dm, .ref gv, .ref dr, .ref rl, .ref yl, .ref mi, .ref fl, .ref bf, .int rk, .int sp, .int kn])), (rl, .inr (1, [.ref rc, .int ct, .int mo]))] s.heap := hP
  have hml : c.maxLocals = 2 := hml
  refine lv_iload_n hx hb d_D_look_0 rfl (lv_at hl 1 rfl) ?_
  refine lv_tableIn (off := 36) (tgt := 37) hx hb d_D_look_1 (by decide) (by decide) (by decide) (by decide) ?_
  refine lv_aload_n hx hb d_D_look_37 rfl (lv_at hl 0 rfl) ?_
  refine va_get (D := D) (ci := 0) (v := .ref rl) (C := cn_D) (T := ft_D) (N := 11) hx hb hf_D (fun _ h => h) hown hK hP 0 rfl rfl 3 (by decide) (gw.at G hx0 mw_197 rfl _) (fun _ h9 => h9) rfl d_D_look_38 ?_
  refine va_get (D := D) (ci := 1) (v := .int ct) (C := cn_PL) (T := ft_PL) (N := 3) hx hb hf_PL (fun _ h => h) hown hK hP 1 rfl rfl 1 (by decide) (gw.at G hx0 mw_45 rfl _) (fun _ h9 => h9) rfl d_D_look_41 ?_
  exact tx_mono (fun _ h => tx_Z.of h) (W.iret (v := ct) hx hb hr (fun t ht hW => ⟨⟨[(d0, .inr (0, [.int dm, .ref gv, .ref dr, .ref rl, .ref yl, .ref mi, .ref fl, .ref bf, .int rk, .int sp, .int kn])), (rl, .inr (1, [.ref rc, .int ct, .int mo]))], ⟨rfl, rfl⟩, by rw [ht]; exact hP.sub [0, 1] rfl, hD.sub [0, 1] (by decide) rfl⟩, hS.F ht⟩) hS.2.2 d_D_look_44)

set_option maxHeartbeats 4000000 in
set_option maxRecDepth 100000 in
theorem c_D_look2 {l : Launch} {s0 : State} {b0 : Addr} {D : va_G} {cI cJ cZ : ClassId} {tC tS : Nat} (E : gE l s0 b0 D cI cJ cZ tC tS) (sz : Nat) (d0 : Nat) (gv : Nat) (dr : Nat) (rl : Nat) (yl : Nat) (mi : Nat) (fl : Nat) (bf : Nat) (dm : Int32) (rk : Int32) (sp : Int32) (kn : Int32) (rc : Nat) (ct : Int32) (mo : Int32) : cx_M l s0 D kl y_D_look b_D_look 2 (some .int) ({ frames := 0, cells := 0, slots := 0, locals := 0 } : Room) 0 0 [.ref d0, .int (2 : Int32)] [(d0, .inr (0, [.int dm, .ref gv, .ref dr, .ref rl, .ref yl, .ref mi, .ref fl, .ref bf, .int rk, .int sp, .int kn])), (rl, .inr (1, [.ref rc, .int ct, .int mo]))] sz (fun o9 _ w9 => o9 = .returned (some (.int rk)) ∧ w9 = [(d0, .inr (0, [.int dm, .ref gv, .ref dr, .ref rl, .ref yl, .ref mi, .ref fl, .ref bf, .int rk, .int sp, .int kn])), (rl, .inr (1, [.ref rc, .int ct, .int mo]))]) := by
  refine tx_ofW (cc := b_D_look) (maxL := 2) (ret := (some .int)) (by decide) rfl ?_
  intro p e s m args below meth c s₁ B hml hT hv
  obtain ⟨rfl, hsz, hP, hD0, hx0⟩ := hv
  have hx := B.exec
  have hb := B.bytes
  have hr := B.returns
  have G := E.2.1
  have hown : s.vm.findClass cn_D = some m.cls := findClass_of_methodNamed B.named
  have hlocks := B.notSynchronized
  have hK := va_K.moved hx0.1.alike E.2.2.1
  have hf_D : ∀ w99 ∈ u_ws cn_D ft_D 11, w99.before ([.ref d0, .int (2 : Int32)] : List Value).toArray s = true := fun w99 h99 => gw.at G hx0 (fw_D w99 h99) (fo_D w99 h99) _
  subst hsz
  have hA0 := cx_new hD0 hx0.2.1
  have hD := hD0.self (sz := s.heap.size)
  generalize hAe : va_A [(d0, .inr (0, [.int dm, .ref gv, .ref dr, .ref rl, .ref yl, .ref mi, .ref fl, .ref bf, .int rk, .int sp, .int kn])), (rl, .inr (1, [.ref rc, .int ct, .int mo]))] s.heap.size = A at hD hA0 ⊢
  have hA : ∀ q : Nat, s.heap.size ≤ q → A q := fun q h => by rw [← hAe]; exact Or.inr h
  have hS : va_S A s.heap s.heap [] := va_S.rf
  have hl := lv_entry ([.ref d0, .int (2 : Int32)]) (n := 2) (Nat.le_of_ble_eq_true rfl)
  rw [lg_entry_eq]
  generalize (lg_sl ([.ref d0, .int (2 : Int32)]) ++ List.replicate (2 - (lg_sl ([.ref d0, .int (2 : Int32)])).length) Slot.unset).toArray = ls at hl ⊢
  have hl : lv_has ls 2 [(0, .ref d0), (1, .int (2 : Int32))] := hl
  have hP : va_P D kl [(d0, .inr (0, [.int dm, .ref gv, .ref dr, .ref rl, .ref yl, .ref mi, .ref fl, .ref bf, .int rk, .int sp, .int kn])), (rl, .inr (1, [.ref rc, .int ct, .int mo]))] s.heap := hP
  have hml : c.maxLocals = 2 := hml
  refine lv_iload_n hx hb d_D_look_0 rfl (lv_at hl 1 rfl) ?_
  refine lv_tableIn (off := 44) (tgt := 45) hx hb d_D_look_1 (by decide) (by decide) (by decide) (by decide) ?_
  refine lv_aload_n hx hb d_D_look_45 rfl (lv_at hl 0 rfl) ?_
  refine va_get (D := D) (ci := 0) (v := .int rk) (C := cn_D) (T := ft_D) (N := 11) hx hb hf_D (fun _ h => h) hown hK hP 0 rfl rfl 8 (by decide) (gw.at G hx0 mw_202 rfl _) (fun _ h9 => h9) rfl d_D_look_46 ?_
  exact tx_mono (fun _ h => tx_Z.of h) (W.iret (v := rk) hx hb hr (fun t ht hW => ⟨⟨[(d0, .inr (0, [.int dm, .ref gv, .ref dr, .ref rl, .ref yl, .ref mi, .ref fl, .ref bf, .int rk, .int sp, .int kn])), (rl, .inr (1, [.ref rc, .int ct, .int mo]))], ⟨rfl, rfl⟩, by rw [ht]; exact hP.sub [0, 1] rfl, hD.sub [0, 1] (by decide) rfl⟩, hS.F ht⟩) hS.2.2 d_D_look_49)

set_option maxHeartbeats 4000000 in
set_option maxRecDepth 100000 in
theorem c_D_look3 {l : Launch} {s0 : State} {b0 : Addr} {D : va_G} {cI cJ cZ : ClassId} {tC tS : Nat} (E : gE l s0 b0 D cI cJ cZ tC tS) (sz : Nat) (d0 : Nat) (gv : Nat) (dr : Nat) (rl : Nat) (yl : Nat) (mi : Nat) (fl : Nat) (bf : Nat) (dm : Int32) (rk : Int32) (sp : Int32) (kn : Int32) (rc : Nat) (ct : Int32) (mo : Int32) : cx_M l s0 D kl y_D_look b_D_look 2 (some .int) ({ frames := 0, cells := 0, slots := 0, locals := 0 } : Room) 0 0 [.ref d0, .int (3 : Int32)] [(d0, .inr (0, [.int dm, .ref gv, .ref dr, .ref rl, .ref yl, .ref mi, .ref fl, .ref bf, .int rk, .int sp, .int kn])), (rl, .inr (1, [.ref rc, .int ct, .int mo]))] sz (fun o9 _ w9 => o9 = .returned (some (.int (dm - rk))) ∧ w9 = [(d0, .inr (0, [.int dm, .ref gv, .ref dr, .ref rl, .ref yl, .ref mi, .ref fl, .ref bf, .int rk, .int sp, .int kn])), (rl, .inr (1, [.ref rc, .int ct, .int mo]))]) := by
  refine tx_ofW (cc := b_D_look) (maxL := 2) (ret := (some .int)) (by decide) rfl ?_
  intro p e s m args below meth c s₁ B hml hT hv
  obtain ⟨rfl, hsz, hP, hD0, hx0⟩ := hv
  have hx := B.exec
  have hb := B.bytes
  have hr := B.returns
  have G := E.2.1
  have hown : s.vm.findClass cn_D = some m.cls := findClass_of_methodNamed B.named
  have hlocks := B.notSynchronized
  have hK := va_K.moved hx0.1.alike E.2.2.1
  have hf_D : ∀ w99 ∈ u_ws cn_D ft_D 11, w99.before ([.ref d0, .int (3 : Int32)] : List Value).toArray s = true := fun w99 h99 => gw.at G hx0 (fw_D w99 h99) (fo_D w99 h99) _
  subst hsz
  have hA0 := cx_new hD0 hx0.2.1
  have hD := hD0.self (sz := s.heap.size)
  generalize hAe : va_A [(d0, .inr (0, [.int dm, .ref gv, .ref dr, .ref rl, .ref yl, .ref mi, .ref fl, .ref bf, .int rk, .int sp, .int kn])), (rl, .inr (1, [.ref rc, .int ct, .int mo]))] s.heap.size = A at hD hA0 ⊢
  have hA : ∀ q : Nat, s.heap.size ≤ q → A q := fun q h => by rw [← hAe]; exact Or.inr h
  have hS : va_S A s.heap s.heap [] := va_S.rf
  have hl := lv_entry ([.ref d0, .int (3 : Int32)]) (n := 2) (Nat.le_of_ble_eq_true rfl)
  rw [lg_entry_eq]
  generalize (lg_sl ([.ref d0, .int (3 : Int32)]) ++ List.replicate (2 - (lg_sl ([.ref d0, .int (3 : Int32)])).length) Slot.unset).toArray = ls at hl ⊢
  have hl : lv_has ls 2 [(0, .ref d0), (1, .int (3 : Int32))] := hl
  have hP : va_P D kl [(d0, .inr (0, [.int dm, .ref gv, .ref dr, .ref rl, .ref yl, .ref mi, .ref fl, .ref bf, .int rk, .int sp, .int kn])), (rl, .inr (1, [.ref rc, .int ct, .int mo]))] s.heap := hP
  have hml : c.maxLocals = 2 := hml
  refine lv_iload_n hx hb d_D_look_0 rfl (lv_at hl 1 rfl) ?_
  refine lv_tableIn (off := 49) (tgt := 50) hx hb d_D_look_1 (by decide) (by decide) (by decide) (by decide) ?_
  refine lv_aload_n hx hb d_D_look_50 rfl (lv_at hl 0 rfl) ?_
  refine va_get (D := D) (ci := 0) (v := .int dm) (C := cn_D) (T := ft_D) (N := 11) hx hb hf_D (fun _ h => h) hown hK hP 0 rfl rfl 0 (by decide) (gw.at G hx0 mw_194 rfl _) (fun _ h9 => h9) rfl d_D_look_51 ?_
  refine lv_aload_n hx hb d_D_look_54 rfl (lv_at hl 0 rfl) ?_
  refine va_get (D := D) (ci := 0) (v := .int rk) (C := cn_D) (T := ft_D) (N := 11) hx hb hf_D (fun _ h => h) hown hK hP 0 rfl rfl 8 (by decide) (gw.at G hx0 mw_202 rfl _) (fun _ h9 => h9) rfl d_D_look_55 ?_
  refine lv_isub hx hb d_D_look_58 ?_
  exact tx_mono (fun _ h => tx_Z.of h) (W.iret (v := dm - rk) hx hb hr (fun t ht hW => ⟨⟨[(d0, .inr (0, [.int dm, .ref gv, .ref dr, .ref rl, .ref yl, .ref mi, .ref fl, .ref bf, .int rk, .int sp, .int kn])), (rl, .inr (1, [.ref rc, .int ct, .int mo]))], ⟨rfl, rfl⟩, by rw [ht]; exact hP.sub [0, 1] rfl, hD.sub [0, 1] (by decide) rfl⟩, hS.F ht⟩) hS.2.2 d_D_look_59)

set_option maxHeartbeats 4000000 in
set_option maxRecDepth 100000 in
theorem c_D_look9 {l : Launch} {s0 : State} {b0 : Addr} {D : va_G} {cI cJ cZ : ClassId} {tC tS : Nat} (E : gE l s0 b0 D cI cJ cZ tC tS) (sz : Nat) (d0 : Nat) (gv : Nat) (dr : Nat) (rl : Nat) (yl : Nat) (mi : Nat) (fl : Nat) (bf : Nat) (dm : Int32) (rk : Int32) (sp : Int32) (kn : Int32) (rc : Nat) (ct : Int32) (mo : Int32) (w : Int32) (h : w.toInt < 0 ∨ 3 < w.toInt) : cx_M l s0 D kl y_D_look b_D_look 2 (some .int) ({ frames := 0, cells := 0, slots := 0, locals := 0 } : Room) 0 0 [.ref d0, .int w] [(d0, .inr (0, [.int dm, .ref gv, .ref dr, .ref rl, .ref yl, .ref mi, .ref fl, .ref bf, .int rk, .int sp, .int kn])), (rl, .inr (1, [.ref rc, .int ct, .int mo]))] sz (fun o9 _ w9 => o9 = .returned (some (.int (-1 : Int32))) ∧ w9 = [(d0, .inr (0, [.int dm, .ref gv, .ref dr, .ref rl, .ref yl, .ref mi, .ref fl, .ref bf, .int rk, .int sp, .int kn])), (rl, .inr (1, [.ref rc, .int ct, .int mo]))]) := by
  refine tx_ofW (cc := b_D_look) (maxL := 2) (ret := (some .int)) (by decide) rfl ?_
  intro p e s m args below meth c s₁ B hml hT hv
  obtain ⟨rfl, hsz, hP, hD0, hx0⟩ := hv
  have hx := B.exec
  have hb := B.bytes
  have hr := B.returns
  have G := E.2.1
  have hown : s.vm.findClass cn_D = some m.cls := findClass_of_methodNamed B.named
  have hlocks := B.notSynchronized
  have hK := va_K.moved hx0.1.alike E.2.2.1
  subst hsz
  have hA0 := cx_new hD0 hx0.2.1
  have hD := hD0.self (sz := s.heap.size)
  generalize hAe : va_A [(d0, .inr (0, [.int dm, .ref gv, .ref dr, .ref rl, .ref yl, .ref mi, .ref fl, .ref bf, .int rk, .int sp, .int kn])), (rl, .inr (1, [.ref rc, .int ct, .int mo]))] s.heap.size = A at hD hA0 ⊢
  have hA : ∀ q : Nat, s.heap.size ≤ q → A q := fun q h => by rw [← hAe]; exact Or.inr h
  have hS : va_S A s.heap s.heap [] := va_S.rf
  have hl := lv_entry ([.ref d0, .int w]) (n := 2) (Nat.le_of_ble_eq_true rfl)
  rw [lg_entry_eq]
  generalize (lg_sl ([.ref d0, .int w]) ++ List.replicate (2 - (lg_sl ([.ref d0, .int w])).length) Slot.unset).toArray = ls at hl ⊢
  have hl : lv_has ls 2 [(0, .ref d0), (1, .int w)] := hl
  have hP : va_P D kl [(d0, .inr (0, [.int dm, .ref gv, .ref dr, .ref rl, .ref yl, .ref mi, .ref fl, .ref bf, .int rk, .int sp, .int kn])), (rl, .inr (1, [.ref rc, .int ct, .int mo]))] s.heap := hP
  have hml : c.maxLocals = 2 := hml
  refine lv_iload_n hx hb d_D_look_0 rfl (lv_at hl 1 rfl) ?_
  refine lv_tableOut (tgt := 60) hx hb d_D_look_1 h (by decide) ?_
  refine lv_iconst (v := (-1 : Int32)) hx hb d_D_look_60 (by decide) ?_
  exact tx_mono (fun _ h => tx_Z.of h) (W.iret (v := (-1 : Int32)) hx hb hr (fun t ht hW => ⟨⟨[(d0, .inr (0, [.int dm, .ref gv, .ref dr, .ref rl, .ref yl, .ref mi, .ref fl, .ref bf, .int rk, .int sp, .int kn])), (rl, .inr (1, [.ref rc, .int ct, .int mo]))], ⟨rfl, rfl⟩, by rw [ht]; exact hP.sub [0, 1] rfl, hD.sub [0, 1] (by decide) rfl⟩, hS.F ht⟩) hS.2.2 d_D_look_61)

set_option maxHeartbeats 4000000 in
set_option maxRecDepth 100000 in
theorem c_D_drop_t {l : Launch} {s0 : State} {b0 : Addr} {D : va_G} {cI cJ cZ : ClassId} {tC tS : Nat} (E : gE l s0 b0 D cI cJ cZ tC tS) (sz : Nat) (d0 : Nat) (gv : Nat) (dr : Nat) (rl : Nat) (yl : Nat) (mi : Nat) (fl : Nat) (bf : Nat) (dm : Int32) (rk : Int32) (sp : Int32) (kn : Int32) (rc : Nat) (ct : Int32) (mo : Int32) (w : Int32) (h : ¬ (¬ w < 0 ∧ w < ct)) : cx_M l s0 D kl y_D_drop b_D_drop 2 none ({ frames := 7, cells := 1, slots := 6, locals := 103 } : Room) 1 6 [.ref d0, .int w] [(d0, .inr (0, [.int dm, .ref gv, .ref dr, .ref rl, .ref yl, .ref mi, .ref fl, .ref bf, .int rk, .int sp, .int kn])), (rl, .inr (1, [.ref rc, .int ct, .int mo]))] sz (fun o9 t9 w9 => ∃ (x9 : Nat), o9 = .threw x9 ∧ tx_X ex_x x9 t9 ∧ w9 = [(d0, .inr (0, [.int dm, .ref gv, .ref dr, .ref rl, .ref yl, .ref mi, .ref fl, .ref bf, .int rk, .int sp, .int kn])), (rl, .inr (1, [.ref rc, .int ct, .int mo]))]) := by
  refine tx_ofW (cc := b_D_drop) (maxL := 2) (ret := none) (by decide) rfl ?_
  intro p e s m args below meth c s₁ B hml hT hv
  obtain ⟨rfl, hsz, hP, hD0, hx0⟩ := hv
  have hx := B.exec
  have hb := B.bytes
  have hr := B.returns
  have G := E.2.1
  have hown : s.vm.findClass cn_D = some m.cls := findClass_of_methodNamed B.named
  have hlocks := B.notSynchronized
  have hK := va_K.moved hx0.1.alike E.2.2.1
  subst hsz
  have hA0 := cx_new hD0 hx0.2.1
  have hD := hD0.self (sz := s.heap.size)
  generalize hAe : va_A [(d0, .inr (0, [.int dm, .ref gv, .ref dr, .ref rl, .ref yl, .ref mi, .ref fl, .ref bf, .int rk, .int sp, .int kn])), (rl, .inr (1, [.ref rc, .int ct, .int mo]))] s.heap.size = A at hD hA0 ⊢
  have hA : ∀ q : Nat, s.heap.size ≤ q → A q := fun q h => by rw [← hAe]; exact Or.inr h
  have hS : va_S A s.heap s.heap [] := va_S.rf
  have hl := lv_entry ([.ref d0, .int w]) (n := 2) (Nat.le_of_ble_eq_true rfl)
  rw [lg_entry_eq]
  generalize (lg_sl ([.ref d0, .int w]) ++ List.replicate (2 - (lg_sl ([.ref d0, .int w])).length) Slot.unset).toArray = ls at hl ⊢
  have hl : lv_has ls 2 [(0, .ref d0), (1, .int w)] := hl
  have hP : va_P D kl [(d0, .inr (0, [.int dm, .ref gv, .ref dr, .ref rl, .ref yl, .ref mi, .ref fl, .ref bf, .int rk, .int sp, .int kn])), (rl, .inr (1, [.ref rc, .int ct, .int mo]))] s.heap := hP
  have hml : c.maxLocals = 2 := hml
  refine lv_aload_n hx hb d_D_drop_0 rfl (lv_at hl 0 rfl) ?_
  refine lv_iload_n hx hb d_D_drop_1 rfl (lv_at hl 1 rfl) ?_
  refine cx_call (D := D) (cl := kl) (ws := _) (wc := [(d0, .inr (0, [.int dm, .ref gv, .ref dr, .ref rl, .ref yl, .ref mi, .ref fl, .ref bf, .int rk, .int sp, .int kn])), (rl, .inr (1, [.ref rc, .int ct, .int mo]))]) (wr := []) (tx_runV (C := cn_D) (b := d0) (As := [.int w]) (rest := []) hx hb hml hown (c_D_needRow_t E s.heap.size d0 gv dr rl yl mi fl bf dm rk sp kn rc ct mo w h) (cx_C (b0 := b0) G hx0 mw_390 mw_1 ny_D_needRow (by decide)) (gw.at G hx0 mw_387 rfl _) (gw.at G hx0 mw_389 rfl _) (gw.at G hx0 ms_D_needRow rfl _) ⟨cx_blind, va_recv hK hP (q0 := 0) (ci := 0) (q := (cn_D, ft_D, 11)) rfl rfl, (cx_pre (s := s) hx0 hP hD hS hA0 [0, 1] rfl rfl (by decide))⟩ rfl rfl hl.1 rfl (lv_room (Nat.le_of_ble_eq_true rfl)) d_D_drop_2 ⟨by decide, by decide⟩) hP hD hS hA [0, 1] [] rfl rfl (by decide) (by decide) (fun v t w1 H locs ht hW9 hp hP hD hS => by obtain ⟨x9, h9, -⟩ := hp; cases h9) (fun x t w1 H locs ht hW9 hp hP hD hS => ?_)
  obtain ⟨x9, h9, hX, rfl⟩ := hp
  cases h9
  have hP : va_P D kl [(d0, .inr (0, [.int dm, .ref gv, .ref dr, .ref rl, .ref yl, .ref mi, .ref fl, .ref bf, .int rk, .int sp, .int kn])), (rl, .inr (1, [.ref rc, .int ct, .int mo]))] H := hP
  have hD : va_D A [(d0, .inr (0, [.int dm, .ref gv, .ref dr, .ref rl, .ref yl, .ref mi, .ref fl, .ref bf, .int rk, .int sp, .int kn])), (rl, .inr (1, [.ref rc, .int ct, .int mo]))] := hD
  exact cx_pass (ws := [(d0, .inr (0, [.int dm, .ref gv, .ref dr, .ref rl, .ref yl, .ref mi, .ref fl, .ref bf, .int rk, .int sp, .int kn])), (rl, .inr (1, [.ref rc, .int ct, .int mo]))]) hlocks hT ht hW9 hX (hP.sub [0, 1] rfl) (hD.sub [0, 1] (by decide) rfl) hS (fun x t hX => ⟨x, rfl, hX, rfl⟩)

set_option maxHeartbeats 4000000 in
set_option maxRecDepth 100000 in
theorem c_D_row_t {l : Launch} {s0 : State} {b0 : Addr} {D : va_G} {cI cJ cZ : ClassId} {tC tS : Nat} (E : gE l s0 b0 D cI cJ cZ tC tS) (sz : Nat) (d0 : Nat) (gv : Nat) (dr : Nat) (rl : Nat) (yl : Nat) (mi : Nat) (fl : Nat) (bf : Nat) (dm : Int32) (rk : Int32) (sp : Int32) (kn : Int32) (rc : Nat) (ct : Int32) (mo : Int32) (w : Int32) (w2 : Int32) (h : ¬ (¬ w < 0 ∧ w < ct)) : cx_M l s0 D kl y_D_row b_D_row 3 (some .int) ({ frames := 7, cells := 1, slots := 6, locals := 103 } : Room) 1 6 [.ref d0, .int w, .int w2] [(d0, .inr (0, [.int dm, .ref gv, .ref dr, .ref rl, .ref yl, .ref mi, .ref fl, .ref bf, .int rk, .int sp, .int kn])), (rl, .inr (1, [.ref rc, .int ct, .int mo]))] sz (fun o9 t9 w9 => ∃ (x9 : Nat), o9 = .threw x9 ∧ tx_X ex_x x9 t9 ∧ w9 = [(d0, .inr (0, [.int dm, .ref gv, .ref dr, .ref rl, .ref yl, .ref mi, .ref fl, .ref bf, .int rk, .int sp, .int kn])), (rl, .inr (1, [.ref rc, .int ct, .int mo]))]) := by
  refine tx_ofW (cc := b_D_row) (maxL := 3) (ret := (some .int)) (by decide) rfl ?_
  intro p e s m args below meth c s₁ B hml hT hv
  obtain ⟨rfl, hsz, hP, hD0, hx0⟩ := hv
  have hx := B.exec
  have hb := B.bytes
  have hr := B.returns
  have G := E.2.1
  have hown : s.vm.findClass cn_D = some m.cls := findClass_of_methodNamed B.named
  have hlocks := B.notSynchronized
  have hK := va_K.moved hx0.1.alike E.2.2.1
  subst hsz
  have hA0 := cx_new hD0 hx0.2.1
  have hD := hD0.self (sz := s.heap.size)
  generalize hAe : va_A [(d0, .inr (0, [.int dm, .ref gv, .ref dr, .ref rl, .ref yl, .ref mi, .ref fl, .ref bf, .int rk, .int sp, .int kn])), (rl, .inr (1, [.ref rc, .int ct, .int mo]))] s.heap.size = A at hD hA0 ⊢
  have hA : ∀ q : Nat, s.heap.size ≤ q → A q := fun q h => by rw [← hAe]; exact Or.inr h
  have hS : va_S A s.heap s.heap [] := va_S.rf
  have hl := lv_entry ([.ref d0, .int w, .int w2]) (n := 3) (Nat.le_of_ble_eq_true rfl)
  rw [lg_entry_eq]
  generalize (lg_sl ([.ref d0, .int w, .int w2]) ++ List.replicate (3 - (lg_sl ([.ref d0, .int w, .int w2])).length) Slot.unset).toArray = ls at hl ⊢
  have hl : lv_has ls 3 [(0, .ref d0), (1, .int w), (2, .int w2)] := hl
  have hP : va_P D kl [(d0, .inr (0, [.int dm, .ref gv, .ref dr, .ref rl, .ref yl, .ref mi, .ref fl, .ref bf, .int rk, .int sp, .int kn])), (rl, .inr (1, [.ref rc, .int ct, .int mo]))] s.heap := hP
  have hml : c.maxLocals = 3 := hml
  refine lv_aload_n hx hb d_D_row_0 rfl (lv_at hl 0 rfl) ?_
  refine lv_iload_n hx hb d_D_row_1 rfl (lv_at hl 1 rfl) ?_
  refine cx_call (D := D) (cl := kl) (ws := _) (wc := [(d0, .inr (0, [.int dm, .ref gv, .ref dr, .ref rl, .ref yl, .ref mi, .ref fl, .ref bf, .int rk, .int sp, .int kn])), (rl, .inr (1, [.ref rc, .int ct, .int mo]))]) (wr := []) (tx_runV (C := cn_D) (b := d0) (As := [.int w]) (rest := []) hx hb hml hown (c_D_needRow_t E s.heap.size d0 gv dr rl yl mi fl bf dm rk sp kn rc ct mo w h) (cx_C (b0 := b0) G hx0 mw_390 mw_1 ny_D_needRow (by decide)) (gw.at G hx0 mw_387 rfl _) (gw.at G hx0 mw_389 rfl _) (gw.at G hx0 ms_D_needRow rfl _) ⟨cx_blind, va_recv hK hP (q0 := 0) (ci := 0) (q := (cn_D, ft_D, 11)) rfl rfl, (cx_pre (s := s) hx0 hP hD hS hA0 [0, 1] rfl rfl (by decide))⟩ rfl rfl hl.1 rfl (lv_room (Nat.le_of_ble_eq_true rfl)) d_D_row_2 ⟨by decide, by decide⟩) hP hD hS hA [0, 1] [] rfl rfl (by decide) (by decide) (fun v t w1 H locs ht hW9 hp hP hD hS => by obtain ⟨x9, h9, -⟩ := hp; cases h9) (fun x t w1 H locs ht hW9 hp hP hD hS => ?_)
  obtain ⟨x9, h9, hX, rfl⟩ := hp
  cases h9
  have hP : va_P D kl [(d0, .inr (0, [.int dm, .ref gv, .ref dr, .ref rl, .ref yl, .ref mi, .ref fl, .ref bf, .int rk, .int sp, .int kn])), (rl, .inr (1, [.ref rc, .int ct, .int mo]))] H := hP
  have hD : va_D A [(d0, .inr (0, [.int dm, .ref gv, .ref dr, .ref rl, .ref yl, .ref mi, .ref fl, .ref bf, .int rk, .int sp, .int kn])), (rl, .inr (1, [.ref rc, .int ct, .int mo]))] := hD
  exact cx_pass (ws := [(d0, .inr (0, [.int dm, .ref gv, .ref dr, .ref rl, .ref yl, .ref mi, .ref fl, .ref bf, .int rk, .int sp, .int kn])), (rl, .inr (1, [.ref rc, .int ct, .int mo]))]) hlocks hT ht hW9 hX (hP.sub [0, 1] rfl) (hD.sub [0, 1] (by decide) rfl) hS (fun x t hX => ⟨x, rfl, hX, rfl⟩)

set_option maxHeartbeats 4000000 in
set_option maxRecDepth 100000 in
theorem c_D_rays_t {l : Launch} {s0 : State} {b0 : Addr} {D : va_G} {cI cJ cZ : ClassId} {tC tS : Nat} (E : gE l s0 b0 D cI cJ cZ tC tS) (sz : Nat) (d0 : Nat) (gv : Nat) (dr : Nat) (rl : Nat) (yl : Nat) (mi : Nat) (fl : Nat) (bf : Nat) (dm : Int32) (rk : Int32) (sp : Int32) (kn : Int32) (h : rk < dm) : cx_M l s0 D kl y_D_rays b_D_rays 1 (some .int) ({ frames := 7, cells := 1, slots := 6, locals := 103 } : Room) 1 6 [.ref d0] [(d0, .inr (0, [.int dm, .ref gv, .ref dr, .ref rl, .ref yl, .ref mi, .ref fl, .ref bf, .int rk, .int sp, .int kn]))] sz (fun o9 t9 w9 => ∃ (x9 : Nat), o9 = .threw x9 ∧ tx_X ex_s x9 t9 ∧ w9 = [(d0, .inr (0, [.int dm, .ref gv, .ref dr, .ref rl, .ref yl, .ref mi, .ref fl, .ref bf, .int rk, .int sp, .int kn]))]) := by
  refine tx_ofW (cc := b_D_rays) (maxL := 1) (ret := (some .int)) (by decide) rfl ?_
  intro p e s m args below meth c s₁ B hml hT hv
  obtain ⟨rfl, hsz, hP, hD0, hx0⟩ := hv
  have hx := B.exec
  have hb := B.bytes
  have hr := B.returns
  have G := E.2.1
  have hown : s.vm.findClass cn_D = some m.cls := findClass_of_methodNamed B.named
  have hlocks := B.notSynchronized
  have hK := va_K.moved hx0.1.alike E.2.2.1
  subst hsz
  have hA0 := cx_new hD0 hx0.2.1
  have hD := hD0.self (sz := s.heap.size)
  generalize hAe : va_A [(d0, .inr (0, [.int dm, .ref gv, .ref dr, .ref rl, .ref yl, .ref mi, .ref fl, .ref bf, .int rk, .int sp, .int kn]))] s.heap.size = A at hD hA0 ⊢
  have hA : ∀ q : Nat, s.heap.size ≤ q → A q := fun q h => by rw [← hAe]; exact Or.inr h
  have hS : va_S A s.heap s.heap [] := va_S.rf
  have hl := lv_entry ([.ref d0]) (n := 1) (Nat.le_of_ble_eq_true rfl)
  rw [lg_entry_eq]
  generalize (lg_sl ([.ref d0]) ++ List.replicate (1 - (lg_sl ([.ref d0])).length) Slot.unset).toArray = ls at hl ⊢
  have hl : lv_has ls 1 [(0, .ref d0)] := hl
  have hP : va_P D kl [(d0, .inr (0, [.int dm, .ref gv, .ref dr, .ref rl, .ref yl, .ref mi, .ref fl, .ref bf, .int rk, .int sp, .int kn]))] s.heap := hP
  have hml : c.maxLocals = 1 := hml
  refine lv_aload_n hx hb d_D_rays_0 rfl (lv_at hl 0 rfl) ?_
  refine lv_iconst (v := (1 : Int32)) hx hb d_D_rays_1 (by decide) ?_
  refine cx_call (D := D) (cl := kl) (ws := _) (wc := [(d0, .inr (0, [.int dm, .ref gv, .ref dr, .ref rl, .ref yl, .ref mi, .ref fl, .ref bf, .int rk, .int sp, .int kn]))]) (wr := []) (tx_runV (C := cn_D) (b := d0) (As := [.int (1 : Int32)]) (rest := []) hx hb hml hown (c_D_know_t E s.heap.size d0 gv dr rl yl mi fl bf dm rk sp kn (1 : Int32) h) (cx_C (b0 := b0) G hx0 mw_438 mw_1 ny_D_know (by decide)) (gw.at G hx0 mw_435 rfl _) (gw.at G hx0 mw_437 rfl _) (gw.at G hx0 ms_D_know rfl _) ⟨cx_blind, va_recv hK hP (q0 := 0) (ci := 0) (q := (cn_D, ft_D, 11)) rfl rfl, (cx_pre (s := s) hx0 hP hD hS hA0 [0] rfl rfl (by decide))⟩ rfl rfl hl.1 rfl (lv_room (Nat.le_of_ble_eq_true rfl)) d_D_rays_2 ⟨by decide, by decide⟩) hP hD hS hA [0] [] rfl rfl (by decide) (by decide) (fun v t w1 H locs ht hW9 hp hP hD hS => by obtain ⟨x9, h9, -⟩ := hp; cases h9) (fun x t w1 H locs ht hW9 hp hP hD hS => ?_)
  obtain ⟨x9, h9, hX, rfl⟩ := hp
  cases h9
  have hP : va_P D kl [(d0, .inr (0, [.int dm, .ref gv, .ref dr, .ref rl, .ref yl, .ref mi, .ref fl, .ref bf, .int rk, .int sp, .int kn]))] H := hP
  have hD : va_D A [(d0, .inr (0, [.int dm, .ref gv, .ref dr, .ref rl, .ref yl, .ref mi, .ref fl, .ref bf, .int rk, .int sp, .int kn]))] := hD
  exact cx_pass (ws := [(d0, .inr (0, [.int dm, .ref gv, .ref dr, .ref rl, .ref yl, .ref mi, .ref fl, .ref bf, .int rk, .int sp, .int kn]))]) hlocks hT ht hW9 hX (hP.sub [0] rfl) (hD.sub [0] (by decide) rfl) hS (fun x t hX => ⟨x, rfl, hX, rfl⟩)

set_option maxHeartbeats 4000000 in
set_option maxRecDepth 100000 in
theorem c_D_ray_t {l : Launch} {s0 : State} {b0 : Addr} {D : va_G} {cI cJ cZ : ClassId} {tC tS : Nat} (E : gE l s0 b0 D cI cJ cZ tC tS) (sz : Nat) (d0 : Nat) (gv : Nat) (dr : Nat) (rl : Nat) (yl : Nat) (mi : Nat) (fl : Nat) (bf : Nat) (dm : Int32) (rk : Int32) (sp : Int32) (kn : Int32) (w0 : Int32) (w1 : Int32) (h : rk < dm) : cx_M l s0 D kl y_D_ray b_D_ray 3 (some .int) ({ frames := 7, cells := 1, slots := 6, locals := 103 } : Room) 1 6 [.ref d0, .int w0, .int w1] [(d0, .inr (0, [.int dm, .ref gv, .ref dr, .ref rl, .ref yl, .ref mi, .ref fl, .ref bf, .int rk, .int sp, .int kn]))] sz (fun o9 t9 w9 => ∃ (x9 : Nat), o9 = .threw x9 ∧ tx_X ex_s x9 t9 ∧ w9 = [(d0, .inr (0, [.int dm, .ref gv, .ref dr, .ref rl, .ref yl, .ref mi, .ref fl, .ref bf, .int rk, .int sp, .int kn]))]) := by
  refine tx_ofW (cc := b_D_ray) (maxL := 3) (ret := (some .int)) (by decide) rfl ?_
  intro p e s m args below meth c s₁ B hml hT hv
  obtain ⟨rfl, hsz, hP, hD0, hx0⟩ := hv
  have hx := B.exec
  have hb := B.bytes
  have hr := B.returns
  have G := E.2.1
  have hown : s.vm.findClass cn_D = some m.cls := findClass_of_methodNamed B.named
  have hlocks := B.notSynchronized
  have hK := va_K.moved hx0.1.alike E.2.2.1
  subst hsz
  have hA0 := cx_new hD0 hx0.2.1
  have hD := hD0.self (sz := s.heap.size)
  generalize hAe : va_A [(d0, .inr (0, [.int dm, .ref gv, .ref dr, .ref rl, .ref yl, .ref mi, .ref fl, .ref bf, .int rk, .int sp, .int kn]))] s.heap.size = A at hD hA0 ⊢
  have hA : ∀ q : Nat, s.heap.size ≤ q → A q := fun q h => by rw [← hAe]; exact Or.inr h
  have hS : va_S A s.heap s.heap [] := va_S.rf
  have hl := lv_entry ([.ref d0, .int w0, .int w1]) (n := 3) (Nat.le_of_ble_eq_true rfl)
  rw [lg_entry_eq]
  generalize (lg_sl ([.ref d0, .int w0, .int w1]) ++ List.replicate (3 - (lg_sl ([.ref d0, .int w0, .int w1])).length) Slot.unset).toArray = ls at hl ⊢
  have hl : lv_has ls 3 [(0, .ref d0), (1, .int w0), (2, .int w1)] := hl
  have hP : va_P D kl [(d0, .inr (0, [.int dm, .ref gv, .ref dr, .ref rl, .ref yl, .ref mi, .ref fl, .ref bf, .int rk, .int sp, .int kn]))] s.heap := hP
  have hml : c.maxLocals = 3 := hml
  refine lv_aload_n hx hb d_D_ray_0 rfl (lv_at hl 0 rfl) ?_
  refine lv_iconst (v := (1 : Int32)) hx hb d_D_ray_1 (by decide) ?_
  refine cx_call (D := D) (cl := kl) (ws := _) (wc := [(d0, .inr (0, [.int dm, .ref gv, .ref dr, .ref rl, .ref yl, .ref mi, .ref fl, .ref bf, .int rk, .int sp, .int kn]))]) (wr := []) (tx_runV (C := cn_D) (b := d0) (As := [.int (1 : Int32)]) (rest := []) hx hb hml hown (c_D_know_t E s.heap.size d0 gv dr rl yl mi fl bf dm rk sp kn (1 : Int32) h) (cx_C (b0 := b0) G hx0 mw_438 mw_1 ny_D_know (by decide)) (gw.at G hx0 mw_435 rfl _) (gw.at G hx0 mw_437 rfl _) (gw.at G hx0 ms_D_know rfl _) ⟨cx_blind, va_recv hK hP (q0 := 0) (ci := 0) (q := (cn_D, ft_D, 11)) rfl rfl, (cx_pre (s := s) hx0 hP hD hS hA0 [0] rfl rfl (by decide))⟩ rfl rfl hl.1 rfl (lv_room (Nat.le_of_ble_eq_true rfl)) d_D_ray_2 ⟨by decide, by decide⟩) hP hD hS hA [0] [] rfl rfl (by decide) (by decide) (fun v t w1 H locs ht hW9 hp hP hD hS => by obtain ⟨x9, h9, -⟩ := hp; cases h9) (fun x t w1 H locs ht hW9 hp hP hD hS => ?_)
  obtain ⟨x9, h9, hX, rfl⟩ := hp
  cases h9
  have hP : va_P D kl [(d0, .inr (0, [.int dm, .ref gv, .ref dr, .ref rl, .ref yl, .ref mi, .ref fl, .ref bf, .int rk, .int sp, .int kn]))] H := hP
  have hD : va_D A [(d0, .inr (0, [.int dm, .ref gv, .ref dr, .ref rl, .ref yl, .ref mi, .ref fl, .ref bf, .int rk, .int sp, .int kn]))] := hD
  exact cx_pass (ws := [(d0, .inr (0, [.int dm, .ref gv, .ref dr, .ref rl, .ref yl, .ref mi, .ref fl, .ref bf, .int rk, .int sp, .int kn]))]) hlocks hT ht hW9 hX (hP.sub [0] rfl) (hD.sub [0] (by decide) rfl) hS (fun x t hX => ⟨x, rfl, hX, rfl⟩)

set_option maxHeartbeats 4000000 in
set_option maxRecDepth 100000 in
theorem c_D_size_t {l : Launch} {s0 : State} {b0 : Addr} {D : va_G} {cI cJ cZ : ClassId} {tC tS : Nat} (E : gE l s0 b0 D cI cJ cZ tC tS) (sz : Nat) (d0 : Nat) (gv : Nat) (dr : Nat) (rl : Nat) (yl : Nat) (mi : Nat) (fl : Nat) (bf : Nat) (dm : Int32) (rk : Int32) (sp : Int32) (kn : Int32) (h : rk < dm) : cx_M l s0 D kl y_D_size b_D_size 1 (some .int) ({ frames := 7, cells := 1, slots := 6, locals := 103 } : Room) 1 6 [.ref d0] [(d0, .inr (0, [.int dm, .ref gv, .ref dr, .ref rl, .ref yl, .ref mi, .ref fl, .ref bf, .int rk, .int sp, .int kn]))] sz (fun o9 t9 w9 => ∃ (x9 : Nat), o9 = .threw x9 ∧ tx_X ex_s x9 t9 ∧ w9 = [(d0, .inr (0, [.int dm, .ref gv, .ref dr, .ref rl, .ref yl, .ref mi, .ref fl, .ref bf, .int rk, .int sp, .int kn]))]) := by
  refine tx_ofW (cc := b_D_size) (maxL := 1) (ret := (some .int)) (by decide) rfl ?_
  intro p e s m args below meth c s₁ B hml hT hv
  obtain ⟨rfl, hsz, hP, hD0, hx0⟩ := hv
  have hx := B.exec
  have hb := B.bytes
  have hr := B.returns
  have G := E.2.1
  have hown : s.vm.findClass cn_D = some m.cls := findClass_of_methodNamed B.named
  have hlocks := B.notSynchronized
  have hK := va_K.moved hx0.1.alike E.2.2.1
  subst hsz
  have hA0 := cx_new hD0 hx0.2.1
  have hD := hD0.self (sz := s.heap.size)
  generalize hAe : va_A [(d0, .inr (0, [.int dm, .ref gv, .ref dr, .ref rl, .ref yl, .ref mi, .ref fl, .ref bf, .int rk, .int sp, .int kn]))] s.heap.size = A at hD hA0 ⊢
  have hA : ∀ q : Nat, s.heap.size ≤ q → A q := fun q h => by rw [← hAe]; exact Or.inr h
  have hS : va_S A s.heap s.heap [] := va_S.rf
  have hl := lv_entry ([.ref d0]) (n := 1) (Nat.le_of_ble_eq_true rfl)
  rw [lg_entry_eq]
  generalize (lg_sl ([.ref d0]) ++ List.replicate (1 - (lg_sl ([.ref d0])).length) Slot.unset).toArray = ls at hl ⊢
  have hl : lv_has ls 1 [(0, .ref d0)] := hl
  have hP : va_P D kl [(d0, .inr (0, [.int dm, .ref gv, .ref dr, .ref rl, .ref yl, .ref mi, .ref fl, .ref bf, .int rk, .int sp, .int kn]))] s.heap := hP
  have hml : c.maxLocals = 1 := hml
  refine lv_aload_n hx hb d_D_size_0 rfl (lv_at hl 0 rfl) ?_
  refine lv_iconst (v := (1 : Int32)) hx hb d_D_size_1 (by decide) ?_
  refine cx_call (D := D) (cl := kl) (ws := _) (wc := [(d0, .inr (0, [.int dm, .ref gv, .ref dr, .ref rl, .ref yl, .ref mi, .ref fl, .ref bf, .int rk, .int sp, .int kn]))]) (wr := []) (tx_runV (C := cn_D) (b := d0) (As := [.int (1 : Int32)]) (rest := []) hx hb hml hown (c_D_know_t E s.heap.size d0 gv dr rl yl mi fl bf dm rk sp kn (1 : Int32) h) (cx_C (b0 := b0) G hx0 mw_438 mw_1 ny_D_know (by decide)) (gw.at G hx0 mw_435 rfl _) (gw.at G hx0 mw_437 rfl _) (gw.at G hx0 ms_D_know rfl _) ⟨cx_blind, va_recv hK hP (q0 := 0) (ci := 0) (q := (cn_D, ft_D, 11)) rfl rfl, (cx_pre (s := s) hx0 hP hD hS hA0 [0] rfl rfl (by decide))⟩ rfl rfl hl.1 rfl (lv_room (Nat.le_of_ble_eq_true rfl)) d_D_size_2 ⟨by decide, by decide⟩) hP hD hS hA [0] [] rfl rfl (by decide) (by decide) (fun v t w1 H locs ht hW9 hp hP hD hS => by obtain ⟨x9, h9, -⟩ := hp; cases h9) (fun x t w1 H locs ht hW9 hp hP hD hS => ?_)
  obtain ⟨x9, h9, hX, rfl⟩ := hp
  cases h9
  have hP : va_P D kl [(d0, .inr (0, [.int dm, .ref gv, .ref dr, .ref rl, .ref yl, .ref mi, .ref fl, .ref bf, .int rk, .int sp, .int kn]))] H := hP
  have hD : va_D A [(d0, .inr (0, [.int dm, .ref gv, .ref dr, .ref rl, .ref yl, .ref mi, .ref fl, .ref bf, .int rk, .int sp, .int kn]))] := hD
  exact cx_pass (ws := [(d0, .inr (0, [.int dm, .ref gv, .ref dr, .ref rl, .ref yl, .ref mi, .ref fl, .ref bf, .int rk, .int sp, .int kn]))]) hlocks hT ht hW9 hX (hP.sub [0] rfl) (hD.sub [0] (by decide) rfl) hS (fun x t hX => ⟨x, rfl, hX, rfl⟩)

set_option maxHeartbeats 4000000 in
set_option maxRecDepth 100000 in
theorem c_D_bounds_t {l : Launch} {s0 : State} {b0 : Addr} {D : va_G} {cI cJ cZ : ClassId} {tC tS : Nat} (E : gE l s0 b0 D cI cJ cZ tC tS) (sz : Nat) (d0 : Nat) (gv : Nat) (dr : Nat) (rl : Nat) (yl : Nat) (mi : Nat) (fl : Nat) (bf : Nat) (dm : Int32) (rk : Int32) (sp : Int32) (kn : Int32) (w0 : Int32) (h : rk < dm) : cx_M l s0 D kl y_D_bounds b_D_bounds 2 (some .boolean) ({ frames := 7, cells := 1, slots := 6, locals := 103 } : Room) 1 6 [.ref d0, .int w0] [(d0, .inr (0, [.int dm, .ref gv, .ref dr, .ref rl, .ref yl, .ref mi, .ref fl, .ref bf, .int rk, .int sp, .int kn]))] sz (fun o9 t9 w9 => ∃ (x9 : Nat), o9 = .threw x9 ∧ tx_X ex_s x9 t9 ∧ w9 = [(d0, .inr (0, [.int dm, .ref gv, .ref dr, .ref rl, .ref yl, .ref mi, .ref fl, .ref bf, .int rk, .int sp, .int kn]))]) := by
  refine tx_ofW (cc := b_D_bounds) (maxL := 2) (ret := (some .boolean)) (by decide) rfl ?_
  intro p e s m args below meth c s₁ B hml hT hv
  obtain ⟨rfl, hsz, hP, hD0, hx0⟩ := hv
  have hx := B.exec
  have hb := B.bytes
  have hr := B.returns
  have G := E.2.1
  have hown : s.vm.findClass cn_D = some m.cls := findClass_of_methodNamed B.named
  have hlocks := B.notSynchronized
  have hK := va_K.moved hx0.1.alike E.2.2.1
  subst hsz
  have hA0 := cx_new hD0 hx0.2.1
  have hD := hD0.self (sz := s.heap.size)
  generalize hAe : va_A [(d0, .inr (0, [.int dm, .ref gv, .ref dr, .ref rl, .ref yl, .ref mi, .ref fl, .ref bf, .int rk, .int sp, .int kn]))] s.heap.size = A at hD hA0 ⊢
  have hA : ∀ q : Nat, s.heap.size ≤ q → A q := fun q h => by rw [← hAe]; exact Or.inr h
  have hS : va_S A s.heap s.heap [] := va_S.rf
  have hl := lv_entry ([.ref d0, .int w0]) (n := 2) (Nat.le_of_ble_eq_true rfl)
  rw [lg_entry_eq]
  generalize (lg_sl ([.ref d0, .int w0]) ++ List.replicate (2 - (lg_sl ([.ref d0, .int w0])).length) Slot.unset).toArray = ls at hl ⊢
  have hl : lv_has ls 2 [(0, .ref d0), (1, .int w0)] := hl
  have hP : va_P D kl [(d0, .inr (0, [.int dm, .ref gv, .ref dr, .ref rl, .ref yl, .ref mi, .ref fl, .ref bf, .int rk, .int sp, .int kn]))] s.heap := hP
  have hml : c.maxLocals = 2 := hml
  refine lv_aload_n hx hb d_D_bounds_0 rfl (lv_at hl 0 rfl) ?_
  refine lv_iconst (v := (2 : Int32)) hx hb d_D_bounds_1 (by decide) ?_
  refine cx_call (D := D) (cl := kl) (ws := _) (wc := [(d0, .inr (0, [.int dm, .ref gv, .ref dr, .ref rl, .ref yl, .ref mi, .ref fl, .ref bf, .int rk, .int sp, .int kn]))]) (wr := []) (tx_runV (C := cn_D) (b := d0) (As := [.int (2 : Int32)]) (rest := []) hx hb hml hown (c_D_know_t E s.heap.size d0 gv dr rl yl mi fl bf dm rk sp kn (2 : Int32) h) (cx_C (b0 := b0) G hx0 mw_438 mw_1 ny_D_know (by decide)) (gw.at G hx0 mw_435 rfl _) (gw.at G hx0 mw_437 rfl _) (gw.at G hx0 ms_D_know rfl _) ⟨cx_blind, va_recv hK hP (q0 := 0) (ci := 0) (q := (cn_D, ft_D, 11)) rfl rfl, (cx_pre (s := s) hx0 hP hD hS hA0 [0] rfl rfl (by decide))⟩ rfl rfl hl.1 rfl (lv_room (Nat.le_of_ble_eq_true rfl)) d_D_bounds_2 ⟨by decide, by decide⟩) hP hD hS hA [0] [] rfl rfl (by decide) (by decide) (fun v t w1 H locs ht hW9 hp hP hD hS => by obtain ⟨x9, h9, -⟩ := hp; cases h9) (fun x t w1 H locs ht hW9 hp hP hD hS => ?_)
  obtain ⟨x9, h9, hX, rfl⟩ := hp
  cases h9
  have hP : va_P D kl [(d0, .inr (0, [.int dm, .ref gv, .ref dr, .ref rl, .ref yl, .ref mi, .ref fl, .ref bf, .int rk, .int sp, .int kn]))] H := hP
  have hD : va_D A [(d0, .inr (0, [.int dm, .ref gv, .ref dr, .ref rl, .ref yl, .ref mi, .ref fl, .ref bf, .int rk, .int sp, .int kn]))] := hD
  exact cx_pass (ws := [(d0, .inr (0, [.int dm, .ref gv, .ref dr, .ref rl, .ref yl, .ref mi, .ref fl, .ref bf, .int rk, .int sp, .int kn]))]) hlocks hT ht hW9 hX (hP.sub [0] rfl) (hD.sub [0] (by decide) rfl) hS (fun x t hX => ⟨x, rfl, hX, rfl⟩)

set_option maxHeartbeats 4000000 in
set_option maxRecDepth 100000 in
theorem c_D_faces_t {l : Launch} {s0 : State} {b0 : Addr} {D : va_G} {cI cJ cZ : ClassId} {tC tS : Nat} (E : gE l s0 b0 D cI cJ cZ tC tS) (sz : Nat) (d0 : Nat) (gv : Nat) (dr : Nat) (rl : Nat) (yl : Nat) (mi : Nat) (fl : Nat) (bf : Nat) (dm : Int32) (rk : Int32) (sp : Int32) (kn : Int32) (w0 : Int32) (h : rk < dm) : cx_M l s0 D kl y_D_faces b_D_faces 2 (some .int) ({ frames := 7, cells := 1, slots := 6, locals := 103 } : Room) 1 6 [.ref d0, .int w0] [(d0, .inr (0, [.int dm, .ref gv, .ref dr, .ref rl, .ref yl, .ref mi, .ref fl, .ref bf, .int rk, .int sp, .int kn]))] sz (fun o9 t9 w9 => ∃ (x9 : Nat), o9 = .threw x9 ∧ tx_X ex_s x9 t9 ∧ w9 = [(d0, .inr (0, [.int dm, .ref gv, .ref dr, .ref rl, .ref yl, .ref mi, .ref fl, .ref bf, .int rk, .int sp, .int kn]))]) := by
  refine tx_ofW (cc := b_D_faces) (maxL := 2) (ret := (some .int)) (by decide) rfl ?_
  intro p e s m args below meth c s₁ B hml hT hv
  obtain ⟨rfl, hsz, hP, hD0, hx0⟩ := hv
  have hx := B.exec
  have hb := B.bytes
  have hr := B.returns
  have G := E.2.1
  have hown : s.vm.findClass cn_D = some m.cls := findClass_of_methodNamed B.named
  have hlocks := B.notSynchronized
  have hK := va_K.moved hx0.1.alike E.2.2.1
  subst hsz
  have hA0 := cx_new hD0 hx0.2.1
  have hD := hD0.self (sz := s.heap.size)
  generalize hAe : va_A [(d0, .inr (0, [.int dm, .ref gv, .ref dr, .ref rl, .ref yl, .ref mi, .ref fl, .ref bf, .int rk, .int sp, .int kn]))] s.heap.size = A at hD hA0 ⊢
  have hA : ∀ q : Nat, s.heap.size ≤ q → A q := fun q h => by rw [← hAe]; exact Or.inr h
  have hS : va_S A s.heap s.heap [] := va_S.rf
  have hl := lv_entry ([.ref d0, .int w0]) (n := 2) (Nat.le_of_ble_eq_true rfl)
  rw [lg_entry_eq]
  generalize (lg_sl ([.ref d0, .int w0]) ++ List.replicate (2 - (lg_sl ([.ref d0, .int w0])).length) Slot.unset).toArray = ls at hl ⊢
  have hl : lv_has ls 2 [(0, .ref d0), (1, .int w0)] := hl
  have hP : va_P D kl [(d0, .inr (0, [.int dm, .ref gv, .ref dr, .ref rl, .ref yl, .ref mi, .ref fl, .ref bf, .int rk, .int sp, .int kn]))] s.heap := hP
  have hml : c.maxLocals = 2 := hml
  refine lv_aload_n hx hb d_D_faces_0 rfl (lv_at hl 0 rfl) ?_
  refine lv_iconst (v := (2 : Int32)) hx hb d_D_faces_1 (by decide) ?_
  refine cx_call (D := D) (cl := kl) (ws := _) (wc := [(d0, .inr (0, [.int dm, .ref gv, .ref dr, .ref rl, .ref yl, .ref mi, .ref fl, .ref bf, .int rk, .int sp, .int kn]))]) (wr := []) (tx_runV (C := cn_D) (b := d0) (As := [.int (2 : Int32)]) (rest := []) hx hb hml hown (c_D_know_t E s.heap.size d0 gv dr rl yl mi fl bf dm rk sp kn (2 : Int32) h) (cx_C (b0 := b0) G hx0 mw_438 mw_1 ny_D_know (by decide)) (gw.at G hx0 mw_435 rfl _) (gw.at G hx0 mw_437 rfl _) (gw.at G hx0 ms_D_know rfl _) ⟨cx_blind, va_recv hK hP (q0 := 0) (ci := 0) (q := (cn_D, ft_D, 11)) rfl rfl, (cx_pre (s := s) hx0 hP hD hS hA0 [0] rfl rfl (by decide))⟩ rfl rfl hl.1 rfl (lv_room (Nat.le_of_ble_eq_true rfl)) d_D_faces_2 ⟨by decide, by decide⟩) hP hD hS hA [0] [] rfl rfl (by decide) (by decide) (fun v t w1 H locs ht hW9 hp hP hD hS => by obtain ⟨x9, h9, -⟩ := hp; cases h9) (fun x t w1 H locs ht hW9 hp hP hD hS => ?_)
  obtain ⟨x9, h9, hX, rfl⟩ := hp
  cases h9
  have hP : va_P D kl [(d0, .inr (0, [.int dm, .ref gv, .ref dr, .ref rl, .ref yl, .ref mi, .ref fl, .ref bf, .int rk, .int sp, .int kn]))] H := hP
  have hD : va_D A [(d0, .inr (0, [.int dm, .ref gv, .ref dr, .ref rl, .ref yl, .ref mi, .ref fl, .ref bf, .int rk, .int sp, .int kn]))] := hD
  exact cx_pass (ws := [(d0, .inr (0, [.int dm, .ref gv, .ref dr, .ref rl, .ref yl, .ref mi, .ref fl, .ref bf, .int rk, .int sp, .int kn]))]) hlocks hT ht hW9 hX (hP.sub [0] rfl) (hD.sub [0] (by decide) rfl) hS (fun x t hX => ⟨x, rfl, hX, rfl⟩)

set_option maxHeartbeats 4000000 in
set_option maxRecDepth 100000 in
theorem c_D_basis_t {l : Launch} {s0 : State} {b0 : Addr} {D : va_G} {cI cJ cZ : ClassId} {tC tS : Nat} (E : gE l s0 b0 D cI cJ cZ tC tS) (sz : Nat) (d0 : Nat) (gv : Nat) (dr : Nat) (rl : Nat) (yl : Nat) (mi : Nat) (fl : Nat) (bf : Nat) (dm : Int32) (rk : Int32) (sp : Int32) (kn : Int32) (h : rk < dm) : cx_M l s0 D kl y_D_basis b_D_basis 1 (some .int) ({ frames := 7, cells := 1, slots := 6, locals := 103 } : Room) 1 6 [.ref d0] [(d0, .inr (0, [.int dm, .ref gv, .ref dr, .ref rl, .ref yl, .ref mi, .ref fl, .ref bf, .int rk, .int sp, .int kn]))] sz (fun o9 t9 w9 => ∃ (x9 : Nat), o9 = .threw x9 ∧ tx_X ex_s x9 t9 ∧ w9 = [(d0, .inr (0, [.int dm, .ref gv, .ref dr, .ref rl, .ref yl, .ref mi, .ref fl, .ref bf, .int rk, .int sp, .int kn]))]) := by
  refine tx_ofW (cc := b_D_basis) (maxL := 1) (ret := (some .int)) (by decide) rfl ?_
  intro p e s m args below meth c s₁ B hml hT hv
  obtain ⟨rfl, hsz, hP, hD0, hx0⟩ := hv
  have hx := B.exec
  have hb := B.bytes
  have hr := B.returns
  have G := E.2.1
  have hown : s.vm.findClass cn_D = some m.cls := findClass_of_methodNamed B.named
  have hlocks := B.notSynchronized
  have hK := va_K.moved hx0.1.alike E.2.2.1
  subst hsz
  have hA0 := cx_new hD0 hx0.2.1
  have hD := hD0.self (sz := s.heap.size)
  generalize hAe : va_A [(d0, .inr (0, [.int dm, .ref gv, .ref dr, .ref rl, .ref yl, .ref mi, .ref fl, .ref bf, .int rk, .int sp, .int kn]))] s.heap.size = A at hD hA0 ⊢
  have hA : ∀ q : Nat, s.heap.size ≤ q → A q := fun q h => by rw [← hAe]; exact Or.inr h
  have hS : va_S A s.heap s.heap [] := va_S.rf
  have hl := lv_entry ([.ref d0]) (n := 1) (Nat.le_of_ble_eq_true rfl)
  rw [lg_entry_eq]
  generalize (lg_sl ([.ref d0]) ++ List.replicate (1 - (lg_sl ([.ref d0])).length) Slot.unset).toArray = ls at hl ⊢
  have hl : lv_has ls 1 [(0, .ref d0)] := hl
  have hP : va_P D kl [(d0, .inr (0, [.int dm, .ref gv, .ref dr, .ref rl, .ref yl, .ref mi, .ref fl, .ref bf, .int rk, .int sp, .int kn]))] s.heap := hP
  have hml : c.maxLocals = 1 := hml
  refine lv_aload_n hx hb d_D_basis_0 rfl (lv_at hl 0 rfl) ?_
  refine lv_iconst (v := (3 : Int32)) hx hb d_D_basis_1 (by decide) ?_
  refine cx_call (D := D) (cl := kl) (ws := _) (wc := [(d0, .inr (0, [.int dm, .ref gv, .ref dr, .ref rl, .ref yl, .ref mi, .ref fl, .ref bf, .int rk, .int sp, .int kn]))]) (wr := []) (tx_runV (C := cn_D) (b := d0) (As := [.int (3 : Int32)]) (rest := []) hx hb hml hown (c_D_know_t E s.heap.size d0 gv dr rl yl mi fl bf dm rk sp kn (3 : Int32) h) (cx_C (b0 := b0) G hx0 mw_438 mw_1 ny_D_know (by decide)) (gw.at G hx0 mw_435 rfl _) (gw.at G hx0 mw_437 rfl _) (gw.at G hx0 ms_D_know rfl _) ⟨cx_blind, va_recv hK hP (q0 := 0) (ci := 0) (q := (cn_D, ft_D, 11)) rfl rfl, (cx_pre (s := s) hx0 hP hD hS hA0 [0] rfl rfl (by decide))⟩ rfl rfl hl.1 rfl (lv_room (Nat.le_of_ble_eq_true rfl)) d_D_basis_2 ⟨by decide, by decide⟩) hP hD hS hA [0] [] rfl rfl (by decide) (by decide) (fun v t w1 H locs ht hW9 hp hP hD hS => by obtain ⟨x9, h9, -⟩ := hp; cases h9) (fun x t w1 H locs ht hW9 hp hP hD hS => ?_)
  obtain ⟨x9, h9, hX, rfl⟩ := hp
  cases h9
  have hP : va_P D kl [(d0, .inr (0, [.int dm, .ref gv, .ref dr, .ref rl, .ref yl, .ref mi, .ref fl, .ref bf, .int rk, .int sp, .int kn]))] H := hP
  have hD : va_D A [(d0, .inr (0, [.int dm, .ref gv, .ref dr, .ref rl, .ref yl, .ref mi, .ref fl, .ref bf, .int rk, .int sp, .int kn]))] := hD
  exact cx_pass (ws := [(d0, .inr (0, [.int dm, .ref gv, .ref dr, .ref rl, .ref yl, .ref mi, .ref fl, .ref bf, .int rk, .int sp, .int kn]))]) hlocks hT ht hW9 hX (hP.sub [0] rfl) (hD.sub [0] (by decide) rfl) hS (fun x t hX => ⟨x, rfl, hX, rfl⟩)

set_option maxHeartbeats 4000000 in
set_option maxRecDepth 100000 in
theorem c_D_point_t {l : Launch} {s0 : State} {b0 : Addr} {D : va_G} {cI cJ cZ : ClassId} {tC tS : Nat} (E : gE l s0 b0 D cI cJ cZ tC tS) (sz : Nat) (d0 : Nat) (gv : Nat) (dr : Nat) (rl : Nat) (yl : Nat) (mi : Nat) (fl : Nat) (bf : Nat) (dm : Int32) (rk : Int32) (sp : Int32) (kn : Int32) (w0 : Int32) (w1 : Int32) (h : rk < dm) : cx_M l s0 D kl y_D_point b_D_point 3 (some .int) ({ frames := 7, cells := 1, slots := 6, locals := 103 } : Room) 1 6 [.ref d0, .int w0, .int w1] [(d0, .inr (0, [.int dm, .ref gv, .ref dr, .ref rl, .ref yl, .ref mi, .ref fl, .ref bf, .int rk, .int sp, .int kn]))] sz (fun o9 t9 w9 => ∃ (x9 : Nat), o9 = .threw x9 ∧ tx_X ex_s x9 t9 ∧ w9 = [(d0, .inr (0, [.int dm, .ref gv, .ref dr, .ref rl, .ref yl, .ref mi, .ref fl, .ref bf, .int rk, .int sp, .int kn]))]) := by
  refine tx_ofW (cc := b_D_point) (maxL := 3) (ret := (some .int)) (by decide) rfl ?_
  intro p e s m args below meth c s₁ B hml hT hv
  obtain ⟨rfl, hsz, hP, hD0, hx0⟩ := hv
  have hx := B.exec
  have hb := B.bytes
  have hr := B.returns
  have G := E.2.1
  have hown : s.vm.findClass cn_D = some m.cls := findClass_of_methodNamed B.named
  have hlocks := B.notSynchronized
  have hK := va_K.moved hx0.1.alike E.2.2.1
  subst hsz
  have hA0 := cx_new hD0 hx0.2.1
  have hD := hD0.self (sz := s.heap.size)
  generalize hAe : va_A [(d0, .inr (0, [.int dm, .ref gv, .ref dr, .ref rl, .ref yl, .ref mi, .ref fl, .ref bf, .int rk, .int sp, .int kn]))] s.heap.size = A at hD hA0 ⊢
  have hA : ∀ q : Nat, s.heap.size ≤ q → A q := fun q h => by rw [← hAe]; exact Or.inr h
  have hS : va_S A s.heap s.heap [] := va_S.rf
  have hl := lv_entry ([.ref d0, .int w0, .int w1]) (n := 3) (Nat.le_of_ble_eq_true rfl)
  rw [lg_entry_eq]
  generalize (lg_sl ([.ref d0, .int w0, .int w1]) ++ List.replicate (3 - (lg_sl ([.ref d0, .int w0, .int w1])).length) Slot.unset).toArray = ls at hl ⊢
  have hl : lv_has ls 3 [(0, .ref d0), (1, .int w0), (2, .int w1)] := hl
  have hP : va_P D kl [(d0, .inr (0, [.int dm, .ref gv, .ref dr, .ref rl, .ref yl, .ref mi, .ref fl, .ref bf, .int rk, .int sp, .int kn]))] s.heap := hP
  have hml : c.maxLocals = 3 := hml
  refine lv_aload_n hx hb d_D_point_0 rfl (lv_at hl 0 rfl) ?_
  refine lv_iconst (v := (3 : Int32)) hx hb d_D_point_1 (by decide) ?_
  refine cx_call (D := D) (cl := kl) (ws := _) (wc := [(d0, .inr (0, [.int dm, .ref gv, .ref dr, .ref rl, .ref yl, .ref mi, .ref fl, .ref bf, .int rk, .int sp, .int kn]))]) (wr := []) (tx_runV (C := cn_D) (b := d0) (As := [.int (3 : Int32)]) (rest := []) hx hb hml hown (c_D_know_t E s.heap.size d0 gv dr rl yl mi fl bf dm rk sp kn (3 : Int32) h) (cx_C (b0 := b0) G hx0 mw_438 mw_1 ny_D_know (by decide)) (gw.at G hx0 mw_435 rfl _) (gw.at G hx0 mw_437 rfl _) (gw.at G hx0 ms_D_know rfl _) ⟨cx_blind, va_recv hK hP (q0 := 0) (ci := 0) (q := (cn_D, ft_D, 11)) rfl rfl, (cx_pre (s := s) hx0 hP hD hS hA0 [0] rfl rfl (by decide))⟩ rfl rfl hl.1 rfl (lv_room (Nat.le_of_ble_eq_true rfl)) d_D_point_2 ⟨by decide, by decide⟩) hP hD hS hA [0] [] rfl rfl (by decide) (by decide) (fun v t w1 H locs ht hW9 hp hP hD hS => by obtain ⟨x9, h9, -⟩ := hp; cases h9) (fun x t w1 H locs ht hW9 hp hP hD hS => ?_)
  obtain ⟨x9, h9, hX, rfl⟩ := hp
  cases h9
  have hP : va_P D kl [(d0, .inr (0, [.int dm, .ref gv, .ref dr, .ref rl, .ref yl, .ref mi, .ref fl, .ref bf, .int rk, .int sp, .int kn]))] H := hP
  have hD : va_D A [(d0, .inr (0, [.int dm, .ref gv, .ref dr, .ref rl, .ref yl, .ref mi, .ref fl, .ref bf, .int rk, .int sp, .int kn]))] := hD
  exact cx_pass (ws := [(d0, .inr (0, [.int dm, .ref gv, .ref dr, .ref rl, .ref yl, .ref mi, .ref fl, .ref bf, .int rk, .int sp, .int kn]))]) hlocks hT ht hW9 hX (hP.sub [0] rfl) (hD.sub [0] (by decide) rfl) hS (fun x t hX => ⟨x, rfl, hX, rfl⟩)

set_option maxHeartbeats 4000000 in
set_option maxRecDepth 100000 in
theorem c_D_parts_t {l : Launch} {s0 : State} {b0 : Addr} {D : va_G} {cI cJ cZ : ClassId} {tC tS : Nat} (E : gE l s0 b0 D cI cJ cZ tC tS) (sz : Nat) (d0 : Nat) (gv : Nat) (dr : Nat) (rl : Nat) (yl : Nat) (mi : Nat) (fl : Nat) (bf : Nat) (dm : Int32) (rk : Int32) (sp : Int32) (kn : Int32) (w0 : Int32) (w1 : Int32) (w2 : Int32) (w3 : Int32) (h : rk < dm) : cx_M l s0 D kl y_D_parts b_D_parts 5 (some .int) ({ frames := 7, cells := 1, slots := 6, locals := 103 } : Room) 1 6 [.ref d0, .int w0, .int w1, .int w2, .int w3] [(d0, .inr (0, [.int dm, .ref gv, .ref dr, .ref rl, .ref yl, .ref mi, .ref fl, .ref bf, .int rk, .int sp, .int kn]))] sz (fun o9 t9 w9 => ∃ (x9 : Nat), o9 = .threw x9 ∧ tx_X ex_s x9 t9 ∧ w9 = [(d0, .inr (0, [.int dm, .ref gv, .ref dr, .ref rl, .ref yl, .ref mi, .ref fl, .ref bf, .int rk, .int sp, .int kn]))]) := by
  refine tx_ofW (cc := b_D_parts) (maxL := 5) (ret := (some .int)) (by decide) rfl ?_
  intro p e s m args below meth c s₁ B hml hT hv
  obtain ⟨rfl, hsz, hP, hD0, hx0⟩ := hv
  have hx := B.exec
  have hb := B.bytes
  have hr := B.returns
  have G := E.2.1
  have hown : s.vm.findClass cn_D = some m.cls := findClass_of_methodNamed B.named
  have hlocks := B.notSynchronized
  have hK := va_K.moved hx0.1.alike E.2.2.1
  subst hsz
  have hA0 := cx_new hD0 hx0.2.1
  have hD := hD0.self (sz := s.heap.size)
  generalize hAe : va_A [(d0, .inr (0, [.int dm, .ref gv, .ref dr, .ref rl, .ref yl, .ref mi, .ref fl, .ref bf, .int rk, .int sp, .int kn]))] s.heap.size = A at hD hA0 ⊢
  have hA : ∀ q : Nat, s.heap.size ≤ q → A q := fun q h => by rw [← hAe]; exact Or.inr h
  have hS : va_S A s.heap s.heap [] := va_S.rf
  have hl := lv_entry ([.ref d0, .int w0, .int w1, .int w2, .int w3]) (n := 5) (Nat.le_of_ble_eq_true rfl)
  rw [lg_entry_eq]
  generalize (lg_sl ([.ref d0, .int w0, .int w1, .int w2, .int w3]) ++ List.replicate (5 - (lg_sl ([.ref d0, .int w0, .int w1, .int w2, .int w3])).length) Slot.unset).toArray = ls at hl ⊢
  have hl : lv_has ls 5 [(0, .ref d0), (1, .int w0), (2, .int w1), (3, .int w2), (4, .int w3)] := hl
  have hP : va_P D kl [(d0, .inr (0, [.int dm, .ref gv, .ref dr, .ref rl, .ref yl, .ref mi, .ref fl, .ref bf, .int rk, .int sp, .int kn]))] s.heap := hP
  have hml : c.maxLocals = 5 := hml
  refine lv_aload_n hx hb d_D_parts_0 rfl (lv_at hl 0 rfl) ?_
  refine lv_iconst (v := (3 : Int32)) hx hb d_D_parts_1 (by decide) ?_
  refine cx_call (D := D) (cl := kl) (ws := _) (wc := [(d0, .inr (0, [.int dm, .ref gv, .ref dr, .ref rl, .ref yl, .ref mi, .ref fl, .ref bf, .int rk, .int sp, .int kn]))]) (wr := []) (tx_runV (C := cn_D) (b := d0) (As := [.int (3 : Int32)]) (rest := []) hx hb hml hown (c_D_know_t E s.heap.size d0 gv dr rl yl mi fl bf dm rk sp kn (3 : Int32) h) (cx_C (b0 := b0) G hx0 mw_438 mw_1 ny_D_know (by decide)) (gw.at G hx0 mw_435 rfl _) (gw.at G hx0 mw_437 rfl _) (gw.at G hx0 ms_D_know rfl _) ⟨cx_blind, va_recv hK hP (q0 := 0) (ci := 0) (q := (cn_D, ft_D, 11)) rfl rfl, (cx_pre (s := s) hx0 hP hD hS hA0 [0] rfl rfl (by decide))⟩ rfl rfl hl.1 rfl (lv_room (Nat.le_of_ble_eq_true rfl)) d_D_parts_2 ⟨by decide, by decide⟩) hP hD hS hA [0] [] rfl rfl (by decide) (by decide) (fun v t w1 H locs ht hW9 hp hP hD hS => by obtain ⟨x9, h9, -⟩ := hp; cases h9) (fun x t w1 H locs ht hW9 hp hP hD hS => ?_)
  obtain ⟨x9, h9, hX, rfl⟩ := hp
  cases h9
  have hP : va_P D kl [(d0, .inr (0, [.int dm, .ref gv, .ref dr, .ref rl, .ref yl, .ref mi, .ref fl, .ref bf, .int rk, .int sp, .int kn]))] H := hP
  have hD : va_D A [(d0, .inr (0, [.int dm, .ref gv, .ref dr, .ref rl, .ref yl, .ref mi, .ref fl, .ref bf, .int rk, .int sp, .int kn]))] := hD
  exact cx_pass (ws := [(d0, .inr (0, [.int dm, .ref gv, .ref dr, .ref rl, .ref yl, .ref mi, .ref fl, .ref bf, .int rk, .int sp, .int kn]))]) hlocks hT ht hW9 hX (hP.sub [0] rfl) (hD.sub [0] (by decide) rfl) hS (fun x t hX => ⟨x, rfl, hX, rfl⟩)

set_option maxHeartbeats 4000000 in
set_option maxRecDepth 100000 in
theorem c_D_least_a {l : Launch} {s0 : State} {b0 : Addr} {D : va_G} {cI cJ cZ : ClassId} {tC tS : Nat} (E : gE l s0 b0 D cI cJ cZ tC tS) (sz : Nat) (d0 : Nat) (gv : Nat) (dr : Nat) (rl : Nat) (yl : Nat) (mi : Nat) (fl : Nat) (bf : Nat) (dm : Int32) (rk : Int32) (sp : Int32) (kn : Int32) (a : Int32) (b : Int32) (c2 : Int32) (d2 : Int32) (g : Nat → Int32) (h : ¬ iw (1000 : Int32) a b (tk_c dm c2) (tk_d dm d2)) : cx_M l s0 D kl y_D_least b_D_least 5 (some .int) ({ frames := 6, cells := 1, slots := 6, locals := 82 } : Room) 1 6 [.ref d0, .int a, .int b, .int c2, .int d2] [(d0, .inr (0, [.int dm, .ref gv, .ref dr, .ref rl, .ref yl, .ref mi, .ref fl, .ref bf, .int rk, .int sp, .int kn])), (gv, .inl (cI, 4, .inl g))] sz (fun o9 t9 w9 => ∃ (x9 : Nat), o9 = .threw x9 ∧ tx_X ex_a x9 t9 ∧ w9 = [(d0, .inr (0, [.int dm, .ref gv, .ref dr, .ref rl, .ref yl, .ref mi, .ref fl, .ref bf, .int rk, .int sp, .int kn]))]) := by
  refine tx_ofW (cc := b_D_least) (maxL := 5) (ret := (some .int)) (by decide) rfl ?_
  intro p e s m args below meth c s₁ B hml hT hv
  obtain ⟨rfl, hsz, hP, hD0, hx0⟩ := hv
  have hx := B.exec
  have hb := B.bytes
  have hr := B.returns
  have G := E.2.1
  have hown : s.vm.findClass cn_D = some m.cls := findClass_of_methodNamed B.named
  have hlocks := B.notSynchronized
  have hK := va_K.moved hx0.1.alike E.2.2.1
  subst hsz
  have hA0 := cx_new hD0 hx0.2.1
  have hD := hD0.self (sz := s.heap.size)
  generalize hAe : va_A [(d0, .inr (0, [.int dm, .ref gv, .ref dr, .ref rl, .ref yl, .ref mi, .ref fl, .ref bf, .int rk, .int sp, .int kn])), (gv, .inl (cI, 4, .inl g))] s.heap.size = A at hD hA0 ⊢
  have hA : ∀ q : Nat, s.heap.size ≤ q → A q := fun q h => by rw [← hAe]; exact Or.inr h
  have hS : va_S A s.heap s.heap [] := va_S.rf
  have hl := lv_entry ([.ref d0, .int a, .int b, .int c2, .int d2]) (n := 5) (Nat.le_of_ble_eq_true rfl)
  rw [lg_entry_eq]
  generalize (lg_sl ([.ref d0, .int a, .int b, .int c2, .int d2]) ++ List.replicate (5 - (lg_sl ([.ref d0, .int a, .int b, .int c2, .int d2])).length) Slot.unset).toArray = ls at hl ⊢
  have hl : lv_has ls 5 [(0, .ref d0), (1, .int a), (2, .int b), (3, .int c2), (4, .int d2)] := hl
  have hP : va_P D kl [(d0, .inr (0, [.int dm, .ref gv, .ref dr, .ref rl, .ref yl, .ref mi, .ref fl, .ref bf, .int rk, .int sp, .int kn])), (gv, .inl (cI, 4, .inl g))] s.heap := hP
  have hml : c.maxLocals = 5 := hml
  refine lv_aload_n hx hb d_D_least_0 rfl (lv_at hl 0 rfl) ?_
  refine lv_iload_n hx hb d_D_least_1 rfl (lv_at hl 1 rfl) ?_
  refine lv_iload_n hx hb d_D_least_2 rfl (lv_at hl 2 rfl) ?_
  refine lv_iload_n hx hb d_D_least_3 rfl (lv_at hl 3 rfl) ?_
  refine lv_iload hx hb d_D_least_4 (lv_at hl 4 rfl) ?_
  refine cx_call (D := D) (cl := kl) (ws := _) (wc := [(d0, .inr (0, [.int dm, .ref gv, .ref dr, .ref rl, .ref yl, .ref mi, .ref fl, .ref bf, .int rk, .int sp, .int kn])), (gv, .inl (cI, 4, .inl g))]) (wr := []) (tx_runV (C := cn_D) (b := d0) (As := [.int a, .int b, .int c2, .int d2]) (rest := []) hx hb hml hown (c_D_take E s.heap.size d0 gv dr rl yl mi fl bf dm rk sp kn a b c2 d2 g ) (cx_C (b0 := b0) G hx0 mw_239 mw_1 ny_D_take (by decide)) (gw.at G hx0 mw_236 rfl _) (gw.at G hx0 mw_238 rfl _) (gw.at G hx0 ms_D_take rfl _) ⟨cx_blind, va_recv hK hP (q0 := 0) (ci := 0) (q := (cn_D, ft_D, 11)) rfl rfl, (cx_pre (s := s) hx0 hP hD hS hA0 [0, 1] rfl rfl (by decide))⟩ rfl rfl hl.1 rfl (lv_room (Nat.le_of_ble_eq_true rfl)) d_D_least_6 ⟨by decide, by decide⟩) hP hD hS hA [0, 1] [] rfl rfl (by decide) (by decide) (fun v t w1 H locs ht hW9 hp hP hD hS => ?_) (fun x t w1 H locs ht hW9 hp hP hD hS => by obtain ⟨h9, -⟩ := hp; cases h9)
  obtain ⟨h9, rfl⟩ := hp
  cases h9
  refine W.eq (g2 := F0 m 9 ls []) rfl ?_
  refine W.widen (k := 0) (n := 0) (by decide) (by decide) ?_
  have hP : va_P D kl [(d0, .inr (0, [.int dm, .ref gv, .ref dr, .ref rl, .ref yl, .ref mi, .ref fl, .ref bf, .int rk, .int sp, .int kn])), (gv, .inl (cI, 4, .inl (upd (upd (upd (upd g 0 a) 1 b) 2 (tk_c dm c2)) 3 (tk_d dm d2))))] H := hP
  have hD : va_D A [(d0, .inr (0, [.int dm, .ref gv, .ref dr, .ref rl, .ref yl, .ref mi, .ref fl, .ref bf, .int rk, .int sp, .int kn])), (gv, .inl (cI, 4, .inl (upd (upd (upd (upd g 0 a) 1 b) 2 (tk_c dm c2)) 3 (tk_d dm d2))))] := hD
  refine lv_aload_n hx hb d_D_least_9 rfl (lv_at hl 0 rfl) ?_
  refine lv_sipush (v := (1000 : Int32)) hx hb d_D_least_10 (by decide) ?_
  refine cx_call (D := D) (cl := kl) (ws := _) (wc := [(d0, .inr (0, [.int dm, .ref gv, .ref dr, .ref rl, .ref yl, .ref mi, .ref fl, .ref bf, .int rk, .int sp, .int kn])), (gv, .inl (cI, 4, .inl (upd (upd (upd (upd g 0 a) 1 b) 2 (tk_c dm c2)) 3 (tk_d dm d2))))]) (wr := []) (tx_runV (C := cn_D) (b := d0) (As := [.int (1000 : Int32)]) (rest := []) hx hb hml hown (c_D_within_n E H.size d0 gv dr rl yl mi fl bf dm rk sp kn (1000 : Int32) (upd (upd (upd (upd g 0 a) 1 b) 2 (tk_c dm c2)) 3 (tk_d dm d2)) h) (cx_C (b0 := b0) G hx0 mw_267 mw_1 ny_D_isGivenWithin (by decide)) (gw.at G hx0 mw_264 rfl _) (gw.at G hx0 mw_266 rfl _) (gw.at G hx0 ms_D_isGivenWithin rfl _) ⟨cx_blind, va_recv hK hP (q0 := 0) (ci := 0) (q := (cn_D, ft_D, 11)) rfl rfl, (cx_pre (s := s) hx0 hP hD hS hA0 [0, 1] rfl rfl (by decide))⟩ rfl rfl hl.1 rfl (lv_room (Nat.le_of_ble_eq_true rfl)) d_D_least_13 ⟨by decide, by decide⟩) hP hD hS hA [0, 1] [] rfl rfl (by decide) (by decide) (fun v t w1 H locs ht hW9 hp hP hD hS => ?_) (fun x t w1 H locs ht hW9 hp hP hD hS => by obtain ⟨h9, -⟩ := hp; cases h9)
  obtain ⟨h9, rfl⟩ := hp
  cases h9
  refine W.eq (g2 := F0 m 16 ls [.int (0 : Int32)]) rfl ?_
  refine W.widen (k := 0) (n := 0) (by decide) (by decide) ?_
  have hP : va_P D kl [(d0, .inr (0, [.int dm, .ref gv, .ref dr, .ref rl, .ref yl, .ref mi, .ref fl, .ref bf, .int rk, .int sp, .int kn])), (gv, .inl (cI, 4, .inl (upd (upd (upd (upd g 0 a) 1 b) 2 (tk_c dm c2)) 3 (tk_d dm d2))))] H := hP
  have hD : va_D A [(d0, .inr (0, [.int dm, .ref gv, .ref dr, .ref rl, .ref yl, .ref mi, .ref fl, .ref bf, .int rk, .int sp, .int kn])), (gv, .inl (cI, 4, .inl (upd (upd (upd (upd g 0 a) 1 b) 2 (tk_c dm c2)) 3 (tk_d dm d2))))] := hD
  refine lv_if_ne (tgt := 29) hx hb d_D_least_16 (by decide) (fun h99 => absurd h99 (by decide)) (fun _ => ?_)
  refine cx_throw (A := A) (ws := [(d0, .inr (0, [.int dm, .ref gv, .ref dr, .ref rl, .ref yl, .ref mi, .ref fl, .ref bf, .int rk, .int sp, .int kn]))]) (post := (fun o9 t9 w9 => ∃ (x9 : Nat), o9 = .threw x9 ∧ tx_X ex_a x9 t9 ∧ w9 = [(d0, .inr (0, [.int dm, .ref gv, .ref dr, .ref rl, .ref yl, .ref mi, .ref fl, .ref bf, .int rk, .int sp, .int kn]))])) E hx0 hx hb hml hl.1 hlocks hown hT (hP.sub [0] rfl) (hD.sub [0] (by decide) rfl) hS hA0 st_a sl_a si_a sf_a (is := 151) (text := _) (by decide +kernel : (151, "a coordinate is not -1000 .. 1000") ∈ ge_texts) d_D_least_19 d_D_least_22 d_D_least_23 d_D_least_25 d_D_least_28 (by decide) (fun x t hX => ⟨x, rfl, hX, rfl⟩)

set_option maxHeartbeats 4000000 in
set_option maxRecDepth 100000 in
theorem c_D_least_s {l : Launch} {s0 : State} {b0 : Addr} {D : va_G} {cI cJ cZ : ClassId} {tC tS : Nat} (E : gE l s0 b0 D cI cJ cZ tC tS) (sz : Nat) (d0 : Nat) (gv : Nat) (dr : Nat) (rl : Nat) (yl : Nat) (mi : Nat) (fl : Nat) (bf : Nat) (dm : Int32) (rk : Int32) (sp : Int32) (kn : Int32) (a : Int32) (b : Int32) (c2 : Int32) (d2 : Int32) (g : Nat → Int32) (h1 : iw (1000 : Int32) a b (tk_c dm c2) (tk_d dm d2)) (h : rk < dm) : cx_M l s0 D kl y_D_least b_D_least 5 (some .int) ({ frames := 7, cells := 1, slots := 6, locals := 103 } : Room) 1 6 [.ref d0, .int a, .int b, .int c2, .int d2] [(d0, .inr (0, [.int dm, .ref gv, .ref dr, .ref rl, .ref yl, .ref mi, .ref fl, .ref bf, .int rk, .int sp, .int kn])), (gv, .inl (cI, 4, .inl g))] sz (fun o9 t9 w9 => ∃ (x9 : Nat), o9 = .threw x9 ∧ tx_X ex_s x9 t9 ∧ w9 = [(d0, .inr (0, [.int dm, .ref gv, .ref dr, .ref rl, .ref yl, .ref mi, .ref fl, .ref bf, .int rk, .int sp, .int kn]))]) := by
  refine tx_ofW (cc := b_D_least) (maxL := 5) (ret := (some .int)) (by decide) rfl ?_
  intro p e s m args below meth c s₁ B hml hT hv
  obtain ⟨rfl, hsz, hP, hD0, hx0⟩ := hv
  have hx := B.exec
  have hb := B.bytes
  have hr := B.returns
  have G := E.2.1
  have hown : s.vm.findClass cn_D = some m.cls := findClass_of_methodNamed B.named
  have hlocks := B.notSynchronized
  have hK := va_K.moved hx0.1.alike E.2.2.1
  subst hsz
  have hA0 := cx_new hD0 hx0.2.1
  have hD := hD0.self (sz := s.heap.size)
  generalize hAe : va_A [(d0, .inr (0, [.int dm, .ref gv, .ref dr, .ref rl, .ref yl, .ref mi, .ref fl, .ref bf, .int rk, .int sp, .int kn])), (gv, .inl (cI, 4, .inl g))] s.heap.size = A at hD hA0 ⊢
  have hA : ∀ q : Nat, s.heap.size ≤ q → A q := fun q h => by rw [← hAe]; exact Or.inr h
  have hS : va_S A s.heap s.heap [] := va_S.rf
  have hl := lv_entry ([.ref d0, .int a, .int b, .int c2, .int d2]) (n := 5) (Nat.le_of_ble_eq_true rfl)
  rw [lg_entry_eq]
  generalize (lg_sl ([.ref d0, .int a, .int b, .int c2, .int d2]) ++ List.replicate (5 - (lg_sl ([.ref d0, .int a, .int b, .int c2, .int d2])).length) Slot.unset).toArray = ls at hl ⊢
  have hl : lv_has ls 5 [(0, .ref d0), (1, .int a), (2, .int b), (3, .int c2), (4, .int d2)] := hl
  have hP : va_P D kl [(d0, .inr (0, [.int dm, .ref gv, .ref dr, .ref rl, .ref yl, .ref mi, .ref fl, .ref bf, .int rk, .int sp, .int kn])), (gv, .inl (cI, 4, .inl g))] s.heap := hP
  have hml : c.maxLocals = 5 := hml
  refine lv_aload_n hx hb d_D_least_0 rfl (lv_at hl 0 rfl) ?_
  refine lv_iload_n hx hb d_D_least_1 rfl (lv_at hl 1 rfl) ?_
  refine lv_iload_n hx hb d_D_least_2 rfl (lv_at hl 2 rfl) ?_
  refine lv_iload_n hx hb d_D_least_3 rfl (lv_at hl 3 rfl) ?_
  refine lv_iload hx hb d_D_least_4 (lv_at hl 4 rfl) ?_
  refine cx_call (D := D) (cl := kl) (ws := _) (wc := [(d0, .inr (0, [.int dm, .ref gv, .ref dr, .ref rl, .ref yl, .ref mi, .ref fl, .ref bf, .int rk, .int sp, .int kn])), (gv, .inl (cI, 4, .inl g))]) (wr := []) (tx_runV (C := cn_D) (b := d0) (As := [.int a, .int b, .int c2, .int d2]) (rest := []) hx hb hml hown (c_D_take E s.heap.size d0 gv dr rl yl mi fl bf dm rk sp kn a b c2 d2 g ) (cx_C (b0 := b0) G hx0 mw_239 mw_1 ny_D_take (by decide)) (gw.at G hx0 mw_236 rfl _) (gw.at G hx0 mw_238 rfl _) (gw.at G hx0 ms_D_take rfl _) ⟨cx_blind, va_recv hK hP (q0 := 0) (ci := 0) (q := (cn_D, ft_D, 11)) rfl rfl, (cx_pre (s := s) hx0 hP hD hS hA0 [0, 1] rfl rfl (by decide))⟩ rfl rfl hl.1 rfl (lv_room (Nat.le_of_ble_eq_true rfl)) d_D_least_6 ⟨by decide, by decide⟩) hP hD hS hA [0, 1] [] rfl rfl (by decide) (by decide) (fun v t w1 H locs ht hW9 hp hP hD hS => ?_) (fun x t w1 H locs ht hW9 hp hP hD hS => by obtain ⟨h9, -⟩ := hp; cases h9)
  obtain ⟨h9, rfl⟩ := hp
  cases h9
  refine W.eq (g2 := F0 m 9 ls []) rfl ?_
  refine W.widen (k := 0) (n := 0) (by decide) (by decide) ?_
  have hP : va_P D kl [(d0, .inr (0, [.int dm, .ref gv, .ref dr, .ref rl, .ref yl, .ref mi, .ref fl, .ref bf, .int rk, .int sp, .int kn])), (gv, .inl (cI, 4, .inl (upd (upd (upd (upd g 0 a) 1 b) 2 (tk_c dm c2)) 3 (tk_d dm d2))))] H := hP
  have hD : va_D A [(d0, .inr (0, [.int dm, .ref gv, .ref dr, .ref rl, .ref yl, .ref mi, .ref fl, .ref bf, .int rk, .int sp, .int kn])), (gv, .inl (cI, 4, .inl (upd (upd (upd (upd g 0 a) 1 b) 2 (tk_c dm c2)) 3 (tk_d dm d2))))] := hD
  refine lv_aload_n hx hb d_D_least_9 rfl (lv_at hl 0 rfl) ?_
  refine lv_sipush (v := (1000 : Int32)) hx hb d_D_least_10 (by decide) ?_
  refine cx_call (D := D) (cl := kl) (ws := _) (wc := [(d0, .inr (0, [.int dm, .ref gv, .ref dr, .ref rl, .ref yl, .ref mi, .ref fl, .ref bf, .int rk, .int sp, .int kn])), (gv, .inl (cI, 4, .inl (upd (upd (upd (upd g 0 a) 1 b) 2 (tk_c dm c2)) 3 (tk_d dm d2))))]) (wr := []) (tx_runV (C := cn_D) (b := d0) (As := [.int (1000 : Int32)]) (rest := []) hx hb hml hown (c_D_within_y E H.size d0 gv dr rl yl mi fl bf dm rk sp kn (1000 : Int32) (upd (upd (upd (upd g 0 a) 1 b) 2 (tk_c dm c2)) 3 (tk_d dm d2)) h1) (cx_C (b0 := b0) G hx0 mw_267 mw_1 ny_D_isGivenWithin (by decide)) (gw.at G hx0 mw_264 rfl _) (gw.at G hx0 mw_266 rfl _) (gw.at G hx0 ms_D_isGivenWithin rfl _) ⟨cx_blind, va_recv hK hP (q0 := 0) (ci := 0) (q := (cn_D, ft_D, 11)) rfl rfl, (cx_pre (s := s) hx0 hP hD hS hA0 [0, 1] rfl rfl (by decide))⟩ rfl rfl hl.1 rfl (lv_room (Nat.le_of_ble_eq_true rfl)) d_D_least_13 ⟨by decide, by decide⟩) hP hD hS hA [0, 1] [] rfl rfl (by decide) (by decide) (fun v t w1 H locs ht hW9 hp hP hD hS => ?_) (fun x t w1 H locs ht hW9 hp hP hD hS => by obtain ⟨h9, -⟩ := hp; cases h9)
  obtain ⟨h9, rfl⟩ := hp
  cases h9
  refine W.eq (g2 := F0 m 16 ls [.int (1 : Int32)]) rfl ?_
  refine W.widen (k := 0) (n := 0) (by decide) (by decide) ?_
  have hP : va_P D kl [(d0, .inr (0, [.int dm, .ref gv, .ref dr, .ref rl, .ref yl, .ref mi, .ref fl, .ref bf, .int rk, .int sp, .int kn])), (gv, .inl (cI, 4, .inl (upd (upd (upd (upd g 0 a) 1 b) 2 (tk_c dm c2)) 3 (tk_d dm d2))))] H := hP
  have hD : va_D A [(d0, .inr (0, [.int dm, .ref gv, .ref dr, .ref rl, .ref yl, .ref mi, .ref fl, .ref bf, .int rk, .int sp, .int kn])), (gv, .inl (cI, 4, .inl (upd (upd (upd (upd g 0 a) 1 b) 2 (tk_c dm c2)) 3 (tk_d dm d2))))] := hD
  refine lv_if_ne (tgt := 29) hx hb d_D_least_16 (by decide) (fun _ => ?_) (fun h99 => absurd h99 (by decide))
  refine lv_aload_n hx hb d_D_least_29 rfl (lv_at hl 0 rfl) ?_
  refine lv_iconst (v := (3 : Int32)) hx hb d_D_least_30 (by decide) ?_
  refine cx_call (D := D) (cl := kl) (ws := _) (wc := [(d0, .inr (0, [.int dm, .ref gv, .ref dr, .ref rl, .ref yl, .ref mi, .ref fl, .ref bf, .int rk, .int sp, .int kn]))]) (wr := [(gv, .inl (cI, 4, .inl (upd (upd (upd (upd g 0 a) 1 b) 2 (tk_c dm c2)) 3 (tk_d dm d2))))]) (tx_runV (C := cn_D) (b := d0) (As := [.int (3 : Int32)]) (rest := []) hx hb hml hown (c_D_know_t E H.size d0 gv dr rl yl mi fl bf dm rk sp kn (3 : Int32) h) (cx_C (b0 := b0) G hx0 mw_438 mw_1 ny_D_know (by decide)) (gw.at G hx0 mw_435 rfl _) (gw.at G hx0 mw_437 rfl _) (gw.at G hx0 ms_D_know rfl _) ⟨cx_blind, va_recv hK hP (q0 := 0) (ci := 0) (q := (cn_D, ft_D, 11)) rfl rfl, (cx_pre (s := s) hx0 hP hD hS hA0 [0] rfl rfl (by decide))⟩ rfl rfl hl.1 rfl (lv_room (Nat.le_of_ble_eq_true rfl)) d_D_least_31 ⟨by decide, by decide⟩) hP hD hS hA [0] [1] rfl rfl (by decide) (by decide) (fun v t w1 H locs ht hW9 hp hP hD hS => by obtain ⟨x9, h9, -⟩ := hp; cases h9) (fun x t w1 H locs ht hW9 hp hP hD hS => ?_)
  obtain ⟨x9, h9, hX, rfl⟩ := hp
  cases h9
  have hP : va_P D kl [(gv, .inl (cI, 4, .inl (upd (upd (upd (upd g 0 a) 1 b) 2 (tk_c dm c2)) 3 (tk_d dm d2)))), (d0, .inr (0, [.int dm, .ref gv, .ref dr, .ref rl, .ref yl, .ref mi, .ref fl, .ref bf, .int rk, .int sp, .int kn]))] H := hP
  have hD : va_D A [(gv, .inl (cI, 4, .inl (upd (upd (upd (upd g 0 a) 1 b) 2 (tk_c dm c2)) 3 (tk_d dm d2)))), (d0, .inr (0, [.int dm, .ref gv, .ref dr, .ref rl, .ref yl, .ref mi, .ref fl, .ref bf, .int rk, .int sp, .int kn]))] := hD
  exact cx_pass (ws := [(d0, .inr (0, [.int dm, .ref gv, .ref dr, .ref rl, .ref yl, .ref mi, .ref fl, .ref bf, .int rk, .int sp, .int kn]))]) hlocks hT ht hW9 hX (hP.sub [1] rfl) (hD.sub [1] (by decide) rfl) hS (fun x t hX => ⟨x, rfl, hX, rfl⟩)

set_option maxHeartbeats 4000000 in
set_option maxRecDepth 100000 in
theorem c_D_inCone0 {l : Launch} {s0 : State} {b0 : Addr} {D : va_G} {cI cJ cZ : ClassId} {tC tS : Nat} (E : gE l s0 b0 D cI cJ cZ tC tS) (sz : Nat) (d0 : Nat) (gv : Nat) (dr : Nat) (rl : Nat) (yl : Nat) (mi : Nat) (fl : Nat) (bf : Nat) (dm : Int32) (rk : Int32) (sp : Int32) (kn : Int32) (rc : Nat) (mo : Int32) (y : Nat) : cx_M l s0 D kl y_D_isInCone b_D_isInCone 3 (some .boolean) ({ frames := 0, cells := 0, slots := 0, locals := 0 } : Room) 0 0 [.ref d0, .ref y] [(d0, .inr (0, [.int dm, .ref gv, .ref dr, .ref rl, .ref yl, .ref mi, .ref fl, .ref bf, .int rk, .int sp, .int kn])), (rl, .inr (1, [.ref rc, .int (0 : Int32), .int mo]))] sz (fun o9 _ w9 => o9 = .returned (some (.int (1 : Int32))) ∧ w9 = [(d0, .inr (0, [.int dm, .ref gv, .ref dr, .ref rl, .ref yl, .ref mi, .ref fl, .ref bf, .int rk, .int sp, .int kn])), (rl, .inr (1, [.ref rc, .int (0 : Int32), .int mo]))]) := by
  refine tx_ofW (cc := b_D_isInCone) (maxL := 3) (ret := (some .boolean)) (by decide) rfl ?_
  intro p e s m args below meth c s₁ B hml hT hv
  obtain ⟨rfl, hsz, hP, hD0, hx0⟩ := hv
  have hx := B.exec
  have hb := B.bytes
  have hr := B.returns
  have G := E.2.1
  have hown : s.vm.findClass cn_D = some m.cls := findClass_of_methodNamed B.named
  have hlocks := B.notSynchronized
  have hK := va_K.moved hx0.1.alike E.2.2.1
  have hf_D : ∀ w99 ∈ u_ws cn_D ft_D 11, w99.before ([.ref d0, .ref y] : List Value).toArray s = true := fun w99 h99 => gw.at G hx0 (fw_D w99 h99) (fo_D w99 h99) _
  have hf_PL : ∀ w99 ∈ u_ws cn_PL ft_PL 3, w99.before ([.ref d0, .ref y] : List Value).toArray s = true := fun w99 h99 => gw.at G hx0 (fw_PL w99 h99) (fo_PL w99 h99) _
  subst hsz
  have hA0 := cx_new hD0 hx0.2.1
  have hD := hD0.self (sz := s.heap.size)
  generalize hAe : va_A [(d0, .inr (0, [.int dm, .ref gv, .ref dr, .ref rl, .ref yl, .ref mi, .ref fl, .ref bf, .int rk, .int sp, .int kn])), (rl, .inr (1, [.ref rc, .int (0 : Int32), .int mo]))] s.heap.size = A at hD hA0 ⊢
  have hA : ∀ q : Nat, s.heap.size ≤ q → A q := fun q h => by rw [← hAe]; exact Or.inr h
  have hS : va_S A s.heap s.heap [] := va_S.rf
  have hl := lv_entry ([.ref d0, .ref y]) (n := 3) (Nat.le_of_ble_eq_true rfl)
  rw [lg_entry_eq]
  generalize (lg_sl ([.ref d0, .ref y]) ++ List.replicate (3 - (lg_sl ([.ref d0, .ref y])).length) Slot.unset).toArray = ls at hl ⊢
  have hl : lv_has ls 3 [(0, .ref d0), (1, .ref y)] := hl
  have hP : va_P D kl [(d0, .inr (0, [.int dm, .ref gv, .ref dr, .ref rl, .ref yl, .ref mi, .ref fl, .ref bf, .int rk, .int sp, .int kn])), (rl, .inr (1, [.ref rc, .int (0 : Int32), .int mo]))] s.heap := hP
  have hml : c.maxLocals = 3 := hml
  refine lv_iconst (v := (0 : Int32)) hx hb d_D_isInCone_0 (by decide) ?_
  refine lv_istore_n (lv' := [(2, .int (0 : Int32)), (0, .ref d0), (1, .ref y)]) hx hb d_D_isInCone_1 rfl hl (by decide) rfl (fun ls hl => ?_)
  refine lv_iload_n hx hb d_D_isInCone_2 rfl (lv_at hl 0 rfl) ?_
  refine lv_aload_n hx hb d_D_isInCone_3 rfl (lv_at hl 1 rfl) ?_
  refine va_get (D := D) (ci := 0) (v := .ref rl) (C := cn_D) (T := ft_D) (N := 11) hx hb hf_D (fun _ h => h) hown hK hP 0 rfl rfl 3 (by decide) (gw.at G hx0 mw_197 rfl _) (fun _ h9 => h9) rfl d_D_isInCone_4 ?_
  refine va_get (D := D) (ci := 1) (v := .int (0 : Int32)) (C := cn_PL) (T := ft_PL) (N := 3) hx hb hf_PL (fun _ h => h) hown hK hP 1 rfl rfl 1 (by decide) (gw.at G hx0 mw_45 rfl _) (fun _ h9 => h9) rfl d_D_isInCone_7 ?_
  refine lv_icmp_ge (tgt := 35) hx hb d_D_isInCone_10 (by decide) (fun _ => ?_) (fun h99 => absurd h99 (by decide))
  refine lv_iconst (v := (1 : Int32)) hx hb d_D_isInCone_35 (by decide) ?_
  exact tx_mono (fun _ h => tx_Z.of h) (W.zret (v := (1 : Int32)) hx hb hr (by decide) (fun t ht hW => ⟨⟨[(d0, .inr (0, [.int dm, .ref gv, .ref dr, .ref rl, .ref yl, .ref mi, .ref fl, .ref bf, .int rk, .int sp, .int kn])), (rl, .inr (1, [.ref rc, .int (0 : Int32), .int mo]))], ⟨rfl, rfl⟩, by rw [ht]; exact hP.sub [0, 1] rfl, hD.sub [0, 1] (by decide) rfl⟩, hS.F ht⟩) hS.2.2 d_D_isInCone_36)

set_option maxHeartbeats 4000000 in
set_option maxRecDepth 100000 in
theorem c_D_holds0 {l : Launch} {s0 : State} {b0 : Addr} {D : va_G} {cI cJ cZ : ClassId} {tC tS : Nat} (E : gE l s0 b0 D cI cJ cZ tC tS) (sz : Nat) (d0 : Nat) (gv : Nat) (dr : Nat) (rl : Nat) (yl : Nat) (mi : Nat) (fl : Nat) (bf : Nat) (dm : Int32) (rk : Int32) (sp : Int32) (kn : Int32) (a : Int32) (b : Int32) (c2 : Int32) (d2 : Int32) (g : Nat → Int32) (rc : Nat) (mo : Int32) : cx_M l s0 D kl y_D_holds b_D_holds 5 (some .boolean) ({ frames := 1, cells := 0, slots := 0, locals := 24 } : Room) 0 0 [.ref d0, .int a, .int b, .int c2, .int d2] [(d0, .inr (0, [.int dm, .ref gv, .ref dr, .ref rl, .ref yl, .ref mi, .ref fl, .ref bf, .int rk, .int sp, .int kn])), (gv, .inl (cI, 4, .inl g)), (rl, .inr (1, [.ref rc, .int (0 : Int32), .int mo]))] sz (fun o9 _ w9 => o9 = .returned (some (.int (1 : Int32))) ∧ w9 = [(d0, .inr (0, [.int dm, .ref gv, .ref dr, .ref rl, .ref yl, .ref mi, .ref fl, .ref bf, .int rk, .int sp, .int kn])), (rl, .inr (1, [.ref rc, .int (0 : Int32), .int mo]))]) := by
  refine tx_ofW (cc := b_D_holds) (maxL := 5) (ret := (some .boolean)) (by decide) rfl ?_
  intro p e s m args below meth c s₁ B hml hT hv
  obtain ⟨rfl, hsz, hP, hD0, hx0⟩ := hv
  have hx := B.exec
  have hb := B.bytes
  have hr := B.returns
  have G := E.2.1
  have hown : s.vm.findClass cn_D = some m.cls := findClass_of_methodNamed B.named
  have hlocks := B.notSynchronized
  have hK := va_K.moved hx0.1.alike E.2.2.1
  have hf_D : ∀ w99 ∈ u_ws cn_D ft_D 11, w99.before ([.ref d0, .int a, .int b, .int c2, .int d2] : List Value).toArray s = true := fun w99 h99 => gw.at G hx0 (fw_D w99 h99) (fo_D w99 h99) _
  subst hsz
  have hA0 := cx_new hD0 hx0.2.1
  have hD := hD0.self (sz := s.heap.size)
  generalize hAe : va_A [(d0, .inr (0, [.int dm, .ref gv, .ref dr, .ref rl, .ref yl, .ref mi, .ref fl, .ref bf, .int rk, .int sp, .int kn])), (gv, .inl (cI, 4, .inl g)), (rl, .inr (1, [.ref rc, .int (0 : Int32), .int mo]))] s.heap.size = A at hD hA0 ⊢
  have hA : ∀ q : Nat, s.heap.size ≤ q → A q := fun q h => by rw [← hAe]; exact Or.inr h
  have hS : va_S A s.heap s.heap [] := va_S.rf
  have hl := lv_entry ([.ref d0, .int a, .int b, .int c2, .int d2]) (n := 5) (Nat.le_of_ble_eq_true rfl)
  rw [lg_entry_eq]
  generalize (lg_sl ([.ref d0, .int a, .int b, .int c2, .int d2]) ++ List.replicate (5 - (lg_sl ([.ref d0, .int a, .int b, .int c2, .int d2])).length) Slot.unset).toArray = ls at hl ⊢
  have hl : lv_has ls 5 [(0, .ref d0), (1, .int a), (2, .int b), (3, .int c2), (4, .int d2)] := hl
  have hP : va_P D kl [(d0, .inr (0, [.int dm, .ref gv, .ref dr, .ref rl, .ref yl, .ref mi, .ref fl, .ref bf, .int rk, .int sp, .int kn])), (gv, .inl (cI, 4, .inl g)), (rl, .inr (1, [.ref rc, .int (0 : Int32), .int mo]))] s.heap := hP
  have hml : c.maxLocals = 5 := hml
  refine lv_aload_n hx hb d_D_holds_0 rfl (lv_at hl 0 rfl) ?_
  refine lv_iload_n hx hb d_D_holds_1 rfl (lv_at hl 1 rfl) ?_
  refine lv_iload_n hx hb d_D_holds_2 rfl (lv_at hl 2 rfl) ?_
  refine lv_iload_n hx hb d_D_holds_3 rfl (lv_at hl 3 rfl) ?_
  refine lv_iload hx hb d_D_holds_4 (lv_at hl 4 rfl) ?_
  refine cx_call (D := D) (cl := kl) (ws := _) (wc := [(d0, .inr (0, [.int dm, .ref gv, .ref dr, .ref rl, .ref yl, .ref mi, .ref fl, .ref bf, .int rk, .int sp, .int kn])), (gv, .inl (cI, 4, .inl g))]) (wr := [(rl, .inr (1, [.ref rc, .int (0 : Int32), .int mo]))]) (tx_runV (C := cn_D) (b := d0) (As := [.int a, .int b, .int c2, .int d2]) (rest := []) hx hb hml hown (c_D_take E s.heap.size d0 gv dr rl yl mi fl bf dm rk sp kn a b c2 d2 g ) (cx_C (b0 := b0) G hx0 mw_239 mw_1 ny_D_take (by decide)) (gw.at G hx0 mw_236 rfl _) (gw.at G hx0 mw_238 rfl _) (gw.at G hx0 ms_D_take rfl _) ⟨cx_blind, va_recv hK hP (q0 := 0) (ci := 0) (q := (cn_D, ft_D, 11)) rfl rfl, (cx_pre (s := s) hx0 hP hD hS hA0 [0, 1] rfl rfl (by decide))⟩ rfl rfl hl.1 rfl (lv_room (Nat.le_of_ble_eq_true rfl)) d_D_holds_6 ⟨by decide, by decide⟩) hP hD hS hA [0, 1] [2] rfl rfl (by decide) (by decide) (fun v t w1 H locs ht hW9 hp hP hD hS => ?_) (fun x t w1 H locs ht hW9 hp hP hD hS => by obtain ⟨h9, -⟩ := hp; cases h9)
  obtain ⟨h9, rfl⟩ := hp
  cases h9
  refine W.eq (g2 := F0 m 9 ls []) rfl ?_
  refine W.widen (k := 0) (n := 0) (by decide) (by decide) ?_
  have hP : va_P D kl [(rl, .inr (1, [.ref rc, .int (0 : Int32), .int mo])), (d0, .inr (0, [.int dm, .ref gv, .ref dr, .ref rl, .ref yl, .ref mi, .ref fl, .ref bf, .int rk, .int sp, .int kn])), (gv, .inl (cI, 4, .inl (upd (upd (upd (upd g 0 a) 1 b) 2 (tk_c dm c2)) 3 (tk_d dm d2))))] H := hP
  have hD : va_D A [(rl, .inr (1, [.ref rc, .int (0 : Int32), .int mo])), (d0, .inr (0, [.int dm, .ref gv, .ref dr, .ref rl, .ref yl, .ref mi, .ref fl, .ref bf, .int rk, .int sp, .int kn])), (gv, .inl (cI, 4, .inl (upd (upd (upd (upd g 0 a) 1 b) 2 (tk_c dm c2)) 3 (tk_d dm d2))))] := hD
  refine lv_aload_n hx hb d_D_holds_9 rfl (lv_at hl 0 rfl) ?_
  refine lv_aload_n hx hb d_D_holds_10 rfl (lv_at hl 0 rfl) ?_
  refine va_get (D := D) (ci := 0) (v := .ref gv) (C := cn_D) (T := ft_D) (N := 11) hx hb hf_D (fun _ h => h) hown hK hP 1 rfl rfl 1 (by decide) (gw.at G hx0 mw_195 rfl _) (fun _ h9 => h9) rfl d_D_holds_11 ?_
  refine cx_call (D := D) (cl := kl) (ws := _) (wc := [(d0, .inr (0, [.int dm, .ref gv, .ref dr, .ref rl, .ref yl, .ref mi, .ref fl, .ref bf, .int rk, .int sp, .int kn])), (rl, .inr (1, [.ref rc, .int (0 : Int32), .int mo]))]) (wr := [(gv, .inl (cI, 4, .inl (upd (upd (upd (upd g 0 a) 1 b) 2 (tk_c dm c2)) 3 (tk_d dm d2))))]) (tx_runV (C := cn_D) (b := d0) (As := [.ref gv]) (rest := []) hx hb hml hown (c_D_inCone0 E H.size d0 gv dr rl yl mi fl bf dm rk sp kn rc mo gv ) (cx_C (b0 := b0) G hx0 mw_243 mw_1 ny_D_isInCone (by decide)) (gw.at G hx0 mw_240 rfl _) (gw.at G hx0 mw_242 rfl _) (gw.at G hx0 ms_D_isInCone rfl _) ⟨cx_blind, va_recv hK hP (q0 := 1) (ci := 0) (q := (cn_D, ft_D, 11)) rfl rfl, (cx_pre (s := s) hx0 hP hD hS hA0 [1, 0] rfl rfl (by decide))⟩ rfl rfl hl.1 rfl (lv_room (Nat.le_of_ble_eq_true rfl)) d_D_holds_14 ⟨by decide, by decide⟩) hP hD hS hA [1, 0] [2] rfl rfl (by decide) (by decide) (fun v t w1 H locs ht hW9 hp hP hD hS => ?_) (fun x t w1 H locs ht hW9 hp hP hD hS => by obtain ⟨h9, -⟩ := hp; cases h9)
  obtain ⟨h9, rfl⟩ := hp
  cases h9
  refine W.eq (g2 := F0 m 17 ls [.int (1 : Int32)]) rfl ?_
  refine W.widen (k := 0) (n := 0) (by decide) (by decide) ?_
  have hP : va_P D kl [(gv, .inl (cI, 4, .inl (upd (upd (upd (upd g 0 a) 1 b) 2 (tk_c dm c2)) 3 (tk_d dm d2)))), (d0, .inr (0, [.int dm, .ref gv, .ref dr, .ref rl, .ref yl, .ref mi, .ref fl, .ref bf, .int rk, .int sp, .int kn])), (rl, .inr (1, [.ref rc, .int (0 : Int32), .int mo]))] H := hP
  have hD : va_D A [(gv, .inl (cI, 4, .inl (upd (upd (upd (upd g 0 a) 1 b) 2 (tk_c dm c2)) 3 (tk_d dm d2)))), (d0, .inr (0, [.int dm, .ref gv, .ref dr, .ref rl, .ref yl, .ref mi, .ref fl, .ref bf, .int rk, .int sp, .int kn])), (rl, .inr (1, [.ref rc, .int (0 : Int32), .int mo]))] := hD
  exact tx_mono (fun _ h => tx_Z.of h) (W.zret (v := (1 : Int32)) hx hb hr (by decide) (fun t ht hW => ⟨⟨[(d0, .inr (0, [.int dm, .ref gv, .ref dr, .ref rl, .ref yl, .ref mi, .ref fl, .ref bf, .int rk, .int sp, .int kn])), (rl, .inr (1, [.ref rc, .int (0 : Int32), .int mo]))], ⟨rfl, rfl⟩, by rw [ht]; exact hP.sub [1, 2] rfl, hD.sub [1, 2] (by decide) rfl⟩, hS.F ht⟩) hS.2.2 d_D_holds_17)

