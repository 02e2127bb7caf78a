/-! ===== own rows, laid by wip/tools/sym.py: add, drop, row, holds of the class, in general ===== -/
set_option maxHeartbeats 4000000 in
set_option maxRecDepth 100000 in
theorem c_D_needCo_t {l : Launch} {s0 : State} {b0 : Addr} {D : va_G} {cI cJ cZ : ClassId} {tC tS : Nat} (E : gE l s0 b0 D cI cJ cZ tC tS) (sz : Nat) (d0 : Nat) (gv : Nat) (dr : Nat) (rl : Nat) (yl : Nat) (mi : Nat) (fl : Nat) (bf : Nat) (dm : Int32) (rk : Int32) (sp : Int32) (kn : Int32) (i : Int32) (h : i < 0 ∨ dm ≤ i) : cx_M l s0 D kl y_D_needCoordinate b_D_needCoordinate 2 none ({ frames := 6, cells := 1, slots := 6, locals := 82 } : Room) 1 6 [.ref d0, .int i] [(d0, .inr (0, [.int dm, .ref gv, .ref dr, .ref rl, .ref yl, .ref mi, .ref fl, .ref bf, .int rk, .int sp, .int kn]))] sz (fun o9 t9 w9 => ∃ (x9 : Nat), o9 = .threw x9 ∧ tx_X ex_x x9 t9 ∧ w9 = [(d0, .inr (0, [.int dm, .ref gv, .ref dr, .ref rl, .ref yl, .ref mi, .ref fl, .ref bf, .int rk, .int sp, .int kn]))]) := by
  refine tx_ofW (cc := b_D_needCoordinate) (maxL := 2) (ret := none) (by decide) rfl ?_
  intro p e s m args below meth c s₁ B hml hT hv
  obtain ⟨rfl, hsz, hP, hD0, hx0⟩ := hv
  have hx := B.exec
  have hb := B.bytes
  have hr := B.returns
  have G := E.2.1
  have hown : s.vm.findClass cn_D = some m.cls := findClass_of_methodNamed B.named
  have hlocks := B.notSynchronized
  have hK := va_K.moved hx0.1.alike E.2.2.1
  have hf_D : ∀ w99 ∈ u_ws cn_D ft_D 11, w99.before ([.ref d0, .int i] : List Value).toArray s = true := fun w99 h99 => gw.at G hx0 (fw_D w99 h99) (fo_D w99 h99) _
  subst hsz
  have hA0 := cx_new hD0 hx0.2.1
  have hD := hD0.self (sz := s.heap.size)
  generalize hAe : va_A [(d0, .inr (0, [.int dm, .ref gv, .ref dr, .ref rl, .ref yl, .ref mi, .ref fl, .ref bf, .int rk, .int sp, .int kn]))] s.heap.size = A at hD hA0 ⊢
  have hA : ∀ q : Nat, s.heap.size ≤ q → A q := fun q h => by rw [← hAe]; exact Or.inr h
  have hS : va_S A s.heap s.heap [] := va_S.rf
  have hl := lv_entry ([.ref d0, .int i]) (n := 2) (Nat.le_of_ble_eq_true rfl)
  rw [lg_entry_eq]
  generalize (lg_sl ([.ref d0, .int i]) ++ List.replicate (2 - (lg_sl ([.ref d0, .int i])).length) Slot.unset).toArray = ls at hl ⊢
  have hl : lv_has ls 2 [(0, .ref d0), (1, .int i)] := hl
  have hP : va_P D kl [(d0, .inr (0, [.int dm, .ref gv, .ref dr, .ref rl, .ref yl, .ref mi, .ref fl, .ref bf, .int rk, .int sp, .int kn]))] s.heap := hP
  have hml : c.maxLocals = 2 := hml
  refine lv_iload_n hx hb d_D_needCoordinate_0 rfl (lv_at hl 1 rfl) ?_
  refine lv_if_lt (tgt := 12) hx hb d_D_needCoordinate_1 (by decide) (fun h_1 => ?_) (fun h_1 => ?_)
  · refine cx_throw (A := A) (ws := [(d0, .inr (0, [.int dm, .ref gv, .ref dr, .ref rl, .ref yl, .ref mi, .ref fl, .ref bf, .int rk, .int sp, .int kn]))]) (post := (fun o9 t9 w9 => ∃ (x9 : Nat), o9 = .threw x9 ∧ tx_X ex_x x9 t9 ∧ w9 = [(d0, .inr (0, [.int dm, .ref gv, .ref dr, .ref rl, .ref yl, .ref mi, .ref fl, .ref bf, .int rk, .int sp, .int kn]))])) E hx0 hx hb hml hl.1 hlocks hown hT (hP.sub [0] rfl) (hD.sub [0] (by decide) rfl) hS hA0 st_x sl_x si_x sf_x (is := 173) (text := _) (by decide +kernel : (173, "no such coordinate") ∈ ge_texts) d_D_needCoordinate_12 d_D_needCoordinate_15 d_D_needCoordinate_16 d_D_needCoordinate_18 d_D_needCoordinate_21 (by decide) (fun x t hX => ⟨x, rfl, hX, rfl⟩)
  · refine lv_iload_n hx hb d_D_needCoordinate_4 rfl (lv_at hl 1 rfl) ?_
    refine lv_aload_n hx hb d_D_needCoordinate_5 rfl (lv_at hl 0 rfl) ?_
    refine va_get (D := D) (ci := 0) (v := .int dm) (C := cn_D) (T := ft_D) (N := 11) hx hb hf_D (fun _ h => h) hown hK hP 0 rfl rfl 0 (by decide) (gw.at G hx0 mw_194 rfl _) (fun _ h9 => h9) rfl d_D_needCoordinate_6 ?_
    refine lv_icmp_lt (tgt := 22) hx hb d_D_needCoordinate_9 (by decide) (fun h99 => absurd h99 (Int32.not_lt.mpr (h.resolve_left h_1))) (fun _ => ?_)
    refine cx_throw (A := A) (ws := [(d0, .inr (0, [.int dm, .ref gv, .ref dr, .ref rl, .ref yl, .ref mi, .ref fl, .ref bf, .int rk, .int sp, .int kn]))]) (post := (fun o9 t9 w9 => ∃ (x9 : Nat), o9 = .threw x9 ∧ tx_X ex_x x9 t9 ∧ w9 = [(d0, .inr (0, [.int dm, .ref gv, .ref dr, .ref rl, .ref yl, .ref mi, .ref fl, .ref bf, .int rk, .int sp, .int kn]))])) E hx0 hx hb hml hl.1 hlocks hown hT (hP.sub [0] rfl) (hD.sub [0] (by decide) rfl) hS hA0 st_x sl_x si_x sf_x (is := 173) (text := _) (by decide +kernel : (173, "no such coordinate") ∈ ge_texts) d_D_needCoordinate_12 d_D_needCoordinate_15 d_D_needCoordinate_16 d_D_needCoordinate_18 d_D_needCoordinate_21 (by decide) (fun x t hX => ⟨x, rfl, hX, rfl⟩)

set_option maxHeartbeats 4000000 in
set_option maxRecDepth 100000 in
theorem c_D_needCo_r {l : Launch} {s0 : State} {b0 : Addr} {D : va_G} {cI cJ cZ : ClassId} {tC tS : Nat} (E : gE l s0 b0 D cI cJ cZ tC tS) (sz : Nat) (d0 : Nat) (gv : Nat) (dr : Nat) (rl : Nat) (yl : Nat) (mi : Nat) (fl : Nat) (bf : Nat) (dm : Int32) (rk : Int32) (sp : Int32) (kn : Int32) (i : Int32) (h1 : ¬ i < 0) (h2 : i < dm) : cx_M l s0 D kl y_D_needCoordinate b_D_needCoordinate 2 none ({ frames := 0, cells := 0, slots := 0, locals := 0 } : Room) 0 0 [.ref d0, .int i] [(d0, .inr (0, [.int dm, .ref gv, .ref dr, .ref rl, .ref yl, .ref mi, .ref fl, .ref bf, .int rk, .int sp, .int kn]))] sz (fun o9 _ w9 => o9 = .returned none ∧ w9 = [(d0, .inr (0, [.int dm, .ref gv, .ref dr, .ref rl, .ref yl, .ref mi, .ref fl, .ref bf, .int rk, .int sp, .int kn]))]) := by
  refine tx_ofW (cc := b_D_needCoordinate) (maxL := 2) (ret := none) (by decide) rfl ?_
  intro p e s m args below meth c s₁ B hml hT hv
  obtain ⟨rfl, hsz, hP, hD0, hx0⟩ := hv
  have hx := B.exec
  have hb := B.bytes
  have hr := B.returns
  have G := E.2.1
  have hown : s.vm.findClass cn_D = some m.cls := findClass_of_methodNamed B.named
  have hlocks := B.notSynchronized
  have hK := va_K.moved hx0.1.alike E.2.2.1
  have hf_D : ∀ w99 ∈ u_ws cn_D ft_D 11, w99.before ([.ref d0, .int i] : List Value).toArray s = true := fun w99 h99 => gw.at G hx0 (fw_D w99 h99) (fo_D w99 h99) _
  subst hsz
  have hA0 := cx_new hD0 hx0.2.1
  have hD := hD0.self (sz := s.heap.size)
  generalize hAe : va_A [(d0, .inr (0, [.int dm, .ref gv, .ref dr, .ref rl, .ref yl, .ref mi, .ref fl, .ref bf, .int rk, .int sp, .int kn]))] s.heap.size = A at hD hA0 ⊢
  have hA : ∀ q : Nat, s.heap.size ≤ q → A q := fun q h => by rw [← hAe]; exact Or.inr h
  have hS : va_S A s.heap s.heap [] := va_S.rf
  have hl := lv_entry ([.ref d0, .int i]) (n := 2) (Nat.le_of_ble_eq_true rfl)
  rw [lg_entry_eq]
  generalize (lg_sl ([.ref d0, .int i]) ++ List.replicate (2 - (lg_sl ([.ref d0, .int i])).length) Slot.unset).toArray = ls at hl ⊢
  have hl : lv_has ls 2 [(0, .ref d0), (1, .int i)] := hl
  have hP : va_P D kl [(d0, .inr (0, [.int dm, .ref gv, .ref dr, .ref rl, .ref yl, .ref mi, .ref fl, .ref bf, .int rk, .int sp, .int kn]))] s.heap := hP
  have hml : c.maxLocals = 2 := hml
  refine lv_iload_n hx hb d_D_needCoordinate_0 rfl (lv_at hl 1 rfl) ?_
  refine lv_if_lt (tgt := 12) hx hb d_D_needCoordinate_1 (by decide) (fun h99 => absurd h99 h1) (fun _ => ?_)
  refine lv_iload_n hx hb d_D_needCoordinate_4 rfl (lv_at hl 1 rfl) ?_
  refine lv_aload_n hx hb d_D_needCoordinate_5 rfl (lv_at hl 0 rfl) ?_
  refine va_get (D := D) (ci := 0) (v := .int dm) (C := cn_D) (T := ft_D) (N := 11) hx hb hf_D (fun _ h => h) hown hK hP 0 rfl rfl 0 (by decide) (gw.at G hx0 mw_194 rfl _) (fun _ h9 => h9) rfl d_D_needCoordinate_6 ?_
  refine lv_icmp_lt (tgt := 22) hx hb d_D_needCoordinate_9 (by decide) (fun _ => ?_) (fun h99 => absurd h99 (not_not_intro h2))
  exact tx_mono (fun _ h => tx_Z.of h) (W.vret hx hb hr (fun t ht hW => ⟨⟨[(d0, .inr (0, [.int dm, .ref gv, .ref dr, .ref rl, .ref yl, .ref mi, .ref fl, .ref bf, .int rk, .int sp, .int kn]))], ⟨rfl, rfl⟩, by rw [ht]; exact hP.sub [0] rfl, hD.sub [0] (by decide) rfl⟩, hS.F ht⟩) hS.2.2 d_D_needCoordinate_22)

set_option maxHeartbeats 4000000 in
set_option maxRecDepth 100000 in
theorem c_D_row_t1 {l : Launch} {s0 : State} {b0 : Addr} {D : va_G} {cI cJ cZ : ClassId} {tC tS : Nat} (E : gE l s0 b0 D cI cJ cZ tC tS) (sz : Nat) (d0 : Nat) (gv : Nat) (dr : Nat) (rl : Nat) (yl : Nat) (mi : Nat) (fl : Nat) (bf : Nat) (dm : Int32) (rk : Int32) (sp : Int32) (kn : Int32) (rc : Nat) (ct : Nat) (mo : Nat) (w : Int32) (i : Int32) (h : ¬ (¬ w < 0 ∧ w < nI ct)) : cx_M l s0 D kl y_D_row b_D_row 3 (some .int) ({ frames := 7, cells := 1, slots := 6, locals := 103 } : Room) 1 6 [.ref d0, .int w, .int i] [(d0, .inr (0, [.int dm, .ref gv, .ref dr, .ref rl, .ref yl, .ref mi, .ref fl, .ref bf, .int rk, .int sp, .int kn])), (rl, .inr (1, [.ref rc, .int (nI ct), .int (nI mo)]))] sz (fun o9 t9 w9 => ∃ (x9 : Nat), o9 = .threw x9 ∧ tx_X ex_x x9 t9 ∧ w9 = [(d0, .inr (0, [.int dm, .ref gv, .ref dr, .ref rl, .ref yl, .ref mi, .ref fl, .ref bf, .int rk, .int sp, .int kn])), (rl, .inr (1, [.ref rc, .int (nI ct), .int (nI mo)]))]) := by
  refine tx_ofW (cc := b_D_row) (maxL := 3) (ret := (some .int)) (by decide) rfl ?_
  intro p e s m args below meth c s₁ B hml hT hv
  obtain ⟨rfl, hsz, hP, hD0, hx0⟩ := hv
  have hx := B.exec
  have hb := B.bytes
  have hr := B.returns
  have G := E.2.1
  have hown : s.vm.findClass cn_D = some m.cls := findClass_of_methodNamed B.named
  have hlocks := B.notSynchronized
  have hK := va_K.moved hx0.1.alike E.2.2.1
  subst hsz
  have hA0 := cx_new hD0 hx0.2.1
  have hD := hD0.self (sz := s.heap.size)
  generalize hAe : va_A [(d0, .inr (0, [.int dm, .ref gv, .ref dr, .ref rl, .ref yl, .ref mi, .ref fl, .ref bf, .int rk, .int sp, .int kn])), (rl, .inr (1, [.ref rc, .int (nI ct), .int (nI mo)]))] s.heap.size = A at hD hA0 ⊢
  have hA : ∀ q : Nat, s.heap.size ≤ q → A q := fun q h => by rw [← hAe]; exact Or.inr h
  have hS : va_S A s.heap s.heap [] := va_S.rf
  have hl := lv_entry ([.ref d0, .int w, .int i]) (n := 3) (Nat.le_of_ble_eq_true rfl)
  rw [lg_entry_eq]
  generalize (lg_sl ([.ref d0, .int w, .int i]) ++ List.replicate (3 - (lg_sl ([.ref d0, .int w, .int i])).length) Slot.unset).toArray = ls at hl ⊢
  have hl : lv_has ls 3 [(0, .ref d0), (1, .int w), (2, .int i)] := hl
  have hP : va_P D kl [(d0, .inr (0, [.int dm, .ref gv, .ref dr, .ref rl, .ref yl, .ref mi, .ref fl, .ref bf, .int rk, .int sp, .int kn])), (rl, .inr (1, [.ref rc, .int (nI ct), .int (nI mo)]))] s.heap := hP
  have hml : c.maxLocals = 3 := hml
  refine lv_aload_n hx hb d_D_row_0 rfl (lv_at hl 0 rfl) ?_
  refine lv_iload_n hx hb d_D_row_1 rfl (lv_at hl 1 rfl) ?_
  refine cx_call (D := D) (cl := kl) (ws := _) (wc := [(d0, .inr (0, [.int dm, .ref gv, .ref dr, .ref rl, .ref yl, .ref mi, .ref fl, .ref bf, .int rk, .int sp, .int kn])), (rl, .inr (1, [.ref rc, .int (nI ct), .int (nI mo)]))]) (wr := []) (tx_runV (C := cn_D) (b := d0) (As := [.int w]) (rest := []) hx hb hml hown (c_D_needRow_t E s.heap.size d0 gv dr rl yl mi fl bf dm rk sp kn rc (nI ct) (nI mo) w h) (cx_C (b0 := b0) G hx0 mw_390 mw_1 ny_D_needRow (by decide)) (gw.at G hx0 mw_387 rfl _) (gw.at G hx0 mw_389 rfl _) (gw.at G hx0 ms_D_needRow rfl _) ⟨cx_blind, va_recv hK hP (q0 := 0) (ci := 0) (q := (cn_D, ft_D, 11)) rfl rfl, (cx_pre (s := s) hx0 hP hD hS hA0 [0, 1] rfl rfl (by decide))⟩ rfl rfl hl.1 rfl (lv_room (Nat.le_of_ble_eq_true rfl)) d_D_row_2 ⟨by decide, by decide⟩) hP hD hS hA [0, 1] [] rfl rfl (by decide) (by decide) (fun v t w1 H locs ht hW9 hp hP hD hS => by obtain ⟨x9, h9, -⟩ := hp; cases h9) (fun x t w1 H locs ht hW9 hp hP hD hS => ?_)
  obtain ⟨x9, h9, hX, rfl⟩ := hp
  cases h9
  have hP : va_P D kl [(d0, .inr (0, [.int dm, .ref gv, .ref dr, .ref rl, .ref yl, .ref mi, .ref fl, .ref bf, .int rk, .int sp, .int kn])), (rl, .inr (1, [.ref rc, .int (nI ct), .int (nI mo)]))] H := hP
  have hD : va_D A [(d0, .inr (0, [.int dm, .ref gv, .ref dr, .ref rl, .ref yl, .ref mi, .ref fl, .ref bf, .int rk, .int sp, .int kn])), (rl, .inr (1, [.ref rc, .int (nI ct), .int (nI mo)]))] := hD
  exact cx_pass (ws := [(d0, .inr (0, [.int dm, .ref gv, .ref dr, .ref rl, .ref yl, .ref mi, .ref fl, .ref bf, .int rk, .int sp, .int kn])), (rl, .inr (1, [.ref rc, .int (nI ct), .int (nI mo)]))]) hlocks hT ht hW9 hX (hP.sub [0, 1] rfl) (hD.sub [0, 1] (by decide) rfl) hS (fun x t hX => ⟨x, rfl, hX, rfl⟩)

set_option maxHeartbeats 4000000 in
set_option maxRecDepth 100000 in
theorem c_D_row_t2 {l : Launch} {s0 : State} {b0 : Addr} {D : va_G} {cI cJ cZ : ClassId} {tC tS : Nat} (E : gE l s0 b0 D cI cJ cZ tC tS) (sz : Nat) (d0 : Nat) (gv : Nat) (dr : Nat) (rl : Nat) (yl : Nat) (mi : Nat) (fl : Nat) (bf : Nat) (dm : Int32) (rk : Int32) (sp : Int32) (kn : Int32) (rc : Nat) (ct : Nat) (mo : Nat) (w : Int32) (i : Int32) (h1 : ¬ w < 0) (h2 : w < nI ct) (h : i < 0 ∨ dm ≤ i) : cx_M l s0 D kl y_D_row b_D_row 3 (some .int) ({ frames := 7, cells := 1, slots := 6, locals := 103 } : Room) 1 6 [.ref d0, .int w, .int i] [(d0, .inr (0, [.int dm, .ref gv, .ref dr, .ref rl, .ref yl, .ref mi, .ref fl, .ref bf, .int rk, .int sp, .int kn])), (rl, .inr (1, [.ref rc, .int (nI ct), .int (nI mo)]))] sz (fun o9 t9 w9 => ∃ (x9 : Nat), o9 = .threw x9 ∧ tx_X ex_x x9 t9 ∧ w9 = [(d0, .inr (0, [.int dm, .ref gv, .ref dr, .ref rl, .ref yl, .ref mi, .ref fl, .ref bf, .int rk, .int sp, .int kn])), (rl, .inr (1, [.ref rc, .int (nI ct), .int (nI mo)]))]) := by
  refine tx_ofW (cc := b_D_row) (maxL := 3) (ret := (some .int)) (by decide) rfl ?_
  intro p e s m args below meth c s₁ B hml hT hv
  obtain ⟨rfl, hsz, hP, hD0, hx0⟩ := hv
  have hx := B.exec
  have hb := B.bytes
  have hr := B.returns
  have G := E.2.1
  have hown : s.vm.findClass cn_D = some m.cls := findClass_of_methodNamed B.named
  have hlocks := B.notSynchronized
  have hK := va_K.moved hx0.1.alike E.2.2.1
  subst hsz
  have hA0 := cx_new hD0 hx0.2.1
  have hD := hD0.self (sz := s.heap.size)
  generalize hAe : va_A [(d0, .inr (0, [.int dm, .ref gv, .ref dr, .ref rl, .ref yl, .ref mi, .ref fl, .ref bf, .int rk, .int sp, .int kn])), (rl, .inr (1, [.ref rc, .int (nI ct), .int (nI mo)]))] s.heap.size = A at hD hA0 ⊢
  have hA : ∀ q : Nat, s.heap.size ≤ q → A q := fun q h => by rw [← hAe]; exact Or.inr h
  have hS : va_S A s.heap s.heap [] := va_S.rf
  have hl := lv_entry ([.ref d0, .int w, .int i]) (n := 3) (Nat.le_of_ble_eq_true rfl)
  rw [lg_entry_eq]
  generalize (lg_sl ([.ref d0, .int w, .int i]) ++ List.replicate (3 - (lg_sl ([.ref d0, .int w, .int i])).length) Slot.unset).toArray = ls at hl ⊢
  have hl : lv_has ls 3 [(0, .ref d0), (1, .int w), (2, .int i)] := hl
  have hP : va_P D kl [(d0, .inr (0, [.int dm, .ref gv, .ref dr, .ref rl, .ref yl, .ref mi, .ref fl, .ref bf, .int rk, .int sp, .int kn])), (rl, .inr (1, [.ref rc, .int (nI ct), .int (nI mo)]))] s.heap := hP
  have hml : c.maxLocals = 3 := hml
  refine lv_aload_n hx hb d_D_row_0 rfl (lv_at hl 0 rfl) ?_
  refine lv_iload_n hx hb d_D_row_1 rfl (lv_at hl 1 rfl) ?_
  refine cx_call (D := D) (cl := kl) (ws := _) (wc := [(d0, .inr (0, [.int dm, .ref gv, .ref dr, .ref rl, .ref yl, .ref mi, .ref fl, .ref bf, .int rk, .int sp, .int kn])), (rl, .inr (1, [.ref rc, .int (nI ct), .int (nI mo)]))]) (wr := []) (tx_runV (C := cn_D) (b := d0) (As := [.int w]) (rest := []) hx hb hml hown (c_D_needRow_r E s.heap.size d0 gv dr rl yl mi fl bf dm rk sp kn rc (nI ct) (nI mo) w h1 h2) (cx_C (b0 := b0) G hx0 mw_390 mw_1 ny_D_needRow (by decide)) (gw.at G hx0 mw_387 rfl _) (gw.at G hx0 mw_389 rfl _) (gw.at G hx0 ms_D_needRow rfl _) ⟨cx_blind, va_recv hK hP (q0 := 0) (ci := 0) (q := (cn_D, ft_D, 11)) rfl rfl, (cx_pre (s := s) hx0 hP hD hS hA0 [0, 1] rfl rfl (by decide))⟩ rfl rfl hl.1 rfl (lv_room (Nat.le_of_ble_eq_true rfl)) d_D_row_2 ⟨by decide, by decide⟩) hP hD hS hA [0, 1] [] rfl rfl (by decide) (by decide) (fun v t w1 H locs ht hW9 hp hP hD hS => ?_) (fun x t w1 H locs ht hW9 hp hP hD hS => by obtain ⟨h9, -⟩ := hp; cases h9)
  obtain ⟨h9, rfl⟩ := hp
  cases h9
  refine W.eq (g2 := F0 m 5 ls []) rfl ?_
  refine W.widen (k := 0) (n := 0) (by decide) (by decide) ?_
  have hP : va_P D kl [(d0, .inr (0, [.int dm, .ref gv, .ref dr, .ref rl, .ref yl, .ref mi, .ref fl, .ref bf, .int rk, .int sp, .int kn])), (rl, .inr (1, [.ref rc, .int (nI ct), .int (nI mo)]))] H := hP
  have hD : va_D A [(d0, .inr (0, [.int dm, .ref gv, .ref dr, .ref rl, .ref yl, .ref mi, .ref fl, .ref bf, .int rk, .int sp, .int kn])), (rl, .inr (1, [.ref rc, .int (nI ct), .int (nI mo)]))] := hD
  refine lv_aload_n hx hb d_D_row_5 rfl (lv_at hl 0 rfl) ?_
  refine lv_iload_n hx hb d_D_row_6 rfl (lv_at hl 2 rfl) ?_
  refine cx_call (D := D) (cl := kl) (ws := _) (wc := [(d0, .inr (0, [.int dm, .ref gv, .ref dr, .ref rl, .ref yl, .ref mi, .ref fl, .ref bf, .int rk, .int sp, .int kn]))]) (wr := [(rl, .inr (1, [.ref rc, .int (nI ct), .int (nI mo)]))]) (tx_runV (C := cn_D) (b := d0) (As := [.int i]) (rest := []) hx hb hml hown (c_D_needCo_t E H.size d0 gv dr rl yl mi fl bf dm rk sp kn i h) (cx_C (b0 := b0) G hx0 mw_425 mw_1 ny_D_needCoordinate (by decide)) (gw.at G hx0 mw_422 rfl _) (gw.at G hx0 mw_424 rfl _) (gw.at G hx0 ms_D_needCoordinate rfl _) ⟨cx_blind, va_recv hK hP (q0 := 0) (ci := 0) (q := (cn_D, ft_D, 11)) rfl rfl, (cx_pre (s := s) hx0 hP hD hS hA0 [0] rfl rfl (by decide))⟩ rfl rfl hl.1 rfl (lv_room (Nat.le_of_ble_eq_true rfl)) d_D_row_7 ⟨by decide, by decide⟩) hP hD hS hA [0] [1] rfl rfl (by decide) (by decide) (fun v t w1 H locs ht hW9 hp hP hD hS => by obtain ⟨x9, h9, -⟩ := hp; cases h9) (fun x t w1 H locs ht hW9 hp hP hD hS => ?_)
  obtain ⟨x9, h9, hX, rfl⟩ := hp
  cases h9
  have hP : va_P D kl [(rl, .inr (1, [.ref rc, .int (nI ct), .int (nI mo)])), (d0, .inr (0, [.int dm, .ref gv, .ref dr, .ref rl, .ref yl, .ref mi, .ref fl, .ref bf, .int rk, .int sp, .int kn]))] H := hP
  have hD : va_D A [(rl, .inr (1, [.ref rc, .int (nI ct), .int (nI mo)])), (d0, .inr (0, [.int dm, .ref gv, .ref dr, .ref rl, .ref yl, .ref mi, .ref fl, .ref bf, .int rk, .int sp, .int kn]))] := hD
  exact cx_pass (ws := [(d0, .inr (0, [.int dm, .ref gv, .ref dr, .ref rl, .ref yl, .ref mi, .ref fl, .ref bf, .int rk, .int sp, .int kn])), (rl, .inr (1, [.ref rc, .int (nI ct), .int (nI mo)]))]) hlocks hT ht hW9 hX (hP.sub [1, 0] rfl) (hD.sub [1, 0] (by decide) rfl) hS (fun x t hX => ⟨x, rfl, hX, rfl⟩)

set_option maxHeartbeats 4000000 in
set_option maxRecDepth 100000 in
theorem c_D_row_r {l : Launch} {s0 : State} {b0 : Addr} {D : va_G} {cI cJ cZ : ClassId} {tC tS : Nat} (E : gE l s0 b0 D cI cJ cZ tC tS) (sz : Nat) (d0 : Nat) (gv : Nat) (dr : Nat) (rl : Nat) (yl : Nat) (mi : Nat) (fl : Nat) (bf : Nat) (dm : Int32) (rk : Int32) (sp : Int32) (kn : Int32) (rc : Nat) (ct : Nat) (mo : Nat) (pz : Nat) (pf : Nat → Int32) (k : Nat) (i : Nat) (hpz : pz = mo * 4) (hmo : mo ≤ 107) (hct : ct ≤ mo) (hk : k < ct) (hi : i < 4) (hd : nI i < dm) : cx_M l s0 D kl y_D_row b_D_row 3 (some .int) ({ frames := 2, cells := 0, slots := 0, locals := 42 } : Room) 0 0 [.ref d0, .int (nI k), .int (nI i)] [(d0, .inr (0, [.int dm, .ref gv, .ref dr, .ref rl, .ref yl, .ref mi, .ref fl, .ref bf, .int rk, .int sp, .int kn])), (rl, .inr (1, [.ref rc, .int (nI ct), .int (nI mo)])), (rc, .inl (cI, pz, .inl pf))] sz (fun o9 _ w9 => o9 = .returned (some (.int (pf (k * 4 + i)))) ∧ w9 = [(d0, .inr (0, [.int dm, .ref gv, .ref dr, .ref rl, .ref yl, .ref mi, .ref fl, .ref bf, .int rk, .int sp, .int kn])), (rl, .inr (1, [.ref rc, .int (nI ct), .int (nI mo)])), (rc, .inl (cI, pz, .inl pf))]) := by
  refine tx_ofW (cc := b_D_row) (maxL := 3) (ret := (some .int)) (by decide) rfl ?_
  intro p e s m args below meth c s₁ B hml hT hv
  obtain ⟨rfl, hsz, hP, hD0, hx0⟩ := hv
  have hx := B.exec
  have hb := B.bytes
  have hr := B.returns
  have G := E.2.1
  have hown : s.vm.findClass cn_D = some m.cls := findClass_of_methodNamed B.named
  have hlocks := B.notSynchronized
  have hK := va_K.moved hx0.1.alike E.2.2.1
  have hf_D : ∀ w99 ∈ u_ws cn_D ft_D 11, w99.before ([.ref d0, .int (nI k), .int (nI i)] : List Value).toArray s = true := fun w99 h99 => gw.at G hx0 (fw_D w99 h99) (fo_D w99 h99) _
  subst hsz
  have hA0 := cx_new hD0 hx0.2.1
  have hD := hD0.self (sz := s.heap.size)
  generalize hAe : va_A [(d0, .inr (0, [.int dm, .ref gv, .ref dr, .ref rl, .ref yl, .ref mi, .ref fl, .ref bf, .int rk, .int sp, .int kn])), (rl, .inr (1, [.ref rc, .int (nI ct), .int (nI mo)])), (rc, .inl (cI, pz, .inl pf))] s.heap.size = A at hD hA0 ⊢
  have hA : ∀ q : Nat, s.heap.size ≤ q → A q := fun q h => by rw [← hAe]; exact Or.inr h
  have hS : va_S A s.heap s.heap [] := va_S.rf
  have hl := lv_entry ([.ref d0, .int (nI k), .int (nI i)]) (n := 3) (Nat.le_of_ble_eq_true rfl)
  rw [lg_entry_eq]
  generalize (lg_sl ([.ref d0, .int (nI k), .int (nI i)]) ++ List.replicate (3 - (lg_sl ([.ref d0, .int (nI k), .int (nI i)])).length) Slot.unset).toArray = ls at hl ⊢
  have hl : lv_has ls 3 [(0, .ref d0), (1, .int (nI k)), (2, .int (nI i))] := hl
  have hP : va_P D kl [(d0, .inr (0, [.int dm, .ref gv, .ref dr, .ref rl, .ref yl, .ref mi, .ref fl, .ref bf, .int rk, .int sp, .int kn])), (rl, .inr (1, [.ref rc, .int (nI ct), .int (nI mo)])), (rc, .inl (cI, pz, .inl pf))] s.heap := hP
  have hml : c.maxLocals = 3 := hml
  refine lv_aload_n hx hb d_D_row_0 rfl (lv_at hl 0 rfl) ?_
  refine lv_iload_n hx hb d_D_row_1 rfl (lv_at hl 1 rfl) ?_
  refine cx_call (D := D) (cl := kl) (ws := _) (wc := [(d0, .inr (0, [.int dm, .ref gv, .ref dr, .ref rl, .ref yl, .ref mi, .ref fl, .ref bf, .int rk, .int sp, .int kn])), (rl, .inr (1, [.ref rc, .int (nI ct), .int (nI mo)]))]) (wr := [(rc, .inl (cI, pz, .inl pf))]) (tx_runV (C := cn_D) (b := d0) (As := [.int (nI k)]) (rest := []) hx hb hml hown (c_D_needRow_r E s.heap.size d0 gv dr rl yl mi fl bf dm rk sp kn rc (nI ct) (nI mo) (nI k) (nI_pos (by omega)) (nI_lt hk (by omega))) (cx_C (b0 := b0) G hx0 mw_390 mw_1 ny_D_needRow (by decide)) (gw.at G hx0 mw_387 rfl _) (gw.at G hx0 mw_389 rfl _) (gw.at G hx0 ms_D_needRow rfl _) ⟨cx_blind, va_recv hK hP (q0 := 0) (ci := 0) (q := (cn_D, ft_D, 11)) rfl rfl, (cx_pre (s := s) hx0 hP hD hS hA0 [0, 1] rfl rfl (by decide))⟩ rfl rfl hl.1 rfl (lv_room (Nat.le_of_ble_eq_true rfl)) d_D_row_2 ⟨by decide, by decide⟩) hP hD hS hA [0, 1] [2] rfl rfl (by decide) (by decide) (fun v t w1 H locs ht hW9 hp hP hD hS => ?_) (fun x t w1 H locs ht hW9 hp hP hD hS => by obtain ⟨h9, -⟩ := hp; cases h9)
  obtain ⟨h9, rfl⟩ := hp
  cases h9
  refine W.eq (g2 := F0 m 5 ls []) rfl ?_
  refine W.widen (k := 0) (n := 0) (by decide) (by decide) ?_
  have hP : va_P D kl [(rc, .inl (cI, pz, .inl pf)), (d0, .inr (0, [.int dm, .ref gv, .ref dr, .ref rl, .ref yl, .ref mi, .ref fl, .ref bf, .int rk, .int sp, .int kn])), (rl, .inr (1, [.ref rc, .int (nI ct), .int (nI mo)]))] H := hP
  have hD : va_D A [(rc, .inl (cI, pz, .inl pf)), (d0, .inr (0, [.int dm, .ref gv, .ref dr, .ref rl, .ref yl, .ref mi, .ref fl, .ref bf, .int rk, .int sp, .int kn])), (rl, .inr (1, [.ref rc, .int (nI ct), .int (nI mo)]))] := hD
  refine lv_aload_n hx hb d_D_row_5 rfl (lv_at hl 0 rfl) ?_
  refine lv_iload_n hx hb d_D_row_6 rfl (lv_at hl 2 rfl) ?_
  refine cx_call (D := D) (cl := kl) (ws := _) (wc := [(d0, .inr (0, [.int dm, .ref gv, .ref dr, .ref rl, .ref yl, .ref mi, .ref fl, .ref bf, .int rk, .int sp, .int kn]))]) (wr := [(rc, .inl (cI, pz, .inl pf)), (rl, .inr (1, [.ref rc, .int (nI ct), .int (nI mo)]))]) (tx_runV (C := cn_D) (b := d0) (As := [.int (nI i)]) (rest := []) hx hb hml hown (c_D_needCo_r E H.size d0 gv dr rl yl mi fl bf dm rk sp kn (nI i) (nI_pos (by omega)) hd) (cx_C (b0 := b0) G hx0 mw_425 mw_1 ny_D_needCoordinate (by decide)) (gw.at G hx0 mw_422 rfl _) (gw.at G hx0 mw_424 rfl _) (gw.at G hx0 ms_D_needCoordinate rfl _) ⟨cx_blind, va_recv hK hP (q0 := 1) (ci := 0) (q := (cn_D, ft_D, 11)) rfl rfl, (cx_pre (s := s) hx0 hP hD hS hA0 [1] rfl rfl (by decide))⟩ rfl rfl hl.1 rfl (lv_room (Nat.le_of_ble_eq_true rfl)) d_D_row_7 ⟨by decide, by decide⟩) hP hD hS hA [1] [0, 2] rfl rfl (by decide) (by decide) (fun v t w1 H locs ht hW9 hp hP hD hS => ?_) (fun x t w1 H locs ht hW9 hp hP hD hS => by obtain ⟨h9, -⟩ := hp; cases h9)
  obtain ⟨h9, rfl⟩ := hp
  cases h9
  refine W.eq (g2 := F0 m 10 ls []) rfl ?_
  refine W.widen (k := 0) (n := 0) (by decide) (by decide) ?_
  have hP : va_P D kl [(rc, .inl (cI, pz, .inl pf)), (rl, .inr (1, [.ref rc, .int (nI ct), .int (nI mo)])), (d0, .inr (0, [.int dm, .ref gv, .ref dr, .ref rl, .ref yl, .ref mi, .ref fl, .ref bf, .int rk, .int sp, .int kn]))] H := hP
  have hD : va_D A [(rc, .inl (cI, pz, .inl pf)), (rl, .inr (1, [.ref rc, .int (nI ct), .int (nI mo)])), (d0, .inr (0, [.int dm, .ref gv, .ref dr, .ref rl, .ref yl, .ref mi, .ref fl, .ref bf, .int rk, .int sp, .int kn]))] := hD
  refine lv_aload_n hx hb d_D_row_10 rfl (lv_at hl 0 rfl) ?_
  refine va_get (D := D) (ci := 0) (v := .ref rl) (C := cn_D) (T := ft_D) (N := 11) hx hb hf_D (fun _ h => h) hown hK hP 2 rfl rfl 3 (by decide) (gw.at G hx0 mw_197 rfl _) (fun _ h9 => h9) rfl d_D_row_11 ?_
  refine lv_iload_n hx hb d_D_row_14 rfl (lv_at hl 1 rfl) ?_
  refine lv_iload_n hx hb d_D_row_15 rfl (lv_at hl 2 rfl) ?_
  refine cx_call (D := D) (cl := kl) (ws := _) (wc := [(rl, .inr (1, [.ref rc, .int (nI ct), .int (nI mo)])), (rc, .inl (cI, pz, .inl pf))]) (wr := [(d0, .inr (0, [.int dm, .ref gv, .ref dr, .ref rl, .ref yl, .ref mi, .ref fl, .ref bf, .int rk, .int sp, .int kn]))]) (tx_runV (C := cn_PL) (b := rl) (As := [.int (nI k), .int (nI i)]) (rest := []) hx hb hml hown (c_PL_at E H.size rl rc ct mo pz pf k i hpz hmo hct (by omega) hi) (cx_C (b0 := b0) G hx0 mw_251 mw_3 ny_PL_at (by decide)) (gw.at G hx0 mw_427 rfl _) (gw.at G hx0 mw_249 rfl _) (gw.at G hx0 mw_250 rfl _) ⟨cx_blind, va_recv hK hP (q0 := 1) (ci := 1) (q := (cn_PL, ft_PL, 3)) rfl rfl, (cx_pre (s := s) hx0 hP hD hS hA0 [1, 0] rfl rfl (by decide))⟩ rfl rfl hl.1 rfl (lv_room (Nat.le_of_ble_eq_true rfl)) d_D_row_16 ⟨by decide, by decide⟩) hP hD hS hA [1, 0] [2] rfl rfl (by decide) (by decide) (fun v t w1 H locs ht hW9 hp hP hD hS => ?_) (fun x t w1 H locs ht hW9 hp hP hD hS => by obtain ⟨h9, -⟩ := hp; cases h9)
  obtain ⟨h9, rfl⟩ := hp
  cases h9
  refine W.eq (g2 := F0 m 19 ls [.int (pf (k * 4 + i))]) rfl ?_
  refine W.widen (k := 0) (n := 0) (by decide) (by decide) ?_
  have hP : va_P D kl [(d0, .inr (0, [.int dm, .ref gv, .ref dr, .ref rl, .ref yl, .ref mi, .ref fl, .ref bf, .int rk, .int sp, .int kn])), (rl, .inr (1, [.ref rc, .int (nI ct), .int (nI mo)])), (rc, .inl (cI, pz, .inl pf))] H := hP
  have hD : va_D A [(d0, .inr (0, [.int dm, .ref gv, .ref dr, .ref rl, .ref yl, .ref mi, .ref fl, .ref bf, .int rk, .int sp, .int kn])), (rl, .inr (1, [.ref rc, .int (nI ct), .int (nI mo)])), (rc, .inl (cI, pz, .inl pf))] := hD
  exact tx_mono (fun _ h => tx_Z.of h) (W.iret (v := pf (k * 4 + i)) hx hb hr (fun t ht hW => ⟨⟨[(d0, .inr (0, [.int dm, .ref gv, .ref dr, .ref rl, .ref yl, .ref mi, .ref fl, .ref bf, .int rk, .int sp, .int kn])), (rl, .inr (1, [.ref rc, .int (nI ct), .int (nI mo)])), (rc, .inl (cI, pz, .inl pf))], ⟨rfl, rfl⟩, by rw [ht]; exact hP.sub [0, 1, 2] rfl, hD.sub [0, 1, 2] (by decide) rfl⟩, hS.F ht⟩) hS.2.2 d_D_row_19)

set_option maxHeartbeats 4000000 in
set_option maxRecDepth 100000 in
theorem c_D_drop_r {l : Launch} {s0 : State} {b0 : Addr} {D : va_G} {cI cJ cZ : ClassId} {tC tS : Nat} (E : gE l s0 b0 D cI cJ cZ tC tS) (sz : Nat) (d0 : Nat) (gv : Nat) (dr : Nat) (rl : Nat) (yl : Nat) (mi : Nat) (fl : Nat) (bf : Nat) (dm : Int32) (rk : Int32) (sp : Int32) (kn : Int32) (rc : Nat) (ct : Nat) (mo : Nat) (pz : Nat) (pf : Nat → Int32) (cu : Nat) (nx : Nat) (cf : Nat → Int64) (nf : Nat → Int64) (jz : Int32) (k : Nat) (hpz : pz = mo * 4) (hmo : mo ≤ 107) (hct : ct ≤ mo) (hc12 : ct ≤ 12) (hk : k < ct) : cx_M l s0 D kl y_D_drop b_D_drop 2 none ({ frames := 3, cells := 0, slots := 0, locals := 73 } : Room) 0 0 [.ref d0, .int (nI k)] [(d0, .inr (0, [.int dm, .ref gv, .ref dr, .ref rl, .ref yl, .ref mi, .ref fl, .ref bf, .int rk, .int sp, .int kn])), (rl, .inr (1, [.ref rc, .int (nI ct), .int (nI mo)])), (rc, .inl (cI, pz, .inl pf)), (mi, .inr (2, [.ref cu, .ref nx, .int jz])), (cu, .inl (cJ, 16, .inr (.inl cf))), (nx, .inl (cJ, 16, .inr (.inl nf)))] sz (fun o9 _ w9 => ∃ (ca : Nat) (nb : Nat) (fa : Nat → Int64) (fb : Nat → Int64), o9 = .returned none ∧ w9 = [(d0, .inr (0, [.int dm, .ref gv, .ref dr, .ref rl, .ref yl, .ref mi, .ref fl, .ref bf, .int (nI ((lst (va_cpy pf pf ((k + 1) * 4) (k * 4) (ct * 4 - (k + 1) * 4)) (2 ^ (ct - 1) - 1) (ct - 1)).1)), .int sp, .int (0 : Int32)])), (rl, .inr (1, [.ref rc, .int (nI (ct - 1)), .int (nI mo)])), (rc, .inl (cI, pz, .inl (va_cpy pf pf ((k + 1) * 4) (k * 4) (ct * 4 - (k + 1) * 4)))), (mi, .inr (2, [.ref ca, .ref nb, .int (nI ((lst (va_cpy pf pf ((k + 1) * 4) (k * 4) (ct * 4 - (k + 1) * 4)) (2 ^ (ct - 1) - 1) (ct - 1)).1))])), (ca, .inl (cJ, 16, .inr (.inl fa))), (nb, .inl (cJ, 16, .inr (.inl fb)))]) := by
  refine tx_ofW (cc := b_D_drop) (maxL := 2) (ret := none) (by decide) rfl ?_
  intro p e s m args below meth c s₁ B hml hT hv
  obtain ⟨rfl, hsz, hP, hD0, hx0⟩ := hv
  have hx := B.exec
  have hb := B.bytes
  have hr := B.returns
  have G := E.2.1
  have hown : s.vm.findClass cn_D = some m.cls := findClass_of_methodNamed B.named
  have hlocks := B.notSynchronized
  have hK := va_K.moved hx0.1.alike E.2.2.1
  have hf_D : ∀ w99 ∈ u_ws cn_D ft_D 11, w99.before ([.ref d0, .int (nI k)] : List Value).toArray s = true := fun w99 h99 => gw.at G hx0 (fw_D w99 h99) (fo_D w99 h99) _
  subst hsz
  have hA0 := cx_new hD0 hx0.2.1
  have hD := hD0.self (sz := s.heap.size)
  generalize hAe : va_A [(d0, .inr (0, [.int dm, .ref gv, .ref dr, .ref rl, .ref yl, .ref mi, .ref fl, .ref bf, .int rk, .int sp, .int kn])), (rl, .inr (1, [.ref rc, .int (nI ct), .int (nI mo)])), (rc, .inl (cI, pz, .inl pf)), (mi, .inr (2, [.ref cu, .ref nx, .int jz])), (cu, .inl (cJ, 16, .inr (.inl cf))), (nx, .inl (cJ, 16, .inr (.inl nf)))] s.heap.size = A at hD hA0 ⊢
  have hA : ∀ q : Nat, s.heap.size ≤ q → A q := fun q h => by rw [← hAe]; exact Or.inr h
  have hS : va_S A s.heap s.heap [] := va_S.rf
  have hl := lv_entry ([.ref d0, .int (nI k)]) (n := 2) (Nat.le_of_ble_eq_true rfl)
  rw [lg_entry_eq]
  generalize (lg_sl ([.ref d0, .int (nI k)]) ++ List.replicate (2 - (lg_sl ([.ref d0, .int (nI k)])).length) Slot.unset).toArray = ls at hl ⊢
  have hl : lv_has ls 2 [(0, .ref d0), (1, .int (nI k))] := hl
  have hP : va_P D kl [(d0, .inr (0, [.int dm, .ref gv, .ref dr, .ref rl, .ref yl, .ref mi, .ref fl, .ref bf, .int rk, .int sp, .int kn])), (rl, .inr (1, [.ref rc, .int (nI ct), .int (nI mo)])), (rc, .inl (cI, pz, .inl pf)), (mi, .inr (2, [.ref cu, .ref nx, .int jz])), (cu, .inl (cJ, 16, .inr (.inl cf))), (nx, .inl (cJ, 16, .inr (.inl nf)))] s.heap := hP
  have hml : c.maxLocals = 2 := hml
  refine lv_aload_n hx hb d_D_drop_0 rfl (lv_at hl 0 rfl) ?_
  refine lv_iload_n hx hb d_D_drop_1 rfl (lv_at hl 1 rfl) ?_
  refine cx_call (D := D) (cl := kl) (ws := _) (wc := [(d0, .inr (0, [.int dm, .ref gv, .ref dr, .ref rl, .ref yl, .ref mi, .ref fl, .ref bf, .int rk, .int sp, .int kn])), (rl, .inr (1, [.ref rc, .int (nI ct), .int (nI mo)]))]) (wr := [(rc, .inl (cI, pz, .inl pf)), (mi, .inr (2, [.ref cu, .ref nx, .int jz])), (cu, .inl (cJ, 16, .inr (.inl cf))), (nx, .inl (cJ, 16, .inr (.inl nf)))]) (tx_runV (C := cn_D) (b := d0) (As := [.int (nI k)]) (rest := []) hx hb hml hown (c_D_needRow_r E s.heap.size d0 gv dr rl yl mi fl bf dm rk sp kn rc (nI ct) (nI mo) (nI k) (nI_pos (by omega)) (nI_lt hk (by omega))) (cx_C (b0 := b0) G hx0 mw_390 mw_1 ny_D_needRow (by decide)) (gw.at G hx0 mw_387 rfl _) (gw.at G hx0 mw_389 rfl _) (gw.at G hx0 ms_D_needRow rfl _) ⟨cx_blind, va_recv hK hP (q0 := 0) (ci := 0) (q := (cn_D, ft_D, 11)) rfl rfl, (cx_pre (s := s) hx0 hP hD hS hA0 [0, 1] rfl rfl (by decide))⟩ rfl rfl hl.1 rfl (lv_room (Nat.le_of_ble_eq_true rfl)) d_D_drop_2 ⟨by decide, by decide⟩) hP hD hS hA [0, 1] [2, 3, 4, 5] rfl rfl (by decide) (by decide) (fun v t w1 H locs ht hW9 hp hP hD hS => ?_) (fun x t w1 H locs ht hW9 hp hP hD hS => by obtain ⟨h9, -⟩ := hp; cases h9)
  obtain ⟨h9, rfl⟩ := hp
  cases h9
  refine W.eq (g2 := F0 m 5 ls []) rfl ?_
  refine W.widen (k := 0) (n := 0) (by decide) (by decide) ?_
  have hP : va_P D kl [(rc, .inl (cI, pz, .inl pf)), (mi, .inr (2, [.ref cu, .ref nx, .int jz])), (cu, .inl (cJ, 16, .inr (.inl cf))), (nx, .inl (cJ, 16, .inr (.inl nf))), (d0, .inr (0, [.int dm, .ref gv, .ref dr, .ref rl, .ref yl, .ref mi, .ref fl, .ref bf, .int rk, .int sp, .int kn])), (rl, .inr (1, [.ref rc, .int (nI ct), .int (nI mo)]))] H := hP
  have hD : va_D A [(rc, .inl (cI, pz, .inl pf)), (mi, .inr (2, [.ref cu, .ref nx, .int jz])), (cu, .inl (cJ, 16, .inr (.inl cf))), (nx, .inl (cJ, 16, .inr (.inl nf))), (d0, .inr (0, [.int dm, .ref gv, .ref dr, .ref rl, .ref yl, .ref mi, .ref fl, .ref bf, .int rk, .int sp, .int kn])), (rl, .inr (1, [.ref rc, .int (nI ct), .int (nI mo)]))] := hD
  refine lv_aload_n hx hb d_D_drop_5 rfl (lv_at hl 0 rfl) ?_
  refine va_get (D := D) (ci := 0) (v := .ref rl) (C := cn_D) (T := ft_D) (N := 11) hx hb hf_D (fun _ h => h) hown hK hP 4 rfl rfl 3 (by decide) (gw.at G hx0 mw_197 rfl _) (fun _ h9 => h9) rfl d_D_drop_6 ?_
  refine lv_iload_n hx hb d_D_drop_9 rfl (lv_at hl 1 rfl) ?_
  refine cx_call (D := D) (cl := kl) (ws := _) (wc := [(rl, .inr (1, [.ref rc, .int (nI ct), .int (nI mo)])), (rc, .inl (cI, pz, .inl pf))]) (wr := [(mi, .inr (2, [.ref cu, .ref nx, .int jz])), (cu, .inl (cJ, 16, .inr (.inl cf))), (nx, .inl (cJ, 16, .inr (.inl nf))), (d0, .inr (0, [.int dm, .ref gv, .ref dr, .ref rl, .ref yl, .ref mi, .ref fl, .ref bf, .int rk, .int sp, .int kn]))]) (tx_runV (C := cn_PL) (b := rl) (As := [.int (nI k)]) (rest := []) hx hb hml hown (c_PL_remove E H.size rl rc ct mo pz pf k hpz hmo hct hk) (cx_C (b0 := b0) G hx0 mw_414 mw_3 ny_PL_removeAt (by decide)) (gw.at G hx0 mw_411 rfl _) (gw.at G hx0 mw_412 rfl _) (gw.at G hx0 mw_413 rfl _) ⟨cx_blind, va_recv hK hP (q0 := 5) (ci := 1) (q := (cn_PL, ft_PL, 3)) rfl rfl, (cx_pre (s := s) hx0 hP hD hS hA0 [5, 0] rfl rfl (by decide))⟩ rfl rfl hl.1 rfl (lv_room (Nat.le_of_ble_eq_true rfl)) d_D_drop_10 ⟨by decide, by decide⟩) hP hD hS hA [5, 0] [1, 2, 3, 4] rfl rfl (by decide) (by decide) (fun v t w1 H locs ht hW9 hp hP hD hS => ?_) (fun x t w1 H locs ht hW9 hp hP hD hS => by obtain ⟨h9, -⟩ := hp; cases h9)
  obtain ⟨h9, rfl⟩ := hp
  cases h9
  refine W.eq (g2 := F0 m 13 ls []) rfl ?_
  refine W.widen (k := 0) (n := 0) (by decide) (by decide) ?_
  have hP : va_P D kl [(mi, .inr (2, [.ref cu, .ref nx, .int jz])), (cu, .inl (cJ, 16, .inr (.inl cf))), (nx, .inl (cJ, 16, .inr (.inl nf))), (d0, .inr (0, [.int dm, .ref gv, .ref dr, .ref rl, .ref yl, .ref mi, .ref fl, .ref bf, .int rk, .int sp, .int kn])), (rl, .inr (1, [.ref rc, .int (nI (ct - 1)), .int (nI mo)])), (rc, .inl (cI, pz, .inl (va_cpy pf pf ((k + 1) * 4) (k * 4) (ct * 4 - (k + 1) * 4))))] H := hP
  have hD : va_D A [(mi, .inr (2, [.ref cu, .ref nx, .int jz])), (cu, .inl (cJ, 16, .inr (.inl cf))), (nx, .inl (cJ, 16, .inr (.inl nf))), (d0, .inr (0, [.int dm, .ref gv, .ref dr, .ref rl, .ref yl, .ref mi, .ref fl, .ref bf, .int rk, .int sp, .int kn])), (rl, .inr (1, [.ref rc, .int (nI (ct - 1)), .int (nI mo)])), (rc, .inl (cI, pz, .inl (va_cpy pf pf ((k + 1) * 4) (k * 4) (ct * 4 - (k + 1) * 4))))] := hD
  refine lv_aload_n hx hb d_D_drop_13 rfl (lv_at hl 0 rfl) ?_
  refine cx_call (D := D) (cl := kl) (ws := _) (wc := [(d0, .inr (0, [.int dm, .ref gv, .ref dr, .ref rl, .ref yl, .ref mi, .ref fl, .ref bf, .int rk, .int sp, .int kn])), (rl, .inr (1, [.ref rc, .int (nI (ct - 1)), .int (nI mo)])), (rc, .inl (cI, pz, .inl (va_cpy pf pf ((k + 1) * 4) (k * 4) (ct * 4 - (k + 1) * 4)))), (mi, .inr (2, [.ref cu, .ref nx, .int jz])), (cu, .inl (cJ, 16, .inr (.inl cf))), (nx, .inl (cJ, 16, .inr (.inl nf)))]) (wr := []) (tx_runV (C := cn_D) (b := d0) (As := []) (rest := []) hx hb hml hown (c_D_note E H.size d0 gv dr rl yl mi fl bf dm rk sp kn rc (ct - 1) mo pz (va_cpy pf pf ((k + 1) * 4) (k * 4) (ct * 4 - (k + 1) * 4)) cu nx cf nf jz hpz hmo (by omega) (by omega)) (cx_C (b0 := b0) G hx0 mw_362 mw_1 ny_D_noteChange (by decide)) (gw.at G hx0 mw_359 rfl _) (gw.at G hx0 mw_361 rfl _) (gw.at G hx0 ms_D_noteChange rfl _) ⟨cx_blind, va_recv hK hP (q0 := 3) (ci := 0) (q := (cn_D, ft_D, 11)) rfl rfl, (cx_pre (s := s) hx0 hP hD hS hA0 [3, 4, 5, 0, 1, 2] rfl rfl (by decide))⟩ rfl rfl hl.1 rfl (lv_room (Nat.le_of_ble_eq_true rfl)) d_D_drop_14 ⟨by decide, by decide⟩) hP hD hS hA [3, 4, 5, 0, 1, 2] [] rfl rfl (by decide) (by decide) (fun v t w1 H locs ht hW9 hp hP hD hS => ?_) (fun x t w1 H locs ht hW9 hp hP hD hS => by obtain ⟨_, _, _, _, h9, -⟩ := hp; cases h9)
  obtain ⟨ca_1, nb_2, fa_3, fb_4, h9, rfl⟩ := hp
  cases h9
  refine W.eq (g2 := F0 m 17 ls []) rfl ?_
  refine W.widen (k := 0) (n := 0) (by decide) (by decide) ?_
  have hP : va_P D kl [(d0, .inr (0, [.int dm, .ref gv, .ref dr, .ref rl, .ref yl, .ref mi, .ref fl, .ref bf, .int (nI ((lst (va_cpy pf pf ((k + 1) * 4) (k * 4) (ct * 4 - (k + 1) * 4)) (2 ^ (ct - 1) - 1) (ct - 1)).1)), .int sp, .int (0 : Int32)])), (rl, .inr (1, [.ref rc, .int (nI (ct - 1)), .int (nI mo)])), (rc, .inl (cI, pz, .inl (va_cpy pf pf ((k + 1) * 4) (k * 4) (ct * 4 - (k + 1) * 4)))), (mi, .inr (2, [.ref ca_1, .ref nb_2, .int (nI ((lst (va_cpy pf pf ((k + 1) * 4) (k * 4) (ct * 4 - (k + 1) * 4)) (2 ^ (ct - 1) - 1) (ct - 1)).1))])), (ca_1, .inl (cJ, 16, .inr (.inl fa_3))), (nb_2, .inl (cJ, 16, .inr (.inl fb_4)))] H := hP
  have hD : va_D A [(d0, .inr (0, [.int dm, .ref gv, .ref dr, .ref rl, .ref yl, .ref mi, .ref fl, .ref bf, .int (nI ((lst (va_cpy pf pf ((k + 1) * 4) (k * 4) (ct * 4 - (k + 1) * 4)) (2 ^ (ct - 1) - 1) (ct - 1)).1)), .int sp, .int (0 : Int32)])), (rl, .inr (1, [.ref rc, .int (nI (ct - 1)), .int (nI mo)])), (rc, .inl (cI, pz, .inl (va_cpy pf pf ((k + 1) * 4) (k * 4) (ct * 4 - (k + 1) * 4)))), (mi, .inr (2, [.ref ca_1, .ref nb_2, .int (nI ((lst (va_cpy pf pf ((k + 1) * 4) (k * 4) (ct * 4 - (k + 1) * 4)) (2 ^ (ct - 1) - 1) (ct - 1)).1))])), (ca_1, .inl (cJ, 16, .inr (.inl fa_3))), (nb_2, .inl (cJ, 16, .inr (.inl fb_4)))] := hD
  exact tx_mono (fun _ h => tx_Z.of h) (W.vret hx hb hr (fun t ht hW => ⟨⟨[(d0, .inr (0, [.int dm, .ref gv, .ref dr, .ref rl, .ref yl, .ref mi, .ref fl, .ref bf, .int (nI ((lst (va_cpy pf pf ((k + 1) * 4) (k * 4) (ct * 4 - (k + 1) * 4)) (2 ^ (ct - 1) - 1) (ct - 1)).1)), .int sp, .int (0 : Int32)])), (rl, .inr (1, [.ref rc, .int (nI (ct - 1)), .int (nI mo)])), (rc, .inl (cI, pz, .inl (va_cpy pf pf ((k + 1) * 4) (k * 4) (ct * 4 - (k + 1) * 4)))), (mi, .inr (2, [.ref ca_1, .ref nb_2, .int (nI ((lst (va_cpy pf pf ((k + 1) * 4) (k * 4) (ct * 4 - (k + 1) * 4)) (2 ^ (ct - 1) - 1) (ct - 1)).1))])), (ca_1, .inl (cJ, 16, .inr (.inl fa_3))), (nb_2, .inl (cJ, 16, .inr (.inl fb_4)))], ⟨ca_1, nb_2, fa_3, fb_4, rfl, rfl⟩, by rw [ht]; exact hP.sub [0, 1, 2, 3, 4, 5] rfl, hD.sub [0, 1, 2, 3, 4, 5] (by decide) rfl⟩, hS.F ht⟩) hS.2.2 d_D_drop_17)

set_option maxHeartbeats 4000000 in
set_option maxRecDepth 100000 in
theorem c_D_add_r {l : Launch} {s0 : State} {b0 : Addr} {D : va_G} {cI cJ cZ : ClassId} {tC tS : Nat} (E : gE l s0 b0 D cI cJ cZ tC tS) (sz : Nat) (d0 : Nat) (gv : Nat) (dr : Nat) (rl : Nat) (yl : Nat) (mi : Nat) (fl : Nat) (bf : Nat) (dm : Int32) (rk : Int32) (sp : Int32) (kn : Int32) (a : Int32) (b : Int32) (c2 : Int32) (d2 : Int32) (g : Nat → Int32) (rc : Nat) (ct : Nat) (mo : Nat) (pz : Nat) (pf : Nat → Int32) (cu : Nat) (nx : Nat) (cf : Nat → Int64) (nf : Nat → Int64) (jz : Int32) (hpz : pz = mo * 4) (hmo : mo ≤ 107) (hct : ct ≤ mo) (h1 : iw (5 : Int32) a b (tk_c dm c2) (tk_d dm d2)) (h2 : ¬ iw (0 : Int32) a b (tk_c dm c2) (tk_d dm d2)) (hlt : ct < 8) (hm8 : mo = 8) : cx_M l s0 D kl y_D_add b_D_add 5 (some .int) ({ frames := 3, cells := 0, slots := 0, locals := 73 } : Room) 0 0 [.ref d0, .int a, .int b, .int c2, .int d2] [(d0, .inr (0, [.int dm, .ref gv, .ref dr, .ref rl, .ref yl, .ref mi, .ref fl, .ref bf, .int rk, .int sp, .int kn])), (gv, .inl (cI, 4, .inl g)), (rl, .inr (1, [.ref rc, .int (nI ct), .int (nI mo)])), (rc, .inl (cI, pz, .inl pf)), (mi, .inr (2, [.ref cu, .ref nx, .int jz])), (cu, .inl (cJ, 16, .inr (.inl cf))), (nx, .inl (cJ, 16, .inr (.inl nf)))] sz (fun o9 _ w9 => ∃ (ca : Nat) (nb : Nat) (fa : Nat → Int64) (fb : Nat → Int64), o9 = .returned (some (.int (nI ct))) ∧ w9 = [(d0, .inr (0, [.int dm, .ref gv, .ref dr, .ref rl, .ref yl, .ref mi, .ref fl, .ref bf, .int (nI ((lst (va_cpy (upd (upd (upd (upd g 0 a) 1 b) 2 (tk_c dm c2)) 3 (tk_d dm d2)) (va_cpy pf pf (ct * 4) (ct * 4 + 4) (ct * 4 - ct * 4)) 0 (ct * 4) 4) (2 ^ (ct + 1) - 1) (ct + 1)).1)), .int sp, .int (0 : Int32)])), (gv, .inl (cI, 4, .inl (upd (upd (upd (upd g 0 a) 1 b) 2 (tk_c dm c2)) 3 (tk_d dm d2)))), (rl, .inr (1, [.ref rc, .int (nI (ct + 1)), .int (nI mo)])), (rc, .inl (cI, pz, .inl (va_cpy (upd (upd (upd (upd g 0 a) 1 b) 2 (tk_c dm c2)) 3 (tk_d dm d2)) (va_cpy pf pf (ct * 4) (ct * 4 + 4) (ct * 4 - ct * 4)) 0 (ct * 4) 4))), (mi, .inr (2, [.ref ca, .ref nb, .int (nI ((lst (va_cpy (upd (upd (upd (upd g 0 a) 1 b) 2 (tk_c dm c2)) 3 (tk_d dm d2)) (va_cpy pf pf (ct * 4) (ct * 4 + 4) (ct * 4 - ct * 4)) 0 (ct * 4) 4) (2 ^ (ct + 1) - 1) (ct + 1)).1))])), (ca, .inl (cJ, 16, .inr (.inl fa))), (nb, .inl (cJ, 16, .inr (.inl fb)))]) := by
  refine tx_ofW (cc := b_D_add) (maxL := 5) (ret := (some .int)) (by decide) rfl ?_
  intro p e s m args below meth c s₁ B hml hT hv
  obtain ⟨rfl, hsz, hP, hD0, hx0⟩ := hv
  have hx := B.exec
  have hb := B.bytes
  have hr := B.returns
  have G := E.2.1
  have hown : s.vm.findClass cn_D = some m.cls := findClass_of_methodNamed B.named
  have hlocks := B.notSynchronized
  have hK := va_K.moved hx0.1.alike E.2.2.1
  have hf_D : ∀ w99 ∈ u_ws cn_D ft_D 11, w99.before ([.ref d0, .int a, .int b, .int c2, .int d2] : List Value).toArray s = true := fun w99 h99 => gw.at G hx0 (fw_D w99 h99) (fo_D w99 h99) _
  have hf_PL : ∀ w99 ∈ u_ws cn_PL ft_PL 3, w99.before ([.ref d0, .int a, .int b, .int c2, .int d2] : List Value).toArray s = true := fun w99 h99 => gw.at G hx0 (fw_PL w99 h99) (fo_PL w99 h99) _
  subst hsz
  have hA0 := cx_new hD0 hx0.2.1
  have hD := hD0.self (sz := s.heap.size)
  generalize hAe : va_A [(d0, .inr (0, [.int dm, .ref gv, .ref dr, .ref rl, .ref yl, .ref mi, .ref fl, .ref bf, .int rk, .int sp, .int kn])), (gv, .inl (cI, 4, .inl g)), (rl, .inr (1, [.ref rc, .int (nI ct), .int (nI mo)])), (rc, .inl (cI, pz, .inl pf)), (mi, .inr (2, [.ref cu, .ref nx, .int jz])), (cu, .inl (cJ, 16, .inr (.inl cf))), (nx, .inl (cJ, 16, .inr (.inl nf)))] s.heap.size = A at hD hA0 ⊢
  have hA : ∀ q : Nat, s.heap.size ≤ q → A q := fun q h => by rw [← hAe]; exact Or.inr h
  have hS : va_S A s.heap s.heap [] := va_S.rf
  have hl := lv_entry ([.ref d0, .int a, .int b, .int c2, .int d2]) (n := 5) (Nat.le_of_ble_eq_true rfl)
  rw [lg_entry_eq]
  generalize (lg_sl ([.ref d0, .int a, .int b, .int c2, .int d2]) ++ List.replicate (5 - (lg_sl ([.ref d0, .int a, .int b, .int c2, .int d2])).length) Slot.unset).toArray = ls at hl ⊢
  have hl : lv_has ls 5 [(0, .ref d0), (1, .int a), (2, .int b), (3, .int c2), (4, .int d2)] := hl
  have hP : va_P D kl [(d0, .inr (0, [.int dm, .ref gv, .ref dr, .ref rl, .ref yl, .ref mi, .ref fl, .ref bf, .int rk, .int sp, .int kn])), (gv, .inl (cI, 4, .inl g)), (rl, .inr (1, [.ref rc, .int (nI ct), .int (nI mo)])), (rc, .inl (cI, pz, .inl pf)), (mi, .inr (2, [.ref cu, .ref nx, .int jz])), (cu, .inl (cJ, 16, .inr (.inl cf))), (nx, .inl (cJ, 16, .inr (.inl nf)))] s.heap := hP
  have hml : c.maxLocals = 5 := hml
  refine lv_aload_n hx hb d_D_add_0 rfl (lv_at hl 0 rfl) ?_
  refine lv_iload_n hx hb d_D_add_1 rfl (lv_at hl 1 rfl) ?_
  refine lv_iload_n hx hb d_D_add_2 rfl (lv_at hl 2 rfl) ?_
  refine lv_iload_n hx hb d_D_add_3 rfl (lv_at hl 3 rfl) ?_
  refine lv_iload hx hb d_D_add_4 (lv_at hl 4 rfl) ?_
  refine cx_call (D := D) (cl := kl) (ws := _) (wc := [(d0, .inr (0, [.int dm, .ref gv, .ref dr, .ref rl, .ref yl, .ref mi, .ref fl, .ref bf, .int rk, .int sp, .int kn])), (gv, .inl (cI, 4, .inl g))]) (wr := [(rl, .inr (1, [.ref rc, .int (nI ct), .int (nI mo)])), (rc, .inl (cI, pz, .inl pf)), (mi, .inr (2, [.ref cu, .ref nx, .int jz])), (cu, .inl (cJ, 16, .inr (.inl cf))), (nx, .inl (cJ, 16, .inr (.inl nf)))]) (tx_runV (C := cn_D) (b := d0) (As := [.int a, .int b, .int c2, .int d2]) (rest := []) hx hb hml hown (c_D_take E s.heap.size d0 gv dr rl yl mi fl bf dm rk sp kn a b c2 d2 g ) (cx_C (b0 := b0) G hx0 mw_239 mw_1 ny_D_take (by decide)) (gw.at G hx0 mw_236 rfl _) (gw.at G hx0 mw_238 rfl _) (gw.at G hx0 ms_D_take rfl _) ⟨cx_blind, va_recv hK hP (q0 := 0) (ci := 0) (q := (cn_D, ft_D, 11)) rfl rfl, (cx_pre (s := s) hx0 hP hD hS hA0 [0, 1] rfl rfl (by decide))⟩ rfl rfl hl.1 rfl (lv_room (Nat.le_of_ble_eq_true rfl)) d_D_add_6 ⟨by decide, by decide⟩) hP hD hS hA [0, 1] [2, 3, 4, 5, 6] rfl rfl (by decide) (by decide) (fun v t w1 H locs ht hW9 hp hP hD hS => ?_) (fun x t w1 H locs ht hW9 hp hP hD hS => by obtain ⟨h9, -⟩ := hp; cases h9)
  obtain ⟨h9, rfl⟩ := hp
  cases h9
  refine W.eq (g2 := F0 m 9 ls []) rfl ?_
  refine W.widen (k := 0) (n := 0) (by decide) (by decide) ?_
  have hP : va_P D kl [(rl, .inr (1, [.ref rc, .int (nI ct), .int (nI mo)])), (rc, .inl (cI, pz, .inl pf)), (mi, .inr (2, [.ref cu, .ref nx, .int jz])), (cu, .inl (cJ, 16, .inr (.inl cf))), (nx, .inl (cJ, 16, .inr (.inl nf))), (d0, .inr (0, [.int dm, .ref gv, .ref dr, .ref rl, .ref yl, .ref mi, .ref fl, .ref bf, .int rk, .int sp, .int kn])), (gv, .inl (cI, 4, .inl (upd (upd (upd (upd g 0 a) 1 b) 2 (tk_c dm c2)) 3 (tk_d dm d2))))] H := hP
  have hD : va_D A [(rl, .inr (1, [.ref rc, .int (nI ct), .int (nI mo)])), (rc, .inl (cI, pz, .inl pf)), (mi, .inr (2, [.ref cu, .ref nx, .int jz])), (cu, .inl (cJ, 16, .inr (.inl cf))), (nx, .inl (cJ, 16, .inr (.inl nf))), (d0, .inr (0, [.int dm, .ref gv, .ref dr, .ref rl, .ref yl, .ref mi, .ref fl, .ref bf, .int rk, .int sp, .int kn])), (gv, .inl (cI, 4, .inl (upd (upd (upd (upd g 0 a) 1 b) 2 (tk_c dm c2)) 3 (tk_d dm d2))))] := hD
  refine lv_aload_n hx hb d_D_add_9 rfl (lv_at hl 0 rfl) ?_
  refine lv_iconst (v := (5 : Int32)) hx hb d_D_add_10 (by decide) ?_
  refine cx_call (D := D) (cl := kl) (ws := _) (wc := [(d0, .inr (0, [.int dm, .ref gv, .ref dr, .ref rl, .ref yl, .ref mi, .ref fl, .ref bf, .int rk, .int sp, .int kn])), (gv, .inl (cI, 4, .inl (upd (upd (upd (upd g 0 a) 1 b) 2 (tk_c dm c2)) 3 (tk_d dm d2))))]) (wr := [(rl, .inr (1, [.ref rc, .int (nI ct), .int (nI mo)])), (rc, .inl (cI, pz, .inl pf)), (mi, .inr (2, [.ref cu, .ref nx, .int jz])), (cu, .inl (cJ, 16, .inr (.inl cf))), (nx, .inl (cJ, 16, .inr (.inl nf)))]) (tx_runV (C := cn_D) (b := d0) (As := [.int (5 : Int32)]) (rest := []) hx hb hml hown (c_D_within_y E H.size d0 gv dr rl yl mi fl bf dm rk sp kn (5 : Int32) (upd (upd (upd (upd g 0 a) 1 b) 2 (tk_c dm c2)) 3 (tk_d dm d2)) h1) (cx_C (b0 := b0) G hx0 mw_267 mw_1 ny_D_isGivenWithin (by decide)) (gw.at G hx0 mw_264 rfl _) (gw.at G hx0 mw_266 rfl _) (gw.at G hx0 ms_D_isGivenWithin rfl _) ⟨cx_blind, va_recv hK hP (q0 := 5) (ci := 0) (q := (cn_D, ft_D, 11)) rfl rfl, (cx_pre (s := s) hx0 hP hD hS hA0 [5, 6] rfl rfl (by decide))⟩ rfl rfl hl.1 rfl (lv_room (Nat.le_of_ble_eq_true rfl)) d_D_add_11 ⟨by decide, by decide⟩) hP hD hS hA [5, 6] [0, 1, 2, 3, 4] rfl rfl (by decide) (by decide) (fun v t w1 H locs ht hW9 hp hP hD hS => ?_) (fun x t w1 H locs ht hW9 hp hP hD hS => by obtain ⟨h9, -⟩ := hp; cases h9)
  obtain ⟨h9, rfl⟩ := hp
  cases h9
  refine W.eq (g2 := F0 m 14 ls [.int (1 : Int32)]) rfl ?_
  refine W.widen (k := 0) (n := 0) (by decide) (by decide) ?_
  have hP : va_P D kl [(rl, .inr (1, [.ref rc, .int (nI ct), .int (nI mo)])), (rc, .inl (cI, pz, .inl pf)), (mi, .inr (2, [.ref cu, .ref nx, .int jz])), (cu, .inl (cJ, 16, .inr (.inl cf))), (nx, .inl (cJ, 16, .inr (.inl nf))), (d0, .inr (0, [.int dm, .ref gv, .ref dr, .ref rl, .ref yl, .ref mi, .ref fl, .ref bf, .int rk, .int sp, .int kn])), (gv, .inl (cI, 4, .inl (upd (upd (upd (upd g 0 a) 1 b) 2 (tk_c dm c2)) 3 (tk_d dm d2))))] H := hP
  have hD : va_D A [(rl, .inr (1, [.ref rc, .int (nI ct), .int (nI mo)])), (rc, .inl (cI, pz, .inl pf)), (mi, .inr (2, [.ref cu, .ref nx, .int jz])), (cu, .inl (cJ, 16, .inr (.inl cf))), (nx, .inl (cJ, 16, .inr (.inl nf))), (d0, .inr (0, [.int dm, .ref gv, .ref dr, .ref rl, .ref yl, .ref mi, .ref fl, .ref bf, .int rk, .int sp, .int kn])), (gv, .inl (cI, 4, .inl (upd (upd (upd (upd g 0 a) 1 b) 2 (tk_c dm c2)) 3 (tk_d dm d2))))] := hD
  refine lv_if_eq (tgt := 25) hx hb d_D_add_14 (by decide) (fun h99 => absurd h99 (by decide)) (fun _ => ?_)
  refine lv_aload_n hx hb d_D_add_17 rfl (lv_at hl 0 rfl) ?_
  refine lv_iconst (v := (0 : Int32)) hx hb d_D_add_18 (by decide) ?_
  refine cx_call (D := D) (cl := kl) (ws := _) (wc := [(d0, .inr (0, [.int dm, .ref gv, .ref dr, .ref rl, .ref yl, .ref mi, .ref fl, .ref bf, .int rk, .int sp, .int kn])), (gv, .inl (cI, 4, .inl (upd (upd (upd (upd g 0 a) 1 b) 2 (tk_c dm c2)) 3 (tk_d dm d2))))]) (wr := [(rl, .inr (1, [.ref rc, .int (nI ct), .int (nI mo)])), (rc, .inl (cI, pz, .inl pf)), (mi, .inr (2, [.ref cu, .ref nx, .int jz])), (cu, .inl (cJ, 16, .inr (.inl cf))), (nx, .inl (cJ, 16, .inr (.inl nf)))]) (tx_runV (C := cn_D) (b := d0) (As := [.int (0 : Int32)]) (rest := []) hx hb hml hown (c_D_within_n E H.size d0 gv dr rl yl mi fl bf dm rk sp kn (0 : Int32) (upd (upd (upd (upd g 0 a) 1 b) 2 (tk_c dm c2)) 3 (tk_d dm d2)) h2) (cx_C (b0 := b0) G hx0 mw_267 mw_1 ny_D_isGivenWithin (by decide)) (gw.at G hx0 mw_264 rfl _) (gw.at G hx0 mw_266 rfl _) (gw.at G hx0 ms_D_isGivenWithin rfl _) ⟨cx_blind, va_recv hK hP (q0 := 5) (ci := 0) (q := (cn_D, ft_D, 11)) rfl rfl, (cx_pre (s := s) hx0 hP hD hS hA0 [5, 6] rfl rfl (by decide))⟩ rfl rfl hl.1 rfl (lv_room (Nat.le_of_ble_eq_true rfl)) d_D_add_19 ⟨by decide, by decide⟩) hP hD hS hA [5, 6] [0, 1, 2, 3, 4] rfl rfl (by decide) (by decide) (fun v t w1 H locs ht hW9 hp hP hD hS => ?_) (fun x t w1 H locs ht hW9 hp hP hD hS => by obtain ⟨h9, -⟩ := hp; cases h9)
  obtain ⟨h9, rfl⟩ := hp
  cases h9
  refine W.eq (g2 := F0 m 22 ls [.int (0 : Int32)]) rfl ?_
  refine W.widen (k := 0) (n := 0) (by decide) (by decide) ?_
  have hP : va_P D kl [(rl, .inr (1, [.ref rc, .int (nI ct), .int (nI mo)])), (rc, .inl (cI, pz, .inl pf)), (mi, .inr (2, [.ref cu, .ref nx, .int jz])), (cu, .inl (cJ, 16, .inr (.inl cf))), (nx, .inl (cJ, 16, .inr (.inl nf))), (d0, .inr (0, [.int dm, .ref gv, .ref dr, .ref rl, .ref yl, .ref mi, .ref fl, .ref bf, .int rk, .int sp, .int kn])), (gv, .inl (cI, 4, .inl (upd (upd (upd (upd g 0 a) 1 b) 2 (tk_c dm c2)) 3 (tk_d dm d2))))] H := hP
  have hD : va_D A [(rl, .inr (1, [.ref rc, .int (nI ct), .int (nI mo)])), (rc, .inl (cI, pz, .inl pf)), (mi, .inr (2, [.ref cu, .ref nx, .int jz])), (cu, .inl (cJ, 16, .inr (.inl cf))), (nx, .inl (cJ, 16, .inr (.inl nf))), (d0, .inr (0, [.int dm, .ref gv, .ref dr, .ref rl, .ref yl, .ref mi, .ref fl, .ref bf, .int rk, .int sp, .int kn])), (gv, .inl (cI, 4, .inl (upd (upd (upd (upd g 0 a) 1 b) 2 (tk_c dm c2)) 3 (tk_d dm d2))))] := hD
  refine lv_if_eq (tgt := 35) hx hb d_D_add_22 (by decide) (fun _ => ?_) (fun h99 => absurd h99 (by decide))
  refine lv_aload_n hx hb d_D_add_35 rfl (lv_at hl 0 rfl) ?_
  refine va_get (D := D) (ci := 0) (v := .ref rl) (C := cn_D) (T := ft_D) (N := 11) hx hb hf_D (fun _ h => h) hown hK hP 5 rfl rfl 3 (by decide) (gw.at G hx0 mw_197 rfl _) (fun _ h9 => h9) rfl d_D_add_36 ?_
  refine va_get (D := D) (ci := 1) (v := .int (nI ct)) (C := cn_PL) (T := ft_PL) (N := 3) hx hb hf_PL (fun _ h => h) hown hK hP 0 rfl rfl 1 (by decide) (gw.at G hx0 mw_45 rfl _) (fun _ h9 => h9) rfl d_D_add_39 ?_
  refine lv_bipush (v := (8 : Int32)) hx hb d_D_add_42 (by decide) ?_
  refine lv_icmp_lt (tgt := 57) hx hb d_D_add_44 (by decide) (fun _ => ?_) (fun h99 => absurd h99 (not_not_intro ((nI_ltI (a := ct) (b := 8) (by omega) (by omega)).mpr (by omega))))
  refine lv_aload_n hx hb d_D_add_57 rfl (lv_at hl 0 rfl) ?_
  refine va_get (D := D) (ci := 0) (v := .ref rl) (C := cn_D) (T := ft_D) (N := 11) hx hb hf_D (fun _ h => h) hown hK hP 5 rfl rfl 3 (by decide) (gw.at G hx0 mw_197 rfl _) (fun _ h9 => h9) rfl d_D_add_58 ?_
  refine lv_aload_n hx hb d_D_add_61 rfl (lv_at hl 0 rfl) ?_
  refine va_get (D := D) (ci := 0) (v := .ref rl) (C := cn_D) (T := ft_D) (N := 11) hx hb hf_D (fun _ h => h) hown hK hP 5 rfl rfl 3 (by decide) (gw.at G hx0 mw_197 rfl _) (fun _ h9 => h9) rfl d_D_add_62 ?_
  refine va_get (D := D) (ci := 1) (v := .int (nI ct)) (C := cn_PL) (T := ft_PL) (N := 3) hx hb hf_PL (fun _ h => h) hown hK hP 0 rfl rfl 1 (by decide) (gw.at G hx0 mw_45 rfl _) (fun _ h9 => h9) rfl d_D_add_65 ?_
  refine lv_aload_n hx hb d_D_add_68 rfl (lv_at hl 0 rfl) ?_
  refine va_get (D := D) (ci := 0) (v := .ref gv) (C := cn_D) (T := ft_D) (N := 11) hx hb hf_D (fun _ h => h) hown hK hP 5 rfl rfl 1 (by decide) (gw.at G hx0 mw_195 rfl _) (fun _ h9 => h9) rfl d_D_add_69 ?_
  refine cx_call (D := D) (cl := kl) (ws := _) (wc := [(rl, .inr (1, [.ref rc, .int (nI ct), .int (nI mo)])), (rc, .inl (cI, pz, .inl pf)), (gv, .inl (cI, 4, .inl (upd (upd (upd (upd g 0 a) 1 b) 2 (tk_c dm c2)) 3 (tk_d dm d2))))]) (wr := [(mi, .inr (2, [.ref cu, .ref nx, .int jz])), (cu, .inl (cJ, 16, .inr (.inl cf))), (nx, .inl (cJ, 16, .inr (.inl nf))), (d0, .inr (0, [.int dm, .ref gv, .ref dr, .ref rl, .ref yl, .ref mi, .ref fl, .ref bf, .int rk, .int sp, .int kn]))]) (tx_runV (C := cn_PL) (b := rl) (As := [.int (nI ct), .ref gv]) (rest := []) hx hb hml hown (c_PL_put E H.size rl rc ct mo pz pf ct gv (upd (upd (upd (upd g 0 a) 1 b) 2 (tk_c dm c2)) 3 (tk_d dm d2)) hpz hmo hct (Nat.le_refl _) (by omega)) (cx_C (b0 := b0) G hx0 mw_355 mw_3 ny_PL_putAt (by decide)) (gw.at G hx0 mw_352 rfl _) (gw.at G hx0 mw_353 rfl _) (gw.at G hx0 mw_354 rfl _) ⟨cx_blind, va_recv hK hP (q0 := 0) (ci := 1) (q := (cn_PL, ft_PL, 3)) rfl rfl, (cx_pre (s := s) hx0 hP hD hS hA0 [0, 1, 6] rfl rfl (by decide))⟩ rfl rfl hl.1 rfl (lv_room (Nat.le_of_ble_eq_true rfl)) d_D_add_72 ⟨by decide, by decide⟩) hP hD hS hA [0, 1, 6] [2, 3, 4, 5] rfl rfl (by decide) (by decide) (fun v t w1 H locs ht hW9 hp hP hD hS => ?_) (fun x t w1 H locs ht hW9 hp hP hD hS => by obtain ⟨h9, -⟩ := hp; cases h9)
  obtain ⟨h9, rfl⟩ := hp
  cases h9
  refine W.eq (g2 := F0 m 75 ls []) rfl ?_
  refine W.widen (k := 0) (n := 0) (by decide) (by decide) ?_
  have hP : va_P D kl [(mi, .inr (2, [.ref cu, .ref nx, .int jz])), (cu, .inl (cJ, 16, .inr (.inl cf))), (nx, .inl (cJ, 16, .inr (.inl nf))), (d0, .inr (0, [.int dm, .ref gv, .ref dr, .ref rl, .ref yl, .ref mi, .ref fl, .ref bf, .int rk, .int sp, .int kn])), (rl, .inr (1, [.ref rc, .int (nI (ct + 1)), .int (nI mo)])), (rc, .inl (cI, pz, .inl (va_cpy (upd (upd (upd (upd g 0 a) 1 b) 2 (tk_c dm c2)) 3 (tk_d dm d2)) (va_cpy pf pf (ct * 4) (ct * 4 + 4) (ct * 4 - ct * 4)) 0 (ct * 4) 4))), (gv, .inl (cI, 4, .inl (upd (upd (upd (upd g 0 a) 1 b) 2 (tk_c dm c2)) 3 (tk_d dm d2))))] H := hP
  have hD : va_D A [(mi, .inr (2, [.ref cu, .ref nx, .int jz])), (cu, .inl (cJ, 16, .inr (.inl cf))), (nx, .inl (cJ, 16, .inr (.inl nf))), (d0, .inr (0, [.int dm, .ref gv, .ref dr, .ref rl, .ref yl, .ref mi, .ref fl, .ref bf, .int rk, .int sp, .int kn])), (rl, .inr (1, [.ref rc, .int (nI (ct + 1)), .int (nI mo)])), (rc, .inl (cI, pz, .inl (va_cpy (upd (upd (upd (upd g 0 a) 1 b) 2 (tk_c dm c2)) 3 (tk_d dm d2)) (va_cpy pf pf (ct * 4) (ct * 4 + 4) (ct * 4 - ct * 4)) 0 (ct * 4) 4))), (gv, .inl (cI, 4, .inl (upd (upd (upd (upd g 0 a) 1 b) 2 (tk_c dm c2)) 3 (tk_d dm d2))))] := hD
  refine lv_aload_n hx hb d_D_add_75 rfl (lv_at hl 0 rfl) ?_
  refine cx_call (D := D) (cl := kl) (ws := _) (wc := [(d0, .inr (0, [.int dm, .ref gv, .ref dr, .ref rl, .ref yl, .ref mi, .ref fl, .ref bf, .int rk, .int sp, .int kn])), (rl, .inr (1, [.ref rc, .int (nI (ct + 1)), .int (nI mo)])), (rc, .inl (cI, pz, .inl (va_cpy (upd (upd (upd (upd g 0 a) 1 b) 2 (tk_c dm c2)) 3 (tk_d dm d2)) (va_cpy pf pf (ct * 4) (ct * 4 + 4) (ct * 4 - ct * 4)) 0 (ct * 4) 4))), (mi, .inr (2, [.ref cu, .ref nx, .int jz])), (cu, .inl (cJ, 16, .inr (.inl cf))), (nx, .inl (cJ, 16, .inr (.inl nf)))]) (wr := [(gv, .inl (cI, 4, .inl (upd (upd (upd (upd g 0 a) 1 b) 2 (tk_c dm c2)) 3 (tk_d dm d2))))]) (tx_runV (C := cn_D) (b := d0) (As := []) (rest := []) hx hb hml hown (c_D_note E H.size d0 gv dr rl yl mi fl bf dm rk sp kn rc (ct + 1) mo pz (va_cpy (upd (upd (upd (upd g 0 a) 1 b) 2 (tk_c dm c2)) 3 (tk_d dm d2)) (va_cpy pf pf (ct * 4) (ct * 4 + 4) (ct * 4 - ct * 4)) 0 (ct * 4) 4) cu nx cf nf jz hpz hmo (by omega) (by omega)) (cx_C (b0 := b0) G hx0 mw_362 mw_1 ny_D_noteChange (by decide)) (gw.at G hx0 mw_359 rfl _) (gw.at G hx0 mw_361 rfl _) (gw.at G hx0 ms_D_noteChange rfl _) ⟨cx_blind, va_recv hK hP (q0 := 3) (ci := 0) (q := (cn_D, ft_D, 11)) rfl rfl, (cx_pre (s := s) hx0 hP hD hS hA0 [3, 4, 5, 0, 1, 2] rfl rfl (by decide))⟩ rfl rfl hl.1 rfl (lv_room (Nat.le_of_ble_eq_true rfl)) d_D_add_76 ⟨by decide, by decide⟩) hP hD hS hA [3, 4, 5, 0, 1, 2] [6] rfl rfl (by decide) (by decide) (fun v t w1 H locs ht hW9 hp hP hD hS => ?_) (fun x t w1 H locs ht hW9 hp hP hD hS => by obtain ⟨_, _, _, _, h9, -⟩ := hp; cases h9)
  obtain ⟨ca_1, nb_2, fa_3, fb_4, h9, rfl⟩ := hp
  cases h9
  refine W.eq (g2 := F0 m 79 ls []) rfl ?_
  refine W.widen (k := 0) (n := 0) (by decide) (by decide) ?_
  have hP : va_P D kl [(gv, .inl (cI, 4, .inl (upd (upd (upd (upd g 0 a) 1 b) 2 (tk_c dm c2)) 3 (tk_d dm d2)))), (d0, .inr (0, [.int dm, .ref gv, .ref dr, .ref rl, .ref yl, .ref mi, .ref fl, .ref bf, .int (nI ((lst (va_cpy (upd (upd (upd (upd g 0 a) 1 b) 2 (tk_c dm c2)) 3 (tk_d dm d2)) (va_cpy pf pf (ct * 4) (ct * 4 + 4) (ct * 4 - ct * 4)) 0 (ct * 4) 4) (2 ^ (ct + 1) - 1) (ct + 1)).1)), .int sp, .int (0 : Int32)])), (rl, .inr (1, [.ref rc, .int (nI (ct + 1)), .int (nI mo)])), (rc, .inl (cI, pz, .inl (va_cpy (upd (upd (upd (upd g 0 a) 1 b) 2 (tk_c dm c2)) 3 (tk_d dm d2)) (va_cpy pf pf (ct * 4) (ct * 4 + 4) (ct * 4 - ct * 4)) 0 (ct * 4) 4))), (mi, .inr (2, [.ref ca_1, .ref nb_2, .int (nI ((lst (va_cpy (upd (upd (upd (upd g 0 a) 1 b) 2 (tk_c dm c2)) 3 (tk_d dm d2)) (va_cpy pf pf (ct * 4) (ct * 4 + 4) (ct * 4 - ct * 4)) 0 (ct * 4) 4) (2 ^ (ct + 1) - 1) (ct + 1)).1))])), (ca_1, .inl (cJ, 16, .inr (.inl fa_3))), (nb_2, .inl (cJ, 16, .inr (.inl fb_4)))] H := hP
  have hD : va_D A [(gv, .inl (cI, 4, .inl (upd (upd (upd (upd g 0 a) 1 b) 2 (tk_c dm c2)) 3 (tk_d dm d2)))), (d0, .inr (0, [.int dm, .ref gv, .ref dr, .ref rl, .ref yl, .ref mi, .ref fl, .ref bf, .int (nI ((lst (va_cpy (upd (upd (upd (upd g 0 a) 1 b) 2 (tk_c dm c2)) 3 (tk_d dm d2)) (va_cpy pf pf (ct * 4) (ct * 4 + 4) (ct * 4 - ct * 4)) 0 (ct * 4) 4) (2 ^ (ct + 1) - 1) (ct + 1)).1)), .int sp, .int (0 : Int32)])), (rl, .inr (1, [.ref rc, .int (nI (ct + 1)), .int (nI mo)])), (rc, .inl (cI, pz, .inl (va_cpy (upd (upd (upd (upd g 0 a) 1 b) 2 (tk_c dm c2)) 3 (tk_d dm d2)) (va_cpy pf pf (ct * 4) (ct * 4 + 4) (ct * 4 - ct * 4)) 0 (ct * 4) 4))), (mi, .inr (2, [.ref ca_1, .ref nb_2, .int (nI ((lst (va_cpy (upd (upd (upd (upd g 0 a) 1 b) 2 (tk_c dm c2)) 3 (tk_d dm d2)) (va_cpy pf pf (ct * 4) (ct * 4 + 4) (ct * 4 - ct * 4)) 0 (ct * 4) 4) (2 ^ (ct + 1) - 1) (ct + 1)).1))])), (ca_1, .inl (cJ, 16, .inr (.inl fa_3))), (nb_2, .inl (cJ, 16, .inr (.inl fb_4)))] := hD
  refine lv_aload_n hx hb d_D_add_79 rfl (lv_at hl 0 rfl) ?_
  refine va_get (D := D) (ci := 0) (v := .ref rl) (C := cn_D) (T := ft_D) (N := 11) hx hb hf_D (fun _ h => h) hown hK hP 1 rfl rfl 3 (by decide) (gw.at G hx0 mw_197 rfl _) (fun _ h9 => h9) rfl d_D_add_80 ?_
  refine va_get (D := D) (ci := 1) (v := .int (nI (ct + 1))) (C := cn_PL) (T := ft_PL) (N := 3) hx hb hf_PL (fun _ h => h) hown hK hP 2 rfl rfl 1 (by decide) (gw.at G hx0 mw_45 rfl _) (fun _ h9 => h9) rfl d_D_add_83 ?_
  refine lv_iconst (v := (1 : Int32)) hx hb d_D_add_86 (by decide) ?_
  refine lv_isub hx hb d_D_add_87 ?_
  refine tp_i (y := nI ((ct + 1) - 1)) (nI_sub (a := (ct + 1)) (b := 1) (by omega)) ?_
  exact tx_mono (fun _ h => tx_Z.of h) (W.iret (v := nI ((ct + 1) - 1)) hx hb hr (fun t ht hW => ⟨⟨[(d0, .inr (0, [.int dm, .ref gv, .ref dr, .ref rl, .ref yl, .ref mi, .ref fl, .ref bf, .int (nI ((lst (va_cpy (upd (upd (upd (upd g 0 a) 1 b) 2 (tk_c dm c2)) 3 (tk_d dm d2)) (va_cpy pf pf (ct * 4) (ct * 4 + 4) (ct * 4 - ct * 4)) 0 (ct * 4) 4) (2 ^ (ct + 1) - 1) (ct + 1)).1)), .int sp, .int (0 : Int32)])), (gv, .inl (cI, 4, .inl (upd (upd (upd (upd g 0 a) 1 b) 2 (tk_c dm c2)) 3 (tk_d dm d2)))), (rl, .inr (1, [.ref rc, .int (nI (ct + 1)), .int (nI mo)])), (rc, .inl (cI, pz, .inl (va_cpy (upd (upd (upd (upd g 0 a) 1 b) 2 (tk_c dm c2)) 3 (tk_d dm d2)) (va_cpy pf pf (ct * 4) (ct * 4 + 4) (ct * 4 - ct * 4)) 0 (ct * 4) 4))), (mi, .inr (2, [.ref ca_1, .ref nb_2, .int (nI ((lst (va_cpy (upd (upd (upd (upd g 0 a) 1 b) 2 (tk_c dm c2)) 3 (tk_d dm d2)) (va_cpy pf pf (ct * 4) (ct * 4 + 4) (ct * 4 - ct * 4)) 0 (ct * 4) 4) (2 ^ (ct + 1) - 1) (ct + 1)).1))])), (ca_1, .inl (cJ, 16, .inr (.inl fa_3))), (nb_2, .inl (cJ, 16, .inr (.inl fb_4)))], ⟨ca_1, nb_2, fa_3, fb_4, (by rw [Nat.add_sub_cancel]), rfl⟩, by rw [ht]; exact hP.sub [1, 0, 2, 3, 4, 5, 6] rfl, hD.sub [1, 0, 2, 3, 4, 5, 6] (by decide) rfl⟩, hS.F ht⟩) hS.2.2 d_D_add_88)

set_option maxHeartbeats 4000000 in
set_option maxRecDepth 100000 in
theorem c_D_add_s {l : Launch} {s0 : State} {b0 : Addr} {D : va_G} {cI cJ cZ : ClassId} {tC tS : Nat} (E : gE l s0 b0 D cI cJ cZ tC tS) (sz : Nat) (d0 : Nat) (gv : Nat) (dr : Nat) (rl : Nat) (yl : Nat) (mi : Nat) (fl : Nat) (bf : Nat) (dm : Int32) (rk : Int32) (sp : Int32) (kn : Int32) (a : Int32) (b : Int32) (c2 : Int32) (d2 : Int32) (g : Nat → Int32) (rc : Nat) (ct : Nat) (mo : Nat) (h1 : iw (5 : Int32) a b (tk_c dm c2) (tk_d dm d2)) (h2 : ¬ iw (0 : Int32) a b (tk_c dm c2) (tk_d dm d2)) (hlt : ct = 8) : cx_M l s0 D kl y_D_add b_D_add 5 (some .int) ({ frames := 6, cells := 1, slots := 6, locals := 82 } : Room) 1 6 [.ref d0, .int a, .int b, .int c2, .int d2] [(d0, .inr (0, [.int dm, .ref gv, .ref dr, .ref rl, .ref yl, .ref mi, .ref fl, .ref bf, .int rk, .int sp, .int kn])), (gv, .inl (cI, 4, .inl g)), (rl, .inr (1, [.ref rc, .int (nI ct), .int (nI mo)]))] sz (fun o9 t9 w9 => ∃ (x9 : Nat), o9 = .threw x9 ∧ tx_X ex_s x9 t9 ∧ w9 = [(d0, .inr (0, [.int dm, .ref gv, .ref dr, .ref rl, .ref yl, .ref mi, .ref fl, .ref bf, .int rk, .int sp, .int kn])), (gv, .inl (cI, 4, .inl (upd (upd (upd (upd g 0 a) 1 b) 2 (tk_c dm c2)) 3 (tk_d dm d2)))), (rl, .inr (1, [.ref rc, .int (nI ct), .int (nI mo)]))]) := by
  refine tx_ofW (cc := b_D_add) (maxL := 5) (ret := (some .int)) (by decide) rfl ?_
  intro p e s m args below meth c s₁ B hml hT hv
  obtain ⟨rfl, hsz, hP, hD0, hx0⟩ := hv
  have hx := B.exec
  have hb := B.bytes
  have hr := B.returns
  have G := E.2.1
  have hown : s.vm.findClass cn_D = some m.cls := findClass_of_methodNamed B.named
  have hlocks := B.notSynchronized
  have hK := va_K.moved hx0.1.alike E.2.2.1
  have hf_D : ∀ w99 ∈ u_ws cn_D ft_D 11, w99.before ([.ref d0, .int a, .int b, .int c2, .int d2] : List Value).toArray s = true := fun w99 h99 => gw.at G hx0 (fw_D w99 h99) (fo_D w99 h99) _
  have hf_PL : ∀ w99 ∈ u_ws cn_PL ft_PL 3, w99.before ([.ref d0, .int a, .int b, .int c2, .int d2] : List Value).toArray s = true := fun w99 h99 => gw.at G hx0 (fw_PL w99 h99) (fo_PL w99 h99) _
  subst hsz
  have hA0 := cx_new hD0 hx0.2.1
  have hD := hD0.self (sz := s.heap.size)
  generalize hAe : va_A [(d0, .inr (0, [.int dm, .ref gv, .ref dr, .ref rl, .ref yl, .ref mi, .ref fl, .ref bf, .int rk, .int sp, .int kn])), (gv, .inl (cI, 4, .inl g)), (rl, .inr (1, [.ref rc, .int (nI ct), .int (nI mo)]))] s.heap.size = A at hD hA0 ⊢
  have hA : ∀ q : Nat, s.heap.size ≤ q → A q := fun q h => by rw [← hAe]; exact Or.inr h
  have hS : va_S A s.heap s.heap [] := va_S.rf
  have hl := lv_entry ([.ref d0, .int a, .int b, .int c2, .int d2]) (n := 5) (Nat.le_of_ble_eq_true rfl)
  rw [lg_entry_eq]
  generalize (lg_sl ([.ref d0, .int a, .int b, .int c2, .int d2]) ++ List.replicate (5 - (lg_sl ([.ref d0, .int a, .int b, .int c2, .int d2])).length) Slot.unset).toArray = ls at hl ⊢
  have hl : lv_has ls 5 [(0, .ref d0), (1, .int a), (2, .int b), (3, .int c2), (4, .int d2)] := hl
  have hP : va_P D kl [(d0, .inr (0, [.int dm, .ref gv, .ref dr, .ref rl, .ref yl, .ref mi, .ref fl, .ref bf, .int rk, .int sp, .int kn])), (gv, .inl (cI, 4, .inl g)), (rl, .inr (1, [.ref rc, .int (nI ct), .int (nI mo)]))] s.heap := hP
  have hml : c.maxLocals = 5 := hml
  refine lv_aload_n hx hb d_D_add_0 rfl (lv_at hl 0 rfl) ?_
  refine lv_iload_n hx hb d_D_add_1 rfl (lv_at hl 1 rfl) ?_
  refine lv_iload_n hx hb d_D_add_2 rfl (lv_at hl 2 rfl) ?_
  refine lv_iload_n hx hb d_D_add_3 rfl (lv_at hl 3 rfl) ?_
  refine lv_iload hx hb d_D_add_4 (lv_at hl 4 rfl) ?_
  refine cx_call (D := D) (cl := kl) (ws := _) (wc := [(d0, .inr (0, [.int dm, .ref gv, .ref dr, .ref rl, .ref yl, .ref mi, .ref fl, .ref bf, .int rk, .int sp, .int kn])), (gv, .inl (cI, 4, .inl g))]) (wr := [(rl, .inr (1, [.ref rc, .int (nI ct), .int (nI mo)]))]) (tx_runV (C := cn_D) (b := d0) (As := [.int a, .int b, .int c2, .int d2]) (rest := []) hx hb hml hown (c_D_take E s.heap.size d0 gv dr rl yl mi fl bf dm rk sp kn a b c2 d2 g ) (cx_C (b0 := b0) G hx0 mw_239 mw_1 ny_D_take (by decide)) (gw.at G hx0 mw_236 rfl _) (gw.at G hx0 mw_238 rfl _) (gw.at G hx0 ms_D_take rfl _) ⟨cx_blind, va_recv hK hP (q0 := 0) (ci := 0) (q := (cn_D, ft_D, 11)) rfl rfl, (cx_pre (s := s) hx0 hP hD hS hA0 [0, 1] rfl rfl (by decide))⟩ rfl rfl hl.1 rfl (lv_room (Nat.le_of_ble_eq_true rfl)) d_D_add_6 ⟨by decide, by decide⟩) hP hD hS hA [0, 1] [2] rfl rfl (by decide) (by decide) (fun v t w1 H locs ht hW9 hp hP hD hS => ?_) (fun x t w1 H locs ht hW9 hp hP hD hS => by obtain ⟨h9, -⟩ := hp; cases h9)
  obtain ⟨h9, rfl⟩ := hp
  cases h9
  refine W.eq (g2 := F0 m 9 ls []) rfl ?_
  refine W.widen (k := 0) (n := 0) (by decide) (by decide) ?_
  have hP : va_P D kl [(rl, .inr (1, [.ref rc, .int (nI ct), .int (nI mo)])), (d0, .inr (0, [.int dm, .ref gv, .ref dr, .ref rl, .ref yl, .ref mi, .ref fl, .ref bf, .int rk, .int sp, .int kn])), (gv, .inl (cI, 4, .inl (upd (upd (upd (upd g 0 a) 1 b) 2 (tk_c dm c2)) 3 (tk_d dm d2))))] H := hP
  have hD : va_D A [(rl, .inr (1, [.ref rc, .int (nI ct), .int (nI mo)])), (d0, .inr (0, [.int dm, .ref gv, .ref dr, .ref rl, .ref yl, .ref mi, .ref fl, .ref bf, .int rk, .int sp, .int kn])), (gv, .inl (cI, 4, .inl (upd (upd (upd (upd g 0 a) 1 b) 2 (tk_c dm c2)) 3 (tk_d dm d2))))] := hD
  refine lv_aload_n hx hb d_D_add_9 rfl (lv_at hl 0 rfl) ?_
  refine lv_iconst (v := (5 : Int32)) hx hb d_D_add_10 (by decide) ?_
  refine cx_call (D := D) (cl := kl) (ws := _) (wc := [(d0, .inr (0, [.int dm, .ref gv, .ref dr, .ref rl, .ref yl, .ref mi, .ref fl, .ref bf, .int rk, .int sp, .int kn])), (gv, .inl (cI, 4, .inl (upd (upd (upd (upd g 0 a) 1 b) 2 (tk_c dm c2)) 3 (tk_d dm d2))))]) (wr := [(rl, .inr (1, [.ref rc, .int (nI ct), .int (nI mo)]))]) (tx_runV (C := cn_D) (b := d0) (As := [.int (5 : Int32)]) (rest := []) hx hb hml hown (c_D_within_y E H.size d0 gv dr rl yl mi fl bf dm rk sp kn (5 : Int32) (upd (upd (upd (upd g 0 a) 1 b) 2 (tk_c dm c2)) 3 (tk_d dm d2)) h1) (cx_C (b0 := b0) G hx0 mw_267 mw_1 ny_D_isGivenWithin (by decide)) (gw.at G hx0 mw_264 rfl _) (gw.at G hx0 mw_266 rfl _) (gw.at G hx0 ms_D_isGivenWithin rfl _) ⟨cx_blind, va_recv hK hP (q0 := 1) (ci := 0) (q := (cn_D, ft_D, 11)) rfl rfl, (cx_pre (s := s) hx0 hP hD hS hA0 [1, 2] rfl rfl (by decide))⟩ rfl rfl hl.1 rfl (lv_room (Nat.le_of_ble_eq_true rfl)) d_D_add_11 ⟨by decide, by decide⟩) hP hD hS hA [1, 2] [0] rfl rfl (by decide) (by decide) (fun v t w1 H locs ht hW9 hp hP hD hS => ?_) (fun x t w1 H locs ht hW9 hp hP hD hS => by obtain ⟨h9, -⟩ := hp; cases h9)
  obtain ⟨h9, rfl⟩ := hp
  cases h9
  refine W.eq (g2 := F0 m 14 ls [.int (1 : Int32)]) rfl ?_
  refine W.widen (k := 0) (n := 0) (by decide) (by decide) ?_
  have hP : va_P D kl [(rl, .inr (1, [.ref rc, .int (nI ct), .int (nI mo)])), (d0, .inr (0, [.int dm, .ref gv, .ref dr, .ref rl, .ref yl, .ref mi, .ref fl, .ref bf, .int rk, .int sp, .int kn])), (gv, .inl (cI, 4, .inl (upd (upd (upd (upd g 0 a) 1 b) 2 (tk_c dm c2)) 3 (tk_d dm d2))))] H := hP
  have hD : va_D A [(rl, .inr (1, [.ref rc, .int (nI ct), .int (nI mo)])), (d0, .inr (0, [.int dm, .ref gv, .ref dr, .ref rl, .ref yl, .ref mi, .ref fl, .ref bf, .int rk, .int sp, .int kn])), (gv, .inl (cI, 4, .inl (upd (upd (upd (upd g 0 a) 1 b) 2 (tk_c dm c2)) 3 (tk_d dm d2))))] := hD
  refine lv_if_eq (tgt := 25) hx hb d_D_add_14 (by decide) (fun h99 => absurd h99 (by decide)) (fun _ => ?_)
  refine lv_aload_n hx hb d_D_add_17 rfl (lv_at hl 0 rfl) ?_
  refine lv_iconst (v := (0 : Int32)) hx hb d_D_add_18 (by decide) ?_
  refine cx_call (D := D) (cl := kl) (ws := _) (wc := [(d0, .inr (0, [.int dm, .ref gv, .ref dr, .ref rl, .ref yl, .ref mi, .ref fl, .ref bf, .int rk, .int sp, .int kn])), (gv, .inl (cI, 4, .inl (upd (upd (upd (upd g 0 a) 1 b) 2 (tk_c dm c2)) 3 (tk_d dm d2))))]) (wr := [(rl, .inr (1, [.ref rc, .int (nI ct), .int (nI mo)]))]) (tx_runV (C := cn_D) (b := d0) (As := [.int (0 : Int32)]) (rest := []) hx hb hml hown (c_D_within_n E H.size d0 gv dr rl yl mi fl bf dm rk sp kn (0 : Int32) (upd (upd (upd (upd g 0 a) 1 b) 2 (tk_c dm c2)) 3 (tk_d dm d2)) h2) (cx_C (b0 := b0) G hx0 mw_267 mw_1 ny_D_isGivenWithin (by decide)) (gw.at G hx0 mw_264 rfl _) (gw.at G hx0 mw_266 rfl _) (gw.at G hx0 ms_D_isGivenWithin rfl _) ⟨cx_blind, va_recv hK hP (q0 := 1) (ci := 0) (q := (cn_D, ft_D, 11)) rfl rfl, (cx_pre (s := s) hx0 hP hD hS hA0 [1, 2] rfl rfl (by decide))⟩ rfl rfl hl.1 rfl (lv_room (Nat.le_of_ble_eq_true rfl)) d_D_add_19 ⟨by decide, by decide⟩) hP hD hS hA [1, 2] [0] rfl rfl (by decide) (by decide) (fun v t w1 H locs ht hW9 hp hP hD hS => ?_) (fun x t w1 H locs ht hW9 hp hP hD hS => by obtain ⟨h9, -⟩ := hp; cases h9)
  obtain ⟨h9, rfl⟩ := hp
  cases h9
  refine W.eq (g2 := F0 m 22 ls [.int (0 : Int32)]) rfl ?_
  refine W.widen (k := 0) (n := 0) (by decide) (by decide) ?_
  have hP : va_P D kl [(rl, .inr (1, [.ref rc, .int (nI ct), .int (nI mo)])), (d0, .inr (0, [.int dm, .ref gv, .ref dr, .ref rl, .ref yl, .ref mi, .ref fl, .ref bf, .int rk, .int sp, .int kn])), (gv, .inl (cI, 4, .inl (upd (upd (upd (upd g 0 a) 1 b) 2 (tk_c dm c2)) 3 (tk_d dm d2))))] H := hP
  have hD : va_D A [(rl, .inr (1, [.ref rc, .int (nI ct), .int (nI mo)])), (d0, .inr (0, [.int dm, .ref gv, .ref dr, .ref rl, .ref yl, .ref mi, .ref fl, .ref bf, .int rk, .int sp, .int kn])), (gv, .inl (cI, 4, .inl (upd (upd (upd (upd g 0 a) 1 b) 2 (tk_c dm c2)) 3 (tk_d dm d2))))] := hD
  refine lv_if_eq (tgt := 35) hx hb d_D_add_22 (by decide) (fun _ => ?_) (fun h99 => absurd h99 (by decide))
  refine lv_aload_n hx hb d_D_add_35 rfl (lv_at hl 0 rfl) ?_
  refine va_get (D := D) (ci := 0) (v := .ref rl) (C := cn_D) (T := ft_D) (N := 11) hx hb hf_D (fun _ h => h) hown hK hP 1 rfl rfl 3 (by decide) (gw.at G hx0 mw_197 rfl _) (fun _ h9 => h9) rfl d_D_add_36 ?_
  refine va_get (D := D) (ci := 1) (v := .int (nI ct)) (C := cn_PL) (T := ft_PL) (N := 3) hx hb hf_PL (fun _ h => h) hown hK hP 0 rfl rfl 1 (by decide) (gw.at G hx0 mw_45 rfl _) (fun _ h9 => h9) rfl d_D_add_39 ?_
  refine lv_bipush (v := (8 : Int32)) hx hb d_D_add_42 (by decide) ?_
  refine lv_icmp_lt (tgt := 57) hx hb d_D_add_44 (by decide) (fun h99 => absurd h99 (fun z99 => absurd ((nI_ltI (a := ct) (b := 8) (by omega) (by omega)).mp z99) (by omega))) (fun _ => ?_)
  refine cx_throw (A := A) (ws := [(d0, .inr (0, [.int dm, .ref gv, .ref dr, .ref rl, .ref yl, .ref mi, .ref fl, .ref bf, .int rk, .int sp, .int kn])), (gv, .inl (cI, 4, .inl (upd (upd (upd (upd g 0 a) 1 b) 2 (tk_c dm c2)) 3 (tk_d dm d2)))), (rl, .inr (1, [.ref rc, .int (nI ct), .int (nI mo)]))]) (post := (fun o9 t9 w9 => ∃ (x9 : Nat), o9 = .threw x9 ∧ tx_X ex_s x9 t9 ∧ w9 = [(d0, .inr (0, [.int dm, .ref gv, .ref dr, .ref rl, .ref yl, .ref mi, .ref fl, .ref bf, .int rk, .int sp, .int kn])), (gv, .inl (cI, 4, .inl (upd (upd (upd (upd g 0 a) 1 b) 2 (tk_c dm c2)) 3 (tk_d dm d2)))), (rl, .inr (1, [.ref rc, .int (nI ct), .int (nI mo)]))])) E hx0 hx hb hml hl.1 hlocks hown hT (hP.sub [1, 2, 0] rfl) (hD.sub [1, 2, 0] (by decide) rfl) hS hA0 st_s sl_s si_s sf_s (is := 82) (text := _) (by decide +kernel : (82, "eight rows are there") ∈ ge_texts) d_D_add_47 d_D_add_50 d_D_add_51 d_D_add_53 d_D_add_56 (by decide) (fun x t hX => ⟨x, rfl, hX, rfl⟩)

set_option maxHeartbeats 4000000 in
set_option maxRecDepth 100000 in
theorem c_D_add_n {l : Launch} {s0 : State} {b0 : Addr} {D : va_G} {cI cJ cZ : ClassId} {tC tS : Nat} (E : gE l s0 b0 D cI cJ cZ tC tS) (sz : Nat) (d0 : Nat) (gv : Nat) (dr : Nat) (rl : Nat) (yl : Nat) (mi : Nat) (fl : Nat) (bf : Nat) (dm : Int32) (rk : Int32) (sp : Int32) (kn : Int32) (a : Int32) (b : Int32) (c2 : Int32) (d2 : Int32) (g : Nat → Int32) (h : ¬ iw (5 : Int32) a b (tk_c dm c2) (tk_d dm d2)) : cx_M l s0 D kl y_D_add b_D_add 5 (some .int) ({ frames := 6, cells := 1, slots := 6, locals := 82 } : Room) 1 6 [.ref d0, .int a, .int b, .int c2, .int d2] [(d0, .inr (0, [.int dm, .ref gv, .ref dr, .ref rl, .ref yl, .ref mi, .ref fl, .ref bf, .int rk, .int sp, .int kn])), (gv, .inl (cI, 4, .inl g))] sz (fun o9 t9 w9 => ∃ (x9 : Nat), o9 = .threw x9 ∧ tx_X ex_a x9 t9 ∧ w9 = [(d0, .inr (0, [.int dm, .ref gv, .ref dr, .ref rl, .ref yl, .ref mi, .ref fl, .ref bf, .int rk, .int sp, .int kn])), (gv, .inl (cI, 4, .inl (upd (upd (upd (upd g 0 a) 1 b) 2 (tk_c dm c2)) 3 (tk_d dm d2))))]) := by
  refine tx_ofW (cc := b_D_add) (maxL := 5) (ret := (some .int)) (by decide) rfl ?_
  intro p e s m args below meth c s₁ B hml hT hv
  obtain ⟨rfl, hsz, hP, hD0, hx0⟩ := hv
  have hx := B.exec
  have hb := B.bytes
  have hr := B.returns
  have G := E.2.1
  have hown : s.vm.findClass cn_D = some m.cls := findClass_of_methodNamed B.named
  have hlocks := B.notSynchronized
  have hK := va_K.moved hx0.1.alike E.2.2.1
  subst hsz
  have hA0 := cx_new hD0 hx0.2.1
  have hD := hD0.self (sz := s.heap.size)
  generalize hAe : va_A [(d0, .inr (0, [.int dm, .ref gv, .ref dr, .ref rl, .ref yl, .ref mi, .ref fl, .ref bf, .int rk, .int sp, .int kn])), (gv, .inl (cI, 4, .inl g))] s.heap.size = A at hD hA0 ⊢
  have hA : ∀ q : Nat, s.heap.size ≤ q → A q := fun q h => by rw [← hAe]; exact Or.inr h
  have hS : va_S A s.heap s.heap [] := va_S.rf
  have hl := lv_entry ([.ref d0, .int a, .int b, .int c2, .int d2]) (n := 5) (Nat.le_of_ble_eq_true rfl)
  rw [lg_entry_eq]
  generalize (lg_sl ([.ref d0, .int a, .int b, .int c2, .int d2]) ++ List.replicate (5 - (lg_sl ([.ref d0, .int a, .int b, .int c2, .int d2])).length) Slot.unset).toArray = ls at hl ⊢
  have hl : lv_has ls 5 [(0, .ref d0), (1, .int a), (2, .int b), (3, .int c2), (4, .int d2)] := hl
  have hP : va_P D kl [(d0, .inr (0, [.int dm, .ref gv, .ref dr, .ref rl, .ref yl, .ref mi, .ref fl, .ref bf, .int rk, .int sp, .int kn])), (gv, .inl (cI, 4, .inl g))] s.heap := hP
  have hml : c.maxLocals = 5 := hml
  refine lv_aload_n hx hb d_D_add_0 rfl (lv_at hl 0 rfl) ?_
  refine lv_iload_n hx hb d_D_add_1 rfl (lv_at hl 1 rfl) ?_
  refine lv_iload_n hx hb d_D_add_2 rfl (lv_at hl 2 rfl) ?_
  refine lv_iload_n hx hb d_D_add_3 rfl (lv_at hl 3 rfl) ?_
  refine lv_iload hx hb d_D_add_4 (lv_at hl 4 rfl) ?_
  refine cx_call (D := D) (cl := kl) (ws := _) (wc := [(d0, .inr (0, [.int dm, .ref gv, .ref dr, .ref rl, .ref yl, .ref mi, .ref fl, .ref bf, .int rk, .int sp, .int kn])), (gv, .inl (cI, 4, .inl g))]) (wr := []) (tx_runV (C := cn_D) (b := d0) (As := [.int a, .int b, .int c2, .int d2]) (rest := []) hx hb hml hown (c_D_take E s.heap.size d0 gv dr rl yl mi fl bf dm rk sp kn a b c2 d2 g ) (cx_C (b0 := b0) G hx0 mw_239 mw_1 ny_D_take (by decide)) (gw.at G hx0 mw_236 rfl _) (gw.at G hx0 mw_238 rfl _) (gw.at G hx0 ms_D_take rfl _) ⟨cx_blind, va_recv hK hP (q0 := 0) (ci := 0) (q := (cn_D, ft_D, 11)) rfl rfl, (cx_pre (s := s) hx0 hP hD hS hA0 [0, 1] rfl rfl (by decide))⟩ rfl rfl hl.1 rfl (lv_room (Nat.le_of_ble_eq_true rfl)) d_D_add_6 ⟨by decide, by decide⟩) hP hD hS hA [0, 1] [] rfl rfl (by decide) (by decide) (fun v t w1 H locs ht hW9 hp hP hD hS => ?_) (fun x t w1 H locs ht hW9 hp hP hD hS => by obtain ⟨h9, -⟩ := hp; cases h9)
  obtain ⟨h9, rfl⟩ := hp
  cases h9
  refine W.eq (g2 := F0 m 9 ls []) rfl ?_
  refine W.widen (k := 0) (n := 0) (by decide) (by decide) ?_
  have hP : va_P D kl [(d0, .inr (0, [.int dm, .ref gv, .ref dr, .ref rl, .ref yl, .ref mi, .ref fl, .ref bf, .int rk, .int sp, .int kn])), (gv, .inl (cI, 4, .inl (upd (upd (upd (upd g 0 a) 1 b) 2 (tk_c dm c2)) 3 (tk_d dm d2))))] H := hP
  have hD : va_D A [(d0, .inr (0, [.int dm, .ref gv, .ref dr, .ref rl, .ref yl, .ref mi, .ref fl, .ref bf, .int rk, .int sp, .int kn])), (gv, .inl (cI, 4, .inl (upd (upd (upd (upd g 0 a) 1 b) 2 (tk_c dm c2)) 3 (tk_d dm d2))))] := hD
  refine lv_aload_n hx hb d_D_add_9 rfl (lv_at hl 0 rfl) ?_
  refine lv_iconst (v := (5 : Int32)) hx hb d_D_add_10 (by decide) ?_
  refine cx_call (D := D) (cl := kl) (ws := _) (wc := [(d0, .inr (0, [.int dm, .ref gv, .ref dr, .ref rl, .ref yl, .ref mi, .ref fl, .ref bf, .int rk, .int sp, .int kn])), (gv, .inl (cI, 4, .inl (upd (upd (upd (upd g 0 a) 1 b) 2 (tk_c dm c2)) 3 (tk_d dm d2))))]) (wr := []) (tx_runV (C := cn_D) (b := d0) (As := [.int (5 : Int32)]) (rest := []) hx hb hml hown (c_D_within_n E H.size d0 gv dr rl yl mi fl bf dm rk sp kn (5 : Int32) (upd (upd (upd (upd g 0 a) 1 b) 2 (tk_c dm c2)) 3 (tk_d dm d2)) h) (cx_C (b0 := b0) G hx0 mw_267 mw_1 ny_D_isGivenWithin (by decide)) (gw.at G hx0 mw_264 rfl _) (gw.at G hx0 mw_266 rfl _) (gw.at G hx0 ms_D_isGivenWithin rfl _) ⟨cx_blind, va_recv hK hP (q0 := 0) (ci := 0) (q := (cn_D, ft_D, 11)) rfl rfl, (cx_pre (s := s) hx0 hP hD hS hA0 [0, 1] rfl rfl (by decide))⟩ rfl rfl hl.1 rfl (lv_room (Nat.le_of_ble_eq_true rfl)) d_D_add_11 ⟨by decide, by decide⟩) hP hD hS hA [0, 1] [] rfl rfl (by decide) (by decide) (fun v t w1 H locs ht hW9 hp hP hD hS => ?_) (fun x t w1 H locs ht hW9 hp hP hD hS => by obtain ⟨h9, -⟩ := hp; cases h9)
  obtain ⟨h9, rfl⟩ := hp
  cases h9
  refine W.eq (g2 := F0 m 14 ls [.int (0 : Int32)]) rfl ?_
  refine W.widen (k := 0) (n := 0) (by decide) (by decide) ?_
  have hP : va_P D kl [(d0, .inr (0, [.int dm, .ref gv, .ref dr, .ref rl, .ref yl, .ref mi, .ref fl, .ref bf, .int rk, .int sp, .int kn])), (gv, .inl (cI, 4, .inl (upd (upd (upd (upd g 0 a) 1 b) 2 (tk_c dm c2)) 3 (tk_d dm d2))))] H := hP
  have hD : va_D A [(d0, .inr (0, [.int dm, .ref gv, .ref dr, .ref rl, .ref yl, .ref mi, .ref fl, .ref bf, .int rk, .int sp, .int kn])), (gv, .inl (cI, 4, .inl (upd (upd (upd (upd g 0 a) 1 b) 2 (tk_c dm c2)) 3 (tk_d dm d2))))] := hD
  refine lv_if_eq (tgt := 25) hx hb d_D_add_14 (by decide) (fun _ => ?_) (fun h99 => absurd h99 (by decide))
  refine cx_throw (A := A) (ws := [(d0, .inr (0, [.int dm, .ref gv, .ref dr, .ref rl, .ref yl, .ref mi, .ref fl, .ref bf, .int rk, .int sp, .int kn])), (gv, .inl (cI, 4, .inl (upd (upd (upd (upd g 0 a) 1 b) 2 (tk_c dm c2)) 3 (tk_d dm d2))))]) (post := (fun o9 t9 w9 => ∃ (x9 : Nat), o9 = .threw x9 ∧ tx_X ex_a x9 t9 ∧ w9 = [(d0, .inr (0, [.int dm, .ref gv, .ref dr, .ref rl, .ref yl, .ref mi, .ref fl, .ref bf, .int rk, .int sp, .int kn])), (gv, .inl (cI, 4, .inl (upd (upd (upd (upd g 0 a) 1 b) 2 (tk_c dm c2)) 3 (tk_d dm d2))))])) E hx0 hx hb hml hl.1 hlocks hown hT (hP.sub [0, 1] rfl) (hD.sub [0, 1] (by decide) rfl) hS hA0 st_a sl_a si_a sf_a (is := 72) (text := _) (by decide +kernel : (72, "a row has coordinates -5 .. 5, not all of them 0") ∈ ge_texts) d_D_add_25 d_D_add_28 d_D_add_29 d_D_add_31 d_D_add_34 (by decide) (fun x t hX => ⟨x, rfl, hX, rfl⟩)

set_option maxHeartbeats 4000000 in
set_option maxRecDepth 100000 in
theorem c_D_add_z {l : Launch} {s0 : State} {b0 : Addr} {D : va_G} {cI cJ cZ : ClassId} {tC tS : Nat} (E : gE l s0 b0 D cI cJ cZ tC tS) (sz : Nat) (d0 : Nat) (gv : Nat) (dr : Nat) (rl : Nat) (yl : Nat) (mi : Nat) (fl : Nat) (bf : Nat) (dm : Int32) (rk : Int32) (sp : Int32) (kn : Int32) (a : Int32) (b : Int32) (c2 : Int32) (d2 : Int32) (g : Nat → Int32) (h1 : iw (5 : Int32) a b (tk_c dm c2) (tk_d dm d2)) (h2 : iw (0 : Int32) a b (tk_c dm c2) (tk_d dm d2)) : cx_M l s0 D kl y_D_add b_D_add 5 (some .int) ({ frames := 6, cells := 1, slots := 6, locals := 82 } : Room) 1 6 [.ref d0, .int a, .int b, .int c2, .int d2] [(d0, .inr (0, [.int dm, .ref gv, .ref dr, .ref rl, .ref yl, .ref mi, .ref fl, .ref bf, .int rk, .int sp, .int kn])), (gv, .inl (cI, 4, .inl g))] sz (fun o9 t9 w9 => ∃ (x9 : Nat), o9 = .threw x9 ∧ tx_X ex_a x9 t9 ∧ w9 = [(d0, .inr (0, [.int dm, .ref gv, .ref dr, .ref rl, .ref yl, .ref mi, .ref fl, .ref bf, .int rk, .int sp, .int kn])), (gv, .inl (cI, 4, .inl (upd (upd (upd (upd g 0 a) 1 b) 2 (tk_c dm c2)) 3 (tk_d dm d2))))]) := by
  refine tx_ofW (cc := b_D_add) (maxL := 5) (ret := (some .int)) (by decide) rfl ?_
  intro p e s m args below meth c s₁ B hml hT hv
  obtain ⟨rfl, hsz, hP, hD0, hx0⟩ := hv
  have hx := B.exec
  have hb := B.bytes
  have hr := B.returns
  have G := E.2.1
  have hown : s.vm.findClass cn_D = some m.cls := findClass_of_methodNamed B.named
  have hlocks := B.notSynchronized
  have hK := va_K.moved hx0.1.alike E.2.2.1
  subst hsz
  have hA0 := cx_new hD0 hx0.2.1
  have hD := hD0.self (sz := s.heap.size)
  generalize hAe : va_A [(d0, .inr (0, [.int dm, .ref gv, .ref dr, .ref rl, .ref yl, .ref mi, .ref fl, .ref bf, .int rk, .int sp, .int kn])), (gv, .inl (cI, 4, .inl g))] s.heap.size = A at hD hA0 ⊢
  have hA : ∀ q : Nat, s.heap.size ≤ q → A q := fun q h => by rw [← hAe]; exact Or.inr h
  have hS : va_S A s.heap s.heap [] := va_S.rf
  have hl := lv_entry ([.ref d0, .int a, .int b, .int c2, .int d2]) (n := 5) (Nat.le_of_ble_eq_true rfl)
  rw [lg_entry_eq]
  generalize (lg_sl ([.ref d0, .int a, .int b, .int c2, .int d2]) ++ List.replicate (5 - (lg_sl ([.ref d0, .int a, .int b, .int c2, .int d2])).length) Slot.unset).toArray = ls at hl ⊢
  have hl : lv_has ls 5 [(0, .ref d0), (1, .int a), (2, .int b), (3, .int c2), (4, .int d2)] := hl
  have hP : va_P D kl [(d0, .inr (0, [.int dm, .ref gv, .ref dr, .ref rl, .ref yl, .ref mi, .ref fl, .ref bf, .int rk, .int sp, .int kn])), (gv, .inl (cI, 4, .inl g))] s.heap := hP
  have hml : c.maxLocals = 5 := hml
  refine lv_aload_n hx hb d_D_add_0 rfl (lv_at hl 0 rfl) ?_
  refine lv_iload_n hx hb d_D_add_1 rfl (lv_at hl 1 rfl) ?_
  refine lv_iload_n hx hb d_D_add_2 rfl (lv_at hl 2 rfl) ?_
  refine lv_iload_n hx hb d_D_add_3 rfl (lv_at hl 3 rfl) ?_
  refine lv_iload hx hb d_D_add_4 (lv_at hl 4 rfl) ?_
  refine cx_call (D := D) (cl := kl) (ws := _) (wc := [(d0, .inr (0, [.int dm, .ref gv, .ref dr, .ref rl, .ref yl, .ref mi, .ref fl, .ref bf, .int rk, .int sp, .int kn])), (gv, .inl (cI, 4, .inl g))]) (wr := []) (tx_runV (C := cn_D) (b := d0) (As := [.int a, .int b, .int c2, .int d2]) (rest := []) hx hb hml hown (c_D_take E s.heap.size d0 gv dr rl yl mi fl bf dm rk sp kn a b c2 d2 g ) (cx_C (b0 := b0) G hx0 mw_239 mw_1 ny_D_take (by decide)) (gw.at G hx0 mw_236 rfl _) (gw.at G hx0 mw_238 rfl _) (gw.at G hx0 ms_D_take rfl _) ⟨cx_blind, va_recv hK hP (q0 := 0) (ci := 0) (q := (cn_D, ft_D, 11)) rfl rfl, (cx_pre (s := s) hx0 hP hD hS hA0 [0, 1] rfl rfl (by decide))⟩ rfl rfl hl.1 rfl (lv_room (Nat.le_of_ble_eq_true rfl)) d_D_add_6 ⟨by decide, by decide⟩) hP hD hS hA [0, 1] [] rfl rfl (by decide) (by decide) (fun v t w1 H locs ht hW9 hp hP hD hS => ?_) (fun x t w1 H locs ht hW9 hp hP hD hS => by obtain ⟨h9, -⟩ := hp; cases h9)
  obtain ⟨h9, rfl⟩ := hp
  cases h9
  refine W.eq (g2 := F0 m 9 ls []) rfl ?_
  refine W.widen (k := 0) (n := 0) (by decide) (by decide) ?_
  have hP : va_P D kl [(d0, .inr (0, [.int dm, .ref gv, .ref dr, .ref rl, .ref yl, .ref mi, .ref fl, .ref bf, .int rk, .int sp, .int kn])), (gv, .inl (cI, 4, .inl (upd (upd (upd (upd g 0 a) 1 b) 2 (tk_c dm c2)) 3 (tk_d dm d2))))] H := hP
  have hD : va_D A [(d0, .inr (0, [.int dm, .ref gv, .ref dr, .ref rl, .ref yl, .ref mi, .ref fl, .ref bf, .int rk, .int sp, .int kn])), (gv, .inl (cI, 4, .inl (upd (upd (upd (upd g 0 a) 1 b) 2 (tk_c dm c2)) 3 (tk_d dm d2))))] := hD
  refine lv_aload_n hx hb d_D_add_9 rfl (lv_at hl 0 rfl) ?_
  refine lv_iconst (v := (5 : Int32)) hx hb d_D_add_10 (by decide) ?_
  refine cx_call (D := D) (cl := kl) (ws := _) (wc := [(d0, .inr (0, [.int dm, .ref gv, .ref dr, .ref rl, .ref yl, .ref mi, .ref fl, .ref bf, .int rk, .int sp, .int kn])), (gv, .inl (cI, 4, .inl (upd (upd (upd (upd g 0 a) 1 b) 2 (tk_c dm c2)) 3 (tk_d dm d2))))]) (wr := []) (tx_runV (C := cn_D) (b := d0) (As := [.int (5 : Int32)]) (rest := []) hx hb hml hown (c_D_within_y E H.size d0 gv dr rl yl mi fl bf dm rk sp kn (5 : Int32) (upd (upd (upd (upd g 0 a) 1 b) 2 (tk_c dm c2)) 3 (tk_d dm d2)) h1) (cx_C (b0 := b0) G hx0 mw_267 mw_1 ny_D_isGivenWithin (by decide)) (gw.at G hx0 mw_264 rfl _) (gw.at G hx0 mw_266 rfl _) (gw.at G hx0 ms_D_isGivenWithin rfl _) ⟨cx_blind, va_recv hK hP (q0 := 0) (ci := 0) (q := (cn_D, ft_D, 11)) rfl rfl, (cx_pre (s := s) hx0 hP hD hS hA0 [0, 1] rfl rfl (by decide))⟩ rfl rfl hl.1 rfl (lv_room (Nat.le_of_ble_eq_true rfl)) d_D_add_11 ⟨by decide, by decide⟩) hP hD hS hA [0, 1] [] rfl rfl (by decide) (by decide) (fun v t w1 H locs ht hW9 hp hP hD hS => ?_) (fun x t w1 H locs ht hW9 hp hP hD hS => by obtain ⟨h9, -⟩ := hp; cases h9)
  obtain ⟨h9, rfl⟩ := hp
  cases h9
  refine W.eq (g2 := F0 m 14 ls [.int (1 : Int32)]) rfl ?_
  refine W.widen (k := 0) (n := 0) (by decide) (by decide) ?_
  have hP : va_P D kl [(d0, .inr (0, [.int dm, .ref gv, .ref dr, .ref rl, .ref yl, .ref mi, .ref fl, .ref bf, .int rk, .int sp, .int kn])), (gv, .inl (cI, 4, .inl (upd (upd (upd (upd g 0 a) 1 b) 2 (tk_c dm c2)) 3 (tk_d dm d2))))] H := hP
  have hD : va_D A [(d0, .inr (0, [.int dm, .ref gv, .ref dr, .ref rl, .ref yl, .ref mi, .ref fl, .ref bf, .int rk, .int sp, .int kn])), (gv, .inl (cI, 4, .inl (upd (upd (upd (upd g 0 a) 1 b) 2 (tk_c dm c2)) 3 (tk_d dm d2))))] := hD
  refine lv_if_eq (tgt := 25) hx hb d_D_add_14 (by decide) (fun h99 => absurd h99 (by decide)) (fun _ => ?_)
  refine lv_aload_n hx hb d_D_add_17 rfl (lv_at hl 0 rfl) ?_
  refine lv_iconst (v := (0 : Int32)) hx hb d_D_add_18 (by decide) ?_
  refine cx_call (D := D) (cl := kl) (ws := _) (wc := [(d0, .inr (0, [.int dm, .ref gv, .ref dr, .ref rl, .ref yl, .ref mi, .ref fl, .ref bf, .int rk, .int sp, .int kn])), (gv, .inl (cI, 4, .inl (upd (upd (upd (upd g 0 a) 1 b) 2 (tk_c dm c2)) 3 (tk_d dm d2))))]) (wr := []) (tx_runV (C := cn_D) (b := d0) (As := [.int (0 : Int32)]) (rest := []) hx hb hml hown (c_D_within_y E H.size d0 gv dr rl yl mi fl bf dm rk sp kn (0 : Int32) (upd (upd (upd (upd g 0 a) 1 b) 2 (tk_c dm c2)) 3 (tk_d dm d2)) h2) (cx_C (b0 := b0) G hx0 mw_267 mw_1 ny_D_isGivenWithin (by decide)) (gw.at G hx0 mw_264 rfl _) (gw.at G hx0 mw_266 rfl _) (gw.at G hx0 ms_D_isGivenWithin rfl _) ⟨cx_blind, va_recv hK hP (q0 := 0) (ci := 0) (q := (cn_D, ft_D, 11)) rfl rfl, (cx_pre (s := s) hx0 hP hD hS hA0 [0, 1] rfl rfl (by decide))⟩ rfl rfl hl.1 rfl (lv_room (Nat.le_of_ble_eq_true rfl)) d_D_add_19 ⟨by decide, by decide⟩) hP hD hS hA [0, 1] [] rfl rfl (by decide) (by decide) (fun v t w1 H locs ht hW9 hp hP hD hS => ?_) (fun x t w1 H locs ht hW9 hp hP hD hS => by obtain ⟨h9, -⟩ := hp; cases h9)
  obtain ⟨h9, rfl⟩ := hp
  cases h9
  refine W.eq (g2 := F0 m 22 ls [.int (1 : Int32)]) rfl ?_
  refine W.widen (k := 0) (n := 0) (by decide) (by decide) ?_
  have hP : va_P D kl [(d0, .inr (0, [.int dm, .ref gv, .ref dr, .ref rl, .ref yl, .ref mi, .ref fl, .ref bf, .int rk, .int sp, .int kn])), (gv, .inl (cI, 4, .inl (upd (upd (upd (upd g 0 a) 1 b) 2 (tk_c dm c2)) 3 (tk_d dm d2))))] H := hP
  have hD : va_D A [(d0, .inr (0, [.int dm, .ref gv, .ref dr, .ref rl, .ref yl, .ref mi, .ref fl, .ref bf, .int rk, .int sp, .int kn])), (gv, .inl (cI, 4, .inl (upd (upd (upd (upd g 0 a) 1 b) 2 (tk_c dm c2)) 3 (tk_d dm d2))))] := hD
  refine lv_if_eq (tgt := 35) hx hb d_D_add_22 (by decide) (fun h99 => absurd h99 (by decide)) (fun _ => ?_)
  refine cx_throw (A := A) (ws := [(d0, .inr (0, [.int dm, .ref gv, .ref dr, .ref rl, .ref yl, .ref mi, .ref fl, .ref bf, .int rk, .int sp, .int kn])), (gv, .inl (cI, 4, .inl (upd (upd (upd (upd g 0 a) 1 b) 2 (tk_c dm c2)) 3 (tk_d dm d2))))]) (post := (fun o9 t9 w9 => ∃ (x9 : Nat), o9 = .threw x9 ∧ tx_X ex_a x9 t9 ∧ w9 = [(d0, .inr (0, [.int dm, .ref gv, .ref dr, .ref rl, .ref yl, .ref mi, .ref fl, .ref bf, .int rk, .int sp, .int kn])), (gv, .inl (cI, 4, .inl (upd (upd (upd (upd g 0 a) 1 b) 2 (tk_c dm c2)) 3 (tk_d dm d2))))])) E hx0 hx hb hml hl.1 hlocks hown hT (hP.sub [0, 1] rfl) (hD.sub [0, 1] (by decide) rfl) hS hA0 st_a sl_a si_a sf_a (is := 72) (text := _) (by decide +kernel : (72, "a row has coordinates -5 .. 5, not all of them 0") ∈ ge_texts) d_D_add_25 d_D_add_28 d_D_add_29 d_D_add_31 d_D_add_34 (by decide) (fun x t hX => ⟨x, rfl, hX, rfl⟩)

set_option maxHeartbeats 4000000 in
set_option maxRecDepth 100000 in
theorem c_D_holds_y {l : Launch} {s0 : State} {b0 : Addr} {D : va_G} {cI cJ cZ : ClassId} {tC tS : Nat} (E : gE l s0 b0 D cI cJ cZ tC tS) (sz : Nat) (d0 : Nat) (gv : Nat) (dr : Nat) (rl : Nat) (yl : Nat) (mi : Nat) (fl : Nat) (bf : Nat) (dm : Int32) (rk : Int32) (sp : Int32) (kn : Int32) (a : Int32) (b : Int32) (c2 : Int32) (d2 : Int32) (g : Nat → Int32) (rc : Nat) (ct : Nat) (mo : Nat) (pz : Nat) (pf : Nat → Int32) (hpz : pz = mo * 4) (hmo : mo ≤ 107) (hct : ct ≤ mo) (h : (∀ r, r < ct → ¬ pr4 pf r (upd (upd (upd (upd g 0 a) 1 b) 2 (tk_c dm c2)) 3 (tk_d dm d2)) < 0)) : cx_M l s0 D kl y_D_holds b_D_holds 5 (some .boolean) ({ frames := 3, cells := 0, slots := 0, locals := 69 } : Room) 0 0 [.ref d0, .int a, .int b, .int c2, .int d2] [(d0, .inr (0, [.int dm, .ref gv, .ref dr, .ref rl, .ref yl, .ref mi, .ref fl, .ref bf, .int rk, .int sp, .int kn])), (gv, .inl (cI, 4, .inl g)), (rl, .inr (1, [.ref rc, .int (nI ct), .int (nI mo)])), (rc, .inl (cI, pz, .inl pf))] sz (fun o9 _ w9 => o9 = .returned (some (.int (1 : Int32))) ∧ w9 = [(d0, .inr (0, [.int dm, .ref gv, .ref dr, .ref rl, .ref yl, .ref mi, .ref fl, .ref bf, .int rk, .int sp, .int kn])), (gv, .inl (cI, 4, .inl (upd (upd (upd (upd g 0 a) 1 b) 2 (tk_c dm c2)) 3 (tk_d dm d2)))), (rl, .inr (1, [.ref rc, .int (nI ct), .int (nI mo)])), (rc, .inl (cI, pz, .inl pf))]) := by
  refine tx_ofW (cc := b_D_holds) (maxL := 5) (ret := (some .boolean)) (by decide) rfl ?_
  intro p e s m args below meth c s₁ B hml hT hv
  obtain ⟨rfl, hsz, hP, hD0, hx0⟩ := hv
  have hx := B.exec
  have hb := B.bytes
  have hr := B.returns
  have G := E.2.1
  have hown : s.vm.findClass cn_D = some m.cls := findClass_of_methodNamed B.named
  have hlocks := B.notSynchronized
  have hK := va_K.moved hx0.1.alike E.2.2.1
  have hf_D : ∀ w99 ∈ u_ws cn_D ft_D 11, w99.before ([.ref d0, .int a, .int b, .int c2, .int d2] : List Value).toArray s = true := fun w99 h99 => gw.at G hx0 (fw_D w99 h99) (fo_D w99 h99) _
  subst hsz
  have hA0 := cx_new hD0 hx0.2.1
  have hD := hD0.self (sz := s.heap.size)
  generalize hAe : va_A [(d0, .inr (0, [.int dm, .ref gv, .ref dr, .ref rl, .ref yl, .ref mi, .ref fl, .ref bf, .int rk, .int sp, .int kn])), (gv, .inl (cI, 4, .inl g)), (rl, .inr (1, [.ref rc, .int (nI ct), .int (nI mo)])), (rc, .inl (cI, pz, .inl pf))] s.heap.size = A at hD hA0 ⊢
  have hA : ∀ q : Nat, s.heap.size ≤ q → A q := fun q h => by rw [← hAe]; exact Or.inr h
  have hS : va_S A s.heap s.heap [] := va_S.rf
  have hl := lv_entry ([.ref d0, .int a, .int b, .int c2, .int d2]) (n := 5) (Nat.le_of_ble_eq_true rfl)
  rw [lg_entry_eq]
  generalize (lg_sl ([.ref d0, .int a, .int b, .int c2, .int d2]) ++ List.replicate (5 - (lg_sl ([.ref d0, .int a, .int b, .int c2, .int d2])).length) Slot.unset).toArray = ls at hl ⊢
  have hl : lv_has ls 5 [(0, .ref d0), (1, .int a), (2, .int b), (3, .int c2), (4, .int d2)] := hl
  have hP : va_P D kl [(d0, .inr (0, [.int dm, .ref gv, .ref dr, .ref rl, .ref yl, .ref mi, .ref fl, .ref bf, .int rk, .int sp, .int kn])), (gv, .inl (cI, 4, .inl g)), (rl, .inr (1, [.ref rc, .int (nI ct), .int (nI mo)])), (rc, .inl (cI, pz, .inl pf))] s.heap := hP
  have hml : c.maxLocals = 5 := hml
  refine lv_aload_n hx hb d_D_holds_0 rfl (lv_at hl 0 rfl) ?_
  refine lv_iload_n hx hb d_D_holds_1 rfl (lv_at hl 1 rfl) ?_
  refine lv_iload_n hx hb d_D_holds_2 rfl (lv_at hl 2 rfl) ?_
  refine lv_iload_n hx hb d_D_holds_3 rfl (lv_at hl 3 rfl) ?_
  refine lv_iload hx hb d_D_holds_4 (lv_at hl 4 rfl) ?_
  refine cx_call (D := D) (cl := kl) (ws := _) (wc := [(d0, .inr (0, [.int dm, .ref gv, .ref dr, .ref rl, .ref yl, .ref mi, .ref fl, .ref bf, .int rk, .int sp, .int kn])), (gv, .inl (cI, 4, .inl g))]) (wr := [(rl, .inr (1, [.ref rc, .int (nI ct), .int (nI mo)])), (rc, .inl (cI, pz, .inl pf))]) (tx_runV (C := cn_D) (b := d0) (As := [.int a, .int b, .int c2, .int d2]) (rest := []) hx hb hml hown (c_D_take E s.heap.size d0 gv dr rl yl mi fl bf dm rk sp kn a b c2 d2 g ) (cx_C (b0 := b0) G hx0 mw_239 mw_1 ny_D_take (by decide)) (gw.at G hx0 mw_236 rfl _) (gw.at G hx0 mw_238 rfl _) (gw.at G hx0 ms_D_take rfl _) ⟨cx_blind, va_recv hK hP (q0 := 0) (ci := 0) (q := (cn_D, ft_D, 11)) rfl rfl, (cx_pre (s := s) hx0 hP hD hS hA0 [0, 1] rfl rfl (by decide))⟩ rfl rfl hl.1 rfl (lv_room (Nat.le_of_ble_eq_true rfl)) d_D_holds_6 ⟨by decide, by decide⟩) hP hD hS hA [0, 1] [2, 3] rfl rfl (by decide) (by decide) (fun v t w1 H locs ht hW9 hp hP hD hS => ?_) (fun x t w1 H locs ht hW9 hp hP hD hS => by obtain ⟨h9, -⟩ := hp; cases h9)
  obtain ⟨h9, rfl⟩ := hp
  cases h9
  refine W.eq (g2 := F0 m 9 ls []) rfl ?_
  refine W.widen (k := 0) (n := 0) (by decide) (by decide) ?_
  have hP : va_P D kl [(rl, .inr (1, [.ref rc, .int (nI ct), .int (nI mo)])), (rc, .inl (cI, pz, .inl pf)), (d0, .inr (0, [.int dm, .ref gv, .ref dr, .ref rl, .ref yl, .ref mi, .ref fl, .ref bf, .int rk, .int sp, .int kn])), (gv, .inl (cI, 4, .inl (upd (upd (upd (upd g 0 a) 1 b) 2 (tk_c dm c2)) 3 (tk_d dm d2))))] H := hP
  have hD : va_D A [(rl, .inr (1, [.ref rc, .int (nI ct), .int (nI mo)])), (rc, .inl (cI, pz, .inl pf)), (d0, .inr (0, [.int dm, .ref gv, .ref dr, .ref rl, .ref yl, .ref mi, .ref fl, .ref bf, .int rk, .int sp, .int kn])), (gv, .inl (cI, 4, .inl (upd (upd (upd (upd g 0 a) 1 b) 2 (tk_c dm c2)) 3 (tk_d dm d2))))] := hD
  refine lv_aload_n hx hb d_D_holds_9 rfl (lv_at hl 0 rfl) ?_
  refine lv_aload_n hx hb d_D_holds_10 rfl (lv_at hl 0 rfl) ?_
  refine va_get (D := D) (ci := 0) (v := .ref gv) (C := cn_D) (T := ft_D) (N := 11) hx hb hf_D (fun _ h => h) hown hK hP 2 rfl rfl 1 (by decide) (gw.at G hx0 mw_195 rfl _) (fun _ h9 => h9) rfl d_D_holds_11 ?_
  refine cx_call (D := D) (cl := kl) (ws := _) (wc := [(d0, .inr (0, [.int dm, .ref gv, .ref dr, .ref rl, .ref yl, .ref mi, .ref fl, .ref bf, .int rk, .int sp, .int kn])), (rl, .inr (1, [.ref rc, .int (nI ct), .int (nI mo)])), (rc, .inl (cI, pz, .inl pf)), (gv, .inl (cI, 4, .inl (upd (upd (upd (upd g 0 a) 1 b) 2 (tk_c dm c2)) 3 (tk_d dm d2))))]) (wr := []) (tx_runV (C := cn_D) (b := d0) (As := [.ref gv]) (rest := []) hx hb hml hown (c_D_inCone_y E H.size d0 gv dr rl yl mi fl bf dm rk sp kn rc ct mo pz pf gv (upd (upd (upd (upd g 0 a) 1 b) 2 (tk_c dm c2)) 3 (tk_d dm d2)) hpz hmo hct h) (cx_C (b0 := b0) G hx0 mw_243 mw_1 ny_D_isInCone (by decide)) (gw.at G hx0 mw_240 rfl _) (gw.at G hx0 mw_242 rfl _) (gw.at G hx0 ms_D_isInCone rfl _) ⟨cx_blind, va_recv hK hP (q0 := 2) (ci := 0) (q := (cn_D, ft_D, 11)) rfl rfl, (cx_pre (s := s) hx0 hP hD hS hA0 [2, 0, 1, 3] rfl rfl (by decide))⟩ rfl rfl hl.1 rfl (lv_room (Nat.le_of_ble_eq_true rfl)) d_D_holds_14 ⟨by decide, by decide⟩) hP hD hS hA [2, 0, 1, 3] [] rfl rfl (by decide) (by decide) (fun v t w1 H locs ht hW9 hp hP hD hS => ?_) (fun x t w1 H locs ht hW9 hp hP hD hS => by obtain ⟨h9, -⟩ := hp; cases h9)
  obtain ⟨h9, rfl⟩ := hp
  cases h9
  refine W.eq (g2 := F0 m 17 ls [.int (1 : Int32)]) rfl ?_
  refine W.widen (k := 0) (n := 0) (by decide) (by decide) ?_
  have hP : va_P D kl [(d0, .inr (0, [.int dm, .ref gv, .ref dr, .ref rl, .ref yl, .ref mi, .ref fl, .ref bf, .int rk, .int sp, .int kn])), (rl, .inr (1, [.ref rc, .int (nI ct), .int (nI mo)])), (rc, .inl (cI, pz, .inl pf)), (gv, .inl (cI, 4, .inl (upd (upd (upd (upd g 0 a) 1 b) 2 (tk_c dm c2)) 3 (tk_d dm d2))))] H := hP
  have hD : va_D A [(d0, .inr (0, [.int dm, .ref gv, .ref dr, .ref rl, .ref yl, .ref mi, .ref fl, .ref bf, .int rk, .int sp, .int kn])), (rl, .inr (1, [.ref rc, .int (nI ct), .int (nI mo)])), (rc, .inl (cI, pz, .inl pf)), (gv, .inl (cI, 4, .inl (upd (upd (upd (upd g 0 a) 1 b) 2 (tk_c dm c2)) 3 (tk_d dm d2))))] := hD
  exact tx_mono (fun _ h => tx_Z.of h) (W.zret (v := (1 : Int32)) hx hb hr (by decide) (fun t ht hW => ⟨⟨[(d0, .inr (0, [.int dm, .ref gv, .ref dr, .ref rl, .ref yl, .ref mi, .ref fl, .ref bf, .int rk, .int sp, .int kn])), (gv, .inl (cI, 4, .inl (upd (upd (upd (upd g 0 a) 1 b) 2 (tk_c dm c2)) 3 (tk_d dm d2)))), (rl, .inr (1, [.ref rc, .int (nI ct), .int (nI mo)])), (rc, .inl (cI, pz, .inl pf))], ⟨rfl, rfl⟩, by rw [ht]; exact hP.sub [0, 3, 1, 2] rfl, hD.sub [0, 3, 1, 2] (by decide) rfl⟩, hS.F ht⟩) hS.2.2 d_D_holds_17)

set_option maxHeartbeats 4000000 in
set_option maxRecDepth 100000 in
theorem c_D_holds_n {l : Launch} {s0 : State} {b0 : Addr} {D : va_G} {cI cJ cZ : ClassId} {tC tS : Nat} (E : gE l s0 b0 D cI cJ cZ tC tS) (sz : Nat) (d0 : Nat) (gv : Nat) (dr : Nat) (rl : Nat) (yl : Nat) (mi : Nat) (fl : Nat) (bf : Nat) (dm : Int32) (rk : Int32) (sp : Int32) (kn : Int32) (a : Int32) (b : Int32) (c2 : Int32) (d2 : Int32) (g : Nat → Int32) (rc : Nat) (ct : Nat) (mo : Nat) (pz : Nat) (pf : Nat → Int32) (hpz : pz = mo * 4) (hmo : mo ≤ 107) (hct : ct ≤ mo) (h : ¬ (∀ r, r < ct → ¬ pr4 pf r (upd (upd (upd (upd g 0 a) 1 b) 2 (tk_c dm c2)) 3 (tk_d dm d2)) < 0)) : cx_M l s0 D kl y_D_holds b_D_holds 5 (some .boolean) ({ frames := 3, cells := 0, slots := 0, locals := 69 } : Room) 0 0 [.ref d0, .int a, .int b, .int c2, .int d2] [(d0, .inr (0, [.int dm, .ref gv, .ref dr, .ref rl, .ref yl, .ref mi, .ref fl, .ref bf, .int rk, .int sp, .int kn])), (gv, .inl (cI, 4, .inl g)), (rl, .inr (1, [.ref rc, .int (nI ct), .int (nI mo)])), (rc, .inl (cI, pz, .inl pf))] sz (fun o9 _ w9 => o9 = .returned (some (.int (0 : Int32))) ∧ w9 = [(d0, .inr (0, [.int dm, .ref gv, .ref dr, .ref rl, .ref yl, .ref mi, .ref fl, .ref bf, .int rk, .int sp, .int kn])), (gv, .inl (cI, 4, .inl (upd (upd (upd (upd g 0 a) 1 b) 2 (tk_c dm c2)) 3 (tk_d dm d2)))), (rl, .inr (1, [.ref rc, .int (nI ct), .int (nI mo)])), (rc, .inl (cI, pz, .inl pf))]) := by
  refine tx_ofW (cc := b_D_holds) (maxL := 5) (ret := (some .boolean)) (by decide) rfl ?_
  intro p e s m args below meth c s₁ B hml hT hv
  obtain ⟨rfl, hsz, hP, hD0, hx0⟩ := hv
  have hx := B.exec
  have hb := B.bytes
  have hr := B.returns
  have G := E.2.1
  have hown : s.vm.findClass cn_D = some m.cls := findClass_of_methodNamed B.named
  have hlocks := B.notSynchronized
  have hK := va_K.moved hx0.1.alike E.2.2.1
  have hf_D : ∀ w99 ∈ u_ws cn_D ft_D 11, w99.before ([.ref d0, .int a, .int b, .int c2, .int d2] : List Value).toArray s = true := fun w99 h99 => gw.at G hx0 (fw_D w99 h99) (fo_D w99 h99) _
  subst hsz
  have hA0 := cx_new hD0 hx0.2.1
  have hD := hD0.self (sz := s.heap.size)
  generalize hAe : va_A [(d0, .inr (0, [.int dm, .ref gv, .ref dr, .ref rl, .ref yl, .ref mi, .ref fl, .ref bf, .int rk, .int sp, .int kn])), (gv, .inl (cI, 4, .inl g)), (rl, .inr (1, [.ref rc, .int (nI ct), .int (nI mo)])), (rc, .inl (cI, pz, .inl pf))] s.heap.size = A at hD hA0 ⊢
  have hA : ∀ q : Nat, s.heap.size ≤ q → A q := fun q h => by rw [← hAe]; exact Or.inr h
  have hS : va_S A s.heap s.heap [] := va_S.rf
  have hl := lv_entry ([.ref d0, .int a, .int b, .int c2, .int d2]) (n := 5) (Nat.le_of_ble_eq_true rfl)
  rw [lg_entry_eq]
  generalize (lg_sl ([.ref d0, .int a, .int b, .int c2, .int d2]) ++ List.replicate (5 - (lg_sl ([.ref d0, .int a, .int b, .int c2, .int d2])).length) Slot.unset).toArray = ls at hl ⊢
  have hl : lv_has ls 5 [(0, .ref d0), (1, .int a), (2, .int b), (3, .int c2), (4, .int d2)] := hl
  have hP : va_P D kl [(d0, .inr (0, [.int dm, .ref gv, .ref dr, .ref rl, .ref yl, .ref mi, .ref fl, .ref bf, .int rk, .int sp, .int kn])), (gv, .inl (cI, 4, .inl g)), (rl, .inr (1, [.ref rc, .int (nI ct), .int (nI mo)])), (rc, .inl (cI, pz, .inl pf))] s.heap := hP
  have hml : c.maxLocals = 5 := hml
  refine lv_aload_n hx hb d_D_holds_0 rfl (lv_at hl 0 rfl) ?_
  refine lv_iload_n hx hb d_D_holds_1 rfl (lv_at hl 1 rfl) ?_
  refine lv_iload_n hx hb d_D_holds_2 rfl (lv_at hl 2 rfl) ?_
  refine lv_iload_n hx hb d_D_holds_3 rfl (lv_at hl 3 rfl) ?_
  refine lv_iload hx hb d_D_holds_4 (lv_at hl 4 rfl) ?_
  refine cx_call (D := D) (cl := kl) (ws := _) (wc := [(d0, .inr (0, [.int dm, .ref gv, .ref dr, .ref rl, .ref yl, .ref mi, .ref fl, .ref bf, .int rk, .int sp, .int kn])), (gv, .inl (cI, 4, .inl g))]) (wr := [(rl, .inr (1, [.ref rc, .int (nI ct), .int (nI mo)])), (rc, .inl (cI, pz, .inl pf))]) (tx_runV (C := cn_D) (b := d0) (As := [.int a, .int b, .int c2, .int d2]) (rest := []) hx hb hml hown (c_D_take E s.heap.size d0 gv dr rl yl mi fl bf dm rk sp kn a b c2 d2 g ) (cx_C (b0 := b0) G hx0 mw_239 mw_1 ny_D_take (by decide)) (gw.at G hx0 mw_236 rfl _) (gw.at G hx0 mw_238 rfl _) (gw.at G hx0 ms_D_take rfl _) ⟨cx_blind, va_recv hK hP (q0 := 0) (ci := 0) (q := (cn_D, ft_D, 11)) rfl rfl, (cx_pre (s := s) hx0 hP hD hS hA0 [0, 1] rfl rfl (by decide))⟩ rfl rfl hl.1 rfl (lv_room (Nat.le_of_ble_eq_true rfl)) d_D_holds_6 ⟨by decide, by decide⟩) hP hD hS hA [0, 1] [2, 3] rfl rfl (by decide) (by decide) (fun v t w1 H locs ht hW9 hp hP hD hS => ?_) (fun x t w1 H locs ht hW9 hp hP hD hS => by obtain ⟨h9, -⟩ := hp; cases h9)
  obtain ⟨h9, rfl⟩ := hp
  cases h9
  refine W.eq (g2 := F0 m 9 ls []) rfl ?_
  refine W.widen (k := 0) (n := 0) (by decide) (by decide) ?_
  have hP : va_P D kl [(rl, .inr (1, [.ref rc, .int (nI ct), .int (nI mo)])), (rc, .inl (cI, pz, .inl pf)), (d0, .inr (0, [.int dm, .ref gv, .ref dr, .ref rl, .ref yl, .ref mi, .ref fl, .ref bf, .int rk, .int sp, .int kn])), (gv, .inl (cI, 4, .inl (upd (upd (upd (upd g 0 a) 1 b) 2 (tk_c dm c2)) 3 (tk_d dm d2))))] H := hP
  have hD : va_D A [(rl, .inr (1, [.ref rc, .int (nI ct), .int (nI mo)])), (rc, .inl (cI, pz, .inl pf)), (d0, .inr (0, [.int dm, .ref gv, .ref dr, .ref rl, .ref yl, .ref mi, .ref fl, .ref bf, .int rk, .int sp, .int kn])), (gv, .inl (cI, 4, .inl (upd (upd (upd (upd g 0 a) 1 b) 2 (tk_c dm c2)) 3 (tk_d dm d2))))] := hD
  refine lv_aload_n hx hb d_D_holds_9 rfl (lv_at hl 0 rfl) ?_
  refine lv_aload_n hx hb d_D_holds_10 rfl (lv_at hl 0 rfl) ?_
  refine va_get (D := D) (ci := 0) (v := .ref gv) (C := cn_D) (T := ft_D) (N := 11) hx hb hf_D (fun _ h => h) hown hK hP 2 rfl rfl 1 (by decide) (gw.at G hx0 mw_195 rfl _) (fun _ h9 => h9) rfl d_D_holds_11 ?_
  refine cx_call (D := D) (cl := kl) (ws := _) (wc := [(d0, .inr (0, [.int dm, .ref gv, .ref dr, .ref rl, .ref yl, .ref mi, .ref fl, .ref bf, .int rk, .int sp, .int kn])), (rl, .inr (1, [.ref rc, .int (nI ct), .int (nI mo)])), (rc, .inl (cI, pz, .inl pf)), (gv, .inl (cI, 4, .inl (upd (upd (upd (upd g 0 a) 1 b) 2 (tk_c dm c2)) 3 (tk_d dm d2))))]) (wr := []) (tx_runV (C := cn_D) (b := d0) (As := [.ref gv]) (rest := []) hx hb hml hown (c_D_inCone_n E H.size d0 gv dr rl yl mi fl bf dm rk sp kn rc ct mo pz pf gv (upd (upd (upd (upd g 0 a) 1 b) 2 (tk_c dm c2)) 3 (tk_d dm d2)) hpz hmo hct h) (cx_C (b0 := b0) G hx0 mw_243 mw_1 ny_D_isInCone (by decide)) (gw.at G hx0 mw_240 rfl _) (gw.at G hx0 mw_242 rfl _) (gw.at G hx0 ms_D_isInCone rfl _) ⟨cx_blind, va_recv hK hP (q0 := 2) (ci := 0) (q := (cn_D, ft_D, 11)) rfl rfl, (cx_pre (s := s) hx0 hP hD hS hA0 [2, 0, 1, 3] rfl rfl (by decide))⟩ rfl rfl hl.1 rfl (lv_room (Nat.le_of_ble_eq_true rfl)) d_D_holds_14 ⟨by decide, by decide⟩) hP hD hS hA [2, 0, 1, 3] [] rfl rfl (by decide) (by decide) (fun v t w1 H locs ht hW9 hp hP hD hS => ?_) (fun x t w1 H locs ht hW9 hp hP hD hS => by obtain ⟨h9, -⟩ := hp; cases h9)
  obtain ⟨h9, rfl⟩ := hp
  cases h9
  refine W.eq (g2 := F0 m 17 ls [.int (0 : Int32)]) rfl ?_
  refine W.widen (k := 0) (n := 0) (by decide) (by decide) ?_
  have hP : va_P D kl [(d0, .inr (0, [.int dm, .ref gv, .ref dr, .ref rl, .ref yl, .ref mi, .ref fl, .ref bf, .int rk, .int sp, .int kn])), (rl, .inr (1, [.ref rc, .int (nI ct), .int (nI mo)])), (rc, .inl (cI, pz, .inl pf)), (gv, .inl (cI, 4, .inl (upd (upd (upd (upd g 0 a) 1 b) 2 (tk_c dm c2)) 3 (tk_d dm d2))))] H := hP
  have hD : va_D A [(d0, .inr (0, [.int dm, .ref gv, .ref dr, .ref rl, .ref yl, .ref mi, .ref fl, .ref bf, .int rk, .int sp, .int kn])), (rl, .inr (1, [.ref rc, .int (nI ct), .int (nI mo)])), (rc, .inl (cI, pz, .inl pf)), (gv, .inl (cI, 4, .inl (upd (upd (upd (upd g 0 a) 1 b) 2 (tk_c dm c2)) 3 (tk_d dm d2))))] := hD
  exact tx_mono (fun _ h => tx_Z.of h) (W.zret (v := (0 : Int32)) hx hb hr (by decide) (fun t ht hW => ⟨⟨[(d0, .inr (0, [.int dm, .ref gv, .ref dr, .ref rl, .ref yl, .ref mi, .ref fl, .ref bf, .int rk, .int sp, .int kn])), (gv, .inl (cI, 4, .inl (upd (upd (upd (upd g 0 a) 1 b) 2 (tk_c dm c2)) 3 (tk_d dm d2)))), (rl, .inr (1, [.ref rc, .int (nI ct), .int (nI mo)])), (rc, .inl (cI, pz, .inl pf))], ⟨rfl, rfl⟩, by rw [ht]; exact hP.sub [0, 3, 1, 2] rfl, hD.sub [0, 3, 1, 2] (by decide) rfl⟩, hS.F ht⟩) hS.2.2 d_D_holds_17)

