/-! ===== own rows, laid by wip/tools/sym.py: the law's helpers ===== -/
set_option maxHeartbeats 4000000 in
set_option maxRecDepth 100000 in
theorem c_L_cell0 {l : Launch} {s0 : State} {b0 : Addr} {D : va_G} {cI cJ cZ : ClassId} {tC tS : Nat} (E : gE l s0 b0 D cI cJ cZ tC tS) (sz : Nat) (b : Nat) (xs : Nat → Int32) (hX0 : va_X b 0 xs s0 s0.heap) (hbl0 : b < s0.heap.size) : cx_M l s0 D kl y_L_cell b_L_cell 2 (some .int) ({ frames := 0, cells := 0, slots := 0, locals := 0 } : Room) 0 0 [.ref b, .int (0 : Int32)] [] sz (fun o9 _ w9 => o9 = .returned (some (.int (0 : Int32))) ∧ w9 = []) := by
  refine tx_ofW (cc := b_L_cell) (maxL := 2) (ret := (some .int)) (by decide) rfl ?_
  intro p e s m args below meth c s₁ B hml hT hv
  obtain ⟨rfl, hsz, hP, hD0, hx0⟩ := hv
  have hx := B.exec
  have hb := B.bytes
  have hr := B.returns
  have G := E.2.1
  have hown : s.vm.findClass cn_L = some m.cls := findClass_of_methodNamed B.named
  have hlocks := B.notSynchronized
  have hK := va_K.moved hx0.1.alike E.2.2.1
  subst hsz
  have hA0 := cx_new hD0 hx0.2.1
  have hD := hD0.self (sz := s.heap.size)
  generalize hAe : va_A [] s.heap.size = A at hD hA0 ⊢
  have hA : ∀ q : Nat, s.heap.size ≤ q → A q := fun q h => by rw [← hAe]; exact Or.inr h
  have hS : va_S A s.heap s.heap [] := va_S.rf
  have hl := lv_entry ([.ref b, .int (0 : Int32)]) (n := 2) (Nat.le_of_ble_eq_true rfl)
  rw [lg_entry_eq]
  generalize (lg_sl ([.ref b, .int (0 : Int32)]) ++ List.replicate (2 - (lg_sl ([.ref b, .int (0 : Int32)])).length) Slot.unset).toArray = ls at hl ⊢
  have hl : lv_has ls 2 [(0, .ref b), (1, .int (0 : Int32))] := hl
  have hP : va_P D kl [] s.heap := hP
  have hml : c.maxLocals = 2 := hml
  have hX : va_X b 0 xs s s.heap := (hX0.kept (hx0.2.2 b hbl0)).moved hx0.1.alike
  have hbl : b < s.heap.size := Nat.lt_of_lt_of_le hbl0 hx0.2.1
  have hbA : ¬ A b := fun h => absurd (hA0 b h) (Nat.not_le.mpr hbl0)
  refine lv_iload_n hx hb d_L_cell_0 rfl (lv_at hl 1 rfl) ?_
  refine lv_aload_n hx hb d_L_cell_1 rfl (lv_at hl 0 rfl) ?_
  refine va_slen hx hb hX hbl hbA hS d_L_cell_2 ?_
  refine tp_i (y := (0 : Int32)) (by decide) ?_
  refine lv_icmp_ge (tgt := 12) hx hb d_L_cell_3 (by decide) (fun _ => ?_) (fun h99 => absurd h99 (by decide))
  refine lv_iconst (v := (0 : Int32)) hx hb d_L_cell_12 (by decide) ?_
  exact tx_mono (fun _ h => tx_Z.of h) (W.iret (v := (0 : Int32)) hx hb hr (fun t ht hW => ⟨⟨[], ⟨rfl, rfl⟩, by rw [ht]; exact hP.sub [] rfl, hD.sub [] (by decide) rfl⟩, hS.F ht⟩) hS.2.2 d_L_cell_13)

set_option maxHeartbeats 4000000 in
set_option maxRecDepth 100000 in
theorem c_L_cell1 {l : Launch} {s0 : State} {b0 : Addr} {D : va_G} {cI cJ cZ : ClassId} {tC tS : Nat} (E : gE l s0 b0 D cI cJ cZ tC tS) (sz : Nat) (b : Nat) (xs : Nat → Int32) (hX0 : va_X b 1 xs s0 s0.heap) (hbl0 : b < s0.heap.size) : cx_M l s0 D kl y_L_cell b_L_cell 2 (some .int) ({ frames := 0, cells := 0, slots := 0, locals := 0 } : Room) 0 0 [.ref b, .int (0 : Int32)] [] sz (fun o9 _ w9 => o9 = .returned (some (.int (xs 0))) ∧ w9 = []) := by
  refine tx_ofW (cc := b_L_cell) (maxL := 2) (ret := (some .int)) (by decide) rfl ?_
  intro p e s m args below meth c s₁ B hml hT hv
  obtain ⟨rfl, hsz, hP, hD0, hx0⟩ := hv
  have hx := B.exec
  have hb := B.bytes
  have hr := B.returns
  have G := E.2.1
  have hown : s.vm.findClass cn_L = some m.cls := findClass_of_methodNamed B.named
  have hlocks := B.notSynchronized
  have hK := va_K.moved hx0.1.alike E.2.2.1
  subst hsz
  have hA0 := cx_new hD0 hx0.2.1
  have hD := hD0.self (sz := s.heap.size)
  generalize hAe : va_A [] s.heap.size = A at hD hA0 ⊢
  have hA : ∀ q : Nat, s.heap.size ≤ q → A q := fun q h => by rw [← hAe]; exact Or.inr h
  have hS : va_S A s.heap s.heap [] := va_S.rf
  have hl := lv_entry ([.ref b, .int (0 : Int32)]) (n := 2) (Nat.le_of_ble_eq_true rfl)
  rw [lg_entry_eq]
  generalize (lg_sl ([.ref b, .int (0 : Int32)]) ++ List.replicate (2 - (lg_sl ([.ref b, .int (0 : Int32)])).length) Slot.unset).toArray = ls at hl ⊢
  have hl : lv_has ls 2 [(0, .ref b), (1, .int (0 : Int32))] := hl
  have hP : va_P D kl [] s.heap := hP
  have hml : c.maxLocals = 2 := hml
  have hX : va_X b 1 xs s s.heap := (hX0.kept (hx0.2.2 b hbl0)).moved hx0.1.alike
  have hbl : b < s.heap.size := Nat.lt_of_lt_of_le hbl0 hx0.2.1
  have hbA : ¬ A b := fun h => absurd (hA0 b h) (Nat.not_le.mpr hbl0)
  refine lv_iload_n hx hb d_L_cell_0 rfl (lv_at hl 1 rfl) ?_
  refine lv_aload_n hx hb d_L_cell_1 rfl (lv_at hl 0 rfl) ?_
  refine va_slen hx hb hX hbl hbA hS d_L_cell_2 ?_
  refine tp_i (y := (1 : Int32)) (by decide) ?_
  refine lv_icmp_ge (tgt := 12) hx hb d_L_cell_3 (by decide) (fun h99 => absurd h99 (by decide)) (fun _ => ?_)
  refine lv_aload_n hx hb d_L_cell_6 rfl (lv_at hl 0 rfl) ?_
  refine lv_iload_n hx hb d_L_cell_7 rfl (lv_at hl 1 rfl) ?_
  refine va_sld hx hb hX hbl hbA hS (vp_in_iff.mpr (by decide)) d_L_cell_8 ?_
  refine tp_i (y := xs 0) (by rfl) ?_
  refine lv_goto (tgt := 13) hx hb d_L_cell_9 (by decide) ?_
  exact tx_mono (fun _ h => tx_Z.of h) (W.iret (v := xs 0) hx hb hr (fun t ht hW => ⟨⟨[], ⟨rfl, rfl⟩, by rw [ht]; exact hP.sub [] rfl, hD.sub [] (by decide) rfl⟩, hS.F ht⟩) hS.2.2 d_L_cell_13)

set_option maxHeartbeats 4000000 in
set_option maxRecDepth 100000 in
theorem c_L_cell2 {l : Launch} {s0 : State} {b0 : Addr} {D : va_G} {cI cJ cZ : ClassId} {tC tS : Nat} (E : gE l s0 b0 D cI cJ cZ tC tS) (sz : Nat) (b : Nat) (xs : Nat → Int32) (hX0 : va_X b 2 xs s0 s0.heap) (hbl0 : b < s0.heap.size) : cx_M l s0 D kl y_L_cell b_L_cell 2 (some .int) ({ frames := 0, cells := 0, slots := 0, locals := 0 } : Room) 0 0 [.ref b, .int (0 : Int32)] [] sz (fun o9 _ w9 => o9 = .returned (some (.int (xs 0))) ∧ w9 = []) := by
  refine tx_ofW (cc := b_L_cell) (maxL := 2) (ret := (some .int)) (by decide) rfl ?_
  intro p e s m args below meth c s₁ B hml hT hv
  obtain ⟨rfl, hsz, hP, hD0, hx0⟩ := hv
  have hx := B.exec
  have hb := B.bytes
  have hr := B.returns
  have G := E.2.1
  have hown : s.vm.findClass cn_L = some m.cls := findClass_of_methodNamed B.named
  have hlocks := B.notSynchronized
  have hK := va_K.moved hx0.1.alike E.2.2.1
  subst hsz
  have hA0 := cx_new hD0 hx0.2.1
  have hD := hD0.self (sz := s.heap.size)
  generalize hAe : va_A [] s.heap.size = A at hD hA0 ⊢
  have hA : ∀ q : Nat, s.heap.size ≤ q → A q := fun q h => by rw [← hAe]; exact Or.inr h
  have hS : va_S A s.heap s.heap [] := va_S.rf
  have hl := lv_entry ([.ref b, .int (0 : Int32)]) (n := 2) (Nat.le_of_ble_eq_true rfl)
  rw [lg_entry_eq]
  generalize (lg_sl ([.ref b, .int (0 : Int32)]) ++ List.replicate (2 - (lg_sl ([.ref b, .int (0 : Int32)])).length) Slot.unset).toArray = ls at hl ⊢
  have hl : lv_has ls 2 [(0, .ref b), (1, .int (0 : Int32))] := hl
  have hP : va_P D kl [] s.heap := hP
  have hml : c.maxLocals = 2 := hml
  have hX : va_X b 2 xs s s.heap := (hX0.kept (hx0.2.2 b hbl0)).moved hx0.1.alike
  have hbl : b < s.heap.size := Nat.lt_of_lt_of_le hbl0 hx0.2.1
  have hbA : ¬ A b := fun h => absurd (hA0 b h) (Nat.not_le.mpr hbl0)
  refine lv_iload_n hx hb d_L_cell_0 rfl (lv_at hl 1 rfl) ?_
  refine lv_aload_n hx hb d_L_cell_1 rfl (lv_at hl 0 rfl) ?_
  refine va_slen hx hb hX hbl hbA hS d_L_cell_2 ?_
  refine tp_i (y := (2 : Int32)) (by decide) ?_
  refine lv_icmp_ge (tgt := 12) hx hb d_L_cell_3 (by decide) (fun h99 => absurd h99 (by decide)) (fun _ => ?_)
  refine lv_aload_n hx hb d_L_cell_6 rfl (lv_at hl 0 rfl) ?_
  refine lv_iload_n hx hb d_L_cell_7 rfl (lv_at hl 1 rfl) ?_
  refine va_sld hx hb hX hbl hbA hS (vp_in_iff.mpr (by decide)) d_L_cell_8 ?_
  refine tp_i (y := xs 0) (by rfl) ?_
  refine lv_goto (tgt := 13) hx hb d_L_cell_9 (by decide) ?_
  exact tx_mono (fun _ h => tx_Z.of h) (W.iret (v := xs 0) hx hb hr (fun t ht hW => ⟨⟨[], ⟨rfl, rfl⟩, by rw [ht]; exact hP.sub [] rfl, hD.sub [] (by decide) rfl⟩, hS.F ht⟩) hS.2.2 d_L_cell_13)

set_option maxHeartbeats 4000000 in
set_option maxRecDepth 100000 in
theorem c_L_cell3 {l : Launch} {s0 : State} {b0 : Addr} {D : va_G} {cI cJ cZ : ClassId} {tC tS : Nat} (E : gE l s0 b0 D cI cJ cZ tC tS) (sz : Nat) (b : Nat) (xs : Nat → Int32) (hX0 : va_X b 3 xs s0 s0.heap) (hbl0 : b < s0.heap.size) : cx_M l s0 D kl y_L_cell b_L_cell 2 (some .int) ({ frames := 0, cells := 0, slots := 0, locals := 0 } : Room) 0 0 [.ref b, .int (0 : Int32)] [] sz (fun o9 _ w9 => o9 = .returned (some (.int (xs 0))) ∧ w9 = []) := by
  refine tx_ofW (cc := b_L_cell) (maxL := 2) (ret := (some .int)) (by decide) rfl ?_
  intro p e s m args below meth c s₁ B hml hT hv
  obtain ⟨rfl, hsz, hP, hD0, hx0⟩ := hv
  have hx := B.exec
  have hb := B.bytes
  have hr := B.returns
  have G := E.2.1
  have hown : s.vm.findClass cn_L = some m.cls := findClass_of_methodNamed B.named
  have hlocks := B.notSynchronized
  have hK := va_K.moved hx0.1.alike E.2.2.1
  subst hsz
  have hA0 := cx_new hD0 hx0.2.1
  have hD := hD0.self (sz := s.heap.size)
  generalize hAe : va_A [] s.heap.size = A at hD hA0 ⊢
  have hA : ∀ q : Nat, s.heap.size ≤ q → A q := fun q h => by rw [← hAe]; exact Or.inr h
  have hS : va_S A s.heap s.heap [] := va_S.rf
  have hl := lv_entry ([.ref b, .int (0 : Int32)]) (n := 2) (Nat.le_of_ble_eq_true rfl)
  rw [lg_entry_eq]
  generalize (lg_sl ([.ref b, .int (0 : Int32)]) ++ List.replicate (2 - (lg_sl ([.ref b, .int (0 : Int32)])).length) Slot.unset).toArray = ls at hl ⊢
  have hl : lv_has ls 2 [(0, .ref b), (1, .int (0 : Int32))] := hl
  have hP : va_P D kl [] s.heap := hP
  have hml : c.maxLocals = 2 := hml
  have hX : va_X b 3 xs s s.heap := (hX0.kept (hx0.2.2 b hbl0)).moved hx0.1.alike
  have hbl : b < s.heap.size := Nat.lt_of_lt_of_le hbl0 hx0.2.1
  have hbA : ¬ A b := fun h => absurd (hA0 b h) (Nat.not_le.mpr hbl0)
  refine lv_iload_n hx hb d_L_cell_0 rfl (lv_at hl 1 rfl) ?_
  refine lv_aload_n hx hb d_L_cell_1 rfl (lv_at hl 0 rfl) ?_
  refine va_slen hx hb hX hbl hbA hS d_L_cell_2 ?_
  refine tp_i (y := (3 : Int32)) (by decide) ?_
  refine lv_icmp_ge (tgt := 12) hx hb d_L_cell_3 (by decide) (fun h99 => absurd h99 (by decide)) (fun _ => ?_)
  refine lv_aload_n hx hb d_L_cell_6 rfl (lv_at hl 0 rfl) ?_
  refine lv_iload_n hx hb d_L_cell_7 rfl (lv_at hl 1 rfl) ?_
  refine va_sld hx hb hX hbl hbA hS (vp_in_iff.mpr (by decide)) d_L_cell_8 ?_
  refine tp_i (y := xs 0) (by rfl) ?_
  refine lv_goto (tgt := 13) hx hb d_L_cell_9 (by decide) ?_
  exact tx_mono (fun _ h => tx_Z.of h) (W.iret (v := xs 0) hx hb hr (fun t ht hW => ⟨⟨[], ⟨rfl, rfl⟩, by rw [ht]; exact hP.sub [] rfl, hD.sub [] (by decide) rfl⟩, hS.F ht⟩) hS.2.2 d_L_cell_13)

set_option maxHeartbeats 4000000 in
set_option maxRecDepth 100000 in
theorem c_L_cell4 {l : Launch} {s0 : State} {b0 : Addr} {D : va_G} {cI cJ cZ : ClassId} {tC tS : Nat} (E : gE l s0 b0 D cI cJ cZ tC tS) (sz : Nat) (b : Nat) (xs : Nat → Int32) (hX0 : va_X b 4 xs s0 s0.heap) (hbl0 : b < s0.heap.size) : cx_M l s0 D kl y_L_cell b_L_cell 2 (some .int) ({ frames := 0, cells := 0, slots := 0, locals := 0 } : Room) 0 0 [.ref b, .int (0 : Int32)] [] sz (fun o9 _ w9 => o9 = .returned (some (.int (xs 0))) ∧ w9 = []) := by
  refine tx_ofW (cc := b_L_cell) (maxL := 2) (ret := (some .int)) (by decide) rfl ?_
  intro p e s m args below meth c s₁ B hml hT hv
  obtain ⟨rfl, hsz, hP, hD0, hx0⟩ := hv
  have hx := B.exec
  have hb := B.bytes
  have hr := B.returns
  have G := E.2.1
  have hown : s.vm.findClass cn_L = some m.cls := findClass_of_methodNamed B.named
  have hlocks := B.notSynchronized
  have hK := va_K.moved hx0.1.alike E.2.2.1
  subst hsz
  have hA0 := cx_new hD0 hx0.2.1
  have hD := hD0.self (sz := s.heap.size)
  generalize hAe : va_A [] s.heap.size = A at hD hA0 ⊢
  have hA : ∀ q : Nat, s.heap.size ≤ q → A q := fun q h => by rw [← hAe]; exact Or.inr h
  have hS : va_S A s.heap s.heap [] := va_S.rf
  have hl := lv_entry ([.ref b, .int (0 : Int32)]) (n := 2) (Nat.le_of_ble_eq_true rfl)
  rw [lg_entry_eq]
  generalize (lg_sl ([.ref b, .int (0 : Int32)]) ++ List.replicate (2 - (lg_sl ([.ref b, .int (0 : Int32)])).length) Slot.unset).toArray = ls at hl ⊢
  have hl : lv_has ls 2 [(0, .ref b), (1, .int (0 : Int32))] := hl
  have hP : va_P D kl [] s.heap := hP
  have hml : c.maxLocals = 2 := hml
  have hX : va_X b 4 xs s s.heap := (hX0.kept (hx0.2.2 b hbl0)).moved hx0.1.alike
  have hbl : b < s.heap.size := Nat.lt_of_lt_of_le hbl0 hx0.2.1
  have hbA : ¬ A b := fun h => absurd (hA0 b h) (Nat.not_le.mpr hbl0)
  refine lv_iload_n hx hb d_L_cell_0 rfl (lv_at hl 1 rfl) ?_
  refine lv_aload_n hx hb d_L_cell_1 rfl (lv_at hl 0 rfl) ?_
  refine va_slen hx hb hX hbl hbA hS d_L_cell_2 ?_
  refine tp_i (y := (4 : Int32)) (by decide) ?_
  refine lv_icmp_ge (tgt := 12) hx hb d_L_cell_3 (by decide) (fun h99 => absurd h99 (by decide)) (fun _ => ?_)
  refine lv_aload_n hx hb d_L_cell_6 rfl (lv_at hl 0 rfl) ?_
  refine lv_iload_n hx hb d_L_cell_7 rfl (lv_at hl 1 rfl) ?_
  refine va_sld hx hb hX hbl hbA hS (vp_in_iff.mpr (by decide)) d_L_cell_8 ?_
  refine tp_i (y := xs 0) (by rfl) ?_
  refine lv_goto (tgt := 13) hx hb d_L_cell_9 (by decide) ?_
  exact tx_mono (fun _ h => tx_Z.of h) (W.iret (v := xs 0) hx hb hr (fun t ht hW => ⟨⟨[], ⟨rfl, rfl⟩, by rw [ht]; exact hP.sub [] rfl, hD.sub [] (by decide) rfl⟩, hS.F ht⟩) hS.2.2 d_L_cell_13)

set_option maxHeartbeats 4000000 in
set_option maxRecDepth 100000 in
theorem c_L_cell5 {l : Launch} {s0 : State} {b0 : Addr} {D : va_G} {cI cJ cZ : ClassId} {tC tS : Nat} (E : gE l s0 b0 D cI cJ cZ tC tS) (sz : Nat) (b : Nat) (xs : Nat → Int32) (hX0 : va_X b 5 xs s0 s0.heap) (hbl0 : b < s0.heap.size) : cx_M l s0 D kl y_L_cell b_L_cell 2 (some .int) ({ frames := 0, cells := 0, slots := 0, locals := 0 } : Room) 0 0 [.ref b, .int (0 : Int32)] [] sz (fun o9 _ w9 => o9 = .returned (some (.int (xs 0))) ∧ w9 = []) := by
  refine tx_ofW (cc := b_L_cell) (maxL := 2) (ret := (some .int)) (by decide) rfl ?_
  intro p e s m args below meth c s₁ B hml hT hv
  obtain ⟨rfl, hsz, hP, hD0, hx0⟩ := hv
  have hx := B.exec
  have hb := B.bytes
  have hr := B.returns
  have G := E.2.1
  have hown : s.vm.findClass cn_L = some m.cls := findClass_of_methodNamed B.named
  have hlocks := B.notSynchronized
  have hK := va_K.moved hx0.1.alike E.2.2.1
  subst hsz
  have hA0 := cx_new hD0 hx0.2.1
  have hD := hD0.self (sz := s.heap.size)
  generalize hAe : va_A [] s.heap.size = A at hD hA0 ⊢
  have hA : ∀ q : Nat, s.heap.size ≤ q → A q := fun q h => by rw [← hAe]; exact Or.inr h
  have hS : va_S A s.heap s.heap [] := va_S.rf
  have hl := lv_entry ([.ref b, .int (0 : Int32)]) (n := 2) (Nat.le_of_ble_eq_true rfl)
  rw [lg_entry_eq]
  generalize (lg_sl ([.ref b, .int (0 : Int32)]) ++ List.replicate (2 - (lg_sl ([.ref b, .int (0 : Int32)])).length) Slot.unset).toArray = ls at hl ⊢
  have hl : lv_has ls 2 [(0, .ref b), (1, .int (0 : Int32))] := hl
  have hP : va_P D kl [] s.heap := hP
  have hml : c.maxLocals = 2 := hml
  have hX : va_X b 5 xs s s.heap := (hX0.kept (hx0.2.2 b hbl0)).moved hx0.1.alike
  have hbl : b < s.heap.size := Nat.lt_of_lt_of_le hbl0 hx0.2.1
  have hbA : ¬ A b := fun h => absurd (hA0 b h) (Nat.not_le.mpr hbl0)
  refine lv_iload_n hx hb d_L_cell_0 rfl (lv_at hl 1 rfl) ?_
  refine lv_aload_n hx hb d_L_cell_1 rfl (lv_at hl 0 rfl) ?_
  refine va_slen hx hb hX hbl hbA hS d_L_cell_2 ?_
  refine tp_i (y := (5 : Int32)) (by decide) ?_
  refine lv_icmp_ge (tgt := 12) hx hb d_L_cell_3 (by decide) (fun h99 => absurd h99 (by decide)) (fun _ => ?_)
  refine lv_aload_n hx hb d_L_cell_6 rfl (lv_at hl 0 rfl) ?_
  refine lv_iload_n hx hb d_L_cell_7 rfl (lv_at hl 1 rfl) ?_
  refine va_sld hx hb hX hbl hbA hS (vp_in_iff.mpr (by decide)) d_L_cell_8 ?_
  refine tp_i (y := xs 0) (by rfl) ?_
  refine lv_goto (tgt := 13) hx hb d_L_cell_9 (by decide) ?_
  exact tx_mono (fun _ h => tx_Z.of h) (W.iret (v := xs 0) hx hb hr (fun t ht hW => ⟨⟨[], ⟨rfl, rfl⟩, by rw [ht]; exact hP.sub [] rfl, hD.sub [] (by decide) rfl⟩, hS.F ht⟩) hS.2.2 d_L_cell_13)

set_option maxHeartbeats 4000000 in
set_option maxRecDepth 100000 in
theorem c_L_cell6 {l : Launch} {s0 : State} {b0 : Addr} {D : va_G} {cI cJ cZ : ClassId} {tC tS : Nat} (E : gE l s0 b0 D cI cJ cZ tC tS) (sz : Nat) (b : Nat) (xs : Nat → Int32) (hX0 : va_X b 6 xs s0 s0.heap) (hbl0 : b < s0.heap.size) : cx_M l s0 D kl y_L_cell b_L_cell 2 (some .int) ({ frames := 0, cells := 0, slots := 0, locals := 0 } : Room) 0 0 [.ref b, .int (0 : Int32)] [] sz (fun o9 _ w9 => o9 = .returned (some (.int (xs 0))) ∧ w9 = []) := by
  refine tx_ofW (cc := b_L_cell) (maxL := 2) (ret := (some .int)) (by decide) rfl ?_
  intro p e s m args below meth c s₁ B hml hT hv
  obtain ⟨rfl, hsz, hP, hD0, hx0⟩ := hv
  have hx := B.exec
  have hb := B.bytes
  have hr := B.returns
  have G := E.2.1
  have hown : s.vm.findClass cn_L = some m.cls := findClass_of_methodNamed B.named
  have hlocks := B.notSynchronized
  have hK := va_K.moved hx0.1.alike E.2.2.1
  subst hsz
  have hA0 := cx_new hD0 hx0.2.1
  have hD := hD0.self (sz := s.heap.size)
  generalize hAe : va_A [] s.heap.size = A at hD hA0 ⊢
  have hA : ∀ q : Nat, s.heap.size ≤ q → A q := fun q h => by rw [← hAe]; exact Or.inr h
  have hS : va_S A s.heap s.heap [] := va_S.rf
  have hl := lv_entry ([.ref b, .int (0 : Int32)]) (n := 2) (Nat.le_of_ble_eq_true rfl)
  rw [lg_entry_eq]
  generalize (lg_sl ([.ref b, .int (0 : Int32)]) ++ List.replicate (2 - (lg_sl ([.ref b, .int (0 : Int32)])).length) Slot.unset).toArray = ls at hl ⊢
  have hl : lv_has ls 2 [(0, .ref b), (1, .int (0 : Int32))] := hl
  have hP : va_P D kl [] s.heap := hP
  have hml : c.maxLocals = 2 := hml
  have hX : va_X b 6 xs s s.heap := (hX0.kept (hx0.2.2 b hbl0)).moved hx0.1.alike
  have hbl : b < s.heap.size := Nat.lt_of_lt_of_le hbl0 hx0.2.1
  have hbA : ¬ A b := fun h => absurd (hA0 b h) (Nat.not_le.mpr hbl0)
  refine lv_iload_n hx hb d_L_cell_0 rfl (lv_at hl 1 rfl) ?_
  refine lv_aload_n hx hb d_L_cell_1 rfl (lv_at hl 0 rfl) ?_
  refine va_slen hx hb hX hbl hbA hS d_L_cell_2 ?_
  refine tp_i (y := (6 : Int32)) (by decide) ?_
  refine lv_icmp_ge (tgt := 12) hx hb d_L_cell_3 (by decide) (fun h99 => absurd h99 (by decide)) (fun _ => ?_)
  refine lv_aload_n hx hb d_L_cell_6 rfl (lv_at hl 0 rfl) ?_
  refine lv_iload_n hx hb d_L_cell_7 rfl (lv_at hl 1 rfl) ?_
  refine va_sld hx hb hX hbl hbA hS (vp_in_iff.mpr (by decide)) d_L_cell_8 ?_
  refine tp_i (y := xs 0) (by rfl) ?_
  refine lv_goto (tgt := 13) hx hb d_L_cell_9 (by decide) ?_
  exact tx_mono (fun _ h => tx_Z.of h) (W.iret (v := xs 0) hx hb hr (fun t ht hW => ⟨⟨[], ⟨rfl, rfl⟩, by rw [ht]; exact hP.sub [] rfl, hD.sub [] (by decide) rfl⟩, hS.F ht⟩) hS.2.2 d_L_cell_13)

set_option maxHeartbeats 4000000 in
set_option maxRecDepth 100000 in
theorem c_L_add_n {l : Launch} {s0 : State} {b0 : Addr} {D : va_G} {cI cJ cZ : ClassId} {tC tS : Nat} (E : gE l s0 b0 D cI cJ cZ tC tS) (sz : Nat) (d0 : Nat) (gv : Nat) (dr : Nat) (rl : Nat) (yl : Nat) (mi : Nat) (fl : Nat) (bf : Nat) (dm : Int32) (rk : Int32) (sp : Int32) (kn : Int32) (a : Int32) (b : Int32) (c2 : Int32) (d2 : Int32) (g : Nat → Int32) (ou : Nat) (h : ¬ iw (5 : Int32) a b (tk_c dm c2) (tk_d dm d2)) : cx_MH l s0 D kl y_L_add b_L_add 7 (some .int) [(0, 14, 17, 13), (0, 14, 21, 15)] ({ frames := 7, cells := 1, slots := 6, locals := 106 } : Room) 1 6 [.ref d0, .int a, .int b, .int c2, .int d2, .ref ou] [(d0, .inr (0, [.int dm, .ref gv, .ref dr, .ref rl, .ref yl, .ref mi, .ref fl, .ref bf, .int rk, .int sp, .int kn])), (gv, .inl (cI, 4, .inl g))] sz (fun o9 _ w9 => o9 = .returned (some (.int (1 : Int32))) ∧ w9 = []) := by
  refine tx_ofWH (cc := b_L_add) (maxL := 7) (ret := (some .int)) (by decide) rfl ?_
  intro p e s m args below meth c s₁ B hml hT hv
  obtain ⟨rfl, hsz, hP, hD0, hx0⟩ := hv
  have hx := B.exec
  have hb := B.bytes
  have hr := B.returns
  have G := E.2.1
  have hown : s.vm.findClass cn_L = some m.cls := findClass_of_methodNamed B.named
  have hlocks := B.notSynchronized
  have hK := va_K.moved hx0.1.alike E.2.2.1
  subst hsz
  have hA0 := cx_new hD0 hx0.2.1
  have hD := hD0.self (sz := s.heap.size)
  generalize hAe : va_A [(d0, .inr (0, [.int dm, .ref gv, .ref dr, .ref rl, .ref yl, .ref mi, .ref fl, .ref bf, .int rk, .int sp, .int kn])), (gv, .inl (cI, 4, .inl g))] s.heap.size = A at hD hA0 ⊢
  have hA : ∀ q : Nat, s.heap.size ≤ q → A q := fun q h => by rw [← hAe]; exact Or.inr h
  have hS : va_S A s.heap s.heap [] := va_S.rf
  have hl := lv_entry ([.ref d0, .int a, .int b, .int c2, .int d2, .ref ou]) (n := 7) (Nat.le_of_ble_eq_true rfl)
  rw [lg_entry_eq]
  generalize (lg_sl ([.ref d0, .int a, .int b, .int c2, .int d2, .ref ou]) ++ List.replicate (7 - (lg_sl ([.ref d0, .int a, .int b, .int c2, .int d2, .ref ou])).length) Slot.unset).toArray = ls at hl ⊢
  have hl : lv_has ls 7 [(0, .ref d0), (1, .int a), (2, .int b), (3, .int c2), (4, .int d2), (5, .ref ou)] := hl
  have hP : va_P D kl [(d0, .inr (0, [.int dm, .ref gv, .ref dr, .ref rl, .ref yl, .ref mi, .ref fl, .ref bf, .int rk, .int sp, .int kn])), (gv, .inl (cI, 4, .inl g))] s.heap := hP
  have hml : c.maxLocals = 7 := hml
  refine lv_aload hx hb d_L_add_0 (lv_at hl 5 rfl) ?_
  refine lv_iconst (v := (0 : Int32)) hx hb d_L_add_2 (by decide) ?_
  refine lv_aload_n hx hb d_L_add_3 rfl (lv_at hl 0 rfl) ?_
  refine lv_iload_n hx hb d_L_add_4 rfl (lv_at hl 1 rfl) ?_
  refine lv_iload_n hx hb d_L_add_5 rfl (lv_at hl 2 rfl) ?_
  refine lv_iload_n hx hb d_L_add_6 rfl (lv_at hl 3 rfl) ?_
  refine lv_iload hx hb d_L_add_7 (lv_at hl 4 rfl) ?_
  refine cx_call (D := D) (cl := kl) (ws := _) (wc := [(d0, .inr (0, [.int dm, .ref gv, .ref dr, .ref rl, .ref yl, .ref mi, .ref fl, .ref bf, .int rk, .int sp, .int kn])), (gv, .inl (cI, 4, .inl g))]) (wr := []) (tx_runV (C := cn_D) (b := d0) (As := [.int a, .int b, .int c2, .int d2]) (rest := [.int (0 : Int32), .ref ou]) hx hb hml hown (c_D_add_n E s.heap.size d0 gv dr rl yl mi fl bf dm rk sp kn a b c2 d2 g h) (cx_C (b0 := b0) G hx0 mw_263 mw_1 ny_D_add (by decide)) (gw.at G hx0 mw_260 rfl _) (gw.at G hx0 mw_261 rfl _) (gw.at G hx0 mw_262 rfl _) ⟨cx_blind, va_recv hK hP (q0 := 0) (ci := 0) (q := (cn_D, ft_D, 11)) rfl rfl, (cx_pre (s := s) hx0 hP hD hS hA0 [0, 1] rfl rfl (by decide))⟩ rfl rfl hl.1 rfl (lv_room (Nat.le_of_ble_eq_true rfl)) d_L_add_9 ⟨by decide, by decide⟩) hP hD hS hA [0, 1] [] rfl rfl (by decide) (by decide) (fun v t w1 H locs ht hW9 hp hP hD hS => by obtain ⟨x9, h9, -⟩ := hp; cases h9) (fun x t w1 H locs ht hW9 hp hP hD hS => ?_)
  obtain ⟨x9, h9, hX, rfl⟩ := hp
  have h8 := Outcome.threw.inj h9
  have hP : va_P D kl [(d0, .inr (0, [.int dm, .ref gv, .ref dr, .ref rl, .ref yl, .ref mi, .ref fl, .ref bf, .int rk, .int sp, .int kn]))] H := hP
  have hD : va_D A [(d0, .inr (0, [.int dm, .ref gv, .ref dr, .ref rl, .ref yl, .ref mi, .ref fl, .ref bf, .int rk, .int sp, .int kn]))] := hD
  rw [← h8] at hX
  refine cx_catch1 G hx0 hown hT (by decide) (by decide) hk_a hc_a hi_a ht hW9 hX ?_
  refine W.eq (g2 := F0 m 17 ls [.ref x]) rfl ?_
  refine W.widen (k := 1) (n := 6) (by decide) (by decide) ?_
  refine lv_astore (lv' := [(6, .ref x), (0, .ref d0), (1, .int a), (2, .int b), (3, .int c2), (4, .int d2), (5, .ref ou)]) hx hb d_L_add_17 hl (by decide) rfl (fun ls hl => ?_)
  refine lv_iconst (v := (1 : Int32)) hx hb d_L_add_19 (by decide) ?_
  exact tx_mono (fun _ h => tx_Z.of h) (W.iret (v := (1 : Int32)) hx hb hr (fun t ht hW => ⟨⟨[], ⟨rfl, rfl⟩, by rw [ht]; exact hP.sub [] rfl, hD.sub [] (by decide) rfl⟩, hS.F ht⟩) hS.2.2 d_L_add_20)

set_option maxHeartbeats 4000000 in
set_option maxRecDepth 100000 in
theorem c_L_add_z {l : Launch} {s0 : State} {b0 : Addr} {D : va_G} {cI cJ cZ : ClassId} {tC tS : Nat} (E : gE l s0 b0 D cI cJ cZ tC tS) (sz : Nat) (d0 : Nat) (gv : Nat) (dr : Nat) (rl : Nat) (yl : Nat) (mi : Nat) (fl : Nat) (bf : Nat) (dm : Int32) (rk : Int32) (sp : Int32) (kn : Int32) (a : Int32) (b : Int32) (c2 : Int32) (d2 : Int32) (g : Nat → Int32) (ou : Nat) (h1 : iw (5 : Int32) a b (tk_c dm c2) (tk_d dm d2)) (h2 : iw (0 : Int32) a b (tk_c dm c2) (tk_d dm d2)) : cx_MH l s0 D kl y_L_add b_L_add 7 (some .int) [(0, 14, 17, 13), (0, 14, 21, 15)] ({ frames := 7, cells := 1, slots := 6, locals := 106 } : Room) 1 6 [.ref d0, .int a, .int b, .int c2, .int d2, .ref ou] [(d0, .inr (0, [.int dm, .ref gv, .ref dr, .ref rl, .ref yl, .ref mi, .ref fl, .ref bf, .int rk, .int sp, .int kn])), (gv, .inl (cI, 4, .inl g))] sz (fun o9 _ w9 => o9 = .returned (some (.int (1 : Int32))) ∧ w9 = []) := by
  refine tx_ofWH (cc := b_L_add) (maxL := 7) (ret := (some .int)) (by decide) rfl ?_
  intro p e s m args below meth c s₁ B hml hT hv
  obtain ⟨rfl, hsz, hP, hD0, hx0⟩ := hv
  have hx := B.exec
  have hb := B.bytes
  have hr := B.returns
  have G := E.2.1
  have hown : s.vm.findClass cn_L = some m.cls := findClass_of_methodNamed B.named
  have hlocks := B.notSynchronized
  have hK := va_K.moved hx0.1.alike E.2.2.1
  subst hsz
  have hA0 := cx_new hD0 hx0.2.1
  have hD := hD0.self (sz := s.heap.size)
  generalize hAe : va_A [(d0, .inr (0, [.int dm, .ref gv, .ref dr, .ref rl, .ref yl, .ref mi, .ref fl, .ref bf, .int rk, .int sp, .int kn])), (gv, .inl (cI, 4, .inl g))] s.heap.size = A at hD hA0 ⊢
  have hA : ∀ q : Nat, s.heap.size ≤ q → A q := fun q h => by rw [← hAe]; exact Or.inr h
  have hS : va_S A s.heap s.heap [] := va_S.rf
  have hl := lv_entry ([.ref d0, .int a, .int b, .int c2, .int d2, .ref ou]) (n := 7) (Nat.le_of_ble_eq_true rfl)
  rw [lg_entry_eq]
  generalize (lg_sl ([.ref d0, .int a, .int b, .int c2, .int d2, .ref ou]) ++ List.replicate (7 - (lg_sl ([.ref d0, .int a, .int b, .int c2, .int d2, .ref ou])).length) Slot.unset).toArray = ls at hl ⊢
  have hl : lv_has ls 7 [(0, .ref d0), (1, .int a), (2, .int b), (3, .int c2), (4, .int d2), (5, .ref ou)] := hl
  have hP : va_P D kl [(d0, .inr (0, [.int dm, .ref gv, .ref dr, .ref rl, .ref yl, .ref mi, .ref fl, .ref bf, .int rk, .int sp, .int kn])), (gv, .inl (cI, 4, .inl g))] s.heap := hP
  have hml : c.maxLocals = 7 := hml
  refine lv_aload hx hb d_L_add_0 (lv_at hl 5 rfl) ?_
  refine lv_iconst (v := (0 : Int32)) hx hb d_L_add_2 (by decide) ?_
  refine lv_aload_n hx hb d_L_add_3 rfl (lv_at hl 0 rfl) ?_
  refine lv_iload_n hx hb d_L_add_4 rfl (lv_at hl 1 rfl) ?_
  refine lv_iload_n hx hb d_L_add_5 rfl (lv_at hl 2 rfl) ?_
  refine lv_iload_n hx hb d_L_add_6 rfl (lv_at hl 3 rfl) ?_
  refine lv_iload hx hb d_L_add_7 (lv_at hl 4 rfl) ?_
  refine cx_call (D := D) (cl := kl) (ws := _) (wc := [(d0, .inr (0, [.int dm, .ref gv, .ref dr, .ref rl, .ref yl, .ref mi, .ref fl, .ref bf, .int rk, .int sp, .int kn])), (gv, .inl (cI, 4, .inl g))]) (wr := []) (tx_runV (C := cn_D) (b := d0) (As := [.int a, .int b, .int c2, .int d2]) (rest := [.int (0 : Int32), .ref ou]) hx hb hml hown (c_D_add_z E s.heap.size d0 gv dr rl yl mi fl bf dm rk sp kn a b c2 d2 g h1 h2) (cx_C (b0 := b0) G hx0 mw_263 mw_1 ny_D_add (by decide)) (gw.at G hx0 mw_260 rfl _) (gw.at G hx0 mw_261 rfl _) (gw.at G hx0 mw_262 rfl _) ⟨cx_blind, va_recv hK hP (q0 := 0) (ci := 0) (q := (cn_D, ft_D, 11)) rfl rfl, (cx_pre (s := s) hx0 hP hD hS hA0 [0, 1] rfl rfl (by decide))⟩ rfl rfl hl.1 rfl (lv_room (Nat.le_of_ble_eq_true rfl)) d_L_add_9 ⟨by decide, by decide⟩) hP hD hS hA [0, 1] [] rfl rfl (by decide) (by decide) (fun v t w1 H locs ht hW9 hp hP hD hS => by obtain ⟨x9, h9, -⟩ := hp; cases h9) (fun x t w1 H locs ht hW9 hp hP hD hS => ?_)
  obtain ⟨x9, h9, hX, rfl⟩ := hp
  have h8 := Outcome.threw.inj h9
  have hP : va_P D kl [(d0, .inr (0, [.int dm, .ref gv, .ref dr, .ref rl, .ref yl, .ref mi, .ref fl, .ref bf, .int rk, .int sp, .int kn]))] H := hP
  have hD : va_D A [(d0, .inr (0, [.int dm, .ref gv, .ref dr, .ref rl, .ref yl, .ref mi, .ref fl, .ref bf, .int rk, .int sp, .int kn]))] := hD
  rw [← h8] at hX
  refine cx_catch1 G hx0 hown hT (by decide) (by decide) hk_a hc_a hi_a ht hW9 hX ?_
  refine W.eq (g2 := F0 m 17 ls [.ref x]) rfl ?_
  refine W.widen (k := 1) (n := 6) (by decide) (by decide) ?_
  refine lv_astore (lv' := [(6, .ref x), (0, .ref d0), (1, .int a), (2, .int b), (3, .int c2), (4, .int d2), (5, .ref ou)]) hx hb d_L_add_17 hl (by decide) rfl (fun ls hl => ?_)
  refine lv_iconst (v := (1 : Int32)) hx hb d_L_add_19 (by decide) ?_
  exact tx_mono (fun _ h => tx_Z.of h) (W.iret (v := (1 : Int32)) hx hb hr (fun t ht hW => ⟨⟨[], ⟨rfl, rfl⟩, by rw [ht]; exact hP.sub [] rfl, hD.sub [] (by decide) rfl⟩, hS.F ht⟩) hS.2.2 d_L_add_20)

set_option maxHeartbeats 4000000 in
set_option maxRecDepth 100000 in
theorem c_L_add_y {l : Launch} {s0 : State} {b0 : Addr} {D : va_G} {cI cJ cZ : ClassId} {tC tS : Nat} (E : gE l s0 b0 D cI cJ cZ tC tS) (sz : Nat) (d0 : Nat) (gv : Nat) (dr : Nat) (rl : Nat) (yl : Nat) (mi : Nat) (fl : Nat) (bf : Nat) (dm : Int32) (rk : Int32) (sp : Int32) (kn : Int32) (a : Int32) (b : Int32) (c2 : Int32) (d2 : Int32) (g : Nat → Int32) (rc : Nat) (rf : Nat → Int32) (cu : Nat) (nx : Nat) (cf : Nat → Int64) (nf : Nat → Int64) (jz : Int32) (ou : Nat) (of : Nat → Int64) (h1 : iw (5 : Int32) a b (tk_c dm c2) (tk_d dm d2)) (h2 : ¬ iw (0 : Int32) a b (tk_c dm c2) (tk_d dm d2)) : cx_MH l s0 D kl y_L_add b_L_add 7 (some .int) [(0, 14, 17, 13), (0, 14, 21, 15)] ({ frames := 4, cells := 0, slots := 0, locals := 97 } : Room) 0 0 [.ref d0, .int a, .int b, .int c2, .int d2, .ref ou] [(d0, .inr (0, [.int dm, .ref gv, .ref dr, .ref rl, .ref yl, .ref mi, .ref fl, .ref bf, .int rk, .int sp, .int kn])), (gv, .inl (cI, 4, .inl g)), (rl, .inr (1, [.ref rc, .int (0 : Int32), .int (8 : Int32)])), (rc, .inl (cI, 32, .inl rf)), (mi, .inr (2, [.ref cu, .ref nx, .int jz])), (cu, .inl (cJ, 16, .inr (.inl cf))), (nx, .inl (cJ, 16, .inr (.inl nf))), (ou, .inl (cJ, 1, .inr (.inl of)))] sz (fun o9 _ w9 => o9 = .returned (some (.int (0 : Int32))) ∧ w9 = [(ou, .inl (cJ, 1, .inr (.inl (vp_updL of 0 (0 : Int64)))))]) := by
  refine tx_ofWH (cc := b_L_add) (maxL := 7) (ret := (some .int)) (by decide) rfl ?_
  intro p e s m args below meth c s₁ B hml hT hv
  obtain ⟨rfl, hsz, hP, hD0, hx0⟩ := hv
  have hx := B.exec
  have hb := B.bytes
  have hr := B.returns
  have G := E.2.1
  have hown : s.vm.findClass cn_L = some m.cls := findClass_of_methodNamed B.named
  have hlocks := B.notSynchronized
  have hK := va_K.moved hx0.1.alike E.2.2.1
  subst hsz
  have hA0 := cx_new hD0 hx0.2.1
  have hD := hD0.self (sz := s.heap.size)
  generalize hAe : va_A [(d0, .inr (0, [.int dm, .ref gv, .ref dr, .ref rl, .ref yl, .ref mi, .ref fl, .ref bf, .int rk, .int sp, .int kn])), (gv, .inl (cI, 4, .inl g)), (rl, .inr (1, [.ref rc, .int (0 : Int32), .int (8 : Int32)])), (rc, .inl (cI, 32, .inl rf)), (mi, .inr (2, [.ref cu, .ref nx, .int jz])), (cu, .inl (cJ, 16, .inr (.inl cf))), (nx, .inl (cJ, 16, .inr (.inl nf))), (ou, .inl (cJ, 1, .inr (.inl of)))] s.heap.size = A at hD hA0 ⊢
  have hA : ∀ q : Nat, s.heap.size ≤ q → A q := fun q h => by rw [← hAe]; exact Or.inr h
  have hS : va_S A s.heap s.heap [] := va_S.rf
  have hl := lv_entry ([.ref d0, .int a, .int b, .int c2, .int d2, .ref ou]) (n := 7) (Nat.le_of_ble_eq_true rfl)
  rw [lg_entry_eq]
  generalize (lg_sl ([.ref d0, .int a, .int b, .int c2, .int d2, .ref ou]) ++ List.replicate (7 - (lg_sl ([.ref d0, .int a, .int b, .int c2, .int d2, .ref ou])).length) Slot.unset).toArray = ls at hl ⊢
  have hl : lv_has ls 7 [(0, .ref d0), (1, .int a), (2, .int b), (3, .int c2), (4, .int d2), (5, .ref ou)] := hl
  have hP : va_P D kl [(d0, .inr (0, [.int dm, .ref gv, .ref dr, .ref rl, .ref yl, .ref mi, .ref fl, .ref bf, .int rk, .int sp, .int kn])), (gv, .inl (cI, 4, .inl g)), (rl, .inr (1, [.ref rc, .int (0 : Int32), .int (8 : Int32)])), (rc, .inl (cI, 32, .inl rf)), (mi, .inr (2, [.ref cu, .ref nx, .int jz])), (cu, .inl (cJ, 16, .inr (.inl cf))), (nx, .inl (cJ, 16, .inr (.inl nf))), (ou, .inl (cJ, 1, .inr (.inl of)))] s.heap := hP
  have hml : c.maxLocals = 7 := hml
  refine lv_aload hx hb d_L_add_0 (lv_at hl 5 rfl) ?_
  refine lv_iconst (v := (0 : Int32)) hx hb d_L_add_2 (by decide) ?_
  refine lv_aload_n hx hb d_L_add_3 rfl (lv_at hl 0 rfl) ?_
  refine lv_iload_n hx hb d_L_add_4 rfl (lv_at hl 1 rfl) ?_
  refine lv_iload_n hx hb d_L_add_5 rfl (lv_at hl 2 rfl) ?_
  refine lv_iload_n hx hb d_L_add_6 rfl (lv_at hl 3 rfl) ?_
  refine lv_iload hx hb d_L_add_7 (lv_at hl 4 rfl) ?_
  refine cx_call (D := D) (cl := kl) (ws := _) (wc := [(d0, .inr (0, [.int dm, .ref gv, .ref dr, .ref rl, .ref yl, .ref mi, .ref fl, .ref bf, .int rk, .int sp, .int kn])), (gv, .inl (cI, 4, .inl g)), (rl, .inr (1, [.ref rc, .int (0 : Int32), .int (8 : Int32)])), (rc, .inl (cI, 32, .inl rf)), (mi, .inr (2, [.ref cu, .ref nx, .int jz])), (cu, .inl (cJ, 16, .inr (.inl cf))), (nx, .inl (cJ, 16, .inr (.inl nf)))]) (wr := [(ou, .inl (cJ, 1, .inr (.inl of)))]) (tx_runV (C := cn_D) (b := d0) (As := [.int a, .int b, .int c2, .int d2]) (rest := [.int (0 : Int32), .ref ou]) hx hb hml hown (c_D_add_y E s.heap.size d0 gv dr rl yl mi fl bf dm rk sp kn a b c2 d2 g rc rf cu nx cf nf jz h1 h2) (cx_C (b0 := b0) G hx0 mw_263 mw_1 ny_D_add (by decide)) (gw.at G hx0 mw_260 rfl _) (gw.at G hx0 mw_261 rfl _) (gw.at G hx0 mw_262 rfl _) ⟨cx_blind, va_recv hK hP (q0 := 0) (ci := 0) (q := (cn_D, ft_D, 11)) rfl rfl, (cx_pre (s := s) hx0 hP hD hS hA0 [0, 1, 2, 3, 4, 5, 6] rfl rfl (by decide))⟩ rfl rfl hl.1 rfl (lv_room (Nat.le_of_ble_eq_true rfl)) d_L_add_9 ⟨by decide, by decide⟩) hP hD hS hA [0, 1, 2, 3, 4, 5, 6] [7] rfl rfl (by decide) (by decide) (fun v t w1 H locs ht hW9 hp hP hD hS => ?_) (fun x t w1 H locs ht hW9 hp hP hD hS => by obtain ⟨h9, -⟩ := hp; cases h9)
  obtain ⟨h9, rfl⟩ := hp
  cases h9
  refine W.eq (g2 := F0 m 12 ls [.int (0 : Int32), .int (0 : Int32), .ref ou]) rfl ?_
  refine W.widen (k := 0) (n := 0) (by decide) (by decide) ?_
  have hP : va_P D kl [(ou, .inl (cJ, 1, .inr (.inl of)))] H := hP
  have hD : va_D A [(ou, .inl (cJ, 1, .inr (.inl of)))] := hD
  refine lv_i2l (v := (0 : Int64)) hx hb d_L_add_12 (by decide) ?_
  refine va_last hx hb hK hP hD hS 0 1 rfl rfl (vp_in_iff.mpr (by decide)) d_L_add_13 (fun H locs hP hD hS => ?_)
  have hP : va_P D kl [(ou, .inl (cJ, 1, .inr (.inl (vp_updL of 0 (0 : Int64)))))] H := hP
  have hD : va_D A [(ou, .inl (cJ, 1, .inr (.inl (vp_updL of 0 (0 : Int64)))))] := hD
  refine lv_goto (tgt := 25) hx hb d_L_add_14 (by decide) ?_
  refine lv_iconst (v := (0 : Int32)) hx hb d_L_add_25 (by decide) ?_
  exact tx_mono (fun _ h => tx_Z.of h) (W.iret (v := (0 : Int32)) hx hb hr (fun t ht hW => ⟨⟨[(ou, .inl (cJ, 1, .inr (.inl (vp_updL of 0 (0 : Int64)))))], ⟨rfl, rfl⟩, by rw [ht]; exact hP.sub [0] rfl, hD.sub [0] (by decide) rfl⟩, hS.F ht⟩) hS.2.2 d_L_add_26)

set_option maxHeartbeats 4000000 in
set_option maxRecDepth 100000 in
theorem c_L_drop0 {l : Launch} {s0 : State} {b0 : Addr} {D : va_G} {cI cJ cZ : ClassId} {tC tS : Nat} (E : gE l s0 b0 D cI cJ cZ tC tS) (sz : Nat) (d0 : Nat) (gv : Nat) (dr : Nat) (rl : Nat) (yl : Nat) (mi : Nat) (fl : Nat) (bf : Nat) (dm : Int32) (rk : Int32) (sp : Int32) (kn : Int32) (rc : Nat) (mo : Int32) (w : Int32) : cx_MH l s0 D kl y_L_drop b_L_drop 3 (some .int) [(0, 5, 8, 21)] ({ frames := 8, cells := 1, slots := 6, locals := 124 } : Room) 1 6 [.ref d0, .int w] [(d0, .inr (0, [.int dm, .ref gv, .ref dr, .ref rl, .ref yl, .ref mi, .ref fl, .ref bf, .int rk, .int sp, .int kn])), (rl, .inr (1, [.ref rc, .int (0 : Int32), .int mo]))] sz (fun o9 _ w9 => o9 = .returned (some (.int (1 : Int32))) ∧ w9 = []) := by
  refine tx_ofWH (cc := b_L_drop) (maxL := 3) (ret := (some .int)) (by decide) rfl ?_
  intro p e s m args below meth c s₁ B hml hT hv
  obtain ⟨rfl, hsz, hP, hD0, hx0⟩ := hv
  have hx := B.exec
  have hb := B.bytes
  have hr := B.returns
  have G := E.2.1
  have hown : s.vm.findClass cn_L = some m.cls := findClass_of_methodNamed B.named
  have hlocks := B.notSynchronized
  have hK := va_K.moved hx0.1.alike E.2.2.1
  subst hsz
  have hA0 := cx_new hD0 hx0.2.1
  have hD := hD0.self (sz := s.heap.size)
  generalize hAe : va_A [(d0, .inr (0, [.int dm, .ref gv, .ref dr, .ref rl, .ref yl, .ref mi, .ref fl, .ref bf, .int rk, .int sp, .int kn])), (rl, .inr (1, [.ref rc, .int (0 : Int32), .int mo]))] s.heap.size = A at hD hA0 ⊢
  have hA : ∀ q : Nat, s.heap.size ≤ q → A q := fun q h => by rw [← hAe]; exact Or.inr h
  have hS : va_S A s.heap s.heap [] := va_S.rf
  have hl := lv_entry ([.ref d0, .int w]) (n := 3) (Nat.le_of_ble_eq_true rfl)
  rw [lg_entry_eq]
  generalize (lg_sl ([.ref d0, .int w]) ++ List.replicate (3 - (lg_sl ([.ref d0, .int w])).length) Slot.unset).toArray = ls at hl ⊢
  have hl : lv_has ls 3 [(0, .ref d0), (1, .int w)] := hl
  have hP : va_P D kl [(d0, .inr (0, [.int dm, .ref gv, .ref dr, .ref rl, .ref yl, .ref mi, .ref fl, .ref bf, .int rk, .int sp, .int kn])), (rl, .inr (1, [.ref rc, .int (0 : Int32), .int mo]))] s.heap := hP
  have hml : c.maxLocals = 3 := hml
  refine lv_aload_n hx hb d_L_drop_0 rfl (lv_at hl 0 rfl) ?_
  refine lv_iload_n hx hb d_L_drop_1 rfl (lv_at hl 1 rfl) ?_
  refine cx_call (D := D) (cl := kl) (ws := _) (wc := [(d0, .inr (0, [.int dm, .ref gv, .ref dr, .ref rl, .ref yl, .ref mi, .ref fl, .ref bf, .int rk, .int sp, .int kn])), (rl, .inr (1, [.ref rc, .int (0 : Int32), .int mo]))]) (wr := []) (tx_runV (C := cn_D) (b := d0) (As := [.int w]) (rest := []) hx hb hml hown (c_D_drop_t E s.heap.size d0 gv dr rl yl mi fl bf dm rk sp kn rc (0 : Int32) mo w (fun h => h.1 h.2)) (cx_C (b0 := b0) G hx0 mw_386 mw_1 ny_D_drop (by decide)) (gw.at G hx0 mw_383 rfl _) (gw.at G hx0 mw_384 rfl _) (gw.at G hx0 mw_385 rfl _) ⟨cx_blind, va_recv hK hP (q0 := 0) (ci := 0) (q := (cn_D, ft_D, 11)) rfl rfl, (cx_pre (s := s) hx0 hP hD hS hA0 [0, 1] rfl rfl (by decide))⟩ rfl rfl hl.1 rfl (lv_room (Nat.le_of_ble_eq_true rfl)) d_L_drop_2 ⟨by decide, by decide⟩) hP hD hS hA [0, 1] [] rfl rfl (by decide) (by decide) (fun v t w1 H locs ht hW9 hp hP hD hS => by obtain ⟨x9, h9, -⟩ := hp; cases h9) (fun x t w1 H locs ht hW9 hp hP hD hS => ?_)
  obtain ⟨x9, h9, hX, rfl⟩ := hp
  have h8 := Outcome.threw.inj h9
  have hP : va_P D kl [(d0, .inr (0, [.int dm, .ref gv, .ref dr, .ref rl, .ref yl, .ref mi, .ref fl, .ref bf, .int rk, .int sp, .int kn])), (rl, .inr (1, [.ref rc, .int (0 : Int32), .int mo]))] H := hP
  have hD : va_D A [(d0, .inr (0, [.int dm, .ref gv, .ref dr, .ref rl, .ref yl, .ref mi, .ref fl, .ref bf, .int rk, .int sp, .int kn])), (rl, .inr (1, [.ref rc, .int (0 : Int32), .int mo]))] := hD
  rw [← h8] at hX
  refine cx_catch1 G hx0 hown hT (by decide) (by decide) hk_x hc_x hi_x ht hW9 hX ?_
  refine W.eq (g2 := F0 m 8 ls [.ref x]) rfl ?_
  refine W.widen (k := 1) (n := 6) (by decide) (by decide) ?_
  refine lv_astore_n (lv' := [(2, .ref x), (0, .ref d0), (1, .int w)]) hx hb d_L_drop_8 rfl hl (by decide) rfl (fun ls hl => ?_)
  refine lv_iconst (v := (1 : Int32)) hx hb d_L_drop_9 (by decide) ?_
  exact tx_mono (fun _ h => tx_Z.of h) (W.iret (v := (1 : Int32)) hx hb hr (fun t ht hW => ⟨⟨[], ⟨rfl, rfl⟩, by rw [ht]; exact hP.sub [] rfl, hD.sub [] (by decide) rfl⟩, hS.F ht⟩) hS.2.2 d_L_drop_10)

set_option maxHeartbeats 4000000 in
set_option maxRecDepth 100000 in
theorem c_L_row0 {l : Launch} {s0 : State} {b0 : Addr} {D : va_G} {cI cJ cZ : ClassId} {tC tS : Nat} (E : gE l s0 b0 D cI cJ cZ tC tS) (sz : Nat) (d0 : Nat) (gv : Nat) (dr : Nat) (rl : Nat) (yl : Nat) (mi : Nat) (fl : Nat) (bf : Nat) (dm : Int32) (rk : Int32) (sp : Int32) (kn : Int32) (rc : Nat) (mo : Int32) (w : Int32) (w2 : Int32) (ou : Nat) : cx_MH l s0 D kl y_L_row b_L_row 5 (some .int) [(0, 10, 13, 21)] ({ frames := 8, cells := 1, slots := 6, locals := 125 } : Room) 1 6 [.ref d0, .int w, .int w2, .ref ou] [(d0, .inr (0, [.int dm, .ref gv, .ref dr, .ref rl, .ref yl, .ref mi, .ref fl, .ref bf, .int rk, .int sp, .int kn])), (rl, .inr (1, [.ref rc, .int (0 : Int32), .int mo]))] sz (fun o9 _ w9 => o9 = .returned (some (.int (1 : Int32))) ∧ w9 = []) := by
  refine tx_ofWH (cc := b_L_row) (maxL := 5) (ret := (some .int)) (by decide) rfl ?_
  intro p e s m args below meth c s₁ B hml hT hv
  obtain ⟨rfl, hsz, hP, hD0, hx0⟩ := hv
  have hx := B.exec
  have hb := B.bytes
  have hr := B.returns
  have G := E.2.1
  have hown : s.vm.findClass cn_L = some m.cls := findClass_of_methodNamed B.named
  have hlocks := B.notSynchronized
  have hK := va_K.moved hx0.1.alike E.2.2.1
  subst hsz
  have hA0 := cx_new hD0 hx0.2.1
  have hD := hD0.self (sz := s.heap.size)
  generalize hAe : va_A [(d0, .inr (0, [.int dm, .ref gv, .ref dr, .ref rl, .ref yl, .ref mi, .ref fl, .ref bf, .int rk, .int sp, .int kn])), (rl, .inr (1, [.ref rc, .int (0 : Int32), .int mo]))] s.heap.size = A at hD hA0 ⊢
  have hA : ∀ q : Nat, s.heap.size ≤ q → A q := fun q h => by rw [← hAe]; exact Or.inr h
  have hS : va_S A s.heap s.heap [] := va_S.rf
  have hl := lv_entry ([.ref d0, .int w, .int w2, .ref ou]) (n := 5) (Nat.le_of_ble_eq_true rfl)
  rw [lg_entry_eq]
  generalize (lg_sl ([.ref d0, .int w, .int w2, .ref ou]) ++ List.replicate (5 - (lg_sl ([.ref d0, .int w, .int w2, .ref ou])).length) Slot.unset).toArray = ls at hl ⊢
  have hl : lv_has ls 5 [(0, .ref d0), (1, .int w), (2, .int w2), (3, .ref ou)] := hl
  have hP : va_P D kl [(d0, .inr (0, [.int dm, .ref gv, .ref dr, .ref rl, .ref yl, .ref mi, .ref fl, .ref bf, .int rk, .int sp, .int kn])), (rl, .inr (1, [.ref rc, .int (0 : Int32), .int mo]))] s.heap := hP
  have hml : c.maxLocals = 5 := hml
  refine lv_aload_n hx hb d_L_row_0 rfl (lv_at hl 3 rfl) ?_
  refine lv_iconst (v := (0 : Int32)) hx hb d_L_row_1 (by decide) ?_
  refine lv_aload_n hx hb d_L_row_2 rfl (lv_at hl 0 rfl) ?_
  refine lv_iload_n hx hb d_L_row_3 rfl (lv_at hl 1 rfl) ?_
  refine lv_iload_n hx hb d_L_row_4 rfl (lv_at hl 2 rfl) ?_
  refine cx_call (D := D) (cl := kl) (ws := _) (wc := [(d0, .inr (0, [.int dm, .ref gv, .ref dr, .ref rl, .ref yl, .ref mi, .ref fl, .ref bf, .int rk, .int sp, .int kn])), (rl, .inr (1, [.ref rc, .int (0 : Int32), .int mo]))]) (wr := []) (tx_runV (C := cn_D) (b := d0) (As := [.int w, .int w2]) (rest := [.int (0 : Int32), .ref ou]) hx hb hml hown (c_D_row_t E s.heap.size d0 gv dr rl yl mi fl bf dm rk sp kn rc (0 : Int32) mo w w2 (fun h => h.1 h.2)) (cx_C (b0 := b0) G hx0 mw_421 mw_1 ny_D_row (by decide)) (gw.at G hx0 mw_418 rfl _) (gw.at G hx0 mw_419 rfl _) (gw.at G hx0 mw_420 rfl _) ⟨cx_blind, va_recv hK hP (q0 := 0) (ci := 0) (q := (cn_D, ft_D, 11)) rfl rfl, (cx_pre (s := s) hx0 hP hD hS hA0 [0, 1] rfl rfl (by decide))⟩ rfl rfl hl.1 rfl (lv_room (Nat.le_of_ble_eq_true rfl)) d_L_row_5 ⟨by decide, by decide⟩) hP hD hS hA [0, 1] [] rfl rfl (by decide) (by decide) (fun v t w1 H locs ht hW9 hp hP hD hS => by obtain ⟨x9, h9, -⟩ := hp; cases h9) (fun x t w1 H locs ht hW9 hp hP hD hS => ?_)
  obtain ⟨x9, h9, hX, rfl⟩ := hp
  have h8 := Outcome.threw.inj h9
  have hP : va_P D kl [(d0, .inr (0, [.int dm, .ref gv, .ref dr, .ref rl, .ref yl, .ref mi, .ref fl, .ref bf, .int rk, .int sp, .int kn])), (rl, .inr (1, [.ref rc, .int (0 : Int32), .int mo]))] H := hP
  have hD : va_D A [(d0, .inr (0, [.int dm, .ref gv, .ref dr, .ref rl, .ref yl, .ref mi, .ref fl, .ref bf, .int rk, .int sp, .int kn])), (rl, .inr (1, [.ref rc, .int (0 : Int32), .int mo]))] := hD
  rw [← h8] at hX
  refine cx_catch1 G hx0 hown hT (by decide) (by decide) hk_x hc_x hi_x ht hW9 hX ?_
  refine W.eq (g2 := F0 m 13 ls [.ref x]) rfl ?_
  refine W.widen (k := 1) (n := 6) (by decide) (by decide) ?_
  refine lv_astore (lv' := [(4, .ref x), (0, .ref d0), (1, .int w), (2, .int w2), (3, .ref ou)]) hx hb d_L_row_13 hl (by decide) rfl (fun ls hl => ?_)
  refine lv_iconst (v := (1 : Int32)) hx hb d_L_row_15 (by decide) ?_
  exact tx_mono (fun _ h => tx_Z.of h) (W.iret (v := (1 : Int32)) hx hb hr (fun t ht hW => ⟨⟨[], ⟨rfl, rfl⟩, by rw [ht]; exact hP.sub [] rfl, hD.sub [] (by decide) rfl⟩, hS.F ht⟩) hS.2.2 d_L_row_16)

set_option maxHeartbeats 4000000 in
set_option maxRecDepth 100000 in
theorem c_L_rays0 {l : Launch} {s0 : State} {b0 : Addr} {D : va_G} {cI cJ cZ : ClassId} {tC tS : Nat} (E : gE l s0 b0 D cI cJ cZ tC tS) (sz : Nat) (d0 : Nat) (gv : Nat) (dr : Nat) (rl : Nat) (yl : Nat) (mi : Nat) (fl : Nat) (bf : Nat) (dm : Int32) (rk : Int32) (sp : Int32) (kn : Int32) (ou : Nat) (h : rk < dm) : cx_MH l s0 D kl y_L_rays b_L_rays 3 (some .int) [(0, 8, 11, 15)] ({ frames := 8, cells := 1, slots := 6, locals := 123 } : Room) 1 6 [.ref d0, .ref ou] [(d0, .inr (0, [.int dm, .ref gv, .ref dr, .ref rl, .ref yl, .ref mi, .ref fl, .ref bf, .int rk, .int sp, .int kn]))] sz (fun o9 _ w9 => o9 = .returned (some (.int (1 : Int32))) ∧ w9 = []) := by
  refine tx_ofWH (cc := b_L_rays) (maxL := 3) (ret := (some .int)) (by decide) rfl ?_
  intro p e s m args below meth c s₁ B hml hT hv
  obtain ⟨rfl, hsz, hP, hD0, hx0⟩ := hv
  have hx := B.exec
  have hb := B.bytes
  have hr := B.returns
  have G := E.2.1
  have hown : s.vm.findClass cn_L = some m.cls := findClass_of_methodNamed B.named
  have hlocks := B.notSynchronized
  have hK := va_K.moved hx0.1.alike E.2.2.1
  subst hsz
  have hA0 := cx_new hD0 hx0.2.1
  have hD := hD0.self (sz := s.heap.size)
  generalize hAe : va_A [(d0, .inr (0, [.int dm, .ref gv, .ref dr, .ref rl, .ref yl, .ref mi, .ref fl, .ref bf, .int rk, .int sp, .int kn]))] s.heap.size = A at hD hA0 ⊢
  have hA : ∀ q : Nat, s.heap.size ≤ q → A q := fun q h => by rw [← hAe]; exact Or.inr h
  have hS : va_S A s.heap s.heap [] := va_S.rf
  have hl := lv_entry ([.ref d0, .ref ou]) (n := 3) (Nat.le_of_ble_eq_true rfl)
  rw [lg_entry_eq]
  generalize (lg_sl ([.ref d0, .ref ou]) ++ List.replicate (3 - (lg_sl ([.ref d0, .ref ou])).length) Slot.unset).toArray = ls at hl ⊢
  have hl : lv_has ls 3 [(0, .ref d0), (1, .ref ou)] := hl
  have hP : va_P D kl [(d0, .inr (0, [.int dm, .ref gv, .ref dr, .ref rl, .ref yl, .ref mi, .ref fl, .ref bf, .int rk, .int sp, .int kn]))] s.heap := hP
  have hml : c.maxLocals = 3 := hml
  refine lv_aload_n hx hb d_L_rays_0 rfl (lv_at hl 1 rfl) ?_
  refine lv_iconst (v := (0 : Int32)) hx hb d_L_rays_1 (by decide) ?_
  refine lv_aload_n hx hb d_L_rays_2 rfl (lv_at hl 0 rfl) ?_
  refine cx_call (D := D) (cl := kl) (ws := _) (wc := [(d0, .inr (0, [.int dm, .ref gv, .ref dr, .ref rl, .ref yl, .ref mi, .ref fl, .ref bf, .int rk, .int sp, .int kn]))]) (wr := []) (tx_runV (C := cn_D) (b := d0) (As := []) (rest := [.int (0 : Int32), .ref ou]) hx hb hml hown (c_D_rays_t E s.heap.size d0 gv dr rl yl mi fl bf dm rk sp kn h) (cx_C (b0 := b0) G hx0 mw_434 mw_1 ny_D_rays (by decide)) (gw.at G hx0 mw_431 rfl _) (gw.at G hx0 mw_432 rfl _) (gw.at G hx0 mw_433 rfl _) ⟨cx_blind, va_recv hK hP (q0 := 0) (ci := 0) (q := (cn_D, ft_D, 11)) rfl rfl, (cx_pre (s := s) hx0 hP hD hS hA0 [0] rfl rfl (by decide))⟩ rfl rfl hl.1 rfl (lv_room (Nat.le_of_ble_eq_true rfl)) d_L_rays_3 ⟨by decide, by decide⟩) hP hD hS hA [0] [] rfl rfl (by decide) (by decide) (fun v t w1 H locs ht hW9 hp hP hD hS => by obtain ⟨x9, h9, -⟩ := hp; cases h9) (fun x t w1 H locs ht hW9 hp hP hD hS => ?_)
  obtain ⟨x9, h9, hX, rfl⟩ := hp
  have h8 := Outcome.threw.inj h9
  have hP : va_P D kl [(d0, .inr (0, [.int dm, .ref gv, .ref dr, .ref rl, .ref yl, .ref mi, .ref fl, .ref bf, .int rk, .int sp, .int kn]))] H := hP
  have hD : va_D A [(d0, .inr (0, [.int dm, .ref gv, .ref dr, .ref rl, .ref yl, .ref mi, .ref fl, .ref bf, .int rk, .int sp, .int kn]))] := hD
  rw [← h8] at hX
  refine cx_catch1 G hx0 hown hT (by decide) (by decide) hk_s hc_s hi_s ht hW9 hX ?_
  refine W.eq (g2 := F0 m 11 ls [.ref x]) rfl ?_
  refine W.widen (k := 1) (n := 6) (by decide) (by decide) ?_
  refine lv_astore_n (lv' := [(2, .ref x), (0, .ref d0), (1, .ref ou)]) hx hb d_L_rays_11 rfl hl (by decide) rfl (fun ls hl => ?_)
  refine lv_iconst (v := (1 : Int32)) hx hb d_L_rays_12 (by decide) ?_
  exact tx_mono (fun _ h => tx_Z.of h) (W.iret (v := (1 : Int32)) hx hb hr (fun t ht hW => ⟨⟨[], ⟨rfl, rfl⟩, by rw [ht]; exact hP.sub [] rfl, hD.sub [] (by decide) rfl⟩, hS.F ht⟩) hS.2.2 d_L_rays_13)

set_option maxHeartbeats 4000000 in
set_option maxRecDepth 100000 in
theorem c_L_ray0 {l : Launch} {s0 : State} {b0 : Addr} {D : va_G} {cI cJ cZ : ClassId} {tC tS : Nat} (E : gE l s0 b0 D cI cJ cZ tC tS) (sz : Nat) (d0 : Nat) (gv : Nat) (dr : Nat) (rl : Nat) (yl : Nat) (mi : Nat) (fl : Nat) (bf : Nat) (dm : Int32) (rk : Int32) (sp : Int32) (kn : Int32) (w0 : Int32) (w1 : Int32) (ou : Nat) (h : rk < dm) : cx_MH l s0 D kl y_L_ray b_L_ray 5 (some .int) [(0, 10, 13, 15), (0, 10, 17, 21)] ({ frames := 8, cells := 1, slots := 6, locals := 125 } : Room) 1 6 [.ref d0, .int w0, .int w1, .ref ou] [(d0, .inr (0, [.int dm, .ref gv, .ref dr, .ref rl, .ref yl, .ref mi, .ref fl, .ref bf, .int rk, .int sp, .int kn]))] sz (fun o9 _ w9 => o9 = .returned (some (.int (1 : Int32))) ∧ w9 = []) := by
  refine tx_ofWH (cc := b_L_ray) (maxL := 5) (ret := (some .int)) (by decide) rfl ?_
  intro p e s m args below meth c s₁ B hml hT hv
  obtain ⟨rfl, hsz, hP, hD0, hx0⟩ := hv
  have hx := B.exec
  have hb := B.bytes
  have hr := B.returns
  have G := E.2.1
  have hown : s.vm.findClass cn_L = some m.cls := findClass_of_methodNamed B.named
  have hlocks := B.notSynchronized
  have hK := va_K.moved hx0.1.alike E.2.2.1
  subst hsz
  have hA0 := cx_new hD0 hx0.2.1
  have hD := hD0.self (sz := s.heap.size)
  generalize hAe : va_A [(d0, .inr (0, [.int dm, .ref gv, .ref dr, .ref rl, .ref yl, .ref mi, .ref fl, .ref bf, .int rk, .int sp, .int kn]))] s.heap.size = A at hD hA0 ⊢
  have hA : ∀ q : Nat, s.heap.size ≤ q → A q := fun q h => by rw [← hAe]; exact Or.inr h
  have hS : va_S A s.heap s.heap [] := va_S.rf
  have hl := lv_entry ([.ref d0, .int w0, .int w1, .ref ou]) (n := 5) (Nat.le_of_ble_eq_true rfl)
  rw [lg_entry_eq]
  generalize (lg_sl ([.ref d0, .int w0, .int w1, .ref ou]) ++ List.replicate (5 - (lg_sl ([.ref d0, .int w0, .int w1, .ref ou])).length) Slot.unset).toArray = ls at hl ⊢
  have hl : lv_has ls 5 [(0, .ref d0), (1, .int w0), (2, .int w1), (3, .ref ou)] := hl
  have hP : va_P D kl [(d0, .inr (0, [.int dm, .ref gv, .ref dr, .ref rl, .ref yl, .ref mi, .ref fl, .ref bf, .int rk, .int sp, .int kn]))] s.heap := hP
  have hml : c.maxLocals = 5 := hml
  refine lv_aload_n hx hb d_L_ray_0 rfl (lv_at hl 3 rfl) ?_
  refine lv_iconst (v := (0 : Int32)) hx hb d_L_ray_1 (by decide) ?_
  refine lv_aload_n hx hb d_L_ray_2 rfl (lv_at hl 0 rfl) ?_
  refine lv_iload_n hx hb d_L_ray_3 rfl (lv_at hl 1 rfl) ?_
  refine lv_iload_n hx hb d_L_ray_4 rfl (lv_at hl 2 rfl) ?_
  refine cx_call (D := D) (cl := kl) (ws := _) (wc := [(d0, .inr (0, [.int dm, .ref gv, .ref dr, .ref rl, .ref yl, .ref mi, .ref fl, .ref bf, .int rk, .int sp, .int kn]))]) (wr := []) (tx_runV (C := cn_D) (b := d0) (As := [.int w0, .int w1]) (rest := [.int (0 : Int32), .ref ou]) hx hb hml hown (c_D_ray_t E s.heap.size d0 gv dr rl yl mi fl bf dm rk sp kn w0 w1 h) (cx_C (b0 := b0) G hx0 mw_620 mw_1 ny_D_ray (by decide)) (gw.at G hx0 mw_617 rfl _) (gw.at G hx0 mw_618 rfl _) (gw.at G hx0 mw_619 rfl _) ⟨cx_blind, va_recv hK hP (q0 := 0) (ci := 0) (q := (cn_D, ft_D, 11)) rfl rfl, (cx_pre (s := s) hx0 hP hD hS hA0 [0] rfl rfl (by decide))⟩ rfl rfl hl.1 rfl (lv_room (Nat.le_of_ble_eq_true rfl)) d_L_ray_5 ⟨by decide, by decide⟩) hP hD hS hA [0] [] rfl rfl (by decide) (by decide) (fun v t w1 H locs ht hW9 hp hP hD hS => by obtain ⟨x9, h9, -⟩ := hp; cases h9) (fun x t w1 H locs ht hW9 hp hP hD hS => ?_)
  obtain ⟨x9, h9, hX, rfl⟩ := hp
  have h8 := Outcome.threw.inj h9
  have hP : va_P D kl [(d0, .inr (0, [.int dm, .ref gv, .ref dr, .ref rl, .ref yl, .ref mi, .ref fl, .ref bf, .int rk, .int sp, .int kn]))] H := hP
  have hD : va_D A [(d0, .inr (0, [.int dm, .ref gv, .ref dr, .ref rl, .ref yl, .ref mi, .ref fl, .ref bf, .int rk, .int sp, .int kn]))] := hD
  rw [← h8] at hX
  refine cx_catch1 G hx0 hown hT (by decide) (by decide) hk_s hc_s hi_s ht hW9 hX ?_
  refine W.eq (g2 := F0 m 13 ls [.ref x]) rfl ?_
  refine W.widen (k := 1) (n := 6) (by decide) (by decide) ?_
  refine lv_astore (lv' := [(4, .ref x), (0, .ref d0), (1, .int w0), (2, .int w1), (3, .ref ou)]) hx hb d_L_ray_13 hl (by decide) rfl (fun ls hl => ?_)
  refine lv_iconst (v := (1 : Int32)) hx hb d_L_ray_15 (by decide) ?_
  exact tx_mono (fun _ h => tx_Z.of h) (W.iret (v := (1 : Int32)) hx hb hr (fun t ht hW => ⟨⟨[], ⟨rfl, rfl⟩, by rw [ht]; exact hP.sub [] rfl, hD.sub [] (by decide) rfl⟩, hS.F ht⟩) hS.2.2 d_L_ray_16)

set_option maxHeartbeats 4000000 in
set_option maxRecDepth 100000 in
theorem c_L_size0 {l : Launch} {s0 : State} {b0 : Addr} {D : va_G} {cI cJ cZ : ClassId} {tC tS : Nat} (E : gE l s0 b0 D cI cJ cZ tC tS) (sz : Nat) (d0 : Nat) (gv : Nat) (dr : Nat) (rl : Nat) (yl : Nat) (mi : Nat) (fl : Nat) (bf : Nat) (dm : Int32) (rk : Int32) (sp : Int32) (kn : Int32) (ou : Nat) (h : rk < dm) : cx_MH l s0 D kl y_L_size b_L_size 3 (some .int) [(0, 8, 11, 15)] ({ frames := 8, cells := 1, slots := 6, locals := 123 } : Room) 1 6 [.ref d0, .ref ou] [(d0, .inr (0, [.int dm, .ref gv, .ref dr, .ref rl, .ref yl, .ref mi, .ref fl, .ref bf, .int rk, .int sp, .int kn]))] sz (fun o9 _ w9 => o9 = .returned (some (.int (1 : Int32))) ∧ w9 = []) := by
  refine tx_ofWH (cc := b_L_size) (maxL := 3) (ret := (some .int)) (by decide) rfl ?_
  intro p e s m args below meth c s₁ B hml hT hv
  obtain ⟨rfl, hsz, hP, hD0, hx0⟩ := hv
  have hx := B.exec
  have hb := B.bytes
  have hr := B.returns
  have G := E.2.1
  have hown : s.vm.findClass cn_L = some m.cls := findClass_of_methodNamed B.named
  have hlocks := B.notSynchronized
  have hK := va_K.moved hx0.1.alike E.2.2.1
  subst hsz
  have hA0 := cx_new hD0 hx0.2.1
  have hD := hD0.self (sz := s.heap.size)
  generalize hAe : va_A [(d0, .inr (0, [.int dm, .ref gv, .ref dr, .ref rl, .ref yl, .ref mi, .ref fl, .ref bf, .int rk, .int sp, .int kn]))] s.heap.size = A at hD hA0 ⊢
  have hA : ∀ q : Nat, s.heap.size ≤ q → A q := fun q h => by rw [← hAe]; exact Or.inr h
  have hS : va_S A s.heap s.heap [] := va_S.rf
  have hl := lv_entry ([.ref d0, .ref ou]) (n := 3) (Nat.le_of_ble_eq_true rfl)
  rw [lg_entry_eq]
  generalize (lg_sl ([.ref d0, .ref ou]) ++ List.replicate (3 - (lg_sl ([.ref d0, .ref ou])).length) Slot.unset).toArray = ls at hl ⊢
  have hl : lv_has ls 3 [(0, .ref d0), (1, .ref ou)] := hl
  have hP : va_P D kl [(d0, .inr (0, [.int dm, .ref gv, .ref dr, .ref rl, .ref yl, .ref mi, .ref fl, .ref bf, .int rk, .int sp, .int kn]))] s.heap := hP
  have hml : c.maxLocals = 3 := hml
  refine lv_aload_n hx hb d_L_size_0 rfl (lv_at hl 1 rfl) ?_
  refine lv_iconst (v := (0 : Int32)) hx hb d_L_size_1 (by decide) ?_
  refine lv_aload_n hx hb d_L_size_2 rfl (lv_at hl 0 rfl) ?_
  refine cx_call (D := D) (cl := kl) (ws := _) (wc := [(d0, .inr (0, [.int dm, .ref gv, .ref dr, .ref rl, .ref yl, .ref mi, .ref fl, .ref bf, .int rk, .int sp, .int kn]))]) (wr := []) (tx_runV (C := cn_D) (b := d0) (As := []) (rest := [.int (0 : Int32), .ref ou]) hx hb hml hown (c_D_size_t E s.heap.size d0 gv dr rl yl mi fl bf dm rk sp kn h) (cx_C (b0 := b0) G hx0 mw_628 mw_1 ny_D_size (by decide)) (gw.at G hx0 mw_625 rfl _) (gw.at G hx0 mw_626 rfl _) (gw.at G hx0 mw_627 rfl _) ⟨cx_blind, va_recv hK hP (q0 := 0) (ci := 0) (q := (cn_D, ft_D, 11)) rfl rfl, (cx_pre (s := s) hx0 hP hD hS hA0 [0] rfl rfl (by decide))⟩ rfl rfl hl.1 rfl (lv_room (Nat.le_of_ble_eq_true rfl)) d_L_size_3 ⟨by decide, by decide⟩) hP hD hS hA [0] [] rfl rfl (by decide) (by decide) (fun v t w1 H locs ht hW9 hp hP hD hS => by obtain ⟨x9, h9, -⟩ := hp; cases h9) (fun x t w1 H locs ht hW9 hp hP hD hS => ?_)
  obtain ⟨x9, h9, hX, rfl⟩ := hp
  have h8 := Outcome.threw.inj h9
  have hP : va_P D kl [(d0, .inr (0, [.int dm, .ref gv, .ref dr, .ref rl, .ref yl, .ref mi, .ref fl, .ref bf, .int rk, .int sp, .int kn]))] H := hP
  have hD : va_D A [(d0, .inr (0, [.int dm, .ref gv, .ref dr, .ref rl, .ref yl, .ref mi, .ref fl, .ref bf, .int rk, .int sp, .int kn]))] := hD
  rw [← h8] at hX
  refine cx_catch1 G hx0 hown hT (by decide) (by decide) hk_s hc_s hi_s ht hW9 hX ?_
  refine W.eq (g2 := F0 m 11 ls [.ref x]) rfl ?_
  refine W.widen (k := 1) (n := 6) (by decide) (by decide) ?_
  refine lv_astore_n (lv' := [(2, .ref x), (0, .ref d0), (1, .ref ou)]) hx hb d_L_size_11 rfl hl (by decide) rfl (fun ls hl => ?_)
  refine lv_iconst (v := (1 : Int32)) hx hb d_L_size_12 (by decide) ?_
  exact tx_mono (fun _ h => tx_Z.of h) (W.iret (v := (1 : Int32)) hx hb hr (fun t ht hW => ⟨⟨[], ⟨rfl, rfl⟩, by rw [ht]; exact hP.sub [] rfl, hD.sub [] (by decide) rfl⟩, hS.F ht⟩) hS.2.2 d_L_size_13)

set_option maxHeartbeats 4000000 in
set_option maxRecDepth 100000 in
theorem c_L_bounds0 {l : Launch} {s0 : State} {b0 : Addr} {D : va_G} {cI cJ cZ : ClassId} {tC tS : Nat} (E : gE l s0 b0 D cI cJ cZ tC tS) (sz : Nat) (d0 : Nat) (gv : Nat) (dr : Nat) (rl : Nat) (yl : Nat) (mi : Nat) (fl : Nat) (bf : Nat) (dm : Int32) (rk : Int32) (sp : Int32) (kn : Int32) (w0 : Int32) (ou : Nat) (h : rk < dm) : cx_MH l s0 D kl y_L_bounds b_L_bounds 4 (some .int) [(0, 16, 19, 15), (0, 16, 22, 21)] ({ frames := 8, cells := 1, slots := 6, locals := 124 } : Room) 1 6 [.ref d0, .int w0, .ref ou] [(d0, .inr (0, [.int dm, .ref gv, .ref dr, .ref rl, .ref yl, .ref mi, .ref fl, .ref bf, .int rk, .int sp, .int kn]))] sz (fun o9 _ w9 => o9 = .returned (some (.int (1 : Int32))) ∧ w9 = []) := by
  refine tx_ofWH (cc := b_L_bounds) (maxL := 4) (ret := (some .int)) (by decide) rfl ?_
  intro p e s m args below meth c s₁ B hml hT hv
  obtain ⟨rfl, hsz, hP, hD0, hx0⟩ := hv
  have hx := B.exec
  have hb := B.bytes
  have hr := B.returns
  have G := E.2.1
  have hown : s.vm.findClass cn_L = some m.cls := findClass_of_methodNamed B.named
  have hlocks := B.notSynchronized
  have hK := va_K.moved hx0.1.alike E.2.2.1
  subst hsz
  have hA0 := cx_new hD0 hx0.2.1
  have hD := hD0.self (sz := s.heap.size)
  generalize hAe : va_A [(d0, .inr (0, [.int dm, .ref gv, .ref dr, .ref rl, .ref yl, .ref mi, .ref fl, .ref bf, .int rk, .int sp, .int kn]))] s.heap.size = A at hD hA0 ⊢
  have hA : ∀ q : Nat, s.heap.size ≤ q → A q := fun q h => by rw [← hAe]; exact Or.inr h
  have hS : va_S A s.heap s.heap [] := va_S.rf
  have hl := lv_entry ([.ref d0, .int w0, .ref ou]) (n := 4) (Nat.le_of_ble_eq_true rfl)
  rw [lg_entry_eq]
  generalize (lg_sl ([.ref d0, .int w0, .ref ou]) ++ List.replicate (4 - (lg_sl ([.ref d0, .int w0, .ref ou])).length) Slot.unset).toArray = ls at hl ⊢
  have hl : lv_has ls 4 [(0, .ref d0), (1, .int w0), (2, .ref ou)] := hl
  have hP : va_P D kl [(d0, .inr (0, [.int dm, .ref gv, .ref dr, .ref rl, .ref yl, .ref mi, .ref fl, .ref bf, .int rk, .int sp, .int kn]))] s.heap := hP
  have hml : c.maxLocals = 4 := hml
  refine lv_aload_n hx hb d_L_bounds_0 rfl (lv_at hl 2 rfl) ?_
  refine lv_iconst (v := (0 : Int32)) hx hb d_L_bounds_1 (by decide) ?_
  refine lv_aload_n hx hb d_L_bounds_2 rfl (lv_at hl 0 rfl) ?_
  refine lv_iload_n hx hb d_L_bounds_3 rfl (lv_at hl 1 rfl) ?_
  refine cx_call (D := D) (cl := kl) (ws := _) (wc := [(d0, .inr (0, [.int dm, .ref gv, .ref dr, .ref rl, .ref yl, .ref mi, .ref fl, .ref bf, .int rk, .int sp, .int kn]))]) (wr := []) (tx_runV (C := cn_D) (b := d0) (As := [.int w0]) (rest := [.int (0 : Int32), .ref ou]) hx hb hml hown (c_D_bounds_t E s.heap.size d0 gv dr rl yl mi fl bf dm rk sp kn w0 h) (cx_C (b0 := b0) G hx0 mw_635 mw_1 ny_D_bounds (by decide)) (gw.at G hx0 mw_632 rfl _) (gw.at G hx0 mw_633 rfl _) (gw.at G hx0 mw_634 rfl _) ⟨cx_blind, va_recv hK hP (q0 := 0) (ci := 0) (q := (cn_D, ft_D, 11)) rfl rfl, (cx_pre (s := s) hx0 hP hD hS hA0 [0] rfl rfl (by decide))⟩ rfl rfl hl.1 rfl (lv_room (Nat.le_of_ble_eq_true rfl)) d_L_bounds_4 ⟨by decide, by decide⟩) hP hD hS hA [0] [] rfl rfl (by decide) (by decide) (fun v t w1 H locs ht hW9 hp hP hD hS => by obtain ⟨x9, h9, -⟩ := hp; cases h9) (fun x t w1 H locs ht hW9 hp hP hD hS => ?_)
  obtain ⟨x9, h9, hX, rfl⟩ := hp
  have h8 := Outcome.threw.inj h9
  have hP : va_P D kl [(d0, .inr (0, [.int dm, .ref gv, .ref dr, .ref rl, .ref yl, .ref mi, .ref fl, .ref bf, .int rk, .int sp, .int kn]))] H := hP
  have hD : va_D A [(d0, .inr (0, [.int dm, .ref gv, .ref dr, .ref rl, .ref yl, .ref mi, .ref fl, .ref bf, .int rk, .int sp, .int kn]))] := hD
  rw [← h8] at hX
  refine cx_catch1 G hx0 hown hT (by decide) (by decide) hk_s hc_s hi_s ht hW9 hX ?_
  refine W.eq (g2 := F0 m 19 ls [.ref x]) rfl ?_
  refine W.widen (k := 1) (n := 6) (by decide) (by decide) ?_
  refine lv_astore_n (lv' := [(3, .ref x), (0, .ref d0), (1, .int w0), (2, .ref ou)]) hx hb d_L_bounds_19 rfl hl (by decide) rfl (fun ls hl => ?_)
  refine lv_iconst (v := (1 : Int32)) hx hb d_L_bounds_20 (by decide) ?_
  exact tx_mono (fun _ h => tx_Z.of h) (W.iret (v := (1 : Int32)) hx hb hr (fun t ht hW => ⟨⟨[], ⟨rfl, rfl⟩, by rw [ht]; exact hP.sub [] rfl, hD.sub [] (by decide) rfl⟩, hS.F ht⟩) hS.2.2 d_L_bounds_21)

set_option maxHeartbeats 4000000 in
set_option maxRecDepth 100000 in
theorem c_L_faces0 {l : Launch} {s0 : State} {b0 : Addr} {D : va_G} {cI cJ cZ : ClassId} {tC tS : Nat} (E : gE l s0 b0 D cI cJ cZ tC tS) (sz : Nat) (d0 : Nat) (gv : Nat) (dr : Nat) (rl : Nat) (yl : Nat) (mi : Nat) (fl : Nat) (bf : Nat) (dm : Int32) (rk : Int32) (sp : Int32) (kn : Int32) (w0 : Int32) (ou : Nat) (h : rk < dm) : cx_MH l s0 D kl y_L_faces b_L_faces 4 (some .int) [(0, 9, 12, 15)] ({ frames := 8, cells := 1, slots := 6, locals := 124 } : Room) 1 6 [.ref d0, .int w0, .ref ou] [(d0, .inr (0, [.int dm, .ref gv, .ref dr, .ref rl, .ref yl, .ref mi, .ref fl, .ref bf, .int rk, .int sp, .int kn]))] sz (fun o9 _ w9 => o9 = .returned (some (.int (1 : Int32))) ∧ w9 = []) := by
  refine tx_ofWH (cc := b_L_faces) (maxL := 4) (ret := (some .int)) (by decide) rfl ?_
  intro p e s m args below meth c s₁ B hml hT hv
  obtain ⟨rfl, hsz, hP, hD0, hx0⟩ := hv
  have hx := B.exec
  have hb := B.bytes
  have hr := B.returns
  have G := E.2.1
  have hown : s.vm.findClass cn_L = some m.cls := findClass_of_methodNamed B.named
  have hlocks := B.notSynchronized
  have hK := va_K.moved hx0.1.alike E.2.2.1
  subst hsz
  have hA0 := cx_new hD0 hx0.2.1
  have hD := hD0.self (sz := s.heap.size)
  generalize hAe : va_A [(d0, .inr (0, [.int dm, .ref gv, .ref dr, .ref rl, .ref yl, .ref mi, .ref fl, .ref bf, .int rk, .int sp, .int kn]))] s.heap.size = A at hD hA0 ⊢
  have hA : ∀ q : Nat, s.heap.size ≤ q → A q := fun q h => by rw [← hAe]; exact Or.inr h
  have hS : va_S A s.heap s.heap [] := va_S.rf
  have hl := lv_entry ([.ref d0, .int w0, .ref ou]) (n := 4) (Nat.le_of_ble_eq_true rfl)
  rw [lg_entry_eq]
  generalize (lg_sl ([.ref d0, .int w0, .ref ou]) ++ List.replicate (4 - (lg_sl ([.ref d0, .int w0, .ref ou])).length) Slot.unset).toArray = ls at hl ⊢
  have hl : lv_has ls 4 [(0, .ref d0), (1, .int w0), (2, .ref ou)] := hl
  have hP : va_P D kl [(d0, .inr (0, [.int dm, .ref gv, .ref dr, .ref rl, .ref yl, .ref mi, .ref fl, .ref bf, .int rk, .int sp, .int kn]))] s.heap := hP
  have hml : c.maxLocals = 4 := hml
  refine lv_aload_n hx hb d_L_faces_0 rfl (lv_at hl 2 rfl) ?_
  refine lv_iconst (v := (0 : Int32)) hx hb d_L_faces_1 (by decide) ?_
  refine lv_aload_n hx hb d_L_faces_2 rfl (lv_at hl 0 rfl) ?_
  refine lv_iload_n hx hb d_L_faces_3 rfl (lv_at hl 1 rfl) ?_
  refine cx_call (D := D) (cl := kl) (ws := _) (wc := [(d0, .inr (0, [.int dm, .ref gv, .ref dr, .ref rl, .ref yl, .ref mi, .ref fl, .ref bf, .int rk, .int sp, .int kn]))]) (wr := []) (tx_runV (C := cn_D) (b := d0) (As := [.int w0]) (rest := [.int (0 : Int32), .ref ou]) hx hb hml hown (c_D_faces_t E s.heap.size d0 gv dr rl yl mi fl bf dm rk sp kn w0 h) (cx_C (b0 := b0) G hx0 mw_650 mw_1 ny_D_faces (by decide)) (gw.at G hx0 mw_647 rfl _) (gw.at G hx0 mw_648 rfl _) (gw.at G hx0 mw_649 rfl _) ⟨cx_blind, va_recv hK hP (q0 := 0) (ci := 0) (q := (cn_D, ft_D, 11)) rfl rfl, (cx_pre (s := s) hx0 hP hD hS hA0 [0] rfl rfl (by decide))⟩ rfl rfl hl.1 rfl (lv_room (Nat.le_of_ble_eq_true rfl)) d_L_faces_4 ⟨by decide, by decide⟩) hP hD hS hA [0] [] rfl rfl (by decide) (by decide) (fun v t w1 H locs ht hW9 hp hP hD hS => by obtain ⟨x9, h9, -⟩ := hp; cases h9) (fun x t w1 H locs ht hW9 hp hP hD hS => ?_)
  obtain ⟨x9, h9, hX, rfl⟩ := hp
  have h8 := Outcome.threw.inj h9
  have hP : va_P D kl [(d0, .inr (0, [.int dm, .ref gv, .ref dr, .ref rl, .ref yl, .ref mi, .ref fl, .ref bf, .int rk, .int sp, .int kn]))] H := hP
  have hD : va_D A [(d0, .inr (0, [.int dm, .ref gv, .ref dr, .ref rl, .ref yl, .ref mi, .ref fl, .ref bf, .int rk, .int sp, .int kn]))] := hD
  rw [← h8] at hX
  refine cx_catch1 G hx0 hown hT (by decide) (by decide) hk_s hc_s hi_s ht hW9 hX ?_
  refine W.eq (g2 := F0 m 12 ls [.ref x]) rfl ?_
  refine W.widen (k := 1) (n := 6) (by decide) (by decide) ?_
  refine lv_astore_n (lv' := [(3, .ref x), (0, .ref d0), (1, .int w0), (2, .ref ou)]) hx hb d_L_faces_12 rfl hl (by decide) rfl (fun ls hl => ?_)
  refine lv_iconst (v := (1 : Int32)) hx hb d_L_faces_13 (by decide) ?_
  exact tx_mono (fun _ h => tx_Z.of h) (W.iret (v := (1 : Int32)) hx hb hr (fun t ht hW => ⟨⟨[], ⟨rfl, rfl⟩, by rw [ht]; exact hP.sub [] rfl, hD.sub [] (by decide) rfl⟩, hS.F ht⟩) hS.2.2 d_L_faces_14)

set_option maxHeartbeats 4000000 in
set_option maxRecDepth 100000 in
theorem c_L_basis0 {l : Launch} {s0 : State} {b0 : Addr} {D : va_G} {cI cJ cZ : ClassId} {tC tS : Nat} (E : gE l s0 b0 D cI cJ cZ tC tS) (sz : Nat) (d0 : Nat) (gv : Nat) (dr : Nat) (rl : Nat) (yl : Nat) (mi : Nat) (fl : Nat) (bf : Nat) (dm : Int32) (rk : Int32) (sp : Int32) (kn : Int32) (ou : Nat) (h : rk < dm) : cx_MH l s0 D kl y_L_basis b_L_basis 3 (some .int) [(0, 8, 11, 15)] ({ frames := 8, cells := 1, slots := 6, locals := 123 } : Room) 1 6 [.ref d0, .ref ou] [(d0, .inr (0, [.int dm, .ref gv, .ref dr, .ref rl, .ref yl, .ref mi, .ref fl, .ref bf, .int rk, .int sp, .int kn]))] sz (fun o9 _ w9 => o9 = .returned (some (.int (1 : Int32))) ∧ w9 = []) := by
  refine tx_ofWH (cc := b_L_basis) (maxL := 3) (ret := (some .int)) (by decide) rfl ?_
  intro p e s m args below meth c s₁ B hml hT hv
  obtain ⟨rfl, hsz, hP, hD0, hx0⟩ := hv
  have hx := B.exec
  have hb := B.bytes
  have hr := B.returns
  have G := E.2.1
  have hown : s.vm.findClass cn_L = some m.cls := findClass_of_methodNamed B.named
  have hlocks := B.notSynchronized
  have hK := va_K.moved hx0.1.alike E.2.2.1
  subst hsz
  have hA0 := cx_new hD0 hx0.2.1
  have hD := hD0.self (sz := s.heap.size)
  generalize hAe : va_A [(d0, .inr (0, [.int dm, .ref gv, .ref dr, .ref rl, .ref yl, .ref mi, .ref fl, .ref bf, .int rk, .int sp, .int kn]))] s.heap.size = A at hD hA0 ⊢
  have hA : ∀ q : Nat, s.heap.size ≤ q → A q := fun q h => by rw [← hAe]; exact Or.inr h
  have hS : va_S A s.heap s.heap [] := va_S.rf
  have hl := lv_entry ([.ref d0, .ref ou]) (n := 3) (Nat.le_of_ble_eq_true rfl)
  rw [lg_entry_eq]
  generalize (lg_sl ([.ref d0, .ref ou]) ++ List.replicate (3 - (lg_sl ([.ref d0, .ref ou])).length) Slot.unset).toArray = ls at hl ⊢
  have hl : lv_has ls 3 [(0, .ref d0), (1, .ref ou)] := hl
  have hP : va_P D kl [(d0, .inr (0, [.int dm, .ref gv, .ref dr, .ref rl, .ref yl, .ref mi, .ref fl, .ref bf, .int rk, .int sp, .int kn]))] s.heap := hP
  have hml : c.maxLocals = 3 := hml
  refine lv_aload_n hx hb d_L_basis_0 rfl (lv_at hl 1 rfl) ?_
  refine lv_iconst (v := (0 : Int32)) hx hb d_L_basis_1 (by decide) ?_
  refine lv_aload_n hx hb d_L_basis_2 rfl (lv_at hl 0 rfl) ?_
  refine cx_call (D := D) (cl := kl) (ws := _) (wc := [(d0, .inr (0, [.int dm, .ref gv, .ref dr, .ref rl, .ref yl, .ref mi, .ref fl, .ref bf, .int rk, .int sp, .int kn]))]) (wr := []) (tx_runV (C := cn_D) (b := d0) (As := []) (rest := [.int (0 : Int32), .ref ou]) hx hb hml hown (c_D_basis_t E s.heap.size d0 gv dr rl yl mi fl bf dm rk sp kn h) (cx_C (b0 := b0) G hx0 mw_661 mw_1 ny_D_basis (by decide)) (gw.at G hx0 mw_658 rfl _) (gw.at G hx0 mw_659 rfl _) (gw.at G hx0 mw_660 rfl _) ⟨cx_blind, va_recv hK hP (q0 := 0) (ci := 0) (q := (cn_D, ft_D, 11)) rfl rfl, (cx_pre (s := s) hx0 hP hD hS hA0 [0] rfl rfl (by decide))⟩ rfl rfl hl.1 rfl (lv_room (Nat.le_of_ble_eq_true rfl)) d_L_basis_3 ⟨by decide, by decide⟩) hP hD hS hA [0] [] rfl rfl (by decide) (by decide) (fun v t w1 H locs ht hW9 hp hP hD hS => by obtain ⟨x9, h9, -⟩ := hp; cases h9) (fun x t w1 H locs ht hW9 hp hP hD hS => ?_)
  obtain ⟨x9, h9, hX, rfl⟩ := hp
  have h8 := Outcome.threw.inj h9
  have hP : va_P D kl [(d0, .inr (0, [.int dm, .ref gv, .ref dr, .ref rl, .ref yl, .ref mi, .ref fl, .ref bf, .int rk, .int sp, .int kn]))] H := hP
  have hD : va_D A [(d0, .inr (0, [.int dm, .ref gv, .ref dr, .ref rl, .ref yl, .ref mi, .ref fl, .ref bf, .int rk, .int sp, .int kn]))] := hD
  rw [← h8] at hX
  refine cx_catch1 G hx0 hown hT (by decide) (by decide) hk_s hc_s hi_s ht hW9 hX ?_
  refine W.eq (g2 := F0 m 11 ls [.ref x]) rfl ?_
  refine W.widen (k := 1) (n := 6) (by decide) (by decide) ?_
  refine lv_astore_n (lv' := [(2, .ref x), (0, .ref d0), (1, .ref ou)]) hx hb d_L_basis_11 rfl hl (by decide) rfl (fun ls hl => ?_)
  refine lv_iconst (v := (1 : Int32)) hx hb d_L_basis_12 (by decide) ?_
  exact tx_mono (fun _ h => tx_Z.of h) (W.iret (v := (1 : Int32)) hx hb hr (fun t ht hW => ⟨⟨[], ⟨rfl, rfl⟩, by rw [ht]; exact hP.sub [] rfl, hD.sub [] (by decide) rfl⟩, hS.F ht⟩) hS.2.2 d_L_basis_13)

set_option maxHeartbeats 4000000 in
set_option maxRecDepth 100000 in
theorem c_L_point0 {l : Launch} {s0 : State} {b0 : Addr} {D : va_G} {cI cJ cZ : ClassId} {tC tS : Nat} (E : gE l s0 b0 D cI cJ cZ tC tS) (sz : Nat) (d0 : Nat) (gv : Nat) (dr : Nat) (rl : Nat) (yl : Nat) (mi : Nat) (fl : Nat) (bf : Nat) (dm : Int32) (rk : Int32) (sp : Int32) (kn : Int32) (w0 : Int32) (w1 : Int32) (ou : Nat) (h : rk < dm) : cx_MH l s0 D kl y_L_point b_L_point 5 (some .int) [(0, 10, 13, 15), (0, 10, 17, 21)] ({ frames := 8, cells := 1, slots := 6, locals := 125 } : Room) 1 6 [.ref d0, .int w0, .int w1, .ref ou] [(d0, .inr (0, [.int dm, .ref gv, .ref dr, .ref rl, .ref yl, .ref mi, .ref fl, .ref bf, .int rk, .int sp, .int kn]))] sz (fun o9 _ w9 => o9 = .returned (some (.int (1 : Int32))) ∧ w9 = []) := by
  refine tx_ofWH (cc := b_L_point) (maxL := 5) (ret := (some .int)) (by decide) rfl ?_
  intro p e s m args below meth c s₁ B hml hT hv
  obtain ⟨rfl, hsz, hP, hD0, hx0⟩ := hv
  have hx := B.exec
  have hb := B.bytes
  have hr := B.returns
  have G := E.2.1
  have hown : s.vm.findClass cn_L = some m.cls := findClass_of_methodNamed B.named
  have hlocks := B.notSynchronized
  have hK := va_K.moved hx0.1.alike E.2.2.1
  subst hsz
  have hA0 := cx_new hD0 hx0.2.1
  have hD := hD0.self (sz := s.heap.size)
  generalize hAe : va_A [(d0, .inr (0, [.int dm, .ref gv, .ref dr, .ref rl, .ref yl, .ref mi, .ref fl, .ref bf, .int rk, .int sp, .int kn]))] s.heap.size = A at hD hA0 ⊢
  have hA : ∀ q : Nat, s.heap.size ≤ q → A q := fun q h => by rw [← hAe]; exact Or.inr h
  have hS : va_S A s.heap s.heap [] := va_S.rf
  have hl := lv_entry ([.ref d0, .int w0, .int w1, .ref ou]) (n := 5) (Nat.le_of_ble_eq_true rfl)
  rw [lg_entry_eq]
  generalize (lg_sl ([.ref d0, .int w0, .int w1, .ref ou]) ++ List.replicate (5 - (lg_sl ([.ref d0, .int w0, .int w1, .ref ou])).length) Slot.unset).toArray = ls at hl ⊢
  have hl : lv_has ls 5 [(0, .ref d0), (1, .int w0), (2, .int w1), (3, .ref ou)] := hl
  have hP : va_P D kl [(d0, .inr (0, [.int dm, .ref gv, .ref dr, .ref rl, .ref yl, .ref mi, .ref fl, .ref bf, .int rk, .int sp, .int kn]))] s.heap := hP
  have hml : c.maxLocals = 5 := hml
  refine lv_aload_n hx hb d_L_point_0 rfl (lv_at hl 3 rfl) ?_
  refine lv_iconst (v := (0 : Int32)) hx hb d_L_point_1 (by decide) ?_
  refine lv_aload_n hx hb d_L_point_2 rfl (lv_at hl 0 rfl) ?_
  refine lv_iload_n hx hb d_L_point_3 rfl (lv_at hl 1 rfl) ?_
  refine lv_iload_n hx hb d_L_point_4 rfl (lv_at hl 2 rfl) ?_
  refine cx_call (D := D) (cl := kl) (ws := _) (wc := [(d0, .inr (0, [.int dm, .ref gv, .ref dr, .ref rl, .ref yl, .ref mi, .ref fl, .ref bf, .int rk, .int sp, .int kn]))]) (wr := []) (tx_runV (C := cn_D) (b := d0) (As := [.int w0, .int w1]) (rest := [.int (0 : Int32), .ref ou]) hx hb hml hown (c_D_point_t E s.heap.size d0 gv dr rl yl mi fl bf dm rk sp kn w0 w1 h) (cx_C (b0 := b0) G hx0 mw_668 mw_1 ny_D_point (by decide)) (gw.at G hx0 mw_665 rfl _) (gw.at G hx0 mw_666 rfl _) (gw.at G hx0 mw_667 rfl _) ⟨cx_blind, va_recv hK hP (q0 := 0) (ci := 0) (q := (cn_D, ft_D, 11)) rfl rfl, (cx_pre (s := s) hx0 hP hD hS hA0 [0] rfl rfl (by decide))⟩ rfl rfl hl.1 rfl (lv_room (Nat.le_of_ble_eq_true rfl)) d_L_point_5 ⟨by decide, by decide⟩) hP hD hS hA [0] [] rfl rfl (by decide) (by decide) (fun v t w1 H locs ht hW9 hp hP hD hS => by obtain ⟨x9, h9, -⟩ := hp; cases h9) (fun x t w1 H locs ht hW9 hp hP hD hS => ?_)
  obtain ⟨x9, h9, hX, rfl⟩ := hp
  have h8 := Outcome.threw.inj h9
  have hP : va_P D kl [(d0, .inr (0, [.int dm, .ref gv, .ref dr, .ref rl, .ref yl, .ref mi, .ref fl, .ref bf, .int rk, .int sp, .int kn]))] H := hP
  have hD : va_D A [(d0, .inr (0, [.int dm, .ref gv, .ref dr, .ref rl, .ref yl, .ref mi, .ref fl, .ref bf, .int rk, .int sp, .int kn]))] := hD
  rw [← h8] at hX
  refine cx_catch1 G hx0 hown hT (by decide) (by decide) hk_s hc_s hi_s ht hW9 hX ?_
  refine W.eq (g2 := F0 m 13 ls [.ref x]) rfl ?_
  refine W.widen (k := 1) (n := 6) (by decide) (by decide) ?_
  refine lv_astore (lv' := [(4, .ref x), (0, .ref d0), (1, .int w0), (2, .int w1), (3, .ref ou)]) hx hb d_L_point_13 hl (by decide) rfl (fun ls hl => ?_)
  refine lv_iconst (v := (1 : Int32)) hx hb d_L_point_15 (by decide) ?_
  exact tx_mono (fun _ h => tx_Z.of h) (W.iret (v := (1 : Int32)) hx hb hr (fun t ht hW => ⟨⟨[], ⟨rfl, rfl⟩, by rw [ht]; exact hP.sub [] rfl, hD.sub [] (by decide) rfl⟩, hS.F ht⟩) hS.2.2 d_L_point_16)

set_option maxHeartbeats 4000000 in
set_option maxRecDepth 100000 in
theorem c_L_parts0 {l : Launch} {s0 : State} {b0 : Addr} {D : va_G} {cI cJ cZ : ClassId} {tC tS : Nat} (E : gE l s0 b0 D cI cJ cZ tC tS) (sz : Nat) (d0 : Nat) (gv : Nat) (dr : Nat) (rl : Nat) (yl : Nat) (mi : Nat) (fl : Nat) (bf : Nat) (dm : Int32) (rk : Int32) (sp : Int32) (kn : Int32) (w0 : Int32) (w1 : Int32) (w2 : Int32) (w3 : Int32) (ou : Nat) (h : rk < dm) : cx_MH l s0 D kl y_L_parts b_L_parts 7 (some .int) [(0, 14, 17, 15)] ({ frames := 8, cells := 1, slots := 6, locals := 127 } : Room) 1 6 [.ref d0, .int w0, .int w1, .int w2, .int w3, .ref ou] [(d0, .inr (0, [.int dm, .ref gv, .ref dr, .ref rl, .ref yl, .ref mi, .ref fl, .ref bf, .int rk, .int sp, .int kn]))] sz (fun o9 _ w9 => o9 = .returned (some (.int (1 : Int32))) ∧ w9 = []) := by
  refine tx_ofWH (cc := b_L_parts) (maxL := 7) (ret := (some .int)) (by decide) rfl ?_
  intro p e s m args below meth c s₁ B hml hT hv
  obtain ⟨rfl, hsz, hP, hD0, hx0⟩ := hv
  have hx := B.exec
  have hb := B.bytes
  have hr := B.returns
  have G := E.2.1
  have hown : s.vm.findClass cn_L = some m.cls := findClass_of_methodNamed B.named
  have hlocks := B.notSynchronized
  have hK := va_K.moved hx0.1.alike E.2.2.1
  subst hsz
  have hA0 := cx_new hD0 hx0.2.1
  have hD := hD0.self (sz := s.heap.size)
  generalize hAe : va_A [(d0, .inr (0, [.int dm, .ref gv, .ref dr, .ref rl, .ref yl, .ref mi, .ref fl, .ref bf, .int rk, .int sp, .int kn]))] s.heap.size = A at hD hA0 ⊢
  have hA : ∀ q : Nat, s.heap.size ≤ q → A q := fun q h => by rw [← hAe]; exact Or.inr h
  have hS : va_S A s.heap s.heap [] := va_S.rf
  have hl := lv_entry ([.ref d0, .int w0, .int w1, .int w2, .int w3, .ref ou]) (n := 7) (Nat.le_of_ble_eq_true rfl)
  rw [lg_entry_eq]
  generalize (lg_sl ([.ref d0, .int w0, .int w1, .int w2, .int w3, .ref ou]) ++ List.replicate (7 - (lg_sl ([.ref d0, .int w0, .int w1, .int w2, .int w3, .ref ou])).length) Slot.unset).toArray = ls at hl ⊢
  have hl : lv_has ls 7 [(0, .ref d0), (1, .int w0), (2, .int w1), (3, .int w2), (4, .int w3), (5, .ref ou)] := hl
  have hP : va_P D kl [(d0, .inr (0, [.int dm, .ref gv, .ref dr, .ref rl, .ref yl, .ref mi, .ref fl, .ref bf, .int rk, .int sp, .int kn]))] s.heap := hP
  have hml : c.maxLocals = 7 := hml
  refine lv_aload hx hb d_L_parts_0 (lv_at hl 5 rfl) ?_
  refine lv_iconst (v := (0 : Int32)) hx hb d_L_parts_2 (by decide) ?_
  refine lv_aload_n hx hb d_L_parts_3 rfl (lv_at hl 0 rfl) ?_
  refine lv_iload_n hx hb d_L_parts_4 rfl (lv_at hl 1 rfl) ?_
  refine lv_iload_n hx hb d_L_parts_5 rfl (lv_at hl 2 rfl) ?_
  refine lv_iload_n hx hb d_L_parts_6 rfl (lv_at hl 3 rfl) ?_
  refine lv_iload hx hb d_L_parts_7 (lv_at hl 4 rfl) ?_
  refine cx_call (D := D) (cl := kl) (ws := _) (wc := [(d0, .inr (0, [.int dm, .ref gv, .ref dr, .ref rl, .ref yl, .ref mi, .ref fl, .ref bf, .int rk, .int sp, .int kn]))]) (wr := []) (tx_runV (C := cn_D) (b := d0) (As := [.int w0, .int w1, .int w2, .int w3]) (rest := [.int (0 : Int32), .ref ou]) hx hb hml hown (c_D_parts_t E s.heap.size d0 gv dr rl yl mi fl bf dm rk sp kn w0 w1 w2 w3 h) (cx_C (b0 := b0) G hx0 mw_681 mw_1 ny_D_parts (by decide)) (gw.at G hx0 mw_678 rfl _) (gw.at G hx0 mw_679 rfl _) (gw.at G hx0 mw_680 rfl _) ⟨cx_blind, va_recv hK hP (q0 := 0) (ci := 0) (q := (cn_D, ft_D, 11)) rfl rfl, (cx_pre (s := s) hx0 hP hD hS hA0 [0] rfl rfl (by decide))⟩ rfl rfl hl.1 rfl (lv_room (Nat.le_of_ble_eq_true rfl)) d_L_parts_9 ⟨by decide, by decide⟩) hP hD hS hA [0] [] rfl rfl (by decide) (by decide) (fun v t w1 H locs ht hW9 hp hP hD hS => by obtain ⟨x9, h9, -⟩ := hp; cases h9) (fun x t w1 H locs ht hW9 hp hP hD hS => ?_)
  obtain ⟨x9, h9, hX, rfl⟩ := hp
  have h8 := Outcome.threw.inj h9
  have hP : va_P D kl [(d0, .inr (0, [.int dm, .ref gv, .ref dr, .ref rl, .ref yl, .ref mi, .ref fl, .ref bf, .int rk, .int sp, .int kn]))] H := hP
  have hD : va_D A [(d0, .inr (0, [.int dm, .ref gv, .ref dr, .ref rl, .ref yl, .ref mi, .ref fl, .ref bf, .int rk, .int sp, .int kn]))] := hD
  rw [← h8] at hX
  refine cx_catch1 G hx0 hown hT (by decide) (by decide) hk_s hc_s hi_s ht hW9 hX ?_
  refine W.eq (g2 := F0 m 17 ls [.ref x]) rfl ?_
  refine W.widen (k := 1) (n := 6) (by decide) (by decide) ?_
  refine lv_astore (lv' := [(6, .ref x), (0, .ref d0), (1, .int w0), (2, .int w1), (3, .int w2), (4, .int w3), (5, .ref ou)]) hx hb d_L_parts_17 hl (by decide) rfl (fun ls hl => ?_)
  refine lv_iconst (v := (1 : Int32)) hx hb d_L_parts_19 (by decide) ?_
  exact tx_mono (fun _ h => tx_Z.of h) (W.iret (v := (1 : Int32)) hx hb hr (fun t ht hW => ⟨⟨[], ⟨rfl, rfl⟩, by rw [ht]; exact hP.sub [] rfl, hD.sub [] (by decide) rfl⟩, hS.F ht⟩) hS.2.2 d_L_parts_20)

set_option maxHeartbeats 4000000 in
set_option maxRecDepth 100000 in
theorem c_L_least_a {l : Launch} {s0 : State} {b0 : Addr} {D : va_G} {cI cJ cZ : ClassId} {tC tS : Nat} (E : gE l s0 b0 D cI cJ cZ tC tS) (sz : Nat) (d0 : Nat) (gv : Nat) (dr : Nat) (rl : Nat) (yl : Nat) (mi : Nat) (fl : Nat) (bf : Nat) (dm : Int32) (rk : Int32) (sp : Int32) (kn : Int32) (a : Int32) (b : Int32) (c2 : Int32) (d2 : Int32) (g : Nat → Int32) (ou : Nat) (h : ¬ iw (1000 : Int32) a b (tk_c dm c2) (tk_d dm d2)) : cx_MH l s0 D kl y_L_least b_L_least 7 (some .int) [(0, 14, 17, 13), (0, 14, 21, 15)] ({ frames := 7, cells := 1, slots := 6, locals := 106 } : Room) 1 6 [.ref d0, .int a, .int b, .int c2, .int d2, .ref ou] [(d0, .inr (0, [.int dm, .ref gv, .ref dr, .ref rl, .ref yl, .ref mi, .ref fl, .ref bf, .int rk, .int sp, .int kn])), (gv, .inl (cI, 4, .inl g))] sz (fun o9 _ w9 => o9 = .returned (some (.int (1 : Int32))) ∧ w9 = []) := by
  refine tx_ofWH (cc := b_L_least) (maxL := 7) (ret := (some .int)) (by decide) rfl ?_
  intro p e s m args below meth c s₁ B hml hT hv
  obtain ⟨rfl, hsz, hP, hD0, hx0⟩ := hv
  have hx := B.exec
  have hb := B.bytes
  have hr := B.returns
  have G := E.2.1
  have hown : s.vm.findClass cn_L = some m.cls := findClass_of_methodNamed B.named
  have hlocks := B.notSynchronized
  have hK := va_K.moved hx0.1.alike E.2.2.1
  subst hsz
  have hA0 := cx_new hD0 hx0.2.1
  have hD := hD0.self (sz := s.heap.size)
  generalize hAe : va_A [(d0, .inr (0, [.int dm, .ref gv, .ref dr, .ref rl, .ref yl, .ref mi, .ref fl, .ref bf, .int rk, .int sp, .int kn])), (gv, .inl (cI, 4, .inl g))] s.heap.size = A at hD hA0 ⊢
  have hA : ∀ q : Nat, s.heap.size ≤ q → A q := fun q h => by rw [← hAe]; exact Or.inr h
  have hS : va_S A s.heap s.heap [] := va_S.rf
  have hl := lv_entry ([.ref d0, .int a, .int b, .int c2, .int d2, .ref ou]) (n := 7) (Nat.le_of_ble_eq_true rfl)
  rw [lg_entry_eq]
  generalize (lg_sl ([.ref d0, .int a, .int b, .int c2, .int d2, .ref ou]) ++ List.replicate (7 - (lg_sl ([.ref d0, .int a, .int b, .int c2, .int d2, .ref ou])).length) Slot.unset).toArray = ls at hl ⊢
  have hl : lv_has ls 7 [(0, .ref d0), (1, .int a), (2, .int b), (3, .int c2), (4, .int d2), (5, .ref ou)] := hl
  have hP : va_P D kl [(d0, .inr (0, [.int dm, .ref gv, .ref dr, .ref rl, .ref yl, .ref mi, .ref fl, .ref bf, .int rk, .int sp, .int kn])), (gv, .inl (cI, 4, .inl g))] s.heap := hP
  have hml : c.maxLocals = 7 := hml
  refine lv_aload hx hb d_L_least_0 (lv_at hl 5 rfl) ?_
  refine lv_iconst (v := (0 : Int32)) hx hb d_L_least_2 (by decide) ?_
  refine lv_aload_n hx hb d_L_least_3 rfl (lv_at hl 0 rfl) ?_
  refine lv_iload_n hx hb d_L_least_4 rfl (lv_at hl 1 rfl) ?_
  refine lv_iload_n hx hb d_L_least_5 rfl (lv_at hl 2 rfl) ?_
  refine lv_iload_n hx hb d_L_least_6 rfl (lv_at hl 3 rfl) ?_
  refine lv_iload hx hb d_L_least_7 (lv_at hl 4 rfl) ?_
  refine cx_call (D := D) (cl := kl) (ws := _) (wc := [(d0, .inr (0, [.int dm, .ref gv, .ref dr, .ref rl, .ref yl, .ref mi, .ref fl, .ref bf, .int rk, .int sp, .int kn])), (gv, .inl (cI, 4, .inl g))]) (wr := []) (tx_runV (C := cn_D) (b := d0) (As := [.int a, .int b, .int c2, .int d2]) (rest := [.int (0 : Int32), .ref ou]) hx hb hml hown (c_D_least_a E s.heap.size d0 gv dr rl yl mi fl bf dm rk sp kn a b c2 d2 g h) (cx_C (b0 := b0) G hx0 mw_698 mw_1 ny_D_least (by decide)) (gw.at G hx0 mw_695 rfl _) (gw.at G hx0 mw_696 rfl _) (gw.at G hx0 mw_697 rfl _) ⟨cx_blind, va_recv hK hP (q0 := 0) (ci := 0) (q := (cn_D, ft_D, 11)) rfl rfl, (cx_pre (s := s) hx0 hP hD hS hA0 [0, 1] rfl rfl (by decide))⟩ rfl rfl hl.1 rfl (lv_room (Nat.le_of_ble_eq_true rfl)) d_L_least_9 ⟨by decide, by decide⟩) hP hD hS hA [0, 1] [] rfl rfl (by decide) (by decide) (fun v t w1 H locs ht hW9 hp hP hD hS => by obtain ⟨x9, h9, -⟩ := hp; cases h9) (fun x t w1 H locs ht hW9 hp hP hD hS => ?_)
  obtain ⟨x9, h9, hX, rfl⟩ := hp
  have h8 := Outcome.threw.inj h9
  have hP : va_P D kl [(d0, .inr (0, [.int dm, .ref gv, .ref dr, .ref rl, .ref yl, .ref mi, .ref fl, .ref bf, .int rk, .int sp, .int kn]))] H := hP
  have hD : va_D A [(d0, .inr (0, [.int dm, .ref gv, .ref dr, .ref rl, .ref yl, .ref mi, .ref fl, .ref bf, .int rk, .int sp, .int kn]))] := hD
  rw [← h8] at hX
  refine cx_catch1 G hx0 hown hT (by decide) (by decide) hk_a hc_a hi_a ht hW9 hX ?_
  refine W.eq (g2 := F0 m 17 ls [.ref x]) rfl ?_
  refine W.widen (k := 1) (n := 6) (by decide) (by decide) ?_
  refine lv_astore (lv' := [(6, .ref x), (0, .ref d0), (1, .int a), (2, .int b), (3, .int c2), (4, .int d2), (5, .ref ou)]) hx hb d_L_least_17 hl (by decide) rfl (fun ls hl => ?_)
  refine lv_iconst (v := (1 : Int32)) hx hb d_L_least_19 (by decide) ?_
  exact tx_mono (fun _ h => tx_Z.of h) (W.iret (v := (1 : Int32)) hx hb hr (fun t ht hW => ⟨⟨[], ⟨rfl, rfl⟩, by rw [ht]; exact hP.sub [] rfl, hD.sub [] (by decide) rfl⟩, hS.F ht⟩) hS.2.2 d_L_least_20)

set_option maxHeartbeats 4000000 in
set_option maxRecDepth 100000 in
theorem c_L_least_s {l : Launch} {s0 : State} {b0 : Addr} {D : va_G} {cI cJ cZ : ClassId} {tC tS : Nat} (E : gE l s0 b0 D cI cJ cZ tC tS) (sz : Nat) (d0 : Nat) (gv : Nat) (dr : Nat) (rl : Nat) (yl : Nat) (mi : Nat) (fl : Nat) (bf : Nat) (dm : Int32) (rk : Int32) (sp : Int32) (kn : Int32) (a : Int32) (b : Int32) (c2 : Int32) (d2 : Int32) (g : Nat → Int32) (ou : Nat) (h1 : iw (1000 : Int32) a b (tk_c dm c2) (tk_d dm d2)) (h : rk < dm) (hno : (Cond.not (Cond.castable ex_s ex_a)).before #[Value.ref b0] s0 = true) : cx_MH l s0 D kl y_L_least b_L_least 7 (some .int) [(0, 14, 17, 13), (0, 14, 21, 15)] ({ frames := 8, cells := 1, slots := 6, locals := 127 } : Room) 1 6 [.ref d0, .int a, .int b, .int c2, .int d2, .ref ou] [(d0, .inr (0, [.int dm, .ref gv, .ref dr, .ref rl, .ref yl, .ref mi, .ref fl, .ref bf, .int rk, .int sp, .int kn])), (gv, .inl (cI, 4, .inl g))] sz (fun o9 _ w9 => o9 = .returned (some (.int (2 : Int32))) ∧ w9 = []) := by
  refine tx_ofWH (cc := b_L_least) (maxL := 7) (ret := (some .int)) (by decide) rfl ?_
  intro p e s m args below meth c s₁ B hml hT hv
  obtain ⟨rfl, hsz, hP, hD0, hx0⟩ := hv
  have hx := B.exec
  have hb := B.bytes
  have hr := B.returns
  have G := E.2.1
  have hown : s.vm.findClass cn_L = some m.cls := findClass_of_methodNamed B.named
  have hlocks := B.notSynchronized
  have hK := va_K.moved hx0.1.alike E.2.2.1
  subst hsz
  have hA0 := cx_new hD0 hx0.2.1
  have hD := hD0.self (sz := s.heap.size)
  generalize hAe : va_A [(d0, .inr (0, [.int dm, .ref gv, .ref dr, .ref rl, .ref yl, .ref mi, .ref fl, .ref bf, .int rk, .int sp, .int kn])), (gv, .inl (cI, 4, .inl g))] s.heap.size = A at hD hA0 ⊢
  have hA : ∀ q : Nat, s.heap.size ≤ q → A q := fun q h => by rw [← hAe]; exact Or.inr h
  have hS : va_S A s.heap s.heap [] := va_S.rf
  have hl := lv_entry ([.ref d0, .int a, .int b, .int c2, .int d2, .ref ou]) (n := 7) (Nat.le_of_ble_eq_true rfl)
  rw [lg_entry_eq]
  generalize (lg_sl ([.ref d0, .int a, .int b, .int c2, .int d2, .ref ou]) ++ List.replicate (7 - (lg_sl ([.ref d0, .int a, .int b, .int c2, .int d2, .ref ou])).length) Slot.unset).toArray = ls at hl ⊢
  have hl : lv_has ls 7 [(0, .ref d0), (1, .int a), (2, .int b), (3, .int c2), (4, .int d2), (5, .ref ou)] := hl
  have hP : va_P D kl [(d0, .inr (0, [.int dm, .ref gv, .ref dr, .ref rl, .ref yl, .ref mi, .ref fl, .ref bf, .int rk, .int sp, .int kn])), (gv, .inl (cI, 4, .inl g))] s.heap := hP
  have hml : c.maxLocals = 7 := hml
  refine lv_aload hx hb d_L_least_0 (lv_at hl 5 rfl) ?_
  refine lv_iconst (v := (0 : Int32)) hx hb d_L_least_2 (by decide) ?_
  refine lv_aload_n hx hb d_L_least_3 rfl (lv_at hl 0 rfl) ?_
  refine lv_iload_n hx hb d_L_least_4 rfl (lv_at hl 1 rfl) ?_
  refine lv_iload_n hx hb d_L_least_5 rfl (lv_at hl 2 rfl) ?_
  refine lv_iload_n hx hb d_L_least_6 rfl (lv_at hl 3 rfl) ?_
  refine lv_iload hx hb d_L_least_7 (lv_at hl 4 rfl) ?_
  refine cx_call (D := D) (cl := kl) (ws := _) (wc := [(d0, .inr (0, [.int dm, .ref gv, .ref dr, .ref rl, .ref yl, .ref mi, .ref fl, .ref bf, .int rk, .int sp, .int kn])), (gv, .inl (cI, 4, .inl g))]) (wr := []) (tx_runV (C := cn_D) (b := d0) (As := [.int a, .int b, .int c2, .int d2]) (rest := [.int (0 : Int32), .ref ou]) hx hb hml hown (c_D_least_s E s.heap.size d0 gv dr rl yl mi fl bf dm rk sp kn a b c2 d2 g h1 h) (cx_C (b0 := b0) G hx0 mw_698 mw_1 ny_D_least (by decide)) (gw.at G hx0 mw_695 rfl _) (gw.at G hx0 mw_696 rfl _) (gw.at G hx0 mw_697 rfl _) ⟨cx_blind, va_recv hK hP (q0 := 0) (ci := 0) (q := (cn_D, ft_D, 11)) rfl rfl, (cx_pre (s := s) hx0 hP hD hS hA0 [0, 1] rfl rfl (by decide))⟩ rfl rfl hl.1 rfl (lv_room (Nat.le_of_ble_eq_true rfl)) d_L_least_9 ⟨by decide, by decide⟩) hP hD hS hA [0, 1] [] rfl rfl (by decide) (by decide) (fun v t w1 H locs ht hW9 hp hP hD hS => by obtain ⟨x9, h9, -⟩ := hp; cases h9) (fun x t w1 H locs ht hW9 hp hP hD hS => ?_)
  obtain ⟨x9, h9, hX, rfl⟩ := hp
  have h8 := Outcome.threw.inj h9
  have hP : va_P D kl [(d0, .inr (0, [.int dm, .ref gv, .ref dr, .ref rl, .ref yl, .ref mi, .ref fl, .ref bf, .int rk, .int sp, .int kn]))] H := hP
  have hD : va_D A [(d0, .inr (0, [.int dm, .ref gv, .ref dr, .ref rl, .ref yl, .ref mi, .ref fl, .ref bf, .int rk, .int sp, .int kn]))] := hD
  rw [← h8] at hX
  refine cx_catch2 G hx0 hown hT (by decide) (by decide) (by decide) (by decide) hk_a hk_s hno hc_s hi_s ht hW9 hX ?_
  refine W.eq (g2 := F0 m 21 ls [.ref x]) rfl ?_
  refine W.widen (k := 1) (n := 6) (by decide) (by decide) ?_
  refine lv_astore (lv' := [(6, .ref x), (0, .ref d0), (1, .int a), (2, .int b), (3, .int c2), (4, .int d2), (5, .ref ou)]) hx hb d_L_least_21 hl (by decide) rfl (fun ls hl => ?_)
  refine lv_iconst (v := (2 : Int32)) hx hb d_L_least_23 (by decide) ?_
  exact tx_mono (fun _ h => tx_Z.of h) (W.iret (v := (2 : Int32)) hx hb hr (fun t ht hW => ⟨⟨[], ⟨rfl, rfl⟩, by rw [ht]; exact hP.sub [] rfl, hD.sub [] (by decide) rfl⟩, hS.F ht⟩) hS.2.2 d_L_least_24)

