/-! ===== own rows, laid by wip/tools/sym.py: the reference on a fresh object ===== -/
theorem inw_zero {x : Int32} : inw 0 x = true ↔ x = 0 := by
  constructor
  · intro h
    exact Int32.le_antisymm (inw_le h) (Int32.not_lt.mp (inw_lt h))
  · intro h; subst h; decide
theorem lk9 {w : Int32} (h : w.toInt < 0 ∨ 3 < w.toInt) : ¬ w = 0 ∧ ¬ w = 1 ∧ ¬ w = 2 ∧ ¬ w = 3 := by
  refine ⟨?_, ?_, ?_, ?_⟩ <;> (intro e; subst e; revert h; decide)
def all4 (a b c d : Int32) : Prop := a = 0 ∧ b = 0 ∧ c = 0 ∧ d = 0
set_option maxHeartbeats 4000000 in
set_option maxRecDepth 100000 in
theorem c_M_in_y {l : Launch} {s0 : State} {b0 : Addr} {D : va_G} {cI cJ cZ : ClassId} {tC tS : Nat} (E : gE l s0 b0 D cI cJ cZ tC tS) (sz : Nat) (x : Int32) (r : Int32) (h : inw r x = true) : cx_M l s0 D kl y_M_in b_M_in 2 (some .boolean) ({ frames := 0, cells := 0, slots := 0, locals := 0 } : Room) 0 0 [.int x, .int r] [] sz (fun o9 _ w9 => o9 = .returned (some (.int (1 : Int32))) ∧ w9 = []) := by
  refine tx_ofW (cc := b_M_in) (maxL := 2) (ret := (some .boolean)) (by decide) rfl ?_
  intro p e s m args below meth c s₁ B hml hT hv
  obtain ⟨rfl, hsz, hP, hD0, hx0⟩ := hv
  have hx := B.exec
  have hb := B.bytes
  have hr := B.returns
  have G := E.2.1
  have hown : s.vm.findClass cn_M = some m.cls := findClass_of_methodNamed B.named
  have hlocks := B.notSynchronized
  have hK := va_K.moved hx0.1.alike E.2.2.1
  subst hsz
  have hA0 := cx_new hD0 hx0.2.1
  have hD := hD0.self (sz := s.heap.size)
  generalize hAe : va_A [] s.heap.size = A at hD hA0 ⊢
  have hA : ∀ q : Nat, s.heap.size ≤ q → A q := fun q h => by rw [← hAe]; exact Or.inr h
  have hS : va_S A s.heap s.heap [] := va_S.rf
  have hl := lv_entry ([.int x, .int r]) (n := 2) (Nat.le_of_ble_eq_true rfl)
  rw [lg_entry_eq]
  generalize (lg_sl ([.int x, .int r]) ++ List.replicate (2 - (lg_sl ([.int x, .int r])).length) Slot.unset).toArray = ls at hl ⊢
  have hl : lv_has ls 2 [(0, .int x), (1, .int r)] := hl
  have hP : va_P D kl [] s.heap := hP
  have hml : c.maxLocals = 2 := hml
  refine lv_iload_n hx hb d_M_in_0 rfl (lv_at hl 0 rfl) ?_
  refine lv_iload_n hx hb d_M_in_1 rfl (lv_at hl 1 rfl) ?_
  refine lv_ineg hx hb d_M_in_2 ?_
  refine lv_icmp_lt (tgt := 15) hx hb d_M_in_3 (by decide) (fun h99 => absurd h99 (inw_lt h)) (fun _ => ?_)
  refine lv_iload_n hx hb d_M_in_6 rfl (lv_at hl 0 rfl) ?_
  refine lv_iload_n hx hb d_M_in_7 rfl (lv_at hl 1 rfl) ?_
  refine lv_icmp_gt (tgt := 15) hx hb d_M_in_8 (by decide) (fun h99 => absurd h99 (Int32.not_lt.mpr (inw_le h))) (fun _ => ?_)
  refine lv_iconst (v := (1 : Int32)) hx hb d_M_in_11 (by decide) ?_
  refine lv_goto (tgt := 16) hx hb d_M_in_12 (by decide) ?_
  exact tx_mono (fun _ h => tx_Z.of h) (W.zret (v := (1 : Int32)) hx hb hr (by decide) (fun t ht hW => ⟨⟨[], ⟨rfl, rfl⟩, by rw [ht]; exact hP.sub [] rfl, hD.sub [] (by decide) rfl⟩, hS.F ht⟩) hS.2.2 d_M_in_16)

set_option maxHeartbeats 4000000 in
set_option maxRecDepth 100000 in
theorem c_M_in_n {l : Launch} {s0 : State} {b0 : Addr} {D : va_G} {cI cJ cZ : ClassId} {tC tS : Nat} (E : gE l s0 b0 D cI cJ cZ tC tS) (sz : Nat) (x : Int32) (r : Int32) (h : ¬ inw r x = true) : cx_M l s0 D kl y_M_in b_M_in 2 (some .boolean) ({ frames := 0, cells := 0, slots := 0, locals := 0 } : Room) 0 0 [.int x, .int r] [] sz (fun o9 _ w9 => o9 = .returned (some (.int (0 : Int32))) ∧ w9 = []) := by
  refine tx_ofW (cc := b_M_in) (maxL := 2) (ret := (some .boolean)) (by decide) rfl ?_
  intro p e s m args below meth c s₁ B hml hT hv
  obtain ⟨rfl, hsz, hP, hD0, hx0⟩ := hv
  have hx := B.exec
  have hb := B.bytes
  have hr := B.returns
  have G := E.2.1
  have hown : s.vm.findClass cn_M = some m.cls := findClass_of_methodNamed B.named
  have hlocks := B.notSynchronized
  have hK := va_K.moved hx0.1.alike E.2.2.1
  subst hsz
  have hA0 := cx_new hD0 hx0.2.1
  have hD := hD0.self (sz := s.heap.size)
  generalize hAe : va_A [] s.heap.size = A at hD hA0 ⊢
  have hA : ∀ q : Nat, s.heap.size ≤ q → A q := fun q h => by rw [← hAe]; exact Or.inr h
  have hS : va_S A s.heap s.heap [] := va_S.rf
  have hl := lv_entry ([.int x, .int r]) (n := 2) (Nat.le_of_ble_eq_true rfl)
  rw [lg_entry_eq]
  generalize (lg_sl ([.int x, .int r]) ++ List.replicate (2 - (lg_sl ([.int x, .int r])).length) Slot.unset).toArray = ls at hl ⊢
  have hl : lv_has ls 2 [(0, .int x), (1, .int r)] := hl
  have hP : va_P D kl [] s.heap := hP
  have hml : c.maxLocals = 2 := hml
  refine lv_iload_n hx hb d_M_in_0 rfl (lv_at hl 0 rfl) ?_
  refine lv_iload_n hx hb d_M_in_1 rfl (lv_at hl 1 rfl) ?_
  refine lv_ineg hx hb d_M_in_2 ?_
  refine lv_icmp_lt (tgt := 15) hx hb d_M_in_3 (by decide) (fun h_1 => ?_) (fun h_1 => ?_)
  · refine lv_iconst (v := (0 : Int32)) hx hb d_M_in_15 (by decide) ?_
    exact tx_mono (fun _ h => tx_Z.of h) (W.zret (v := (0 : Int32)) hx hb hr (by decide) (fun t ht hW => ⟨⟨[], ⟨rfl, rfl⟩, by rw [ht]; exact hP.sub [] rfl, hD.sub [] (by decide) rfl⟩, hS.F ht⟩) hS.2.2 d_M_in_16)
  · refine lv_iload_n hx hb d_M_in_6 rfl (lv_at hl 0 rfl) ?_
    refine lv_iload_n hx hb d_M_in_7 rfl (lv_at hl 1 rfl) ?_
    refine lv_icmp_gt (tgt := 15) hx hb d_M_in_8 (by decide) (fun h_2 => ?_) (fun h_2 => ?_)
    · refine lv_iconst (v := (0 : Int32)) hx hb d_M_in_15 (by decide) ?_
      exact tx_mono (fun _ h => tx_Z.of h) (W.zret (v := (0 : Int32)) hx hb hr (by decide) (fun t ht hW => ⟨⟨[], ⟨rfl, rfl⟩, by rw [ht]; exact hP.sub [] rfl, hD.sub [] (by decide) rfl⟩, hS.F ht⟩) hS.2.2 d_M_in_16)
    · refine lv_iconst (v := (1 : Int32)) hx hb d_M_in_11 (by decide) ?_
      refine lv_goto (tgt := 16) hx hb d_M_in_12 (by decide) ?_
      exact absurd (inw_of h_1 (Int32.not_lt.mp h_2)) h

set_option maxHeartbeats 4000000 in
set_option maxRecDepth 100000 in
theorem c_M_thrown {l : Launch} {s0 : State} {b0 : Addr} {D : va_G} {cI cJ cZ : ClassId} {tC tS : Nat} (E : gE l s0 b0 D cI cJ cZ tC tS) (sz : Nat) (m0 : Nat) (rw : Nat) (ry : Nat) (ti : Nat) (po : Nat) (su : Nat) (sq : Nat) (ch : Nat) (vt : Nat) (sh : Nat) (th : Int32) (f1 : Int32) (f2 : Int32) (f4 : Int32) (f5 : Int32) (f6 : Int32) (f8 : Int32) (f9 : Int32) (f11 : Int32) (f12 : Int32) : cx_M l s0 D kl y_M_thrown b_M_thrown 1 (some .int) ({ frames := 0, cells := 0, slots := 0, locals := 0 } : Room) 0 0 [.ref m0] [(m0, .inr (7, [.int th, .int f1, .int f2, .ref rw, .int f4, .int f5, .int f6, .ref ry, .int f8, .int f9, .ref ti, .int f11, .int f12, .ref po, .ref su, .ref sq, .ref ch, .ref vt, .ref sh]))] sz (fun o9 _ w9 => o9 = .returned (some (.int th)) ∧ w9 = [(m0, .inr (7, [.int th, .int f1, .int f2, .ref rw, .int f4, .int f5, .int f6, .ref ry, .int f8, .int f9, .ref ti, .int f11, .int f12, .ref po, .ref su, .ref sq, .ref ch, .ref vt, .ref sh]))]) := by
  refine tx_ofW (cc := b_M_thrown) (maxL := 1) (ret := (some .int)) (by decide) rfl ?_
  intro p e s m args below meth c s₁ B hml hT hv
  obtain ⟨rfl, hsz, hP, hD0, hx0⟩ := hv
  have hx := B.exec
  have hb := B.bytes
  have hr := B.returns
  have G := E.2.1
  have hown : s.vm.findClass cn_M = some m.cls := findClass_of_methodNamed B.named
  have hlocks := B.notSynchronized
  have hK := va_K.moved hx0.1.alike E.2.2.1
  have hf_M : ∀ w99 ∈ u_ws cn_M ft_M 19, w99.before ([.ref m0] : List Value).toArray s = true := fun w99 h99 => gw.at G hx0 (fw_M w99 h99) (fo_M w99 h99) _
  subst hsz
  have hA0 := cx_new hD0 hx0.2.1
  have hD := hD0.self (sz := s.heap.size)
  generalize hAe : va_A [(m0, .inr (7, [.int th, .int f1, .int f2, .ref rw, .int f4, .int f5, .int f6, .ref ry, .int f8, .int f9, .ref ti, .int f11, .int f12, .ref po, .ref su, .ref sq, .ref ch, .ref vt, .ref sh]))] s.heap.size = A at hD hA0 ⊢
  have hA : ∀ q : Nat, s.heap.size ≤ q → A q := fun q h => by rw [← hAe]; exact Or.inr h
  have hS : va_S A s.heap s.heap [] := va_S.rf
  have hl := lv_entry ([.ref m0]) (n := 1) (Nat.le_of_ble_eq_true rfl)
  rw [lg_entry_eq]
  generalize (lg_sl ([.ref m0]) ++ List.replicate (1 - (lg_sl ([.ref m0])).length) Slot.unset).toArray = ls at hl ⊢
  have hl : lv_has ls 1 [(0, .ref m0)] := hl
  have hP : va_P D kl [(m0, .inr (7, [.int th, .int f1, .int f2, .ref rw, .int f4, .int f5, .int f6, .ref ry, .int f8, .int f9, .ref ti, .int f11, .int f12, .ref po, .ref su, .ref sq, .ref ch, .ref vt, .ref sh]))] s.heap := hP
  have hml : c.maxLocals = 1 := hml
  refine lv_aload_n hx hb d_M_thrown_0 rfl (lv_at hl 0 rfl) ?_
  refine va_get (D := D) (ci := 7) (v := .int th) (C := cn_M) (T := ft_M) (N := 19) hx hb hf_M (fun _ h => h) hown hK hP 0 rfl rfl 0 (by decide) (gw.at G hx0 mw_713 rfl _) (fun _ h9 => h9) rfl d_M_thrown_1 ?_
  exact tx_mono (fun _ h => tx_Z.of h) (W.iret (v := th) hx hb hr (fun t ht hW => ⟨⟨[(m0, .inr (7, [.int th, .int f1, .int f2, .ref rw, .int f4, .int f5, .int f6, .ref ry, .int f8, .int f9, .ref ti, .int f11, .int f12, .ref po, .ref su, .ref sq, .ref ch, .ref vt, .ref sh]))], ⟨rfl, rfl⟩, by rw [ht]; exact hP.sub [0] rfl, hD.sub [0] (by decide) rfl⟩, hS.F ht⟩) hS.2.2 d_M_thrown_4)

set_option maxHeartbeats 4000000 in
set_option maxRecDepth 100000 in
theorem c_M_set2 {l : Launch} {s0 : State} {b0 : Addr} {D : va_G} {cI cJ cZ : ClassId} {tC tS : Nat} (E : gE l s0 b0 D cI cJ cZ tC tS) (sz : Nat) (m0 : Nat) (rw : Nat) (ry : Nat) (ti : Nat) (po : Nat) (su : Nat) (sq : Nat) (ch : Nat) (vt : Nat) (sh : Nat) (th : Int32) (a : Int32) (b : Int32) (c2 : Int32) (d2 : Int32) (vf : Nat → Int32) : cx_M l s0 D kl y_M_set b_M_set 5 none ({ frames := 0, cells := 0, slots := 0, locals := 0 } : Room) 0 0 [.ref m0, .int a, .int b, .int c2, .int d2] [(m0, .inr (7, [.int th, .int (2 : Int32), .int (0 : Int32), .ref rw, .int (0 : Int32), .int (0 : Int32), .int (0 : Int32), .ref ry, .int (0 : Int32), .int (0 : Int32), .ref ti, .int (0 : Int32), .int (0 : Int32), .ref po, .ref su, .ref sq, .ref ch, .ref vt, .ref sh])), (vt, .inl (cI, 4, .inl vf))] sz (fun o9 _ w9 => o9 = .returned none ∧ w9 = [(m0, .inr (7, [.int th, .int (2 : Int32), .int (0 : Int32), .ref rw, .int (0 : Int32), .int (0 : Int32), .int (0 : Int32), .ref ry, .int (0 : Int32), .int (0 : Int32), .ref ti, .int (0 : Int32), .int (0 : Int32), .ref po, .ref su, .ref sq, .ref ch, .ref vt, .ref sh])), (vt, .inl (cI, 4, .inl (upd (upd (upd (upd vf 0 a) 1 b) 2 (0 : Int32)) 3 (0 : Int32))))]) := by
  refine tx_ofW (cc := b_M_set) (maxL := 5) (ret := none) (by decide) rfl ?_
  intro p e s m args below meth c s₁ B hml hT hv
  obtain ⟨rfl, hsz, hP, hD0, hx0⟩ := hv
  have hx := B.exec
  have hb := B.bytes
  have hr := B.returns
  have G := E.2.1
  have hown : s.vm.findClass cn_M = some m.cls := findClass_of_methodNamed B.named
  have hlocks := B.notSynchronized
  have hK := va_K.moved hx0.1.alike E.2.2.1
  have hf_M : ∀ w99 ∈ u_ws cn_M ft_M 19, w99.before ([.ref m0, .int a, .int b, .int c2, .int d2] : List Value).toArray s = true := fun w99 h99 => gw.at G hx0 (fw_M w99 h99) (fo_M w99 h99) _
  subst hsz
  have hA0 := cx_new hD0 hx0.2.1
  have hD := hD0.self (sz := s.heap.size)
  generalize hAe : va_A [(m0, .inr (7, [.int th, .int (2 : Int32), .int (0 : Int32), .ref rw, .int (0 : Int32), .int (0 : Int32), .int (0 : Int32), .ref ry, .int (0 : Int32), .int (0 : Int32), .ref ti, .int (0 : Int32), .int (0 : Int32), .ref po, .ref su, .ref sq, .ref ch, .ref vt, .ref sh])), (vt, .inl (cI, 4, .inl vf))] s.heap.size = A at hD hA0 ⊢
  have hA : ∀ q : Nat, s.heap.size ≤ q → A q := fun q h => by rw [← hAe]; exact Or.inr h
  have hS : va_S A s.heap s.heap [] := va_S.rf
  have hl := lv_entry ([.ref m0, .int a, .int b, .int c2, .int d2]) (n := 5) (Nat.le_of_ble_eq_true rfl)
  rw [lg_entry_eq]
  generalize (lg_sl ([.ref m0, .int a, .int b, .int c2, .int d2]) ++ List.replicate (5 - (lg_sl ([.ref m0, .int a, .int b, .int c2, .int d2])).length) Slot.unset).toArray = ls at hl ⊢
  have hl : lv_has ls 5 [(0, .ref m0), (1, .int a), (2, .int b), (3, .int c2), (4, .int d2)] := hl
  have hP : va_P D kl [(m0, .inr (7, [.int th, .int (2 : Int32), .int (0 : Int32), .ref rw, .int (0 : Int32), .int (0 : Int32), .int (0 : Int32), .ref ry, .int (0 : Int32), .int (0 : Int32), .ref ti, .int (0 : Int32), .int (0 : Int32), .ref po, .ref su, .ref sq, .ref ch, .ref vt, .ref sh])), (vt, .inl (cI, 4, .inl vf))] s.heap := hP
  have hml : c.maxLocals = 5 := hml
  refine lv_aload_n hx hb d_M_set_0 rfl (lv_at hl 0 rfl) ?_
  refine va_get (D := D) (ci := 7) (v := .ref vt) (C := cn_M) (T := ft_M) (N := 19) hx hb hf_M (fun _ h => h) hown hK hP 0 rfl rfl 17 (by decide) (gw.at G hx0 mw_730 rfl _) (fun _ h9 => h9) rfl d_M_set_1 ?_
  refine lv_iconst (v := (0 : Int32)) hx hb d_M_set_4 (by decide) ?_
  refine lv_iload_n hx hb d_M_set_5 rfl (lv_at hl 1 rfl) ?_
  refine va_iast hx hb hK hP hD hS 1 0 rfl rfl (vp_in_iff.mpr (by decide)) d_M_set_6 (fun H locs hP hD hS => ?_)
  have hP : va_P D kl [(m0, .inr (7, [.int th, .int (2 : Int32), .int (0 : Int32), .ref rw, .int (0 : Int32), .int (0 : Int32), .int (0 : Int32), .ref ry, .int (0 : Int32), .int (0 : Int32), .ref ti, .int (0 : Int32), .int (0 : Int32), .ref po, .ref su, .ref sq, .ref ch, .ref vt, .ref sh])), (vt, .inl (cI, 4, .inl (upd vf 0 a)))] H := hP
  have hD : va_D A [(m0, .inr (7, [.int th, .int (2 : Int32), .int (0 : Int32), .ref rw, .int (0 : Int32), .int (0 : Int32), .int (0 : Int32), .ref ry, .int (0 : Int32), .int (0 : Int32), .ref ti, .int (0 : Int32), .int (0 : Int32), .ref po, .ref su, .ref sq, .ref ch, .ref vt, .ref sh])), (vt, .inl (cI, 4, .inl (upd vf 0 a)))] := hD
  refine lv_aload_n hx hb d_M_set_7 rfl (lv_at hl 0 rfl) ?_
  refine va_get (D := D) (ci := 7) (v := .ref vt) (C := cn_M) (T := ft_M) (N := 19) hx hb hf_M (fun _ h => h) hown hK hP 0 rfl rfl 17 (by decide) (gw.at G hx0 mw_730 rfl _) (fun _ h9 => h9) rfl d_M_set_8 ?_
  refine lv_iconst (v := (1 : Int32)) hx hb d_M_set_11 (by decide) ?_
  refine lv_iload_n hx hb d_M_set_12 rfl (lv_at hl 2 rfl) ?_
  refine va_iast hx hb hK hP hD hS 1 0 rfl rfl (vp_in_iff.mpr (by decide)) d_M_set_13 (fun H locs hP hD hS => ?_)
  have hP : va_P D kl [(m0, .inr (7, [.int th, .int (2 : Int32), .int (0 : Int32), .ref rw, .int (0 : Int32), .int (0 : Int32), .int (0 : Int32), .ref ry, .int (0 : Int32), .int (0 : Int32), .ref ti, .int (0 : Int32), .int (0 : Int32), .ref po, .ref su, .ref sq, .ref ch, .ref vt, .ref sh])), (vt, .inl (cI, 4, .inl (upd (upd vf 0 a) 1 b)))] H := hP
  have hD : va_D A [(m0, .inr (7, [.int th, .int (2 : Int32), .int (0 : Int32), .ref rw, .int (0 : Int32), .int (0 : Int32), .int (0 : Int32), .ref ry, .int (0 : Int32), .int (0 : Int32), .ref ti, .int (0 : Int32), .int (0 : Int32), .ref po, .ref su, .ref sq, .ref ch, .ref vt, .ref sh])), (vt, .inl (cI, 4, .inl (upd (upd vf 0 a) 1 b)))] := hD
  refine lv_aload_n hx hb d_M_set_14 rfl (lv_at hl 0 rfl) ?_
  refine va_get (D := D) (ci := 7) (v := .ref vt) (C := cn_M) (T := ft_M) (N := 19) hx hb hf_M (fun _ h => h) hown hK hP 0 rfl rfl 17 (by decide) (gw.at G hx0 mw_730 rfl _) (fun _ h9 => h9) rfl d_M_set_15 ?_
  refine lv_iconst (v := (2 : Int32)) hx hb d_M_set_18 (by decide) ?_
  refine lv_aload_n hx hb d_M_set_19 rfl (lv_at hl 0 rfl) ?_
  refine va_get (D := D) (ci := 7) (v := .int (2 : Int32)) (C := cn_M) (T := ft_M) (N := 19) hx hb hf_M (fun _ h => h) hown hK hP 0 rfl rfl 1 (by decide) (gw.at G hx0 mw_714 rfl _) (fun _ h9 => h9) rfl d_M_set_20 ?_
  refine lv_iconst (v := (2 : Int32)) hx hb d_M_set_23 (by decide) ?_
  refine lv_icmp_le (tgt := 31) hx hb d_M_set_24 (by decide) (fun _ => ?_) (fun h99 => absurd h99 (by decide))
  refine lv_iconst (v := (0 : Int32)) hx hb d_M_set_31 (by decide) ?_
  refine va_iast hx hb hK hP hD hS 1 0 rfl rfl (vp_in_iff.mpr (by decide)) d_M_set_32 (fun H locs hP hD hS => ?_)
  have hP : va_P D kl [(m0, .inr (7, [.int th, .int (2 : Int32), .int (0 : Int32), .ref rw, .int (0 : Int32), .int (0 : Int32), .int (0 : Int32), .ref ry, .int (0 : Int32), .int (0 : Int32), .ref ti, .int (0 : Int32), .int (0 : Int32), .ref po, .ref su, .ref sq, .ref ch, .ref vt, .ref sh])), (vt, .inl (cI, 4, .inl (upd (upd (upd vf 0 a) 1 b) 2 (0 : Int32))))] H := hP
  have hD : va_D A [(m0, .inr (7, [.int th, .int (2 : Int32), .int (0 : Int32), .ref rw, .int (0 : Int32), .int (0 : Int32), .int (0 : Int32), .ref ry, .int (0 : Int32), .int (0 : Int32), .ref ti, .int (0 : Int32), .int (0 : Int32), .ref po, .ref su, .ref sq, .ref ch, .ref vt, .ref sh])), (vt, .inl (cI, 4, .inl (upd (upd (upd vf 0 a) 1 b) 2 (0 : Int32))))] := hD
  refine lv_aload_n hx hb d_M_set_33 rfl (lv_at hl 0 rfl) ?_
  refine va_get (D := D) (ci := 7) (v := .ref vt) (C := cn_M) (T := ft_M) (N := 19) hx hb hf_M (fun _ h => h) hown hK hP 0 rfl rfl 17 (by decide) (gw.at G hx0 mw_730 rfl _) (fun _ h9 => h9) rfl d_M_set_34 ?_
  refine lv_iconst (v := (3 : Int32)) hx hb d_M_set_37 (by decide) ?_
  refine lv_aload_n hx hb d_M_set_38 rfl (lv_at hl 0 rfl) ?_
  refine va_get (D := D) (ci := 7) (v := .int (2 : Int32)) (C := cn_M) (T := ft_M) (N := 19) hx hb hf_M (fun _ h => h) hown hK hP 0 rfl rfl 1 (by decide) (gw.at G hx0 mw_714 rfl _) (fun _ h9 => h9) rfl d_M_set_39 ?_
  refine lv_iconst (v := (3 : Int32)) hx hb d_M_set_42 (by decide) ?_
  refine lv_icmp_le (tgt := 51) hx hb d_M_set_43 (by decide) (fun _ => ?_) (fun h99 => absurd h99 (by decide))
  refine lv_iconst (v := (0 : Int32)) hx hb d_M_set_51 (by decide) ?_
  refine va_iast hx hb hK hP hD hS 1 0 rfl rfl (vp_in_iff.mpr (by decide)) d_M_set_52 (fun H locs hP hD hS => ?_)
  have hP : va_P D kl [(m0, .inr (7, [.int th, .int (2 : Int32), .int (0 : Int32), .ref rw, .int (0 : Int32), .int (0 : Int32), .int (0 : Int32), .ref ry, .int (0 : Int32), .int (0 : Int32), .ref ti, .int (0 : Int32), .int (0 : Int32), .ref po, .ref su, .ref sq, .ref ch, .ref vt, .ref sh])), (vt, .inl (cI, 4, .inl (upd (upd (upd (upd vf 0 a) 1 b) 2 (0 : Int32)) 3 (0 : Int32))))] H := hP
  have hD : va_D A [(m0, .inr (7, [.int th, .int (2 : Int32), .int (0 : Int32), .ref rw, .int (0 : Int32), .int (0 : Int32), .int (0 : Int32), .ref ry, .int (0 : Int32), .int (0 : Int32), .ref ti, .int (0 : Int32), .int (0 : Int32), .ref po, .ref su, .ref sq, .ref ch, .ref vt, .ref sh])), (vt, .inl (cI, 4, .inl (upd (upd (upd (upd vf 0 a) 1 b) 2 (0 : Int32)) 3 (0 : Int32))))] := hD
  exact tx_mono (fun _ h => tx_Z.of h) (W.vret hx hb hr (fun t ht hW => ⟨⟨[(m0, .inr (7, [.int th, .int (2 : Int32), .int (0 : Int32), .ref rw, .int (0 : Int32), .int (0 : Int32), .int (0 : Int32), .ref ry, .int (0 : Int32), .int (0 : Int32), .ref ti, .int (0 : Int32), .int (0 : Int32), .ref po, .ref su, .ref sq, .ref ch, .ref vt, .ref sh])), (vt, .inl (cI, 4, .inl (upd (upd (upd (upd vf 0 a) 1 b) 2 (0 : Int32)) 3 (0 : Int32))))], ⟨rfl, rfl⟩, by rw [ht]; exact hP.sub [0, 1] rfl, hD.sub [0, 1] (by decide) rfl⟩, hS.F ht⟩) hS.2.2 d_M_set_53)

set_option maxHeartbeats 4000000 in
set_option maxRecDepth 100000 in
theorem c_M_within2_y {l : Launch} {s0 : State} {b0 : Addr} {D : va_G} {cI cJ cZ : ClassId} {tC tS : Nat} (E : gE l s0 b0 D cI cJ cZ tC tS) (sz : Nat) (m0 : Nat) (rw : Nat) (ry : Nat) (ti : Nat) (po : Nat) (su : Nat) (sq : Nat) (ch : Nat) (vt : Nat) (sh : Nat) (th : Int32) (r : Int32) (vf : Nat → Int32) (h : inw r (vf 0) = true ∧ inw r (vf 1) = true) : cx_M l s0 D kl y_M_within b_M_within 4 (some .boolean) ({ frames := 1, cells := 0, slots := 0, locals := 21 } : Room) 0 0 [.ref m0, .int r] [(m0, .inr (7, [.int th, .int (2 : Int32), .int (0 : Int32), .ref rw, .int (0 : Int32), .int (0 : Int32), .int (0 : Int32), .ref ry, .int (0 : Int32), .int (0 : Int32), .ref ti, .int (0 : Int32), .int (0 : Int32), .ref po, .ref su, .ref sq, .ref ch, .ref vt, .ref sh])), (vt, .inl (cI, 4, .inl vf))] sz (fun o9 _ w9 => o9 = .returned (some (.int (1 : Int32))) ∧ w9 = [(m0, .inr (7, [.int th, .int (2 : Int32), .int (0 : Int32), .ref rw, .int (0 : Int32), .int (0 : Int32), .int (0 : Int32), .ref ry, .int (0 : Int32), .int (0 : Int32), .ref ti, .int (0 : Int32), .int (0 : Int32), .ref po, .ref su, .ref sq, .ref ch, .ref vt, .ref sh])), (vt, .inl (cI, 4, .inl vf))]) := by
  refine tx_ofW (cc := b_M_within) (maxL := 4) (ret := (some .boolean)) (by decide) rfl ?_
  intro p e s m args below meth c s₁ B hml hT hv
  obtain ⟨rfl, hsz, hP, hD0, hx0⟩ := hv
  have hx := B.exec
  have hb := B.bytes
  have hr := B.returns
  have G := E.2.1
  have hown : s.vm.findClass cn_M = some m.cls := findClass_of_methodNamed B.named
  have hlocks := B.notSynchronized
  have hK := va_K.moved hx0.1.alike E.2.2.1
  have hf_M : ∀ w99 ∈ u_ws cn_M ft_M 19, w99.before ([.ref m0, .int r] : List Value).toArray s = true := fun w99 h99 => gw.at G hx0 (fw_M w99 h99) (fo_M w99 h99) _
  subst hsz
  have hA0 := cx_new hD0 hx0.2.1
  have hD := hD0.self (sz := s.heap.size)
  generalize hAe : va_A [(m0, .inr (7, [.int th, .int (2 : Int32), .int (0 : Int32), .ref rw, .int (0 : Int32), .int (0 : Int32), .int (0 : Int32), .ref ry, .int (0 : Int32), .int (0 : Int32), .ref ti, .int (0 : Int32), .int (0 : Int32), .ref po, .ref su, .ref sq, .ref ch, .ref vt, .ref sh])), (vt, .inl (cI, 4, .inl vf))] s.heap.size = A at hD hA0 ⊢
  have hA : ∀ q : Nat, s.heap.size ≤ q → A q := fun q h => by rw [← hAe]; exact Or.inr h
  have hS : va_S A s.heap s.heap [] := va_S.rf
  have hl := lv_entry ([.ref m0, .int r]) (n := 4) (Nat.le_of_ble_eq_true rfl)
  rw [lg_entry_eq]
  generalize (lg_sl ([.ref m0, .int r]) ++ List.replicate (4 - (lg_sl ([.ref m0, .int r])).length) Slot.unset).toArray = ls at hl ⊢
  have hl : lv_has ls 4 [(0, .ref m0), (1, .int r)] := hl
  have hP : va_P D kl [(m0, .inr (7, [.int th, .int (2 : Int32), .int (0 : Int32), .ref rw, .int (0 : Int32), .int (0 : Int32), .int (0 : Int32), .ref ry, .int (0 : Int32), .int (0 : Int32), .ref ti, .int (0 : Int32), .int (0 : Int32), .ref po, .ref su, .ref sq, .ref ch, .ref vt, .ref sh])), (vt, .inl (cI, 4, .inl vf))] s.heap := hP
  have hml : c.maxLocals = 4 := hml
  refine lv_iconst (v := (1 : Int32)) hx hb d_M_within_0 (by decide) ?_
  refine lv_istore_n (lv' := [(2, .int (1 : Int32)), (0, .ref m0), (1, .int r)]) hx hb d_M_within_1 rfl hl (by decide) rfl (fun ls hl => ?_)
  refine lv_iconst (v := (0 : Int32)) hx hb d_M_within_2 (by decide) ?_
  refine lv_istore_n (lv' := [(3, .int (0 : Int32)), (2, .int (1 : Int32)), (0, .ref m0), (1, .int r)]) hx hb d_M_within_3 rfl hl (by decide) rfl (fun ls hl => ?_)
  refine lv_iload_n hx hb d_M_within_4 rfl (lv_at hl 0 rfl) ?_
  refine lv_aload_n hx hb d_M_within_5 rfl (lv_at hl 2 rfl) ?_
  refine va_get (D := D) (ci := 7) (v := .int (2 : Int32)) (C := cn_M) (T := ft_M) (N := 19) hx hb hf_M (fun _ h => h) hown hK hP 0 rfl rfl 1 (by decide) (gw.at G hx0 mw_714 rfl _) (fun _ h9 => h9) rfl d_M_within_6 ?_
  refine lv_icmp_ge (tgt := 41) hx hb d_M_within_9 (by decide) (fun h99 => absurd h99 (by decide)) (fun _ => ?_)
  refine lv_iload_n hx hb d_M_within_12 rfl (lv_at hl 1 rfl) ?_
  refine lv_if_eq (tgt := 33) hx hb d_M_within_13 (by decide) (fun h99 => absurd h99 (by decide)) (fun _ => ?_)
  refine lv_aload_n hx hb d_M_within_16 rfl (lv_at hl 2 rfl) ?_
  refine va_get (D := D) (ci := 7) (v := .ref vt) (C := cn_M) (T := ft_M) (N := 19) hx hb hf_M (fun _ h => h) hown hK hP 0 rfl rfl 17 (by decide) (gw.at G hx0 mw_730 rfl _) (fun _ h9 => h9) rfl d_M_within_17 ?_
  refine lv_iload_n hx hb d_M_within_20 rfl (lv_at hl 0 rfl) ?_
  refine va_iald hx hb hK hP 1 0 rfl rfl (vp_in_iff.mpr (by decide)) d_M_within_21 ?_
  refine tp_i (y := vf 0) (by rfl) ?_
  refine lv_iload_n hx hb d_M_within_22 rfl (lv_at hl 3 rfl) ?_
  refine cx_call (D := D) (cl := kl) (ws := _) (wc := []) (wr := [(m0, .inr (7, [.int th, .int (2 : Int32), .int (0 : Int32), .ref rw, .int (0 : Int32), .int (0 : Int32), .int (0 : Int32), .ref ry, .int (0 : Int32), .int (0 : Int32), .ref ti, .int (0 : Int32), .int (0 : Int32), .ref po, .ref su, .ref sq, .ref ch, .ref vt, .ref sh])), (vt, .inl (cI, 4, .inl vf))]) (tx_runS (As := [.int (vf 0), .int r]) (rest := []) hx hb hml hown (c_M_in_y E s.heap.size (vf 0) r h.1) (cx_C (b0 := b0) G hx0 mw_790 mw_9 ny_M_in (by decide)) (gw.at G hx0 mw_788 rfl _) (gw.at G hx0 mw_789 rfl _) (gw.at G hx0 mw_9 rfl _) ⟨cx_blind, (cx_pre (s := s) hx0 hP hD hS hA0 [] rfl rfl (by decide))⟩ rfl rfl hl.1 rfl (lv_room (Nat.le_of_ble_eq_true rfl)) d_M_within_23 ⟨by decide, by decide⟩) hP hD hS hA [] [0, 1] rfl rfl (by decide) (by decide) (fun v t w1 H locs ht hW9 hp hP hD hS => ?_) (fun x t w1 H locs ht hW9 hp hP hD hS => by obtain ⟨h9, -⟩ := hp; cases h9)
  obtain ⟨h9, rfl⟩ := hp
  cases h9
  refine W.eq (g2 := F0 m 26 ls [.int (1 : Int32)]) rfl ?_
  refine W.widen (k := 0) (n := 0) (by decide) (by decide) ?_
  have hP : va_P D kl [(m0, .inr (7, [.int th, .int (2 : Int32), .int (0 : Int32), .ref rw, .int (0 : Int32), .int (0 : Int32), .int (0 : Int32), .ref ry, .int (0 : Int32), .int (0 : Int32), .ref ti, .int (0 : Int32), .int (0 : Int32), .ref po, .ref su, .ref sq, .ref ch, .ref vt, .ref sh])), (vt, .inl (cI, 4, .inl vf))] H := hP
  have hD : va_D A [(m0, .inr (7, [.int th, .int (2 : Int32), .int (0 : Int32), .ref rw, .int (0 : Int32), .int (0 : Int32), .int (0 : Int32), .ref ry, .int (0 : Int32), .int (0 : Int32), .ref ti, .int (0 : Int32), .int (0 : Int32), .ref po, .ref su, .ref sq, .ref ch, .ref vt, .ref sh])), (vt, .inl (cI, 4, .inl vf))] := hD
  refine lv_if_eq (tgt := 33) hx hb d_M_within_26 (by decide) (fun h99 => absurd h99 (by decide)) (fun _ => ?_)
  refine lv_iconst (v := (1 : Int32)) hx hb d_M_within_29 (by decide) ?_
  refine lv_goto (tgt := 34) hx hb d_M_within_30 (by decide) ?_
  refine lv_istore_n (lv' := [(2, .int (1 : Int32)), (3, .int (0 : Int32)), (0, .ref m0), (1, .int r)]) hx hb d_M_within_34 rfl hl (by decide) rfl (fun ls hl => ?_)
  refine lv_iinc (lv' := [(3, .int (1 : Int32)), (2, .int (1 : Int32)), (0, .ref m0), (1, .int r)]) (k := 1) (v := (1 : Int32)) hx hb d_M_within_35 hl rfl (by decide) (by decide) rfl (fun ls hl => ?_)
  refine lv_goto (tgt := 4) hx hb d_M_within_38 (by decide) ?_
  refine lv_iload_n hx hb d_M_within_4 rfl (lv_at hl 0 rfl) ?_
  refine lv_aload_n hx hb d_M_within_5 rfl (lv_at hl 2 rfl) ?_
  refine va_get (D := D) (ci := 7) (v := .int (2 : Int32)) (C := cn_M) (T := ft_M) (N := 19) hx hb hf_M (fun _ h => h) hown hK hP 0 rfl rfl 1 (by decide) (gw.at G hx0 mw_714 rfl _) (fun _ h9 => h9) rfl d_M_within_6 ?_
  refine lv_icmp_ge (tgt := 41) hx hb d_M_within_9 (by decide) (fun h99 => absurd h99 (by decide)) (fun _ => ?_)
  refine lv_iload_n hx hb d_M_within_12 rfl (lv_at hl 1 rfl) ?_
  refine lv_if_eq (tgt := 33) hx hb d_M_within_13 (by decide) (fun h99 => absurd h99 (by decide)) (fun _ => ?_)
  refine lv_aload_n hx hb d_M_within_16 rfl (lv_at hl 2 rfl) ?_
  refine va_get (D := D) (ci := 7) (v := .ref vt) (C := cn_M) (T := ft_M) (N := 19) hx hb hf_M (fun _ h => h) hown hK hP 0 rfl rfl 17 (by decide) (gw.at G hx0 mw_730 rfl _) (fun _ h9 => h9) rfl d_M_within_17 ?_
  refine lv_iload_n hx hb d_M_within_20 rfl (lv_at hl 0 rfl) ?_
  refine va_iald hx hb hK hP 1 0 rfl rfl (vp_in_iff.mpr (by decide)) d_M_within_21 ?_
  refine tp_i (y := vf 1) (by rfl) ?_
  refine lv_iload_n hx hb d_M_within_22 rfl (lv_at hl 3 rfl) ?_
  refine cx_call (D := D) (cl := kl) (ws := _) (wc := []) (wr := [(m0, .inr (7, [.int th, .int (2 : Int32), .int (0 : Int32), .ref rw, .int (0 : Int32), .int (0 : Int32), .int (0 : Int32), .ref ry, .int (0 : Int32), .int (0 : Int32), .ref ti, .int (0 : Int32), .int (0 : Int32), .ref po, .ref su, .ref sq, .ref ch, .ref vt, .ref sh])), (vt, .inl (cI, 4, .inl vf))]) (tx_runS (As := [.int (vf 1), .int r]) (rest := []) hx hb hml hown (c_M_in_y E H.size (vf 1) r h.2) (cx_C (b0 := b0) G hx0 mw_790 mw_9 ny_M_in (by decide)) (gw.at G hx0 mw_788 rfl _) (gw.at G hx0 mw_789 rfl _) (gw.at G hx0 mw_9 rfl _) ⟨cx_blind, (cx_pre (s := s) hx0 hP hD hS hA0 [] rfl rfl (by decide))⟩ rfl rfl hl.1 rfl (lv_room (Nat.le_of_ble_eq_true rfl)) d_M_within_23 ⟨by decide, by decide⟩) hP hD hS hA [] [0, 1] rfl rfl (by decide) (by decide) (fun v t w1 H locs ht hW9 hp hP hD hS => ?_) (fun x t w1 H locs ht hW9 hp hP hD hS => by obtain ⟨h9, -⟩ := hp; cases h9)
  obtain ⟨h9, rfl⟩ := hp
  cases h9
  refine W.eq (g2 := F0 m 26 ls [.int (1 : Int32)]) rfl ?_
  refine W.widen (k := 0) (n := 0) (by decide) (by decide) ?_
  have hP : va_P D kl [(m0, .inr (7, [.int th, .int (2 : Int32), .int (0 : Int32), .ref rw, .int (0 : Int32), .int (0 : Int32), .int (0 : Int32), .ref ry, .int (0 : Int32), .int (0 : Int32), .ref ti, .int (0 : Int32), .int (0 : Int32), .ref po, .ref su, .ref sq, .ref ch, .ref vt, .ref sh])), (vt, .inl (cI, 4, .inl vf))] H := hP
  have hD : va_D A [(m0, .inr (7, [.int th, .int (2 : Int32), .int (0 : Int32), .ref rw, .int (0 : Int32), .int (0 : Int32), .int (0 : Int32), .ref ry, .int (0 : Int32), .int (0 : Int32), .ref ti, .int (0 : Int32), .int (0 : Int32), .ref po, .ref su, .ref sq, .ref ch, .ref vt, .ref sh])), (vt, .inl (cI, 4, .inl vf))] := hD
  refine lv_if_eq (tgt := 33) hx hb d_M_within_26 (by decide) (fun h99 => absurd h99 (by decide)) (fun _ => ?_)
  refine lv_iconst (v := (1 : Int32)) hx hb d_M_within_29 (by decide) ?_
  refine lv_goto (tgt := 34) hx hb d_M_within_30 (by decide) ?_
  refine lv_istore_n (lv' := [(2, .int (1 : Int32)), (3, .int (1 : Int32)), (0, .ref m0), (1, .int r)]) hx hb d_M_within_34 rfl hl (by decide) rfl (fun ls hl => ?_)
  refine lv_iinc (lv' := [(3, .int (2 : Int32)), (2, .int (1 : Int32)), (0, .ref m0), (1, .int r)]) (k := 1) (v := (2 : Int32)) hx hb d_M_within_35 hl rfl (by decide) (by decide) rfl (fun ls hl => ?_)
  refine lv_goto (tgt := 4) hx hb d_M_within_38 (by decide) ?_
  refine lv_iload_n hx hb d_M_within_4 rfl (lv_at hl 0 rfl) ?_
  refine lv_aload_n hx hb d_M_within_5 rfl (lv_at hl 2 rfl) ?_
  refine va_get (D := D) (ci := 7) (v := .int (2 : Int32)) (C := cn_M) (T := ft_M) (N := 19) hx hb hf_M (fun _ h => h) hown hK hP 0 rfl rfl 1 (by decide) (gw.at G hx0 mw_714 rfl _) (fun _ h9 => h9) rfl d_M_within_6 ?_
  refine lv_icmp_ge (tgt := 41) hx hb d_M_within_9 (by decide) (fun _ => ?_) (fun h99 => absurd h99 (by decide))
  refine lv_iload_n hx hb d_M_within_41 rfl (lv_at hl 1 rfl) ?_
  exact tx_mono (fun _ h => tx_Z.of h) (W.zret (v := (1 : Int32)) hx hb hr (by decide) (fun t ht hW => ⟨⟨[(m0, .inr (7, [.int th, .int (2 : Int32), .int (0 : Int32), .ref rw, .int (0 : Int32), .int (0 : Int32), .int (0 : Int32), .ref ry, .int (0 : Int32), .int (0 : Int32), .ref ti, .int (0 : Int32), .int (0 : Int32), .ref po, .ref su, .ref sq, .ref ch, .ref vt, .ref sh])), (vt, .inl (cI, 4, .inl vf))], ⟨rfl, rfl⟩, by rw [ht]; exact hP.sub [0, 1] rfl, hD.sub [0, 1] (by decide) rfl⟩, hS.F ht⟩) hS.2.2 d_M_within_42)

set_option maxHeartbeats 4000000 in
set_option maxRecDepth 100000 in
theorem c_M_within2_n {l : Launch} {s0 : State} {b0 : Addr} {D : va_G} {cI cJ cZ : ClassId} {tC tS : Nat} (E : gE l s0 b0 D cI cJ cZ tC tS) (sz : Nat) (m0 : Nat) (rw : Nat) (ry : Nat) (ti : Nat) (po : Nat) (su : Nat) (sq : Nat) (ch : Nat) (vt : Nat) (sh : Nat) (th : Int32) (r : Int32) (vf : Nat → Int32) (h : ¬ (inw r (vf 0) = true ∧ inw r (vf 1) = true)) : cx_M l s0 D kl y_M_within b_M_within 4 (some .boolean) ({ frames := 1, cells := 0, slots := 0, locals := 21 } : Room) 0 0 [.ref m0, .int r] [(m0, .inr (7, [.int th, .int (2 : Int32), .int (0 : Int32), .ref rw, .int (0 : Int32), .int (0 : Int32), .int (0 : Int32), .ref ry, .int (0 : Int32), .int (0 : Int32), .ref ti, .int (0 : Int32), .int (0 : Int32), .ref po, .ref su, .ref sq, .ref ch, .ref vt, .ref sh])), (vt, .inl (cI, 4, .inl vf))] sz (fun o9 _ w9 => o9 = .returned (some (.int (0 : Int32))) ∧ w9 = [(m0, .inr (7, [.int th, .int (2 : Int32), .int (0 : Int32), .ref rw, .int (0 : Int32), .int (0 : Int32), .int (0 : Int32), .ref ry, .int (0 : Int32), .int (0 : Int32), .ref ti, .int (0 : Int32), .int (0 : Int32), .ref po, .ref su, .ref sq, .ref ch, .ref vt, .ref sh])), (vt, .inl (cI, 4, .inl vf))]) := by
  refine tx_ofW (cc := b_M_within) (maxL := 4) (ret := (some .boolean)) (by decide) rfl ?_
  intro p e s m args below meth c s₁ B hml hT hv
  obtain ⟨rfl, hsz, hP, hD0, hx0⟩ := hv
  have hx := B.exec
  have hb := B.bytes
  have hr := B.returns
  have G := E.2.1
  have hown : s.vm.findClass cn_M = some m.cls := findClass_of_methodNamed B.named
  have hlocks := B.notSynchronized
  have hK := va_K.moved hx0.1.alike E.2.2.1
  have hf_M : ∀ w99 ∈ u_ws cn_M ft_M 19, w99.before ([.ref m0, .int r] : List Value).toArray s = true := fun w99 h99 => gw.at G hx0 (fw_M w99 h99) (fo_M w99 h99) _
  subst hsz
  have hA0 := cx_new hD0 hx0.2.1
  have hD := hD0.self (sz := s.heap.size)
  generalize hAe : va_A [(m0, .inr (7, [.int th, .int (2 : Int32), .int (0 : Int32), .ref rw, .int (0 : Int32), .int (0 : Int32), .int (0 : Int32), .ref ry, .int (0 : Int32), .int (0 : Int32), .ref ti, .int (0 : Int32), .int (0 : Int32), .ref po, .ref su, .ref sq, .ref ch, .ref vt, .ref sh])), (vt, .inl (cI, 4, .inl vf))] s.heap.size = A at hD hA0 ⊢
  have hA : ∀ q : Nat, s.heap.size ≤ q → A q := fun q h => by rw [← hAe]; exact Or.inr h
  have hS : va_S A s.heap s.heap [] := va_S.rf
  have hl := lv_entry ([.ref m0, .int r]) (n := 4) (Nat.le_of_ble_eq_true rfl)
  rw [lg_entry_eq]
  generalize (lg_sl ([.ref m0, .int r]) ++ List.replicate (4 - (lg_sl ([.ref m0, .int r])).length) Slot.unset).toArray = ls at hl ⊢
  have hl : lv_has ls 4 [(0, .ref m0), (1, .int r)] := hl
  have hP : va_P D kl [(m0, .inr (7, [.int th, .int (2 : Int32), .int (0 : Int32), .ref rw, .int (0 : Int32), .int (0 : Int32), .int (0 : Int32), .ref ry, .int (0 : Int32), .int (0 : Int32), .ref ti, .int (0 : Int32), .int (0 : Int32), .ref po, .ref su, .ref sq, .ref ch, .ref vt, .ref sh])), (vt, .inl (cI, 4, .inl vf))] s.heap := hP
  have hml : c.maxLocals = 4 := hml
  refine lv_iconst (v := (1 : Int32)) hx hb d_M_within_0 (by decide) ?_
  refine lv_istore_n (lv' := [(2, .int (1 : Int32)), (0, .ref m0), (1, .int r)]) hx hb d_M_within_1 rfl hl (by decide) rfl (fun ls hl => ?_)
  refine lv_iconst (v := (0 : Int32)) hx hb d_M_within_2 (by decide) ?_
  refine lv_istore_n (lv' := [(3, .int (0 : Int32)), (2, .int (1 : Int32)), (0, .ref m0), (1, .int r)]) hx hb d_M_within_3 rfl hl (by decide) rfl (fun ls hl => ?_)
  refine lv_iload_n hx hb d_M_within_4 rfl (lv_at hl 0 rfl) ?_
  refine lv_aload_n hx hb d_M_within_5 rfl (lv_at hl 2 rfl) ?_
  refine va_get (D := D) (ci := 7) (v := .int (2 : Int32)) (C := cn_M) (T := ft_M) (N := 19) hx hb hf_M (fun _ h => h) hown hK hP 0 rfl rfl 1 (by decide) (gw.at G hx0 mw_714 rfl _) (fun _ h9 => h9) rfl d_M_within_6 ?_
  refine lv_icmp_ge (tgt := 41) hx hb d_M_within_9 (by decide) (fun h99 => absurd h99 (by decide)) (fun _ => ?_)
  refine lv_iload_n hx hb d_M_within_12 rfl (lv_at hl 1 rfl) ?_
  refine lv_if_eq (tgt := 33) hx hb d_M_within_13 (by decide) (fun h99 => absurd h99 (by decide)) (fun _ => ?_)
  refine lv_aload_n hx hb d_M_within_16 rfl (lv_at hl 2 rfl) ?_
  refine va_get (D := D) (ci := 7) (v := .ref vt) (C := cn_M) (T := ft_M) (N := 19) hx hb hf_M (fun _ h => h) hown hK hP 0 rfl rfl 17 (by decide) (gw.at G hx0 mw_730 rfl _) (fun _ h9 => h9) rfl d_M_within_17 ?_
  refine lv_iload_n hx hb d_M_within_20 rfl (lv_at hl 0 rfl) ?_
  refine va_iald hx hb hK hP 1 0 rfl rfl (vp_in_iff.mpr (by decide)) d_M_within_21 ?_
  refine tp_i (y := vf 0) (by rfl) ?_
  refine lv_iload_n hx hb d_M_within_22 rfl (lv_at hl 3 rfl) ?_
  by_cases h_1 : inw r (vf 0) = true
  · refine cx_call (D := D) (cl := kl) (ws := _) (wc := []) (wr := [(m0, .inr (7, [.int th, .int (2 : Int32), .int (0 : Int32), .ref rw, .int (0 : Int32), .int (0 : Int32), .int (0 : Int32), .ref ry, .int (0 : Int32), .int (0 : Int32), .ref ti, .int (0 : Int32), .int (0 : Int32), .ref po, .ref su, .ref sq, .ref ch, .ref vt, .ref sh])), (vt, .inl (cI, 4, .inl vf))]) (tx_runS (As := [.int (vf 0), .int r]) (rest := []) hx hb hml hown (c_M_in_y E s.heap.size (vf 0) r h_1) (cx_C (b0 := b0) G hx0 mw_790 mw_9 ny_M_in (by decide)) (gw.at G hx0 mw_788 rfl _) (gw.at G hx0 mw_789 rfl _) (gw.at G hx0 mw_9 rfl _) ⟨cx_blind, (cx_pre (s := s) hx0 hP hD hS hA0 [] rfl rfl (by decide))⟩ rfl rfl hl.1 rfl (lv_room (Nat.le_of_ble_eq_true rfl)) d_M_within_23 ⟨by decide, by decide⟩) hP hD hS hA [] [0, 1] rfl rfl (by decide) (by decide) (fun v t w1 H locs ht hW9 hp hP hD hS => ?_) (fun x t w1 H locs ht hW9 hp hP hD hS => by obtain ⟨h9, -⟩ := hp; cases h9)
    obtain ⟨h9, rfl⟩ := hp
    cases h9
    refine W.eq (g2 := F0 m 26 ls [.int (1 : Int32)]) rfl ?_
    refine W.widen (k := 0) (n := 0) (by decide) (by decide) ?_
    have hP : va_P D kl [(m0, .inr (7, [.int th, .int (2 : Int32), .int (0 : Int32), .ref rw, .int (0 : Int32), .int (0 : Int32), .int (0 : Int32), .ref ry, .int (0 : Int32), .int (0 : Int32), .ref ti, .int (0 : Int32), .int (0 : Int32), .ref po, .ref su, .ref sq, .ref ch, .ref vt, .ref sh])), (vt, .inl (cI, 4, .inl vf))] H := hP
    have hD : va_D A [(m0, .inr (7, [.int th, .int (2 : Int32), .int (0 : Int32), .ref rw, .int (0 : Int32), .int (0 : Int32), .int (0 : Int32), .ref ry, .int (0 : Int32), .int (0 : Int32), .ref ti, .int (0 : Int32), .int (0 : Int32), .ref po, .ref su, .ref sq, .ref ch, .ref vt, .ref sh])), (vt, .inl (cI, 4, .inl vf))] := hD
    refine lv_if_eq (tgt := 33) hx hb d_M_within_26 (by decide) (fun h99 => absurd h99 (by decide)) (fun _ => ?_)
    refine lv_iconst (v := (1 : Int32)) hx hb d_M_within_29 (by decide) ?_
    refine lv_goto (tgt := 34) hx hb d_M_within_30 (by decide) ?_
    refine lv_istore_n (lv' := [(2, .int (1 : Int32)), (3, .int (0 : Int32)), (0, .ref m0), (1, .int r)]) hx hb d_M_within_34 rfl hl (by decide) rfl (fun ls hl => ?_)
    refine lv_iinc (lv' := [(3, .int (1 : Int32)), (2, .int (1 : Int32)), (0, .ref m0), (1, .int r)]) (k := 1) (v := (1 : Int32)) hx hb d_M_within_35 hl rfl (by decide) (by decide) rfl (fun ls hl => ?_)
    refine lv_goto (tgt := 4) hx hb d_M_within_38 (by decide) ?_
    refine lv_iload_n hx hb d_M_within_4 rfl (lv_at hl 0 rfl) ?_
    refine lv_aload_n hx hb d_M_within_5 rfl (lv_at hl 2 rfl) ?_
    refine va_get (D := D) (ci := 7) (v := .int (2 : Int32)) (C := cn_M) (T := ft_M) (N := 19) hx hb hf_M (fun _ h => h) hown hK hP 0 rfl rfl 1 (by decide) (gw.at G hx0 mw_714 rfl _) (fun _ h9 => h9) rfl d_M_within_6 ?_
    refine lv_icmp_ge (tgt := 41) hx hb d_M_within_9 (by decide) (fun h99 => absurd h99 (by decide)) (fun _ => ?_)
    refine lv_iload_n hx hb d_M_within_12 rfl (lv_at hl 1 rfl) ?_
    refine lv_if_eq (tgt := 33) hx hb d_M_within_13 (by decide) (fun h99 => absurd h99 (by decide)) (fun _ => ?_)
    refine lv_aload_n hx hb d_M_within_16 rfl (lv_at hl 2 rfl) ?_
    refine va_get (D := D) (ci := 7) (v := .ref vt) (C := cn_M) (T := ft_M) (N := 19) hx hb hf_M (fun _ h => h) hown hK hP 0 rfl rfl 17 (by decide) (gw.at G hx0 mw_730 rfl _) (fun _ h9 => h9) rfl d_M_within_17 ?_
    refine lv_iload_n hx hb d_M_within_20 rfl (lv_at hl 0 rfl) ?_
    refine va_iald hx hb hK hP 1 0 rfl rfl (vp_in_iff.mpr (by decide)) d_M_within_21 ?_
    refine tp_i (y := vf 1) (by rfl) ?_
    refine lv_iload_n hx hb d_M_within_22 rfl (lv_at hl 3 rfl) ?_
    by_cases h_2 : inw r (vf 1) = true
    · refine cx_call (D := D) (cl := kl) (ws := _) (wc := []) (wr := [(m0, .inr (7, [.int th, .int (2 : Int32), .int (0 : Int32), .ref rw, .int (0 : Int32), .int (0 : Int32), .int (0 : Int32), .ref ry, .int (0 : Int32), .int (0 : Int32), .ref ti, .int (0 : Int32), .int (0 : Int32), .ref po, .ref su, .ref sq, .ref ch, .ref vt, .ref sh])), (vt, .inl (cI, 4, .inl vf))]) (tx_runS (As := [.int (vf 1), .int r]) (rest := []) hx hb hml hown (c_M_in_y E H.size (vf 1) r h_2) (cx_C (b0 := b0) G hx0 mw_790 mw_9 ny_M_in (by decide)) (gw.at G hx0 mw_788 rfl _) (gw.at G hx0 mw_789 rfl _) (gw.at G hx0 mw_9 rfl _) ⟨cx_blind, (cx_pre (s := s) hx0 hP hD hS hA0 [] rfl rfl (by decide))⟩ rfl rfl hl.1 rfl (lv_room (Nat.le_of_ble_eq_true rfl)) d_M_within_23 ⟨by decide, by decide⟩) hP hD hS hA [] [0, 1] rfl rfl (by decide) (by decide) (fun v t w1 H locs ht hW9 hp hP hD hS => ?_) (fun x t w1 H locs ht hW9 hp hP hD hS => by obtain ⟨h9, -⟩ := hp; cases h9)
      obtain ⟨h9, rfl⟩ := hp
      cases h9
      refine W.eq (g2 := F0 m 26 ls [.int (1 : Int32)]) rfl ?_
      refine W.widen (k := 0) (n := 0) (by decide) (by decide) ?_
      have hP : va_P D kl [(m0, .inr (7, [.int th, .int (2 : Int32), .int (0 : Int32), .ref rw, .int (0 : Int32), .int (0 : Int32), .int (0 : Int32), .ref ry, .int (0 : Int32), .int (0 : Int32), .ref ti, .int (0 : Int32), .int (0 : Int32), .ref po, .ref su, .ref sq, .ref ch, .ref vt, .ref sh])), (vt, .inl (cI, 4, .inl vf))] H := hP
      have hD : va_D A [(m0, .inr (7, [.int th, .int (2 : Int32), .int (0 : Int32), .ref rw, .int (0 : Int32), .int (0 : Int32), .int (0 : Int32), .ref ry, .int (0 : Int32), .int (0 : Int32), .ref ti, .int (0 : Int32), .int (0 : Int32), .ref po, .ref su, .ref sq, .ref ch, .ref vt, .ref sh])), (vt, .inl (cI, 4, .inl vf))] := hD
      refine lv_if_eq (tgt := 33) hx hb d_M_within_26 (by decide) (fun h99 => absurd h99 (by decide)) (fun _ => ?_)
      refine lv_iconst (v := (1 : Int32)) hx hb d_M_within_29 (by decide) ?_
      refine lv_goto (tgt := 34) hx hb d_M_within_30 (by decide) ?_
      refine lv_istore_n (lv' := [(2, .int (1 : Int32)), (3, .int (1 : Int32)), (0, .ref m0), (1, .int r)]) hx hb d_M_within_34 rfl hl (by decide) rfl (fun ls hl => ?_)
      refine lv_iinc (lv' := [(3, .int (2 : Int32)), (2, .int (1 : Int32)), (0, .ref m0), (1, .int r)]) (k := 1) (v := (2 : Int32)) hx hb d_M_within_35 hl rfl (by decide) (by decide) rfl (fun ls hl => ?_)
      refine lv_goto (tgt := 4) hx hb d_M_within_38 (by decide) ?_
      refine lv_iload_n hx hb d_M_within_4 rfl (lv_at hl 0 rfl) ?_
      refine lv_aload_n hx hb d_M_within_5 rfl (lv_at hl 2 rfl) ?_
      refine va_get (D := D) (ci := 7) (v := .int (2 : Int32)) (C := cn_M) (T := ft_M) (N := 19) hx hb hf_M (fun _ h => h) hown hK hP 0 rfl rfl 1 (by decide) (gw.at G hx0 mw_714 rfl _) (fun _ h9 => h9) rfl d_M_within_6 ?_
      refine lv_icmp_ge (tgt := 41) hx hb d_M_within_9 (by decide) (fun _ => ?_) (fun h99 => absurd h99 (by decide))
      refine lv_iload_n hx hb d_M_within_41 rfl (lv_at hl 1 rfl) ?_
      exact absurd ⟨h_1, h_2⟩ h
    · refine cx_call (D := D) (cl := kl) (ws := _) (wc := []) (wr := [(m0, .inr (7, [.int th, .int (2 : Int32), .int (0 : Int32), .ref rw, .int (0 : Int32), .int (0 : Int32), .int (0 : Int32), .ref ry, .int (0 : Int32), .int (0 : Int32), .ref ti, .int (0 : Int32), .int (0 : Int32), .ref po, .ref su, .ref sq, .ref ch, .ref vt, .ref sh])), (vt, .inl (cI, 4, .inl vf))]) (tx_runS (As := [.int (vf 1), .int r]) (rest := []) hx hb hml hown (c_M_in_n E H.size (vf 1) r h_2) (cx_C (b0 := b0) G hx0 mw_790 mw_9 ny_M_in (by decide)) (gw.at G hx0 mw_788 rfl _) (gw.at G hx0 mw_789 rfl _) (gw.at G hx0 mw_9 rfl _) ⟨cx_blind, (cx_pre (s := s) hx0 hP hD hS hA0 [] rfl rfl (by decide))⟩ rfl rfl hl.1 rfl (lv_room (Nat.le_of_ble_eq_true rfl)) d_M_within_23 ⟨by decide, by decide⟩) hP hD hS hA [] [0, 1] rfl rfl (by decide) (by decide) (fun v t w1 H locs ht hW9 hp hP hD hS => ?_) (fun x t w1 H locs ht hW9 hp hP hD hS => by obtain ⟨h9, -⟩ := hp; cases h9)
      obtain ⟨h9, rfl⟩ := hp
      cases h9
      refine W.eq (g2 := F0 m 26 ls [.int (0 : Int32)]) rfl ?_
      refine W.widen (k := 0) (n := 0) (by decide) (by decide) ?_
      have hP : va_P D kl [(m0, .inr (7, [.int th, .int (2 : Int32), .int (0 : Int32), .ref rw, .int (0 : Int32), .int (0 : Int32), .int (0 : Int32), .ref ry, .int (0 : Int32), .int (0 : Int32), .ref ti, .int (0 : Int32), .int (0 : Int32), .ref po, .ref su, .ref sq, .ref ch, .ref vt, .ref sh])), (vt, .inl (cI, 4, .inl vf))] H := hP
      have hD : va_D A [(m0, .inr (7, [.int th, .int (2 : Int32), .int (0 : Int32), .ref rw, .int (0 : Int32), .int (0 : Int32), .int (0 : Int32), .ref ry, .int (0 : Int32), .int (0 : Int32), .ref ti, .int (0 : Int32), .int (0 : Int32), .ref po, .ref su, .ref sq, .ref ch, .ref vt, .ref sh])), (vt, .inl (cI, 4, .inl vf))] := hD
      refine lv_if_eq (tgt := 33) hx hb d_M_within_26 (by decide) (fun _ => ?_) (fun h99 => absurd h99 (by decide))
      refine lv_iconst (v := (0 : Int32)) hx hb d_M_within_33 (by decide) ?_
      refine lv_istore_n (lv' := [(2, .int (0 : Int32)), (3, .int (1 : Int32)), (0, .ref m0), (1, .int r)]) hx hb d_M_within_34 rfl hl (by decide) rfl (fun ls hl => ?_)
      refine lv_iinc (lv' := [(3, .int (2 : Int32)), (2, .int (0 : Int32)), (0, .ref m0), (1, .int r)]) (k := 1) (v := (2 : Int32)) hx hb d_M_within_35 hl rfl (by decide) (by decide) rfl (fun ls hl => ?_)
      refine lv_goto (tgt := 4) hx hb d_M_within_38 (by decide) ?_
      refine lv_iload_n hx hb d_M_within_4 rfl (lv_at hl 0 rfl) ?_
      refine lv_aload_n hx hb d_M_within_5 rfl (lv_at hl 2 rfl) ?_
      refine va_get (D := D) (ci := 7) (v := .int (2 : Int32)) (C := cn_M) (T := ft_M) (N := 19) hx hb hf_M (fun _ h => h) hown hK hP 0 rfl rfl 1 (by decide) (gw.at G hx0 mw_714 rfl _) (fun _ h9 => h9) rfl d_M_within_6 ?_
      refine lv_icmp_ge (tgt := 41) hx hb d_M_within_9 (by decide) (fun _ => ?_) (fun h99 => absurd h99 (by decide))
      refine lv_iload_n hx hb d_M_within_41 rfl (lv_at hl 1 rfl) ?_
      exact tx_mono (fun _ h => tx_Z.of h) (W.zret (v := (0 : Int32)) hx hb hr (by decide) (fun t ht hW => ⟨⟨[(m0, .inr (7, [.int th, .int (2 : Int32), .int (0 : Int32), .ref rw, .int (0 : Int32), .int (0 : Int32), .int (0 : Int32), .ref ry, .int (0 : Int32), .int (0 : Int32), .ref ti, .int (0 : Int32), .int (0 : Int32), .ref po, .ref su, .ref sq, .ref ch, .ref vt, .ref sh])), (vt, .inl (cI, 4, .inl vf))], ⟨rfl, rfl⟩, by rw [ht]; exact hP.sub [0, 1] rfl, hD.sub [0, 1] (by decide) rfl⟩, hS.F ht⟩) hS.2.2 d_M_within_42)
  · refine cx_call (D := D) (cl := kl) (ws := _) (wc := []) (wr := [(m0, .inr (7, [.int th, .int (2 : Int32), .int (0 : Int32), .ref rw, .int (0 : Int32), .int (0 : Int32), .int (0 : Int32), .ref ry, .int (0 : Int32), .int (0 : Int32), .ref ti, .int (0 : Int32), .int (0 : Int32), .ref po, .ref su, .ref sq, .ref ch, .ref vt, .ref sh])), (vt, .inl (cI, 4, .inl vf))]) (tx_runS (As := [.int (vf 0), .int r]) (rest := []) hx hb hml hown (c_M_in_n E s.heap.size (vf 0) r h_1) (cx_C (b0 := b0) G hx0 mw_790 mw_9 ny_M_in (by decide)) (gw.at G hx0 mw_788 rfl _) (gw.at G hx0 mw_789 rfl _) (gw.at G hx0 mw_9 rfl _) ⟨cx_blind, (cx_pre (s := s) hx0 hP hD hS hA0 [] rfl rfl (by decide))⟩ rfl rfl hl.1 rfl (lv_room (Nat.le_of_ble_eq_true rfl)) d_M_within_23 ⟨by decide, by decide⟩) hP hD hS hA [] [0, 1] rfl rfl (by decide) (by decide) (fun v t w1 H locs ht hW9 hp hP hD hS => ?_) (fun x t w1 H locs ht hW9 hp hP hD hS => by obtain ⟨h9, -⟩ := hp; cases h9)
    obtain ⟨h9, rfl⟩ := hp
    cases h9
    refine W.eq (g2 := F0 m 26 ls [.int (0 : Int32)]) rfl ?_
    refine W.widen (k := 0) (n := 0) (by decide) (by decide) ?_
    have hP : va_P D kl [(m0, .inr (7, [.int th, .int (2 : Int32), .int (0 : Int32), .ref rw, .int (0 : Int32), .int (0 : Int32), .int (0 : Int32), .ref ry, .int (0 : Int32), .int (0 : Int32), .ref ti, .int (0 : Int32), .int (0 : Int32), .ref po, .ref su, .ref sq, .ref ch, .ref vt, .ref sh])), (vt, .inl (cI, 4, .inl vf))] H := hP
    have hD : va_D A [(m0, .inr (7, [.int th, .int (2 : Int32), .int (0 : Int32), .ref rw, .int (0 : Int32), .int (0 : Int32), .int (0 : Int32), .ref ry, .int (0 : Int32), .int (0 : Int32), .ref ti, .int (0 : Int32), .int (0 : Int32), .ref po, .ref su, .ref sq, .ref ch, .ref vt, .ref sh])), (vt, .inl (cI, 4, .inl vf))] := hD
    refine lv_if_eq (tgt := 33) hx hb d_M_within_26 (by decide) (fun _ => ?_) (fun h99 => absurd h99 (by decide))
    refine lv_iconst (v := (0 : Int32)) hx hb d_M_within_33 (by decide) ?_
    refine lv_istore_n (lv' := [(2, .int (0 : Int32)), (3, .int (0 : Int32)), (0, .ref m0), (1, .int r)]) hx hb d_M_within_34 rfl hl (by decide) rfl (fun ls hl => ?_)
    refine lv_iinc (lv' := [(3, .int (1 : Int32)), (2, .int (0 : Int32)), (0, .ref m0), (1, .int r)]) (k := 1) (v := (1 : Int32)) hx hb d_M_within_35 hl rfl (by decide) (by decide) rfl (fun ls hl => ?_)
    refine lv_goto (tgt := 4) hx hb d_M_within_38 (by decide) ?_
    refine lv_iload_n hx hb d_M_within_4 rfl (lv_at hl 0 rfl) ?_
    refine lv_aload_n hx hb d_M_within_5 rfl (lv_at hl 2 rfl) ?_
    refine va_get (D := D) (ci := 7) (v := .int (2 : Int32)) (C := cn_M) (T := ft_M) (N := 19) hx hb hf_M (fun _ h => h) hown hK hP 0 rfl rfl 1 (by decide) (gw.at G hx0 mw_714 rfl _) (fun _ h9 => h9) rfl d_M_within_6 ?_
    refine lv_icmp_ge (tgt := 41) hx hb d_M_within_9 (by decide) (fun h99 => absurd h99 (by decide)) (fun _ => ?_)
    refine lv_iload_n hx hb d_M_within_12 rfl (lv_at hl 1 rfl) ?_
    refine lv_if_eq (tgt := 33) hx hb d_M_within_13 (by decide) (fun _ => ?_) (fun h99 => absurd h99 (by decide))
    refine lv_iconst (v := (0 : Int32)) hx hb d_M_within_33 (by decide) ?_
    refine lv_istore_n (lv' := [(2, .int (0 : Int32)), (3, .int (1 : Int32)), (0, .ref m0), (1, .int r)]) hx hb d_M_within_34 rfl hl (by decide) rfl (fun ls hl => ?_)
    refine lv_iinc (lv' := [(3, .int (2 : Int32)), (2, .int (0 : Int32)), (0, .ref m0), (1, .int r)]) (k := 1) (v := (2 : Int32)) hx hb d_M_within_35 hl rfl (by decide) (by decide) rfl (fun ls hl => ?_)
    refine lv_goto (tgt := 4) hx hb d_M_within_38 (by decide) ?_
    refine lv_iload_n hx hb d_M_within_4 rfl (lv_at hl 0 rfl) ?_
    refine lv_aload_n hx hb d_M_within_5 rfl (lv_at hl 2 rfl) ?_
    refine va_get (D := D) (ci := 7) (v := .int (2 : Int32)) (C := cn_M) (T := ft_M) (N := 19) hx hb hf_M (fun _ h => h) hown hK hP 0 rfl rfl 1 (by decide) (gw.at G hx0 mw_714 rfl _) (fun _ h9 => h9) rfl d_M_within_6 ?_
    refine lv_icmp_ge (tgt := 41) hx hb d_M_within_9 (by decide) (fun _ => ?_) (fun h99 => absurd h99 (by decide))
    refine lv_iload_n hx hb d_M_within_41 rfl (lv_at hl 1 rfl) ?_
    exact tx_mono (fun _ h => tx_Z.of h) (W.zret (v := (0 : Int32)) hx hb hr (by decide) (fun t ht hW => ⟨⟨[(m0, .inr (7, [.int th, .int (2 : Int32), .int (0 : Int32), .ref rw, .int (0 : Int32), .int (0 : Int32), .int (0 : Int32), .ref ry, .int (0 : Int32), .int (0 : Int32), .ref ti, .int (0 : Int32), .int (0 : Int32), .ref po, .ref su, .ref sq, .ref ch, .ref vt, .ref sh])), (vt, .inl (cI, 4, .inl vf))], ⟨rfl, rfl⟩, by rw [ht]; exact hP.sub [0, 1] rfl, hD.sub [0, 1] (by decide) rfl⟩, hS.F ht⟩) hS.2.2 d_M_within_42)

set_option maxHeartbeats 4000000 in
set_option maxRecDepth 100000 in
theorem c_M_nothing_y {l : Launch} {s0 : State} {b0 : Addr} {D : va_G} {cI cJ cZ : ClassId} {tC tS : Nat} (E : gE l s0 b0 D cI cJ cZ tC tS) (sz : Nat) (m0 : Nat) (rw : Nat) (ry : Nat) (ti : Nat) (po : Nat) (su : Nat) (sq : Nat) (ch : Nat) (vt : Nat) (sh : Nat) (th : Int32) (f1 : Int32) (vf : Nat → Int32) (h : all4 (vf 0) (vf 1) (vf 2) (vf 3)) : cx_M l s0 D kl y_M_nothing b_M_nothing 1 (some .boolean) ({ frames := 0, cells := 0, slots := 0, locals := 0 } : Room) 0 0 [.ref m0] [(m0, .inr (7, [.int th, .int f1, .int (0 : Int32), .ref rw, .int (0 : Int32), .int (0 : Int32), .int (0 : Int32), .ref ry, .int (0 : Int32), .int (0 : Int32), .ref ti, .int (0 : Int32), .int (0 : Int32), .ref po, .ref su, .ref sq, .ref ch, .ref vt, .ref sh])), (vt, .inl (cI, 4, .inl vf))] sz (fun o9 _ w9 => o9 = .returned (some (.int (1 : Int32))) ∧ w9 = [(m0, .inr (7, [.int th, .int f1, .int (0 : Int32), .ref rw, .int (0 : Int32), .int (0 : Int32), .int (0 : Int32), .ref ry, .int (0 : Int32), .int (0 : Int32), .ref ti, .int (0 : Int32), .int (0 : Int32), .ref po, .ref su, .ref sq, .ref ch, .ref vt, .ref sh])), (vt, .inl (cI, 4, .inl vf))]) := by
  refine tx_ofW (cc := b_M_nothing) (maxL := 1) (ret := (some .boolean)) (by decide) rfl ?_
  intro p e s m args below meth c s₁ B hml hT hv
  obtain ⟨rfl, hsz, hP, hD0, hx0⟩ := hv
  have hx := B.exec
  have hb := B.bytes
  have hr := B.returns
  have G := E.2.1
  have hown : s.vm.findClass cn_M = some m.cls := findClass_of_methodNamed B.named
  have hlocks := B.notSynchronized
  have hK := va_K.moved hx0.1.alike E.2.2.1
  have hf_M : ∀ w99 ∈ u_ws cn_M ft_M 19, w99.before ([.ref m0] : List Value).toArray s = true := fun w99 h99 => gw.at G hx0 (fw_M w99 h99) (fo_M w99 h99) _
  subst hsz
  have hA0 := cx_new hD0 hx0.2.1
  have hD := hD0.self (sz := s.heap.size)
  generalize hAe : va_A [(m0, .inr (7, [.int th, .int f1, .int (0 : Int32), .ref rw, .int (0 : Int32), .int (0 : Int32), .int (0 : Int32), .ref ry, .int (0 : Int32), .int (0 : Int32), .ref ti, .int (0 : Int32), .int (0 : Int32), .ref po, .ref su, .ref sq, .ref ch, .ref vt, .ref sh])), (vt, .inl (cI, 4, .inl vf))] s.heap.size = A at hD hA0 ⊢
  have hA : ∀ q : Nat, s.heap.size ≤ q → A q := fun q h => by rw [← hAe]; exact Or.inr h
  have hS : va_S A s.heap s.heap [] := va_S.rf
  have hl := lv_entry ([.ref m0]) (n := 1) (Nat.le_of_ble_eq_true rfl)
  rw [lg_entry_eq]
  generalize (lg_sl ([.ref m0]) ++ List.replicate (1 - (lg_sl ([.ref m0])).length) Slot.unset).toArray = ls at hl ⊢
  have hl : lv_has ls 1 [(0, .ref m0)] := hl
  have hP : va_P D kl [(m0, .inr (7, [.int th, .int f1, .int (0 : Int32), .ref rw, .int (0 : Int32), .int (0 : Int32), .int (0 : Int32), .ref ry, .int (0 : Int32), .int (0 : Int32), .ref ti, .int (0 : Int32), .int (0 : Int32), .ref po, .ref su, .ref sq, .ref ch, .ref vt, .ref sh])), (vt, .inl (cI, 4, .inl vf))] s.heap := hP
  have hml : c.maxLocals = 1 := hml
  refine lv_aload_n hx hb d_M_nothing_0 rfl (lv_at hl 0 rfl) ?_
  refine va_get (D := D) (ci := 7) (v := .ref vt) (C := cn_M) (T := ft_M) (N := 19) hx hb hf_M (fun _ h => h) hown hK hP 0 rfl rfl 17 (by decide) (gw.at G hx0 mw_730 rfl _) (fun _ h9 => h9) rfl d_M_nothing_1 ?_
  refine lv_iconst (v := (0 : Int32)) hx hb d_M_nothing_4 (by decide) ?_
  refine va_iald hx hb hK hP 1 0 rfl rfl (vp_in_iff.mpr (by decide)) d_M_nothing_5 ?_
  refine tp_i (y := vf 0) (by rfl) ?_
  refine lv_if_ne (tgt := 40) hx hb d_M_nothing_6 (by decide) (fun h99 => absurd h99 (not_not_intro h.1)) (fun _ => ?_)
  refine lv_aload_n hx hb d_M_nothing_9 rfl (lv_at hl 0 rfl) ?_
  refine va_get (D := D) (ci := 7) (v := .ref vt) (C := cn_M) (T := ft_M) (N := 19) hx hb hf_M (fun _ h => h) hown hK hP 0 rfl rfl 17 (by decide) (gw.at G hx0 mw_730 rfl _) (fun _ h9 => h9) rfl d_M_nothing_10 ?_
  refine lv_iconst (v := (1 : Int32)) hx hb d_M_nothing_13 (by decide) ?_
  refine va_iald hx hb hK hP 1 0 rfl rfl (vp_in_iff.mpr (by decide)) d_M_nothing_14 ?_
  refine tp_i (y := vf 1) (by rfl) ?_
  refine lv_if_ne (tgt := 40) hx hb d_M_nothing_15 (by decide) (fun h99 => absurd h99 (not_not_intro h.2.1)) (fun _ => ?_)
  refine lv_aload_n hx hb d_M_nothing_18 rfl (lv_at hl 0 rfl) ?_
  refine va_get (D := D) (ci := 7) (v := .ref vt) (C := cn_M) (T := ft_M) (N := 19) hx hb hf_M (fun _ h => h) hown hK hP 0 rfl rfl 17 (by decide) (gw.at G hx0 mw_730 rfl _) (fun _ h9 => h9) rfl d_M_nothing_19 ?_
  refine lv_iconst (v := (2 : Int32)) hx hb d_M_nothing_22 (by decide) ?_
  refine va_iald hx hb hK hP 1 0 rfl rfl (vp_in_iff.mpr (by decide)) d_M_nothing_23 ?_
  refine tp_i (y := vf 2) (by rfl) ?_
  refine lv_if_ne (tgt := 40) hx hb d_M_nothing_24 (by decide) (fun h99 => absurd h99 (not_not_intro h.2.2.1)) (fun _ => ?_)
  refine lv_aload_n hx hb d_M_nothing_27 rfl (lv_at hl 0 rfl) ?_
  refine va_get (D := D) (ci := 7) (v := .ref vt) (C := cn_M) (T := ft_M) (N := 19) hx hb hf_M (fun _ h => h) hown hK hP 0 rfl rfl 17 (by decide) (gw.at G hx0 mw_730 rfl _) (fun _ h9 => h9) rfl d_M_nothing_28 ?_
  refine lv_iconst (v := (3 : Int32)) hx hb d_M_nothing_31 (by decide) ?_
  refine va_iald hx hb hK hP 1 0 rfl rfl (vp_in_iff.mpr (by decide)) d_M_nothing_32 ?_
  refine tp_i (y := vf 3) (by rfl) ?_
  refine lv_if_ne (tgt := 40) hx hb d_M_nothing_33 (by decide) (fun h99 => absurd h99 (not_not_intro h.2.2.2)) (fun _ => ?_)
  refine lv_iconst (v := (1 : Int32)) hx hb d_M_nothing_36 (by decide) ?_
  refine lv_goto (tgt := 41) hx hb d_M_nothing_37 (by decide) ?_
  exact tx_mono (fun _ h => tx_Z.of h) (W.zret (v := (1 : Int32)) hx hb hr (by decide) (fun t ht hW => ⟨⟨[(m0, .inr (7, [.int th, .int f1, .int (0 : Int32), .ref rw, .int (0 : Int32), .int (0 : Int32), .int (0 : Int32), .ref ry, .int (0 : Int32), .int (0 : Int32), .ref ti, .int (0 : Int32), .int (0 : Int32), .ref po, .ref su, .ref sq, .ref ch, .ref vt, .ref sh])), (vt, .inl (cI, 4, .inl vf))], ⟨rfl, rfl⟩, by rw [ht]; exact hP.sub [0, 1] rfl, hD.sub [0, 1] (by decide) rfl⟩, hS.F ht⟩) hS.2.2 d_M_nothing_41)

set_option maxHeartbeats 4000000 in
set_option maxRecDepth 100000 in
theorem c_M_nothing_n {l : Launch} {s0 : State} {b0 : Addr} {D : va_G} {cI cJ cZ : ClassId} {tC tS : Nat} (E : gE l s0 b0 D cI cJ cZ tC tS) (sz : Nat) (m0 : Nat) (rw : Nat) (ry : Nat) (ti : Nat) (po : Nat) (su : Nat) (sq : Nat) (ch : Nat) (vt : Nat) (sh : Nat) (th : Int32) (f1 : Int32) (vf : Nat → Int32) (h : ¬ all4 (vf 0) (vf 1) (vf 2) (vf 3)) : cx_M l s0 D kl y_M_nothing b_M_nothing 1 (some .boolean) ({ frames := 0, cells := 0, slots := 0, locals := 0 } : Room) 0 0 [.ref m0] [(m0, .inr (7, [.int th, .int f1, .int (0 : Int32), .ref rw, .int (0 : Int32), .int (0 : Int32), .int (0 : Int32), .ref ry, .int (0 : Int32), .int (0 : Int32), .ref ti, .int (0 : Int32), .int (0 : Int32), .ref po, .ref su, .ref sq, .ref ch, .ref vt, .ref sh])), (vt, .inl (cI, 4, .inl vf))] sz (fun o9 _ w9 => o9 = .returned (some (.int (0 : Int32))) ∧ w9 = [(m0, .inr (7, [.int th, .int f1, .int (0 : Int32), .ref rw, .int (0 : Int32), .int (0 : Int32), .int (0 : Int32), .ref ry, .int (0 : Int32), .int (0 : Int32), .ref ti, .int (0 : Int32), .int (0 : Int32), .ref po, .ref su, .ref sq, .ref ch, .ref vt, .ref sh])), (vt, .inl (cI, 4, .inl vf))]) := by
  refine tx_ofW (cc := b_M_nothing) (maxL := 1) (ret := (some .boolean)) (by decide) rfl ?_
  intro p e s m args below meth c s₁ B hml hT hv
  obtain ⟨rfl, hsz, hP, hD0, hx0⟩ := hv
  have hx := B.exec
  have hb := B.bytes
  have hr := B.returns
  have G := E.2.1
  have hown : s.vm.findClass cn_M = some m.cls := findClass_of_methodNamed B.named
  have hlocks := B.notSynchronized
  have hK := va_K.moved hx0.1.alike E.2.2.1
  have hf_M : ∀ w99 ∈ u_ws cn_M ft_M 19, w99.before ([.ref m0] : List Value).toArray s = true := fun w99 h99 => gw.at G hx0 (fw_M w99 h99) (fo_M w99 h99) _
  subst hsz
  have hA0 := cx_new hD0 hx0.2.1
  have hD := hD0.self (sz := s.heap.size)
  generalize hAe : va_A [(m0, .inr (7, [.int th, .int f1, .int (0 : Int32), .ref rw, .int (0 : Int32), .int (0 : Int32), .int (0 : Int32), .ref ry, .int (0 : Int32), .int (0 : Int32), .ref ti, .int (0 : Int32), .int (0 : Int32), .ref po, .ref su, .ref sq, .ref ch, .ref vt, .ref sh])), (vt, .inl (cI, 4, .inl vf))] s.heap.size = A at hD hA0 ⊢
  have hA : ∀ q : Nat, s.heap.size ≤ q → A q := fun q h => by rw [← hAe]; exact Or.inr h
  have hS : va_S A s.heap s.heap [] := va_S.rf
  have hl := lv_entry ([.ref m0]) (n := 1) (Nat.le_of_ble_eq_true rfl)
  rw [lg_entry_eq]
  generalize (lg_sl ([.ref m0]) ++ List.replicate (1 - (lg_sl ([.ref m0])).length) Slot.unset).toArray = ls at hl ⊢
  have hl : lv_has ls 1 [(0, .ref m0)] := hl
  have hP : va_P D kl [(m0, .inr (7, [.int th, .int f1, .int (0 : Int32), .ref rw, .int (0 : Int32), .int (0 : Int32), .int (0 : Int32), .ref ry, .int (0 : Int32), .int (0 : Int32), .ref ti, .int (0 : Int32), .int (0 : Int32), .ref po, .ref su, .ref sq, .ref ch, .ref vt, .ref sh])), (vt, .inl (cI, 4, .inl vf))] s.heap := hP
  have hml : c.maxLocals = 1 := hml
  refine lv_aload_n hx hb d_M_nothing_0 rfl (lv_at hl 0 rfl) ?_
  refine va_get (D := D) (ci := 7) (v := .ref vt) (C := cn_M) (T := ft_M) (N := 19) hx hb hf_M (fun _ h => h) hown hK hP 0 rfl rfl 17 (by decide) (gw.at G hx0 mw_730 rfl _) (fun _ h9 => h9) rfl d_M_nothing_1 ?_
  refine lv_iconst (v := (0 : Int32)) hx hb d_M_nothing_4 (by decide) ?_
  refine va_iald hx hb hK hP 1 0 rfl rfl (vp_in_iff.mpr (by decide)) d_M_nothing_5 ?_
  refine tp_i (y := vf 0) (by rfl) ?_
  refine lv_if_ne (tgt := 40) hx hb d_M_nothing_6 (by decide) (fun h_1 => ?_) (fun h_1 => ?_)
  · refine lv_iconst (v := (0 : Int32)) hx hb d_M_nothing_40 (by decide) ?_
    exact tx_mono (fun _ h => tx_Z.of h) (W.zret (v := (0 : Int32)) hx hb hr (by decide) (fun t ht hW => ⟨⟨[(m0, .inr (7, [.int th, .int f1, .int (0 : Int32), .ref rw, .int (0 : Int32), .int (0 : Int32), .int (0 : Int32), .ref ry, .int (0 : Int32), .int (0 : Int32), .ref ti, .int (0 : Int32), .int (0 : Int32), .ref po, .ref su, .ref sq, .ref ch, .ref vt, .ref sh])), (vt, .inl (cI, 4, .inl vf))], ⟨rfl, rfl⟩, by rw [ht]; exact hP.sub [0, 1] rfl, hD.sub [0, 1] (by decide) rfl⟩, hS.F ht⟩) hS.2.2 d_M_nothing_41)
  · refine lv_aload_n hx hb d_M_nothing_9 rfl (lv_at hl 0 rfl) ?_
    refine va_get (D := D) (ci := 7) (v := .ref vt) (C := cn_M) (T := ft_M) (N := 19) hx hb hf_M (fun _ h => h) hown hK hP 0 rfl rfl 17 (by decide) (gw.at G hx0 mw_730 rfl _) (fun _ h9 => h9) rfl d_M_nothing_10 ?_
    refine lv_iconst (v := (1 : Int32)) hx hb d_M_nothing_13 (by decide) ?_
    refine va_iald hx hb hK hP 1 0 rfl rfl (vp_in_iff.mpr (by decide)) d_M_nothing_14 ?_
    refine tp_i (y := vf 1) (by rfl) ?_
    refine lv_if_ne (tgt := 40) hx hb d_M_nothing_15 (by decide) (fun h_2 => ?_) (fun h_2 => ?_)
    · refine lv_iconst (v := (0 : Int32)) hx hb d_M_nothing_40 (by decide) ?_
      exact tx_mono (fun _ h => tx_Z.of h) (W.zret (v := (0 : Int32)) hx hb hr (by decide) (fun t ht hW => ⟨⟨[(m0, .inr (7, [.int th, .int f1, .int (0 : Int32), .ref rw, .int (0 : Int32), .int (0 : Int32), .int (0 : Int32), .ref ry, .int (0 : Int32), .int (0 : Int32), .ref ti, .int (0 : Int32), .int (0 : Int32), .ref po, .ref su, .ref sq, .ref ch, .ref vt, .ref sh])), (vt, .inl (cI, 4, .inl vf))], ⟨rfl, rfl⟩, by rw [ht]; exact hP.sub [0, 1] rfl, hD.sub [0, 1] (by decide) rfl⟩, hS.F ht⟩) hS.2.2 d_M_nothing_41)
    · refine lv_aload_n hx hb d_M_nothing_18 rfl (lv_at hl 0 rfl) ?_
      refine va_get (D := D) (ci := 7) (v := .ref vt) (C := cn_M) (T := ft_M) (N := 19) hx hb hf_M (fun _ h => h) hown hK hP 0 rfl rfl 17 (by decide) (gw.at G hx0 mw_730 rfl _) (fun _ h9 => h9) rfl d_M_nothing_19 ?_
      refine lv_iconst (v := (2 : Int32)) hx hb d_M_nothing_22 (by decide) ?_
      refine va_iald hx hb hK hP 1 0 rfl rfl (vp_in_iff.mpr (by decide)) d_M_nothing_23 ?_
      refine tp_i (y := vf 2) (by rfl) ?_
      refine lv_if_ne (tgt := 40) hx hb d_M_nothing_24 (by decide) (fun h_3 => ?_) (fun h_3 => ?_)
      · refine lv_iconst (v := (0 : Int32)) hx hb d_M_nothing_40 (by decide) ?_
        exact tx_mono (fun _ h => tx_Z.of h) (W.zret (v := (0 : Int32)) hx hb hr (by decide) (fun t ht hW => ⟨⟨[(m0, .inr (7, [.int th, .int f1, .int (0 : Int32), .ref rw, .int (0 : Int32), .int (0 : Int32), .int (0 : Int32), .ref ry, .int (0 : Int32), .int (0 : Int32), .ref ti, .int (0 : Int32), .int (0 : Int32), .ref po, .ref su, .ref sq, .ref ch, .ref vt, .ref sh])), (vt, .inl (cI, 4, .inl vf))], ⟨rfl, rfl⟩, by rw [ht]; exact hP.sub [0, 1] rfl, hD.sub [0, 1] (by decide) rfl⟩, hS.F ht⟩) hS.2.2 d_M_nothing_41)
      · refine lv_aload_n hx hb d_M_nothing_27 rfl (lv_at hl 0 rfl) ?_
        refine va_get (D := D) (ci := 7) (v := .ref vt) (C := cn_M) (T := ft_M) (N := 19) hx hb hf_M (fun _ h => h) hown hK hP 0 rfl rfl 17 (by decide) (gw.at G hx0 mw_730 rfl _) (fun _ h9 => h9) rfl d_M_nothing_28 ?_
        refine lv_iconst (v := (3 : Int32)) hx hb d_M_nothing_31 (by decide) ?_
        refine va_iald hx hb hK hP 1 0 rfl rfl (vp_in_iff.mpr (by decide)) d_M_nothing_32 ?_
        refine tp_i (y := vf 3) (by rfl) ?_
        refine lv_if_ne (tgt := 40) hx hb d_M_nothing_33 (by decide) (fun h_4 => ?_) (fun h_4 => ?_)
        · refine lv_iconst (v := (0 : Int32)) hx hb d_M_nothing_40 (by decide) ?_
          exact tx_mono (fun _ h => tx_Z.of h) (W.zret (v := (0 : Int32)) hx hb hr (by decide) (fun t ht hW => ⟨⟨[(m0, .inr (7, [.int th, .int f1, .int (0 : Int32), .ref rw, .int (0 : Int32), .int (0 : Int32), .int (0 : Int32), .ref ry, .int (0 : Int32), .int (0 : Int32), .ref ti, .int (0 : Int32), .int (0 : Int32), .ref po, .ref su, .ref sq, .ref ch, .ref vt, .ref sh])), (vt, .inl (cI, 4, .inl vf))], ⟨rfl, rfl⟩, by rw [ht]; exact hP.sub [0, 1] rfl, hD.sub [0, 1] (by decide) rfl⟩, hS.F ht⟩) hS.2.2 d_M_nothing_41)
        · refine lv_iconst (v := (1 : Int32)) hx hb d_M_nothing_36 (by decide) ?_
          refine lv_goto (tgt := 41) hx hb d_M_nothing_37 (by decide) ?_
          exact absurd ⟨h_1, h_2, h_3, h_4⟩ h

set_option maxHeartbeats 4000000 in
set_option maxRecDepth 100000 in
theorem c_M_set3 {l : Launch} {s0 : State} {b0 : Addr} {D : va_G} {cI cJ cZ : ClassId} {tC tS : Nat} (E : gE l s0 b0 D cI cJ cZ tC tS) (sz : Nat) (m0 : Nat) (rw : Nat) (ry : Nat) (ti : Nat) (po : Nat) (su : Nat) (sq : Nat) (ch : Nat) (vt : Nat) (sh : Nat) (th : Int32) (a : Int32) (b : Int32) (c2 : Int32) (d2 : Int32) (vf : Nat → Int32) : cx_M l s0 D kl y_M_set b_M_set 5 none ({ frames := 0, cells := 0, slots := 0, locals := 0 } : Room) 0 0 [.ref m0, .int a, .int b, .int c2, .int d2] [(m0, .inr (7, [.int th, .int (3 : Int32), .int (0 : Int32), .ref rw, .int (0 : Int32), .int (0 : Int32), .int (0 : Int32), .ref ry, .int (0 : Int32), .int (0 : Int32), .ref ti, .int (0 : Int32), .int (0 : Int32), .ref po, .ref su, .ref sq, .ref ch, .ref vt, .ref sh])), (vt, .inl (cI, 4, .inl vf))] sz (fun o9 _ w9 => o9 = .returned none ∧ w9 = [(m0, .inr (7, [.int th, .int (3 : Int32), .int (0 : Int32), .ref rw, .int (0 : Int32), .int (0 : Int32), .int (0 : Int32), .ref ry, .int (0 : Int32), .int (0 : Int32), .ref ti, .int (0 : Int32), .int (0 : Int32), .ref po, .ref su, .ref sq, .ref ch, .ref vt, .ref sh])), (vt, .inl (cI, 4, .inl (upd (upd (upd (upd vf 0 a) 1 b) 2 c2) 3 (0 : Int32))))]) := by
  refine tx_ofW (cc := b_M_set) (maxL := 5) (ret := none) (by decide) rfl ?_
  intro p e s m args below meth c s₁ B hml hT hv
  obtain ⟨rfl, hsz, hP, hD0, hx0⟩ := hv
  have hx := B.exec
  have hb := B.bytes
  have hr := B.returns
  have G := E.2.1
  have hown : s.vm.findClass cn_M = some m.cls := findClass_of_methodNamed B.named
  have hlocks := B.notSynchronized
  have hK := va_K.moved hx0.1.alike E.2.2.1
  have hf_M : ∀ w99 ∈ u_ws cn_M ft_M 19, w99.before ([.ref m0, .int a, .int b, .int c2, .int d2] : List Value).toArray s = true := fun w99 h99 => gw.at G hx0 (fw_M w99 h99) (fo_M w99 h99) _
  subst hsz
  have hA0 := cx_new hD0 hx0.2.1
  have hD := hD0.self (sz := s.heap.size)
  generalize hAe : va_A [(m0, .inr (7, [.int th, .int (3 : Int32), .int (0 : Int32), .ref rw, .int (0 : Int32), .int (0 : Int32), .int (0 : Int32), .ref ry, .int (0 : Int32), .int (0 : Int32), .ref ti, .int (0 : Int32), .int (0 : Int32), .ref po, .ref su, .ref sq, .ref ch, .ref vt, .ref sh])), (vt, .inl (cI, 4, .inl vf))] s.heap.size = A at hD hA0 ⊢
  have hA : ∀ q : Nat, s.heap.size ≤ q → A q := fun q h => by rw [← hAe]; exact Or.inr h
  have hS : va_S A s.heap s.heap [] := va_S.rf
  have hl := lv_entry ([.ref m0, .int a, .int b, .int c2, .int d2]) (n := 5) (Nat.le_of_ble_eq_true rfl)
  rw [lg_entry_eq]
  generalize (lg_sl ([.ref m0, .int a, .int b, .int c2, .int d2]) ++ List.replicate (5 - (lg_sl ([.ref m0, .int a, .int b, .int c2, .int d2])).length) Slot.unset).toArray = ls at hl ⊢
  have hl : lv_has ls 5 [(0, .ref m0), (1, .int a), (2, .int b), (3, .int c2), (4, .int d2)] := hl
  have hP : va_P D kl [(m0, .inr (7, [.int th, .int (3 : Int32), .int (0 : Int32), .ref rw, .int (0 : Int32), .int (0 : Int32), .int (0 : Int32), .ref ry, .int (0 : Int32), .int (0 : Int32), .ref ti, .int (0 : Int32), .int (0 : Int32), .ref po, .ref su, .ref sq, .ref ch, .ref vt, .ref sh])), (vt, .inl (cI, 4, .inl vf))] s.heap := hP
  have hml : c.maxLocals = 5 := hml
  refine lv_aload_n hx hb d_M_set_0 rfl (lv_at hl 0 rfl) ?_
  refine va_get (D := D) (ci := 7) (v := .ref vt) (C := cn_M) (T := ft_M) (N := 19) hx hb hf_M (fun _ h => h) hown hK hP 0 rfl rfl 17 (by decide) (gw.at G hx0 mw_730 rfl _) (fun _ h9 => h9) rfl d_M_set_1 ?_
  refine lv_iconst (v := (0 : Int32)) hx hb d_M_set_4 (by decide) ?_
  refine lv_iload_n hx hb d_M_set_5 rfl (lv_at hl 1 rfl) ?_
  refine va_iast hx hb hK hP hD hS 1 0 rfl rfl (vp_in_iff.mpr (by decide)) d_M_set_6 (fun H locs hP hD hS => ?_)
  have hP : va_P D kl [(m0, .inr (7, [.int th, .int (3 : Int32), .int (0 : Int32), .ref rw, .int (0 : Int32), .int (0 : Int32), .int (0 : Int32), .ref ry, .int (0 : Int32), .int (0 : Int32), .ref ti, .int (0 : Int32), .int (0 : Int32), .ref po, .ref su, .ref sq, .ref ch, .ref vt, .ref sh])), (vt, .inl (cI, 4, .inl (upd vf 0 a)))] H := hP
  have hD : va_D A [(m0, .inr (7, [.int th, .int (3 : Int32), .int (0 : Int32), .ref rw, .int (0 : Int32), .int (0 : Int32), .int (0 : Int32), .ref ry, .int (0 : Int32), .int (0 : Int32), .ref ti, .int (0 : Int32), .int (0 : Int32), .ref po, .ref su, .ref sq, .ref ch, .ref vt, .ref sh])), (vt, .inl (cI, 4, .inl (upd vf 0 a)))] := hD
  refine lv_aload_n hx hb d_M_set_7 rfl (lv_at hl 0 rfl) ?_
  refine va_get (D := D) (ci := 7) (v := .ref vt) (C := cn_M) (T := ft_M) (N := 19) hx hb hf_M (fun _ h => h) hown hK hP 0 rfl rfl 17 (by decide) (gw.at G hx0 mw_730 rfl _) (fun _ h9 => h9) rfl d_M_set_8 ?_
  refine lv_iconst (v := (1 : Int32)) hx hb d_M_set_11 (by decide) ?_
  refine lv_iload_n hx hb d_M_set_12 rfl (lv_at hl 2 rfl) ?_
  refine va_iast hx hb hK hP hD hS 1 0 rfl rfl (vp_in_iff.mpr (by decide)) d_M_set_13 (fun H locs hP hD hS => ?_)
  have hP : va_P D kl [(m0, .inr (7, [.int th, .int (3 : Int32), .int (0 : Int32), .ref rw, .int (0 : Int32), .int (0 : Int32), .int (0 : Int32), .ref ry, .int (0 : Int32), .int (0 : Int32), .ref ti, .int (0 : Int32), .int (0 : Int32), .ref po, .ref su, .ref sq, .ref ch, .ref vt, .ref sh])), (vt, .inl (cI, 4, .inl (upd (upd vf 0 a) 1 b)))] H := hP
  have hD : va_D A [(m0, .inr (7, [.int th, .int (3 : Int32), .int (0 : Int32), .ref rw, .int (0 : Int32), .int (0 : Int32), .int (0 : Int32), .ref ry, .int (0 : Int32), .int (0 : Int32), .ref ti, .int (0 : Int32), .int (0 : Int32), .ref po, .ref su, .ref sq, .ref ch, .ref vt, .ref sh])), (vt, .inl (cI, 4, .inl (upd (upd vf 0 a) 1 b)))] := hD
  refine lv_aload_n hx hb d_M_set_14 rfl (lv_at hl 0 rfl) ?_
  refine va_get (D := D) (ci := 7) (v := .ref vt) (C := cn_M) (T := ft_M) (N := 19) hx hb hf_M (fun _ h => h) hown hK hP 0 rfl rfl 17 (by decide) (gw.at G hx0 mw_730 rfl _) (fun _ h9 => h9) rfl d_M_set_15 ?_
  refine lv_iconst (v := (2 : Int32)) hx hb d_M_set_18 (by decide) ?_
  refine lv_aload_n hx hb d_M_set_19 rfl (lv_at hl 0 rfl) ?_
  refine va_get (D := D) (ci := 7) (v := .int (3 : Int32)) (C := cn_M) (T := ft_M) (N := 19) hx hb hf_M (fun _ h => h) hown hK hP 0 rfl rfl 1 (by decide) (gw.at G hx0 mw_714 rfl _) (fun _ h9 => h9) rfl d_M_set_20 ?_
  refine lv_iconst (v := (2 : Int32)) hx hb d_M_set_23 (by decide) ?_
  refine lv_icmp_le (tgt := 31) hx hb d_M_set_24 (by decide) (fun h99 => absurd h99 (by decide)) (fun _ => ?_)
  refine lv_iload_n hx hb d_M_set_27 rfl (lv_at hl 3 rfl) ?_
  refine lv_goto (tgt := 32) hx hb d_M_set_28 (by decide) ?_
  refine va_iast hx hb hK hP hD hS 1 0 rfl rfl (vp_in_iff.mpr (by decide)) d_M_set_32 (fun H locs hP hD hS => ?_)
  have hP : va_P D kl [(m0, .inr (7, [.int th, .int (3 : Int32), .int (0 : Int32), .ref rw, .int (0 : Int32), .int (0 : Int32), .int (0 : Int32), .ref ry, .int (0 : Int32), .int (0 : Int32), .ref ti, .int (0 : Int32), .int (0 : Int32), .ref po, .ref su, .ref sq, .ref ch, .ref vt, .ref sh])), (vt, .inl (cI, 4, .inl (upd (upd (upd vf 0 a) 1 b) 2 c2)))] H := hP
  have hD : va_D A [(m0, .inr (7, [.int th, .int (3 : Int32), .int (0 : Int32), .ref rw, .int (0 : Int32), .int (0 : Int32), .int (0 : Int32), .ref ry, .int (0 : Int32), .int (0 : Int32), .ref ti, .int (0 : Int32), .int (0 : Int32), .ref po, .ref su, .ref sq, .ref ch, .ref vt, .ref sh])), (vt, .inl (cI, 4, .inl (upd (upd (upd vf 0 a) 1 b) 2 c2)))] := hD
  refine lv_aload_n hx hb d_M_set_33 rfl (lv_at hl 0 rfl) ?_
  refine va_get (D := D) (ci := 7) (v := .ref vt) (C := cn_M) (T := ft_M) (N := 19) hx hb hf_M (fun _ h => h) hown hK hP 0 rfl rfl 17 (by decide) (gw.at G hx0 mw_730 rfl _) (fun _ h9 => h9) rfl d_M_set_34 ?_
  refine lv_iconst (v := (3 : Int32)) hx hb d_M_set_37 (by decide) ?_
  refine lv_aload_n hx hb d_M_set_38 rfl (lv_at hl 0 rfl) ?_
  refine va_get (D := D) (ci := 7) (v := .int (3 : Int32)) (C := cn_M) (T := ft_M) (N := 19) hx hb hf_M (fun _ h => h) hown hK hP 0 rfl rfl 1 (by decide) (gw.at G hx0 mw_714 rfl _) (fun _ h9 => h9) rfl d_M_set_39 ?_
  refine lv_iconst (v := (3 : Int32)) hx hb d_M_set_42 (by decide) ?_
  refine lv_icmp_le (tgt := 51) hx hb d_M_set_43 (by decide) (fun _ => ?_) (fun h99 => absurd h99 (by decide))
  refine lv_iconst (v := (0 : Int32)) hx hb d_M_set_51 (by decide) ?_
  refine va_iast hx hb hK hP hD hS 1 0 rfl rfl (vp_in_iff.mpr (by decide)) d_M_set_52 (fun H locs hP hD hS => ?_)
  have hP : va_P D kl [(m0, .inr (7, [.int th, .int (3 : Int32), .int (0 : Int32), .ref rw, .int (0 : Int32), .int (0 : Int32), .int (0 : Int32), .ref ry, .int (0 : Int32), .int (0 : Int32), .ref ti, .int (0 : Int32), .int (0 : Int32), .ref po, .ref su, .ref sq, .ref ch, .ref vt, .ref sh])), (vt, .inl (cI, 4, .inl (upd (upd (upd (upd vf 0 a) 1 b) 2 c2) 3 (0 : Int32))))] H := hP
  have hD : va_D A [(m0, .inr (7, [.int th, .int (3 : Int32), .int (0 : Int32), .ref rw, .int (0 : Int32), .int (0 : Int32), .int (0 : Int32), .ref ry, .int (0 : Int32), .int (0 : Int32), .ref ti, .int (0 : Int32), .int (0 : Int32), .ref po, .ref su, .ref sq, .ref ch, .ref vt, .ref sh])), (vt, .inl (cI, 4, .inl (upd (upd (upd (upd vf 0 a) 1 b) 2 c2) 3 (0 : Int32))))] := hD
  exact tx_mono (fun _ h => tx_Z.of h) (W.vret hx hb hr (fun t ht hW => ⟨⟨[(m0, .inr (7, [.int th, .int (3 : Int32), .int (0 : Int32), .ref rw, .int (0 : Int32), .int (0 : Int32), .int (0 : Int32), .ref ry, .int (0 : Int32), .int (0 : Int32), .ref ti, .int (0 : Int32), .int (0 : Int32), .ref po, .ref su, .ref sq, .ref ch, .ref vt, .ref sh])), (vt, .inl (cI, 4, .inl (upd (upd (upd (upd vf 0 a) 1 b) 2 c2) 3 (0 : Int32))))], ⟨rfl, rfl⟩, by rw [ht]; exact hP.sub [0, 1] rfl, hD.sub [0, 1] (by decide) rfl⟩, hS.F ht⟩) hS.2.2 d_M_set_53)

set_option maxHeartbeats 4000000 in
set_option maxRecDepth 100000 in
theorem c_M_within3_y {l : Launch} {s0 : State} {b0 : Addr} {D : va_G} {cI cJ cZ : ClassId} {tC tS : Nat} (E : gE l s0 b0 D cI cJ cZ tC tS) (sz : Nat) (m0 : Nat) (rw : Nat) (ry : Nat) (ti : Nat) (po : Nat) (su : Nat) (sq : Nat) (ch : Nat) (vt : Nat) (sh : Nat) (th : Int32) (r : Int32) (vf : Nat → Int32) (h : inw r (vf 0) = true ∧ inw r (vf 1) = true ∧ inw r (vf 2) = true) : cx_M l s0 D kl y_M_within b_M_within 4 (some .boolean) ({ frames := 1, cells := 0, slots := 0, locals := 21 } : Room) 0 0 [.ref m0, .int r] [(m0, .inr (7, [.int th, .int (3 : Int32), .int (0 : Int32), .ref rw, .int (0 : Int32), .int (0 : Int32), .int (0 : Int32), .ref ry, .int (0 : Int32), .int (0 : Int32), .ref ti, .int (0 : Int32), .int (0 : Int32), .ref po, .ref su, .ref sq, .ref ch, .ref vt, .ref sh])), (vt, .inl (cI, 4, .inl vf))] sz (fun o9 _ w9 => o9 = .returned (some (.int (1 : Int32))) ∧ w9 = [(m0, .inr (7, [.int th, .int (3 : Int32), .int (0 : Int32), .ref rw, .int (0 : Int32), .int (0 : Int32), .int (0 : Int32), .ref ry, .int (0 : Int32), .int (0 : Int32), .ref ti, .int (0 : Int32), .int (0 : Int32), .ref po, .ref su, .ref sq, .ref ch, .ref vt, .ref sh])), (vt, .inl (cI, 4, .inl vf))]) := by
  refine tx_ofW (cc := b_M_within) (maxL := 4) (ret := (some .boolean)) (by decide) rfl ?_
  intro p e s m args below meth c s₁ B hml hT hv
  obtain ⟨rfl, hsz, hP, hD0, hx0⟩ := hv
  have hx := B.exec
  have hb := B.bytes
  have hr := B.returns
  have G := E.2.1
  have hown : s.vm.findClass cn_M = some m.cls := findClass_of_methodNamed B.named
  have hlocks := B.notSynchronized
  have hK := va_K.moved hx0.1.alike E.2.2.1
  have hf_M : ∀ w99 ∈ u_ws cn_M ft_M 19, w99.before ([.ref m0, .int r] : List Value).toArray s = true := fun w99 h99 => gw.at G hx0 (fw_M w99 h99) (fo_M w99 h99) _
  subst hsz
  have hA0 := cx_new hD0 hx0.2.1
  have hD := hD0.self (sz := s.heap.size)
  generalize hAe : va_A [(m0, .inr (7, [.int th, .int (3 : Int32), .int (0 : Int32), .ref rw, .int (0 : Int32), .int (0 : Int32), .int (0 : Int32), .ref ry, .int (0 : Int32), .int (0 : Int32), .ref ti, .int (0 : Int32), .int (0 : Int32), .ref po, .ref su, .ref sq, .ref ch, .ref vt, .ref sh])), (vt, .inl (cI, 4, .inl vf))] s.heap.size = A at hD hA0 ⊢
  have hA : ∀ q : Nat, s.heap.size ≤ q → A q := fun q h => by rw [← hAe]; exact Or.inr h
  have hS : va_S A s.heap s.heap [] := va_S.rf
  have hl := lv_entry ([.ref m0, .int r]) (n := 4) (Nat.le_of_ble_eq_true rfl)
  rw [lg_entry_eq]
  generalize (lg_sl ([.ref m0, .int r]) ++ List.replicate (4 - (lg_sl ([.ref m0, .int r])).length) Slot.unset).toArray = ls at hl ⊢
  have hl : lv_has ls 4 [(0, .ref m0), (1, .int r)] := hl
  have hP : va_P D kl [(m0, .inr (7, [.int th, .int (3 : Int32), .int (0 : Int32), .ref rw, .int (0 : Int32), .int (0 : Int32), .int (0 : Int32), .ref ry, .int (0 : Int32), .int (0 : Int32), .ref ti, .int (0 : Int32), .int (0 : Int32), .ref po, .ref su, .ref sq, .ref ch, .ref vt, .ref sh])), (vt, .inl (cI, 4, .inl vf))] s.heap := hP
  have hml : c.maxLocals = 4 := hml
  refine lv_iconst (v := (1 : Int32)) hx hb d_M_within_0 (by decide) ?_
  refine lv_istore_n (lv' := [(2, .int (1 : Int32)), (0, .ref m0), (1, .int r)]) hx hb d_M_within_1 rfl hl (by decide) rfl (fun ls hl => ?_)
  refine lv_iconst (v := (0 : Int32)) hx hb d_M_within_2 (by decide) ?_
  refine lv_istore_n (lv' := [(3, .int (0 : Int32)), (2, .int (1 : Int32)), (0, .ref m0), (1, .int r)]) hx hb d_M_within_3 rfl hl (by decide) rfl (fun ls hl => ?_)
  refine lv_iload_n hx hb d_M_within_4 rfl (lv_at hl 0 rfl) ?_
  refine lv_aload_n hx hb d_M_within_5 rfl (lv_at hl 2 rfl) ?_
  refine va_get (D := D) (ci := 7) (v := .int (3 : Int32)) (C := cn_M) (T := ft_M) (N := 19) hx hb hf_M (fun _ h => h) hown hK hP 0 rfl rfl 1 (by decide) (gw.at G hx0 mw_714 rfl _) (fun _ h9 => h9) rfl d_M_within_6 ?_
  refine lv_icmp_ge (tgt := 41) hx hb d_M_within_9 (by decide) (fun h99 => absurd h99 (by decide)) (fun _ => ?_)
  refine lv_iload_n hx hb d_M_within_12 rfl (lv_at hl 1 rfl) ?_
  refine lv_if_eq (tgt := 33) hx hb d_M_within_13 (by decide) (fun h99 => absurd h99 (by decide)) (fun _ => ?_)
  refine lv_aload_n hx hb d_M_within_16 rfl (lv_at hl 2 rfl) ?_
  refine va_get (D := D) (ci := 7) (v := .ref vt) (C := cn_M) (T := ft_M) (N := 19) hx hb hf_M (fun _ h => h) hown hK hP 0 rfl rfl 17 (by decide) (gw.at G hx0 mw_730 rfl _) (fun _ h9 => h9) rfl d_M_within_17 ?_
  refine lv_iload_n hx hb d_M_within_20 rfl (lv_at hl 0 rfl) ?_
  refine va_iald hx hb hK hP 1 0 rfl rfl (vp_in_iff.mpr (by decide)) d_M_within_21 ?_
  refine tp_i (y := vf 0) (by rfl) ?_
  refine lv_iload_n hx hb d_M_within_22 rfl (lv_at hl 3 rfl) ?_
  refine cx_call (D := D) (cl := kl) (ws := _) (wc := []) (wr := [(m0, .inr (7, [.int th, .int (3 : Int32), .int (0 : Int32), .ref rw, .int (0 : Int32), .int (0 : Int32), .int (0 : Int32), .ref ry, .int (0 : Int32), .int (0 : Int32), .ref ti, .int (0 : Int32), .int (0 : Int32), .ref po, .ref su, .ref sq, .ref ch, .ref vt, .ref sh])), (vt, .inl (cI, 4, .inl vf))]) (tx_runS (As := [.int (vf 0), .int r]) (rest := []) hx hb hml hown (c_M_in_y E s.heap.size (vf 0) r h.1) (cx_C (b0 := b0) G hx0 mw_790 mw_9 ny_M_in (by decide)) (gw.at G hx0 mw_788 rfl _) (gw.at G hx0 mw_789 rfl _) (gw.at G hx0 mw_9 rfl _) ⟨cx_blind, (cx_pre (s := s) hx0 hP hD hS hA0 [] rfl rfl (by decide))⟩ rfl rfl hl.1 rfl (lv_room (Nat.le_of_ble_eq_true rfl)) d_M_within_23 ⟨by decide, by decide⟩) hP hD hS hA [] [0, 1] rfl rfl (by decide) (by decide) (fun v t w1 H locs ht hW9 hp hP hD hS => ?_) (fun x t w1 H locs ht hW9 hp hP hD hS => by obtain ⟨h9, -⟩ := hp; cases h9)
  obtain ⟨h9, rfl⟩ := hp
  cases h9
  refine W.eq (g2 := F0 m 26 ls [.int (1 : Int32)]) rfl ?_
  refine W.widen (k := 0) (n := 0) (by decide) (by decide) ?_
  have hP : va_P D kl [(m0, .inr (7, [.int th, .int (3 : Int32), .int (0 : Int32), .ref rw, .int (0 : Int32), .int (0 : Int32), .int (0 : Int32), .ref ry, .int (0 : Int32), .int (0 : Int32), .ref ti, .int (0 : Int32), .int (0 : Int32), .ref po, .ref su, .ref sq, .ref ch, .ref vt, .ref sh])), (vt, .inl (cI, 4, .inl vf))] H := hP
  have hD : va_D A [(m0, .inr (7, [.int th, .int (3 : Int32), .int (0 : Int32), .ref rw, .int (0 : Int32), .int (0 : Int32), .int (0 : Int32), .ref ry, .int (0 : Int32), .int (0 : Int32), .ref ti, .int (0 : Int32), .int (0 : Int32), .ref po, .ref su, .ref sq, .ref ch, .ref vt, .ref sh])), (vt, .inl (cI, 4, .inl vf))] := hD
  refine lv_if_eq (tgt := 33) hx hb d_M_within_26 (by decide) (fun h99 => absurd h99 (by decide)) (fun _ => ?_)
  refine lv_iconst (v := (1 : Int32)) hx hb d_M_within_29 (by decide) ?_
  refine lv_goto (tgt := 34) hx hb d_M_within_30 (by decide) ?_
  refine lv_istore_n (lv' := [(2, .int (1 : Int32)), (3, .int (0 : Int32)), (0, .ref m0), (1, .int r)]) hx hb d_M_within_34 rfl hl (by decide) rfl (fun ls hl => ?_)
  refine lv_iinc (lv' := [(3, .int (1 : Int32)), (2, .int (1 : Int32)), (0, .ref m0), (1, .int r)]) (k := 1) (v := (1 : Int32)) hx hb d_M_within_35 hl rfl (by decide) (by decide) rfl (fun ls hl => ?_)
  refine lv_goto (tgt := 4) hx hb d_M_within_38 (by decide) ?_
  refine lv_iload_n hx hb d_M_within_4 rfl (lv_at hl 0 rfl) ?_
  refine lv_aload_n hx hb d_M_within_5 rfl (lv_at hl 2 rfl) ?_
  refine va_get (D := D) (ci := 7) (v := .int (3 : Int32)) (C := cn_M) (T := ft_M) (N := 19) hx hb hf_M (fun _ h => h) hown hK hP 0 rfl rfl 1 (by decide) (gw.at G hx0 mw_714 rfl _) (fun _ h9 => h9) rfl d_M_within_6 ?_
  refine lv_icmp_ge (tgt := 41) hx hb d_M_within_9 (by decide) (fun h99 => absurd h99 (by decide)) (fun _ => ?_)
  refine lv_iload_n hx hb d_M_within_12 rfl (lv_at hl 1 rfl) ?_
  refine lv_if_eq (tgt := 33) hx hb d_M_within_13 (by decide) (fun h99 => absurd h99 (by decide)) (fun _ => ?_)
  refine lv_aload_n hx hb d_M_within_16 rfl (lv_at hl 2 rfl) ?_
  refine va_get (D := D) (ci := 7) (v := .ref vt) (C := cn_M) (T := ft_M) (N := 19) hx hb hf_M (fun _ h => h) hown hK hP 0 rfl rfl 17 (by decide) (gw.at G hx0 mw_730 rfl _) (fun _ h9 => h9) rfl d_M_within_17 ?_
  refine lv_iload_n hx hb d_M_within_20 rfl (lv_at hl 0 rfl) ?_
  refine va_iald hx hb hK hP 1 0 rfl rfl (vp_in_iff.mpr (by decide)) d_M_within_21 ?_
  refine tp_i (y := vf 1) (by rfl) ?_
  refine lv_iload_n hx hb d_M_within_22 rfl (lv_at hl 3 rfl) ?_
  refine cx_call (D := D) (cl := kl) (ws := _) (wc := []) (wr := [(m0, .inr (7, [.int th, .int (3 : Int32), .int (0 : Int32), .ref rw, .int (0 : Int32), .int (0 : Int32), .int (0 : Int32), .ref ry, .int (0 : Int32), .int (0 : Int32), .ref ti, .int (0 : Int32), .int (0 : Int32), .ref po, .ref su, .ref sq, .ref ch, .ref vt, .ref sh])), (vt, .inl (cI, 4, .inl vf))]) (tx_runS (As := [.int (vf 1), .int r]) (rest := []) hx hb hml hown (c_M_in_y E H.size (vf 1) r h.2.1) (cx_C (b0 := b0) G hx0 mw_790 mw_9 ny_M_in (by decide)) (gw.at G hx0 mw_788 rfl _) (gw.at G hx0 mw_789 rfl _) (gw.at G hx0 mw_9 rfl _) ⟨cx_blind, (cx_pre (s := s) hx0 hP hD hS hA0 [] rfl rfl (by decide))⟩ rfl rfl hl.1 rfl (lv_room (Nat.le_of_ble_eq_true rfl)) d_M_within_23 ⟨by decide, by decide⟩) hP hD hS hA [] [0, 1] rfl rfl (by decide) (by decide) (fun v t w1 H locs ht hW9 hp hP hD hS => ?_) (fun x t w1 H locs ht hW9 hp hP hD hS => by obtain ⟨h9, -⟩ := hp; cases h9)
  obtain ⟨h9, rfl⟩ := hp
  cases h9
  refine W.eq (g2 := F0 m 26 ls [.int (1 : Int32)]) rfl ?_
  refine W.widen (k := 0) (n := 0) (by decide) (by decide) ?_
  have hP : va_P D kl [(m0, .inr (7, [.int th, .int (3 : Int32), .int (0 : Int32), .ref rw, .int (0 : Int32), .int (0 : Int32), .int (0 : Int32), .ref ry, .int (0 : Int32), .int (0 : Int32), .ref ti, .int (0 : Int32), .int (0 : Int32), .ref po, .ref su, .ref sq, .ref ch, .ref vt, .ref sh])), (vt, .inl (cI, 4, .inl vf))] H := hP
  have hD : va_D A [(m0, .inr (7, [.int th, .int (3 : Int32), .int (0 : Int32), .ref rw, .int (0 : Int32), .int (0 : Int32), .int (0 : Int32), .ref ry, .int (0 : Int32), .int (0 : Int32), .ref ti, .int (0 : Int32), .int (0 : Int32), .ref po, .ref su, .ref sq, .ref ch, .ref vt, .ref sh])), (vt, .inl (cI, 4, .inl vf))] := hD
  refine lv_if_eq (tgt := 33) hx hb d_M_within_26 (by decide) (fun h99 => absurd h99 (by decide)) (fun _ => ?_)
  refine lv_iconst (v := (1 : Int32)) hx hb d_M_within_29 (by decide) ?_
  refine lv_goto (tgt := 34) hx hb d_M_within_30 (by decide) ?_
  refine lv_istore_n (lv' := [(2, .int (1 : Int32)), (3, .int (1 : Int32)), (0, .ref m0), (1, .int r)]) hx hb d_M_within_34 rfl hl (by decide) rfl (fun ls hl => ?_)
  refine lv_iinc (lv' := [(3, .int (2 : Int32)), (2, .int (1 : Int32)), (0, .ref m0), (1, .int r)]) (k := 1) (v := (2 : Int32)) hx hb d_M_within_35 hl rfl (by decide) (by decide) rfl (fun ls hl => ?_)
  refine lv_goto (tgt := 4) hx hb d_M_within_38 (by decide) ?_
  refine lv_iload_n hx hb d_M_within_4 rfl (lv_at hl 0 rfl) ?_
  refine lv_aload_n hx hb d_M_within_5 rfl (lv_at hl 2 rfl) ?_
  refine va_get (D := D) (ci := 7) (v := .int (3 : Int32)) (C := cn_M) (T := ft_M) (N := 19) hx hb hf_M (fun _ h => h) hown hK hP 0 rfl rfl 1 (by decide) (gw.at G hx0 mw_714 rfl _) (fun _ h9 => h9) rfl d_M_within_6 ?_
  refine lv_icmp_ge (tgt := 41) hx hb d_M_within_9 (by decide) (fun h99 => absurd h99 (by decide)) (fun _ => ?_)
  refine lv_iload_n hx hb d_M_within_12 rfl (lv_at hl 1 rfl) ?_
  refine lv_if_eq (tgt := 33) hx hb d_M_within_13 (by decide) (fun h99 => absurd h99 (by decide)) (fun _ => ?_)
  refine lv_aload_n hx hb d_M_within_16 rfl (lv_at hl 2 rfl) ?_
  refine va_get (D := D) (ci := 7) (v := .ref vt) (C := cn_M) (T := ft_M) (N := 19) hx hb hf_M (fun _ h => h) hown hK hP 0 rfl rfl 17 (by decide) (gw.at G hx0 mw_730 rfl _) (fun _ h9 => h9) rfl d_M_within_17 ?_
  refine lv_iload_n hx hb d_M_within_20 rfl (lv_at hl 0 rfl) ?_
  refine va_iald hx hb hK hP 1 0 rfl rfl (vp_in_iff.mpr (by decide)) d_M_within_21 ?_
  refine tp_i (y := vf 2) (by rfl) ?_
  refine lv_iload_n hx hb d_M_within_22 rfl (lv_at hl 3 rfl) ?_
  refine cx_call (D := D) (cl := kl) (ws := _) (wc := []) (wr := [(m0, .inr (7, [.int th, .int (3 : Int32), .int (0 : Int32), .ref rw, .int (0 : Int32), .int (0 : Int32), .int (0 : Int32), .ref ry, .int (0 : Int32), .int (0 : Int32), .ref ti, .int (0 : Int32), .int (0 : Int32), .ref po, .ref su, .ref sq, .ref ch, .ref vt, .ref sh])), (vt, .inl (cI, 4, .inl vf))]) (tx_runS (As := [.int (vf 2), .int r]) (rest := []) hx hb hml hown (c_M_in_y E H.size (vf 2) r h.2.2) (cx_C (b0 := b0) G hx0 mw_790 mw_9 ny_M_in (by decide)) (gw.at G hx0 mw_788 rfl _) (gw.at G hx0 mw_789 rfl _) (gw.at G hx0 mw_9 rfl _) ⟨cx_blind, (cx_pre (s := s) hx0 hP hD hS hA0 [] rfl rfl (by decide))⟩ rfl rfl hl.1 rfl (lv_room (Nat.le_of_ble_eq_true rfl)) d_M_within_23 ⟨by decide, by decide⟩) hP hD hS hA [] [0, 1] rfl rfl (by decide) (by decide) (fun v t w1 H locs ht hW9 hp hP hD hS => ?_) (fun x t w1 H locs ht hW9 hp hP hD hS => by obtain ⟨h9, -⟩ := hp; cases h9)
  obtain ⟨h9, rfl⟩ := hp
  cases h9
  refine W.eq (g2 := F0 m 26 ls [.int (1 : Int32)]) rfl ?_
  refine W.widen (k := 0) (n := 0) (by decide) (by decide) ?_
  have hP : va_P D kl [(m0, .inr (7, [.int th, .int (3 : Int32), .int (0 : Int32), .ref rw, .int (0 : Int32), .int (0 : Int32), .int (0 : Int32), .ref ry, .int (0 : Int32), .int (0 : Int32), .ref ti, .int (0 : Int32), .int (0 : Int32), .ref po, .ref su, .ref sq, .ref ch, .ref vt, .ref sh])), (vt, .inl (cI, 4, .inl vf))] H := hP
  have hD : va_D A [(m0, .inr (7, [.int th, .int (3 : Int32), .int (0 : Int32), .ref rw, .int (0 : Int32), .int (0 : Int32), .int (0 : Int32), .ref ry, .int (0 : Int32), .int (0 : Int32), .ref ti, .int (0 : Int32), .int (0 : Int32), .ref po, .ref su, .ref sq, .ref ch, .ref vt, .ref sh])), (vt, .inl (cI, 4, .inl vf))] := hD
  refine lv_if_eq (tgt := 33) hx hb d_M_within_26 (by decide) (fun h99 => absurd h99 (by decide)) (fun _ => ?_)
  refine lv_iconst (v := (1 : Int32)) hx hb d_M_within_29 (by decide) ?_
  refine lv_goto (tgt := 34) hx hb d_M_within_30 (by decide) ?_
  refine lv_istore_n (lv' := [(2, .int (1 : Int32)), (3, .int (2 : Int32)), (0, .ref m0), (1, .int r)]) hx hb d_M_within_34 rfl hl (by decide) rfl (fun ls hl => ?_)
  refine lv_iinc (lv' := [(3, .int (3 : Int32)), (2, .int (1 : Int32)), (0, .ref m0), (1, .int r)]) (k := 1) (v := (3 : Int32)) hx hb d_M_within_35 hl rfl (by decide) (by decide) rfl (fun ls hl => ?_)
  refine lv_goto (tgt := 4) hx hb d_M_within_38 (by decide) ?_
  refine lv_iload_n hx hb d_M_within_4 rfl (lv_at hl 0 rfl) ?_
  refine lv_aload_n hx hb d_M_within_5 rfl (lv_at hl 2 rfl) ?_
  refine va_get (D := D) (ci := 7) (v := .int (3 : Int32)) (C := cn_M) (T := ft_M) (N := 19) hx hb hf_M (fun _ h => h) hown hK hP 0 rfl rfl 1 (by decide) (gw.at G hx0 mw_714 rfl _) (fun _ h9 => h9) rfl d_M_within_6 ?_
  refine lv_icmp_ge (tgt := 41) hx hb d_M_within_9 (by decide) (fun _ => ?_) (fun h99 => absurd h99 (by decide))
  refine lv_iload_n hx hb d_M_within_41 rfl (lv_at hl 1 rfl) ?_
  exact tx_mono (fun _ h => tx_Z.of h) (W.zret (v := (1 : Int32)) hx hb hr (by decide) (fun t ht hW => ⟨⟨[(m0, .inr (7, [.int th, .int (3 : Int32), .int (0 : Int32), .ref rw, .int (0 : Int32), .int (0 : Int32), .int (0 : Int32), .ref ry, .int (0 : Int32), .int (0 : Int32), .ref ti, .int (0 : Int32), .int (0 : Int32), .ref po, .ref su, .ref sq, .ref ch, .ref vt, .ref sh])), (vt, .inl (cI, 4, .inl vf))], ⟨rfl, rfl⟩, by rw [ht]; exact hP.sub [0, 1] rfl, hD.sub [0, 1] (by decide) rfl⟩, hS.F ht⟩) hS.2.2 d_M_within_42)

set_option maxHeartbeats 4000000 in
set_option maxRecDepth 100000 in
theorem c_M_within3_n {l : Launch} {s0 : State} {b0 : Addr} {D : va_G} {cI cJ cZ : ClassId} {tC tS : Nat} (E : gE l s0 b0 D cI cJ cZ tC tS) (sz : Nat) (m0 : Nat) (rw : Nat) (ry : Nat) (ti : Nat) (po : Nat) (su : Nat) (sq : Nat) (ch : Nat) (vt : Nat) (sh : Nat) (th : Int32) (r : Int32) (vf : Nat → Int32) (h : ¬ (inw r (vf 0) = true ∧ inw r (vf 1) = true ∧ inw r (vf 2) = true)) : cx_M l s0 D kl y_M_within b_M_within 4 (some .boolean) ({ frames := 1, cells := 0, slots := 0, locals := 21 } : Room) 0 0 [.ref m0, .int r] [(m0, .inr (7, [.int th, .int (3 : Int32), .int (0 : Int32), .ref rw, .int (0 : Int32), .int (0 : Int32), .int (0 : Int32), .ref ry, .int (0 : Int32), .int (0 : Int32), .ref ti, .int (0 : Int32), .int (0 : Int32), .ref po, .ref su, .ref sq, .ref ch, .ref vt, .ref sh])), (vt, .inl (cI, 4, .inl vf))] sz (fun o9 _ w9 => o9 = .returned (some (.int (0 : Int32))) ∧ w9 = [(m0, .inr (7, [.int th, .int (3 : Int32), .int (0 : Int32), .ref rw, .int (0 : Int32), .int (0 : Int32), .int (0 : Int32), .ref ry, .int (0 : Int32), .int (0 : Int32), .ref ti, .int (0 : Int32), .int (0 : Int32), .ref po, .ref su, .ref sq, .ref ch, .ref vt, .ref sh])), (vt, .inl (cI, 4, .inl vf))]) := by
  refine tx_ofW (cc := b_M_within) (maxL := 4) (ret := (some .boolean)) (by decide) rfl ?_
  intro p e s m args below meth c s₁ B hml hT hv
  obtain ⟨rfl, hsz, hP, hD0, hx0⟩ := hv
  have hx := B.exec
  have hb := B.bytes
  have hr := B.returns
  have G := E.2.1
  have hown : s.vm.findClass cn_M = some m.cls := findClass_of_methodNamed B.named
  have hlocks := B.notSynchronized
  have hK := va_K.moved hx0.1.alike E.2.2.1
  have hf_M : ∀ w99 ∈ u_ws cn_M ft_M 19, w99.before ([.ref m0, .int r] : List Value).toArray s = true := fun w99 h99 => gw.at G hx0 (fw_M w99 h99) (fo_M w99 h99) _
  subst hsz
  have hA0 := cx_new hD0 hx0.2.1
  have hD := hD0.self (sz := s.heap.size)
  generalize hAe : va_A [(m0, .inr (7, [.int th, .int (3 : Int32), .int (0 : Int32), .ref rw, .int (0 : Int32), .int (0 : Int32), .int (0 : Int32), .ref ry, .int (0 : Int32), .int (0 : Int32), .ref ti, .int (0 : Int32), .int (0 : Int32), .ref po, .ref su, .ref sq, .ref ch, .ref vt, .ref sh])), (vt, .inl (cI, 4, .inl vf))] s.heap.size = A at hD hA0 ⊢
  have hA : ∀ q : Nat, s.heap.size ≤ q → A q := fun q h => by rw [← hAe]; exact Or.inr h
  have hS : va_S A s.heap s.heap [] := va_S.rf
  have hl := lv_entry ([.ref m0, .int r]) (n := 4) (Nat.le_of_ble_eq_true rfl)
  rw [lg_entry_eq]
  generalize (lg_sl ([.ref m0, .int r]) ++ List.replicate (4 - (lg_sl ([.ref m0, .int r])).length) Slot.unset).toArray = ls at hl ⊢
  have hl : lv_has ls 4 [(0, .ref m0), (1, .int r)] := hl
  have hP : va_P D kl [(m0, .inr (7, [.int th, .int (3 : Int32), .int (0 : Int32), .ref rw, .int (0 : Int32), .int (0 : Int32), .int (0 : Int32), .ref ry, .int (0 : Int32), .int (0 : Int32), .ref ti, .int (0 : Int32), .int (0 : Int32), .ref po, .ref su, .ref sq, .ref ch, .ref vt, .ref sh])), (vt, .inl (cI, 4, .inl vf))] s.heap := hP
  have hml : c.maxLocals = 4 := hml
  refine lv_iconst (v := (1 : Int32)) hx hb d_M_within_0 (by decide) ?_
  refine lv_istore_n (lv' := [(2, .int (1 : Int32)), (0, .ref m0), (1, .int r)]) hx hb d_M_within_1 rfl hl (by decide) rfl (fun ls hl => ?_)
  refine lv_iconst (v := (0 : Int32)) hx hb d_M_within_2 (by decide) ?_
  refine lv_istore_n (lv' := [(3, .int (0 : Int32)), (2, .int (1 : Int32)), (0, .ref m0), (1, .int r)]) hx hb d_M_within_3 rfl hl (by decide) rfl (fun ls hl => ?_)
  refine lv_iload_n hx hb d_M_within_4 rfl (lv_at hl 0 rfl) ?_
  refine lv_aload_n hx hb d_M_within_5 rfl (lv_at hl 2 rfl) ?_
  refine va_get (D := D) (ci := 7) (v := .int (3 : Int32)) (C := cn_M) (T := ft_M) (N := 19) hx hb hf_M (fun _ h => h) hown hK hP 0 rfl rfl 1 (by decide) (gw.at G hx0 mw_714 rfl _) (fun _ h9 => h9) rfl d_M_within_6 ?_
  refine lv_icmp_ge (tgt := 41) hx hb d_M_within_9 (by decide) (fun h99 => absurd h99 (by decide)) (fun _ => ?_)
  refine lv_iload_n hx hb d_M_within_12 rfl (lv_at hl 1 rfl) ?_
  refine lv_if_eq (tgt := 33) hx hb d_M_within_13 (by decide) (fun h99 => absurd h99 (by decide)) (fun _ => ?_)
  refine lv_aload_n hx hb d_M_within_16 rfl (lv_at hl 2 rfl) ?_
  refine va_get (D := D) (ci := 7) (v := .ref vt) (C := cn_M) (T := ft_M) (N := 19) hx hb hf_M (fun _ h => h) hown hK hP 0 rfl rfl 17 (by decide) (gw.at G hx0 mw_730 rfl _) (fun _ h9 => h9) rfl d_M_within_17 ?_
  refine lv_iload_n hx hb d_M_within_20 rfl (lv_at hl 0 rfl) ?_
  refine va_iald hx hb hK hP 1 0 rfl rfl (vp_in_iff.mpr (by decide)) d_M_within_21 ?_
  refine tp_i (y := vf 0) (by rfl) ?_
  refine lv_iload_n hx hb d_M_within_22 rfl (lv_at hl 3 rfl) ?_
  by_cases h_1 : inw r (vf 0) = true
  · refine cx_call (D := D) (cl := kl) (ws := _) (wc := []) (wr := [(m0, .inr (7, [.int th, .int (3 : Int32), .int (0 : Int32), .ref rw, .int (0 : Int32), .int (0 : Int32), .int (0 : Int32), .ref ry, .int (0 : Int32), .int (0 : Int32), .ref ti, .int (0 : Int32), .int (0 : Int32), .ref po, .ref su, .ref sq, .ref ch, .ref vt, .ref sh])), (vt, .inl (cI, 4, .inl vf))]) (tx_runS (As := [.int (vf 0), .int r]) (rest := []) hx hb hml hown (c_M_in_y E s.heap.size (vf 0) r h_1) (cx_C (b0 := b0) G hx0 mw_790 mw_9 ny_M_in (by decide)) (gw.at G hx0 mw_788 rfl _) (gw.at G hx0 mw_789 rfl _) (gw.at G hx0 mw_9 rfl _) ⟨cx_blind, (cx_pre (s := s) hx0 hP hD hS hA0 [] rfl rfl (by decide))⟩ rfl rfl hl.1 rfl (lv_room (Nat.le_of_ble_eq_true rfl)) d_M_within_23 ⟨by decide, by decide⟩) hP hD hS hA [] [0, 1] rfl rfl (by decide) (by decide) (fun v t w1 H locs ht hW9 hp hP hD hS => ?_) (fun x t w1 H locs ht hW9 hp hP hD hS => by obtain ⟨h9, -⟩ := hp; cases h9)
    obtain ⟨h9, rfl⟩ := hp
    cases h9
    refine W.eq (g2 := F0 m 26 ls [.int (1 : Int32)]) rfl ?_
    refine W.widen (k := 0) (n := 0) (by decide) (by decide) ?_
    have hP : va_P D kl [(m0, .inr (7, [.int th, .int (3 : Int32), .int (0 : Int32), .ref rw, .int (0 : Int32), .int (0 : Int32), .int (0 : Int32), .ref ry, .int (0 : Int32), .int (0 : Int32), .ref ti, .int (0 : Int32), .int (0 : Int32), .ref po, .ref su, .ref sq, .ref ch, .ref vt, .ref sh])), (vt, .inl (cI, 4, .inl vf))] H := hP
    have hD : va_D A [(m0, .inr (7, [.int th, .int (3 : Int32), .int (0 : Int32), .ref rw, .int (0 : Int32), .int (0 : Int32), .int (0 : Int32), .ref ry, .int (0 : Int32), .int (0 : Int32), .ref ti, .int (0 : Int32), .int (0 : Int32), .ref po, .ref su, .ref sq, .ref ch, .ref vt, .ref sh])), (vt, .inl (cI, 4, .inl vf))] := hD
    refine lv_if_eq (tgt := 33) hx hb d_M_within_26 (by decide) (fun h99 => absurd h99 (by decide)) (fun _ => ?_)
    refine lv_iconst (v := (1 : Int32)) hx hb d_M_within_29 (by decide) ?_
    refine lv_goto (tgt := 34) hx hb d_M_within_30 (by decide) ?_
    refine lv_istore_n (lv' := [(2, .int (1 : Int32)), (3, .int (0 : Int32)), (0, .ref m0), (1, .int r)]) hx hb d_M_within_34 rfl hl (by decide) rfl (fun ls hl => ?_)
    refine lv_iinc (lv' := [(3, .int (1 : Int32)), (2, .int (1 : Int32)), (0, .ref m0), (1, .int r)]) (k := 1) (v := (1 : Int32)) hx hb d_M_within_35 hl rfl (by decide) (by decide) rfl (fun ls hl => ?_)
    refine lv_goto (tgt := 4) hx hb d_M_within_38 (by decide) ?_
    refine lv_iload_n hx hb d_M_within_4 rfl (lv_at hl 0 rfl) ?_
    refine lv_aload_n hx hb d_M_within_5 rfl (lv_at hl 2 rfl) ?_
    refine va_get (D := D) (ci := 7) (v := .int (3 : Int32)) (C := cn_M) (T := ft_M) (N := 19) hx hb hf_M (fun _ h => h) hown hK hP 0 rfl rfl 1 (by decide) (gw.at G hx0 mw_714 rfl _) (fun _ h9 => h9) rfl d_M_within_6 ?_
    refine lv_icmp_ge (tgt := 41) hx hb d_M_within_9 (by decide) (fun h99 => absurd h99 (by decide)) (fun _ => ?_)
    refine lv_iload_n hx hb d_M_within_12 rfl (lv_at hl 1 rfl) ?_
    refine lv_if_eq (tgt := 33) hx hb d_M_within_13 (by decide) (fun h99 => absurd h99 (by decide)) (fun _ => ?_)
    refine lv_aload_n hx hb d_M_within_16 rfl (lv_at hl 2 rfl) ?_
    refine va_get (D := D) (ci := 7) (v := .ref vt) (C := cn_M) (T := ft_M) (N := 19) hx hb hf_M (fun _ h => h) hown hK hP 0 rfl rfl 17 (by decide) (gw.at G hx0 mw_730 rfl _) (fun _ h9 => h9) rfl d_M_within_17 ?_
    refine lv_iload_n hx hb d_M_within_20 rfl (lv_at hl 0 rfl) ?_
    refine va_iald hx hb hK hP 1 0 rfl rfl (vp_in_iff.mpr (by decide)) d_M_within_21 ?_
    refine tp_i (y := vf 1) (by rfl) ?_
    refine lv_iload_n hx hb d_M_within_22 rfl (lv_at hl 3 rfl) ?_
    by_cases h_2 : inw r (vf 1) = true
    · refine cx_call (D := D) (cl := kl) (ws := _) (wc := []) (wr := [(m0, .inr (7, [.int th, .int (3 : Int32), .int (0 : Int32), .ref rw, .int (0 : Int32), .int (0 : Int32), .int (0 : Int32), .ref ry, .int (0 : Int32), .int (0 : Int32), .ref ti, .int (0 : Int32), .int (0 : Int32), .ref po, .ref su, .ref sq, .ref ch, .ref vt, .ref sh])), (vt, .inl (cI, 4, .inl vf))]) (tx_runS (As := [.int (vf 1), .int r]) (rest := []) hx hb hml hown (c_M_in_y E H.size (vf 1) r h_2) (cx_C (b0 := b0) G hx0 mw_790 mw_9 ny_M_in (by decide)) (gw.at G hx0 mw_788 rfl _) (gw.at G hx0 mw_789 rfl _) (gw.at G hx0 mw_9 rfl _) ⟨cx_blind, (cx_pre (s := s) hx0 hP hD hS hA0 [] rfl rfl (by decide))⟩ rfl rfl hl.1 rfl (lv_room (Nat.le_of_ble_eq_true rfl)) d_M_within_23 ⟨by decide, by decide⟩) hP hD hS hA [] [0, 1] rfl rfl (by decide) (by decide) (fun v t w1 H locs ht hW9 hp hP hD hS => ?_) (fun x t w1 H locs ht hW9 hp hP hD hS => by obtain ⟨h9, -⟩ := hp; cases h9)
      obtain ⟨h9, rfl⟩ := hp
      cases h9
      refine W.eq (g2 := F0 m 26 ls [.int (1 : Int32)]) rfl ?_
      refine W.widen (k := 0) (n := 0) (by decide) (by decide) ?_
      have hP : va_P D kl [(m0, .inr (7, [.int th, .int (3 : Int32), .int (0 : Int32), .ref rw, .int (0 : Int32), .int (0 : Int32), .int (0 : Int32), .ref ry, .int (0 : Int32), .int (0 : Int32), .ref ti, .int (0 : Int32), .int (0 : Int32), .ref po, .ref su, .ref sq, .ref ch, .ref vt, .ref sh])), (vt, .inl (cI, 4, .inl vf))] H := hP
      have hD : va_D A [(m0, .inr (7, [.int th, .int (3 : Int32), .int (0 : Int32), .ref rw, .int (0 : Int32), .int (0 : Int32), .int (0 : Int32), .ref ry, .int (0 : Int32), .int (0 : Int32), .ref ti, .int (0 : Int32), .int (0 : Int32), .ref po, .ref su, .ref sq, .ref ch, .ref vt, .ref sh])), (vt, .inl (cI, 4, .inl vf))] := hD
      refine lv_if_eq (tgt := 33) hx hb d_M_within_26 (by decide) (fun h99 => absurd h99 (by decide)) (fun _ => ?_)
      refine lv_iconst (v := (1 : Int32)) hx hb d_M_within_29 (by decide) ?_
      refine lv_goto (tgt := 34) hx hb d_M_within_30 (by decide) ?_
      refine lv_istore_n (lv' := [(2, .int (1 : Int32)), (3, .int (1 : Int32)), (0, .ref m0), (1, .int r)]) hx hb d_M_within_34 rfl hl (by decide) rfl (fun ls hl => ?_)
      refine lv_iinc (lv' := [(3, .int (2 : Int32)), (2, .int (1 : Int32)), (0, .ref m0), (1, .int r)]) (k := 1) (v := (2 : Int32)) hx hb d_M_within_35 hl rfl (by decide) (by decide) rfl (fun ls hl => ?_)
      refine lv_goto (tgt := 4) hx hb d_M_within_38 (by decide) ?_
      refine lv_iload_n hx hb d_M_within_4 rfl (lv_at hl 0 rfl) ?_
      refine lv_aload_n hx hb d_M_within_5 rfl (lv_at hl 2 rfl) ?_
      refine va_get (D := D) (ci := 7) (v := .int (3 : Int32)) (C := cn_M) (T := ft_M) (N := 19) hx hb hf_M (fun _ h => h) hown hK hP 0 rfl rfl 1 (by decide) (gw.at G hx0 mw_714 rfl _) (fun _ h9 => h9) rfl d_M_within_6 ?_
      refine lv_icmp_ge (tgt := 41) hx hb d_M_within_9 (by decide) (fun h99 => absurd h99 (by decide)) (fun _ => ?_)
      refine lv_iload_n hx hb d_M_within_12 rfl (lv_at hl 1 rfl) ?_
      refine lv_if_eq (tgt := 33) hx hb d_M_within_13 (by decide) (fun h99 => absurd h99 (by decide)) (fun _ => ?_)
      refine lv_aload_n hx hb d_M_within_16 rfl (lv_at hl 2 rfl) ?_
      refine va_get (D := D) (ci := 7) (v := .ref vt) (C := cn_M) (T := ft_M) (N := 19) hx hb hf_M (fun _ h => h) hown hK hP 0 rfl rfl 17 (by decide) (gw.at G hx0 mw_730 rfl _) (fun _ h9 => h9) rfl d_M_within_17 ?_
      refine lv_iload_n hx hb d_M_within_20 rfl (lv_at hl 0 rfl) ?_
      refine va_iald hx hb hK hP 1 0 rfl rfl (vp_in_iff.mpr (by decide)) d_M_within_21 ?_
      refine tp_i (y := vf 2) (by rfl) ?_
      refine lv_iload_n hx hb d_M_within_22 rfl (lv_at hl 3 rfl) ?_
      by_cases h_3 : inw r (vf 2) = true
      · refine cx_call (D := D) (cl := kl) (ws := _) (wc := []) (wr := [(m0, .inr (7, [.int th, .int (3 : Int32), .int (0 : Int32), .ref rw, .int (0 : Int32), .int (0 : Int32), .int (0 : Int32), .ref ry, .int (0 : Int32), .int (0 : Int32), .ref ti, .int (0 : Int32), .int (0 : Int32), .ref po, .ref su, .ref sq, .ref ch, .ref vt, .ref sh])), (vt, .inl (cI, 4, .inl vf))]) (tx_runS (As := [.int (vf 2), .int r]) (rest := []) hx hb hml hown (c_M_in_y E H.size (vf 2) r h_3) (cx_C (b0 := b0) G hx0 mw_790 mw_9 ny_M_in (by decide)) (gw.at G hx0 mw_788 rfl _) (gw.at G hx0 mw_789 rfl _) (gw.at G hx0 mw_9 rfl _) ⟨cx_blind, (cx_pre (s := s) hx0 hP hD hS hA0 [] rfl rfl (by decide))⟩ rfl rfl hl.1 rfl (lv_room (Nat.le_of_ble_eq_true rfl)) d_M_within_23 ⟨by decide, by decide⟩) hP hD hS hA [] [0, 1] rfl rfl (by decide) (by decide) (fun v t w1 H locs ht hW9 hp hP hD hS => ?_) (fun x t w1 H locs ht hW9 hp hP hD hS => by obtain ⟨h9, -⟩ := hp; cases h9)
        obtain ⟨h9, rfl⟩ := hp
        cases h9
        refine W.eq (g2 := F0 m 26 ls [.int (1 : Int32)]) rfl ?_
        refine W.widen (k := 0) (n := 0) (by decide) (by decide) ?_
        have hP : va_P D kl [(m0, .inr (7, [.int th, .int (3 : Int32), .int (0 : Int32), .ref rw, .int (0 : Int32), .int (0 : Int32), .int (0 : Int32), .ref ry, .int (0 : Int32), .int (0 : Int32), .ref ti, .int (0 : Int32), .int (0 : Int32), .ref po, .ref su, .ref sq, .ref ch, .ref vt, .ref sh])), (vt, .inl (cI, 4, .inl vf))] H := hP
        have hD : va_D A [(m0, .inr (7, [.int th, .int (3 : Int32), .int (0 : Int32), .ref rw, .int (0 : Int32), .int (0 : Int32), .int (0 : Int32), .ref ry, .int (0 : Int32), .int (0 : Int32), .ref ti, .int (0 : Int32), .int (0 : Int32), .ref po, .ref su, .ref sq, .ref ch, .ref vt, .ref sh])), (vt, .inl (cI, 4, .inl vf))] := hD
        refine lv_if_eq (tgt := 33) hx hb d_M_within_26 (by decide) (fun h99 => absurd h99 (by decide)) (fun _ => ?_)
        refine lv_iconst (v := (1 : Int32)) hx hb d_M_within_29 (by decide) ?_
        refine lv_goto (tgt := 34) hx hb d_M_within_30 (by decide) ?_
        refine lv_istore_n (lv' := [(2, .int (1 : Int32)), (3, .int (2 : Int32)), (0, .ref m0), (1, .int r)]) hx hb d_M_within_34 rfl hl (by decide) rfl (fun ls hl => ?_)
        refine lv_iinc (lv' := [(3, .int (3 : Int32)), (2, .int (1 : Int32)), (0, .ref m0), (1, .int r)]) (k := 1) (v := (3 : Int32)) hx hb d_M_within_35 hl rfl (by decide) (by decide) rfl (fun ls hl => ?_)
        refine lv_goto (tgt := 4) hx hb d_M_within_38 (by decide) ?_
        refine lv_iload_n hx hb d_M_within_4 rfl (lv_at hl 0 rfl) ?_
        refine lv_aload_n hx hb d_M_within_5 rfl (lv_at hl 2 rfl) ?_
        refine va_get (D := D) (ci := 7) (v := .int (3 : Int32)) (C := cn_M) (T := ft_M) (N := 19) hx hb hf_M (fun _ h => h) hown hK hP 0 rfl rfl 1 (by decide) (gw.at G hx0 mw_714 rfl _) (fun _ h9 => h9) rfl d_M_within_6 ?_
        refine lv_icmp_ge (tgt := 41) hx hb d_M_within_9 (by decide) (fun _ => ?_) (fun h99 => absurd h99 (by decide))
        refine lv_iload_n hx hb d_M_within_41 rfl (lv_at hl 1 rfl) ?_
        exact absurd ⟨h_1, h_2, h_3⟩ h
      · refine cx_call (D := D) (cl := kl) (ws := _) (wc := []) (wr := [(m0, .inr (7, [.int th, .int (3 : Int32), .int (0 : Int32), .ref rw, .int (0 : Int32), .int (0 : Int32), .int (0 : Int32), .ref ry, .int (0 : Int32), .int (0 : Int32), .ref ti, .int (0 : Int32), .int (0 : Int32), .ref po, .ref su, .ref sq, .ref ch, .ref vt, .ref sh])), (vt, .inl (cI, 4, .inl vf))]) (tx_runS (As := [.int (vf 2), .int r]) (rest := []) hx hb hml hown (c_M_in_n E H.size (vf 2) r h_3) (cx_C (b0 := b0) G hx0 mw_790 mw_9 ny_M_in (by decide)) (gw.at G hx0 mw_788 rfl _) (gw.at G hx0 mw_789 rfl _) (gw.at G hx0 mw_9 rfl _) ⟨cx_blind, (cx_pre (s := s) hx0 hP hD hS hA0 [] rfl rfl (by decide))⟩ rfl rfl hl.1 rfl (lv_room (Nat.le_of_ble_eq_true rfl)) d_M_within_23 ⟨by decide, by decide⟩) hP hD hS hA [] [0, 1] rfl rfl (by decide) (by decide) (fun v t w1 H locs ht hW9 hp hP hD hS => ?_) (fun x t w1 H locs ht hW9 hp hP hD hS => by obtain ⟨h9, -⟩ := hp; cases h9)
        obtain ⟨h9, rfl⟩ := hp
        cases h9
        refine W.eq (g2 := F0 m 26 ls [.int (0 : Int32)]) rfl ?_
        refine W.widen (k := 0) (n := 0) (by decide) (by decide) ?_
        have hP : va_P D kl [(m0, .inr (7, [.int th, .int (3 : Int32), .int (0 : Int32), .ref rw, .int (0 : Int32), .int (0 : Int32), .int (0 : Int32), .ref ry, .int (0 : Int32), .int (0 : Int32), .ref ti, .int (0 : Int32), .int (0 : Int32), .ref po, .ref su, .ref sq, .ref ch, .ref vt, .ref sh])), (vt, .inl (cI, 4, .inl vf))] H := hP
        have hD : va_D A [(m0, .inr (7, [.int th, .int (3 : Int32), .int (0 : Int32), .ref rw, .int (0 : Int32), .int (0 : Int32), .int (0 : Int32), .ref ry, .int (0 : Int32), .int (0 : Int32), .ref ti, .int (0 : Int32), .int (0 : Int32), .ref po, .ref su, .ref sq, .ref ch, .ref vt, .ref sh])), (vt, .inl (cI, 4, .inl vf))] := hD
        refine lv_if_eq (tgt := 33) hx hb d_M_within_26 (by decide) (fun _ => ?_) (fun h99 => absurd h99 (by decide))
        refine lv_iconst (v := (0 : Int32)) hx hb d_M_within_33 (by decide) ?_
        refine lv_istore_n (lv' := [(2, .int (0 : Int32)), (3, .int (2 : Int32)), (0, .ref m0), (1, .int r)]) hx hb d_M_within_34 rfl hl (by decide) rfl (fun ls hl => ?_)
        refine lv_iinc (lv' := [(3, .int (3 : Int32)), (2, .int (0 : Int32)), (0, .ref m0), (1, .int r)]) (k := 1) (v := (3 : Int32)) hx hb d_M_within_35 hl rfl (by decide) (by decide) rfl (fun ls hl => ?_)
        refine lv_goto (tgt := 4) hx hb d_M_within_38 (by decide) ?_
        refine lv_iload_n hx hb d_M_within_4 rfl (lv_at hl 0 rfl) ?_
        refine lv_aload_n hx hb d_M_within_5 rfl (lv_at hl 2 rfl) ?_
        refine va_get (D := D) (ci := 7) (v := .int (3 : Int32)) (C := cn_M) (T := ft_M) (N := 19) hx hb hf_M (fun _ h => h) hown hK hP 0 rfl rfl 1 (by decide) (gw.at G hx0 mw_714 rfl _) (fun _ h9 => h9) rfl d_M_within_6 ?_
        refine lv_icmp_ge (tgt := 41) hx hb d_M_within_9 (by decide) (fun _ => ?_) (fun h99 => absurd h99 (by decide))
        refine lv_iload_n hx hb d_M_within_41 rfl (lv_at hl 1 rfl) ?_
        exact tx_mono (fun _ h => tx_Z.of h) (W.zret (v := (0 : Int32)) hx hb hr (by decide) (fun t ht hW => ⟨⟨[(m0, .inr (7, [.int th, .int (3 : Int32), .int (0 : Int32), .ref rw, .int (0 : Int32), .int (0 : Int32), .int (0 : Int32), .ref ry, .int (0 : Int32), .int (0 : Int32), .ref ti, .int (0 : Int32), .int (0 : Int32), .ref po, .ref su, .ref sq, .ref ch, .ref vt, .ref sh])), (vt, .inl (cI, 4, .inl vf))], ⟨rfl, rfl⟩, by rw [ht]; exact hP.sub [0, 1] rfl, hD.sub [0, 1] (by decide) rfl⟩, hS.F ht⟩) hS.2.2 d_M_within_42)
    · refine cx_call (D := D) (cl := kl) (ws := _) (wc := []) (wr := [(m0, .inr (7, [.int th, .int (3 : Int32), .int (0 : Int32), .ref rw, .int (0 : Int32), .int (0 : Int32), .int (0 : Int32), .ref ry, .int (0 : Int32), .int (0 : Int32), .ref ti, .int (0 : Int32), .int (0 : Int32), .ref po, .ref su, .ref sq, .ref ch, .ref vt, .ref sh])), (vt, .inl (cI, 4, .inl vf))]) (tx_runS (As := [.int (vf 1), .int r]) (rest := []) hx hb hml hown (c_M_in_n E H.size (vf 1) r h_2) (cx_C (b0 := b0) G hx0 mw_790 mw_9 ny_M_in (by decide)) (gw.at G hx0 mw_788 rfl _) (gw.at G hx0 mw_789 rfl _) (gw.at G hx0 mw_9 rfl _) ⟨cx_blind, (cx_pre (s := s) hx0 hP hD hS hA0 [] rfl rfl (by decide))⟩ rfl rfl hl.1 rfl (lv_room (Nat.le_of_ble_eq_true rfl)) d_M_within_23 ⟨by decide, by decide⟩) hP hD hS hA [] [0, 1] rfl rfl (by decide) (by decide) (fun v t w1 H locs ht hW9 hp hP hD hS => ?_) (fun x t w1 H locs ht hW9 hp hP hD hS => by obtain ⟨h9, -⟩ := hp; cases h9)
      obtain ⟨h9, rfl⟩ := hp
      cases h9
      refine W.eq (g2 := F0 m 26 ls [.int (0 : Int32)]) rfl ?_
      refine W.widen (k := 0) (n := 0) (by decide) (by decide) ?_
      have hP : va_P D kl [(m0, .inr (7, [.int th, .int (3 : Int32), .int (0 : Int32), .ref rw, .int (0 : Int32), .int (0 : Int32), .int (0 : Int32), .ref ry, .int (0 : Int32), .int (0 : Int32), .ref ti, .int (0 : Int32), .int (0 : Int32), .ref po, .ref su, .ref sq, .ref ch, .ref vt, .ref sh])), (vt, .inl (cI, 4, .inl vf))] H := hP
      have hD : va_D A [(m0, .inr (7, [.int th, .int (3 : Int32), .int (0 : Int32), .ref rw, .int (0 : Int32), .int (0 : Int32), .int (0 : Int32), .ref ry, .int (0 : Int32), .int (0 : Int32), .ref ti, .int (0 : Int32), .int (0 : Int32), .ref po, .ref su, .ref sq, .ref ch, .ref vt, .ref sh])), (vt, .inl (cI, 4, .inl vf))] := hD
      refine lv_if_eq (tgt := 33) hx hb d_M_within_26 (by decide) (fun _ => ?_) (fun h99 => absurd h99 (by decide))
      refine lv_iconst (v := (0 : Int32)) hx hb d_M_within_33 (by decide) ?_
      refine lv_istore_n (lv' := [(2, .int (0 : Int32)), (3, .int (1 : Int32)), (0, .ref m0), (1, .int r)]) hx hb d_M_within_34 rfl hl (by decide) rfl (fun ls hl => ?_)
      refine lv_iinc (lv' := [(3, .int (2 : Int32)), (2, .int (0 : Int32)), (0, .ref m0), (1, .int r)]) (k := 1) (v := (2 : Int32)) hx hb d_M_within_35 hl rfl (by decide) (by decide) rfl (fun ls hl => ?_)
      refine lv_goto (tgt := 4) hx hb d_M_within_38 (by decide) ?_
      refine lv_iload_n hx hb d_M_within_4 rfl (lv_at hl 0 rfl) ?_
      refine lv_aload_n hx hb d_M_within_5 rfl (lv_at hl 2 rfl) ?_
      refine va_get (D := D) (ci := 7) (v := .int (3 : Int32)) (C := cn_M) (T := ft_M) (N := 19) hx hb hf_M (fun _ h => h) hown hK hP 0 rfl rfl 1 (by decide) (gw.at G hx0 mw_714 rfl _) (fun _ h9 => h9) rfl d_M_within_6 ?_
      refine lv_icmp_ge (tgt := 41) hx hb d_M_within_9 (by decide) (fun h99 => absurd h99 (by decide)) (fun _ => ?_)
      refine lv_iload_n hx hb d_M_within_12 rfl (lv_at hl 1 rfl) ?_
      refine lv_if_eq (tgt := 33) hx hb d_M_within_13 (by decide) (fun _ => ?_) (fun h99 => absurd h99 (by decide))
      refine lv_iconst (v := (0 : Int32)) hx hb d_M_within_33 (by decide) ?_
      refine lv_istore_n (lv' := [(2, .int (0 : Int32)), (3, .int (2 : Int32)), (0, .ref m0), (1, .int r)]) hx hb d_M_within_34 rfl hl (by decide) rfl (fun ls hl => ?_)
      refine lv_iinc (lv' := [(3, .int (3 : Int32)), (2, .int (0 : Int32)), (0, .ref m0), (1, .int r)]) (k := 1) (v := (3 : Int32)) hx hb d_M_within_35 hl rfl (by decide) (by decide) rfl (fun ls hl => ?_)
      refine lv_goto (tgt := 4) hx hb d_M_within_38 (by decide) ?_
      refine lv_iload_n hx hb d_M_within_4 rfl (lv_at hl 0 rfl) ?_
      refine lv_aload_n hx hb d_M_within_5 rfl (lv_at hl 2 rfl) ?_
      refine va_get (D := D) (ci := 7) (v := .int (3 : Int32)) (C := cn_M) (T := ft_M) (N := 19) hx hb hf_M (fun _ h => h) hown hK hP 0 rfl rfl 1 (by decide) (gw.at G hx0 mw_714 rfl _) (fun _ h9 => h9) rfl d_M_within_6 ?_
      refine lv_icmp_ge (tgt := 41) hx hb d_M_within_9 (by decide) (fun _ => ?_) (fun h99 => absurd h99 (by decide))
      refine lv_iload_n hx hb d_M_within_41 rfl (lv_at hl 1 rfl) ?_
      exact tx_mono (fun _ h => tx_Z.of h) (W.zret (v := (0 : Int32)) hx hb hr (by decide) (fun t ht hW => ⟨⟨[(m0, .inr (7, [.int th, .int (3 : Int32), .int (0 : Int32), .ref rw, .int (0 : Int32), .int (0 : Int32), .int (0 : Int32), .ref ry, .int (0 : Int32), .int (0 : Int32), .ref ti, .int (0 : Int32), .int (0 : Int32), .ref po, .ref su, .ref sq, .ref ch, .ref vt, .ref sh])), (vt, .inl (cI, 4, .inl vf))], ⟨rfl, rfl⟩, by rw [ht]; exact hP.sub [0, 1] rfl, hD.sub [0, 1] (by decide) rfl⟩, hS.F ht⟩) hS.2.2 d_M_within_42)
  · refine cx_call (D := D) (cl := kl) (ws := _) (wc := []) (wr := [(m0, .inr (7, [.int th, .int (3 : Int32), .int (0 : Int32), .ref rw, .int (0 : Int32), .int (0 : Int32), .int (0 : Int32), .ref ry, .int (0 : Int32), .int (0 : Int32), .ref ti, .int (0 : Int32), .int (0 : Int32), .ref po, .ref su, .ref sq, .ref ch, .ref vt, .ref sh])), (vt, .inl (cI, 4, .inl vf))]) (tx_runS (As := [.int (vf 0), .int r]) (rest := []) hx hb hml hown (c_M_in_n E s.heap.size (vf 0) r h_1) (cx_C (b0 := b0) G hx0 mw_790 mw_9 ny_M_in (by decide)) (gw.at G hx0 mw_788 rfl _) (gw.at G hx0 mw_789 rfl _) (gw.at G hx0 mw_9 rfl _) ⟨cx_blind, (cx_pre (s := s) hx0 hP hD hS hA0 [] rfl rfl (by decide))⟩ rfl rfl hl.1 rfl (lv_room (Nat.le_of_ble_eq_true rfl)) d_M_within_23 ⟨by decide, by decide⟩) hP hD hS hA [] [0, 1] rfl rfl (by decide) (by decide) (fun v t w1 H locs ht hW9 hp hP hD hS => ?_) (fun x t w1 H locs ht hW9 hp hP hD hS => by obtain ⟨h9, -⟩ := hp; cases h9)
    obtain ⟨h9, rfl⟩ := hp
    cases h9
    refine W.eq (g2 := F0 m 26 ls [.int (0 : Int32)]) rfl ?_
    refine W.widen (k := 0) (n := 0) (by decide) (by decide) ?_
    have hP : va_P D kl [(m0, .inr (7, [.int th, .int (3 : Int32), .int (0 : Int32), .ref rw, .int (0 : Int32), .int (0 : Int32), .int (0 : Int32), .ref ry, .int (0 : Int32), .int (0 : Int32), .ref ti, .int (0 : Int32), .int (0 : Int32), .ref po, .ref su, .ref sq, .ref ch, .ref vt, .ref sh])), (vt, .inl (cI, 4, .inl vf))] H := hP
    have hD : va_D A [(m0, .inr (7, [.int th, .int (3 : Int32), .int (0 : Int32), .ref rw, .int (0 : Int32), .int (0 : Int32), .int (0 : Int32), .ref ry, .int (0 : Int32), .int (0 : Int32), .ref ti, .int (0 : Int32), .int (0 : Int32), .ref po, .ref su, .ref sq, .ref ch, .ref vt, .ref sh])), (vt, .inl (cI, 4, .inl vf))] := hD
    refine lv_if_eq (tgt := 33) hx hb d_M_within_26 (by decide) (fun _ => ?_) (fun h99 => absurd h99 (by decide))
    refine lv_iconst (v := (0 : Int32)) hx hb d_M_within_33 (by decide) ?_
    refine lv_istore_n (lv' := [(2, .int (0 : Int32)), (3, .int (0 : Int32)), (0, .ref m0), (1, .int r)]) hx hb d_M_within_34 rfl hl (by decide) rfl (fun ls hl => ?_)
    refine lv_iinc (lv' := [(3, .int (1 : Int32)), (2, .int (0 : Int32)), (0, .ref m0), (1, .int r)]) (k := 1) (v := (1 : Int32)) hx hb d_M_within_35 hl rfl (by decide) (by decide) rfl (fun ls hl => ?_)
    refine lv_goto (tgt := 4) hx hb d_M_within_38 (by decide) ?_
    refine lv_iload_n hx hb d_M_within_4 rfl (lv_at hl 0 rfl) ?_
    refine lv_aload_n hx hb d_M_within_5 rfl (lv_at hl 2 rfl) ?_
    refine va_get (D := D) (ci := 7) (v := .int (3 : Int32)) (C := cn_M) (T := ft_M) (N := 19) hx hb hf_M (fun _ h => h) hown hK hP 0 rfl rfl 1 (by decide) (gw.at G hx0 mw_714 rfl _) (fun _ h9 => h9) rfl d_M_within_6 ?_
    refine lv_icmp_ge (tgt := 41) hx hb d_M_within_9 (by decide) (fun h99 => absurd h99 (by decide)) (fun _ => ?_)
    refine lv_iload_n hx hb d_M_within_12 rfl (lv_at hl 1 rfl) ?_
    refine lv_if_eq (tgt := 33) hx hb d_M_within_13 (by decide) (fun _ => ?_) (fun h99 => absurd h99 (by decide))
    refine lv_iconst (v := (0 : Int32)) hx hb d_M_within_33 (by decide) ?_
    refine lv_istore_n (lv' := [(2, .int (0 : Int32)), (3, .int (1 : Int32)), (0, .ref m0), (1, .int r)]) hx hb d_M_within_34 rfl hl (by decide) rfl (fun ls hl => ?_)
    refine lv_iinc (lv' := [(3, .int (2 : Int32)), (2, .int (0 : Int32)), (0, .ref m0), (1, .int r)]) (k := 1) (v := (2 : Int32)) hx hb d_M_within_35 hl rfl (by decide) (by decide) rfl (fun ls hl => ?_)
    refine lv_goto (tgt := 4) hx hb d_M_within_38 (by decide) ?_
    refine lv_iload_n hx hb d_M_within_4 rfl (lv_at hl 0 rfl) ?_
    refine lv_aload_n hx hb d_M_within_5 rfl (lv_at hl 2 rfl) ?_
    refine va_get (D := D) (ci := 7) (v := .int (3 : Int32)) (C := cn_M) (T := ft_M) (N := 19) hx hb hf_M (fun _ h => h) hown hK hP 0 rfl rfl 1 (by decide) (gw.at G hx0 mw_714 rfl _) (fun _ h9 => h9) rfl d_M_within_6 ?_
    refine lv_icmp_ge (tgt := 41) hx hb d_M_within_9 (by decide) (fun h99 => absurd h99 (by decide)) (fun _ => ?_)
    refine lv_iload_n hx hb d_M_within_12 rfl (lv_at hl 1 rfl) ?_
    refine lv_if_eq (tgt := 33) hx hb d_M_within_13 (by decide) (fun _ => ?_) (fun h99 => absurd h99 (by decide))
    refine lv_iconst (v := (0 : Int32)) hx hb d_M_within_33 (by decide) ?_
    refine lv_istore_n (lv' := [(2, .int (0 : Int32)), (3, .int (2 : Int32)), (0, .ref m0), (1, .int r)]) hx hb d_M_within_34 rfl hl (by decide) rfl (fun ls hl => ?_)
    refine lv_iinc (lv' := [(3, .int (3 : Int32)), (2, .int (0 : Int32)), (0, .ref m0), (1, .int r)]) (k := 1) (v := (3 : Int32)) hx hb d_M_within_35 hl rfl (by decide) (by decide) rfl (fun ls hl => ?_)
    refine lv_goto (tgt := 4) hx hb d_M_within_38 (by decide) ?_
    refine lv_iload_n hx hb d_M_within_4 rfl (lv_at hl 0 rfl) ?_
    refine lv_aload_n hx hb d_M_within_5 rfl (lv_at hl 2 rfl) ?_
    refine va_get (D := D) (ci := 7) (v := .int (3 : Int32)) (C := cn_M) (T := ft_M) (N := 19) hx hb hf_M (fun _ h => h) hown hK hP 0 rfl rfl 1 (by decide) (gw.at G hx0 mw_714 rfl _) (fun _ h9 => h9) rfl d_M_within_6 ?_
    refine lv_icmp_ge (tgt := 41) hx hb d_M_within_9 (by decide) (fun _ => ?_) (fun h99 => absurd h99 (by decide))
    refine lv_iload_n hx hb d_M_within_41 rfl (lv_at hl 1 rfl) ?_
    exact tx_mono (fun _ h => tx_Z.of h) (W.zret (v := (0 : Int32)) hx hb hr (by decide) (fun t ht hW => ⟨⟨[(m0, .inr (7, [.int th, .int (3 : Int32), .int (0 : Int32), .ref rw, .int (0 : Int32), .int (0 : Int32), .int (0 : Int32), .ref ry, .int (0 : Int32), .int (0 : Int32), .ref ti, .int (0 : Int32), .int (0 : Int32), .ref po, .ref su, .ref sq, .ref ch, .ref vt, .ref sh])), (vt, .inl (cI, 4, .inl vf))], ⟨rfl, rfl⟩, by rw [ht]; exact hP.sub [0, 1] rfl, hD.sub [0, 1] (by decide) rfl⟩, hS.F ht⟩) hS.2.2 d_M_within_42)

set_option maxHeartbeats 4000000 in
set_option maxRecDepth 100000 in
theorem c_M_set4 {l : Launch} {s0 : State} {b0 : Addr} {D : va_G} {cI cJ cZ : ClassId} {tC tS : Nat} (E : gE l s0 b0 D cI cJ cZ tC tS) (sz : Nat) (m0 : Nat) (rw : Nat) (ry : Nat) (ti : Nat) (po : Nat) (su : Nat) (sq : Nat) (ch : Nat) (vt : Nat) (sh : Nat) (th : Int32) (a : Int32) (b : Int32) (c2 : Int32) (d2 : Int32) (vf : Nat → Int32) : cx_M l s0 D kl y_M_set b_M_set 5 none ({ frames := 0, cells := 0, slots := 0, locals := 0 } : Room) 0 0 [.ref m0, .int a, .int b, .int c2, .int d2] [(m0, .inr (7, [.int th, .int (4 : Int32), .int (0 : Int32), .ref rw, .int (0 : Int32), .int (0 : Int32), .int (0 : Int32), .ref ry, .int (0 : Int32), .int (0 : Int32), .ref ti, .int (0 : Int32), .int (0 : Int32), .ref po, .ref su, .ref sq, .ref ch, .ref vt, .ref sh])), (vt, .inl (cI, 4, .inl vf))] sz (fun o9 _ w9 => o9 = .returned none ∧ w9 = [(m0, .inr (7, [.int th, .int (4 : Int32), .int (0 : Int32), .ref rw, .int (0 : Int32), .int (0 : Int32), .int (0 : Int32), .ref ry, .int (0 : Int32), .int (0 : Int32), .ref ti, .int (0 : Int32), .int (0 : Int32), .ref po, .ref su, .ref sq, .ref ch, .ref vt, .ref sh])), (vt, .inl (cI, 4, .inl (upd (upd (upd (upd vf 0 a) 1 b) 2 c2) 3 d2)))]) := by
  refine tx_ofW (cc := b_M_set) (maxL := 5) (ret := none) (by decide) rfl ?_
  intro p e s m args below meth c s₁ B hml hT hv
  obtain ⟨rfl, hsz, hP, hD0, hx0⟩ := hv
  have hx := B.exec
  have hb := B.bytes
  have hr := B.returns
  have G := E.2.1
  have hown : s.vm.findClass cn_M = some m.cls := findClass_of_methodNamed B.named
  have hlocks := B.notSynchronized
  have hK := va_K.moved hx0.1.alike E.2.2.1
  have hf_M : ∀ w99 ∈ u_ws cn_M ft_M 19, w99.before ([.ref m0, .int a, .int b, .int c2, .int d2] : List Value).toArray s = true := fun w99 h99 => gw.at G hx0 (fw_M w99 h99) (fo_M w99 h99) _
  subst hsz
  have hA0 := cx_new hD0 hx0.2.1
  have hD := hD0.self (sz := s.heap.size)
  generalize hAe : va_A [(m0, .inr (7, [.int th, .int (4 : Int32), .int (0 : Int32), .ref rw, .int (0 : Int32), .int (0 : Int32), .int (0 : Int32), .ref ry, .int (0 : Int32), .int (0 : Int32), .ref ti, .int (0 : Int32), .int (0 : Int32), .ref po, .ref su, .ref sq, .ref ch, .ref vt, .ref sh])), (vt, .inl (cI, 4, .inl vf))] s.heap.size = A at hD hA0 ⊢
  have hA : ∀ q : Nat, s.heap.size ≤ q → A q := fun q h => by rw [← hAe]; exact Or.inr h
  have hS : va_S A s.heap s.heap [] := va_S.rf
  have hl := lv_entry ([.ref m0, .int a, .int b, .int c2, .int d2]) (n := 5) (Nat.le_of_ble_eq_true rfl)
  rw [lg_entry_eq]
  generalize (lg_sl ([.ref m0, .int a, .int b, .int c2, .int d2]) ++ List.replicate (5 - (lg_sl ([.ref m0, .int a, .int b, .int c2, .int d2])).length) Slot.unset).toArray = ls at hl ⊢
  have hl : lv_has ls 5 [(0, .ref m0), (1, .int a), (2, .int b), (3, .int c2), (4, .int d2)] := hl
  have hP : va_P D kl [(m0, .inr (7, [.int th, .int (4 : Int32), .int (0 : Int32), .ref rw, .int (0 : Int32), .int (0 : Int32), .int (0 : Int32), .ref ry, .int (0 : Int32), .int (0 : Int32), .ref ti, .int (0 : Int32), .int (0 : Int32), .ref po, .ref su, .ref sq, .ref ch, .ref vt, .ref sh])), (vt, .inl (cI, 4, .inl vf))] s.heap := hP
  have hml : c.maxLocals = 5 := hml
  refine lv_aload_n hx hb d_M_set_0 rfl (lv_at hl 0 rfl) ?_
  refine va_get (D := D) (ci := 7) (v := .ref vt) (C := cn_M) (T := ft_M) (N := 19) hx hb hf_M (fun _ h => h) hown hK hP 0 rfl rfl 17 (by decide) (gw.at G hx0 mw_730 rfl _) (fun _ h9 => h9) rfl d_M_set_1 ?_
  refine lv_iconst (v := (0 : Int32)) hx hb d_M_set_4 (by decide) ?_
  refine lv_iload_n hx hb d_M_set_5 rfl (lv_at hl 1 rfl) ?_
  refine va_iast hx hb hK hP hD hS 1 0 rfl rfl (vp_in_iff.mpr (by decide)) d_M_set_6 (fun H locs hP hD hS => ?_)
  have hP : va_P D kl [(m0, .inr (7, [.int th, .int (4 : Int32), .int (0 : Int32), .ref rw, .int (0 : Int32), .int (0 : Int32), .int (0 : Int32), .ref ry, .int (0 : Int32), .int (0 : Int32), .ref ti, .int (0 : Int32), .int (0 : Int32), .ref po, .ref su, .ref sq, .ref ch, .ref vt, .ref sh])), (vt, .inl (cI, 4, .inl (upd vf 0 a)))] H := hP
  have hD : va_D A [(m0, .inr (7, [.int th, .int (4 : Int32), .int (0 : Int32), .ref rw, .int (0 : Int32), .int (0 : Int32), .int (0 : Int32), .ref ry, .int (0 : Int32), .int (0 : Int32), .ref ti, .int (0 : Int32), .int (0 : Int32), .ref po, .ref su, .ref sq, .ref ch, .ref vt, .ref sh])), (vt, .inl (cI, 4, .inl (upd vf 0 a)))] := hD
  refine lv_aload_n hx hb d_M_set_7 rfl (lv_at hl 0 rfl) ?_
  refine va_get (D := D) (ci := 7) (v := .ref vt) (C := cn_M) (T := ft_M) (N := 19) hx hb hf_M (fun _ h => h) hown hK hP 0 rfl rfl 17 (by decide) (gw.at G hx0 mw_730 rfl _) (fun _ h9 => h9) rfl d_M_set_8 ?_
  refine lv_iconst (v := (1 : Int32)) hx hb d_M_set_11 (by decide) ?_
  refine lv_iload_n hx hb d_M_set_12 rfl (lv_at hl 2 rfl) ?_
  refine va_iast hx hb hK hP hD hS 1 0 rfl rfl (vp_in_iff.mpr (by decide)) d_M_set_13 (fun H locs hP hD hS => ?_)
  have hP : va_P D kl [(m0, .inr (7, [.int th, .int (4 : Int32), .int (0 : Int32), .ref rw, .int (0 : Int32), .int (0 : Int32), .int (0 : Int32), .ref ry, .int (0 : Int32), .int (0 : Int32), .ref ti, .int (0 : Int32), .int (0 : Int32), .ref po, .ref su, .ref sq, .ref ch, .ref vt, .ref sh])), (vt, .inl (cI, 4, .inl (upd (upd vf 0 a) 1 b)))] H := hP
  have hD : va_D A [(m0, .inr (7, [.int th, .int (4 : Int32), .int (0 : Int32), .ref rw, .int (0 : Int32), .int (0 : Int32), .int (0 : Int32), .ref ry, .int (0 : Int32), .int (0 : Int32), .ref ti, .int (0 : Int32), .int (0 : Int32), .ref po, .ref su, .ref sq, .ref ch, .ref vt, .ref sh])), (vt, .inl (cI, 4, .inl (upd (upd vf 0 a) 1 b)))] := hD
  refine lv_aload_n hx hb d_M_set_14 rfl (lv_at hl 0 rfl) ?_
  refine va_get (D := D) (ci := 7) (v := .ref vt) (C := cn_M) (T := ft_M) (N := 19) hx hb hf_M (fun _ h => h) hown hK hP 0 rfl rfl 17 (by decide) (gw.at G hx0 mw_730 rfl _) (fun _ h9 => h9) rfl d_M_set_15 ?_
  refine lv_iconst (v := (2 : Int32)) hx hb d_M_set_18 (by decide) ?_
  refine lv_aload_n hx hb d_M_set_19 rfl (lv_at hl 0 rfl) ?_
  refine va_get (D := D) (ci := 7) (v := .int (4 : Int32)) (C := cn_M) (T := ft_M) (N := 19) hx hb hf_M (fun _ h => h) hown hK hP 0 rfl rfl 1 (by decide) (gw.at G hx0 mw_714 rfl _) (fun _ h9 => h9) rfl d_M_set_20 ?_
  refine lv_iconst (v := (2 : Int32)) hx hb d_M_set_23 (by decide) ?_
  refine lv_icmp_le (tgt := 31) hx hb d_M_set_24 (by decide) (fun h99 => absurd h99 (by decide)) (fun _ => ?_)
  refine lv_iload_n hx hb d_M_set_27 rfl (lv_at hl 3 rfl) ?_
  refine lv_goto (tgt := 32) hx hb d_M_set_28 (by decide) ?_
  refine va_iast hx hb hK hP hD hS 1 0 rfl rfl (vp_in_iff.mpr (by decide)) d_M_set_32 (fun H locs hP hD hS => ?_)
  have hP : va_P D kl [(m0, .inr (7, [.int th, .int (4 : Int32), .int (0 : Int32), .ref rw, .int (0 : Int32), .int (0 : Int32), .int (0 : Int32), .ref ry, .int (0 : Int32), .int (0 : Int32), .ref ti, .int (0 : Int32), .int (0 : Int32), .ref po, .ref su, .ref sq, .ref ch, .ref vt, .ref sh])), (vt, .inl (cI, 4, .inl (upd (upd (upd vf 0 a) 1 b) 2 c2)))] H := hP
  have hD : va_D A [(m0, .inr (7, [.int th, .int (4 : Int32), .int (0 : Int32), .ref rw, .int (0 : Int32), .int (0 : Int32), .int (0 : Int32), .ref ry, .int (0 : Int32), .int (0 : Int32), .ref ti, .int (0 : Int32), .int (0 : Int32), .ref po, .ref su, .ref sq, .ref ch, .ref vt, .ref sh])), (vt, .inl (cI, 4, .inl (upd (upd (upd vf 0 a) 1 b) 2 c2)))] := hD
  refine lv_aload_n hx hb d_M_set_33 rfl (lv_at hl 0 rfl) ?_
  refine va_get (D := D) (ci := 7) (v := .ref vt) (C := cn_M) (T := ft_M) (N := 19) hx hb hf_M (fun _ h => h) hown hK hP 0 rfl rfl 17 (by decide) (gw.at G hx0 mw_730 rfl _) (fun _ h9 => h9) rfl d_M_set_34 ?_
  refine lv_iconst (v := (3 : Int32)) hx hb d_M_set_37 (by decide) ?_
  refine lv_aload_n hx hb d_M_set_38 rfl (lv_at hl 0 rfl) ?_
  refine va_get (D := D) (ci := 7) (v := .int (4 : Int32)) (C := cn_M) (T := ft_M) (N := 19) hx hb hf_M (fun _ h => h) hown hK hP 0 rfl rfl 1 (by decide) (gw.at G hx0 mw_714 rfl _) (fun _ h9 => h9) rfl d_M_set_39 ?_
  refine lv_iconst (v := (3 : Int32)) hx hb d_M_set_42 (by decide) ?_
  refine lv_icmp_le (tgt := 51) hx hb d_M_set_43 (by decide) (fun h99 => absurd h99 (by decide)) (fun _ => ?_)
  refine lv_iload hx hb d_M_set_46 (lv_at hl 4 rfl) ?_
  refine lv_goto (tgt := 52) hx hb d_M_set_48 (by decide) ?_
  refine va_iast hx hb hK hP hD hS 1 0 rfl rfl (vp_in_iff.mpr (by decide)) d_M_set_52 (fun H locs hP hD hS => ?_)
  have hP : va_P D kl [(m0, .inr (7, [.int th, .int (4 : Int32), .int (0 : Int32), .ref rw, .int (0 : Int32), .int (0 : Int32), .int (0 : Int32), .ref ry, .int (0 : Int32), .int (0 : Int32), .ref ti, .int (0 : Int32), .int (0 : Int32), .ref po, .ref su, .ref sq, .ref ch, .ref vt, .ref sh])), (vt, .inl (cI, 4, .inl (upd (upd (upd (upd vf 0 a) 1 b) 2 c2) 3 d2)))] H := hP
  have hD : va_D A [(m0, .inr (7, [.int th, .int (4 : Int32), .int (0 : Int32), .ref rw, .int (0 : Int32), .int (0 : Int32), .int (0 : Int32), .ref ry, .int (0 : Int32), .int (0 : Int32), .ref ti, .int (0 : Int32), .int (0 : Int32), .ref po, .ref su, .ref sq, .ref ch, .ref vt, .ref sh])), (vt, .inl (cI, 4, .inl (upd (upd (upd (upd vf 0 a) 1 b) 2 c2) 3 d2)))] := hD
  exact tx_mono (fun _ h => tx_Z.of h) (W.vret hx hb hr (fun t ht hW => ⟨⟨[(m0, .inr (7, [.int th, .int (4 : Int32), .int (0 : Int32), .ref rw, .int (0 : Int32), .int (0 : Int32), .int (0 : Int32), .ref ry, .int (0 : Int32), .int (0 : Int32), .ref ti, .int (0 : Int32), .int (0 : Int32), .ref po, .ref su, .ref sq, .ref ch, .ref vt, .ref sh])), (vt, .inl (cI, 4, .inl (upd (upd (upd (upd vf 0 a) 1 b) 2 c2) 3 d2)))], ⟨rfl, rfl⟩, by rw [ht]; exact hP.sub [0, 1] rfl, hD.sub [0, 1] (by decide) rfl⟩, hS.F ht⟩) hS.2.2 d_M_set_53)

set_option maxHeartbeats 4000000 in
set_option maxRecDepth 100000 in
theorem c_M_within4_y {l : Launch} {s0 : State} {b0 : Addr} {D : va_G} {cI cJ cZ : ClassId} {tC tS : Nat} (E : gE l s0 b0 D cI cJ cZ tC tS) (sz : Nat) (m0 : Nat) (rw : Nat) (ry : Nat) (ti : Nat) (po : Nat) (su : Nat) (sq : Nat) (ch : Nat) (vt : Nat) (sh : Nat) (th : Int32) (r : Int32) (vf : Nat → Int32) (h : inw r (vf 0) = true ∧ inw r (vf 1) = true ∧ inw r (vf 2) = true ∧ inw r (vf 3) = true) : cx_M l s0 D kl y_M_within b_M_within 4 (some .boolean) ({ frames := 1, cells := 0, slots := 0, locals := 21 } : Room) 0 0 [.ref m0, .int r] [(m0, .inr (7, [.int th, .int (4 : Int32), .int (0 : Int32), .ref rw, .int (0 : Int32), .int (0 : Int32), .int (0 : Int32), .ref ry, .int (0 : Int32), .int (0 : Int32), .ref ti, .int (0 : Int32), .int (0 : Int32), .ref po, .ref su, .ref sq, .ref ch, .ref vt, .ref sh])), (vt, .inl (cI, 4, .inl vf))] sz (fun o9 _ w9 => o9 = .returned (some (.int (1 : Int32))) ∧ w9 = [(m0, .inr (7, [.int th, .int (4 : Int32), .int (0 : Int32), .ref rw, .int (0 : Int32), .int (0 : Int32), .int (0 : Int32), .ref ry, .int (0 : Int32), .int (0 : Int32), .ref ti, .int (0 : Int32), .int (0 : Int32), .ref po, .ref su, .ref sq, .ref ch, .ref vt, .ref sh])), (vt, .inl (cI, 4, .inl vf))]) := by
  refine tx_ofW (cc := b_M_within) (maxL := 4) (ret := (some .boolean)) (by decide) rfl ?_
  intro p e s m args below meth c s₁ B hml hT hv
  obtain ⟨rfl, hsz, hP, hD0, hx0⟩ := hv
  have hx := B.exec
  have hb := B.bytes
  have hr := B.returns
  have G := E.2.1
  have hown : s.vm.findClass cn_M = some m.cls := findClass_of_methodNamed B.named
  have hlocks := B.notSynchronized
  have hK := va_K.moved hx0.1.alike E.2.2.1
  have hf_M : ∀ w99 ∈ u_ws cn_M ft_M 19, w99.before ([.ref m0, .int r] : List Value).toArray s = true := fun w99 h99 => gw.at G hx0 (fw_M w99 h99) (fo_M w99 h99) _
  subst hsz
  have hA0 := cx_new hD0 hx0.2.1
  have hD := hD0.self (sz := s.heap.size)
  generalize hAe : va_A [(m0, .inr (7, [.int th, .int (4 : Int32), .int (0 : Int32), .ref rw, .int (0 : Int32), .int (0 : Int32), .int (0 : Int32), .ref ry, .int (0 : Int32), .int (0 : Int32), .ref ti, .int (0 : Int32), .int (0 : Int32), .ref po, .ref su, .ref sq, .ref ch, .ref vt, .ref sh])), (vt, .inl (cI, 4, .inl vf))] s.heap.size = A at hD hA0 ⊢
  have hA : ∀ q : Nat, s.heap.size ≤ q → A q := fun q h => by rw [← hAe]; exact Or.inr h
  have hS : va_S A s.heap s.heap [] := va_S.rf
  have hl := lv_entry ([.ref m0, .int r]) (n := 4) (Nat.le_of_ble_eq_true rfl)
  rw [lg_entry_eq]
  generalize (lg_sl ([.ref m0, .int r]) ++ List.replicate (4 - (lg_sl ([.ref m0, .int r])).length) Slot.unset).toArray = ls at hl ⊢
  have hl : lv_has ls 4 [(0, .ref m0), (1, .int r)] := hl
  have hP : va_P D kl [(m0, .inr (7, [.int th, .int (4 : Int32), .int (0 : Int32), .ref rw, .int (0 : Int32), .int (0 : Int32), .int (0 : Int32), .ref ry, .int (0 : Int32), .int (0 : Int32), .ref ti, .int (0 : Int32), .int (0 : Int32), .ref po, .ref su, .ref sq, .ref ch, .ref vt, .ref sh])), (vt, .inl (cI, 4, .inl vf))] s.heap := hP
  have hml : c.maxLocals = 4 := hml
  refine lv_iconst (v := (1 : Int32)) hx hb d_M_within_0 (by decide) ?_
  refine lv_istore_n (lv' := [(2, .int (1 : Int32)), (0, .ref m0), (1, .int r)]) hx hb d_M_within_1 rfl hl (by decide) rfl (fun ls hl => ?_)
  refine lv_iconst (v := (0 : Int32)) hx hb d_M_within_2 (by decide) ?_
  refine lv_istore_n (lv' := [(3, .int (0 : Int32)), (2, .int (1 : Int32)), (0, .ref m0), (1, .int r)]) hx hb d_M_within_3 rfl hl (by decide) rfl (fun ls hl => ?_)
  refine lv_iload_n hx hb d_M_within_4 rfl (lv_at hl 0 rfl) ?_
  refine lv_aload_n hx hb d_M_within_5 rfl (lv_at hl 2 rfl) ?_
  refine va_get (D := D) (ci := 7) (v := .int (4 : Int32)) (C := cn_M) (T := ft_M) (N := 19) hx hb hf_M (fun _ h => h) hown hK hP 0 rfl rfl 1 (by decide) (gw.at G hx0 mw_714 rfl _) (fun _ h9 => h9) rfl d_M_within_6 ?_
  refine lv_icmp_ge (tgt := 41) hx hb d_M_within_9 (by decide) (fun h99 => absurd h99 (by decide)) (fun _ => ?_)
  refine lv_iload_n hx hb d_M_within_12 rfl (lv_at hl 1 rfl) ?_
  refine lv_if_eq (tgt := 33) hx hb d_M_within_13 (by decide) (fun h99 => absurd h99 (by decide)) (fun _ => ?_)
  refine lv_aload_n hx hb d_M_within_16 rfl (lv_at hl 2 rfl) ?_
  refine va_get (D := D) (ci := 7) (v := .ref vt) (C := cn_M) (T := ft_M) (N := 19) hx hb hf_M (fun _ h => h) hown hK hP 0 rfl rfl 17 (by decide) (gw.at G hx0 mw_730 rfl _) (fun _ h9 => h9) rfl d_M_within_17 ?_
  refine lv_iload_n hx hb d_M_within_20 rfl (lv_at hl 0 rfl) ?_
  refine va_iald hx hb hK hP 1 0 rfl rfl (vp_in_iff.mpr (by decide)) d_M_within_21 ?_
  refine tp_i (y := vf 0) (by rfl) ?_
  refine lv_iload_n hx hb d_M_within_22 rfl (lv_at hl 3 rfl) ?_
  refine cx_call (D := D) (cl := kl) (ws := _) (wc := []) (wr := [(m0, .inr (7, [.int th, .int (4 : Int32), .int (0 : Int32), .ref rw, .int (0 : Int32), .int (0 : Int32), .int (0 : Int32), .ref ry, .int (0 : Int32), .int (0 : Int32), .ref ti, .int (0 : Int32), .int (0 : Int32), .ref po, .ref su, .ref sq, .ref ch, .ref vt, .ref sh])), (vt, .inl (cI, 4, .inl vf))]) (tx_runS (As := [.int (vf 0), .int r]) (rest := []) hx hb hml hown (c_M_in_y E s.heap.size (vf 0) r h.1) (cx_C (b0 := b0) G hx0 mw_790 mw_9 ny_M_in (by decide)) (gw.at G hx0 mw_788 rfl _) (gw.at G hx0 mw_789 rfl _) (gw.at G hx0 mw_9 rfl _) ⟨cx_blind, (cx_pre (s := s) hx0 hP hD hS hA0 [] rfl rfl (by decide))⟩ rfl rfl hl.1 rfl (lv_room (Nat.le_of_ble_eq_true rfl)) d_M_within_23 ⟨by decide, by decide⟩) hP hD hS hA [] [0, 1] rfl rfl (by decide) (by decide) (fun v t w1 H locs ht hW9 hp hP hD hS => ?_) (fun x t w1 H locs ht hW9 hp hP hD hS => by obtain ⟨h9, -⟩ := hp; cases h9)
  obtain ⟨h9, rfl⟩ := hp
  cases h9
  refine W.eq (g2 := F0 m 26 ls [.int (1 : Int32)]) rfl ?_
  refine W.widen (k := 0) (n := 0) (by decide) (by decide) ?_
  have hP : va_P D kl [(m0, .inr (7, [.int th, .int (4 : Int32), .int (0 : Int32), .ref rw, .int (0 : Int32), .int (0 : Int32), .int (0 : Int32), .ref ry, .int (0 : Int32), .int (0 : Int32), .ref ti, .int (0 : Int32), .int (0 : Int32), .ref po, .ref su, .ref sq, .ref ch, .ref vt, .ref sh])), (vt, .inl (cI, 4, .inl vf))] H := hP
  have hD : va_D A [(m0, .inr (7, [.int th, .int (4 : Int32), .int (0 : Int32), .ref rw, .int (0 : Int32), .int (0 : Int32), .int (0 : Int32), .ref ry, .int (0 : Int32), .int (0 : Int32), .ref ti, .int (0 : Int32), .int (0 : Int32), .ref po, .ref su, .ref sq, .ref ch, .ref vt, .ref sh])), (vt, .inl (cI, 4, .inl vf))] := hD
  refine lv_if_eq (tgt := 33) hx hb d_M_within_26 (by decide) (fun h99 => absurd h99 (by decide)) (fun _ => ?_)
  refine lv_iconst (v := (1 : Int32)) hx hb d_M_within_29 (by decide) ?_
  refine lv_goto (tgt := 34) hx hb d_M_within_30 (by decide) ?_
  refine lv_istore_n (lv' := [(2, .int (1 : Int32)), (3, .int (0 : Int32)), (0, .ref m0), (1, .int r)]) hx hb d_M_within_34 rfl hl (by decide) rfl (fun ls hl => ?_)
  refine lv_iinc (lv' := [(3, .int (1 : Int32)), (2, .int (1 : Int32)), (0, .ref m0), (1, .int r)]) (k := 1) (v := (1 : Int32)) hx hb d_M_within_35 hl rfl (by decide) (by decide) rfl (fun ls hl => ?_)
  refine lv_goto (tgt := 4) hx hb d_M_within_38 (by decide) ?_
  refine lv_iload_n hx hb d_M_within_4 rfl (lv_at hl 0 rfl) ?_
  refine lv_aload_n hx hb d_M_within_5 rfl (lv_at hl 2 rfl) ?_
  refine va_get (D := D) (ci := 7) (v := .int (4 : Int32)) (C := cn_M) (T := ft_M) (N := 19) hx hb hf_M (fun _ h => h) hown hK hP 0 rfl rfl 1 (by decide) (gw.at G hx0 mw_714 rfl _) (fun _ h9 => h9) rfl d_M_within_6 ?_
  refine lv_icmp_ge (tgt := 41) hx hb d_M_within_9 (by decide) (fun h99 => absurd h99 (by decide)) (fun _ => ?_)
  refine lv_iload_n hx hb d_M_within_12 rfl (lv_at hl 1 rfl) ?_
  refine lv_if_eq (tgt := 33) hx hb d_M_within_13 (by decide) (fun h99 => absurd h99 (by decide)) (fun _ => ?_)
  refine lv_aload_n hx hb d_M_within_16 rfl (lv_at hl 2 rfl) ?_
  refine va_get (D := D) (ci := 7) (v := .ref vt) (C := cn_M) (T := ft_M) (N := 19) hx hb hf_M (fun _ h => h) hown hK hP 0 rfl rfl 17 (by decide) (gw.at G hx0 mw_730 rfl _) (fun _ h9 => h9) rfl d_M_within_17 ?_
  refine lv_iload_n hx hb d_M_within_20 rfl (lv_at hl 0 rfl) ?_
  refine va_iald hx hb hK hP 1 0 rfl rfl (vp_in_iff.mpr (by decide)) d_M_within_21 ?_
  refine tp_i (y := vf 1) (by rfl) ?_
  refine lv_iload_n hx hb d_M_within_22 rfl (lv_at hl 3 rfl) ?_
  refine cx_call (D := D) (cl := kl) (ws := _) (wc := []) (wr := [(m0, .inr (7, [.int th, .int (4 : Int32), .int (0 : Int32), .ref rw, .int (0 : Int32), .int (0 : Int32), .int (0 : Int32), .ref ry, .int (0 : Int32), .int (0 : Int32), .ref ti, .int (0 : Int32), .int (0 : Int32), .ref po, .ref su, .ref sq, .ref ch, .ref vt, .ref sh])), (vt, .inl (cI, 4, .inl vf))]) (tx_runS (As := [.int (vf 1), .int r]) (rest := []) hx hb hml hown (c_M_in_y E H.size (vf 1) r h.2.1) (cx_C (b0 := b0) G hx0 mw_790 mw_9 ny_M_in (by decide)) (gw.at G hx0 mw_788 rfl _) (gw.at G hx0 mw_789 rfl _) (gw.at G hx0 mw_9 rfl _) ⟨cx_blind, (cx_pre (s := s) hx0 hP hD hS hA0 [] rfl rfl (by decide))⟩ rfl rfl hl.1 rfl (lv_room (Nat.le_of_ble_eq_true rfl)) d_M_within_23 ⟨by decide, by decide⟩) hP hD hS hA [] [0, 1] rfl rfl (by decide) (by decide) (fun v t w1 H locs ht hW9 hp hP hD hS => ?_) (fun x t w1 H locs ht hW9 hp hP hD hS => by obtain ⟨h9, -⟩ := hp; cases h9)
  obtain ⟨h9, rfl⟩ := hp
  cases h9
  refine W.eq (g2 := F0 m 26 ls [.int (1 : Int32)]) rfl ?_
  refine W.widen (k := 0) (n := 0) (by decide) (by decide) ?_
  have hP : va_P D kl [(m0, .inr (7, [.int th, .int (4 : Int32), .int (0 : Int32), .ref rw, .int (0 : Int32), .int (0 : Int32), .int (0 : Int32), .ref ry, .int (0 : Int32), .int (0 : Int32), .ref ti, .int (0 : Int32), .int (0 : Int32), .ref po, .ref su, .ref sq, .ref ch, .ref vt, .ref sh])), (vt, .inl (cI, 4, .inl vf))] H := hP
  have hD : va_D A [(m0, .inr (7, [.int th, .int (4 : Int32), .int (0 : Int32), .ref rw, .int (0 : Int32), .int (0 : Int32), .int (0 : Int32), .ref ry, .int (0 : Int32), .int (0 : Int32), .ref ti, .int (0 : Int32), .int (0 : Int32), .ref po, .ref su, .ref sq, .ref ch, .ref vt, .ref sh])), (vt, .inl (cI, 4, .inl vf))] := hD
  refine lv_if_eq (tgt := 33) hx hb d_M_within_26 (by decide) (fun h99 => absurd h99 (by decide)) (fun _ => ?_)
  refine lv_iconst (v := (1 : Int32)) hx hb d_M_within_29 (by decide) ?_
  refine lv_goto (tgt := 34) hx hb d_M_within_30 (by decide) ?_
  refine lv_istore_n (lv' := [(2, .int (1 : Int32)), (3, .int (1 : Int32)), (0, .ref m0), (1, .int r)]) hx hb d_M_within_34 rfl hl (by decide) rfl (fun ls hl => ?_)
  refine lv_iinc (lv' := [(3, .int (2 : Int32)), (2, .int (1 : Int32)), (0, .ref m0), (1, .int r)]) (k := 1) (v := (2 : Int32)) hx hb d_M_within_35 hl rfl (by decide) (by decide) rfl (fun ls hl => ?_)
  refine lv_goto (tgt := 4) hx hb d_M_within_38 (by decide) ?_
  refine lv_iload_n hx hb d_M_within_4 rfl (lv_at hl 0 rfl) ?_
  refine lv_aload_n hx hb d_M_within_5 rfl (lv_at hl 2 rfl) ?_
  refine va_get (D := D) (ci := 7) (v := .int (4 : Int32)) (C := cn_M) (T := ft_M) (N := 19) hx hb hf_M (fun _ h => h) hown hK hP 0 rfl rfl 1 (by decide) (gw.at G hx0 mw_714 rfl _) (fun _ h9 => h9) rfl d_M_within_6 ?_
  refine lv_icmp_ge (tgt := 41) hx hb d_M_within_9 (by decide) (fun h99 => absurd h99 (by decide)) (fun _ => ?_)
  refine lv_iload_n hx hb d_M_within_12 rfl (lv_at hl 1 rfl) ?_
  refine lv_if_eq (tgt := 33) hx hb d_M_within_13 (by decide) (fun h99 => absurd h99 (by decide)) (fun _ => ?_)
  refine lv_aload_n hx hb d_M_within_16 rfl (lv_at hl 2 rfl) ?_
  refine va_get (D := D) (ci := 7) (v := .ref vt) (C := cn_M) (T := ft_M) (N := 19) hx hb hf_M (fun _ h => h) hown hK hP 0 rfl rfl 17 (by decide) (gw.at G hx0 mw_730 rfl _) (fun _ h9 => h9) rfl d_M_within_17 ?_
  refine lv_iload_n hx hb d_M_within_20 rfl (lv_at hl 0 rfl) ?_
  refine va_iald hx hb hK hP 1 0 rfl rfl (vp_in_iff.mpr (by decide)) d_M_within_21 ?_
  refine tp_i (y := vf 2) (by rfl) ?_
  refine lv_iload_n hx hb d_M_within_22 rfl (lv_at hl 3 rfl) ?_
  refine cx_call (D := D) (cl := kl) (ws := _) (wc := []) (wr := [(m0, .inr (7, [.int th, .int (4 : Int32), .int (0 : Int32), .ref rw, .int (0 : Int32), .int (0 : Int32), .int (0 : Int32), .ref ry, .int (0 : Int32), .int (0 : Int32), .ref ti, .int (0 : Int32), .int (0 : Int32), .ref po, .ref su, .ref sq, .ref ch, .ref vt, .ref sh])), (vt, .inl (cI, 4, .inl vf))]) (tx_runS (As := [.int (vf 2), .int r]) (rest := []) hx hb hml hown (c_M_in_y E H.size (vf 2) r h.2.2.1) (cx_C (b0 := b0) G hx0 mw_790 mw_9 ny_M_in (by decide)) (gw.at G hx0 mw_788 rfl _) (gw.at G hx0 mw_789 rfl _) (gw.at G hx0 mw_9 rfl _) ⟨cx_blind, (cx_pre (s := s) hx0 hP hD hS hA0 [] rfl rfl (by decide))⟩ rfl rfl hl.1 rfl (lv_room (Nat.le_of_ble_eq_true rfl)) d_M_within_23 ⟨by decide, by decide⟩) hP hD hS hA [] [0, 1] rfl rfl (by decide) (by decide) (fun v t w1 H locs ht hW9 hp hP hD hS => ?_) (fun x t w1 H locs ht hW9 hp hP hD hS => by obtain ⟨h9, -⟩ := hp; cases h9)
  obtain ⟨h9, rfl⟩ := hp
  cases h9
  refine W.eq (g2 := F0 m 26 ls [.int (1 : Int32)]) rfl ?_
  refine W.widen (k := 0) (n := 0) (by decide) (by decide) ?_
  have hP : va_P D kl [(m0, .inr (7, [.int th, .int (4 : Int32), .int (0 : Int32), .ref rw, .int (0 : Int32), .int (0 : Int32), .int (0 : Int32), .ref ry, .int (0 : Int32), .int (0 : Int32), .ref ti, .int (0 : Int32), .int (0 : Int32), .ref po, .ref su, .ref sq, .ref ch, .ref vt, .ref sh])), (vt, .inl (cI, 4, .inl vf))] H := hP
  have hD : va_D A [(m0, .inr (7, [.int th, .int (4 : Int32), .int (0 : Int32), .ref rw, .int (0 : Int32), .int (0 : Int32), .int (0 : Int32), .ref ry, .int (0 : Int32), .int (0 : Int32), .ref ti, .int (0 : Int32), .int (0 : Int32), .ref po, .ref su, .ref sq, .ref ch, .ref vt, .ref sh])), (vt, .inl (cI, 4, .inl vf))] := hD
  refine lv_if_eq (tgt := 33) hx hb d_M_within_26 (by decide) (fun h99 => absurd h99 (by decide)) (fun _ => ?_)
  refine lv_iconst (v := (1 : Int32)) hx hb d_M_within_29 (by decide) ?_
  refine lv_goto (tgt := 34) hx hb d_M_within_30 (by decide) ?_
  refine lv_istore_n (lv' := [(2, .int (1 : Int32)), (3, .int (2 : Int32)), (0, .ref m0), (1, .int r)]) hx hb d_M_within_34 rfl hl (by decide) rfl (fun ls hl => ?_)
  refine lv_iinc (lv' := [(3, .int (3 : Int32)), (2, .int (1 : Int32)), (0, .ref m0), (1, .int r)]) (k := 1) (v := (3 : Int32)) hx hb d_M_within_35 hl rfl (by decide) (by decide) rfl (fun ls hl => ?_)
  refine lv_goto (tgt := 4) hx hb d_M_within_38 (by decide) ?_
  refine lv_iload_n hx hb d_M_within_4 rfl (lv_at hl 0 rfl) ?_
  refine lv_aload_n hx hb d_M_within_5 rfl (lv_at hl 2 rfl) ?_
  refine va_get (D := D) (ci := 7) (v := .int (4 : Int32)) (C := cn_M) (T := ft_M) (N := 19) hx hb hf_M (fun _ h => h) hown hK hP 0 rfl rfl 1 (by decide) (gw.at G hx0 mw_714 rfl _) (fun _ h9 => h9) rfl d_M_within_6 ?_
  refine lv_icmp_ge (tgt := 41) hx hb d_M_within_9 (by decide) (fun h99 => absurd h99 (by decide)) (fun _ => ?_)
  refine lv_iload_n hx hb d_M_within_12 rfl (lv_at hl 1 rfl) ?_
  refine lv_if_eq (tgt := 33) hx hb d_M_within_13 (by decide) (fun h99 => absurd h99 (by decide)) (fun _ => ?_)
  refine lv_aload_n hx hb d_M_within_16 rfl (lv_at hl 2 rfl) ?_
  refine va_get (D := D) (ci := 7) (v := .ref vt) (C := cn_M) (T := ft_M) (N := 19) hx hb hf_M (fun _ h => h) hown hK hP 0 rfl rfl 17 (by decide) (gw.at G hx0 mw_730 rfl _) (fun _ h9 => h9) rfl d_M_within_17 ?_
  refine lv_iload_n hx hb d_M_within_20 rfl (lv_at hl 0 rfl) ?_
  refine va_iald hx hb hK hP 1 0 rfl rfl (vp_in_iff.mpr (by decide)) d_M_within_21 ?_
  refine tp_i (y := vf 3) (by rfl) ?_
  refine lv_iload_n hx hb d_M_within_22 rfl (lv_at hl 3 rfl) ?_
  refine cx_call (D := D) (cl := kl) (ws := _) (wc := []) (wr := [(m0, .inr (7, [.int th, .int (4 : Int32), .int (0 : Int32), .ref rw, .int (0 : Int32), .int (0 : Int32), .int (0 : Int32), .ref ry, .int (0 : Int32), .int (0 : Int32), .ref ti, .int (0 : Int32), .int (0 : Int32), .ref po, .ref su, .ref sq, .ref ch, .ref vt, .ref sh])), (vt, .inl (cI, 4, .inl vf))]) (tx_runS (As := [.int (vf 3), .int r]) (rest := []) hx hb hml hown (c_M_in_y E H.size (vf 3) r h.2.2.2) (cx_C (b0 := b0) G hx0 mw_790 mw_9 ny_M_in (by decide)) (gw.at G hx0 mw_788 rfl _) (gw.at G hx0 mw_789 rfl _) (gw.at G hx0 mw_9 rfl _) ⟨cx_blind, (cx_pre (s := s) hx0 hP hD hS hA0 [] rfl rfl (by decide))⟩ rfl rfl hl.1 rfl (lv_room (Nat.le_of_ble_eq_true rfl)) d_M_within_23 ⟨by decide, by decide⟩) hP hD hS hA [] [0, 1] rfl rfl (by decide) (by decide) (fun v t w1 H locs ht hW9 hp hP hD hS => ?_) (fun x t w1 H locs ht hW9 hp hP hD hS => by obtain ⟨h9, -⟩ := hp; cases h9)
  obtain ⟨h9, rfl⟩ := hp
  cases h9
  refine W.eq (g2 := F0 m 26 ls [.int (1 : Int32)]) rfl ?_
  refine W.widen (k := 0) (n := 0) (by decide) (by decide) ?_
  have hP : va_P D kl [(m0, .inr (7, [.int th, .int (4 : Int32), .int (0 : Int32), .ref rw, .int (0 : Int32), .int (0 : Int32), .int (0 : Int32), .ref ry, .int (0 : Int32), .int (0 : Int32), .ref ti, .int (0 : Int32), .int (0 : Int32), .ref po, .ref su, .ref sq, .ref ch, .ref vt, .ref sh])), (vt, .inl (cI, 4, .inl vf))] H := hP
  have hD : va_D A [(m0, .inr (7, [.int th, .int (4 : Int32), .int (0 : Int32), .ref rw, .int (0 : Int32), .int (0 : Int32), .int (0 : Int32), .ref ry, .int (0 : Int32), .int (0 : Int32), .ref ti, .int (0 : Int32), .int (0 : Int32), .ref po, .ref su, .ref sq, .ref ch, .ref vt, .ref sh])), (vt, .inl (cI, 4, .inl vf))] := hD
  refine lv_if_eq (tgt := 33) hx hb d_M_within_26 (by decide) (fun h99 => absurd h99 (by decide)) (fun _ => ?_)
  refine lv_iconst (v := (1 : Int32)) hx hb d_M_within_29 (by decide) ?_
  refine lv_goto (tgt := 34) hx hb d_M_within_30 (by decide) ?_
  refine lv_istore_n (lv' := [(2, .int (1 : Int32)), (3, .int (3 : Int32)), (0, .ref m0), (1, .int r)]) hx hb d_M_within_34 rfl hl (by decide) rfl (fun ls hl => ?_)
  refine lv_iinc (lv' := [(3, .int (4 : Int32)), (2, .int (1 : Int32)), (0, .ref m0), (1, .int r)]) (k := 1) (v := (4 : Int32)) hx hb d_M_within_35 hl rfl (by decide) (by decide) rfl (fun ls hl => ?_)
  refine lv_goto (tgt := 4) hx hb d_M_within_38 (by decide) ?_
  refine lv_iload_n hx hb d_M_within_4 rfl (lv_at hl 0 rfl) ?_
  refine lv_aload_n hx hb d_M_within_5 rfl (lv_at hl 2 rfl) ?_
  refine va_get (D := D) (ci := 7) (v := .int (4 : Int32)) (C := cn_M) (T := ft_M) (N := 19) hx hb hf_M (fun _ h => h) hown hK hP 0 rfl rfl 1 (by decide) (gw.at G hx0 mw_714 rfl _) (fun _ h9 => h9) rfl d_M_within_6 ?_
  refine lv_icmp_ge (tgt := 41) hx hb d_M_within_9 (by decide) (fun _ => ?_) (fun h99 => absurd h99 (by decide))
  refine lv_iload_n hx hb d_M_within_41 rfl (lv_at hl 1 rfl) ?_
  exact tx_mono (fun _ h => tx_Z.of h) (W.zret (v := (1 : Int32)) hx hb hr (by decide) (fun t ht hW => ⟨⟨[(m0, .inr (7, [.int th, .int (4 : Int32), .int (0 : Int32), .ref rw, .int (0 : Int32), .int (0 : Int32), .int (0 : Int32), .ref ry, .int (0 : Int32), .int (0 : Int32), .ref ti, .int (0 : Int32), .int (0 : Int32), .ref po, .ref su, .ref sq, .ref ch, .ref vt, .ref sh])), (vt, .inl (cI, 4, .inl vf))], ⟨rfl, rfl⟩, by rw [ht]; exact hP.sub [0, 1] rfl, hD.sub [0, 1] (by decide) rfl⟩, hS.F ht⟩) hS.2.2 d_M_within_42)

set_option maxHeartbeats 4000000 in
set_option maxRecDepth 100000 in
theorem c_M_within4_n {l : Launch} {s0 : State} {b0 : Addr} {D : va_G} {cI cJ cZ : ClassId} {tC tS : Nat} (E : gE l s0 b0 D cI cJ cZ tC tS) (sz : Nat) (m0 : Nat) (rw : Nat) (ry : Nat) (ti : Nat) (po : Nat) (su : Nat) (sq : Nat) (ch : Nat) (vt : Nat) (sh : Nat) (th : Int32) (r : Int32) (vf : Nat → Int32) (h : ¬ (inw r (vf 0) = true ∧ inw r (vf 1) = true ∧ inw r (vf 2) = true ∧ inw r (vf 3) = true)) : cx_M l s0 D kl y_M_within b_M_within 4 (some .boolean) ({ frames := 1, cells := 0, slots := 0, locals := 21 } : Room) 0 0 [.ref m0, .int r] [(m0, .inr (7, [.int th, .int (4 : Int32), .int (0 : Int32), .ref rw, .int (0 : Int32), .int (0 : Int32), .int (0 : Int32), .ref ry, .int (0 : Int32), .int (0 : Int32), .ref ti, .int (0 : Int32), .int (0 : Int32), .ref po, .ref su, .ref sq, .ref ch, .ref vt, .ref sh])), (vt, .inl (cI, 4, .inl vf))] sz (fun o9 _ w9 => o9 = .returned (some (.int (0 : Int32))) ∧ w9 = [(m0, .inr (7, [.int th, .int (4 : Int32), .int (0 : Int32), .ref rw, .int (0 : Int32), .int (0 : Int32), .int (0 : Int32), .ref ry, .int (0 : Int32), .int (0 : Int32), .ref ti, .int (0 : Int32), .int (0 : Int32), .ref po, .ref su, .ref sq, .ref ch, .ref vt, .ref sh])), (vt, .inl (cI, 4, .inl vf))]) := by
  refine tx_ofW (cc := b_M_within) (maxL := 4) (ret := (some .boolean)) (by decide) rfl ?_
  intro p e s m args below meth c s₁ B hml hT hv
  obtain ⟨rfl, hsz, hP, hD0, hx0⟩ := hv
  have hx := B.exec
  have hb := B.bytes
  have hr := B.returns
  have G := E.2.1
  have hown : s.vm.findClass cn_M = some m.cls := findClass_of_methodNamed B.named
  have hlocks := B.notSynchronized
  have hK := va_K.moved hx0.1.alike E.2.2.1
  have hf_M : ∀ w99 ∈ u_ws cn_M ft_M 19, w99.before ([.ref m0, .int r] : List Value).toArray s = true := fun w99 h99 => gw.at G hx0 (fw_M w99 h99) (fo_M w99 h99) _
  subst hsz
  have hA0 := cx_new hD0 hx0.2.1
  have hD := hD0.self (sz := s.heap.size)
  generalize hAe : va_A [(m0, .inr (7, [.int th, .int (4 : Int32), .int (0 : Int32), .ref rw, .int (0 : Int32), .int (0 : Int32), .int (0 : Int32), .ref ry, .int (0 : Int32), .int (0 : Int32), .ref ti, .int (0 : Int32), .int (0 : Int32), .ref po, .ref su, .ref sq, .ref ch, .ref vt, .ref sh])), (vt, .inl (cI, 4, .inl vf))] s.heap.size = A at hD hA0 ⊢
  have hA : ∀ q : Nat, s.heap.size ≤ q → A q := fun q h => by rw [← hAe]; exact Or.inr h
  have hS : va_S A s.heap s.heap [] := va_S.rf
  have hl := lv_entry ([.ref m0, .int r]) (n := 4) (Nat.le_of_ble_eq_true rfl)
  rw [lg_entry_eq]
  generalize (lg_sl ([.ref m0, .int r]) ++ List.replicate (4 - (lg_sl ([.ref m0, .int r])).length) Slot.unset).toArray = ls at hl ⊢
  have hl : lv_has ls 4 [(0, .ref m0), (1, .int r)] := hl
  have hP : va_P D kl [(m0, .inr (7, [.int th, .int (4 : Int32), .int (0 : Int32), .ref rw, .int (0 : Int32), .int (0 : Int32), .int (0 : Int32), .ref ry, .int (0 : Int32), .int (0 : Int32), .ref ti, .int (0 : Int32), .int (0 : Int32), .ref po, .ref su, .ref sq, .ref ch, .ref vt, .ref sh])), (vt, .inl (cI, 4, .inl vf))] s.heap := hP
  have hml : c.maxLocals = 4 := hml
  refine lv_iconst (v := (1 : Int32)) hx hb d_M_within_0 (by decide) ?_
  refine lv_istore_n (lv' := [(2, .int (1 : Int32)), (0, .ref m0), (1, .int r)]) hx hb d_M_within_1 rfl hl (by decide) rfl (fun ls hl => ?_)
  refine lv_iconst (v := (0 : Int32)) hx hb d_M_within_2 (by decide) ?_
  refine lv_istore_n (lv' := [(3, .int (0 : Int32)), (2, .int (1 : Int32)), (0, .ref m0), (1, .int r)]) hx hb d_M_within_3 rfl hl (by decide) rfl (fun ls hl => ?_)
  refine lv_iload_n hx hb d_M_within_4 rfl (lv_at hl 0 rfl) ?_
  refine lv_aload_n hx hb d_M_within_5 rfl (lv_at hl 2 rfl) ?_
  refine va_get (D := D) (ci := 7) (v := .int (4 : Int32)) (C := cn_M) (T := ft_M) (N := 19) hx hb hf_M (fun _ h => h) hown hK hP 0 rfl rfl 1 (by decide) (gw.at G hx0 mw_714 rfl _) (fun _ h9 => h9) rfl d_M_within_6 ?_
  refine lv_icmp_ge (tgt := 41) hx hb d_M_within_9 (by decide) (fun h99 => absurd h99 (by decide)) (fun _ => ?_)
  refine lv_iload_n hx hb d_M_within_12 rfl (lv_at hl 1 rfl) ?_
  refine lv_if_eq (tgt := 33) hx hb d_M_within_13 (by decide) (fun h99 => absurd h99 (by decide)) (fun _ => ?_)
  refine lv_aload_n hx hb d_M_within_16 rfl (lv_at hl 2 rfl) ?_
  refine va_get (D := D) (ci := 7) (v := .ref vt) (C := cn_M) (T := ft_M) (N := 19) hx hb hf_M (fun _ h => h) hown hK hP 0 rfl rfl 17 (by decide) (gw.at G hx0 mw_730 rfl _) (fun _ h9 => h9) rfl d_M_within_17 ?_
  refine lv_iload_n hx hb d_M_within_20 rfl (lv_at hl 0 rfl) ?_
  refine va_iald hx hb hK hP 1 0 rfl rfl (vp_in_iff.mpr (by decide)) d_M_within_21 ?_
  refine tp_i (y := vf 0) (by rfl) ?_
  refine lv_iload_n hx hb d_M_within_22 rfl (lv_at hl 3 rfl) ?_
  by_cases h_1 : inw r (vf 0) = true
  · refine cx_call (D := D) (cl := kl) (ws := _) (wc := []) (wr := [(m0, .inr (7, [.int th, .int (4 : Int32), .int (0 : Int32), .ref rw, .int (0 : Int32), .int (0 : Int32), .int (0 : Int32), .ref ry, .int (0 : Int32), .int (0 : Int32), .ref ti, .int (0 : Int32), .int (0 : Int32), .ref po, .ref su, .ref sq, .ref ch, .ref vt, .ref sh])), (vt, .inl (cI, 4, .inl vf))]) (tx_runS (As := [.int (vf 0), .int r]) (rest := []) hx hb hml hown (c_M_in_y E s.heap.size (vf 0) r h_1) (cx_C (b0 := b0) G hx0 mw_790 mw_9 ny_M_in (by decide)) (gw.at G hx0 mw_788 rfl _) (gw.at G hx0 mw_789 rfl _) (gw.at G hx0 mw_9 rfl _) ⟨cx_blind, (cx_pre (s := s) hx0 hP hD hS hA0 [] rfl rfl (by decide))⟩ rfl rfl hl.1 rfl (lv_room (Nat.le_of_ble_eq_true rfl)) d_M_within_23 ⟨by decide, by decide⟩) hP hD hS hA [] [0, 1] rfl rfl (by decide) (by decide) (fun v t w1 H locs ht hW9 hp hP hD hS => ?_) (fun x t w1 H locs ht hW9 hp hP hD hS => by obtain ⟨h9, -⟩ := hp; cases h9)
    obtain ⟨h9, rfl⟩ := hp
    cases h9
    refine W.eq (g2 := F0 m 26 ls [.int (1 : Int32)]) rfl ?_
    refine W.widen (k := 0) (n := 0) (by decide) (by decide) ?_
    have hP : va_P D kl [(m0, .inr (7, [.int th, .int (4 : Int32), .int (0 : Int32), .ref rw, .int (0 : Int32), .int (0 : Int32), .int (0 : Int32), .ref ry, .int (0 : Int32), .int (0 : Int32), .ref ti, .int (0 : Int32), .int (0 : Int32), .ref po, .ref su, .ref sq, .ref ch, .ref vt, .ref sh])), (vt, .inl (cI, 4, .inl vf))] H := hP
    have hD : va_D A [(m0, .inr (7, [.int th, .int (4 : Int32), .int (0 : Int32), .ref rw, .int (0 : Int32), .int (0 : Int32), .int (0 : Int32), .ref ry, .int (0 : Int32), .int (0 : Int32), .ref ti, .int (0 : Int32), .int (0 : Int32), .ref po, .ref su, .ref sq, .ref ch, .ref vt, .ref sh])), (vt, .inl (cI, 4, .inl vf))] := hD
    refine lv_if_eq (tgt := 33) hx hb d_M_within_26 (by decide) (fun h99 => absurd h99 (by decide)) (fun _ => ?_)
    refine lv_iconst (v := (1 : Int32)) hx hb d_M_within_29 (by decide) ?_
    refine lv_goto (tgt := 34) hx hb d_M_within_30 (by decide) ?_
    refine lv_istore_n (lv' := [(2, .int (1 : Int32)), (3, .int (0 : Int32)), (0, .ref m0), (1, .int r)]) hx hb d_M_within_34 rfl hl (by decide) rfl (fun ls hl => ?_)
    refine lv_iinc (lv' := [(3, .int (1 : Int32)), (2, .int (1 : Int32)), (0, .ref m0), (1, .int r)]) (k := 1) (v := (1 : Int32)) hx hb d_M_within_35 hl rfl (by decide) (by decide) rfl (fun ls hl => ?_)
    refine lv_goto (tgt := 4) hx hb d_M_within_38 (by decide) ?_
    refine lv_iload_n hx hb d_M_within_4 rfl (lv_at hl 0 rfl) ?_
    refine lv_aload_n hx hb d_M_within_5 rfl (lv_at hl 2 rfl) ?_
    refine va_get (D := D) (ci := 7) (v := .int (4 : Int32)) (C := cn_M) (T := ft_M) (N := 19) hx hb hf_M (fun _ h => h) hown hK hP 0 rfl rfl 1 (by decide) (gw.at G hx0 mw_714 rfl _) (fun _ h9 => h9) rfl d_M_within_6 ?_
    refine lv_icmp_ge (tgt := 41) hx hb d_M_within_9 (by decide) (fun h99 => absurd h99 (by decide)) (fun _ => ?_)
    refine lv_iload_n hx hb d_M_within_12 rfl (lv_at hl 1 rfl) ?_
    refine lv_if_eq (tgt := 33) hx hb d_M_within_13 (by decide) (fun h99 => absurd h99 (by decide)) (fun _ => ?_)
    refine lv_aload_n hx hb d_M_within_16 rfl (lv_at hl 2 rfl) ?_
    refine va_get (D := D) (ci := 7) (v := .ref vt) (C := cn_M) (T := ft_M) (N := 19) hx hb hf_M (fun _ h => h) hown hK hP 0 rfl rfl 17 (by decide) (gw.at G hx0 mw_730 rfl _) (fun _ h9 => h9) rfl d_M_within_17 ?_
    refine lv_iload_n hx hb d_M_within_20 rfl (lv_at hl 0 rfl) ?_
    refine va_iald hx hb hK hP 1 0 rfl rfl (vp_in_iff.mpr (by decide)) d_M_within_21 ?_
    refine tp_i (y := vf 1) (by rfl) ?_
    refine lv_iload_n hx hb d_M_within_22 rfl (lv_at hl 3 rfl) ?_
    by_cases h_2 : inw r (vf 1) = true
    · refine cx_call (D := D) (cl := kl) (ws := _) (wc := []) (wr := [(m0, .inr (7, [.int th, .int (4 : Int32), .int (0 : Int32), .ref rw, .int (0 : Int32), .int (0 : Int32), .int (0 : Int32), .ref ry, .int (0 : Int32), .int (0 : Int32), .ref ti, .int (0 : Int32), .int (0 : Int32), .ref po, .ref su, .ref sq, .ref ch, .ref vt, .ref sh])), (vt, .inl (cI, 4, .inl vf))]) (tx_runS (As := [.int (vf 1), .int r]) (rest := []) hx hb hml hown (c_M_in_y E H.size (vf 1) r h_2) (cx_C (b0 := b0) G hx0 mw_790 mw_9 ny_M_in (by decide)) (gw.at G hx0 mw_788 rfl _) (gw.at G hx0 mw_789 rfl _) (gw.at G hx0 mw_9 rfl _) ⟨cx_blind, (cx_pre (s := s) hx0 hP hD hS hA0 [] rfl rfl (by decide))⟩ rfl rfl hl.1 rfl (lv_room (Nat.le_of_ble_eq_true rfl)) d_M_within_23 ⟨by decide, by decide⟩) hP hD hS hA [] [0, 1] rfl rfl (by decide) (by decide) (fun v t w1 H locs ht hW9 hp hP hD hS => ?_) (fun x t w1 H locs ht hW9 hp hP hD hS => by obtain ⟨h9, -⟩ := hp; cases h9)
      obtain ⟨h9, rfl⟩ := hp
      cases h9
      refine W.eq (g2 := F0 m 26 ls [.int (1 : Int32)]) rfl ?_
      refine W.widen (k := 0) (n := 0) (by decide) (by decide) ?_
      have hP : va_P D kl [(m0, .inr (7, [.int th, .int (4 : Int32), .int (0 : Int32), .ref rw, .int (0 : Int32), .int (0 : Int32), .int (0 : Int32), .ref ry, .int (0 : Int32), .int (0 : Int32), .ref ti, .int (0 : Int32), .int (0 : Int32), .ref po, .ref su, .ref sq, .ref ch, .ref vt, .ref sh])), (vt, .inl (cI, 4, .inl vf))] H := hP
      have hD : va_D A [(m0, .inr (7, [.int th, .int (4 : Int32), .int (0 : Int32), .ref rw, .int (0 : Int32), .int (0 : Int32), .int (0 : Int32), .ref ry, .int (0 : Int32), .int (0 : Int32), .ref ti, .int (0 : Int32), .int (0 : Int32), .ref po, .ref su, .ref sq, .ref ch, .ref vt, .ref sh])), (vt, .inl (cI, 4, .inl vf))] := hD
      refine lv_if_eq (tgt := 33) hx hb d_M_within_26 (by decide) (fun h99 => absurd h99 (by decide)) (fun _ => ?_)
      refine lv_iconst (v := (1 : Int32)) hx hb d_M_within_29 (by decide) ?_
      refine lv_goto (tgt := 34) hx hb d_M_within_30 (by decide) ?_
      refine lv_istore_n (lv' := [(2, .int (1 : Int32)), (3, .int (1 : Int32)), (0, .ref m0), (1, .int r)]) hx hb d_M_within_34 rfl hl (by decide) rfl (fun ls hl => ?_)
      refine lv_iinc (lv' := [(3, .int (2 : Int32)), (2, .int (1 : Int32)), (0, .ref m0), (1, .int r)]) (k := 1) (v := (2 : Int32)) hx hb d_M_within_35 hl rfl (by decide) (by decide) rfl (fun ls hl => ?_)
      refine lv_goto (tgt := 4) hx hb d_M_within_38 (by decide) ?_
      refine lv_iload_n hx hb d_M_within_4 rfl (lv_at hl 0 rfl) ?_
      refine lv_aload_n hx hb d_M_within_5 rfl (lv_at hl 2 rfl) ?_
      refine va_get (D := D) (ci := 7) (v := .int (4 : Int32)) (C := cn_M) (T := ft_M) (N := 19) hx hb hf_M (fun _ h => h) hown hK hP 0 rfl rfl 1 (by decide) (gw.at G hx0 mw_714 rfl _) (fun _ h9 => h9) rfl d_M_within_6 ?_
      refine lv_icmp_ge (tgt := 41) hx hb d_M_within_9 (by decide) (fun h99 => absurd h99 (by decide)) (fun _ => ?_)
      refine lv_iload_n hx hb d_M_within_12 rfl (lv_at hl 1 rfl) ?_
      refine lv_if_eq (tgt := 33) hx hb d_M_within_13 (by decide) (fun h99 => absurd h99 (by decide)) (fun _ => ?_)
      refine lv_aload_n hx hb d_M_within_16 rfl (lv_at hl 2 rfl) ?_
      refine va_get (D := D) (ci := 7) (v := .ref vt) (C := cn_M) (T := ft_M) (N := 19) hx hb hf_M (fun _ h => h) hown hK hP 0 rfl rfl 17 (by decide) (gw.at G hx0 mw_730 rfl _) (fun _ h9 => h9) rfl d_M_within_17 ?_
      refine lv_iload_n hx hb d_M_within_20 rfl (lv_at hl 0 rfl) ?_
      refine va_iald hx hb hK hP 1 0 rfl rfl (vp_in_iff.mpr (by decide)) d_M_within_21 ?_
      refine tp_i (y := vf 2) (by rfl) ?_
      refine lv_iload_n hx hb d_M_within_22 rfl (lv_at hl 3 rfl) ?_
      by_cases h_3 : inw r (vf 2) = true
      · refine cx_call (D := D) (cl := kl) (ws := _) (wc := []) (wr := [(m0, .inr (7, [.int th, .int (4 : Int32), .int (0 : Int32), .ref rw, .int (0 : Int32), .int (0 : Int32), .int (0 : Int32), .ref ry, .int (0 : Int32), .int (0 : Int32), .ref ti, .int (0 : Int32), .int (0 : Int32), .ref po, .ref su, .ref sq, .ref ch, .ref vt, .ref sh])), (vt, .inl (cI, 4, .inl vf))]) (tx_runS (As := [.int (vf 2), .int r]) (rest := []) hx hb hml hown (c_M_in_y E H.size (vf 2) r h_3) (cx_C (b0 := b0) G hx0 mw_790 mw_9 ny_M_in (by decide)) (gw.at G hx0 mw_788 rfl _) (gw.at G hx0 mw_789 rfl _) (gw.at G hx0 mw_9 rfl _) ⟨cx_blind, (cx_pre (s := s) hx0 hP hD hS hA0 [] rfl rfl (by decide))⟩ rfl rfl hl.1 rfl (lv_room (Nat.le_of_ble_eq_true rfl)) d_M_within_23 ⟨by decide, by decide⟩) hP hD hS hA [] [0, 1] rfl rfl (by decide) (by decide) (fun v t w1 H locs ht hW9 hp hP hD hS => ?_) (fun x t w1 H locs ht hW9 hp hP hD hS => by obtain ⟨h9, -⟩ := hp; cases h9)
        obtain ⟨h9, rfl⟩ := hp
        cases h9
        refine W.eq (g2 := F0 m 26 ls [.int (1 : Int32)]) rfl ?_
        refine W.widen (k := 0) (n := 0) (by decide) (by decide) ?_
        have hP : va_P D kl [(m0, .inr (7, [.int th, .int (4 : Int32), .int (0 : Int32), .ref rw, .int (0 : Int32), .int (0 : Int32), .int (0 : Int32), .ref ry, .int (0 : Int32), .int (0 : Int32), .ref ti, .int (0 : Int32), .int (0 : Int32), .ref po, .ref su, .ref sq, .ref ch, .ref vt, .ref sh])), (vt, .inl (cI, 4, .inl vf))] H := hP
        have hD : va_D A [(m0, .inr (7, [.int th, .int (4 : Int32), .int (0 : Int32), .ref rw, .int (0 : Int32), .int (0 : Int32), .int (0 : Int32), .ref ry, .int (0 : Int32), .int (0 : Int32), .ref ti, .int (0 : Int32), .int (0 : Int32), .ref po, .ref su, .ref sq, .ref ch, .ref vt, .ref sh])), (vt, .inl (cI, 4, .inl vf))] := hD
        refine lv_if_eq (tgt := 33) hx hb d_M_within_26 (by decide) (fun h99 => absurd h99 (by decide)) (fun _ => ?_)
        refine lv_iconst (v := (1 : Int32)) hx hb d_M_within_29 (by decide) ?_
        refine lv_goto (tgt := 34) hx hb d_M_within_30 (by decide) ?_
        refine lv_istore_n (lv' := [(2, .int (1 : Int32)), (3, .int (2 : Int32)), (0, .ref m0), (1, .int r)]) hx hb d_M_within_34 rfl hl (by decide) rfl (fun ls hl => ?_)
        refine lv_iinc (lv' := [(3, .int (3 : Int32)), (2, .int (1 : Int32)), (0, .ref m0), (1, .int r)]) (k := 1) (v := (3 : Int32)) hx hb d_M_within_35 hl rfl (by decide) (by decide) rfl (fun ls hl => ?_)
        refine lv_goto (tgt := 4) hx hb d_M_within_38 (by decide) ?_
        refine lv_iload_n hx hb d_M_within_4 rfl (lv_at hl 0 rfl) ?_
        refine lv_aload_n hx hb d_M_within_5 rfl (lv_at hl 2 rfl) ?_
        refine va_get (D := D) (ci := 7) (v := .int (4 : Int32)) (C := cn_M) (T := ft_M) (N := 19) hx hb hf_M (fun _ h => h) hown hK hP 0 rfl rfl 1 (by decide) (gw.at G hx0 mw_714 rfl _) (fun _ h9 => h9) rfl d_M_within_6 ?_
        refine lv_icmp_ge (tgt := 41) hx hb d_M_within_9 (by decide) (fun h99 => absurd h99 (by decide)) (fun _ => ?_)
        refine lv_iload_n hx hb d_M_within_12 rfl (lv_at hl 1 rfl) ?_
        refine lv_if_eq (tgt := 33) hx hb d_M_within_13 (by decide) (fun h99 => absurd h99 (by decide)) (fun _ => ?_)
        refine lv_aload_n hx hb d_M_within_16 rfl (lv_at hl 2 rfl) ?_
        refine va_get (D := D) (ci := 7) (v := .ref vt) (C := cn_M) (T := ft_M) (N := 19) hx hb hf_M (fun _ h => h) hown hK hP 0 rfl rfl 17 (by decide) (gw.at G hx0 mw_730 rfl _) (fun _ h9 => h9) rfl d_M_within_17 ?_
        refine lv_iload_n hx hb d_M_within_20 rfl (lv_at hl 0 rfl) ?_
        refine va_iald hx hb hK hP 1 0 rfl rfl (vp_in_iff.mpr (by decide)) d_M_within_21 ?_
        refine tp_i (y := vf 3) (by rfl) ?_
        refine lv_iload_n hx hb d_M_within_22 rfl (lv_at hl 3 rfl) ?_
        by_cases h_4 : inw r (vf 3) = true
        · refine cx_call (D := D) (cl := kl) (ws := _) (wc := []) (wr := [(m0, .inr (7, [.int th, .int (4 : Int32), .int (0 : Int32), .ref rw, .int (0 : Int32), .int (0 : Int32), .int (0 : Int32), .ref ry, .int (0 : Int32), .int (0 : Int32), .ref ti, .int (0 : Int32), .int (0 : Int32), .ref po, .ref su, .ref sq, .ref ch, .ref vt, .ref sh])), (vt, .inl (cI, 4, .inl vf))]) (tx_runS (As := [.int (vf 3), .int r]) (rest := []) hx hb hml hown (c_M_in_y E H.size (vf 3) r h_4) (cx_C (b0 := b0) G hx0 mw_790 mw_9 ny_M_in (by decide)) (gw.at G hx0 mw_788 rfl _) (gw.at G hx0 mw_789 rfl _) (gw.at G hx0 mw_9 rfl _) ⟨cx_blind, (cx_pre (s := s) hx0 hP hD hS hA0 [] rfl rfl (by decide))⟩ rfl rfl hl.1 rfl (lv_room (Nat.le_of_ble_eq_true rfl)) d_M_within_23 ⟨by decide, by decide⟩) hP hD hS hA [] [0, 1] rfl rfl (by decide) (by decide) (fun v t w1 H locs ht hW9 hp hP hD hS => ?_) (fun x t w1 H locs ht hW9 hp hP hD hS => by obtain ⟨h9, -⟩ := hp; cases h9)
          obtain ⟨h9, rfl⟩ := hp
          cases h9
          refine W.eq (g2 := F0 m 26 ls [.int (1 : Int32)]) rfl ?_
          refine W.widen (k := 0) (n := 0) (by decide) (by decide) ?_
          have hP : va_P D kl [(m0, .inr (7, [.int th, .int (4 : Int32), .int (0 : Int32), .ref rw, .int (0 : Int32), .int (0 : Int32), .int (0 : Int32), .ref ry, .int (0 : Int32), .int (0 : Int32), .ref ti, .int (0 : Int32), .int (0 : Int32), .ref po, .ref su, .ref sq, .ref ch, .ref vt, .ref sh])), (vt, .inl (cI, 4, .inl vf))] H := hP
          have hD : va_D A [(m0, .inr (7, [.int th, .int (4 : Int32), .int (0 : Int32), .ref rw, .int (0 : Int32), .int (0 : Int32), .int (0 : Int32), .ref ry, .int (0 : Int32), .int (0 : Int32), .ref ti, .int (0 : Int32), .int (0 : Int32), .ref po, .ref su, .ref sq, .ref ch, .ref vt, .ref sh])), (vt, .inl (cI, 4, .inl vf))] := hD
          refine lv_if_eq (tgt := 33) hx hb d_M_within_26 (by decide) (fun h99 => absurd h99 (by decide)) (fun _ => ?_)
          refine lv_iconst (v := (1 : Int32)) hx hb d_M_within_29 (by decide) ?_
          refine lv_goto (tgt := 34) hx hb d_M_within_30 (by decide) ?_
          refine lv_istore_n (lv' := [(2, .int (1 : Int32)), (3, .int (3 : Int32)), (0, .ref m0), (1, .int r)]) hx hb d_M_within_34 rfl hl (by decide) rfl (fun ls hl => ?_)
          refine lv_iinc (lv' := [(3, .int (4 : Int32)), (2, .int (1 : Int32)), (0, .ref m0), (1, .int r)]) (k := 1) (v := (4 : Int32)) hx hb d_M_within_35 hl rfl (by decide) (by decide) rfl (fun ls hl => ?_)
          refine lv_goto (tgt := 4) hx hb d_M_within_38 (by decide) ?_
          refine lv_iload_n hx hb d_M_within_4 rfl (lv_at hl 0 rfl) ?_
          refine lv_aload_n hx hb d_M_within_5 rfl (lv_at hl 2 rfl) ?_
          refine va_get (D := D) (ci := 7) (v := .int (4 : Int32)) (C := cn_M) (T := ft_M) (N := 19) hx hb hf_M (fun _ h => h) hown hK hP 0 rfl rfl 1 (by decide) (gw.at G hx0 mw_714 rfl _) (fun _ h9 => h9) rfl d_M_within_6 ?_
          refine lv_icmp_ge (tgt := 41) hx hb d_M_within_9 (by decide) (fun _ => ?_) (fun h99 => absurd h99 (by decide))
          refine lv_iload_n hx hb d_M_within_41 rfl (lv_at hl 1 rfl) ?_
          exact absurd ⟨h_1, h_2, h_3, h_4⟩ h
        · refine cx_call (D := D) (cl := kl) (ws := _) (wc := []) (wr := [(m0, .inr (7, [.int th, .int (4 : Int32), .int (0 : Int32), .ref rw, .int (0 : Int32), .int (0 : Int32), .int (0 : Int32), .ref ry, .int (0 : Int32), .int (0 : Int32), .ref ti, .int (0 : Int32), .int (0 : Int32), .ref po, .ref su, .ref sq, .ref ch, .ref vt, .ref sh])), (vt, .inl (cI, 4, .inl vf))]) (tx_runS (As := [.int (vf 3), .int r]) (rest := []) hx hb hml hown (c_M_in_n E H.size (vf 3) r h_4) (cx_C (b0 := b0) G hx0 mw_790 mw_9 ny_M_in (by decide)) (gw.at G hx0 mw_788 rfl _) (gw.at G hx0 mw_789 rfl _) (gw.at G hx0 mw_9 rfl _) ⟨cx_blind, (cx_pre (s := s) hx0 hP hD hS hA0 [] rfl rfl (by decide))⟩ rfl rfl hl.1 rfl (lv_room (Nat.le_of_ble_eq_true rfl)) d_M_within_23 ⟨by decide, by decide⟩) hP hD hS hA [] [0, 1] rfl rfl (by decide) (by decide) (fun v t w1 H locs ht hW9 hp hP hD hS => ?_) (fun x t w1 H locs ht hW9 hp hP hD hS => by obtain ⟨h9, -⟩ := hp; cases h9)
          obtain ⟨h9, rfl⟩ := hp
          cases h9
          refine W.eq (g2 := F0 m 26 ls [.int (0 : Int32)]) rfl ?_
          refine W.widen (k := 0) (n := 0) (by decide) (by decide) ?_
          have hP : va_P D kl [(m0, .inr (7, [.int th, .int (4 : Int32), .int (0 : Int32), .ref rw, .int (0 : Int32), .int (0 : Int32), .int (0 : Int32), .ref ry, .int (0 : Int32), .int (0 : Int32), .ref ti, .int (0 : Int32), .int (0 : Int32), .ref po, .ref su, .ref sq, .ref ch, .ref vt, .ref sh])), (vt, .inl (cI, 4, .inl vf))] H := hP
          have hD : va_D A [(m0, .inr (7, [.int th, .int (4 : Int32), .int (0 : Int32), .ref rw, .int (0 : Int32), .int (0 : Int32), .int (0 : Int32), .ref ry, .int (0 : Int32), .int (0 : Int32), .ref ti, .int (0 : Int32), .int (0 : Int32), .ref po, .ref su, .ref sq, .ref ch, .ref vt, .ref sh])), (vt, .inl (cI, 4, .inl vf))] := hD
          refine lv_if_eq (tgt := 33) hx hb d_M_within_26 (by decide) (fun _ => ?_) (fun h99 => absurd h99 (by decide))
          refine lv_iconst (v := (0 : Int32)) hx hb d_M_within_33 (by decide) ?_
          refine lv_istore_n (lv' := [(2, .int (0 : Int32)), (3, .int (3 : Int32)), (0, .ref m0), (1, .int r)]) hx hb d_M_within_34 rfl hl (by decide) rfl (fun ls hl => ?_)
          refine lv_iinc (lv' := [(3, .int (4 : Int32)), (2, .int (0 : Int32)), (0, .ref m0), (1, .int r)]) (k := 1) (v := (4 : Int32)) hx hb d_M_within_35 hl rfl (by decide) (by decide) rfl (fun ls hl => ?_)
          refine lv_goto (tgt := 4) hx hb d_M_within_38 (by decide) ?_
          refine lv_iload_n hx hb d_M_within_4 rfl (lv_at hl 0 rfl) ?_
          refine lv_aload_n hx hb d_M_within_5 rfl (lv_at hl 2 rfl) ?_
          refine va_get (D := D) (ci := 7) (v := .int (4 : Int32)) (C := cn_M) (T := ft_M) (N := 19) hx hb hf_M (fun _ h => h) hown hK hP 0 rfl rfl 1 (by decide) (gw.at G hx0 mw_714 rfl _) (fun _ h9 => h9) rfl d_M_within_6 ?_
          refine lv_icmp_ge (tgt := 41) hx hb d_M_within_9 (by decide) (fun _ => ?_) (fun h99 => absurd h99 (by decide))
          refine lv_iload_n hx hb d_M_within_41 rfl (lv_at hl 1 rfl) ?_
          exact tx_mono (fun _ h => tx_Z.of h) (W.zret (v := (0 : Int32)) hx hb hr (by decide) (fun t ht hW => ⟨⟨[(m0, .inr (7, [.int th, .int (4 : Int32), .int (0 : Int32), .ref rw, .int (0 : Int32), .int (0 : Int32), .int (0 : Int32), .ref ry, .int (0 : Int32), .int (0 : Int32), .ref ti, .int (0 : Int32), .int (0 : Int32), .ref po, .ref su, .ref sq, .ref ch, .ref vt, .ref sh])), (vt, .inl (cI, 4, .inl vf))], ⟨rfl, rfl⟩, by rw [ht]; exact hP.sub [0, 1] rfl, hD.sub [0, 1] (by decide) rfl⟩, hS.F ht⟩) hS.2.2 d_M_within_42)
      · refine cx_call (D := D) (cl := kl) (ws := _) (wc := []) (wr := [(m0, .inr (7, [.int th, .int (4 : Int32), .int (0 : Int32), .ref rw, .int (0 : Int32), .int (0 : Int32), .int (0 : Int32), .ref ry, .int (0 : Int32), .int (0 : Int32), .ref ti, .int (0 : Int32), .int (0 : Int32), .ref po, .ref su, .ref sq, .ref ch, .ref vt, .ref sh])), (vt, .inl (cI, 4, .inl vf))]) (tx_runS (As := [.int (vf 2), .int r]) (rest := []) hx hb hml hown (c_M_in_n E H.size (vf 2) r h_3) (cx_C (b0 := b0) G hx0 mw_790 mw_9 ny_M_in (by decide)) (gw.at G hx0 mw_788 rfl _) (gw.at G hx0 mw_789 rfl _) (gw.at G hx0 mw_9 rfl _) ⟨cx_blind, (cx_pre (s := s) hx0 hP hD hS hA0 [] rfl rfl (by decide))⟩ rfl rfl hl.1 rfl (lv_room (Nat.le_of_ble_eq_true rfl)) d_M_within_23 ⟨by decide, by decide⟩) hP hD hS hA [] [0, 1] rfl rfl (by decide) (by decide) (fun v t w1 H locs ht hW9 hp hP hD hS => ?_) (fun x t w1 H locs ht hW9 hp hP hD hS => by obtain ⟨h9, -⟩ := hp; cases h9)
        obtain ⟨h9, rfl⟩ := hp
        cases h9
        refine W.eq (g2 := F0 m 26 ls [.int (0 : Int32)]) rfl ?_
        refine W.widen (k := 0) (n := 0) (by decide) (by decide) ?_
        have hP : va_P D kl [(m0, .inr (7, [.int th, .int (4 : Int32), .int (0 : Int32), .ref rw, .int (0 : Int32), .int (0 : Int32), .int (0 : Int32), .ref ry, .int (0 : Int32), .int (0 : Int32), .ref ti, .int (0 : Int32), .int (0 : Int32), .ref po, .ref su, .ref sq, .ref ch, .ref vt, .ref sh])), (vt, .inl (cI, 4, .inl vf))] H := hP
        have hD : va_D A [(m0, .inr (7, [.int th, .int (4 : Int32), .int (0 : Int32), .ref rw, .int (0 : Int32), .int (0 : Int32), .int (0 : Int32), .ref ry, .int (0 : Int32), .int (0 : Int32), .ref ti, .int (0 : Int32), .int (0 : Int32), .ref po, .ref su, .ref sq, .ref ch, .ref vt, .ref sh])), (vt, .inl (cI, 4, .inl vf))] := hD
        refine lv_if_eq (tgt := 33) hx hb d_M_within_26 (by decide) (fun _ => ?_) (fun h99 => absurd h99 (by decide))
        refine lv_iconst (v := (0 : Int32)) hx hb d_M_within_33 (by decide) ?_
        refine lv_istore_n (lv' := [(2, .int (0 : Int32)), (3, .int (2 : Int32)), (0, .ref m0), (1, .int r)]) hx hb d_M_within_34 rfl hl (by decide) rfl (fun ls hl => ?_)
        refine lv_iinc (lv' := [(3, .int (3 : Int32)), (2, .int (0 : Int32)), (0, .ref m0), (1, .int r)]) (k := 1) (v := (3 : Int32)) hx hb d_M_within_35 hl rfl (by decide) (by decide) rfl (fun ls hl => ?_)
        refine lv_goto (tgt := 4) hx hb d_M_within_38 (by decide) ?_
        refine lv_iload_n hx hb d_M_within_4 rfl (lv_at hl 0 rfl) ?_
        refine lv_aload_n hx hb d_M_within_5 rfl (lv_at hl 2 rfl) ?_
        refine va_get (D := D) (ci := 7) (v := .int (4 : Int32)) (C := cn_M) (T := ft_M) (N := 19) hx hb hf_M (fun _ h => h) hown hK hP 0 rfl rfl 1 (by decide) (gw.at G hx0 mw_714 rfl _) (fun _ h9 => h9) rfl d_M_within_6 ?_
        refine lv_icmp_ge (tgt := 41) hx hb d_M_within_9 (by decide) (fun h99 => absurd h99 (by decide)) (fun _ => ?_)
        refine lv_iload_n hx hb d_M_within_12 rfl (lv_at hl 1 rfl) ?_
        refine lv_if_eq (tgt := 33) hx hb d_M_within_13 (by decide) (fun _ => ?_) (fun h99 => absurd h99 (by decide))
        refine lv_iconst (v := (0 : Int32)) hx hb d_M_within_33 (by decide) ?_
        refine lv_istore_n (lv' := [(2, .int (0 : Int32)), (3, .int (3 : Int32)), (0, .ref m0), (1, .int r)]) hx hb d_M_within_34 rfl hl (by decide) rfl (fun ls hl => ?_)
        refine lv_iinc (lv' := [(3, .int (4 : Int32)), (2, .int (0 : Int32)), (0, .ref m0), (1, .int r)]) (k := 1) (v := (4 : Int32)) hx hb d_M_within_35 hl rfl (by decide) (by decide) rfl (fun ls hl => ?_)
        refine lv_goto (tgt := 4) hx hb d_M_within_38 (by decide) ?_
        refine lv_iload_n hx hb d_M_within_4 rfl (lv_at hl 0 rfl) ?_
        refine lv_aload_n hx hb d_M_within_5 rfl (lv_at hl 2 rfl) ?_
        refine va_get (D := D) (ci := 7) (v := .int (4 : Int32)) (C := cn_M) (T := ft_M) (N := 19) hx hb hf_M (fun _ h => h) hown hK hP 0 rfl rfl 1 (by decide) (gw.at G hx0 mw_714 rfl _) (fun _ h9 => h9) rfl d_M_within_6 ?_
        refine lv_icmp_ge (tgt := 41) hx hb d_M_within_9 (by decide) (fun _ => ?_) (fun h99 => absurd h99 (by decide))
        refine lv_iload_n hx hb d_M_within_41 rfl (lv_at hl 1 rfl) ?_
        exact tx_mono (fun _ h => tx_Z.of h) (W.zret (v := (0 : Int32)) hx hb hr (by decide) (fun t ht hW => ⟨⟨[(m0, .inr (7, [.int th, .int (4 : Int32), .int (0 : Int32), .ref rw, .int (0 : Int32), .int (0 : Int32), .int (0 : Int32), .ref ry, .int (0 : Int32), .int (0 : Int32), .ref ti, .int (0 : Int32), .int (0 : Int32), .ref po, .ref su, .ref sq, .ref ch, .ref vt, .ref sh])), (vt, .inl (cI, 4, .inl vf))], ⟨rfl, rfl⟩, by rw [ht]; exact hP.sub [0, 1] rfl, hD.sub [0, 1] (by decide) rfl⟩, hS.F ht⟩) hS.2.2 d_M_within_42)
    · refine cx_call (D := D) (cl := kl) (ws := _) (wc := []) (wr := [(m0, .inr (7, [.int th, .int (4 : Int32), .int (0 : Int32), .ref rw, .int (0 : Int32), .int (0 : Int32), .int (0 : Int32), .ref ry, .int (0 : Int32), .int (0 : Int32), .ref ti, .int (0 : Int32), .int (0 : Int32), .ref po, .ref su, .ref sq, .ref ch, .ref vt, .ref sh])), (vt, .inl (cI, 4, .inl vf))]) (tx_runS (As := [.int (vf 1), .int r]) (rest := []) hx hb hml hown (c_M_in_n E H.size (vf 1) r h_2) (cx_C (b0 := b0) G hx0 mw_790 mw_9 ny_M_in (by decide)) (gw.at G hx0 mw_788 rfl _) (gw.at G hx0 mw_789 rfl _) (gw.at G hx0 mw_9 rfl _) ⟨cx_blind, (cx_pre (s := s) hx0 hP hD hS hA0 [] rfl rfl (by decide))⟩ rfl rfl hl.1 rfl (lv_room (Nat.le_of_ble_eq_true rfl)) d_M_within_23 ⟨by decide, by decide⟩) hP hD hS hA [] [0, 1] rfl rfl (by decide) (by decide) (fun v t w1 H locs ht hW9 hp hP hD hS => ?_) (fun x t w1 H locs ht hW9 hp hP hD hS => by obtain ⟨h9, -⟩ := hp; cases h9)
      obtain ⟨h9, rfl⟩ := hp
      cases h9
      refine W.eq (g2 := F0 m 26 ls [.int (0 : Int32)]) rfl ?_
      refine W.widen (k := 0) (n := 0) (by decide) (by decide) ?_
      have hP : va_P D kl [(m0, .inr (7, [.int th, .int (4 : Int32), .int (0 : Int32), .ref rw, .int (0 : Int32), .int (0 : Int32), .int (0 : Int32), .ref ry, .int (0 : Int32), .int (0 : Int32), .ref ti, .int (0 : Int32), .int (0 : Int32), .ref po, .ref su, .ref sq, .ref ch, .ref vt, .ref sh])), (vt, .inl (cI, 4, .inl vf))] H := hP
      have hD : va_D A [(m0, .inr (7, [.int th, .int (4 : Int32), .int (0 : Int32), .ref rw, .int (0 : Int32), .int (0 : Int32), .int (0 : Int32), .ref ry, .int (0 : Int32), .int (0 : Int32), .ref ti, .int (0 : Int32), .int (0 : Int32), .ref po, .ref su, .ref sq, .ref ch, .ref vt, .ref sh])), (vt, .inl (cI, 4, .inl vf))] := hD
      refine lv_if_eq (tgt := 33) hx hb d_M_within_26 (by decide) (fun _ => ?_) (fun h99 => absurd h99 (by decide))
      refine lv_iconst (v := (0 : Int32)) hx hb d_M_within_33 (by decide) ?_
      refine lv_istore_n (lv' := [(2, .int (0 : Int32)), (3, .int (1 : Int32)), (0, .ref m0), (1, .int r)]) hx hb d_M_within_34 rfl hl (by decide) rfl (fun ls hl => ?_)
      refine lv_iinc (lv' := [(3, .int (2 : Int32)), (2, .int (0 : Int32)), (0, .ref m0), (1, .int r)]) (k := 1) (v := (2 : Int32)) hx hb d_M_within_35 hl rfl (by decide) (by decide) rfl (fun ls hl => ?_)
      refine lv_goto (tgt := 4) hx hb d_M_within_38 (by decide) ?_
      refine lv_iload_n hx hb d_M_within_4 rfl (lv_at hl 0 rfl) ?_
      refine lv_aload_n hx hb d_M_within_5 rfl (lv_at hl 2 rfl) ?_
      refine va_get (D := D) (ci := 7) (v := .int (4 : Int32)) (C := cn_M) (T := ft_M) (N := 19) hx hb hf_M (fun _ h => h) hown hK hP 0 rfl rfl 1 (by decide) (gw.at G hx0 mw_714 rfl _) (fun _ h9 => h9) rfl d_M_within_6 ?_
      refine lv_icmp_ge (tgt := 41) hx hb d_M_within_9 (by decide) (fun h99 => absurd h99 (by decide)) (fun _ => ?_)
      refine lv_iload_n hx hb d_M_within_12 rfl (lv_at hl 1 rfl) ?_
      refine lv_if_eq (tgt := 33) hx hb d_M_within_13 (by decide) (fun _ => ?_) (fun h99 => absurd h99 (by decide))
      refine lv_iconst (v := (0 : Int32)) hx hb d_M_within_33 (by decide) ?_
      refine lv_istore_n (lv' := [(2, .int (0 : Int32)), (3, .int (2 : Int32)), (0, .ref m0), (1, .int r)]) hx hb d_M_within_34 rfl hl (by decide) rfl (fun ls hl => ?_)
      refine lv_iinc (lv' := [(3, .int (3 : Int32)), (2, .int (0 : Int32)), (0, .ref m0), (1, .int r)]) (k := 1) (v := (3 : Int32)) hx hb d_M_within_35 hl rfl (by decide) (by decide) rfl (fun ls hl => ?_)
      refine lv_goto (tgt := 4) hx hb d_M_within_38 (by decide) ?_
      refine lv_iload_n hx hb d_M_within_4 rfl (lv_at hl 0 rfl) ?_
      refine lv_aload_n hx hb d_M_within_5 rfl (lv_at hl 2 rfl) ?_
      refine va_get (D := D) (ci := 7) (v := .int (4 : Int32)) (C := cn_M) (T := ft_M) (N := 19) hx hb hf_M (fun _ h => h) hown hK hP 0 rfl rfl 1 (by decide) (gw.at G hx0 mw_714 rfl _) (fun _ h9 => h9) rfl d_M_within_6 ?_
      refine lv_icmp_ge (tgt := 41) hx hb d_M_within_9 (by decide) (fun h99 => absurd h99 (by decide)) (fun _ => ?_)
      refine lv_iload_n hx hb d_M_within_12 rfl (lv_at hl 1 rfl) ?_
      refine lv_if_eq (tgt := 33) hx hb d_M_within_13 (by decide) (fun _ => ?_) (fun h99 => absurd h99 (by decide))
      refine lv_iconst (v := (0 : Int32)) hx hb d_M_within_33 (by decide) ?_
      refine lv_istore_n (lv' := [(2, .int (0 : Int32)), (3, .int (3 : Int32)), (0, .ref m0), (1, .int r)]) hx hb d_M_within_34 rfl hl (by decide) rfl (fun ls hl => ?_)
      refine lv_iinc (lv' := [(3, .int (4 : Int32)), (2, .int (0 : Int32)), (0, .ref m0), (1, .int r)]) (k := 1) (v := (4 : Int32)) hx hb d_M_within_35 hl rfl (by decide) (by decide) rfl (fun ls hl => ?_)
      refine lv_goto (tgt := 4) hx hb d_M_within_38 (by decide) ?_
      refine lv_iload_n hx hb d_M_within_4 rfl (lv_at hl 0 rfl) ?_
      refine lv_aload_n hx hb d_M_within_5 rfl (lv_at hl 2 rfl) ?_
      refine va_get (D := D) (ci := 7) (v := .int (4 : Int32)) (C := cn_M) (T := ft_M) (N := 19) hx hb hf_M (fun _ h => h) hown hK hP 0 rfl rfl 1 (by decide) (gw.at G hx0 mw_714 rfl _) (fun _ h9 => h9) rfl d_M_within_6 ?_
      refine lv_icmp_ge (tgt := 41) hx hb d_M_within_9 (by decide) (fun _ => ?_) (fun h99 => absurd h99 (by decide))
      refine lv_iload_n hx hb d_M_within_41 rfl (lv_at hl 1 rfl) ?_
      exact tx_mono (fun _ h => tx_Z.of h) (W.zret (v := (0 : Int32)) hx hb hr (by decide) (fun t ht hW => ⟨⟨[(m0, .inr (7, [.int th, .int (4 : Int32), .int (0 : Int32), .ref rw, .int (0 : Int32), .int (0 : Int32), .int (0 : Int32), .ref ry, .int (0 : Int32), .int (0 : Int32), .ref ti, .int (0 : Int32), .int (0 : Int32), .ref po, .ref su, .ref sq, .ref ch, .ref vt, .ref sh])), (vt, .inl (cI, 4, .inl vf))], ⟨rfl, rfl⟩, by rw [ht]; exact hP.sub [0, 1] rfl, hD.sub [0, 1] (by decide) rfl⟩, hS.F ht⟩) hS.2.2 d_M_within_42)
  · refine cx_call (D := D) (cl := kl) (ws := _) (wc := []) (wr := [(m0, .inr (7, [.int th, .int (4 : Int32), .int (0 : Int32), .ref rw, .int (0 : Int32), .int (0 : Int32), .int (0 : Int32), .ref ry, .int (0 : Int32), .int (0 : Int32), .ref ti, .int (0 : Int32), .int (0 : Int32), .ref po, .ref su, .ref sq, .ref ch, .ref vt, .ref sh])), (vt, .inl (cI, 4, .inl vf))]) (tx_runS (As := [.int (vf 0), .int r]) (rest := []) hx hb hml hown (c_M_in_n E s.heap.size (vf 0) r h_1) (cx_C (b0 := b0) G hx0 mw_790 mw_9 ny_M_in (by decide)) (gw.at G hx0 mw_788 rfl _) (gw.at G hx0 mw_789 rfl _) (gw.at G hx0 mw_9 rfl _) ⟨cx_blind, (cx_pre (s := s) hx0 hP hD hS hA0 [] rfl rfl (by decide))⟩ rfl rfl hl.1 rfl (lv_room (Nat.le_of_ble_eq_true rfl)) d_M_within_23 ⟨by decide, by decide⟩) hP hD hS hA [] [0, 1] rfl rfl (by decide) (by decide) (fun v t w1 H locs ht hW9 hp hP hD hS => ?_) (fun x t w1 H locs ht hW9 hp hP hD hS => by obtain ⟨h9, -⟩ := hp; cases h9)
    obtain ⟨h9, rfl⟩ := hp
    cases h9
    refine W.eq (g2 := F0 m 26 ls [.int (0 : Int32)]) rfl ?_
    refine W.widen (k := 0) (n := 0) (by decide) (by decide) ?_
    have hP : va_P D kl [(m0, .inr (7, [.int th, .int (4 : Int32), .int (0 : Int32), .ref rw, .int (0 : Int32), .int (0 : Int32), .int (0 : Int32), .ref ry, .int (0 : Int32), .int (0 : Int32), .ref ti, .int (0 : Int32), .int (0 : Int32), .ref po, .ref su, .ref sq, .ref ch, .ref vt, .ref sh])), (vt, .inl (cI, 4, .inl vf))] H := hP
    have hD : va_D A [(m0, .inr (7, [.int th, .int (4 : Int32), .int (0 : Int32), .ref rw, .int (0 : Int32), .int (0 : Int32), .int (0 : Int32), .ref ry, .int (0 : Int32), .int (0 : Int32), .ref ti, .int (0 : Int32), .int (0 : Int32), .ref po, .ref su, .ref sq, .ref ch, .ref vt, .ref sh])), (vt, .inl (cI, 4, .inl vf))] := hD
    refine lv_if_eq (tgt := 33) hx hb d_M_within_26 (by decide) (fun _ => ?_) (fun h99 => absurd h99 (by decide))
    refine lv_iconst (v := (0 : Int32)) hx hb d_M_within_33 (by decide) ?_
    refine lv_istore_n (lv' := [(2, .int (0 : Int32)), (3, .int (0 : Int32)), (0, .ref m0), (1, .int r)]) hx hb d_M_within_34 rfl hl (by decide) rfl (fun ls hl => ?_)
    refine lv_iinc (lv' := [(3, .int (1 : Int32)), (2, .int (0 : Int32)), (0, .ref m0), (1, .int r)]) (k := 1) (v := (1 : Int32)) hx hb d_M_within_35 hl rfl (by decide) (by decide) rfl (fun ls hl => ?_)
    refine lv_goto (tgt := 4) hx hb d_M_within_38 (by decide) ?_
    refine lv_iload_n hx hb d_M_within_4 rfl (lv_at hl 0 rfl) ?_
    refine lv_aload_n hx hb d_M_within_5 rfl (lv_at hl 2 rfl) ?_
    refine va_get (D := D) (ci := 7) (v := .int (4 : Int32)) (C := cn_M) (T := ft_M) (N := 19) hx hb hf_M (fun _ h => h) hown hK hP 0 rfl rfl 1 (by decide) (gw.at G hx0 mw_714 rfl _) (fun _ h9 => h9) rfl d_M_within_6 ?_
    refine lv_icmp_ge (tgt := 41) hx hb d_M_within_9 (by decide) (fun h99 => absurd h99 (by decide)) (fun _ => ?_)
    refine lv_iload_n hx hb d_M_within_12 rfl (lv_at hl 1 rfl) ?_
    refine lv_if_eq (tgt := 33) hx hb d_M_within_13 (by decide) (fun _ => ?_) (fun h99 => absurd h99 (by decide))
    refine lv_iconst (v := (0 : Int32)) hx hb d_M_within_33 (by decide) ?_
    refine lv_istore_n (lv' := [(2, .int (0 : Int32)), (3, .int (1 : Int32)), (0, .ref m0), (1, .int r)]) hx hb d_M_within_34 rfl hl (by decide) rfl (fun ls hl => ?_)
    refine lv_iinc (lv' := [(3, .int (2 : Int32)), (2, .int (0 : Int32)), (0, .ref m0), (1, .int r)]) (k := 1) (v := (2 : Int32)) hx hb d_M_within_35 hl rfl (by decide) (by decide) rfl (fun ls hl => ?_)
    refine lv_goto (tgt := 4) hx hb d_M_within_38 (by decide) ?_
    refine lv_iload_n hx hb d_M_within_4 rfl (lv_at hl 0 rfl) ?_
    refine lv_aload_n hx hb d_M_within_5 rfl (lv_at hl 2 rfl) ?_
    refine va_get (D := D) (ci := 7) (v := .int (4 : Int32)) (C := cn_M) (T := ft_M) (N := 19) hx hb hf_M (fun _ h => h) hown hK hP 0 rfl rfl 1 (by decide) (gw.at G hx0 mw_714 rfl _) (fun _ h9 => h9) rfl d_M_within_6 ?_
    refine lv_icmp_ge (tgt := 41) hx hb d_M_within_9 (by decide) (fun h99 => absurd h99 (by decide)) (fun _ => ?_)
    refine lv_iload_n hx hb d_M_within_12 rfl (lv_at hl 1 rfl) ?_
    refine lv_if_eq (tgt := 33) hx hb d_M_within_13 (by decide) (fun _ => ?_) (fun h99 => absurd h99 (by decide))
    refine lv_iconst (v := (0 : Int32)) hx hb d_M_within_33 (by decide) ?_
    refine lv_istore_n (lv' := [(2, .int (0 : Int32)), (3, .int (2 : Int32)), (0, .ref m0), (1, .int r)]) hx hb d_M_within_34 rfl hl (by decide) rfl (fun ls hl => ?_)
    refine lv_iinc (lv' := [(3, .int (3 : Int32)), (2, .int (0 : Int32)), (0, .ref m0), (1, .int r)]) (k := 1) (v := (3 : Int32)) hx hb d_M_within_35 hl rfl (by decide) (by decide) rfl (fun ls hl => ?_)
    refine lv_goto (tgt := 4) hx hb d_M_within_38 (by decide) ?_
    refine lv_iload_n hx hb d_M_within_4 rfl (lv_at hl 0 rfl) ?_
    refine lv_aload_n hx hb d_M_within_5 rfl (lv_at hl 2 rfl) ?_
    refine va_get (D := D) (ci := 7) (v := .int (4 : Int32)) (C := cn_M) (T := ft_M) (N := 19) hx hb hf_M (fun _ h => h) hown hK hP 0 rfl rfl 1 (by decide) (gw.at G hx0 mw_714 rfl _) (fun _ h9 => h9) rfl d_M_within_6 ?_
    refine lv_icmp_ge (tgt := 41) hx hb d_M_within_9 (by decide) (fun h99 => absurd h99 (by decide)) (fun _ => ?_)
    refine lv_iload_n hx hb d_M_within_12 rfl (lv_at hl 1 rfl) ?_
    refine lv_if_eq (tgt := 33) hx hb d_M_within_13 (by decide) (fun _ => ?_) (fun h99 => absurd h99 (by decide))
    refine lv_iconst (v := (0 : Int32)) hx hb d_M_within_33 (by decide) ?_
    refine lv_istore_n (lv' := [(2, .int (0 : Int32)), (3, .int (3 : Int32)), (0, .ref m0), (1, .int r)]) hx hb d_M_within_34 rfl hl (by decide) rfl (fun ls hl => ?_)
    refine lv_iinc (lv' := [(3, .int (4 : Int32)), (2, .int (0 : Int32)), (0, .ref m0), (1, .int r)]) (k := 1) (v := (4 : Int32)) hx hb d_M_within_35 hl rfl (by decide) (by decide) rfl (fun ls hl => ?_)
    refine lv_goto (tgt := 4) hx hb d_M_within_38 (by decide) ?_
    refine lv_iload_n hx hb d_M_within_4 rfl (lv_at hl 0 rfl) ?_
    refine lv_aload_n hx hb d_M_within_5 rfl (lv_at hl 2 rfl) ?_
    refine va_get (D := D) (ci := 7) (v := .int (4 : Int32)) (C := cn_M) (T := ft_M) (N := 19) hx hb hf_M (fun _ h => h) hown hK hP 0 rfl rfl 1 (by decide) (gw.at G hx0 mw_714 rfl _) (fun _ h9 => h9) rfl d_M_within_6 ?_
    refine lv_icmp_ge (tgt := 41) hx hb d_M_within_9 (by decide) (fun _ => ?_) (fun h99 => absurd h99 (by decide))
    refine lv_iload_n hx hb d_M_within_41 rfl (lv_at hl 1 rfl) ?_
    exact tx_mono (fun _ h => tx_Z.of h) (W.zret (v := (0 : Int32)) hx hb hr (by decide) (fun t ht hW => ⟨⟨[(m0, .inr (7, [.int th, .int (4 : Int32), .int (0 : Int32), .ref rw, .int (0 : Int32), .int (0 : Int32), .int (0 : Int32), .ref ry, .int (0 : Int32), .int (0 : Int32), .ref ti, .int (0 : Int32), .int (0 : Int32), .ref po, .ref su, .ref sq, .ref ch, .ref vt, .ref sh])), (vt, .inl (cI, 4, .inl vf))], ⟨rfl, rfl⟩, by rw [ht]; exact hP.sub [0, 1] rfl, hD.sub [0, 1] (by decide) rfl⟩, hS.F ht⟩) hS.2.2 d_M_within_42)

