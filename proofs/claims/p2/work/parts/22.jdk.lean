/-! ===== own rows, laid by wip/tools/sym.py: Integer.bitCount, Arrays.fill, fillDirection ===== -/
def ush (x y : Int32) : Int32 := (x.toUInt32 >>> (y.toUInt32 &&& Int32.toUInt32 31)).toInt32
def bc1 (x : Int32) : Int32 := x - (ush x 1 &&& 1431655765)
def bc2 (x : Int32) : Int32 := (x &&& 858993459) + (ush x 2 &&& 858993459)
def bc3 (x : Int32) : Int32 := x + ush x 4 &&& 252645135
def bc4 (x : Int32) : Int32 := x + ush x 8
def bc5 (x : Int32) : Int32 := x + ush x 16
/-- how many bits a mask of eight has -/
def pcn (n : Nat) : Nat := n % 2 + n / 2 % 2 + n / 4 % 2 + n / 8 % 2 + n / 16 % 2 + n / 32 % 2 + n / 64 % 2 + n / 128 % 2
theorem bc_all : ∀ n, n < 256 → bc5 (bc4 (bc3 (bc2 (bc1 (nI n))))) &&& 63 = nI (pcn n) := by decide +kernel
theorem pcn_le {n : Nat} : pcn n ≤ 8 := by unfold pcn; omega
set_option maxHeartbeats 4000000 in
set_option maxRecDepth 100000 in
theorem c_JI_bitCount {l : Launch} {s0 : State} {b0 : Addr} {D : va_G} {cI cJ cZ : ClassId} {tC tS : Nat} (E : gE l s0 b0 D cI cJ cZ tC tS) (sz : Nat) (ch : Nat) (hch : ch < 256) : cx_M l s0 D kl y_JI_bitCount b_JI_bitCount 1 (some .int) ({ frames := 0, cells := 0, slots := 0, locals := 0 } : Room) 0 0 [.int (nI ch)] [] sz (fun o9 _ w9 => o9 = .returned (some (.int (nI (pcn ch)))) ∧ w9 = []) := by
  refine tx_ofW (cc := b_JI_bitCount) (maxL := 1) (ret := (some .int)) (by decide) rfl ?_
  intro p e s m args below meth c s₁ B hml hT hv
  obtain ⟨rfl, hsz, hP, hD0, hx0⟩ := hv
  have hx := B.exec
  have hb := B.bytes
  have hr := B.returns
  have G := E.2.1
  have hown : s.vm.findClass cn_JI = some m.cls := findClass_of_methodNamed B.named
  have hlocks := B.notSynchronized
  have hK := va_K.moved hx0.1.alike E.2.2.1
  subst hsz
  have hA0 := cx_new hD0 hx0.2.1
  have hD := hD0.self (sz := s.heap.size)
  generalize hAe : va_A [] s.heap.size = A at hD hA0 ⊢
  have hA : ∀ q : Nat, s.heap.size ≤ q → A q := fun q h => by rw [← hAe]; exact Or.inr h
  have hS : va_S A s.heap s.heap [] := va_S.rf
  have hl := lv_entry ([.int (nI ch)]) (n := 1) (Nat.le_of_ble_eq_true rfl)
  rw [lg_entry_eq]
  generalize (lg_sl ([.int (nI ch)]) ++ List.replicate (1 - (lg_sl ([.int (nI ch)])).length) Slot.unset).toArray = ls at hl ⊢
  have hl : lv_has ls 1 [(0, .int (nI ch))] := hl
  have hP : va_P D kl [] s.heap := hP
  have hml : c.maxLocals = 1 := hml
  refine lv_iload_n hx hb d_JI_bitCount_0 rfl (lv_at hl 0 rfl) ?_
  refine lv_iload_n hx hb d_JI_bitCount_1 rfl (lv_at hl 0 rfl) ?_
  refine lv_iconst (v := (1 : Int32)) hx hb d_JI_bitCount_2 (by decide) ?_
  refine lv_iushr (v := ush (nI ch) (1 : Int32)) hx hb d_JI_bitCount_3 rfl ?_
  refine lv_ldcw (v := (1431655765 : Int32)) hx hb hown (gw.at G hx0 mw_447 rfl _) d_JI_bitCount_4 ?_
  refine lv_iand hx hb d_JI_bitCount_7 ?_
  refine lv_isub hx hb d_JI_bitCount_8 ?_
  refine tp_i (y := bc1 (nI ch)) rfl ?_
  refine lv_istore_n (lv' := [(0, .int (bc1 (nI ch)))]) hx hb d_JI_bitCount_9 rfl hl (by decide) rfl (fun ls hl => ?_)
  refine lv_iload_n hx hb d_JI_bitCount_10 rfl (lv_at hl 0 rfl) ?_
  refine lv_ldcw (v := (858993459 : Int32)) hx hb hown (gw.at G hx0 mw_448 rfl _) d_JI_bitCount_11 ?_
  refine lv_iand hx hb d_JI_bitCount_14 ?_
  refine lv_iload_n hx hb d_JI_bitCount_15 rfl (lv_at hl 0 rfl) ?_
  refine lv_iconst (v := (2 : Int32)) hx hb d_JI_bitCount_16 (by decide) ?_
  refine lv_iushr (v := ush (bc1 (nI ch)) (2 : Int32)) hx hb d_JI_bitCount_17 rfl ?_
  refine lv_ldcw (v := (858993459 : Int32)) hx hb hown (gw.at G hx0 mw_448 rfl _) d_JI_bitCount_18 ?_
  refine lv_iand hx hb d_JI_bitCount_21 ?_
  refine lv_iadd hx hb d_JI_bitCount_22 ?_
  refine tp_i (y := bc2 (bc1 (nI ch))) rfl ?_
  refine lv_istore_n (lv' := [(0, .int (bc2 (bc1 (nI ch))))]) hx hb d_JI_bitCount_23 rfl hl (by decide) rfl (fun ls hl => ?_)
  refine lv_iload_n hx hb d_JI_bitCount_24 rfl (lv_at hl 0 rfl) ?_
  refine lv_iload_n hx hb d_JI_bitCount_25 rfl (lv_at hl 0 rfl) ?_
  refine lv_iconst (v := (4 : Int32)) hx hb d_JI_bitCount_26 (by decide) ?_
  refine lv_iushr (v := ush (bc2 (bc1 (nI ch))) (4 : Int32)) hx hb d_JI_bitCount_27 rfl ?_
  refine lv_iadd hx hb d_JI_bitCount_28 ?_
  refine lv_ldcw (v := (252645135 : Int32)) hx hb hown (gw.at G hx0 mw_449 rfl _) d_JI_bitCount_29 ?_
  refine lv_iand hx hb d_JI_bitCount_32 ?_
  refine tp_i (y := bc3 (bc2 (bc1 (nI ch)))) rfl ?_
  refine lv_istore_n (lv' := [(0, .int (bc3 (bc2 (bc1 (nI ch)))))]) hx hb d_JI_bitCount_33 rfl hl (by decide) rfl (fun ls hl => ?_)
  refine lv_iload_n hx hb d_JI_bitCount_34 rfl (lv_at hl 0 rfl) ?_
  refine lv_iload_n hx hb d_JI_bitCount_35 rfl (lv_at hl 0 rfl) ?_
  refine lv_bipush (v := (8 : Int32)) hx hb d_JI_bitCount_36 (by decide) ?_
  refine lv_iushr (v := ush (bc3 (bc2 (bc1 (nI ch)))) (8 : Int32)) hx hb d_JI_bitCount_38 rfl ?_
  refine lv_iadd hx hb d_JI_bitCount_39 ?_
  refine tp_i (y := bc4 (bc3 (bc2 (bc1 (nI ch))))) rfl ?_
  refine lv_istore_n (lv' := [(0, .int (bc4 (bc3 (bc2 (bc1 (nI ch))))))]) hx hb d_JI_bitCount_40 rfl hl (by decide) rfl (fun ls hl => ?_)
  refine lv_iload_n hx hb d_JI_bitCount_41 rfl (lv_at hl 0 rfl) ?_
  refine lv_iload_n hx hb d_JI_bitCount_42 rfl (lv_at hl 0 rfl) ?_
  refine lv_bipush (v := (16 : Int32)) hx hb d_JI_bitCount_43 (by decide) ?_
  refine lv_iushr (v := ush (bc4 (bc3 (bc2 (bc1 (nI ch))))) (16 : Int32)) hx hb d_JI_bitCount_45 rfl ?_
  refine lv_iadd hx hb d_JI_bitCount_46 ?_
  refine tp_i (y := bc5 (bc4 (bc3 (bc2 (bc1 (nI ch)))))) rfl ?_
  refine lv_istore_n (lv' := [(0, .int (bc5 (bc4 (bc3 (bc2 (bc1 (nI ch)))))))]) hx hb d_JI_bitCount_47 rfl hl (by decide) rfl (fun ls hl => ?_)
  refine lv_iload_n hx hb d_JI_bitCount_48 rfl (lv_at hl 0 rfl) ?_
  refine lv_bipush (v := (63 : Int32)) hx hb d_JI_bitCount_49 (by decide) ?_
  refine lv_iand hx hb d_JI_bitCount_51 ?_
  exact tx_mono (fun _ h => tx_Z.of h) (W.iret (v := (bc5 (bc4 (bc3 (bc2 (bc1 (nI ch)))))) &&& (63 : Int32)) hx hb hr (fun t ht hW => ⟨⟨[], ⟨(congrArg (fun z99 => Outcome.returned (some (Value.int z99))) (bc_all ch hch)), rfl⟩, by rw [ht]; exact hP.sub [] rfl, hD.sub [] (by decide) rfl⟩, hS.F ht⟩) hS.2.2 d_JI_bitCount_52)

set_option maxHeartbeats 4000000 in
set_option maxRecDepth 100000 in
theorem c_JA_fill4 {l : Launch} {s0 : State} {b0 : Addr} {D : va_G} {cI cJ cZ : ClassId} {tC tS : Nat} (E : gE l s0 b0 D cI cJ cZ tC tS) (sz : Nat) (ga : Nat) (g : Nat → Int32) : cx_M l s0 D kl y_JA_fill b_JA_fill 4 none ({ frames := 0, cells := 0, slots := 0, locals := 0 } : Room) 0 0 [.ref ga, .int (0 : Int32)] [(ga, .inl (cI, 4, .inl g))] sz (fun o9 _ w9 => o9 = .returned none ∧ w9 = [(ga, .inl (cI, 4, .inl (upd (upd (upd (upd g 0 (0 : Int32)) 1 (0 : Int32)) 2 (0 : Int32)) 3 (0 : Int32))))]) := by
  refine tx_ofW (cc := b_JA_fill) (maxL := 4) (ret := none) (by decide) rfl ?_
  intro p e s m args below meth c s₁ B hml hT hv
  obtain ⟨rfl, hsz, hP, hD0, hx0⟩ := hv
  have hx := B.exec
  have hb := B.bytes
  have hr := B.returns
  have G := E.2.1
  have hown : s.vm.findClass cn_JA = some m.cls := findClass_of_methodNamed B.named
  have hlocks := B.notSynchronized
  have hK := va_K.moved hx0.1.alike E.2.2.1
  subst hsz
  have hA0 := cx_new hD0 hx0.2.1
  have hD := hD0.self (sz := s.heap.size)
  generalize hAe : va_A [(ga, .inl (cI, 4, .inl g))] s.heap.size = A at hD hA0 ⊢
  have hA : ∀ q : Nat, s.heap.size ≤ q → A q := fun q h => by rw [← hAe]; exact Or.inr h
  have hS : va_S A s.heap s.heap [] := va_S.rf
  have hl := lv_entry ([.ref ga, .int (0 : Int32)]) (n := 4) (Nat.le_of_ble_eq_true rfl)
  rw [lg_entry_eq]
  generalize (lg_sl ([.ref ga, .int (0 : Int32)]) ++ List.replicate (4 - (lg_sl ([.ref ga, .int (0 : Int32)])).length) Slot.unset).toArray = ls at hl ⊢
  have hl : lv_has ls 4 [(0, .ref ga), (1, .int (0 : Int32))] := hl
  have hP : va_P D kl [(ga, .inl (cI, 4, .inl g))] s.heap := hP
  have hml : c.maxLocals = 4 := hml
  refine lv_iconst (v := (0 : Int32)) hx hb d_JA_fill_0 (by decide) ?_
  refine lv_istore_n (lv' := [(2, .int (0 : Int32)), (0, .ref ga), (1, .int (0 : Int32))]) hx hb d_JA_fill_1 rfl hl (by decide) rfl (fun ls hl => ?_)
  refine lv_aload_n hx hb d_JA_fill_2 rfl (lv_at hl 1 rfl) ?_
  refine va_alen (v := (4 : Int32)) hx hb hK hP 0 0 rfl rfl (by rfl) d_JA_fill_3 ?_
  refine lv_istore_n (lv' := [(3, .int (4 : Int32)), (2, .int (0 : Int32)), (0, .ref ga), (1, .int (0 : Int32))]) hx hb d_JA_fill_4 rfl hl (by decide) rfl (fun ls hl => ?_)
  refine lv_iload_n hx hb d_JA_fill_5 rfl (lv_at hl 1 rfl) ?_
  refine lv_iload_n hx hb d_JA_fill_6 rfl (lv_at hl 0 rfl) ?_
  refine lv_icmp_ge (tgt := 20) hx hb d_JA_fill_7 (by decide) (fun h99 => absurd h99 (by decide)) (fun _ => ?_)
  refine lv_aload_n hx hb d_JA_fill_10 rfl (lv_at hl 2 rfl) ?_
  refine lv_iload_n hx hb d_JA_fill_11 rfl (lv_at hl 1 rfl) ?_
  refine lv_iload_n hx hb d_JA_fill_12 rfl (lv_at hl 3 rfl) ?_
  refine va_iast hx hb hK hP hD hS 0 0 rfl rfl (vp_in_iff.mpr (by decide)) d_JA_fill_13 (fun H locs hP hD hS => ?_)
  have hP : va_P D kl [(ga, .inl (cI, 4, .inl (upd g 0 (0 : Int32))))] H := hP
  have hD : va_D A [(ga, .inl (cI, 4, .inl (upd g 0 (0 : Int32))))] := hD
  refine lv_iinc (lv' := [(2, .int (1 : Int32)), (3, .int (4 : Int32)), (0, .ref ga), (1, .int (0 : Int32))]) (k := 1) (v := (1 : Int32)) hx hb d_JA_fill_14 hl rfl (by decide) (by decide) rfl (fun ls hl => ?_)
  refine lv_goto (tgt := 5) hx hb d_JA_fill_17 (by decide) ?_
  refine lv_iload_n hx hb d_JA_fill_5 rfl (lv_at hl 0 rfl) ?_
  refine lv_iload_n hx hb d_JA_fill_6 rfl (lv_at hl 1 rfl) ?_
  refine lv_icmp_ge (tgt := 20) hx hb d_JA_fill_7 (by decide) (fun h99 => absurd h99 (by decide)) (fun _ => ?_)
  refine lv_aload_n hx hb d_JA_fill_10 rfl (lv_at hl 2 rfl) ?_
  refine lv_iload_n hx hb d_JA_fill_11 rfl (lv_at hl 0 rfl) ?_
  refine lv_iload_n hx hb d_JA_fill_12 rfl (lv_at hl 3 rfl) ?_
  refine va_iast hx hb hK hP hD hS 0 0 rfl rfl (vp_in_iff.mpr (by decide)) d_JA_fill_13 (fun H locs hP hD hS => ?_)
  have hP : va_P D kl [(ga, .inl (cI, 4, .inl (upd (upd g 0 (0 : Int32)) 1 (0 : Int32))))] H := hP
  have hD : va_D A [(ga, .inl (cI, 4, .inl (upd (upd g 0 (0 : Int32)) 1 (0 : Int32))))] := hD
  refine lv_iinc (lv' := [(2, .int (2 : Int32)), (3, .int (4 : Int32)), (0, .ref ga), (1, .int (0 : Int32))]) (k := 0) (v := (2 : Int32)) hx hb d_JA_fill_14 hl rfl (by decide) (by decide) rfl (fun ls hl => ?_)
  refine lv_goto (tgt := 5) hx hb d_JA_fill_17 (by decide) ?_
  refine lv_iload_n hx hb d_JA_fill_5 rfl (lv_at hl 0 rfl) ?_
  refine lv_iload_n hx hb d_JA_fill_6 rfl (lv_at hl 1 rfl) ?_
  refine lv_icmp_ge (tgt := 20) hx hb d_JA_fill_7 (by decide) (fun h99 => absurd h99 (by decide)) (fun _ => ?_)
  refine lv_aload_n hx hb d_JA_fill_10 rfl (lv_at hl 2 rfl) ?_
  refine lv_iload_n hx hb d_JA_fill_11 rfl (lv_at hl 0 rfl) ?_
  refine lv_iload_n hx hb d_JA_fill_12 rfl (lv_at hl 3 rfl) ?_
  refine va_iast hx hb hK hP hD hS 0 0 rfl rfl (vp_in_iff.mpr (by decide)) d_JA_fill_13 (fun H locs hP hD hS => ?_)
  have hP : va_P D kl [(ga, .inl (cI, 4, .inl (upd (upd (upd g 0 (0 : Int32)) 1 (0 : Int32)) 2 (0 : Int32))))] H := hP
  have hD : va_D A [(ga, .inl (cI, 4, .inl (upd (upd (upd g 0 (0 : Int32)) 1 (0 : Int32)) 2 (0 : Int32))))] := hD
  refine lv_iinc (lv' := [(2, .int (3 : Int32)), (3, .int (4 : Int32)), (0, .ref ga), (1, .int (0 : Int32))]) (k := 0) (v := (3 : Int32)) hx hb d_JA_fill_14 hl rfl (by decide) (by decide) rfl (fun ls hl => ?_)
  refine lv_goto (tgt := 5) hx hb d_JA_fill_17 (by decide) ?_
  refine lv_iload_n hx hb d_JA_fill_5 rfl (lv_at hl 0 rfl) ?_
  refine lv_iload_n hx hb d_JA_fill_6 rfl (lv_at hl 1 rfl) ?_
  refine lv_icmp_ge (tgt := 20) hx hb d_JA_fill_7 (by decide) (fun h99 => absurd h99 (by decide)) (fun _ => ?_)
  refine lv_aload_n hx hb d_JA_fill_10 rfl (lv_at hl 2 rfl) ?_
  refine lv_iload_n hx hb d_JA_fill_11 rfl (lv_at hl 0 rfl) ?_
  refine lv_iload_n hx hb d_JA_fill_12 rfl (lv_at hl 3 rfl) ?_
  refine va_iast hx hb hK hP hD hS 0 0 rfl rfl (vp_in_iff.mpr (by decide)) d_JA_fill_13 (fun H locs hP hD hS => ?_)
  have hP : va_P D kl [(ga, .inl (cI, 4, .inl (upd (upd (upd (upd g 0 (0 : Int32)) 1 (0 : Int32)) 2 (0 : Int32)) 3 (0 : Int32))))] H := hP
  have hD : va_D A [(ga, .inl (cI, 4, .inl (upd (upd (upd (upd g 0 (0 : Int32)) 1 (0 : Int32)) 2 (0 : Int32)) 3 (0 : Int32))))] := hD
  refine lv_iinc (lv' := [(2, .int (4 : Int32)), (3, .int (4 : Int32)), (0, .ref ga), (1, .int (0 : Int32))]) (k := 0) (v := (4 : Int32)) hx hb d_JA_fill_14 hl rfl (by decide) (by decide) rfl (fun ls hl => ?_)
  refine lv_goto (tgt := 5) hx hb d_JA_fill_17 (by decide) ?_
  refine lv_iload_n hx hb d_JA_fill_5 rfl (lv_at hl 0 rfl) ?_
  refine lv_iload_n hx hb d_JA_fill_6 rfl (lv_at hl 1 rfl) ?_
  refine lv_icmp_ge (tgt := 20) hx hb d_JA_fill_7 (by decide) (fun _ => ?_) (fun h99 => absurd h99 (by decide))
  exact tx_mono (fun _ h => tx_Z.of h) (W.vret hx hb hr (fun t ht hW => ⟨⟨[(ga, .inl (cI, 4, .inl (upd (upd (upd (upd g 0 (0 : Int32)) 1 (0 : Int32)) 2 (0 : Int32)) 3 (0 : Int32))))], ⟨rfl, rfl⟩, by rw [ht]; exact hP.sub [0] rfl, hD.sub [0] (by decide) rfl⟩, hS.F ht⟩) hS.2.2 d_JA_fill_20)

set_option maxHeartbeats 4000000 in
set_option maxRecDepth 100000 in
theorem c_JA_fill8 {l : Launch} {s0 : State} {b0 : Addr} {D : va_G} {cI cJ cZ : ClassId} {tC tS : Nat} (E : gE l s0 b0 D cI cJ cZ tC tS) (sz : Nat) (ga : Nat) (g : Nat → Int32) : cx_M l s0 D kl y_JA_fill b_JA_fill 4 none ({ frames := 0, cells := 0, slots := 0, locals := 0 } : Room) 0 0 [.ref ga, .int (0 : Int32)] [(ga, .inl (cI, 8, .inl g))] sz (fun o9 _ w9 => o9 = .returned none ∧ w9 = [(ga, .inl (cI, 8, .inl (upd (upd (upd (upd (upd (upd (upd (upd g 0 (0 : Int32)) 1 (0 : Int32)) 2 (0 : Int32)) 3 (0 : Int32)) 4 (0 : Int32)) 5 (0 : Int32)) 6 (0 : Int32)) 7 (0 : Int32))))]) := by
  refine tx_ofW (cc := b_JA_fill) (maxL := 4) (ret := none) (by decide) rfl ?_
  intro p e s m args below meth c s₁ B hml hT hv
  obtain ⟨rfl, hsz, hP, hD0, hx0⟩ := hv
  have hx := B.exec
  have hb := B.bytes
  have hr := B.returns
  have G := E.2.1
  have hown : s.vm.findClass cn_JA = some m.cls := findClass_of_methodNamed B.named
  have hlocks := B.notSynchronized
  have hK := va_K.moved hx0.1.alike E.2.2.1
  subst hsz
  have hA0 := cx_new hD0 hx0.2.1
  have hD := hD0.self (sz := s.heap.size)
  generalize hAe : va_A [(ga, .inl (cI, 8, .inl g))] s.heap.size = A at hD hA0 ⊢
  have hA : ∀ q : Nat, s.heap.size ≤ q → A q := fun q h => by rw [← hAe]; exact Or.inr h
  have hS : va_S A s.heap s.heap [] := va_S.rf
  have hl := lv_entry ([.ref ga, .int (0 : Int32)]) (n := 4) (Nat.le_of_ble_eq_true rfl)
  rw [lg_entry_eq]
  generalize (lg_sl ([.ref ga, .int (0 : Int32)]) ++ List.replicate (4 - (lg_sl ([.ref ga, .int (0 : Int32)])).length) Slot.unset).toArray = ls at hl ⊢
  have hl : lv_has ls 4 [(0, .ref ga), (1, .int (0 : Int32))] := hl
  have hP : va_P D kl [(ga, .inl (cI, 8, .inl g))] s.heap := hP
  have hml : c.maxLocals = 4 := hml
  refine lv_iconst (v := (0 : Int32)) hx hb d_JA_fill_0 (by decide) ?_
  refine lv_istore_n (lv' := [(2, .int (0 : Int32)), (0, .ref ga), (1, .int (0 : Int32))]) hx hb d_JA_fill_1 rfl hl (by decide) rfl (fun ls hl => ?_)
  refine lv_aload_n hx hb d_JA_fill_2 rfl (lv_at hl 1 rfl) ?_
  refine va_alen (v := (8 : Int32)) hx hb hK hP 0 0 rfl rfl (by rfl) d_JA_fill_3 ?_
  refine lv_istore_n (lv' := [(3, .int (8 : Int32)), (2, .int (0 : Int32)), (0, .ref ga), (1, .int (0 : Int32))]) hx hb d_JA_fill_4 rfl hl (by decide) rfl (fun ls hl => ?_)
  refine lv_iload_n hx hb d_JA_fill_5 rfl (lv_at hl 1 rfl) ?_
  refine lv_iload_n hx hb d_JA_fill_6 rfl (lv_at hl 0 rfl) ?_
  refine lv_icmp_ge (tgt := 20) hx hb d_JA_fill_7 (by decide) (fun h99 => absurd h99 (by decide)) (fun _ => ?_)
  refine lv_aload_n hx hb d_JA_fill_10 rfl (lv_at hl 2 rfl) ?_
  refine lv_iload_n hx hb d_JA_fill_11 rfl (lv_at hl 1 rfl) ?_
  refine lv_iload_n hx hb d_JA_fill_12 rfl (lv_at hl 3 rfl) ?_
  refine va_iast hx hb hK hP hD hS 0 0 rfl rfl (vp_in_iff.mpr (by decide)) d_JA_fill_13 (fun H locs hP hD hS => ?_)
  have hP : va_P D kl [(ga, .inl (cI, 8, .inl (upd g 0 (0 : Int32))))] H := hP
  have hD : va_D A [(ga, .inl (cI, 8, .inl (upd g 0 (0 : Int32))))] := hD
  refine lv_iinc (lv' := [(2, .int (1 : Int32)), (3, .int (8 : Int32)), (0, .ref ga), (1, .int (0 : Int32))]) (k := 1) (v := (1 : Int32)) hx hb d_JA_fill_14 hl rfl (by decide) (by decide) rfl (fun ls hl => ?_)
  refine lv_goto (tgt := 5) hx hb d_JA_fill_17 (by decide) ?_
  refine lv_iload_n hx hb d_JA_fill_5 rfl (lv_at hl 0 rfl) ?_
  refine lv_iload_n hx hb d_JA_fill_6 rfl (lv_at hl 1 rfl) ?_
  refine lv_icmp_ge (tgt := 20) hx hb d_JA_fill_7 (by decide) (fun h99 => absurd h99 (by decide)) (fun _ => ?_)
  refine lv_aload_n hx hb d_JA_fill_10 rfl (lv_at hl 2 rfl) ?_
  refine lv_iload_n hx hb d_JA_fill_11 rfl (lv_at hl 0 rfl) ?_
  refine lv_iload_n hx hb d_JA_fill_12 rfl (lv_at hl 3 rfl) ?_
  refine va_iast hx hb hK hP hD hS 0 0 rfl rfl (vp_in_iff.mpr (by decide)) d_JA_fill_13 (fun H locs hP hD hS => ?_)
  have hP : va_P D kl [(ga, .inl (cI, 8, .inl (upd (upd g 0 (0 : Int32)) 1 (0 : Int32))))] H := hP
  have hD : va_D A [(ga, .inl (cI, 8, .inl (upd (upd g 0 (0 : Int32)) 1 (0 : Int32))))] := hD
  refine lv_iinc (lv' := [(2, .int (2 : Int32)), (3, .int (8 : Int32)), (0, .ref ga), (1, .int (0 : Int32))]) (k := 0) (v := (2 : Int32)) hx hb d_JA_fill_14 hl rfl (by decide) (by decide) rfl (fun ls hl => ?_)
  refine lv_goto (tgt := 5) hx hb d_JA_fill_17 (by decide) ?_
  refine lv_iload_n hx hb d_JA_fill_5 rfl (lv_at hl 0 rfl) ?_
  refine lv_iload_n hx hb d_JA_fill_6 rfl (lv_at hl 1 rfl) ?_
  refine lv_icmp_ge (tgt := 20) hx hb d_JA_fill_7 (by decide) (fun h99 => absurd h99 (by decide)) (fun _ => ?_)
  refine lv_aload_n hx hb d_JA_fill_10 rfl (lv_at hl 2 rfl) ?_
  refine lv_iload_n hx hb d_JA_fill_11 rfl (lv_at hl 0 rfl) ?_
  refine lv_iload_n hx hb d_JA_fill_12 rfl (lv_at hl 3 rfl) ?_
  refine va_iast hx hb hK hP hD hS 0 0 rfl rfl (vp_in_iff.mpr (by decide)) d_JA_fill_13 (fun H locs hP hD hS => ?_)
  have hP : va_P D kl [(ga, .inl (cI, 8, .inl (upd (upd (upd g 0 (0 : Int32)) 1 (0 : Int32)) 2 (0 : Int32))))] H := hP
  have hD : va_D A [(ga, .inl (cI, 8, .inl (upd (upd (upd g 0 (0 : Int32)) 1 (0 : Int32)) 2 (0 : Int32))))] := hD
  refine lv_iinc (lv' := [(2, .int (3 : Int32)), (3, .int (8 : Int32)), (0, .ref ga), (1, .int (0 : Int32))]) (k := 0) (v := (3 : Int32)) hx hb d_JA_fill_14 hl rfl (by decide) (by decide) rfl (fun ls hl => ?_)
  refine lv_goto (tgt := 5) hx hb d_JA_fill_17 (by decide) ?_
  refine lv_iload_n hx hb d_JA_fill_5 rfl (lv_at hl 0 rfl) ?_
  refine lv_iload_n hx hb d_JA_fill_6 rfl (lv_at hl 1 rfl) ?_
  refine lv_icmp_ge (tgt := 20) hx hb d_JA_fill_7 (by decide) (fun h99 => absurd h99 (by decide)) (fun _ => ?_)
  refine lv_aload_n hx hb d_JA_fill_10 rfl (lv_at hl 2 rfl) ?_
  refine lv_iload_n hx hb d_JA_fill_11 rfl (lv_at hl 0 rfl) ?_
  refine lv_iload_n hx hb d_JA_fill_12 rfl (lv_at hl 3 rfl) ?_
  refine va_iast hx hb hK hP hD hS 0 0 rfl rfl (vp_in_iff.mpr (by decide)) d_JA_fill_13 (fun H locs hP hD hS => ?_)
  have hP : va_P D kl [(ga, .inl (cI, 8, .inl (upd (upd (upd (upd g 0 (0 : Int32)) 1 (0 : Int32)) 2 (0 : Int32)) 3 (0 : Int32))))] H := hP
  have hD : va_D A [(ga, .inl (cI, 8, .inl (upd (upd (upd (upd g 0 (0 : Int32)) 1 (0 : Int32)) 2 (0 : Int32)) 3 (0 : Int32))))] := hD
  refine lv_iinc (lv' := [(2, .int (4 : Int32)), (3, .int (8 : Int32)), (0, .ref ga), (1, .int (0 : Int32))]) (k := 0) (v := (4 : Int32)) hx hb d_JA_fill_14 hl rfl (by decide) (by decide) rfl (fun ls hl => ?_)
  refine lv_goto (tgt := 5) hx hb d_JA_fill_17 (by decide) ?_
  refine lv_iload_n hx hb d_JA_fill_5 rfl (lv_at hl 0 rfl) ?_
  refine lv_iload_n hx hb d_JA_fill_6 rfl (lv_at hl 1 rfl) ?_
  refine lv_icmp_ge (tgt := 20) hx hb d_JA_fill_7 (by decide) (fun h99 => absurd h99 (by decide)) (fun _ => ?_)
  refine lv_aload_n hx hb d_JA_fill_10 rfl (lv_at hl 2 rfl) ?_
  refine lv_iload_n hx hb d_JA_fill_11 rfl (lv_at hl 0 rfl) ?_
  refine lv_iload_n hx hb d_JA_fill_12 rfl (lv_at hl 3 rfl) ?_
  refine va_iast hx hb hK hP hD hS 0 0 rfl rfl (vp_in_iff.mpr (by decide)) d_JA_fill_13 (fun H locs hP hD hS => ?_)
  have hP : va_P D kl [(ga, .inl (cI, 8, .inl (upd (upd (upd (upd (upd g 0 (0 : Int32)) 1 (0 : Int32)) 2 (0 : Int32)) 3 (0 : Int32)) 4 (0 : Int32))))] H := hP
  have hD : va_D A [(ga, .inl (cI, 8, .inl (upd (upd (upd (upd (upd g 0 (0 : Int32)) 1 (0 : Int32)) 2 (0 : Int32)) 3 (0 : Int32)) 4 (0 : Int32))))] := hD
  refine lv_iinc (lv' := [(2, .int (5 : Int32)), (3, .int (8 : Int32)), (0, .ref ga), (1, .int (0 : Int32))]) (k := 0) (v := (5 : Int32)) hx hb d_JA_fill_14 hl rfl (by decide) (by decide) rfl (fun ls hl => ?_)
  refine lv_goto (tgt := 5) hx hb d_JA_fill_17 (by decide) ?_
  refine lv_iload_n hx hb d_JA_fill_5 rfl (lv_at hl 0 rfl) ?_
  refine lv_iload_n hx hb d_JA_fill_6 rfl (lv_at hl 1 rfl) ?_
  refine lv_icmp_ge (tgt := 20) hx hb d_JA_fill_7 (by decide) (fun h99 => absurd h99 (by decide)) (fun _ => ?_)
  refine lv_aload_n hx hb d_JA_fill_10 rfl (lv_at hl 2 rfl) ?_
  refine lv_iload_n hx hb d_JA_fill_11 rfl (lv_at hl 0 rfl) ?_
  refine lv_iload_n hx hb d_JA_fill_12 rfl (lv_at hl 3 rfl) ?_
  refine va_iast hx hb hK hP hD hS 0 0 rfl rfl (vp_in_iff.mpr (by decide)) d_JA_fill_13 (fun H locs hP hD hS => ?_)
  have hP : va_P D kl [(ga, .inl (cI, 8, .inl (upd (upd (upd (upd (upd (upd g 0 (0 : Int32)) 1 (0 : Int32)) 2 (0 : Int32)) 3 (0 : Int32)) 4 (0 : Int32)) 5 (0 : Int32))))] H := hP
  have hD : va_D A [(ga, .inl (cI, 8, .inl (upd (upd (upd (upd (upd (upd g 0 (0 : Int32)) 1 (0 : Int32)) 2 (0 : Int32)) 3 (0 : Int32)) 4 (0 : Int32)) 5 (0 : Int32))))] := hD
  refine lv_iinc (lv' := [(2, .int (6 : Int32)), (3, .int (8 : Int32)), (0, .ref ga), (1, .int (0 : Int32))]) (k := 0) (v := (6 : Int32)) hx hb d_JA_fill_14 hl rfl (by decide) (by decide) rfl (fun ls hl => ?_)
  refine lv_goto (tgt := 5) hx hb d_JA_fill_17 (by decide) ?_
  refine lv_iload_n hx hb d_JA_fill_5 rfl (lv_at hl 0 rfl) ?_
  refine lv_iload_n hx hb d_JA_fill_6 rfl (lv_at hl 1 rfl) ?_
  refine lv_icmp_ge (tgt := 20) hx hb d_JA_fill_7 (by decide) (fun h99 => absurd h99 (by decide)) (fun _ => ?_)
  refine lv_aload_n hx hb d_JA_fill_10 rfl (lv_at hl 2 rfl) ?_
  refine lv_iload_n hx hb d_JA_fill_11 rfl (lv_at hl 0 rfl) ?_
  refine lv_iload_n hx hb d_JA_fill_12 rfl (lv_at hl 3 rfl) ?_
  refine va_iast hx hb hK hP hD hS 0 0 rfl rfl (vp_in_iff.mpr (by decide)) d_JA_fill_13 (fun H locs hP hD hS => ?_)
  have hP : va_P D kl [(ga, .inl (cI, 8, .inl (upd (upd (upd (upd (upd (upd (upd g 0 (0 : Int32)) 1 (0 : Int32)) 2 (0 : Int32)) 3 (0 : Int32)) 4 (0 : Int32)) 5 (0 : Int32)) 6 (0 : Int32))))] H := hP
  have hD : va_D A [(ga, .inl (cI, 8, .inl (upd (upd (upd (upd (upd (upd (upd g 0 (0 : Int32)) 1 (0 : Int32)) 2 (0 : Int32)) 3 (0 : Int32)) 4 (0 : Int32)) 5 (0 : Int32)) 6 (0 : Int32))))] := hD
  refine lv_iinc (lv' := [(2, .int (7 : Int32)), (3, .int (8 : Int32)), (0, .ref ga), (1, .int (0 : Int32))]) (k := 0) (v := (7 : Int32)) hx hb d_JA_fill_14 hl rfl (by decide) (by decide) rfl (fun ls hl => ?_)
  refine lv_goto (tgt := 5) hx hb d_JA_fill_17 (by decide) ?_
  refine lv_iload_n hx hb d_JA_fill_5 rfl (lv_at hl 0 rfl) ?_
  refine lv_iload_n hx hb d_JA_fill_6 rfl (lv_at hl 1 rfl) ?_
  refine lv_icmp_ge (tgt := 20) hx hb d_JA_fill_7 (by decide) (fun h99 => absurd h99 (by decide)) (fun _ => ?_)
  refine lv_aload_n hx hb d_JA_fill_10 rfl (lv_at hl 2 rfl) ?_
  refine lv_iload_n hx hb d_JA_fill_11 rfl (lv_at hl 0 rfl) ?_
  refine lv_iload_n hx hb d_JA_fill_12 rfl (lv_at hl 3 rfl) ?_
  refine va_iast hx hb hK hP hD hS 0 0 rfl rfl (vp_in_iff.mpr (by decide)) d_JA_fill_13 (fun H locs hP hD hS => ?_)
  have hP : va_P D kl [(ga, .inl (cI, 8, .inl (upd (upd (upd (upd (upd (upd (upd (upd g 0 (0 : Int32)) 1 (0 : Int32)) 2 (0 : Int32)) 3 (0 : Int32)) 4 (0 : Int32)) 5 (0 : Int32)) 6 (0 : Int32)) 7 (0 : Int32))))] H := hP
  have hD : va_D A [(ga, .inl (cI, 8, .inl (upd (upd (upd (upd (upd (upd (upd (upd g 0 (0 : Int32)) 1 (0 : Int32)) 2 (0 : Int32)) 3 (0 : Int32)) 4 (0 : Int32)) 5 (0 : Int32)) 6 (0 : Int32)) 7 (0 : Int32))))] := hD
  refine lv_iinc (lv' := [(2, .int (8 : Int32)), (3, .int (8 : Int32)), (0, .ref ga), (1, .int (0 : Int32))]) (k := 0) (v := (8 : Int32)) hx hb d_JA_fill_14 hl rfl (by decide) (by decide) rfl (fun ls hl => ?_)
  refine lv_goto (tgt := 5) hx hb d_JA_fill_17 (by decide) ?_
  refine lv_iload_n hx hb d_JA_fill_5 rfl (lv_at hl 0 rfl) ?_
  refine lv_iload_n hx hb d_JA_fill_6 rfl (lv_at hl 1 rfl) ?_
  refine lv_icmp_ge (tgt := 20) hx hb d_JA_fill_7 (by decide) (fun _ => ?_) (fun h99 => absurd h99 (by decide))
  exact tx_mono (fun _ h => tx_Z.of h) (W.vret hx hb hr (fun t ht hW => ⟨⟨[(ga, .inl (cI, 8, .inl (upd (upd (upd (upd (upd (upd (upd (upd g 0 (0 : Int32)) 1 (0 : Int32)) 2 (0 : Int32)) 3 (0 : Int32)) 4 (0 : Int32)) 5 (0 : Int32)) 6 (0 : Int32)) 7 (0 : Int32))))], ⟨rfl, rfl⟩, by rw [ht]; exact hP.sub [0] rfl, hD.sub [0] (by decide) rfl⟩, hS.F ht⟩) hS.2.2 d_JA_fill_20)

