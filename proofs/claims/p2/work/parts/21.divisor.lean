/-! ===== own rows, laid by wip/tools/sym.py: common divisors ===== -/
def labs (x : Int64) : Int64 := if 0 < x then x else -x
def cdv : Nat → Int64 → Int64 → Int64
  | 0, a, _ => a
  | n + 1, a, b => if b = 0 then a else cdv n b (a - a / b * b)
theorem cdv_step {n : Nat} {a b : Int64} (h0 : 0 < n) (hb : ¬ b = 0) : cdv n a b = cdv (n - 1) b (a - a / b * b) := by
  obtain ⟨k, rfl⟩ : ∃ k, n = k + 1 := ⟨n - 1, by omega⟩
  show (if b = 0 then a else cdv k b (a - a / b * b)) = cdv k b (a - a / b * b)
  rw [if_neg hb]
theorem cdv_end {n : Nat} {a b : Int64} (h : n = 0 ∨ b = 0) : cdv n a b = a := by
  cases n with
  | zero => rfl
  | succ k =>
    rcases h with h | h
    · cases h
    · show (if b = 0 then a else cdv k b (a - a / b * b)) = a
      rw [if_pos h]
theorem lg_eq {x : Int64} (h : lg_cmp x 0 = 0) : x = 0 := Classical.byContradiction (fun z => lg_ne.mpr z h)
def cdl (f : Nat → Int64) (ms : List Nat) : Int64 := ms.foldl (fun d m => cdv 100 d (labs (f m))) 0
set_option maxHeartbeats 4000000 in
set_option maxRecDepth 100000 in
theorem c_MI_cdv {l : Launch} {s0 : State} {b0 : Addr} {D : va_G} {cI cJ cZ : ClassId} {tC tS : Nat} (E : gE l s0 b0 D cI cJ cZ tC tS) (sz : Nat) (a : Int64) (b : Int64) : cx_M l s0 D kl y_MI_commonDivisorOf b_MI_commonDivisorOf 11 (some .long) ({ frames := 0, cells := 0, slots := 0, locals := 0 } : Room) 0 0 [.long a, .long b] [] sz (fun o9 _ w9 => o9 = .returned (some (.long (cdv 100 a b))) ∧ w9 = []) := by
  refine tx_ofW (cc := b_MI_commonDivisorOf) (maxL := 11) (ret := (some .long)) (by decide) rfl ?_
  intro p e s m args below meth c s₁ B hml hT hv
  obtain ⟨rfl, hsz, hP, hD0, hx0⟩ := hv
  have hx := B.exec
  have hb := B.bytes
  have hr := B.returns
  have G := E.2.1
  have hown : s.vm.findClass cn_MI = some m.cls := findClass_of_methodNamed B.named
  have hlocks := B.notSynchronized
  have hK := va_K.moved hx0.1.alike E.2.2.1
  subst hsz
  have hA0 := cx_new hD0 hx0.2.1
  have hD := hD0.self (sz := s.heap.size)
  generalize hAe : va_A [] s.heap.size = A at hD hA0 ⊢
  have hA : ∀ q : Nat, s.heap.size ≤ q → A q := fun q h => by rw [← hAe]; exact Or.inr h
  have hS : va_S A s.heap s.heap [] := va_S.rf
  have hl := lv_entry ([.long a, .long b]) (n := 11) (Nat.le_of_ble_eq_true rfl)
  rw [lg_entry_eq]
  generalize (lg_sl ([.long a, .long b]) ++ List.replicate (11 - (lg_sl ([.long a, .long b])).length) Slot.unset).toArray = ls at hl ⊢
  have hl : lv_has ls 11 [(0, .long a), (2, .long b)] := hl
  have hP : va_P D kl [] s.heap := hP
  have hml : c.maxLocals = 11 := hml
  generalize hQe : tx_Z below (cx_Q D kl A (fun o9 _ w9 => o9 = .returned (some (.long (cdv 100 a b))) ∧ w9 = [])) ([.long a, .long b] : List Value).toArray s 0 0 A = Q
  refine lv_lload_n hx hb d_MI_commonDivisorOf_0 rfl (lv_at hl 0 rfl) ?_
  refine lv_lstore (lv' := [(4, .long a), (0, .long a), (2, .long b)]) hx hb d_MI_commonDivisorOf_1 hl (by decide) rfl (fun ls hl => ?_)
  refine lv_lload_n hx hb d_MI_commonDivisorOf_3 rfl (lv_at hl 2 rfl) ?_
  refine lv_lstore (lv' := [(6, .long b), (4, .long a), (0, .long a), (2, .long b)]) hx hb d_MI_commonDivisorOf_4 hl (by decide) rfl (fun ls hl => ?_)
  refine lv_iconst (v := (0 : Int32)) hx hb d_MI_commonDivisorOf_6 (by decide) ?_
  refine lv_istore (lv' := [(8, .int (0 : Int32)), (6, .long b), (4, .long a), (0, .long a), (2, .long b)]) hx hb d_MI_commonDivisorOf_7 hl (by decide) rfl (fun ls hl => ?_)
  have lp_9 : ∀ (n9 : Nat) (z : Nat) (la : Int64) (sm : Int64) (ls : Array Slot) (H : Heap) (locs : List Loc), 100 - z = n9 → (z ≤ 100) → (cdv 100 a b = cdv (100 - z) la sm) → lv_has ls 11 [(8, .int (nI z)), (4, .long la), (6, .long sm)] → va_P D kl [] H → va_D A [] → va_S A s.heap H locs → W p l e ({ frames := 0, cells := 0, slots := 0, locals := 0 } : Room) s m ([.long a, .long b] : List Value).toArray below meth c H locs 0 0 Q (F0 m 9 ls []) := by
    intro n9
    induction n9 using Nat.strongRecOn with
    | ind n9 ih_9 =>
      intro z la sm ls H locs hm_9 hz hc hl hP hD hS
      refine lv_iload hx hb d_MI_commonDivisorOf_9 (lv_at hl 0 rfl) ?_
      refine lv_bipush (v := (100 : Int32)) hx hb d_MI_commonDivisorOf_11 (by decide) ?_
      refine lv_icmp_ge (tgt := 44) hx hb d_MI_commonDivisorOf_13 (by decide) (fun h_1 => ?_) (fun h_1 => ?_)
      · have h_1 : 100 ≤ z := (nI_leI (a := 100) (b := z) (by omega) (by omega)).mp h_1
        refine lv_lload hx hb d_MI_commonDivisorOf_44 (lv_at hl 1 rfl) ?_
        rw [← hQe]
        exact tx_mono (fun _ h => tx_Z.of h) (W.lret (v := la) hx hb hr (fun t ht hW => ⟨⟨[], ⟨(by rw [hc, cdv_end (Or.inl (by omega))]), rfl⟩, by rw [ht]; exact hP.sub [] rfl, hD.sub [] (by decide) rfl⟩, hS.F ht⟩) hS.2.2 d_MI_commonDivisorOf_46)
      · have h_1 : ¬ (100 ≤ z) := fun z99 => h_1 ((nI_leI (a := 100) (b := z) (by omega) (by omega)).mpr z99)
        refine lv_lload hx hb d_MI_commonDivisorOf_16 (lv_at hl 2 rfl) ?_
        refine lv_lconst (v := (0 : Int64)) hx hb d_MI_commonDivisorOf_18 (by decide) ?_
        refine W.lcmp hx hb d_MI_commonDivisorOf_19 ?_
        refine lv_if_eq (tgt := 44) hx hb d_MI_commonDivisorOf_20 (by decide) (fun h_2 => ?_) (fun h_2 => ?_)
        · refine lv_lload hx hb d_MI_commonDivisorOf_44 (lv_at hl 1 rfl) ?_
          rw [← hQe]
          exact tx_mono (fun _ h => tx_Z.of h) (W.lret (v := la) hx hb hr (fun t ht hW => ⟨⟨[], ⟨(by rw [hc, cdv_end (Or.inr (lg_eq h_2))]), rfl⟩, by rw [ht]; exact hP.sub [] rfl, hD.sub [] (by decide) rfl⟩, hS.F ht⟩) hS.2.2 d_MI_commonDivisorOf_46)
        · refine lv_lload hx hb d_MI_commonDivisorOf_23 (lv_at hl 1 rfl) ?_
          refine lv_lload hx hb d_MI_commonDivisorOf_25 (lv_at hl 2 rfl) ?_
          refine lv_lrem hx hb d_MI_commonDivisorOf_27 (lg_ne.mp h_2) ?_
          refine lv_lstore (lv' := [(9, .long (la - la / sm * sm)), (8, .int (nI z)), (4, .long la), (6, .long sm)]) hx hb d_MI_commonDivisorOf_28 hl (by decide) rfl (fun ls hl => ?_)
          refine lv_lload hx hb d_MI_commonDivisorOf_30 (lv_at hl 3 rfl) ?_
          refine lv_lstore (lv' := [(4, .long sm), (9, .long (la - la / sm * sm)), (8, .int (nI z)), (6, .long sm)]) hx hb d_MI_commonDivisorOf_32 hl (by decide) rfl (fun ls hl => ?_)
          refine lv_lload hx hb d_MI_commonDivisorOf_34 (lv_at hl 1 rfl) ?_
          refine lv_lstore (lv' := [(6, .long (la - la / sm * sm)), (4, .long sm), (9, .long (la - la / sm * sm)), (8, .int (nI z))]) hx hb d_MI_commonDivisorOf_36 hl (by decide) rfl (fun ls hl => ?_)
          refine lv_iinc (lv' := [(8, .int (nI (z + 1))), (6, .long (la - la / sm * sm)), (4, .long sm), (9, .long (la - la / sm * sm))]) (k := 3) (v := nI (z + 1)) hx hb d_MI_commonDivisorOf_38 hl rfl (nI_add z 1) (by decide) rfl (fun ls hl => ?_)
          refine lv_goto (tgt := 9) hx hb d_MI_commonDivisorOf_41 (by decide) ?_
          exact ih_9 _ (by omega) (z + 1) sm (la - la / sm * sm) ls H locs rfl (by omega) (hc.trans ((cdv_step (by omega) (lg_ne.mp h_2)).trans (by rw [show 100 - z - 1 = 100 - (z + 1) by omega]))) (lv_sub hl [0, 2, 1] rfl) (hP.sub [] rfl) (hD.sub [] (by decide) rfl) hS
  exact lp_9 _ 0 a b ls s.heap [] rfl (by omega) rfl (lv_sub hl [0, 2, 1] rfl) (hP.sub [] rfl) (hD.sub [] (by decide) rfl) hS

set_option maxHeartbeats 4000000 in
set_option maxRecDepth 100000 in
theorem c_MI_firstChoice0 {l : Launch} {s0 : State} {b0 : Addr} {D : va_G} {cI cJ cZ : ClassId} {tC tS : Nat} (E : gE l s0 b0 D cI cJ cZ tC tS) (sz : Nat) (mi : Nat) (cu : Nat) (nx : Nat) : cx_M l s0 D kl y_MI_firstChoice b_MI_firstChoice 1 (some .int) ({ frames := 0, cells := 0, slots := 0, locals := 0 } : Room) 0 0 [.ref mi] [(mi, .inr (2, [.ref cu, .ref nx, .int (0 : Int32)]))] sz (fun o9 _ w9 => o9 = .returned (some (.int (0 : Int32))) ∧ w9 = [(mi, .inr (2, [.ref cu, .ref nx, .int (0 : Int32)]))]) := by
  refine tx_ofW (cc := b_MI_firstChoice) (maxL := 1) (ret := (some .int)) (by decide) rfl ?_
  intro p e s m args below meth c s₁ B hml hT hv
  obtain ⟨rfl, hsz, hP, hD0, hx0⟩ := hv
  have hx := B.exec
  have hb := B.bytes
  have hr := B.returns
  have G := E.2.1
  have hown : s.vm.findClass cn_MI = some m.cls := findClass_of_methodNamed B.named
  have hlocks := B.notSynchronized
  have hK := va_K.moved hx0.1.alike E.2.2.1
  have hf_MI : ∀ w99 ∈ u_ws cn_MI ft_MI 3, w99.before ([.ref mi] : List Value).toArray s = true := fun w99 h99 => gw.at G hx0 (fw_MI w99 h99) (fo_MI w99 h99) _
  subst hsz
  have hA0 := cx_new hD0 hx0.2.1
  have hD := hD0.self (sz := s.heap.size)
  generalize hAe : va_A [(mi, .inr (2, [.ref cu, .ref nx, .int (0 : Int32)]))] s.heap.size = A at hD hA0 ⊢
  have hA : ∀ q : Nat, s.heap.size ≤ q → A q := fun q h => by rw [← hAe]; exact Or.inr h
  have hS : va_S A s.heap s.heap [] := va_S.rf
  obtain ⟨hZC, hTC, hZS, hTS⟩ := gz.at E.2.2.2.1 hx0 hA0
  have hl := lv_entry ([.ref mi]) (n := 1) (Nat.le_of_ble_eq_true rfl)
  rw [lg_entry_eq]
  generalize (lg_sl ([.ref mi]) ++ List.replicate (1 - (lg_sl ([.ref mi])).length) Slot.unset).toArray = ls at hl ⊢
  have hl : lv_has ls 1 [(0, .ref mi)] := hl
  have hP : va_P D kl [(mi, .inr (2, [.ref cu, .ref nx, .int (0 : Int32)]))] s.heap := hP
  have hml : c.maxLocals = 1 := hml
  refine va_getsN hx hb hZS hS hown (gw.at G hx0 mw_377 rfl _) (fun _ h9 => h9) d_MI_firstChoice_0 ?_
  refine lv_aload_n hx hb d_MI_firstChoice_3 rfl (lv_at hl 0 rfl) ?_
  refine va_get (D := D) (ci := 2) (v := .int (0 : Int32)) (C := cn_MI) (T := ft_MI) (N := 3) hx hb hf_MI (fun _ h => h) hown hK hP 0 rfl rfl 2 (by decide) (gw.at G hx0 mw_66 rfl _) (fun _ h9 => h9) rfl d_MI_firstChoice_4 ?_
  refine va_ti hx hb hTS hS (vp_in_iff.mpr (by decide)) (v := .int (0 : Int32)) (by decide) d_MI_firstChoice_7 ?_
  exact tx_mono (fun _ h => tx_Z.of h) (W.iret (v := (0 : Int32)) hx hb hr (fun t ht hW => ⟨⟨[(mi, .inr (2, [.ref cu, .ref nx, .int (0 : Int32)]))], ⟨rfl, rfl⟩, by rw [ht]; exact hP.sub [0] rfl, hD.sub [0] (by decide) rfl⟩, hS.F ht⟩) hS.2.2 d_MI_firstChoice_8)

set_option maxHeartbeats 4000000 in
set_option maxRecDepth 100000 in
theorem c_MI_endOfChoices0 {l : Launch} {s0 : State} {b0 : Addr} {D : va_G} {cI cJ cZ : ClassId} {tC tS : Nat} (E : gE l s0 b0 D cI cJ cZ tC tS) (sz : Nat) (mi : Nat) (cu : Nat) (nx : Nat) : cx_M l s0 D kl y_MI_endOfChoices b_MI_endOfChoices 1 (some .int) ({ frames := 0, cells := 0, slots := 0, locals := 0 } : Room) 0 0 [.ref mi] [(mi, .inr (2, [.ref cu, .ref nx, .int (0 : Int32)]))] sz (fun o9 _ w9 => o9 = .returned (some (.int (1 : Int32))) ∧ w9 = [(mi, .inr (2, [.ref cu, .ref nx, .int (0 : Int32)]))]) := by
  refine tx_ofW (cc := b_MI_endOfChoices) (maxL := 1) (ret := (some .int)) (by decide) rfl ?_
  intro p e s m args below meth c s₁ B hml hT hv
  obtain ⟨rfl, hsz, hP, hD0, hx0⟩ := hv
  have hx := B.exec
  have hb := B.bytes
  have hr := B.returns
  have G := E.2.1
  have hown : s.vm.findClass cn_MI = some m.cls := findClass_of_methodNamed B.named
  have hlocks := B.notSynchronized
  have hK := va_K.moved hx0.1.alike E.2.2.1
  have hf_MI : ∀ w99 ∈ u_ws cn_MI ft_MI 3, w99.before ([.ref mi] : List Value).toArray s = true := fun w99 h99 => gw.at G hx0 (fw_MI w99 h99) (fo_MI w99 h99) _
  subst hsz
  have hA0 := cx_new hD0 hx0.2.1
  have hD := hD0.self (sz := s.heap.size)
  generalize hAe : va_A [(mi, .inr (2, [.ref cu, .ref nx, .int (0 : Int32)]))] s.heap.size = A at hD hA0 ⊢
  have hA : ∀ q : Nat, s.heap.size ≤ q → A q := fun q h => by rw [← hAe]; exact Or.inr h
  have hS : va_S A s.heap s.heap [] := va_S.rf
  obtain ⟨hZC, hTC, hZS, hTS⟩ := gz.at E.2.2.2.1 hx0 hA0
  have hl := lv_entry ([.ref mi]) (n := 1) (Nat.le_of_ble_eq_true rfl)
  rw [lg_entry_eq]
  generalize (lg_sl ([.ref mi]) ++ List.replicate (1 - (lg_sl ([.ref mi])).length) Slot.unset).toArray = ls at hl ⊢
  have hl : lv_has ls 1 [(0, .ref mi)] := hl
  have hP : va_P D kl [(mi, .inr (2, [.ref cu, .ref nx, .int (0 : Int32)]))] s.heap := hP
  have hml : c.maxLocals = 1 := hml
  refine va_getsN hx hb hZS hS hown (gw.at G hx0 mw_377 rfl _) (fun _ h9 => h9) d_MI_endOfChoices_0 ?_
  refine lv_aload_n hx hb d_MI_endOfChoices_3 rfl (lv_at hl 0 rfl) ?_
  refine va_get (D := D) (ci := 2) (v := .int (0 : Int32)) (C := cn_MI) (T := ft_MI) (N := 3) hx hb hf_MI (fun _ h => h) hown hK hP 0 rfl rfl 2 (by decide) (gw.at G hx0 mw_66 rfl _) (fun _ h9 => h9) rfl d_MI_endOfChoices_4 ?_
  refine lv_iconst (v := (1 : Int32)) hx hb d_MI_endOfChoices_7 (by decide) ?_
  refine lv_iadd hx hb d_MI_endOfChoices_8 ?_
  refine tp_i (y := (1 : Int32)) (by decide) ?_
  refine va_ti hx hb hTS hS (vp_in_iff.mpr (by decide)) (v := .int (1 : Int32)) (by decide) d_MI_endOfChoices_9 ?_
  exact tx_mono (fun _ h => tx_Z.of h) (W.iret (v := (1 : Int32)) hx hb hr (fun t ht hW => ⟨⟨[(mi, .inr (2, [.ref cu, .ref nx, .int (0 : Int32)]))], ⟨rfl, rfl⟩, by rw [ht]; exact hP.sub [0] rfl, hD.sub [0] (by decide) rfl⟩, hS.F ht⟩) hS.2.2 d_MI_endOfChoices_10)

set_option maxHeartbeats 4000000 in
set_option maxRecDepth 100000 in
theorem c_MI_comdiv0 {l : Launch} {s0 : State} {b0 : Addr} {D : va_G} {cI cJ cZ : ClassId} {tC tS : Nat} (E : gE l s0 b0 D cI cJ cZ tC tS) (sz : Nat) (mi : Nat) (cu : Nat) (nx : Nat) (cf : Nat → Int64) : cx_M l s0 D kl y_MI_commonDivisor b_MI_commonDivisor 5 (some .long) ({ frames := 1, cells := 0, slots := 0, locals := 30 } : Room) 0 0 [.ref mi] [(mi, .inr (2, [.ref cu, .ref nx, .int (0 : Int32)])), (cu, .inl (cJ, 16, .inr (.inl cf)))] sz (fun o9 _ w9 => o9 = .returned (some (.long (cdl cf (lev 0)))) ∧ w9 = [(mi, .inr (2, [.ref cu, .ref nx, .int (0 : Int32)])), (cu, .inl (cJ, 16, .inr (.inl cf)))]) := by
  refine tx_ofW (cc := b_MI_commonDivisor) (maxL := 5) (ret := (some .long)) (by decide) rfl ?_
  intro p e s m args below meth c s₁ B hml hT hv
  obtain ⟨rfl, hsz, hP, hD0, hx0⟩ := hv
  have hx := B.exec
  have hb := B.bytes
  have hr := B.returns
  have G := E.2.1
  have hown : s.vm.findClass cn_MI = some m.cls := findClass_of_methodNamed B.named
  have hlocks := B.notSynchronized
  have hK := va_K.moved hx0.1.alike E.2.2.1
  have hf_MI : ∀ w99 ∈ u_ws cn_MI ft_MI 3, w99.before ([.ref mi] : List Value).toArray s = true := fun w99 h99 => gw.at G hx0 (fw_MI w99 h99) (fo_MI w99 h99) _
  subst hsz
  have hA0 := cx_new hD0 hx0.2.1
  have hD := hD0.self (sz := s.heap.size)
  generalize hAe : va_A [(mi, .inr (2, [.ref cu, .ref nx, .int (0 : Int32)])), (cu, .inl (cJ, 16, .inr (.inl cf)))] s.heap.size = A at hD hA0 ⊢
  have hA : ∀ q : Nat, s.heap.size ≤ q → A q := fun q h => by rw [← hAe]; exact Or.inr h
  have hS : va_S A s.heap s.heap [] := va_S.rf
  obtain ⟨hZC, hTC, hZS, hTS⟩ := gz.at E.2.2.2.1 hx0 hA0
  have hl := lv_entry ([.ref mi]) (n := 5) (Nat.le_of_ble_eq_true rfl)
  rw [lg_entry_eq]
  generalize (lg_sl ([.ref mi]) ++ List.replicate (5 - (lg_sl ([.ref mi])).length) Slot.unset).toArray = ls at hl ⊢
  have hl : lv_has ls 5 [(0, .ref mi)] := hl
  have hP : va_P D kl [(mi, .inr (2, [.ref cu, .ref nx, .int (0 : Int32)])), (cu, .inl (cJ, 16, .inr (.inl cf)))] s.heap := hP
  have hml : c.maxLocals = 5 := hml
  refine lv_lconst (v := (0 : Int64)) hx hb d_MI_commonDivisor_0 (by decide) ?_
  refine lv_lstore_n (lv' := [(1, .long (0 : Int64)), (0, .ref mi)]) hx hb d_MI_commonDivisor_1 rfl hl (by decide) rfl (fun ls hl => ?_)
  refine lv_aload_n hx hb d_MI_commonDivisor_2 rfl (lv_at hl 1 rfl) ?_
  refine cx_call (D := D) (cl := kl) (ws := _) (wc := [(mi, .inr (2, [.ref cu, .ref nx, .int (0 : Int32)]))]) (wr := [(cu, .inl (cJ, 16, .inr (.inl cf)))]) (tx_runV (C := cn_MI) (b := mi) (As := []) (rest := []) hx hb hml hown (c_MI_endOfChoices0 E s.heap.size mi cu nx ) (cx_C (b0 := b0) G hx0 mw_465 mw_4 ny_MI_endOfChoices (by decide)) (gw.at G hx0 mw_462 rfl _) (gw.at G hx0 mw_463 rfl _) (gw.at G hx0 mw_464 rfl _) ⟨cx_blind, va_recv hK hP (q0 := 0) (ci := 2) (q := (cn_MI, ft_MI, 3)) rfl rfl, (cx_pre (s := s) hx0 hP hD hS hA0 [0] rfl rfl (by decide))⟩ rfl rfl hl.1 rfl (lv_room (Nat.le_of_ble_eq_true rfl)) d_MI_commonDivisor_3 ⟨by decide, by decide⟩) hP hD hS hA [0] [1] rfl rfl (by decide) (by decide) (fun v t w1 H locs ht hW9 hp hP hD hS => ?_) (fun x t w1 H locs ht hW9 hp hP hD hS => by obtain ⟨h9, -⟩ := hp; cases h9)
  obtain ⟨h9, rfl⟩ := hp
  cases h9
  refine W.eq (g2 := F0 m 6 ls [.int (1 : Int32)]) rfl ?_
  refine W.widen (k := 0) (n := 0) (by decide) (by decide) ?_
  have hP : va_P D kl [(cu, .inl (cJ, 16, .inr (.inl cf))), (mi, .inr (2, [.ref cu, .ref nx, .int (0 : Int32)]))] H := hP
  have hD : va_D A [(cu, .inl (cJ, 16, .inr (.inl cf))), (mi, .inr (2, [.ref cu, .ref nx, .int (0 : Int32)]))] := hD
  refine lv_istore_n (lv' := [(3, .int (1 : Int32)), (1, .long (0 : Int64)), (0, .ref mi)]) hx hb d_MI_commonDivisor_6 rfl hl (by decide) rfl (fun ls hl => ?_)
  refine lv_aload_n hx hb d_MI_commonDivisor_7 rfl (lv_at hl 2 rfl) ?_
  refine cx_call (D := D) (cl := kl) (ws := _) (wc := [(mi, .inr (2, [.ref cu, .ref nx, .int (0 : Int32)]))]) (wr := [(cu, .inl (cJ, 16, .inr (.inl cf)))]) (tx_runV (C := cn_MI) (b := mi) (As := []) (rest := []) hx hb hml hown (c_MI_firstChoice0 E H.size mi cu nx ) (cx_C (b0 := b0) G hx0 mw_469 mw_4 ny_MI_firstChoice (by decide)) (gw.at G hx0 mw_466 rfl _) (gw.at G hx0 mw_467 rfl _) (gw.at G hx0 mw_468 rfl _) ⟨cx_blind, va_recv hK hP (q0 := 1) (ci := 2) (q := (cn_MI, ft_MI, 3)) rfl rfl, (cx_pre (s := s) hx0 hP hD hS hA0 [1] rfl rfl (by decide))⟩ rfl rfl hl.1 rfl (lv_room (Nat.le_of_ble_eq_true rfl)) d_MI_commonDivisor_8 ⟨by decide, by decide⟩) hP hD hS hA [1] [0] rfl rfl (by decide) (by decide) (fun v t w1 H locs ht hW9 hp hP hD hS => ?_) (fun x t w1 H locs ht hW9 hp hP hD hS => by obtain ⟨h9, -⟩ := hp; cases h9)
  obtain ⟨h9, rfl⟩ := hp
  cases h9
  refine W.eq (g2 := F0 m 11 ls [.int (0 : Int32)]) rfl ?_
  refine W.widen (k := 0) (n := 0) (by decide) (by decide) ?_
  have hP : va_P D kl [(cu, .inl (cJ, 16, .inr (.inl cf))), (mi, .inr (2, [.ref cu, .ref nx, .int (0 : Int32)]))] H := hP
  have hD : va_D A [(cu, .inl (cJ, 16, .inr (.inl cf))), (mi, .inr (2, [.ref cu, .ref nx, .int (0 : Int32)]))] := hD
  refine lv_istore (lv' := [(4, .int (0 : Int32)), (3, .int (1 : Int32)), (1, .long (0 : Int64)), (0, .ref mi)]) hx hb d_MI_commonDivisor_11 hl (by decide) rfl (fun ls hl => ?_)
  refine lv_iload hx hb d_MI_commonDivisor_13 (lv_at hl 0 rfl) ?_
  refine lv_iload_n hx hb d_MI_commonDivisor_15 rfl (lv_at hl 1 rfl) ?_
  refine lv_icmp_ge (tgt := 44) hx hb d_MI_commonDivisor_16 (by decide) (fun h99 => absurd h99 (by decide)) (fun _ => ?_)
  refine lv_lload_n hx hb d_MI_commonDivisor_19 rfl (lv_at hl 2 rfl) ?_
  refine lv_aload_n hx hb d_MI_commonDivisor_20 rfl (lv_at hl 3 rfl) ?_
  refine va_get (D := D) (ci := 2) (v := .ref cu) (C := cn_MI) (T := ft_MI) (N := 3) hx hb hf_MI (fun _ h => h) hown hK hP 1 rfl rfl 0 (by decide) (gw.at G hx0 mw_64 rfl _) (fun _ h9 => h9) rfl d_MI_commonDivisor_21 ?_
  refine va_getsN hx hb hZC hS hown (gw.at G hx0 mw_62 rfl _) (fun _ h9 => h9) d_MI_commonDivisor_24 ?_
  refine lv_iload hx hb d_MI_commonDivisor_27 (lv_at hl 0 rfl) ?_
  refine va_ti hx hb hTC hS (vp_in_iff.mpr (by decide)) (v := .int (0 : Int32)) (by decide) d_MI_commonDivisor_29 ?_
  refine va_lald hx hb hK hP 0 1 rfl rfl (vp_in_iff.mpr (by decide)) d_MI_commonDivisor_30 ?_
  refine tp_l (y := cf 0) (by rfl) ?_
  refine va_mabs_long hx hb (hml.trans hl.1.symm) hown (gw.at G hx0 mw_470 rfl _) (gw.at G hx0 mw_471 rfl _) (gw.at G hx0 mw_2 rfl _) (gw.at G hx0 mw_472 rfl _) (by decide) (Nat.le_of_ble_eq_true rfl) (by decide) (by decide) d_MI_commonDivisor_31 ?_
  refine tp_l (y := labs (cf 0)) rfl ?_
  refine cx_call (D := D) (cl := kl) (ws := _) (wc := []) (wr := [(cu, .inl (cJ, 16, .inr (.inl cf))), (mi, .inr (2, [.ref cu, .ref nx, .int (0 : Int32)]))]) (tx_runS (As := [.long (0 : Int64), .long (labs (cf 0))]) (rest := []) hx hb hml hown (c_MI_cdv E H.size (0 : Int64) (labs (cf 0)) ) (cx_C (b0 := b0) G hx0 mw_475 mw_4 ny_MI_commonDivisorOf (by decide)) (gw.at G hx0 mw_473 rfl _) (gw.at G hx0 mw_474 rfl _) (gw.at G hx0 mw_4 rfl _) ⟨cx_blind, (cx_pre (s := s) hx0 hP hD hS hA0 [] rfl rfl (by decide))⟩ rfl rfl hl.1 rfl (lv_room (Nat.le_of_ble_eq_true rfl)) d_MI_commonDivisor_34 ⟨by decide, by decide⟩) hP hD hS hA [] [0, 1] rfl rfl (by decide) (by decide) (fun v t w1 H locs ht hW9 hp hP hD hS => ?_) (fun x t w1 H locs ht hW9 hp hP hD hS => by obtain ⟨h9, -⟩ := hp; cases h9)
  obtain ⟨h9, rfl⟩ := hp
  cases h9
  refine W.eq (g2 := F0 m 37 ls [.long (cdv 100 (0 : Int64) (labs (cf 0)))]) rfl ?_
  refine W.widen (k := 0) (n := 0) (by decide) (by decide) ?_
  have hP : va_P D kl [(cu, .inl (cJ, 16, .inr (.inl cf))), (mi, .inr (2, [.ref cu, .ref nx, .int (0 : Int32)]))] H := hP
  have hD : va_D A [(cu, .inl (cJ, 16, .inr (.inl cf))), (mi, .inr (2, [.ref cu, .ref nx, .int (0 : Int32)]))] := hD
  refine lv_lstore_n (lv' := [(1, .long (cdv 100 (0 : Int64) (labs (cf 0)))), (4, .int (0 : Int32)), (3, .int (1 : Int32)), (0, .ref mi)]) hx hb d_MI_commonDivisor_37 rfl hl (by decide) rfl (fun ls hl => ?_)
  refine lv_iinc (lv' := [(4, .int (1 : Int32)), (1, .long (cdv 100 (0 : Int64) (labs (cf 0)))), (3, .int (1 : Int32)), (0, .ref mi)]) (k := 1) (v := (1 : Int32)) hx hb d_MI_commonDivisor_38 hl rfl (by decide) (by decide) rfl (fun ls hl => ?_)
  refine lv_goto (tgt := 13) hx hb d_MI_commonDivisor_41 (by decide) ?_
  refine lv_iload hx hb d_MI_commonDivisor_13 (lv_at hl 0 rfl) ?_
  refine lv_iload_n hx hb d_MI_commonDivisor_15 rfl (lv_at hl 2 rfl) ?_
  refine lv_icmp_ge (tgt := 44) hx hb d_MI_commonDivisor_16 (by decide) (fun _ => ?_) (fun h99 => absurd h99 (by decide))
  refine lv_lload_n hx hb d_MI_commonDivisor_44 rfl (lv_at hl 1 rfl) ?_
  exact tx_mono (fun _ h => tx_Z.of h) (W.lret (v := cdv 100 (0 : Int64) (labs (cf 0))) hx hb hr (fun t ht hW => ⟨⟨[(mi, .inr (2, [.ref cu, .ref nx, .int (0 : Int32)])), (cu, .inl (cJ, 16, .inr (.inl cf)))], ⟨rfl, rfl⟩, by rw [ht]; exact hP.sub [1, 0] rfl, hD.sub [1, 0] (by decide) rfl⟩, hS.F ht⟩) hS.2.2 d_MI_commonDivisor_45)

set_option maxHeartbeats 4000000 in
set_option maxRecDepth 100000 in
theorem c_MI_firstChoice1 {l : Launch} {s0 : State} {b0 : Addr} {D : va_G} {cI cJ cZ : ClassId} {tC tS : Nat} (E : gE l s0 b0 D cI cJ cZ tC tS) (sz : Nat) (mi : Nat) (cu : Nat) (nx : Nat) : cx_M l s0 D kl y_MI_firstChoice b_MI_firstChoice 1 (some .int) ({ frames := 0, cells := 0, slots := 0, locals := 0 } : Room) 0 0 [.ref mi] [(mi, .inr (2, [.ref cu, .ref nx, .int (1 : Int32)]))] sz (fun o9 _ w9 => o9 = .returned (some (.int (1 : Int32))) ∧ w9 = [(mi, .inr (2, [.ref cu, .ref nx, .int (1 : Int32)]))]) := by
  refine tx_ofW (cc := b_MI_firstChoice) (maxL := 1) (ret := (some .int)) (by decide) rfl ?_
  intro p e s m args below meth c s₁ B hml hT hv
  obtain ⟨rfl, hsz, hP, hD0, hx0⟩ := hv
  have hx := B.exec
  have hb := B.bytes
  have hr := B.returns
  have G := E.2.1
  have hown : s.vm.findClass cn_MI = some m.cls := findClass_of_methodNamed B.named
  have hlocks := B.notSynchronized
  have hK := va_K.moved hx0.1.alike E.2.2.1
  have hf_MI : ∀ w99 ∈ u_ws cn_MI ft_MI 3, w99.before ([.ref mi] : List Value).toArray s = true := fun w99 h99 => gw.at G hx0 (fw_MI w99 h99) (fo_MI w99 h99) _
  subst hsz
  have hA0 := cx_new hD0 hx0.2.1
  have hD := hD0.self (sz := s.heap.size)
  generalize hAe : va_A [(mi, .inr (2, [.ref cu, .ref nx, .int (1 : Int32)]))] s.heap.size = A at hD hA0 ⊢
  have hA : ∀ q : Nat, s.heap.size ≤ q → A q := fun q h => by rw [← hAe]; exact Or.inr h
  have hS : va_S A s.heap s.heap [] := va_S.rf
  obtain ⟨hZC, hTC, hZS, hTS⟩ := gz.at E.2.2.2.1 hx0 hA0
  have hl := lv_entry ([.ref mi]) (n := 1) (Nat.le_of_ble_eq_true rfl)
  rw [lg_entry_eq]
  generalize (lg_sl ([.ref mi]) ++ List.replicate (1 - (lg_sl ([.ref mi])).length) Slot.unset).toArray = ls at hl ⊢
  have hl : lv_has ls 1 [(0, .ref mi)] := hl
  have hP : va_P D kl [(mi, .inr (2, [.ref cu, .ref nx, .int (1 : Int32)]))] s.heap := hP
  have hml : c.maxLocals = 1 := hml
  refine va_getsN hx hb hZS hS hown (gw.at G hx0 mw_377 rfl _) (fun _ h9 => h9) d_MI_firstChoice_0 ?_
  refine lv_aload_n hx hb d_MI_firstChoice_3 rfl (lv_at hl 0 rfl) ?_
  refine va_get (D := D) (ci := 2) (v := .int (1 : Int32)) (C := cn_MI) (T := ft_MI) (N := 3) hx hb hf_MI (fun _ h => h) hown hK hP 0 rfl rfl 2 (by decide) (gw.at G hx0 mw_66 rfl _) (fun _ h9 => h9) rfl d_MI_firstChoice_4 ?_
  refine va_ti hx hb hTS hS (vp_in_iff.mpr (by decide)) (v := .int (1 : Int32)) (by decide) d_MI_firstChoice_7 ?_
  exact tx_mono (fun _ h => tx_Z.of h) (W.iret (v := (1 : Int32)) hx hb hr (fun t ht hW => ⟨⟨[(mi, .inr (2, [.ref cu, .ref nx, .int (1 : Int32)]))], ⟨rfl, rfl⟩, by rw [ht]; exact hP.sub [0] rfl, hD.sub [0] (by decide) rfl⟩, hS.F ht⟩) hS.2.2 d_MI_firstChoice_8)

set_option maxHeartbeats 4000000 in
set_option maxRecDepth 100000 in
theorem c_MI_endOfChoices1 {l : Launch} {s0 : State} {b0 : Addr} {D : va_G} {cI cJ cZ : ClassId} {tC tS : Nat} (E : gE l s0 b0 D cI cJ cZ tC tS) (sz : Nat) (mi : Nat) (cu : Nat) (nx : Nat) : cx_M l s0 D kl y_MI_endOfChoices b_MI_endOfChoices 1 (some .int) ({ frames := 0, cells := 0, slots := 0, locals := 0 } : Room) 0 0 [.ref mi] [(mi, .inr (2, [.ref cu, .ref nx, .int (1 : Int32)]))] sz (fun o9 _ w9 => o9 = .returned (some (.int (5 : Int32))) ∧ w9 = [(mi, .inr (2, [.ref cu, .ref nx, .int (1 : Int32)]))]) := by
  refine tx_ofW (cc := b_MI_endOfChoices) (maxL := 1) (ret := (some .int)) (by decide) rfl ?_
  intro p e s m args below meth c s₁ B hml hT hv
  obtain ⟨rfl, hsz, hP, hD0, hx0⟩ := hv
  have hx := B.exec
  have hb := B.bytes
  have hr := B.returns
  have G := E.2.1
  have hown : s.vm.findClass cn_MI = some m.cls := findClass_of_methodNamed B.named
  have hlocks := B.notSynchronized
  have hK := va_K.moved hx0.1.alike E.2.2.1
  have hf_MI : ∀ w99 ∈ u_ws cn_MI ft_MI 3, w99.before ([.ref mi] : List Value).toArray s = true := fun w99 h99 => gw.at G hx0 (fw_MI w99 h99) (fo_MI w99 h99) _
  subst hsz
  have hA0 := cx_new hD0 hx0.2.1
  have hD := hD0.self (sz := s.heap.size)
  generalize hAe : va_A [(mi, .inr (2, [.ref cu, .ref nx, .int (1 : Int32)]))] s.heap.size = A at hD hA0 ⊢
  have hA : ∀ q : Nat, s.heap.size ≤ q → A q := fun q h => by rw [← hAe]; exact Or.inr h
  have hS : va_S A s.heap s.heap [] := va_S.rf
  obtain ⟨hZC, hTC, hZS, hTS⟩ := gz.at E.2.2.2.1 hx0 hA0
  have hl := lv_entry ([.ref mi]) (n := 1) (Nat.le_of_ble_eq_true rfl)
  rw [lg_entry_eq]
  generalize (lg_sl ([.ref mi]) ++ List.replicate (1 - (lg_sl ([.ref mi])).length) Slot.unset).toArray = ls at hl ⊢
  have hl : lv_has ls 1 [(0, .ref mi)] := hl
  have hP : va_P D kl [(mi, .inr (2, [.ref cu, .ref nx, .int (1 : Int32)]))] s.heap := hP
  have hml : c.maxLocals = 1 := hml
  refine va_getsN hx hb hZS hS hown (gw.at G hx0 mw_377 rfl _) (fun _ h9 => h9) d_MI_endOfChoices_0 ?_
  refine lv_aload_n hx hb d_MI_endOfChoices_3 rfl (lv_at hl 0 rfl) ?_
  refine va_get (D := D) (ci := 2) (v := .int (1 : Int32)) (C := cn_MI) (T := ft_MI) (N := 3) hx hb hf_MI (fun _ h => h) hown hK hP 0 rfl rfl 2 (by decide) (gw.at G hx0 mw_66 rfl _) (fun _ h9 => h9) rfl d_MI_endOfChoices_4 ?_
  refine lv_iconst (v := (1 : Int32)) hx hb d_MI_endOfChoices_7 (by decide) ?_
  refine lv_iadd hx hb d_MI_endOfChoices_8 ?_
  refine tp_i (y := (2 : Int32)) (by decide) ?_
  refine va_ti hx hb hTS hS (vp_in_iff.mpr (by decide)) (v := .int (5 : Int32)) (by decide) d_MI_endOfChoices_9 ?_
  exact tx_mono (fun _ h => tx_Z.of h) (W.iret (v := (5 : Int32)) hx hb hr (fun t ht hW => ⟨⟨[(mi, .inr (2, [.ref cu, .ref nx, .int (1 : Int32)]))], ⟨rfl, rfl⟩, by rw [ht]; exact hP.sub [0] rfl, hD.sub [0] (by decide) rfl⟩, hS.F ht⟩) hS.2.2 d_MI_endOfChoices_10)

set_option maxHeartbeats 4000000 in
set_option maxRecDepth 100000 in
theorem c_MI_comdiv1 {l : Launch} {s0 : State} {b0 : Addr} {D : va_G} {cI cJ cZ : ClassId} {tC tS : Nat} (E : gE l s0 b0 D cI cJ cZ tC tS) (sz : Nat) (mi : Nat) (cu : Nat) (nx : Nat) (cf : Nat → Int64) : cx_M l s0 D kl y_MI_commonDivisor b_MI_commonDivisor 5 (some .long) ({ frames := 1, cells := 0, slots := 0, locals := 30 } : Room) 0 0 [.ref mi] [(mi, .inr (2, [.ref cu, .ref nx, .int (1 : Int32)])), (cu, .inl (cJ, 16, .inr (.inl cf)))] sz (fun o9 _ w9 => o9 = .returned (some (.long (cdl cf (lev 1)))) ∧ w9 = [(mi, .inr (2, [.ref cu, .ref nx, .int (1 : Int32)])), (cu, .inl (cJ, 16, .inr (.inl cf)))]) := by
  refine tx_ofW (cc := b_MI_commonDivisor) (maxL := 5) (ret := (some .long)) (by decide) rfl ?_
  intro p e s m args below meth c s₁ B hml hT hv
  obtain ⟨rfl, hsz, hP, hD0, hx0⟩ := hv
  have hx := B.exec
  have hb := B.bytes
  have hr := B.returns
  have G := E.2.1
  have hown : s.vm.findClass cn_MI = some m.cls := findClass_of_methodNamed B.named
  have hlocks := B.notSynchronized
  have hK := va_K.moved hx0.1.alike E.2.2.1
  have hf_MI : ∀ w99 ∈ u_ws cn_MI ft_MI 3, w99.before ([.ref mi] : List Value).toArray s = true := fun w99 h99 => gw.at G hx0 (fw_MI w99 h99) (fo_MI w99 h99) _
  subst hsz
  have hA0 := cx_new hD0 hx0.2.1
  have hD := hD0.self (sz := s.heap.size)
  generalize hAe : va_A [(mi, .inr (2, [.ref cu, .ref nx, .int (1 : Int32)])), (cu, .inl (cJ, 16, .inr (.inl cf)))] s.heap.size = A at hD hA0 ⊢
  have hA : ∀ q : Nat, s.heap.size ≤ q → A q := fun q h => by rw [← hAe]; exact Or.inr h
  have hS : va_S A s.heap s.heap [] := va_S.rf
  obtain ⟨hZC, hTC, hZS, hTS⟩ := gz.at E.2.2.2.1 hx0 hA0
  have hl := lv_entry ([.ref mi]) (n := 5) (Nat.le_of_ble_eq_true rfl)
  rw [lg_entry_eq]
  generalize (lg_sl ([.ref mi]) ++ List.replicate (5 - (lg_sl ([.ref mi])).length) Slot.unset).toArray = ls at hl ⊢
  have hl : lv_has ls 5 [(0, .ref mi)] := hl
  have hP : va_P D kl [(mi, .inr (2, [.ref cu, .ref nx, .int (1 : Int32)])), (cu, .inl (cJ, 16, .inr (.inl cf)))] s.heap := hP
  have hml : c.maxLocals = 5 := hml
  refine lv_lconst (v := (0 : Int64)) hx hb d_MI_commonDivisor_0 (by decide) ?_
  refine lv_lstore_n (lv' := [(1, .long (0 : Int64)), (0, .ref mi)]) hx hb d_MI_commonDivisor_1 rfl hl (by decide) rfl (fun ls hl => ?_)
  refine lv_aload_n hx hb d_MI_commonDivisor_2 rfl (lv_at hl 1 rfl) ?_
  refine cx_call (D := D) (cl := kl) (ws := _) (wc := [(mi, .inr (2, [.ref cu, .ref nx, .int (1 : Int32)]))]) (wr := [(cu, .inl (cJ, 16, .inr (.inl cf)))]) (tx_runV (C := cn_MI) (b := mi) (As := []) (rest := []) hx hb hml hown (c_MI_endOfChoices1 E s.heap.size mi cu nx ) (cx_C (b0 := b0) G hx0 mw_465 mw_4 ny_MI_endOfChoices (by decide)) (gw.at G hx0 mw_462 rfl _) (gw.at G hx0 mw_463 rfl _) (gw.at G hx0 mw_464 rfl _) ⟨cx_blind, va_recv hK hP (q0 := 0) (ci := 2) (q := (cn_MI, ft_MI, 3)) rfl rfl, (cx_pre (s := s) hx0 hP hD hS hA0 [0] rfl rfl (by decide))⟩ rfl rfl hl.1 rfl (lv_room (Nat.le_of_ble_eq_true rfl)) d_MI_commonDivisor_3 ⟨by decide, by decide⟩) hP hD hS hA [0] [1] rfl rfl (by decide) (by decide) (fun v t w1 H locs ht hW9 hp hP hD hS => ?_) (fun x t w1 H locs ht hW9 hp hP hD hS => by obtain ⟨h9, -⟩ := hp; cases h9)
  obtain ⟨h9, rfl⟩ := hp
  cases h9
  refine W.eq (g2 := F0 m 6 ls [.int (5 : Int32)]) rfl ?_
  refine W.widen (k := 0) (n := 0) (by decide) (by decide) ?_
  have hP : va_P D kl [(cu, .inl (cJ, 16, .inr (.inl cf))), (mi, .inr (2, [.ref cu, .ref nx, .int (1 : Int32)]))] H := hP
  have hD : va_D A [(cu, .inl (cJ, 16, .inr (.inl cf))), (mi, .inr (2, [.ref cu, .ref nx, .int (1 : Int32)]))] := hD
  refine lv_istore_n (lv' := [(3, .int (5 : Int32)), (1, .long (0 : Int64)), (0, .ref mi)]) hx hb d_MI_commonDivisor_6 rfl hl (by decide) rfl (fun ls hl => ?_)
  refine lv_aload_n hx hb d_MI_commonDivisor_7 rfl (lv_at hl 2 rfl) ?_
  refine cx_call (D := D) (cl := kl) (ws := _) (wc := [(mi, .inr (2, [.ref cu, .ref nx, .int (1 : Int32)]))]) (wr := [(cu, .inl (cJ, 16, .inr (.inl cf)))]) (tx_runV (C := cn_MI) (b := mi) (As := []) (rest := []) hx hb hml hown (c_MI_firstChoice1 E H.size mi cu nx ) (cx_C (b0 := b0) G hx0 mw_469 mw_4 ny_MI_firstChoice (by decide)) (gw.at G hx0 mw_466 rfl _) (gw.at G hx0 mw_467 rfl _) (gw.at G hx0 mw_468 rfl _) ⟨cx_blind, va_recv hK hP (q0 := 1) (ci := 2) (q := (cn_MI, ft_MI, 3)) rfl rfl, (cx_pre (s := s) hx0 hP hD hS hA0 [1] rfl rfl (by decide))⟩ rfl rfl hl.1 rfl (lv_room (Nat.le_of_ble_eq_true rfl)) d_MI_commonDivisor_8 ⟨by decide, by decide⟩) hP hD hS hA [1] [0] rfl rfl (by decide) (by decide) (fun v t w1 H locs ht hW9 hp hP hD hS => ?_) (fun x t w1 H locs ht hW9 hp hP hD hS => by obtain ⟨h9, -⟩ := hp; cases h9)
  obtain ⟨h9, rfl⟩ := hp
  cases h9
  refine W.eq (g2 := F0 m 11 ls [.int (1 : Int32)]) rfl ?_
  refine W.widen (k := 0) (n := 0) (by decide) (by decide) ?_
  have hP : va_P D kl [(cu, .inl (cJ, 16, .inr (.inl cf))), (mi, .inr (2, [.ref cu, .ref nx, .int (1 : Int32)]))] H := hP
  have hD : va_D A [(cu, .inl (cJ, 16, .inr (.inl cf))), (mi, .inr (2, [.ref cu, .ref nx, .int (1 : Int32)]))] := hD
  refine lv_istore (lv' := [(4, .int (1 : Int32)), (3, .int (5 : Int32)), (1, .long (0 : Int64)), (0, .ref mi)]) hx hb d_MI_commonDivisor_11 hl (by decide) rfl (fun ls hl => ?_)
  refine lv_iload hx hb d_MI_commonDivisor_13 (lv_at hl 0 rfl) ?_
  refine lv_iload_n hx hb d_MI_commonDivisor_15 rfl (lv_at hl 1 rfl) ?_
  refine lv_icmp_ge (tgt := 44) hx hb d_MI_commonDivisor_16 (by decide) (fun h99 => absurd h99 (by decide)) (fun _ => ?_)
  refine lv_lload_n hx hb d_MI_commonDivisor_19 rfl (lv_at hl 2 rfl) ?_
  refine lv_aload_n hx hb d_MI_commonDivisor_20 rfl (lv_at hl 3 rfl) ?_
  refine va_get (D := D) (ci := 2) (v := .ref cu) (C := cn_MI) (T := ft_MI) (N := 3) hx hb hf_MI (fun _ h => h) hown hK hP 1 rfl rfl 0 (by decide) (gw.at G hx0 mw_64 rfl _) (fun _ h9 => h9) rfl d_MI_commonDivisor_21 ?_
  refine va_getsN hx hb hZC hS hown (gw.at G hx0 mw_62 rfl _) (fun _ h9 => h9) d_MI_commonDivisor_24 ?_
  refine lv_iload hx hb d_MI_commonDivisor_27 (lv_at hl 0 rfl) ?_
  refine va_ti hx hb hTC hS (vp_in_iff.mpr (by decide)) (v := .int (1 : Int32)) (by decide) d_MI_commonDivisor_29 ?_
  refine va_lald hx hb hK hP 0 1 rfl rfl (vp_in_iff.mpr (by decide)) d_MI_commonDivisor_30 ?_
  refine tp_l (y := cf 1) (by rfl) ?_
  refine va_mabs_long hx hb (hml.trans hl.1.symm) hown (gw.at G hx0 mw_470 rfl _) (gw.at G hx0 mw_471 rfl _) (gw.at G hx0 mw_2 rfl _) (gw.at G hx0 mw_472 rfl _) (by decide) (Nat.le_of_ble_eq_true rfl) (by decide) (by decide) d_MI_commonDivisor_31 ?_
  refine tp_l (y := labs (cf 1)) rfl ?_
  refine cx_call (D := D) (cl := kl) (ws := _) (wc := []) (wr := [(cu, .inl (cJ, 16, .inr (.inl cf))), (mi, .inr (2, [.ref cu, .ref nx, .int (1 : Int32)]))]) (tx_runS (As := [.long (0 : Int64), .long (labs (cf 1))]) (rest := []) hx hb hml hown (c_MI_cdv E H.size (0 : Int64) (labs (cf 1)) ) (cx_C (b0 := b0) G hx0 mw_475 mw_4 ny_MI_commonDivisorOf (by decide)) (gw.at G hx0 mw_473 rfl _) (gw.at G hx0 mw_474 rfl _) (gw.at G hx0 mw_4 rfl _) ⟨cx_blind, (cx_pre (s := s) hx0 hP hD hS hA0 [] rfl rfl (by decide))⟩ rfl rfl hl.1 rfl (lv_room (Nat.le_of_ble_eq_true rfl)) d_MI_commonDivisor_34 ⟨by decide, by decide⟩) hP hD hS hA [] [0, 1] rfl rfl (by decide) (by decide) (fun v t w1 H locs ht hW9 hp hP hD hS => ?_) (fun x t w1 H locs ht hW9 hp hP hD hS => by obtain ⟨h9, -⟩ := hp; cases h9)
  obtain ⟨h9, rfl⟩ := hp
  cases h9
  refine W.eq (g2 := F0 m 37 ls [.long (cdv 100 (0 : Int64) (labs (cf 1)))]) rfl ?_
  refine W.widen (k := 0) (n := 0) (by decide) (by decide) ?_
  have hP : va_P D kl [(cu, .inl (cJ, 16, .inr (.inl cf))), (mi, .inr (2, [.ref cu, .ref nx, .int (1 : Int32)]))] H := hP
  have hD : va_D A [(cu, .inl (cJ, 16, .inr (.inl cf))), (mi, .inr (2, [.ref cu, .ref nx, .int (1 : Int32)]))] := hD
  refine lv_lstore_n (lv' := [(1, .long (cdv 100 (0 : Int64) (labs (cf 1)))), (4, .int (1 : Int32)), (3, .int (5 : Int32)), (0, .ref mi)]) hx hb d_MI_commonDivisor_37 rfl hl (by decide) rfl (fun ls hl => ?_)
  refine lv_iinc (lv' := [(4, .int (2 : Int32)), (1, .long (cdv 100 (0 : Int64) (labs (cf 1)))), (3, .int (5 : Int32)), (0, .ref mi)]) (k := 1) (v := (2 : Int32)) hx hb d_MI_commonDivisor_38 hl rfl (by decide) (by decide) rfl (fun ls hl => ?_)
  refine lv_goto (tgt := 13) hx hb d_MI_commonDivisor_41 (by decide) ?_
  refine lv_iload hx hb d_MI_commonDivisor_13 (lv_at hl 0 rfl) ?_
  refine lv_iload_n hx hb d_MI_commonDivisor_15 rfl (lv_at hl 2 rfl) ?_
  refine lv_icmp_ge (tgt := 44) hx hb d_MI_commonDivisor_16 (by decide) (fun h99 => absurd h99 (by decide)) (fun _ => ?_)
  refine lv_lload_n hx hb d_MI_commonDivisor_19 rfl (lv_at hl 1 rfl) ?_
  refine lv_aload_n hx hb d_MI_commonDivisor_20 rfl (lv_at hl 3 rfl) ?_
  refine va_get (D := D) (ci := 2) (v := .ref cu) (C := cn_MI) (T := ft_MI) (N := 3) hx hb hf_MI (fun _ h => h) hown hK hP 1 rfl rfl 0 (by decide) (gw.at G hx0 mw_64 rfl _) (fun _ h9 => h9) rfl d_MI_commonDivisor_21 ?_
  refine va_getsN hx hb hZC hS hown (gw.at G hx0 mw_62 rfl _) (fun _ h9 => h9) d_MI_commonDivisor_24 ?_
  refine lv_iload hx hb d_MI_commonDivisor_27 (lv_at hl 0 rfl) ?_
  refine va_ti hx hb hTC hS (vp_in_iff.mpr (by decide)) (v := .int (2 : Int32)) (by decide) d_MI_commonDivisor_29 ?_
  refine va_lald hx hb hK hP 0 1 rfl rfl (vp_in_iff.mpr (by decide)) d_MI_commonDivisor_30 ?_
  refine tp_l (y := cf 2) (by rfl) ?_
  refine va_mabs_long hx hb (hml.trans hl.1.symm) hown (gw.at G hx0 mw_470 rfl _) (gw.at G hx0 mw_471 rfl _) (gw.at G hx0 mw_2 rfl _) (gw.at G hx0 mw_472 rfl _) (by decide) (Nat.le_of_ble_eq_true rfl) (by decide) (by decide) d_MI_commonDivisor_31 ?_
  refine tp_l (y := labs (cf 2)) rfl ?_
  refine cx_call (D := D) (cl := kl) (ws := _) (wc := []) (wr := [(cu, .inl (cJ, 16, .inr (.inl cf))), (mi, .inr (2, [.ref cu, .ref nx, .int (1 : Int32)]))]) (tx_runS (As := [.long (cdv 100 (0 : Int64) (labs (cf 1))), .long (labs (cf 2))]) (rest := []) hx hb hml hown (c_MI_cdv E H.size (cdv 100 (0 : Int64) (labs (cf 1))) (labs (cf 2)) ) (cx_C (b0 := b0) G hx0 mw_475 mw_4 ny_MI_commonDivisorOf (by decide)) (gw.at G hx0 mw_473 rfl _) (gw.at G hx0 mw_474 rfl _) (gw.at G hx0 mw_4 rfl _) ⟨cx_blind, (cx_pre (s := s) hx0 hP hD hS hA0 [] rfl rfl (by decide))⟩ rfl rfl hl.1 rfl (lv_room (Nat.le_of_ble_eq_true rfl)) d_MI_commonDivisor_34 ⟨by decide, by decide⟩) hP hD hS hA [] [0, 1] rfl rfl (by decide) (by decide) (fun v t w1 H locs ht hW9 hp hP hD hS => ?_) (fun x t w1 H locs ht hW9 hp hP hD hS => by obtain ⟨h9, -⟩ := hp; cases h9)
  obtain ⟨h9, rfl⟩ := hp
  cases h9
  refine W.eq (g2 := F0 m 37 ls [.long (cdv 100 (cdv 100 (0 : Int64) (labs (cf 1))) (labs (cf 2)))]) rfl ?_
  refine W.widen (k := 0) (n := 0) (by decide) (by decide) ?_
  have hP : va_P D kl [(cu, .inl (cJ, 16, .inr (.inl cf))), (mi, .inr (2, [.ref cu, .ref nx, .int (1 : Int32)]))] H := hP
  have hD : va_D A [(cu, .inl (cJ, 16, .inr (.inl cf))), (mi, .inr (2, [.ref cu, .ref nx, .int (1 : Int32)]))] := hD
  refine lv_lstore_n (lv' := [(1, .long (cdv 100 (cdv 100 (0 : Int64) (labs (cf 1))) (labs (cf 2)))), (4, .int (2 : Int32)), (3, .int (5 : Int32)), (0, .ref mi)]) hx hb d_MI_commonDivisor_37 rfl hl (by decide) rfl (fun ls hl => ?_)
  refine lv_iinc (lv' := [(4, .int (3 : Int32)), (1, .long (cdv 100 (cdv 100 (0 : Int64) (labs (cf 1))) (labs (cf 2)))), (3, .int (5 : Int32)), (0, .ref mi)]) (k := 1) (v := (3 : Int32)) hx hb d_MI_commonDivisor_38 hl rfl (by decide) (by decide) rfl (fun ls hl => ?_)
  refine lv_goto (tgt := 13) hx hb d_MI_commonDivisor_41 (by decide) ?_
  refine lv_iload hx hb d_MI_commonDivisor_13 (lv_at hl 0 rfl) ?_
  refine lv_iload_n hx hb d_MI_commonDivisor_15 rfl (lv_at hl 2 rfl) ?_
  refine lv_icmp_ge (tgt := 44) hx hb d_MI_commonDivisor_16 (by decide) (fun h99 => absurd h99 (by decide)) (fun _ => ?_)
  refine lv_lload_n hx hb d_MI_commonDivisor_19 rfl (lv_at hl 1 rfl) ?_
  refine lv_aload_n hx hb d_MI_commonDivisor_20 rfl (lv_at hl 3 rfl) ?_
  refine va_get (D := D) (ci := 2) (v := .ref cu) (C := cn_MI) (T := ft_MI) (N := 3) hx hb hf_MI (fun _ h => h) hown hK hP 1 rfl rfl 0 (by decide) (gw.at G hx0 mw_64 rfl _) (fun _ h9 => h9) rfl d_MI_commonDivisor_21 ?_
  refine va_getsN hx hb hZC hS hown (gw.at G hx0 mw_62 rfl _) (fun _ h9 => h9) d_MI_commonDivisor_24 ?_
  refine lv_iload hx hb d_MI_commonDivisor_27 (lv_at hl 0 rfl) ?_
  refine va_ti hx hb hTC hS (vp_in_iff.mpr (by decide)) (v := .int (4 : Int32)) (by decide) d_MI_commonDivisor_29 ?_
  refine va_lald hx hb hK hP 0 1 rfl rfl (vp_in_iff.mpr (by decide)) d_MI_commonDivisor_30 ?_
  refine tp_l (y := cf 4) (by rfl) ?_
  refine va_mabs_long hx hb (hml.trans hl.1.symm) hown (gw.at G hx0 mw_470 rfl _) (gw.at G hx0 mw_471 rfl _) (gw.at G hx0 mw_2 rfl _) (gw.at G hx0 mw_472 rfl _) (by decide) (Nat.le_of_ble_eq_true rfl) (by decide) (by decide) d_MI_commonDivisor_31 ?_
  refine tp_l (y := labs (cf 4)) rfl ?_
  refine cx_call (D := D) (cl := kl) (ws := _) (wc := []) (wr := [(cu, .inl (cJ, 16, .inr (.inl cf))), (mi, .inr (2, [.ref cu, .ref nx, .int (1 : Int32)]))]) (tx_runS (As := [.long (cdv 100 (cdv 100 (0 : Int64) (labs (cf 1))) (labs (cf 2))), .long (labs (cf 4))]) (rest := []) hx hb hml hown (c_MI_cdv E H.size (cdv 100 (cdv 100 (0 : Int64) (labs (cf 1))) (labs (cf 2))) (labs (cf 4)) ) (cx_C (b0 := b0) G hx0 mw_475 mw_4 ny_MI_commonDivisorOf (by decide)) (gw.at G hx0 mw_473 rfl _) (gw.at G hx0 mw_474 rfl _) (gw.at G hx0 mw_4 rfl _) ⟨cx_blind, (cx_pre (s := s) hx0 hP hD hS hA0 [] rfl rfl (by decide))⟩ rfl rfl hl.1 rfl (lv_room (Nat.le_of_ble_eq_true rfl)) d_MI_commonDivisor_34 ⟨by decide, by decide⟩) hP hD hS hA [] [0, 1] rfl rfl (by decide) (by decide) (fun v t w1 H locs ht hW9 hp hP hD hS => ?_) (fun x t w1 H locs ht hW9 hp hP hD hS => by obtain ⟨h9, -⟩ := hp; cases h9)
  obtain ⟨h9, rfl⟩ := hp
  cases h9
  refine W.eq (g2 := F0 m 37 ls [.long (cdv 100 (cdv 100 (cdv 100 (0 : Int64) (labs (cf 1))) (labs (cf 2))) (labs (cf 4)))]) rfl ?_
  refine W.widen (k := 0) (n := 0) (by decide) (by decide) ?_
  have hP : va_P D kl [(cu, .inl (cJ, 16, .inr (.inl cf))), (mi, .inr (2, [.ref cu, .ref nx, .int (1 : Int32)]))] H := hP
  have hD : va_D A [(cu, .inl (cJ, 16, .inr (.inl cf))), (mi, .inr (2, [.ref cu, .ref nx, .int (1 : Int32)]))] := hD
  refine lv_lstore_n (lv' := [(1, .long (cdv 100 (cdv 100 (cdv 100 (0 : Int64) (labs (cf 1))) (labs (cf 2))) (labs (cf 4)))), (4, .int (3 : Int32)), (3, .int (5 : Int32)), (0, .ref mi)]) hx hb d_MI_commonDivisor_37 rfl hl (by decide) rfl (fun ls hl => ?_)
  refine lv_iinc (lv' := [(4, .int (4 : Int32)), (1, .long (cdv 100 (cdv 100 (cdv 100 (0 : Int64) (labs (cf 1))) (labs (cf 2))) (labs (cf 4)))), (3, .int (5 : Int32)), (0, .ref mi)]) (k := 1) (v := (4 : Int32)) hx hb d_MI_commonDivisor_38 hl rfl (by decide) (by decide) rfl (fun ls hl => ?_)
  refine lv_goto (tgt := 13) hx hb d_MI_commonDivisor_41 (by decide) ?_
  refine lv_iload hx hb d_MI_commonDivisor_13 (lv_at hl 0 rfl) ?_
  refine lv_iload_n hx hb d_MI_commonDivisor_15 rfl (lv_at hl 2 rfl) ?_
  refine lv_icmp_ge (tgt := 44) hx hb d_MI_commonDivisor_16 (by decide) (fun h99 => absurd h99 (by decide)) (fun _ => ?_)
  refine lv_lload_n hx hb d_MI_commonDivisor_19 rfl (lv_at hl 1 rfl) ?_
  refine lv_aload_n hx hb d_MI_commonDivisor_20 rfl (lv_at hl 3 rfl) ?_
  refine va_get (D := D) (ci := 2) (v := .ref cu) (C := cn_MI) (T := ft_MI) (N := 3) hx hb hf_MI (fun _ h => h) hown hK hP 1 rfl rfl 0 (by decide) (gw.at G hx0 mw_64 rfl _) (fun _ h9 => h9) rfl d_MI_commonDivisor_21 ?_
  refine va_getsN hx hb hZC hS hown (gw.at G hx0 mw_62 rfl _) (fun _ h9 => h9) d_MI_commonDivisor_24 ?_
  refine lv_iload hx hb d_MI_commonDivisor_27 (lv_at hl 0 rfl) ?_
  refine va_ti hx hb hTC hS (vp_in_iff.mpr (by decide)) (v := .int (8 : Int32)) (by decide) d_MI_commonDivisor_29 ?_
  refine va_lald hx hb hK hP 0 1 rfl rfl (vp_in_iff.mpr (by decide)) d_MI_commonDivisor_30 ?_
  refine tp_l (y := cf 8) (by rfl) ?_
  refine va_mabs_long hx hb (hml.trans hl.1.symm) hown (gw.at G hx0 mw_470 rfl _) (gw.at G hx0 mw_471 rfl _) (gw.at G hx0 mw_2 rfl _) (gw.at G hx0 mw_472 rfl _) (by decide) (Nat.le_of_ble_eq_true rfl) (by decide) (by decide) d_MI_commonDivisor_31 ?_
  refine tp_l (y := labs (cf 8)) rfl ?_
  refine cx_call (D := D) (cl := kl) (ws := _) (wc := []) (wr := [(cu, .inl (cJ, 16, .inr (.inl cf))), (mi, .inr (2, [.ref cu, .ref nx, .int (1 : Int32)]))]) (tx_runS (As := [.long (cdv 100 (cdv 100 (cdv 100 (0 : Int64) (labs (cf 1))) (labs (cf 2))) (labs (cf 4))), .long (labs (cf 8))]) (rest := []) hx hb hml hown (c_MI_cdv E H.size (cdv 100 (cdv 100 (cdv 100 (0 : Int64) (labs (cf 1))) (labs (cf 2))) (labs (cf 4))) (labs (cf 8)) ) (cx_C (b0 := b0) G hx0 mw_475 mw_4 ny_MI_commonDivisorOf (by decide)) (gw.at G hx0 mw_473 rfl _) (gw.at G hx0 mw_474 rfl _) (gw.at G hx0 mw_4 rfl _) ⟨cx_blind, (cx_pre (s := s) hx0 hP hD hS hA0 [] rfl rfl (by decide))⟩ rfl rfl hl.1 rfl (lv_room (Nat.le_of_ble_eq_true rfl)) d_MI_commonDivisor_34 ⟨by decide, by decide⟩) hP hD hS hA [] [0, 1] rfl rfl (by decide) (by decide) (fun v t w1 H locs ht hW9 hp hP hD hS => ?_) (fun x t w1 H locs ht hW9 hp hP hD hS => by obtain ⟨h9, -⟩ := hp; cases h9)
  obtain ⟨h9, rfl⟩ := hp
  cases h9
  refine W.eq (g2 := F0 m 37 ls [.long (cdv 100 (cdv 100 (cdv 100 (cdv 100 (0 : Int64) (labs (cf 1))) (labs (cf 2))) (labs (cf 4))) (labs (cf 8)))]) rfl ?_
  refine W.widen (k := 0) (n := 0) (by decide) (by decide) ?_
  have hP : va_P D kl [(cu, .inl (cJ, 16, .inr (.inl cf))), (mi, .inr (2, [.ref cu, .ref nx, .int (1 : Int32)]))] H := hP
  have hD : va_D A [(cu, .inl (cJ, 16, .inr (.inl cf))), (mi, .inr (2, [.ref cu, .ref nx, .int (1 : Int32)]))] := hD
  refine lv_lstore_n (lv' := [(1, .long (cdv 100 (cdv 100 (cdv 100 (cdv 100 (0 : Int64) (labs (cf 1))) (labs (cf 2))) (labs (cf 4))) (labs (cf 8)))), (4, .int (4 : Int32)), (3, .int (5 : Int32)), (0, .ref mi)]) hx hb d_MI_commonDivisor_37 rfl hl (by decide) rfl (fun ls hl => ?_)
  refine lv_iinc (lv' := [(4, .int (5 : Int32)), (1, .long (cdv 100 (cdv 100 (cdv 100 (cdv 100 (0 : Int64) (labs (cf 1))) (labs (cf 2))) (labs (cf 4))) (labs (cf 8)))), (3, .int (5 : Int32)), (0, .ref mi)]) (k := 1) (v := (5 : Int32)) hx hb d_MI_commonDivisor_38 hl rfl (by decide) (by decide) rfl (fun ls hl => ?_)
  refine lv_goto (tgt := 13) hx hb d_MI_commonDivisor_41 (by decide) ?_
  refine lv_iload hx hb d_MI_commonDivisor_13 (lv_at hl 0 rfl) ?_
  refine lv_iload_n hx hb d_MI_commonDivisor_15 rfl (lv_at hl 2 rfl) ?_
  refine lv_icmp_ge (tgt := 44) hx hb d_MI_commonDivisor_16 (by decide) (fun _ => ?_) (fun h99 => absurd h99 (by decide))
  refine lv_lload_n hx hb d_MI_commonDivisor_44 rfl (lv_at hl 1 rfl) ?_
  exact tx_mono (fun _ h => tx_Z.of h) (W.lret (v := cdv 100 (cdv 100 (cdv 100 (cdv 100 (0 : Int64) (labs (cf 1))) (labs (cf 2))) (labs (cf 4))) (labs (cf 8))) hx hb hr (fun t ht hW => ⟨⟨[(mi, .inr (2, [.ref cu, .ref nx, .int (1 : Int32)])), (cu, .inl (cJ, 16, .inr (.inl cf)))], ⟨rfl, rfl⟩, by rw [ht]; exact hP.sub [1, 0] rfl, hD.sub [1, 0] (by decide) rfl⟩, hS.F ht⟩) hS.2.2 d_MI_commonDivisor_45)

set_option maxHeartbeats 4000000 in
set_option maxRecDepth 100000 in
theorem c_MI_firstChoice2 {l : Launch} {s0 : State} {b0 : Addr} {D : va_G} {cI cJ cZ : ClassId} {tC tS : Nat} (E : gE l s0 b0 D cI cJ cZ tC tS) (sz : Nat) (mi : Nat) (cu : Nat) (nx : Nat) : cx_M l s0 D kl y_MI_firstChoice b_MI_firstChoice 1 (some .int) ({ frames := 0, cells := 0, slots := 0, locals := 0 } : Room) 0 0 [.ref mi] [(mi, .inr (2, [.ref cu, .ref nx, .int (2 : Int32)]))] sz (fun o9 _ w9 => o9 = .returned (some (.int (5 : Int32))) ∧ w9 = [(mi, .inr (2, [.ref cu, .ref nx, .int (2 : Int32)]))]) := by
  refine tx_ofW (cc := b_MI_firstChoice) (maxL := 1) (ret := (some .int)) (by decide) rfl ?_
  intro p e s m args below meth c s₁ B hml hT hv
  obtain ⟨rfl, hsz, hP, hD0, hx0⟩ := hv
  have hx := B.exec
  have hb := B.bytes
  have hr := B.returns
  have G := E.2.1
  have hown : s.vm.findClass cn_MI = some m.cls := findClass_of_methodNamed B.named
  have hlocks := B.notSynchronized
  have hK := va_K.moved hx0.1.alike E.2.2.1
  have hf_MI : ∀ w99 ∈ u_ws cn_MI ft_MI 3, w99.before ([.ref mi] : List Value).toArray s = true := fun w99 h99 => gw.at G hx0 (fw_MI w99 h99) (fo_MI w99 h99) _
  subst hsz
  have hA0 := cx_new hD0 hx0.2.1
  have hD := hD0.self (sz := s.heap.size)
  generalize hAe : va_A [(mi, .inr (2, [.ref cu, .ref nx, .int (2 : Int32)]))] s.heap.size = A at hD hA0 ⊢
  have hA : ∀ q : Nat, s.heap.size ≤ q → A q := fun q h => by rw [← hAe]; exact Or.inr h
  have hS : va_S A s.heap s.heap [] := va_S.rf
  obtain ⟨hZC, hTC, hZS, hTS⟩ := gz.at E.2.2.2.1 hx0 hA0
  have hl := lv_entry ([.ref mi]) (n := 1) (Nat.le_of_ble_eq_true rfl)
  rw [lg_entry_eq]
  generalize (lg_sl ([.ref mi]) ++ List.replicate (1 - (lg_sl ([.ref mi])).length) Slot.unset).toArray = ls at hl ⊢
  have hl : lv_has ls 1 [(0, .ref mi)] := hl
  have hP : va_P D kl [(mi, .inr (2, [.ref cu, .ref nx, .int (2 : Int32)]))] s.heap := hP
  have hml : c.maxLocals = 1 := hml
  refine va_getsN hx hb hZS hS hown (gw.at G hx0 mw_377 rfl _) (fun _ h9 => h9) d_MI_firstChoice_0 ?_
  refine lv_aload_n hx hb d_MI_firstChoice_3 rfl (lv_at hl 0 rfl) ?_
  refine va_get (D := D) (ci := 2) (v := .int (2 : Int32)) (C := cn_MI) (T := ft_MI) (N := 3) hx hb hf_MI (fun _ h => h) hown hK hP 0 rfl rfl 2 (by decide) (gw.at G hx0 mw_66 rfl _) (fun _ h9 => h9) rfl d_MI_firstChoice_4 ?_
  refine va_ti hx hb hTS hS (vp_in_iff.mpr (by decide)) (v := .int (5 : Int32)) (by decide) d_MI_firstChoice_7 ?_
  exact tx_mono (fun _ h => tx_Z.of h) (W.iret (v := (5 : Int32)) hx hb hr (fun t ht hW => ⟨⟨[(mi, .inr (2, [.ref cu, .ref nx, .int (2 : Int32)]))], ⟨rfl, rfl⟩, by rw [ht]; exact hP.sub [0] rfl, hD.sub [0] (by decide) rfl⟩, hS.F ht⟩) hS.2.2 d_MI_firstChoice_8)

set_option maxHeartbeats 4000000 in
set_option maxRecDepth 100000 in
theorem c_MI_endOfChoices2 {l : Launch} {s0 : State} {b0 : Addr} {D : va_G} {cI cJ cZ : ClassId} {tC tS : Nat} (E : gE l s0 b0 D cI cJ cZ tC tS) (sz : Nat) (mi : Nat) (cu : Nat) (nx : Nat) : cx_M l s0 D kl y_MI_endOfChoices b_MI_endOfChoices 1 (some .int) ({ frames := 0, cells := 0, slots := 0, locals := 0 } : Room) 0 0 [.ref mi] [(mi, .inr (2, [.ref cu, .ref nx, .int (2 : Int32)]))] sz (fun o9 _ w9 => o9 = .returned (some (.int (11 : Int32))) ∧ w9 = [(mi, .inr (2, [.ref cu, .ref nx, .int (2 : Int32)]))]) := by
  refine tx_ofW (cc := b_MI_endOfChoices) (maxL := 1) (ret := (some .int)) (by decide) rfl ?_
  intro p e s m args below meth c s₁ B hml hT hv
  obtain ⟨rfl, hsz, hP, hD0, hx0⟩ := hv
  have hx := B.exec
  have hb := B.bytes
  have hr := B.returns
  have G := E.2.1
  have hown : s.vm.findClass cn_MI = some m.cls := findClass_of_methodNamed B.named
  have hlocks := B.notSynchronized
  have hK := va_K.moved hx0.1.alike E.2.2.1
  have hf_MI : ∀ w99 ∈ u_ws cn_MI ft_MI 3, w99.before ([.ref mi] : List Value).toArray s = true := fun w99 h99 => gw.at G hx0 (fw_MI w99 h99) (fo_MI w99 h99) _
  subst hsz
  have hA0 := cx_new hD0 hx0.2.1
  have hD := hD0.self (sz := s.heap.size)
  generalize hAe : va_A [(mi, .inr (2, [.ref cu, .ref nx, .int (2 : Int32)]))] s.heap.size = A at hD hA0 ⊢
  have hA : ∀ q : Nat, s.heap.size ≤ q → A q := fun q h => by rw [← hAe]; exact Or.inr h
  have hS : va_S A s.heap s.heap [] := va_S.rf
  obtain ⟨hZC, hTC, hZS, hTS⟩ := gz.at E.2.2.2.1 hx0 hA0
  have hl := lv_entry ([.ref mi]) (n := 1) (Nat.le_of_ble_eq_true rfl)
  rw [lg_entry_eq]
  generalize (lg_sl ([.ref mi]) ++ List.replicate (1 - (lg_sl ([.ref mi])).length) Slot.unset).toArray = ls at hl ⊢
  have hl : lv_has ls 1 [(0, .ref mi)] := hl
  have hP : va_P D kl [(mi, .inr (2, [.ref cu, .ref nx, .int (2 : Int32)]))] s.heap := hP
  have hml : c.maxLocals = 1 := hml
  refine va_getsN hx hb hZS hS hown (gw.at G hx0 mw_377 rfl _) (fun _ h9 => h9) d_MI_endOfChoices_0 ?_
  refine lv_aload_n hx hb d_MI_endOfChoices_3 rfl (lv_at hl 0 rfl) ?_
  refine va_get (D := D) (ci := 2) (v := .int (2 : Int32)) (C := cn_MI) (T := ft_MI) (N := 3) hx hb hf_MI (fun _ h => h) hown hK hP 0 rfl rfl 2 (by decide) (gw.at G hx0 mw_66 rfl _) (fun _ h9 => h9) rfl d_MI_endOfChoices_4 ?_
  refine lv_iconst (v := (1 : Int32)) hx hb d_MI_endOfChoices_7 (by decide) ?_
  refine lv_iadd hx hb d_MI_endOfChoices_8 ?_
  refine tp_i (y := (3 : Int32)) (by decide) ?_
  refine va_ti hx hb hTS hS (vp_in_iff.mpr (by decide)) (v := .int (11 : Int32)) (by decide) d_MI_endOfChoices_9 ?_
  exact tx_mono (fun _ h => tx_Z.of h) (W.iret (v := (11 : Int32)) hx hb hr (fun t ht hW => ⟨⟨[(mi, .inr (2, [.ref cu, .ref nx, .int (2 : Int32)]))], ⟨rfl, rfl⟩, by rw [ht]; exact hP.sub [0] rfl, hD.sub [0] (by decide) rfl⟩, hS.F ht⟩) hS.2.2 d_MI_endOfChoices_10)

set_option maxHeartbeats 4000000 in
set_option maxRecDepth 100000 in
theorem c_MI_comdiv2 {l : Launch} {s0 : State} {b0 : Addr} {D : va_G} {cI cJ cZ : ClassId} {tC tS : Nat} (E : gE l s0 b0 D cI cJ cZ tC tS) (sz : Nat) (mi : Nat) (cu : Nat) (nx : Nat) (cf : Nat → Int64) : cx_M l s0 D kl y_MI_commonDivisor b_MI_commonDivisor 5 (some .long) ({ frames := 1, cells := 0, slots := 0, locals := 30 } : Room) 0 0 [.ref mi] [(mi, .inr (2, [.ref cu, .ref nx, .int (2 : Int32)])), (cu, .inl (cJ, 16, .inr (.inl cf)))] sz (fun o9 _ w9 => o9 = .returned (some (.long (cdl cf (lev 2)))) ∧ w9 = [(mi, .inr (2, [.ref cu, .ref nx, .int (2 : Int32)])), (cu, .inl (cJ, 16, .inr (.inl cf)))]) := by
  refine tx_ofW (cc := b_MI_commonDivisor) (maxL := 5) (ret := (some .long)) (by decide) rfl ?_
  intro p e s m args below meth c s₁ B hml hT hv
  obtain ⟨rfl, hsz, hP, hD0, hx0⟩ := hv
  have hx := B.exec
  have hb := B.bytes
  have hr := B.returns
  have G := E.2.1
  have hown : s.vm.findClass cn_MI = some m.cls := findClass_of_methodNamed B.named
  have hlocks := B.notSynchronized
  have hK := va_K.moved hx0.1.alike E.2.2.1
  have hf_MI : ∀ w99 ∈ u_ws cn_MI ft_MI 3, w99.before ([.ref mi] : List Value).toArray s = true := fun w99 h99 => gw.at G hx0 (fw_MI w99 h99) (fo_MI w99 h99) _
  subst hsz
  have hA0 := cx_new hD0 hx0.2.1
  have hD := hD0.self (sz := s.heap.size)
  generalize hAe : va_A [(mi, .inr (2, [.ref cu, .ref nx, .int (2 : Int32)])), (cu, .inl (cJ, 16, .inr (.inl cf)))] s.heap.size = A at hD hA0 ⊢
  have hA : ∀ q : Nat, s.heap.size ≤ q → A q := fun q h => by rw [← hAe]; exact Or.inr h
  have hS : va_S A s.heap s.heap [] := va_S.rf
  obtain ⟨hZC, hTC, hZS, hTS⟩ := gz.at E.2.2.2.1 hx0 hA0
  have hl := lv_entry ([.ref mi]) (n := 5) (Nat.le_of_ble_eq_true rfl)
  rw [lg_entry_eq]
  generalize (lg_sl ([.ref mi]) ++ List.replicate (5 - (lg_sl ([.ref mi])).length) Slot.unset).toArray = ls at hl ⊢
  have hl : lv_has ls 5 [(0, .ref mi)] := hl
  have hP : va_P D kl [(mi, .inr (2, [.ref cu, .ref nx, .int (2 : Int32)])), (cu, .inl (cJ, 16, .inr (.inl cf)))] s.heap := hP
  have hml : c.maxLocals = 5 := hml
  refine lv_lconst (v := (0 : Int64)) hx hb d_MI_commonDivisor_0 (by decide) ?_
  refine lv_lstore_n (lv' := [(1, .long (0 : Int64)), (0, .ref mi)]) hx hb d_MI_commonDivisor_1 rfl hl (by decide) rfl (fun ls hl => ?_)
  refine lv_aload_n hx hb d_MI_commonDivisor_2 rfl (lv_at hl 1 rfl) ?_
  refine cx_call (D := D) (cl := kl) (ws := _) (wc := [(mi, .inr (2, [.ref cu, .ref nx, .int (2 : Int32)]))]) (wr := [(cu, .inl (cJ, 16, .inr (.inl cf)))]) (tx_runV (C := cn_MI) (b := mi) (As := []) (rest := []) hx hb hml hown (c_MI_endOfChoices2 E s.heap.size mi cu nx ) (cx_C (b0 := b0) G hx0 mw_465 mw_4 ny_MI_endOfChoices (by decide)) (gw.at G hx0 mw_462 rfl _) (gw.at G hx0 mw_463 rfl _) (gw.at G hx0 mw_464 rfl _) ⟨cx_blind, va_recv hK hP (q0 := 0) (ci := 2) (q := (cn_MI, ft_MI, 3)) rfl rfl, (cx_pre (s := s) hx0 hP hD hS hA0 [0] rfl rfl (by decide))⟩ rfl rfl hl.1 rfl (lv_room (Nat.le_of_ble_eq_true rfl)) d_MI_commonDivisor_3 ⟨by decide, by decide⟩) hP hD hS hA [0] [1] rfl rfl (by decide) (by decide) (fun v t w1 H locs ht hW9 hp hP hD hS => ?_) (fun x t w1 H locs ht hW9 hp hP hD hS => by obtain ⟨h9, -⟩ := hp; cases h9)
  obtain ⟨h9, rfl⟩ := hp
  cases h9
  refine W.eq (g2 := F0 m 6 ls [.int (11 : Int32)]) rfl ?_
  refine W.widen (k := 0) (n := 0) (by decide) (by decide) ?_
  have hP : va_P D kl [(cu, .inl (cJ, 16, .inr (.inl cf))), (mi, .inr (2, [.ref cu, .ref nx, .int (2 : Int32)]))] H := hP
  have hD : va_D A [(cu, .inl (cJ, 16, .inr (.inl cf))), (mi, .inr (2, [.ref cu, .ref nx, .int (2 : Int32)]))] := hD
  refine lv_istore_n (lv' := [(3, .int (11 : Int32)), (1, .long (0 : Int64)), (0, .ref mi)]) hx hb d_MI_commonDivisor_6 rfl hl (by decide) rfl (fun ls hl => ?_)
  refine lv_aload_n hx hb d_MI_commonDivisor_7 rfl (lv_at hl 2 rfl) ?_
  refine cx_call (D := D) (cl := kl) (ws := _) (wc := [(mi, .inr (2, [.ref cu, .ref nx, .int (2 : Int32)]))]) (wr := [(cu, .inl (cJ, 16, .inr (.inl cf)))]) (tx_runV (C := cn_MI) (b := mi) (As := []) (rest := []) hx hb hml hown (c_MI_firstChoice2 E H.size mi cu nx ) (cx_C (b0 := b0) G hx0 mw_469 mw_4 ny_MI_firstChoice (by decide)) (gw.at G hx0 mw_466 rfl _) (gw.at G hx0 mw_467 rfl _) (gw.at G hx0 mw_468 rfl _) ⟨cx_blind, va_recv hK hP (q0 := 1) (ci := 2) (q := (cn_MI, ft_MI, 3)) rfl rfl, (cx_pre (s := s) hx0 hP hD hS hA0 [1] rfl rfl (by decide))⟩ rfl rfl hl.1 rfl (lv_room (Nat.le_of_ble_eq_true rfl)) d_MI_commonDivisor_8 ⟨by decide, by decide⟩) hP hD hS hA [1] [0] rfl rfl (by decide) (by decide) (fun v t w1 H locs ht hW9 hp hP hD hS => ?_) (fun x t w1 H locs ht hW9 hp hP hD hS => by obtain ⟨h9, -⟩ := hp; cases h9)
  obtain ⟨h9, rfl⟩ := hp
  cases h9
  refine W.eq (g2 := F0 m 11 ls [.int (5 : Int32)]) rfl ?_
  refine W.widen (k := 0) (n := 0) (by decide) (by decide) ?_
  have hP : va_P D kl [(cu, .inl (cJ, 16, .inr (.inl cf))), (mi, .inr (2, [.ref cu, .ref nx, .int (2 : Int32)]))] H := hP
  have hD : va_D A [(cu, .inl (cJ, 16, .inr (.inl cf))), (mi, .inr (2, [.ref cu, .ref nx, .int (2 : Int32)]))] := hD
  refine lv_istore (lv' := [(4, .int (5 : Int32)), (3, .int (11 : Int32)), (1, .long (0 : Int64)), (0, .ref mi)]) hx hb d_MI_commonDivisor_11 hl (by decide) rfl (fun ls hl => ?_)
  refine lv_iload hx hb d_MI_commonDivisor_13 (lv_at hl 0 rfl) ?_
  refine lv_iload_n hx hb d_MI_commonDivisor_15 rfl (lv_at hl 1 rfl) ?_
  refine lv_icmp_ge (tgt := 44) hx hb d_MI_commonDivisor_16 (by decide) (fun h99 => absurd h99 (by decide)) (fun _ => ?_)
  refine lv_lload_n hx hb d_MI_commonDivisor_19 rfl (lv_at hl 2 rfl) ?_
  refine lv_aload_n hx hb d_MI_commonDivisor_20 rfl (lv_at hl 3 rfl) ?_
  refine va_get (D := D) (ci := 2) (v := .ref cu) (C := cn_MI) (T := ft_MI) (N := 3) hx hb hf_MI (fun _ h => h) hown hK hP 1 rfl rfl 0 (by decide) (gw.at G hx0 mw_64 rfl _) (fun _ h9 => h9) rfl d_MI_commonDivisor_21 ?_
  refine va_getsN hx hb hZC hS hown (gw.at G hx0 mw_62 rfl _) (fun _ h9 => h9) d_MI_commonDivisor_24 ?_
  refine lv_iload hx hb d_MI_commonDivisor_27 (lv_at hl 0 rfl) ?_
  refine va_ti hx hb hTC hS (vp_in_iff.mpr (by decide)) (v := .int (3 : Int32)) (by decide) d_MI_commonDivisor_29 ?_
  refine va_lald hx hb hK hP 0 1 rfl rfl (vp_in_iff.mpr (by decide)) d_MI_commonDivisor_30 ?_
  refine tp_l (y := cf 3) (by rfl) ?_
  refine va_mabs_long hx hb (hml.trans hl.1.symm) hown (gw.at G hx0 mw_470 rfl _) (gw.at G hx0 mw_471 rfl _) (gw.at G hx0 mw_2 rfl _) (gw.at G hx0 mw_472 rfl _) (by decide) (Nat.le_of_ble_eq_true rfl) (by decide) (by decide) d_MI_commonDivisor_31 ?_
  refine tp_l (y := labs (cf 3)) rfl ?_
  refine cx_call (D := D) (cl := kl) (ws := _) (wc := []) (wr := [(cu, .inl (cJ, 16, .inr (.inl cf))), (mi, .inr (2, [.ref cu, .ref nx, .int (2 : Int32)]))]) (tx_runS (As := [.long (0 : Int64), .long (labs (cf 3))]) (rest := []) hx hb hml hown (c_MI_cdv E H.size (0 : Int64) (labs (cf 3)) ) (cx_C (b0 := b0) G hx0 mw_475 mw_4 ny_MI_commonDivisorOf (by decide)) (gw.at G hx0 mw_473 rfl _) (gw.at G hx0 mw_474 rfl _) (gw.at G hx0 mw_4 rfl _) ⟨cx_blind, (cx_pre (s := s) hx0 hP hD hS hA0 [] rfl rfl (by decide))⟩ rfl rfl hl.1 rfl (lv_room (Nat.le_of_ble_eq_true rfl)) d_MI_commonDivisor_34 ⟨by decide, by decide⟩) hP hD hS hA [] [0, 1] rfl rfl (by decide) (by decide) (fun v t w1 H locs ht hW9 hp hP hD hS => ?_) (fun x t w1 H locs ht hW9 hp hP hD hS => by obtain ⟨h9, -⟩ := hp; cases h9)
  obtain ⟨h9, rfl⟩ := hp
  cases h9
  refine W.eq (g2 := F0 m 37 ls [.long (cdv 100 (0 : Int64) (labs (cf 3)))]) rfl ?_
  refine W.widen (k := 0) (n := 0) (by decide) (by decide) ?_
  have hP : va_P D kl [(cu, .inl (cJ, 16, .inr (.inl cf))), (mi, .inr (2, [.ref cu, .ref nx, .int (2 : Int32)]))] H := hP
  have hD : va_D A [(cu, .inl (cJ, 16, .inr (.inl cf))), (mi, .inr (2, [.ref cu, .ref nx, .int (2 : Int32)]))] := hD
  refine lv_lstore_n (lv' := [(1, .long (cdv 100 (0 : Int64) (labs (cf 3)))), (4, .int (5 : Int32)), (3, .int (11 : Int32)), (0, .ref mi)]) hx hb d_MI_commonDivisor_37 rfl hl (by decide) rfl (fun ls hl => ?_)
  refine lv_iinc (lv' := [(4, .int (6 : Int32)), (1, .long (cdv 100 (0 : Int64) (labs (cf 3)))), (3, .int (11 : Int32)), (0, .ref mi)]) (k := 1) (v := (6 : Int32)) hx hb d_MI_commonDivisor_38 hl rfl (by decide) (by decide) rfl (fun ls hl => ?_)
  refine lv_goto (tgt := 13) hx hb d_MI_commonDivisor_41 (by decide) ?_
  refine lv_iload hx hb d_MI_commonDivisor_13 (lv_at hl 0 rfl) ?_
  refine lv_iload_n hx hb d_MI_commonDivisor_15 rfl (lv_at hl 2 rfl) ?_
  refine lv_icmp_ge (tgt := 44) hx hb d_MI_commonDivisor_16 (by decide) (fun h99 => absurd h99 (by decide)) (fun _ => ?_)
  refine lv_lload_n hx hb d_MI_commonDivisor_19 rfl (lv_at hl 1 rfl) ?_
  refine lv_aload_n hx hb d_MI_commonDivisor_20 rfl (lv_at hl 3 rfl) ?_
  refine va_get (D := D) (ci := 2) (v := .ref cu) (C := cn_MI) (T := ft_MI) (N := 3) hx hb hf_MI (fun _ h => h) hown hK hP 1 rfl rfl 0 (by decide) (gw.at G hx0 mw_64 rfl _) (fun _ h9 => h9) rfl d_MI_commonDivisor_21 ?_
  refine va_getsN hx hb hZC hS hown (gw.at G hx0 mw_62 rfl _) (fun _ h9 => h9) d_MI_commonDivisor_24 ?_
  refine lv_iload hx hb d_MI_commonDivisor_27 (lv_at hl 0 rfl) ?_
  refine va_ti hx hb hTC hS (vp_in_iff.mpr (by decide)) (v := .int (5 : Int32)) (by decide) d_MI_commonDivisor_29 ?_
  refine va_lald hx hb hK hP 0 1 rfl rfl (vp_in_iff.mpr (by decide)) d_MI_commonDivisor_30 ?_
  refine tp_l (y := cf 5) (by rfl) ?_
  refine va_mabs_long hx hb (hml.trans hl.1.symm) hown (gw.at G hx0 mw_470 rfl _) (gw.at G hx0 mw_471 rfl _) (gw.at G hx0 mw_2 rfl _) (gw.at G hx0 mw_472 rfl _) (by decide) (Nat.le_of_ble_eq_true rfl) (by decide) (by decide) d_MI_commonDivisor_31 ?_
  refine tp_l (y := labs (cf 5)) rfl ?_
  refine cx_call (D := D) (cl := kl) (ws := _) (wc := []) (wr := [(cu, .inl (cJ, 16, .inr (.inl cf))), (mi, .inr (2, [.ref cu, .ref nx, .int (2 : Int32)]))]) (tx_runS (As := [.long (cdv 100 (0 : Int64) (labs (cf 3))), .long (labs (cf 5))]) (rest := []) hx hb hml hown (c_MI_cdv E H.size (cdv 100 (0 : Int64) (labs (cf 3))) (labs (cf 5)) ) (cx_C (b0 := b0) G hx0 mw_475 mw_4 ny_MI_commonDivisorOf (by decide)) (gw.at G hx0 mw_473 rfl _) (gw.at G hx0 mw_474 rfl _) (gw.at G hx0 mw_4 rfl _) ⟨cx_blind, (cx_pre (s := s) hx0 hP hD hS hA0 [] rfl rfl (by decide))⟩ rfl rfl hl.1 rfl (lv_room (Nat.le_of_ble_eq_true rfl)) d_MI_commonDivisor_34 ⟨by decide, by decide⟩) hP hD hS hA [] [0, 1] rfl rfl (by decide) (by decide) (fun v t w1 H locs ht hW9 hp hP hD hS => ?_) (fun x t w1 H locs ht hW9 hp hP hD hS => by obtain ⟨h9, -⟩ := hp; cases h9)
  obtain ⟨h9, rfl⟩ := hp
  cases h9
  refine W.eq (g2 := F0 m 37 ls [.long (cdv 100 (cdv 100 (0 : Int64) (labs (cf 3))) (labs (cf 5)))]) rfl ?_
  refine W.widen (k := 0) (n := 0) (by decide) (by decide) ?_
  have hP : va_P D kl [(cu, .inl (cJ, 16, .inr (.inl cf))), (mi, .inr (2, [.ref cu, .ref nx, .int (2 : Int32)]))] H := hP
  have hD : va_D A [(cu, .inl (cJ, 16, .inr (.inl cf))), (mi, .inr (2, [.ref cu, .ref nx, .int (2 : Int32)]))] := hD
  refine lv_lstore_n (lv' := [(1, .long (cdv 100 (cdv 100 (0 : Int64) (labs (cf 3))) (labs (cf 5)))), (4, .int (6 : Int32)), (3, .int (11 : Int32)), (0, .ref mi)]) hx hb d_MI_commonDivisor_37 rfl hl (by decide) rfl (fun ls hl => ?_)
  refine lv_iinc (lv' := [(4, .int (7 : Int32)), (1, .long (cdv 100 (cdv 100 (0 : Int64) (labs (cf 3))) (labs (cf 5)))), (3, .int (11 : Int32)), (0, .ref mi)]) (k := 1) (v := (7 : Int32)) hx hb d_MI_commonDivisor_38 hl rfl (by decide) (by decide) rfl (fun ls hl => ?_)
  refine lv_goto (tgt := 13) hx hb d_MI_commonDivisor_41 (by decide) ?_
  refine lv_iload hx hb d_MI_commonDivisor_13 (lv_at hl 0 rfl) ?_
  refine lv_iload_n hx hb d_MI_commonDivisor_15 rfl (lv_at hl 2 rfl) ?_
  refine lv_icmp_ge (tgt := 44) hx hb d_MI_commonDivisor_16 (by decide) (fun h99 => absurd h99 (by decide)) (fun _ => ?_)
  refine lv_lload_n hx hb d_MI_commonDivisor_19 rfl (lv_at hl 1 rfl) ?_
  refine lv_aload_n hx hb d_MI_commonDivisor_20 rfl (lv_at hl 3 rfl) ?_
  refine va_get (D := D) (ci := 2) (v := .ref cu) (C := cn_MI) (T := ft_MI) (N := 3) hx hb hf_MI (fun _ h => h) hown hK hP 1 rfl rfl 0 (by decide) (gw.at G hx0 mw_64 rfl _) (fun _ h9 => h9) rfl d_MI_commonDivisor_21 ?_
  refine va_getsN hx hb hZC hS hown (gw.at G hx0 mw_62 rfl _) (fun _ h9 => h9) d_MI_commonDivisor_24 ?_
  refine lv_iload hx hb d_MI_commonDivisor_27 (lv_at hl 0 rfl) ?_
  refine va_ti hx hb hTC hS (vp_in_iff.mpr (by decide)) (v := .int (6 : Int32)) (by decide) d_MI_commonDivisor_29 ?_
  refine va_lald hx hb hK hP 0 1 rfl rfl (vp_in_iff.mpr (by decide)) d_MI_commonDivisor_30 ?_
  refine tp_l (y := cf 6) (by rfl) ?_
  refine va_mabs_long hx hb (hml.trans hl.1.symm) hown (gw.at G hx0 mw_470 rfl _) (gw.at G hx0 mw_471 rfl _) (gw.at G hx0 mw_2 rfl _) (gw.at G hx0 mw_472 rfl _) (by decide) (Nat.le_of_ble_eq_true rfl) (by decide) (by decide) d_MI_commonDivisor_31 ?_
  refine tp_l (y := labs (cf 6)) rfl ?_
  refine cx_call (D := D) (cl := kl) (ws := _) (wc := []) (wr := [(cu, .inl (cJ, 16, .inr (.inl cf))), (mi, .inr (2, [.ref cu, .ref nx, .int (2 : Int32)]))]) (tx_runS (As := [.long (cdv 100 (cdv 100 (0 : Int64) (labs (cf 3))) (labs (cf 5))), .long (labs (cf 6))]) (rest := []) hx hb hml hown (c_MI_cdv E H.size (cdv 100 (cdv 100 (0 : Int64) (labs (cf 3))) (labs (cf 5))) (labs (cf 6)) ) (cx_C (b0 := b0) G hx0 mw_475 mw_4 ny_MI_commonDivisorOf (by decide)) (gw.at G hx0 mw_473 rfl _) (gw.at G hx0 mw_474 rfl _) (gw.at G hx0 mw_4 rfl _) ⟨cx_blind, (cx_pre (s := s) hx0 hP hD hS hA0 [] rfl rfl (by decide))⟩ rfl rfl hl.1 rfl (lv_room (Nat.le_of_ble_eq_true rfl)) d_MI_commonDivisor_34 ⟨by decide, by decide⟩) hP hD hS hA [] [0, 1] rfl rfl (by decide) (by decide) (fun v t w1 H locs ht hW9 hp hP hD hS => ?_) (fun x t w1 H locs ht hW9 hp hP hD hS => by obtain ⟨h9, -⟩ := hp; cases h9)
  obtain ⟨h9, rfl⟩ := hp
  cases h9
  refine W.eq (g2 := F0 m 37 ls [.long (cdv 100 (cdv 100 (cdv 100 (0 : Int64) (labs (cf 3))) (labs (cf 5))) (labs (cf 6)))]) rfl ?_
  refine W.widen (k := 0) (n := 0) (by decide) (by decide) ?_
  have hP : va_P D kl [(cu, .inl (cJ, 16, .inr (.inl cf))), (mi, .inr (2, [.ref cu, .ref nx, .int (2 : Int32)]))] H := hP
  have hD : va_D A [(cu, .inl (cJ, 16, .inr (.inl cf))), (mi, .inr (2, [.ref cu, .ref nx, .int (2 : Int32)]))] := hD
  refine lv_lstore_n (lv' := [(1, .long (cdv 100 (cdv 100 (cdv 100 (0 : Int64) (labs (cf 3))) (labs (cf 5))) (labs (cf 6)))), (4, .int (7 : Int32)), (3, .int (11 : Int32)), (0, .ref mi)]) hx hb d_MI_commonDivisor_37 rfl hl (by decide) rfl (fun ls hl => ?_)
  refine lv_iinc (lv' := [(4, .int (8 : Int32)), (1, .long (cdv 100 (cdv 100 (cdv 100 (0 : Int64) (labs (cf 3))) (labs (cf 5))) (labs (cf 6)))), (3, .int (11 : Int32)), (0, .ref mi)]) (k := 1) (v := (8 : Int32)) hx hb d_MI_commonDivisor_38 hl rfl (by decide) (by decide) rfl (fun ls hl => ?_)
  refine lv_goto (tgt := 13) hx hb d_MI_commonDivisor_41 (by decide) ?_
  refine lv_iload hx hb d_MI_commonDivisor_13 (lv_at hl 0 rfl) ?_
  refine lv_iload_n hx hb d_MI_commonDivisor_15 rfl (lv_at hl 2 rfl) ?_
  refine lv_icmp_ge (tgt := 44) hx hb d_MI_commonDivisor_16 (by decide) (fun h99 => absurd h99 (by decide)) (fun _ => ?_)
  refine lv_lload_n hx hb d_MI_commonDivisor_19 rfl (lv_at hl 1 rfl) ?_
  refine lv_aload_n hx hb d_MI_commonDivisor_20 rfl (lv_at hl 3 rfl) ?_
  refine va_get (D := D) (ci := 2) (v := .ref cu) (C := cn_MI) (T := ft_MI) (N := 3) hx hb hf_MI (fun _ h => h) hown hK hP 1 rfl rfl 0 (by decide) (gw.at G hx0 mw_64 rfl _) (fun _ h9 => h9) rfl d_MI_commonDivisor_21 ?_
  refine va_getsN hx hb hZC hS hown (gw.at G hx0 mw_62 rfl _) (fun _ h9 => h9) d_MI_commonDivisor_24 ?_
  refine lv_iload hx hb d_MI_commonDivisor_27 (lv_at hl 0 rfl) ?_
  refine va_ti hx hb hTC hS (vp_in_iff.mpr (by decide)) (v := .int (9 : Int32)) (by decide) d_MI_commonDivisor_29 ?_
  refine va_lald hx hb hK hP 0 1 rfl rfl (vp_in_iff.mpr (by decide)) d_MI_commonDivisor_30 ?_
  refine tp_l (y := cf 9) (by rfl) ?_
  refine va_mabs_long hx hb (hml.trans hl.1.symm) hown (gw.at G hx0 mw_470 rfl _) (gw.at G hx0 mw_471 rfl _) (gw.at G hx0 mw_2 rfl _) (gw.at G hx0 mw_472 rfl _) (by decide) (Nat.le_of_ble_eq_true rfl) (by decide) (by decide) d_MI_commonDivisor_31 ?_
  refine tp_l (y := labs (cf 9)) rfl ?_
  refine cx_call (D := D) (cl := kl) (ws := _) (wc := []) (wr := [(cu, .inl (cJ, 16, .inr (.inl cf))), (mi, .inr (2, [.ref cu, .ref nx, .int (2 : Int32)]))]) (tx_runS (As := [.long (cdv 100 (cdv 100 (cdv 100 (0 : Int64) (labs (cf 3))) (labs (cf 5))) (labs (cf 6))), .long (labs (cf 9))]) (rest := []) hx hb hml hown (c_MI_cdv E H.size (cdv 100 (cdv 100 (cdv 100 (0 : Int64) (labs (cf 3))) (labs (cf 5))) (labs (cf 6))) (labs (cf 9)) ) (cx_C (b0 := b0) G hx0 mw_475 mw_4 ny_MI_commonDivisorOf (by decide)) (gw.at G hx0 mw_473 rfl _) (gw.at G hx0 mw_474 rfl _) (gw.at G hx0 mw_4 rfl _) ⟨cx_blind, (cx_pre (s := s) hx0 hP hD hS hA0 [] rfl rfl (by decide))⟩ rfl rfl hl.1 rfl (lv_room (Nat.le_of_ble_eq_true rfl)) d_MI_commonDivisor_34 ⟨by decide, by decide⟩) hP hD hS hA [] [0, 1] rfl rfl (by decide) (by decide) (fun v t w1 H locs ht hW9 hp hP hD hS => ?_) (fun x t w1 H locs ht hW9 hp hP hD hS => by obtain ⟨h9, -⟩ := hp; cases h9)
  obtain ⟨h9, rfl⟩ := hp
  cases h9
  refine W.eq (g2 := F0 m 37 ls [.long (cdv 100 (cdv 100 (cdv 100 (cdv 100 (0 : Int64) (labs (cf 3))) (labs (cf 5))) (labs (cf 6))) (labs (cf 9)))]) rfl ?_
  refine W.widen (k := 0) (n := 0) (by decide) (by decide) ?_
  have hP : va_P D kl [(cu, .inl (cJ, 16, .inr (.inl cf))), (mi, .inr (2, [.ref cu, .ref nx, .int (2 : Int32)]))] H := hP
  have hD : va_D A [(cu, .inl (cJ, 16, .inr (.inl cf))), (mi, .inr (2, [.ref cu, .ref nx, .int (2 : Int32)]))] := hD
  refine lv_lstore_n (lv' := [(1, .long (cdv 100 (cdv 100 (cdv 100 (cdv 100 (0 : Int64) (labs (cf 3))) (labs (cf 5))) (labs (cf 6))) (labs (cf 9)))), (4, .int (8 : Int32)), (3, .int (11 : Int32)), (0, .ref mi)]) hx hb d_MI_commonDivisor_37 rfl hl (by decide) rfl (fun ls hl => ?_)
  refine lv_iinc (lv' := [(4, .int (9 : Int32)), (1, .long (cdv 100 (cdv 100 (cdv 100 (cdv 100 (0 : Int64) (labs (cf 3))) (labs (cf 5))) (labs (cf 6))) (labs (cf 9)))), (3, .int (11 : Int32)), (0, .ref mi)]) (k := 1) (v := (9 : Int32)) hx hb d_MI_commonDivisor_38 hl rfl (by decide) (by decide) rfl (fun ls hl => ?_)
  refine lv_goto (tgt := 13) hx hb d_MI_commonDivisor_41 (by decide) ?_
  refine lv_iload hx hb d_MI_commonDivisor_13 (lv_at hl 0 rfl) ?_
  refine lv_iload_n hx hb d_MI_commonDivisor_15 rfl (lv_at hl 2 rfl) ?_
  refine lv_icmp_ge (tgt := 44) hx hb d_MI_commonDivisor_16 (by decide) (fun h99 => absurd h99 (by decide)) (fun _ => ?_)
  refine lv_lload_n hx hb d_MI_commonDivisor_19 rfl (lv_at hl 1 rfl) ?_
  refine lv_aload_n hx hb d_MI_commonDivisor_20 rfl (lv_at hl 3 rfl) ?_
  refine va_get (D := D) (ci := 2) (v := .ref cu) (C := cn_MI) (T := ft_MI) (N := 3) hx hb hf_MI (fun _ h => h) hown hK hP 1 rfl rfl 0 (by decide) (gw.at G hx0 mw_64 rfl _) (fun _ h9 => h9) rfl d_MI_commonDivisor_21 ?_
  refine va_getsN hx hb hZC hS hown (gw.at G hx0 mw_62 rfl _) (fun _ h9 => h9) d_MI_commonDivisor_24 ?_
  refine lv_iload hx hb d_MI_commonDivisor_27 (lv_at hl 0 rfl) ?_
  refine va_ti hx hb hTC hS (vp_in_iff.mpr (by decide)) (v := .int (10 : Int32)) (by decide) d_MI_commonDivisor_29 ?_
  refine va_lald hx hb hK hP 0 1 rfl rfl (vp_in_iff.mpr (by decide)) d_MI_commonDivisor_30 ?_
  refine tp_l (y := cf 10) (by rfl) ?_
  refine va_mabs_long hx hb (hml.trans hl.1.symm) hown (gw.at G hx0 mw_470 rfl _) (gw.at G hx0 mw_471 rfl _) (gw.at G hx0 mw_2 rfl _) (gw.at G hx0 mw_472 rfl _) (by decide) (Nat.le_of_ble_eq_true rfl) (by decide) (by decide) d_MI_commonDivisor_31 ?_
  refine tp_l (y := labs (cf 10)) rfl ?_
  refine cx_call (D := D) (cl := kl) (ws := _) (wc := []) (wr := [(cu, .inl (cJ, 16, .inr (.inl cf))), (mi, .inr (2, [.ref cu, .ref nx, .int (2 : Int32)]))]) (tx_runS (As := [.long (cdv 100 (cdv 100 (cdv 100 (cdv 100 (0 : Int64) (labs (cf 3))) (labs (cf 5))) (labs (cf 6))) (labs (cf 9))), .long (labs (cf 10))]) (rest := []) hx hb hml hown (c_MI_cdv E H.size (cdv 100 (cdv 100 (cdv 100 (cdv 100 (0 : Int64) (labs (cf 3))) (labs (cf 5))) (labs (cf 6))) (labs (cf 9))) (labs (cf 10)) ) (cx_C (b0 := b0) G hx0 mw_475 mw_4 ny_MI_commonDivisorOf (by decide)) (gw.at G hx0 mw_473 rfl _) (gw.at G hx0 mw_474 rfl _) (gw.at G hx0 mw_4 rfl _) ⟨cx_blind, (cx_pre (s := s) hx0 hP hD hS hA0 [] rfl rfl (by decide))⟩ rfl rfl hl.1 rfl (lv_room (Nat.le_of_ble_eq_true rfl)) d_MI_commonDivisor_34 ⟨by decide, by decide⟩) hP hD hS hA [] [0, 1] rfl rfl (by decide) (by decide) (fun v t w1 H locs ht hW9 hp hP hD hS => ?_) (fun x t w1 H locs ht hW9 hp hP hD hS => by obtain ⟨h9, -⟩ := hp; cases h9)
  obtain ⟨h9, rfl⟩ := hp
  cases h9
  refine W.eq (g2 := F0 m 37 ls [.long (cdv 100 (cdv 100 (cdv 100 (cdv 100 (cdv 100 (0 : Int64) (labs (cf 3))) (labs (cf 5))) (labs (cf 6))) (labs (cf 9))) (labs (cf 10)))]) rfl ?_
  refine W.widen (k := 0) (n := 0) (by decide) (by decide) ?_
  have hP : va_P D kl [(cu, .inl (cJ, 16, .inr (.inl cf))), (mi, .inr (2, [.ref cu, .ref nx, .int (2 : Int32)]))] H := hP
  have hD : va_D A [(cu, .inl (cJ, 16, .inr (.inl cf))), (mi, .inr (2, [.ref cu, .ref nx, .int (2 : Int32)]))] := hD
  refine lv_lstore_n (lv' := [(1, .long (cdv 100 (cdv 100 (cdv 100 (cdv 100 (cdv 100 (0 : Int64) (labs (cf 3))) (labs (cf 5))) (labs (cf 6))) (labs (cf 9))) (labs (cf 10)))), (4, .int (9 : Int32)), (3, .int (11 : Int32)), (0, .ref mi)]) hx hb d_MI_commonDivisor_37 rfl hl (by decide) rfl (fun ls hl => ?_)
  refine lv_iinc (lv' := [(4, .int (10 : Int32)), (1, .long (cdv 100 (cdv 100 (cdv 100 (cdv 100 (cdv 100 (0 : Int64) (labs (cf 3))) (labs (cf 5))) (labs (cf 6))) (labs (cf 9))) (labs (cf 10)))), (3, .int (11 : Int32)), (0, .ref mi)]) (k := 1) (v := (10 : Int32)) hx hb d_MI_commonDivisor_38 hl rfl (by decide) (by decide) rfl (fun ls hl => ?_)
  refine lv_goto (tgt := 13) hx hb d_MI_commonDivisor_41 (by decide) ?_
  refine lv_iload hx hb d_MI_commonDivisor_13 (lv_at hl 0 rfl) ?_
  refine lv_iload_n hx hb d_MI_commonDivisor_15 rfl (lv_at hl 2 rfl) ?_
  refine lv_icmp_ge (tgt := 44) hx hb d_MI_commonDivisor_16 (by decide) (fun h99 => absurd h99 (by decide)) (fun _ => ?_)
  refine lv_lload_n hx hb d_MI_commonDivisor_19 rfl (lv_at hl 1 rfl) ?_
  refine lv_aload_n hx hb d_MI_commonDivisor_20 rfl (lv_at hl 3 rfl) ?_
  refine va_get (D := D) (ci := 2) (v := .ref cu) (C := cn_MI) (T := ft_MI) (N := 3) hx hb hf_MI (fun _ h => h) hown hK hP 1 rfl rfl 0 (by decide) (gw.at G hx0 mw_64 rfl _) (fun _ h9 => h9) rfl d_MI_commonDivisor_21 ?_
  refine va_getsN hx hb hZC hS hown (gw.at G hx0 mw_62 rfl _) (fun _ h9 => h9) d_MI_commonDivisor_24 ?_
  refine lv_iload hx hb d_MI_commonDivisor_27 (lv_at hl 0 rfl) ?_
  refine va_ti hx hb hTC hS (vp_in_iff.mpr (by decide)) (v := .int (12 : Int32)) (by decide) d_MI_commonDivisor_29 ?_
  refine va_lald hx hb hK hP 0 1 rfl rfl (vp_in_iff.mpr (by decide)) d_MI_commonDivisor_30 ?_
  refine tp_l (y := cf 12) (by rfl) ?_
  refine va_mabs_long hx hb (hml.trans hl.1.symm) hown (gw.at G hx0 mw_470 rfl _) (gw.at G hx0 mw_471 rfl _) (gw.at G hx0 mw_2 rfl _) (gw.at G hx0 mw_472 rfl _) (by decide) (Nat.le_of_ble_eq_true rfl) (by decide) (by decide) d_MI_commonDivisor_31 ?_
  refine tp_l (y := labs (cf 12)) rfl ?_
  refine cx_call (D := D) (cl := kl) (ws := _) (wc := []) (wr := [(cu, .inl (cJ, 16, .inr (.inl cf))), (mi, .inr (2, [.ref cu, .ref nx, .int (2 : Int32)]))]) (tx_runS (As := [.long (cdv 100 (cdv 100 (cdv 100 (cdv 100 (cdv 100 (0 : Int64) (labs (cf 3))) (labs (cf 5))) (labs (cf 6))) (labs (cf 9))) (labs (cf 10))), .long (labs (cf 12))]) (rest := []) hx hb hml hown (c_MI_cdv E H.size (cdv 100 (cdv 100 (cdv 100 (cdv 100 (cdv 100 (0 : Int64) (labs (cf 3))) (labs (cf 5))) (labs (cf 6))) (labs (cf 9))) (labs (cf 10))) (labs (cf 12)) ) (cx_C (b0 := b0) G hx0 mw_475 mw_4 ny_MI_commonDivisorOf (by decide)) (gw.at G hx0 mw_473 rfl _) (gw.at G hx0 mw_474 rfl _) (gw.at G hx0 mw_4 rfl _) ⟨cx_blind, (cx_pre (s := s) hx0 hP hD hS hA0 [] rfl rfl (by decide))⟩ rfl rfl hl.1 rfl (lv_room (Nat.le_of_ble_eq_true rfl)) d_MI_commonDivisor_34 ⟨by decide, by decide⟩) hP hD hS hA [] [0, 1] rfl rfl (by decide) (by decide) (fun v t w1 H locs ht hW9 hp hP hD hS => ?_) (fun x t w1 H locs ht hW9 hp hP hD hS => by obtain ⟨h9, -⟩ := hp; cases h9)
  obtain ⟨h9, rfl⟩ := hp
  cases h9
  refine W.eq (g2 := F0 m 37 ls [.long (cdv 100 (cdv 100 (cdv 100 (cdv 100 (cdv 100 (cdv 100 (0 : Int64) (labs (cf 3))) (labs (cf 5))) (labs (cf 6))) (labs (cf 9))) (labs (cf 10))) (labs (cf 12)))]) rfl ?_
  refine W.widen (k := 0) (n := 0) (by decide) (by decide) ?_
  have hP : va_P D kl [(cu, .inl (cJ, 16, .inr (.inl cf))), (mi, .inr (2, [.ref cu, .ref nx, .int (2 : Int32)]))] H := hP
  have hD : va_D A [(cu, .inl (cJ, 16, .inr (.inl cf))), (mi, .inr (2, [.ref cu, .ref nx, .int (2 : Int32)]))] := hD
  refine lv_lstore_n (lv' := [(1, .long (cdv 100 (cdv 100 (cdv 100 (cdv 100 (cdv 100 (cdv 100 (0 : Int64) (labs (cf 3))) (labs (cf 5))) (labs (cf 6))) (labs (cf 9))) (labs (cf 10))) (labs (cf 12)))), (4, .int (10 : Int32)), (3, .int (11 : Int32)), (0, .ref mi)]) hx hb d_MI_commonDivisor_37 rfl hl (by decide) rfl (fun ls hl => ?_)
  refine lv_iinc (lv' := [(4, .int (11 : Int32)), (1, .long (cdv 100 (cdv 100 (cdv 100 (cdv 100 (cdv 100 (cdv 100 (0 : Int64) (labs (cf 3))) (labs (cf 5))) (labs (cf 6))) (labs (cf 9))) (labs (cf 10))) (labs (cf 12)))), (3, .int (11 : Int32)), (0, .ref mi)]) (k := 1) (v := (11 : Int32)) hx hb d_MI_commonDivisor_38 hl rfl (by decide) (by decide) rfl (fun ls hl => ?_)
  refine lv_goto (tgt := 13) hx hb d_MI_commonDivisor_41 (by decide) ?_
  refine lv_iload hx hb d_MI_commonDivisor_13 (lv_at hl 0 rfl) ?_
  refine lv_iload_n hx hb d_MI_commonDivisor_15 rfl (lv_at hl 2 rfl) ?_
  refine lv_icmp_ge (tgt := 44) hx hb d_MI_commonDivisor_16 (by decide) (fun _ => ?_) (fun h99 => absurd h99 (by decide))
  refine lv_lload_n hx hb d_MI_commonDivisor_44 rfl (lv_at hl 1 rfl) ?_
  exact tx_mono (fun _ h => tx_Z.of h) (W.lret (v := cdv 100 (cdv 100 (cdv 100 (cdv 100 (cdv 100 (cdv 100 (0 : Int64) (labs (cf 3))) (labs (cf 5))) (labs (cf 6))) (labs (cf 9))) (labs (cf 10))) (labs (cf 12))) hx hb hr (fun t ht hW => ⟨⟨[(mi, .inr (2, [.ref cu, .ref nx, .int (2 : Int32)])), (cu, .inl (cJ, 16, .inr (.inl cf)))], ⟨rfl, rfl⟩, by rw [ht]; exact hP.sub [1, 0] rfl, hD.sub [1, 0] (by decide) rfl⟩, hS.F ht⟩) hS.2.2 d_MI_commonDivisor_45)

set_option maxHeartbeats 4000000 in
set_option maxRecDepth 100000 in
theorem c_MI_firstChoice3 {l : Launch} {s0 : State} {b0 : Addr} {D : va_G} {cI cJ cZ : ClassId} {tC tS : Nat} (E : gE l s0 b0 D cI cJ cZ tC tS) (sz : Nat) (mi : Nat) (cu : Nat) (nx : Nat) : cx_M l s0 D kl y_MI_firstChoice b_MI_firstChoice 1 (some .int) ({ frames := 0, cells := 0, slots := 0, locals := 0 } : Room) 0 0 [.ref mi] [(mi, .inr (2, [.ref cu, .ref nx, .int (3 : Int32)]))] sz (fun o9 _ w9 => o9 = .returned (some (.int (11 : Int32))) ∧ w9 = [(mi, .inr (2, [.ref cu, .ref nx, .int (3 : Int32)]))]) := by
  refine tx_ofW (cc := b_MI_firstChoice) (maxL := 1) (ret := (some .int)) (by decide) rfl ?_
  intro p e s m args below meth c s₁ B hml hT hv
  obtain ⟨rfl, hsz, hP, hD0, hx0⟩ := hv
  have hx := B.exec
  have hb := B.bytes
  have hr := B.returns
  have G := E.2.1
  have hown : s.vm.findClass cn_MI = some m.cls := findClass_of_methodNamed B.named
  have hlocks := B.notSynchronized
  have hK := va_K.moved hx0.1.alike E.2.2.1
  have hf_MI : ∀ w99 ∈ u_ws cn_MI ft_MI 3, w99.before ([.ref mi] : List Value).toArray s = true := fun w99 h99 => gw.at G hx0 (fw_MI w99 h99) (fo_MI w99 h99) _
  subst hsz
  have hA0 := cx_new hD0 hx0.2.1
  have hD := hD0.self (sz := s.heap.size)
  generalize hAe : va_A [(mi, .inr (2, [.ref cu, .ref nx, .int (3 : Int32)]))] s.heap.size = A at hD hA0 ⊢
  have hA : ∀ q : Nat, s.heap.size ≤ q → A q := fun q h => by rw [← hAe]; exact Or.inr h
  have hS : va_S A s.heap s.heap [] := va_S.rf
  obtain ⟨hZC, hTC, hZS, hTS⟩ := gz.at E.2.2.2.1 hx0 hA0
  have hl := lv_entry ([.ref mi]) (n := 1) (Nat.le_of_ble_eq_true rfl)
  rw [lg_entry_eq]
  generalize (lg_sl ([.ref mi]) ++ List.replicate (1 - (lg_sl ([.ref mi])).length) Slot.unset).toArray = ls at hl ⊢
  have hl : lv_has ls 1 [(0, .ref mi)] := hl
  have hP : va_P D kl [(mi, .inr (2, [.ref cu, .ref nx, .int (3 : Int32)]))] s.heap := hP
  have hml : c.maxLocals = 1 := hml
  refine va_getsN hx hb hZS hS hown (gw.at G hx0 mw_377 rfl _) (fun _ h9 => h9) d_MI_firstChoice_0 ?_
  refine lv_aload_n hx hb d_MI_firstChoice_3 rfl (lv_at hl 0 rfl) ?_
  refine va_get (D := D) (ci := 2) (v := .int (3 : Int32)) (C := cn_MI) (T := ft_MI) (N := 3) hx hb hf_MI (fun _ h => h) hown hK hP 0 rfl rfl 2 (by decide) (gw.at G hx0 mw_66 rfl _) (fun _ h9 => h9) rfl d_MI_firstChoice_4 ?_
  refine va_ti hx hb hTS hS (vp_in_iff.mpr (by decide)) (v := .int (11 : Int32)) (by decide) d_MI_firstChoice_7 ?_
  exact tx_mono (fun _ h => tx_Z.of h) (W.iret (v := (11 : Int32)) hx hb hr (fun t ht hW => ⟨⟨[(mi, .inr (2, [.ref cu, .ref nx, .int (3 : Int32)]))], ⟨rfl, rfl⟩, by rw [ht]; exact hP.sub [0] rfl, hD.sub [0] (by decide) rfl⟩, hS.F ht⟩) hS.2.2 d_MI_firstChoice_8)

set_option maxHeartbeats 4000000 in
set_option maxRecDepth 100000 in
theorem c_MI_endOfChoices3 {l : Launch} {s0 : State} {b0 : Addr} {D : va_G} {cI cJ cZ : ClassId} {tC tS : Nat} (E : gE l s0 b0 D cI cJ cZ tC tS) (sz : Nat) (mi : Nat) (cu : Nat) (nx : Nat) : cx_M l s0 D kl y_MI_endOfChoices b_MI_endOfChoices 1 (some .int) ({ frames := 0, cells := 0, slots := 0, locals := 0 } : Room) 0 0 [.ref mi] [(mi, .inr (2, [.ref cu, .ref nx, .int (3 : Int32)]))] sz (fun o9 _ w9 => o9 = .returned (some (.int (15 : Int32))) ∧ w9 = [(mi, .inr (2, [.ref cu, .ref nx, .int (3 : Int32)]))]) := by
  refine tx_ofW (cc := b_MI_endOfChoices) (maxL := 1) (ret := (some .int)) (by decide) rfl ?_
  intro p e s m args below meth c s₁ B hml hT hv
  obtain ⟨rfl, hsz, hP, hD0, hx0⟩ := hv
  have hx := B.exec
  have hb := B.bytes
  have hr := B.returns
  have G := E.2.1
  have hown : s.vm.findClass cn_MI = some m.cls := findClass_of_methodNamed B.named
  have hlocks := B.notSynchronized
  have hK := va_K.moved hx0.1.alike E.2.2.1
  have hf_MI : ∀ w99 ∈ u_ws cn_MI ft_MI 3, w99.before ([.ref mi] : List Value).toArray s = true := fun w99 h99 => gw.at G hx0 (fw_MI w99 h99) (fo_MI w99 h99) _
  subst hsz
  have hA0 := cx_new hD0 hx0.2.1
  have hD := hD0.self (sz := s.heap.size)
  generalize hAe : va_A [(mi, .inr (2, [.ref cu, .ref nx, .int (3 : Int32)]))] s.heap.size = A at hD hA0 ⊢
  have hA : ∀ q : Nat, s.heap.size ≤ q → A q := fun q h => by rw [← hAe]; exact Or.inr h
  have hS : va_S A s.heap s.heap [] := va_S.rf
  obtain ⟨hZC, hTC, hZS, hTS⟩ := gz.at E.2.2.2.1 hx0 hA0
  have hl := lv_entry ([.ref mi]) (n := 1) (Nat.le_of_ble_eq_true rfl)
  rw [lg_entry_eq]
  generalize (lg_sl ([.ref mi]) ++ List.replicate (1 - (lg_sl ([.ref mi])).length) Slot.unset).toArray = ls at hl ⊢
  have hl : lv_has ls 1 [(0, .ref mi)] := hl
  have hP : va_P D kl [(mi, .inr (2, [.ref cu, .ref nx, .int (3 : Int32)]))] s.heap := hP
  have hml : c.maxLocals = 1 := hml
  refine va_getsN hx hb hZS hS hown (gw.at G hx0 mw_377 rfl _) (fun _ h9 => h9) d_MI_endOfChoices_0 ?_
  refine lv_aload_n hx hb d_MI_endOfChoices_3 rfl (lv_at hl 0 rfl) ?_
  refine va_get (D := D) (ci := 2) (v := .int (3 : Int32)) (C := cn_MI) (T := ft_MI) (N := 3) hx hb hf_MI (fun _ h => h) hown hK hP 0 rfl rfl 2 (by decide) (gw.at G hx0 mw_66 rfl _) (fun _ h9 => h9) rfl d_MI_endOfChoices_4 ?_
  refine lv_iconst (v := (1 : Int32)) hx hb d_MI_endOfChoices_7 (by decide) ?_
  refine lv_iadd hx hb d_MI_endOfChoices_8 ?_
  refine tp_i (y := (4 : Int32)) (by decide) ?_
  refine va_ti hx hb hTS hS (vp_in_iff.mpr (by decide)) (v := .int (15 : Int32)) (by decide) d_MI_endOfChoices_9 ?_
  exact tx_mono (fun _ h => tx_Z.of h) (W.iret (v := (15 : Int32)) hx hb hr (fun t ht hW => ⟨⟨[(mi, .inr (2, [.ref cu, .ref nx, .int (3 : Int32)]))], ⟨rfl, rfl⟩, by rw [ht]; exact hP.sub [0] rfl, hD.sub [0] (by decide) rfl⟩, hS.F ht⟩) hS.2.2 d_MI_endOfChoices_10)

set_option maxHeartbeats 4000000 in
set_option maxRecDepth 100000 in
theorem c_MI_comdiv3 {l : Launch} {s0 : State} {b0 : Addr} {D : va_G} {cI cJ cZ : ClassId} {tC tS : Nat} (E : gE l s0 b0 D cI cJ cZ tC tS) (sz : Nat) (mi : Nat) (cu : Nat) (nx : Nat) (cf : Nat → Int64) : cx_M l s0 D kl y_MI_commonDivisor b_MI_commonDivisor 5 (some .long) ({ frames := 1, cells := 0, slots := 0, locals := 30 } : Room) 0 0 [.ref mi] [(mi, .inr (2, [.ref cu, .ref nx, .int (3 : Int32)])), (cu, .inl (cJ, 16, .inr (.inl cf)))] sz (fun o9 _ w9 => o9 = .returned (some (.long (cdl cf (lev 3)))) ∧ w9 = [(mi, .inr (2, [.ref cu, .ref nx, .int (3 : Int32)])), (cu, .inl (cJ, 16, .inr (.inl cf)))]) := by
  refine tx_ofW (cc := b_MI_commonDivisor) (maxL := 5) (ret := (some .long)) (by decide) rfl ?_
  intro p e s m args below meth c s₁ B hml hT hv
  obtain ⟨rfl, hsz, hP, hD0, hx0⟩ := hv
  have hx := B.exec
  have hb := B.bytes
  have hr := B.returns
  have G := E.2.1
  have hown : s.vm.findClass cn_MI = some m.cls := findClass_of_methodNamed B.named
  have hlocks := B.notSynchronized
  have hK := va_K.moved hx0.1.alike E.2.2.1
  have hf_MI : ∀ w99 ∈ u_ws cn_MI ft_MI 3, w99.before ([.ref mi] : List Value).toArray s = true := fun w99 h99 => gw.at G hx0 (fw_MI w99 h99) (fo_MI w99 h99) _
  subst hsz
  have hA0 := cx_new hD0 hx0.2.1
  have hD := hD0.self (sz := s.heap.size)
  generalize hAe : va_A [(mi, .inr (2, [.ref cu, .ref nx, .int (3 : Int32)])), (cu, .inl (cJ, 16, .inr (.inl cf)))] s.heap.size = A at hD hA0 ⊢
  have hA : ∀ q : Nat, s.heap.size ≤ q → A q := fun q h => by rw [← hAe]; exact Or.inr h
  have hS : va_S A s.heap s.heap [] := va_S.rf
  obtain ⟨hZC, hTC, hZS, hTS⟩ := gz.at E.2.2.2.1 hx0 hA0
  have hl := lv_entry ([.ref mi]) (n := 5) (Nat.le_of_ble_eq_true rfl)
  rw [lg_entry_eq]
  generalize (lg_sl ([.ref mi]) ++ List.replicate (5 - (lg_sl ([.ref mi])).length) Slot.unset).toArray = ls at hl ⊢
  have hl : lv_has ls 5 [(0, .ref mi)] := hl
  have hP : va_P D kl [(mi, .inr (2, [.ref cu, .ref nx, .int (3 : Int32)])), (cu, .inl (cJ, 16, .inr (.inl cf)))] s.heap := hP
  have hml : c.maxLocals = 5 := hml
  refine lv_lconst (v := (0 : Int64)) hx hb d_MI_commonDivisor_0 (by decide) ?_
  refine lv_lstore_n (lv' := [(1, .long (0 : Int64)), (0, .ref mi)]) hx hb d_MI_commonDivisor_1 rfl hl (by decide) rfl (fun ls hl => ?_)
  refine lv_aload_n hx hb d_MI_commonDivisor_2 rfl (lv_at hl 1 rfl) ?_
  refine cx_call (D := D) (cl := kl) (ws := _) (wc := [(mi, .inr (2, [.ref cu, .ref nx, .int (3 : Int32)]))]) (wr := [(cu, .inl (cJ, 16, .inr (.inl cf)))]) (tx_runV (C := cn_MI) (b := mi) (As := []) (rest := []) hx hb hml hown (c_MI_endOfChoices3 E s.heap.size mi cu nx ) (cx_C (b0 := b0) G hx0 mw_465 mw_4 ny_MI_endOfChoices (by decide)) (gw.at G hx0 mw_462 rfl _) (gw.at G hx0 mw_463 rfl _) (gw.at G hx0 mw_464 rfl _) ⟨cx_blind, va_recv hK hP (q0 := 0) (ci := 2) (q := (cn_MI, ft_MI, 3)) rfl rfl, (cx_pre (s := s) hx0 hP hD hS hA0 [0] rfl rfl (by decide))⟩ rfl rfl hl.1 rfl (lv_room (Nat.le_of_ble_eq_true rfl)) d_MI_commonDivisor_3 ⟨by decide, by decide⟩) hP hD hS hA [0] [1] rfl rfl (by decide) (by decide) (fun v t w1 H locs ht hW9 hp hP hD hS => ?_) (fun x t w1 H locs ht hW9 hp hP hD hS => by obtain ⟨h9, -⟩ := hp; cases h9)
  obtain ⟨h9, rfl⟩ := hp
  cases h9
  refine W.eq (g2 := F0 m 6 ls [.int (15 : Int32)]) rfl ?_
  refine W.widen (k := 0) (n := 0) (by decide) (by decide) ?_
  have hP : va_P D kl [(cu, .inl (cJ, 16, .inr (.inl cf))), (mi, .inr (2, [.ref cu, .ref nx, .int (3 : Int32)]))] H := hP
  have hD : va_D A [(cu, .inl (cJ, 16, .inr (.inl cf))), (mi, .inr (2, [.ref cu, .ref nx, .int (3 : Int32)]))] := hD
  refine lv_istore_n (lv' := [(3, .int (15 : Int32)), (1, .long (0 : Int64)), (0, .ref mi)]) hx hb d_MI_commonDivisor_6 rfl hl (by decide) rfl (fun ls hl => ?_)
  refine lv_aload_n hx hb d_MI_commonDivisor_7 rfl (lv_at hl 2 rfl) ?_
  refine cx_call (D := D) (cl := kl) (ws := _) (wc := [(mi, .inr (2, [.ref cu, .ref nx, .int (3 : Int32)]))]) (wr := [(cu, .inl (cJ, 16, .inr (.inl cf)))]) (tx_runV (C := cn_MI) (b := mi) (As := []) (rest := []) hx hb hml hown (c_MI_firstChoice3 E H.size mi cu nx ) (cx_C (b0 := b0) G hx0 mw_469 mw_4 ny_MI_firstChoice (by decide)) (gw.at G hx0 mw_466 rfl _) (gw.at G hx0 mw_467 rfl _) (gw.at G hx0 mw_468 rfl _) ⟨cx_blind, va_recv hK hP (q0 := 1) (ci := 2) (q := (cn_MI, ft_MI, 3)) rfl rfl, (cx_pre (s := s) hx0 hP hD hS hA0 [1] rfl rfl (by decide))⟩ rfl rfl hl.1 rfl (lv_room (Nat.le_of_ble_eq_true rfl)) d_MI_commonDivisor_8 ⟨by decide, by decide⟩) hP hD hS hA [1] [0] rfl rfl (by decide) (by decide) (fun v t w1 H locs ht hW9 hp hP hD hS => ?_) (fun x t w1 H locs ht hW9 hp hP hD hS => by obtain ⟨h9, -⟩ := hp; cases h9)
  obtain ⟨h9, rfl⟩ := hp
  cases h9
  refine W.eq (g2 := F0 m 11 ls [.int (11 : Int32)]) rfl ?_
  refine W.widen (k := 0) (n := 0) (by decide) (by decide) ?_
  have hP : va_P D kl [(cu, .inl (cJ, 16, .inr (.inl cf))), (mi, .inr (2, [.ref cu, .ref nx, .int (3 : Int32)]))] H := hP
  have hD : va_D A [(cu, .inl (cJ, 16, .inr (.inl cf))), (mi, .inr (2, [.ref cu, .ref nx, .int (3 : Int32)]))] := hD
  refine lv_istore (lv' := [(4, .int (11 : Int32)), (3, .int (15 : Int32)), (1, .long (0 : Int64)), (0, .ref mi)]) hx hb d_MI_commonDivisor_11 hl (by decide) rfl (fun ls hl => ?_)
  refine lv_iload hx hb d_MI_commonDivisor_13 (lv_at hl 0 rfl) ?_
  refine lv_iload_n hx hb d_MI_commonDivisor_15 rfl (lv_at hl 1 rfl) ?_
  refine lv_icmp_ge (tgt := 44) hx hb d_MI_commonDivisor_16 (by decide) (fun h99 => absurd h99 (by decide)) (fun _ => ?_)
  refine lv_lload_n hx hb d_MI_commonDivisor_19 rfl (lv_at hl 2 rfl) ?_
  refine lv_aload_n hx hb d_MI_commonDivisor_20 rfl (lv_at hl 3 rfl) ?_
  refine va_get (D := D) (ci := 2) (v := .ref cu) (C := cn_MI) (T := ft_MI) (N := 3) hx hb hf_MI (fun _ h => h) hown hK hP 1 rfl rfl 0 (by decide) (gw.at G hx0 mw_64 rfl _) (fun _ h9 => h9) rfl d_MI_commonDivisor_21 ?_
  refine va_getsN hx hb hZC hS hown (gw.at G hx0 mw_62 rfl _) (fun _ h9 => h9) d_MI_commonDivisor_24 ?_
  refine lv_iload hx hb d_MI_commonDivisor_27 (lv_at hl 0 rfl) ?_
  refine va_ti hx hb hTC hS (vp_in_iff.mpr (by decide)) (v := .int (7 : Int32)) (by decide) d_MI_commonDivisor_29 ?_
  refine va_lald hx hb hK hP 0 1 rfl rfl (vp_in_iff.mpr (by decide)) d_MI_commonDivisor_30 ?_
  refine tp_l (y := cf 7) (by rfl) ?_
  refine va_mabs_long hx hb (hml.trans hl.1.symm) hown (gw.at G hx0 mw_470 rfl _) (gw.at G hx0 mw_471 rfl _) (gw.at G hx0 mw_2 rfl _) (gw.at G hx0 mw_472 rfl _) (by decide) (Nat.le_of_ble_eq_true rfl) (by decide) (by decide) d_MI_commonDivisor_31 ?_
  refine tp_l (y := labs (cf 7)) rfl ?_
  refine cx_call (D := D) (cl := kl) (ws := _) (wc := []) (wr := [(cu, .inl (cJ, 16, .inr (.inl cf))), (mi, .inr (2, [.ref cu, .ref nx, .int (3 : Int32)]))]) (tx_runS (As := [.long (0 : Int64), .long (labs (cf 7))]) (rest := []) hx hb hml hown (c_MI_cdv E H.size (0 : Int64) (labs (cf 7)) ) (cx_C (b0 := b0) G hx0 mw_475 mw_4 ny_MI_commonDivisorOf (by decide)) (gw.at G hx0 mw_473 rfl _) (gw.at G hx0 mw_474 rfl _) (gw.at G hx0 mw_4 rfl _) ⟨cx_blind, (cx_pre (s := s) hx0 hP hD hS hA0 [] rfl rfl (by decide))⟩ rfl rfl hl.1 rfl (lv_room (Nat.le_of_ble_eq_true rfl)) d_MI_commonDivisor_34 ⟨by decide, by decide⟩) hP hD hS hA [] [0, 1] rfl rfl (by decide) (by decide) (fun v t w1 H locs ht hW9 hp hP hD hS => ?_) (fun x t w1 H locs ht hW9 hp hP hD hS => by obtain ⟨h9, -⟩ := hp; cases h9)
  obtain ⟨h9, rfl⟩ := hp
  cases h9
  refine W.eq (g2 := F0 m 37 ls [.long (cdv 100 (0 : Int64) (labs (cf 7)))]) rfl ?_
  refine W.widen (k := 0) (n := 0) (by decide) (by decide) ?_
  have hP : va_P D kl [(cu, .inl (cJ, 16, .inr (.inl cf))), (mi, .inr (2, [.ref cu, .ref nx, .int (3 : Int32)]))] H := hP
  have hD : va_D A [(cu, .inl (cJ, 16, .inr (.inl cf))), (mi, .inr (2, [.ref cu, .ref nx, .int (3 : Int32)]))] := hD
  refine lv_lstore_n (lv' := [(1, .long (cdv 100 (0 : Int64) (labs (cf 7)))), (4, .int (11 : Int32)), (3, .int (15 : Int32)), (0, .ref mi)]) hx hb d_MI_commonDivisor_37 rfl hl (by decide) rfl (fun ls hl => ?_)
  refine lv_iinc (lv' := [(4, .int (12 : Int32)), (1, .long (cdv 100 (0 : Int64) (labs (cf 7)))), (3, .int (15 : Int32)), (0, .ref mi)]) (k := 1) (v := (12 : Int32)) hx hb d_MI_commonDivisor_38 hl rfl (by decide) (by decide) rfl (fun ls hl => ?_)
  refine lv_goto (tgt := 13) hx hb d_MI_commonDivisor_41 (by decide) ?_
  refine lv_iload hx hb d_MI_commonDivisor_13 (lv_at hl 0 rfl) ?_
  refine lv_iload_n hx hb d_MI_commonDivisor_15 rfl (lv_at hl 2 rfl) ?_
  refine lv_icmp_ge (tgt := 44) hx hb d_MI_commonDivisor_16 (by decide) (fun h99 => absurd h99 (by decide)) (fun _ => ?_)
  refine lv_lload_n hx hb d_MI_commonDivisor_19 rfl (lv_at hl 1 rfl) ?_
  refine lv_aload_n hx hb d_MI_commonDivisor_20 rfl (lv_at hl 3 rfl) ?_
  refine va_get (D := D) (ci := 2) (v := .ref cu) (C := cn_MI) (T := ft_MI) (N := 3) hx hb hf_MI (fun _ h => h) hown hK hP 1 rfl rfl 0 (by decide) (gw.at G hx0 mw_64 rfl _) (fun _ h9 => h9) rfl d_MI_commonDivisor_21 ?_
  refine va_getsN hx hb hZC hS hown (gw.at G hx0 mw_62 rfl _) (fun _ h9 => h9) d_MI_commonDivisor_24 ?_
  refine lv_iload hx hb d_MI_commonDivisor_27 (lv_at hl 0 rfl) ?_
  refine va_ti hx hb hTC hS (vp_in_iff.mpr (by decide)) (v := .int (11 : Int32)) (by decide) d_MI_commonDivisor_29 ?_
  refine va_lald hx hb hK hP 0 1 rfl rfl (vp_in_iff.mpr (by decide)) d_MI_commonDivisor_30 ?_
  refine tp_l (y := cf 11) (by rfl) ?_
  refine va_mabs_long hx hb (hml.trans hl.1.symm) hown (gw.at G hx0 mw_470 rfl _) (gw.at G hx0 mw_471 rfl _) (gw.at G hx0 mw_2 rfl _) (gw.at G hx0 mw_472 rfl _) (by decide) (Nat.le_of_ble_eq_true rfl) (by decide) (by decide) d_MI_commonDivisor_31 ?_
  refine tp_l (y := labs (cf 11)) rfl ?_
  refine cx_call (D := D) (cl := kl) (ws := _) (wc := []) (wr := [(cu, .inl (cJ, 16, .inr (.inl cf))), (mi, .inr (2, [.ref cu, .ref nx, .int (3 : Int32)]))]) (tx_runS (As := [.long (cdv 100 (0 : Int64) (labs (cf 7))), .long (labs (cf 11))]) (rest := []) hx hb hml hown (c_MI_cdv E H.size (cdv 100 (0 : Int64) (labs (cf 7))) (labs (cf 11)) ) (cx_C (b0 := b0) G hx0 mw_475 mw_4 ny_MI_commonDivisorOf (by decide)) (gw.at G hx0 mw_473 rfl _) (gw.at G hx0 mw_474 rfl _) (gw.at G hx0 mw_4 rfl _) ⟨cx_blind, (cx_pre (s := s) hx0 hP hD hS hA0 [] rfl rfl (by decide))⟩ rfl rfl hl.1 rfl (lv_room (Nat.le_of_ble_eq_true rfl)) d_MI_commonDivisor_34 ⟨by decide, by decide⟩) hP hD hS hA [] [0, 1] rfl rfl (by decide) (by decide) (fun v t w1 H locs ht hW9 hp hP hD hS => ?_) (fun x t w1 H locs ht hW9 hp hP hD hS => by obtain ⟨h9, -⟩ := hp; cases h9)
  obtain ⟨h9, rfl⟩ := hp
  cases h9
  refine W.eq (g2 := F0 m 37 ls [.long (cdv 100 (cdv 100 (0 : Int64) (labs (cf 7))) (labs (cf 11)))]) rfl ?_
  refine W.widen (k := 0) (n := 0) (by decide) (by decide) ?_
  have hP : va_P D kl [(cu, .inl (cJ, 16, .inr (.inl cf))), (mi, .inr (2, [.ref cu, .ref nx, .int (3 : Int32)]))] H := hP
  have hD : va_D A [(cu, .inl (cJ, 16, .inr (.inl cf))), (mi, .inr (2, [.ref cu, .ref nx, .int (3 : Int32)]))] := hD
  refine lv_lstore_n (lv' := [(1, .long (cdv 100 (cdv 100 (0 : Int64) (labs (cf 7))) (labs (cf 11)))), (4, .int (12 : Int32)), (3, .int (15 : Int32)), (0, .ref mi)]) hx hb d_MI_commonDivisor_37 rfl hl (by decide) rfl (fun ls hl => ?_)
  refine lv_iinc (lv' := [(4, .int (13 : Int32)), (1, .long (cdv 100 (cdv 100 (0 : Int64) (labs (cf 7))) (labs (cf 11)))), (3, .int (15 : Int32)), (0, .ref mi)]) (k := 1) (v := (13 : Int32)) hx hb d_MI_commonDivisor_38 hl rfl (by decide) (by decide) rfl (fun ls hl => ?_)
  refine lv_goto (tgt := 13) hx hb d_MI_commonDivisor_41 (by decide) ?_
  refine lv_iload hx hb d_MI_commonDivisor_13 (lv_at hl 0 rfl) ?_
  refine lv_iload_n hx hb d_MI_commonDivisor_15 rfl (lv_at hl 2 rfl) ?_
  refine lv_icmp_ge (tgt := 44) hx hb d_MI_commonDivisor_16 (by decide) (fun h99 => absurd h99 (by decide)) (fun _ => ?_)
  refine lv_lload_n hx hb d_MI_commonDivisor_19 rfl (lv_at hl 1 rfl) ?_
  refine lv_aload_n hx hb d_MI_commonDivisor_20 rfl (lv_at hl 3 rfl) ?_
  refine va_get (D := D) (ci := 2) (v := .ref cu) (C := cn_MI) (T := ft_MI) (N := 3) hx hb hf_MI (fun _ h => h) hown hK hP 1 rfl rfl 0 (by decide) (gw.at G hx0 mw_64 rfl _) (fun _ h9 => h9) rfl d_MI_commonDivisor_21 ?_
  refine va_getsN hx hb hZC hS hown (gw.at G hx0 mw_62 rfl _) (fun _ h9 => h9) d_MI_commonDivisor_24 ?_
  refine lv_iload hx hb d_MI_commonDivisor_27 (lv_at hl 0 rfl) ?_
  refine va_ti hx hb hTC hS (vp_in_iff.mpr (by decide)) (v := .int (13 : Int32)) (by decide) d_MI_commonDivisor_29 ?_
  refine va_lald hx hb hK hP 0 1 rfl rfl (vp_in_iff.mpr (by decide)) d_MI_commonDivisor_30 ?_
  refine tp_l (y := cf 13) (by rfl) ?_
  refine va_mabs_long hx hb (hml.trans hl.1.symm) hown (gw.at G hx0 mw_470 rfl _) (gw.at G hx0 mw_471 rfl _) (gw.at G hx0 mw_2 rfl _) (gw.at G hx0 mw_472 rfl _) (by decide) (Nat.le_of_ble_eq_true rfl) (by decide) (by decide) d_MI_commonDivisor_31 ?_
  refine tp_l (y := labs (cf 13)) rfl ?_
  refine cx_call (D := D) (cl := kl) (ws := _) (wc := []) (wr := [(cu, .inl (cJ, 16, .inr (.inl cf))), (mi, .inr (2, [.ref cu, .ref nx, .int (3 : Int32)]))]) (tx_runS (As := [.long (cdv 100 (cdv 100 (0 : Int64) (labs (cf 7))) (labs (cf 11))), .long (labs (cf 13))]) (rest := []) hx hb hml hown (c_MI_cdv E H.size (cdv 100 (cdv 100 (0 : Int64) (labs (cf 7))) (labs (cf 11))) (labs (cf 13)) ) (cx_C (b0 := b0) G hx0 mw_475 mw_4 ny_MI_commonDivisorOf (by decide)) (gw.at G hx0 mw_473 rfl _) (gw.at G hx0 mw_474 rfl _) (gw.at G hx0 mw_4 rfl _) ⟨cx_blind, (cx_pre (s := s) hx0 hP hD hS hA0 [] rfl rfl (by decide))⟩ rfl rfl hl.1 rfl (lv_room (Nat.le_of_ble_eq_true rfl)) d_MI_commonDivisor_34 ⟨by decide, by decide⟩) hP hD hS hA [] [0, 1] rfl rfl (by decide) (by decide) (fun v t w1 H locs ht hW9 hp hP hD hS => ?_) (fun x t w1 H locs ht hW9 hp hP hD hS => by obtain ⟨h9, -⟩ := hp; cases h9)
  obtain ⟨h9, rfl⟩ := hp
  cases h9
  refine W.eq (g2 := F0 m 37 ls [.long (cdv 100 (cdv 100 (cdv 100 (0 : Int64) (labs (cf 7))) (labs (cf 11))) (labs (cf 13)))]) rfl ?_
  refine W.widen (k := 0) (n := 0) (by decide) (by decide) ?_
  have hP : va_P D kl [(cu, .inl (cJ, 16, .inr (.inl cf))), (mi, .inr (2, [.ref cu, .ref nx, .int (3 : Int32)]))] H := hP
  have hD : va_D A [(cu, .inl (cJ, 16, .inr (.inl cf))), (mi, .inr (2, [.ref cu, .ref nx, .int (3 : Int32)]))] := hD
  refine lv_lstore_n (lv' := [(1, .long (cdv 100 (cdv 100 (cdv 100 (0 : Int64) (labs (cf 7))) (labs (cf 11))) (labs (cf 13)))), (4, .int (13 : Int32)), (3, .int (15 : Int32)), (0, .ref mi)]) hx hb d_MI_commonDivisor_37 rfl hl (by decide) rfl (fun ls hl => ?_)
  refine lv_iinc (lv' := [(4, .int (14 : Int32)), (1, .long (cdv 100 (cdv 100 (cdv 100 (0 : Int64) (labs (cf 7))) (labs (cf 11))) (labs (cf 13)))), (3, .int (15 : Int32)), (0, .ref mi)]) (k := 1) (v := (14 : Int32)) hx hb d_MI_commonDivisor_38 hl rfl (by decide) (by decide) rfl (fun ls hl => ?_)
  refine lv_goto (tgt := 13) hx hb d_MI_commonDivisor_41 (by decide) ?_
  refine lv_iload hx hb d_MI_commonDivisor_13 (lv_at hl 0 rfl) ?_
  refine lv_iload_n hx hb d_MI_commonDivisor_15 rfl (lv_at hl 2 rfl) ?_
  refine lv_icmp_ge (tgt := 44) hx hb d_MI_commonDivisor_16 (by decide) (fun h99 => absurd h99 (by decide)) (fun _ => ?_)
  refine lv_lload_n hx hb d_MI_commonDivisor_19 rfl (lv_at hl 1 rfl) ?_
  refine lv_aload_n hx hb d_MI_commonDivisor_20 rfl (lv_at hl 3 rfl) ?_
  refine va_get (D := D) (ci := 2) (v := .ref cu) (C := cn_MI) (T := ft_MI) (N := 3) hx hb hf_MI (fun _ h => h) hown hK hP 1 rfl rfl 0 (by decide) (gw.at G hx0 mw_64 rfl _) (fun _ h9 => h9) rfl d_MI_commonDivisor_21 ?_
  refine va_getsN hx hb hZC hS hown (gw.at G hx0 mw_62 rfl _) (fun _ h9 => h9) d_MI_commonDivisor_24 ?_
  refine lv_iload hx hb d_MI_commonDivisor_27 (lv_at hl 0 rfl) ?_
  refine va_ti hx hb hTC hS (vp_in_iff.mpr (by decide)) (v := .int (14 : Int32)) (by decide) d_MI_commonDivisor_29 ?_
  refine va_lald hx hb hK hP 0 1 rfl rfl (vp_in_iff.mpr (by decide)) d_MI_commonDivisor_30 ?_
  refine tp_l (y := cf 14) (by rfl) ?_
  refine va_mabs_long hx hb (hml.trans hl.1.symm) hown (gw.at G hx0 mw_470 rfl _) (gw.at G hx0 mw_471 rfl _) (gw.at G hx0 mw_2 rfl _) (gw.at G hx0 mw_472 rfl _) (by decide) (Nat.le_of_ble_eq_true rfl) (by decide) (by decide) d_MI_commonDivisor_31 ?_
  refine tp_l (y := labs (cf 14)) rfl ?_
  refine cx_call (D := D) (cl := kl) (ws := _) (wc := []) (wr := [(cu, .inl (cJ, 16, .inr (.inl cf))), (mi, .inr (2, [.ref cu, .ref nx, .int (3 : Int32)]))]) (tx_runS (As := [.long (cdv 100 (cdv 100 (cdv 100 (0 : Int64) (labs (cf 7))) (labs (cf 11))) (labs (cf 13))), .long (labs (cf 14))]) (rest := []) hx hb hml hown (c_MI_cdv E H.size (cdv 100 (cdv 100 (cdv 100 (0 : Int64) (labs (cf 7))) (labs (cf 11))) (labs (cf 13))) (labs (cf 14)) ) (cx_C (b0 := b0) G hx0 mw_475 mw_4 ny_MI_commonDivisorOf (by decide)) (gw.at G hx0 mw_473 rfl _) (gw.at G hx0 mw_474 rfl _) (gw.at G hx0 mw_4 rfl _) ⟨cx_blind, (cx_pre (s := s) hx0 hP hD hS hA0 [] rfl rfl (by decide))⟩ rfl rfl hl.1 rfl (lv_room (Nat.le_of_ble_eq_true rfl)) d_MI_commonDivisor_34 ⟨by decide, by decide⟩) hP hD hS hA [] [0, 1] rfl rfl (by decide) (by decide) (fun v t w1 H locs ht hW9 hp hP hD hS => ?_) (fun x t w1 H locs ht hW9 hp hP hD hS => by obtain ⟨h9, -⟩ := hp; cases h9)
  obtain ⟨h9, rfl⟩ := hp
  cases h9
  refine W.eq (g2 := F0 m 37 ls [.long (cdv 100 (cdv 100 (cdv 100 (cdv 100 (0 : Int64) (labs (cf 7))) (labs (cf 11))) (labs (cf 13))) (labs (cf 14)))]) rfl ?_
  refine W.widen (k := 0) (n := 0) (by decide) (by decide) ?_
  have hP : va_P D kl [(cu, .inl (cJ, 16, .inr (.inl cf))), (mi, .inr (2, [.ref cu, .ref nx, .int (3 : Int32)]))] H := hP
  have hD : va_D A [(cu, .inl (cJ, 16, .inr (.inl cf))), (mi, .inr (2, [.ref cu, .ref nx, .int (3 : Int32)]))] := hD
  refine lv_lstore_n (lv' := [(1, .long (cdv 100 (cdv 100 (cdv 100 (cdv 100 (0 : Int64) (labs (cf 7))) (labs (cf 11))) (labs (cf 13))) (labs (cf 14)))), (4, .int (14 : Int32)), (3, .int (15 : Int32)), (0, .ref mi)]) hx hb d_MI_commonDivisor_37 rfl hl (by decide) rfl (fun ls hl => ?_)
  refine lv_iinc (lv' := [(4, .int (15 : Int32)), (1, .long (cdv 100 (cdv 100 (cdv 100 (cdv 100 (0 : Int64) (labs (cf 7))) (labs (cf 11))) (labs (cf 13))) (labs (cf 14)))), (3, .int (15 : Int32)), (0, .ref mi)]) (k := 1) (v := (15 : Int32)) hx hb d_MI_commonDivisor_38 hl rfl (by decide) (by decide) rfl (fun ls hl => ?_)
  refine lv_goto (tgt := 13) hx hb d_MI_commonDivisor_41 (by decide) ?_
  refine lv_iload hx hb d_MI_commonDivisor_13 (lv_at hl 0 rfl) ?_
  refine lv_iload_n hx hb d_MI_commonDivisor_15 rfl (lv_at hl 2 rfl) ?_
  refine lv_icmp_ge (tgt := 44) hx hb d_MI_commonDivisor_16 (by decide) (fun _ => ?_) (fun h99 => absurd h99 (by decide))
  refine lv_lload_n hx hb d_MI_commonDivisor_44 rfl (lv_at hl 1 rfl) ?_
  exact tx_mono (fun _ h => tx_Z.of h) (W.lret (v := cdv 100 (cdv 100 (cdv 100 (cdv 100 (0 : Int64) (labs (cf 7))) (labs (cf 11))) (labs (cf 13))) (labs (cf 14))) hx hb hr (fun t ht hW => ⟨⟨[(mi, .inr (2, [.ref cu, .ref nx, .int (3 : Int32)])), (cu, .inl (cJ, 16, .inr (.inl cf)))], ⟨rfl, rfl⟩, by rw [ht]; exact hP.sub [1, 0] rfl, hD.sub [1, 0] (by decide) rfl⟩, hS.F ht⟩) hS.2.2 d_MI_commonDivisor_45)

set_option maxHeartbeats 4000000 in
set_option maxRecDepth 100000 in
theorem c_MI_firstChoice4 {l : Launch} {s0 : State} {b0 : Addr} {D : va_G} {cI cJ cZ : ClassId} {tC tS : Nat} (E : gE l s0 b0 D cI cJ cZ tC tS) (sz : Nat) (mi : Nat) (cu : Nat) (nx : Nat) : cx_M l s0 D kl y_MI_firstChoice b_MI_firstChoice 1 (some .int) ({ frames := 0, cells := 0, slots := 0, locals := 0 } : Room) 0 0 [.ref mi] [(mi, .inr (2, [.ref cu, .ref nx, .int (4 : Int32)]))] sz (fun o9 _ w9 => o9 = .returned (some (.int (15 : Int32))) ∧ w9 = [(mi, .inr (2, [.ref cu, .ref nx, .int (4 : Int32)]))]) := by
  refine tx_ofW (cc := b_MI_firstChoice) (maxL := 1) (ret := (some .int)) (by decide) rfl ?_
  intro p e s m args below meth c s₁ B hml hT hv
  obtain ⟨rfl, hsz, hP, hD0, hx0⟩ := hv
  have hx := B.exec
  have hb := B.bytes
  have hr := B.returns
  have G := E.2.1
  have hown : s.vm.findClass cn_MI = some m.cls := findClass_of_methodNamed B.named
  have hlocks := B.notSynchronized
  have hK := va_K.moved hx0.1.alike E.2.2.1
  have hf_MI : ∀ w99 ∈ u_ws cn_MI ft_MI 3, w99.before ([.ref mi] : List Value).toArray s = true := fun w99 h99 => gw.at G hx0 (fw_MI w99 h99) (fo_MI w99 h99) _
  subst hsz
  have hA0 := cx_new hD0 hx0.2.1
  have hD := hD0.self (sz := s.heap.size)
  generalize hAe : va_A [(mi, .inr (2, [.ref cu, .ref nx, .int (4 : Int32)]))] s.heap.size = A at hD hA0 ⊢
  have hA : ∀ q : Nat, s.heap.size ≤ q → A q := fun q h => by rw [← hAe]; exact Or.inr h
  have hS : va_S A s.heap s.heap [] := va_S.rf
  obtain ⟨hZC, hTC, hZS, hTS⟩ := gz.at E.2.2.2.1 hx0 hA0
  have hl := lv_entry ([.ref mi]) (n := 1) (Nat.le_of_ble_eq_true rfl)
  rw [lg_entry_eq]
  generalize (lg_sl ([.ref mi]) ++ List.replicate (1 - (lg_sl ([.ref mi])).length) Slot.unset).toArray = ls at hl ⊢
  have hl : lv_has ls 1 [(0, .ref mi)] := hl
  have hP : va_P D kl [(mi, .inr (2, [.ref cu, .ref nx, .int (4 : Int32)]))] s.heap := hP
  have hml : c.maxLocals = 1 := hml
  refine va_getsN hx hb hZS hS hown (gw.at G hx0 mw_377 rfl _) (fun _ h9 => h9) d_MI_firstChoice_0 ?_
  refine lv_aload_n hx hb d_MI_firstChoice_3 rfl (lv_at hl 0 rfl) ?_
  refine va_get (D := D) (ci := 2) (v := .int (4 : Int32)) (C := cn_MI) (T := ft_MI) (N := 3) hx hb hf_MI (fun _ h => h) hown hK hP 0 rfl rfl 2 (by decide) (gw.at G hx0 mw_66 rfl _) (fun _ h9 => h9) rfl d_MI_firstChoice_4 ?_
  refine va_ti hx hb hTS hS (vp_in_iff.mpr (by decide)) (v := .int (15 : Int32)) (by decide) d_MI_firstChoice_7 ?_
  exact tx_mono (fun _ h => tx_Z.of h) (W.iret (v := (15 : Int32)) hx hb hr (fun t ht hW => ⟨⟨[(mi, .inr (2, [.ref cu, .ref nx, .int (4 : Int32)]))], ⟨rfl, rfl⟩, by rw [ht]; exact hP.sub [0] rfl, hD.sub [0] (by decide) rfl⟩, hS.F ht⟩) hS.2.2 d_MI_firstChoice_8)

set_option maxHeartbeats 4000000 in
set_option maxRecDepth 100000 in
theorem c_MI_endOfChoices4 {l : Launch} {s0 : State} {b0 : Addr} {D : va_G} {cI cJ cZ : ClassId} {tC tS : Nat} (E : gE l s0 b0 D cI cJ cZ tC tS) (sz : Nat) (mi : Nat) (cu : Nat) (nx : Nat) : cx_M l s0 D kl y_MI_endOfChoices b_MI_endOfChoices 1 (some .int) ({ frames := 0, cells := 0, slots := 0, locals := 0 } : Room) 0 0 [.ref mi] [(mi, .inr (2, [.ref cu, .ref nx, .int (4 : Int32)]))] sz (fun o9 _ w9 => o9 = .returned (some (.int (16 : Int32))) ∧ w9 = [(mi, .inr (2, [.ref cu, .ref nx, .int (4 : Int32)]))]) := by
  refine tx_ofW (cc := b_MI_endOfChoices) (maxL := 1) (ret := (some .int)) (by decide) rfl ?_
  intro p e s m args below meth c s₁ B hml hT hv
  obtain ⟨rfl, hsz, hP, hD0, hx0⟩ := hv
  have hx := B.exec
  have hb := B.bytes
  have hr := B.returns
  have G := E.2.1
  have hown : s.vm.findClass cn_MI = some m.cls := findClass_of_methodNamed B.named
  have hlocks := B.notSynchronized
  have hK := va_K.moved hx0.1.alike E.2.2.1
  have hf_MI : ∀ w99 ∈ u_ws cn_MI ft_MI 3, w99.before ([.ref mi] : List Value).toArray s = true := fun w99 h99 => gw.at G hx0 (fw_MI w99 h99) (fo_MI w99 h99) _
  subst hsz
  have hA0 := cx_new hD0 hx0.2.1
  have hD := hD0.self (sz := s.heap.size)
  generalize hAe : va_A [(mi, .inr (2, [.ref cu, .ref nx, .int (4 : Int32)]))] s.heap.size = A at hD hA0 ⊢
  have hA : ∀ q : Nat, s.heap.size ≤ q → A q := fun q h => by rw [← hAe]; exact Or.inr h
  have hS : va_S A s.heap s.heap [] := va_S.rf
  obtain ⟨hZC, hTC, hZS, hTS⟩ := gz.at E.2.2.2.1 hx0 hA0
  have hl := lv_entry ([.ref mi]) (n := 1) (Nat.le_of_ble_eq_true rfl)
  rw [lg_entry_eq]
  generalize (lg_sl ([.ref mi]) ++ List.replicate (1 - (lg_sl ([.ref mi])).length) Slot.unset).toArray = ls at hl ⊢
  have hl : lv_has ls 1 [(0, .ref mi)] := hl
  have hP : va_P D kl [(mi, .inr (2, [.ref cu, .ref nx, .int (4 : Int32)]))] s.heap := hP
  have hml : c.maxLocals = 1 := hml
  refine va_getsN hx hb hZS hS hown (gw.at G hx0 mw_377 rfl _) (fun _ h9 => h9) d_MI_endOfChoices_0 ?_
  refine lv_aload_n hx hb d_MI_endOfChoices_3 rfl (lv_at hl 0 rfl) ?_
  refine va_get (D := D) (ci := 2) (v := .int (4 : Int32)) (C := cn_MI) (T := ft_MI) (N := 3) hx hb hf_MI (fun _ h => h) hown hK hP 0 rfl rfl 2 (by decide) (gw.at G hx0 mw_66 rfl _) (fun _ h9 => h9) rfl d_MI_endOfChoices_4 ?_
  refine lv_iconst (v := (1 : Int32)) hx hb d_MI_endOfChoices_7 (by decide) ?_
  refine lv_iadd hx hb d_MI_endOfChoices_8 ?_
  refine tp_i (y := (5 : Int32)) (by decide) ?_
  refine va_ti hx hb hTS hS (vp_in_iff.mpr (by decide)) (v := .int (16 : Int32)) (by decide) d_MI_endOfChoices_9 ?_
  exact tx_mono (fun _ h => tx_Z.of h) (W.iret (v := (16 : Int32)) hx hb hr (fun t ht hW => ⟨⟨[(mi, .inr (2, [.ref cu, .ref nx, .int (4 : Int32)]))], ⟨rfl, rfl⟩, by rw [ht]; exact hP.sub [0] rfl, hD.sub [0] (by decide) rfl⟩, hS.F ht⟩) hS.2.2 d_MI_endOfChoices_10)

set_option maxHeartbeats 4000000 in
set_option maxRecDepth 100000 in
theorem c_MI_comdiv4 {l : Launch} {s0 : State} {b0 : Addr} {D : va_G} {cI cJ cZ : ClassId} {tC tS : Nat} (E : gE l s0 b0 D cI cJ cZ tC tS) (sz : Nat) (mi : Nat) (cu : Nat) (nx : Nat) (cf : Nat → Int64) : cx_M l s0 D kl y_MI_commonDivisor b_MI_commonDivisor 5 (some .long) ({ frames := 1, cells := 0, slots := 0, locals := 30 } : Room) 0 0 [.ref mi] [(mi, .inr (2, [.ref cu, .ref nx, .int (4 : Int32)])), (cu, .inl (cJ, 16, .inr (.inl cf)))] sz (fun o9 _ w9 => o9 = .returned (some (.long (cdl cf (lev 4)))) ∧ w9 = [(mi, .inr (2, [.ref cu, .ref nx, .int (4 : Int32)])), (cu, .inl (cJ, 16, .inr (.inl cf)))]) := by
  refine tx_ofW (cc := b_MI_commonDivisor) (maxL := 5) (ret := (some .long)) (by decide) rfl ?_
  intro p e s m args below meth c s₁ B hml hT hv
  obtain ⟨rfl, hsz, hP, hD0, hx0⟩ := hv
  have hx := B.exec
  have hb := B.bytes
  have hr := B.returns
  have G := E.2.1
  have hown : s.vm.findClass cn_MI = some m.cls := findClass_of_methodNamed B.named
  have hlocks := B.notSynchronized
  have hK := va_K.moved hx0.1.alike E.2.2.1
  have hf_MI : ∀ w99 ∈ u_ws cn_MI ft_MI 3, w99.before ([.ref mi] : List Value).toArray s = true := fun w99 h99 => gw.at G hx0 (fw_MI w99 h99) (fo_MI w99 h99) _
  subst hsz
  have hA0 := cx_new hD0 hx0.2.1
  have hD := hD0.self (sz := s.heap.size)
  generalize hAe : va_A [(mi, .inr (2, [.ref cu, .ref nx, .int (4 : Int32)])), (cu, .inl (cJ, 16, .inr (.inl cf)))] s.heap.size = A at hD hA0 ⊢
  have hA : ∀ q : Nat, s.heap.size ≤ q → A q := fun q h => by rw [← hAe]; exact Or.inr h
  have hS : va_S A s.heap s.heap [] := va_S.rf
  obtain ⟨hZC, hTC, hZS, hTS⟩ := gz.at E.2.2.2.1 hx0 hA0
  have hl := lv_entry ([.ref mi]) (n := 5) (Nat.le_of_ble_eq_true rfl)
  rw [lg_entry_eq]
  generalize (lg_sl ([.ref mi]) ++ List.replicate (5 - (lg_sl ([.ref mi])).length) Slot.unset).toArray = ls at hl ⊢
  have hl : lv_has ls 5 [(0, .ref mi)] := hl
  have hP : va_P D kl [(mi, .inr (2, [.ref cu, .ref nx, .int (4 : Int32)])), (cu, .inl (cJ, 16, .inr (.inl cf)))] s.heap := hP
  have hml : c.maxLocals = 5 := hml
  refine lv_lconst (v := (0 : Int64)) hx hb d_MI_commonDivisor_0 (by decide) ?_
  refine lv_lstore_n (lv' := [(1, .long (0 : Int64)), (0, .ref mi)]) hx hb d_MI_commonDivisor_1 rfl hl (by decide) rfl (fun ls hl => ?_)
  refine lv_aload_n hx hb d_MI_commonDivisor_2 rfl (lv_at hl 1 rfl) ?_
  refine cx_call (D := D) (cl := kl) (ws := _) (wc := [(mi, .inr (2, [.ref cu, .ref nx, .int (4 : Int32)]))]) (wr := [(cu, .inl (cJ, 16, .inr (.inl cf)))]) (tx_runV (C := cn_MI) (b := mi) (As := []) (rest := []) hx hb hml hown (c_MI_endOfChoices4 E s.heap.size mi cu nx ) (cx_C (b0 := b0) G hx0 mw_465 mw_4 ny_MI_endOfChoices (by decide)) (gw.at G hx0 mw_462 rfl _) (gw.at G hx0 mw_463 rfl _) (gw.at G hx0 mw_464 rfl _) ⟨cx_blind, va_recv hK hP (q0 := 0) (ci := 2) (q := (cn_MI, ft_MI, 3)) rfl rfl, (cx_pre (s := s) hx0 hP hD hS hA0 [0] rfl rfl (by decide))⟩ rfl rfl hl.1 rfl (lv_room (Nat.le_of_ble_eq_true rfl)) d_MI_commonDivisor_3 ⟨by decide, by decide⟩) hP hD hS hA [0] [1] rfl rfl (by decide) (by decide) (fun v t w1 H locs ht hW9 hp hP hD hS => ?_) (fun x t w1 H locs ht hW9 hp hP hD hS => by obtain ⟨h9, -⟩ := hp; cases h9)
  obtain ⟨h9, rfl⟩ := hp
  cases h9
  refine W.eq (g2 := F0 m 6 ls [.int (16 : Int32)]) rfl ?_
  refine W.widen (k := 0) (n := 0) (by decide) (by decide) ?_
  have hP : va_P D kl [(cu, .inl (cJ, 16, .inr (.inl cf))), (mi, .inr (2, [.ref cu, .ref nx, .int (4 : Int32)]))] H := hP
  have hD : va_D A [(cu, .inl (cJ, 16, .inr (.inl cf))), (mi, .inr (2, [.ref cu, .ref nx, .int (4 : Int32)]))] := hD
  refine lv_istore_n (lv' := [(3, .int (16 : Int32)), (1, .long (0 : Int64)), (0, .ref mi)]) hx hb d_MI_commonDivisor_6 rfl hl (by decide) rfl (fun ls hl => ?_)
  refine lv_aload_n hx hb d_MI_commonDivisor_7 rfl (lv_at hl 2 rfl) ?_
  refine cx_call (D := D) (cl := kl) (ws := _) (wc := [(mi, .inr (2, [.ref cu, .ref nx, .int (4 : Int32)]))]) (wr := [(cu, .inl (cJ, 16, .inr (.inl cf)))]) (tx_runV (C := cn_MI) (b := mi) (As := []) (rest := []) hx hb hml hown (c_MI_firstChoice4 E H.size mi cu nx ) (cx_C (b0 := b0) G hx0 mw_469 mw_4 ny_MI_firstChoice (by decide)) (gw.at G hx0 mw_466 rfl _) (gw.at G hx0 mw_467 rfl _) (gw.at G hx0 mw_468 rfl _) ⟨cx_blind, va_recv hK hP (q0 := 1) (ci := 2) (q := (cn_MI, ft_MI, 3)) rfl rfl, (cx_pre (s := s) hx0 hP hD hS hA0 [1] rfl rfl (by decide))⟩ rfl rfl hl.1 rfl (lv_room (Nat.le_of_ble_eq_true rfl)) d_MI_commonDivisor_8 ⟨by decide, by decide⟩) hP hD hS hA [1] [0] rfl rfl (by decide) (by decide) (fun v t w1 H locs ht hW9 hp hP hD hS => ?_) (fun x t w1 H locs ht hW9 hp hP hD hS => by obtain ⟨h9, -⟩ := hp; cases h9)
  obtain ⟨h9, rfl⟩ := hp
  cases h9
  refine W.eq (g2 := F0 m 11 ls [.int (15 : Int32)]) rfl ?_
  refine W.widen (k := 0) (n := 0) (by decide) (by decide) ?_
  have hP : va_P D kl [(cu, .inl (cJ, 16, .inr (.inl cf))), (mi, .inr (2, [.ref cu, .ref nx, .int (4 : Int32)]))] H := hP
  have hD : va_D A [(cu, .inl (cJ, 16, .inr (.inl cf))), (mi, .inr (2, [.ref cu, .ref nx, .int (4 : Int32)]))] := hD
  refine lv_istore (lv' := [(4, .int (15 : Int32)), (3, .int (16 : Int32)), (1, .long (0 : Int64)), (0, .ref mi)]) hx hb d_MI_commonDivisor_11 hl (by decide) rfl (fun ls hl => ?_)
  refine lv_iload hx hb d_MI_commonDivisor_13 (lv_at hl 0 rfl) ?_
  refine lv_iload_n hx hb d_MI_commonDivisor_15 rfl (lv_at hl 1 rfl) ?_
  refine lv_icmp_ge (tgt := 44) hx hb d_MI_commonDivisor_16 (by decide) (fun h99 => absurd h99 (by decide)) (fun _ => ?_)
  refine lv_lload_n hx hb d_MI_commonDivisor_19 rfl (lv_at hl 2 rfl) ?_
  refine lv_aload_n hx hb d_MI_commonDivisor_20 rfl (lv_at hl 3 rfl) ?_
  refine va_get (D := D) (ci := 2) (v := .ref cu) (C := cn_MI) (T := ft_MI) (N := 3) hx hb hf_MI (fun _ h => h) hown hK hP 1 rfl rfl 0 (by decide) (gw.at G hx0 mw_64 rfl _) (fun _ h9 => h9) rfl d_MI_commonDivisor_21 ?_
  refine va_getsN hx hb hZC hS hown (gw.at G hx0 mw_62 rfl _) (fun _ h9 => h9) d_MI_commonDivisor_24 ?_
  refine lv_iload hx hb d_MI_commonDivisor_27 (lv_at hl 0 rfl) ?_
  refine va_ti hx hb hTC hS (vp_in_iff.mpr (by decide)) (v := .int (15 : Int32)) (by decide) d_MI_commonDivisor_29 ?_
  refine va_lald hx hb hK hP 0 1 rfl rfl (vp_in_iff.mpr (by decide)) d_MI_commonDivisor_30 ?_
  refine tp_l (y := cf 15) (by rfl) ?_
  refine va_mabs_long hx hb (hml.trans hl.1.symm) hown (gw.at G hx0 mw_470 rfl _) (gw.at G hx0 mw_471 rfl _) (gw.at G hx0 mw_2 rfl _) (gw.at G hx0 mw_472 rfl _) (by decide) (Nat.le_of_ble_eq_true rfl) (by decide) (by decide) d_MI_commonDivisor_31 ?_
  refine tp_l (y := labs (cf 15)) rfl ?_
  refine cx_call (D := D) (cl := kl) (ws := _) (wc := []) (wr := [(cu, .inl (cJ, 16, .inr (.inl cf))), (mi, .inr (2, [.ref cu, .ref nx, .int (4 : Int32)]))]) (tx_runS (As := [.long (0 : Int64), .long (labs (cf 15))]) (rest := []) hx hb hml hown (c_MI_cdv E H.size (0 : Int64) (labs (cf 15)) ) (cx_C (b0 := b0) G hx0 mw_475 mw_4 ny_MI_commonDivisorOf (by decide)) (gw.at G hx0 mw_473 rfl _) (gw.at G hx0 mw_474 rfl _) (gw.at G hx0 mw_4 rfl _) ⟨cx_blind, (cx_pre (s := s) hx0 hP hD hS hA0 [] rfl rfl (by decide))⟩ rfl rfl hl.1 rfl (lv_room (Nat.le_of_ble_eq_true rfl)) d_MI_commonDivisor_34 ⟨by decide, by decide⟩) hP hD hS hA [] [0, 1] rfl rfl (by decide) (by decide) (fun v t w1 H locs ht hW9 hp hP hD hS => ?_) (fun x t w1 H locs ht hW9 hp hP hD hS => by obtain ⟨h9, -⟩ := hp; cases h9)
  obtain ⟨h9, rfl⟩ := hp
  cases h9
  refine W.eq (g2 := F0 m 37 ls [.long (cdv 100 (0 : Int64) (labs (cf 15)))]) rfl ?_
  refine W.widen (k := 0) (n := 0) (by decide) (by decide) ?_
  have hP : va_P D kl [(cu, .inl (cJ, 16, .inr (.inl cf))), (mi, .inr (2, [.ref cu, .ref nx, .int (4 : Int32)]))] H := hP
  have hD : va_D A [(cu, .inl (cJ, 16, .inr (.inl cf))), (mi, .inr (2, [.ref cu, .ref nx, .int (4 : Int32)]))] := hD
  refine lv_lstore_n (lv' := [(1, .long (cdv 100 (0 : Int64) (labs (cf 15)))), (4, .int (15 : Int32)), (3, .int (16 : Int32)), (0, .ref mi)]) hx hb d_MI_commonDivisor_37 rfl hl (by decide) rfl (fun ls hl => ?_)
  refine lv_iinc (lv' := [(4, .int (16 : Int32)), (1, .long (cdv 100 (0 : Int64) (labs (cf 15)))), (3, .int (16 : Int32)), (0, .ref mi)]) (k := 1) (v := (16 : Int32)) hx hb d_MI_commonDivisor_38 hl rfl (by decide) (by decide) rfl (fun ls hl => ?_)
  refine lv_goto (tgt := 13) hx hb d_MI_commonDivisor_41 (by decide) ?_
  refine lv_iload hx hb d_MI_commonDivisor_13 (lv_at hl 0 rfl) ?_
  refine lv_iload_n hx hb d_MI_commonDivisor_15 rfl (lv_at hl 2 rfl) ?_
  refine lv_icmp_ge (tgt := 44) hx hb d_MI_commonDivisor_16 (by decide) (fun _ => ?_) (fun h99 => absurd h99 (by decide))
  refine lv_lload_n hx hb d_MI_commonDivisor_44 rfl (lv_at hl 1 rfl) ?_
  exact tx_mono (fun _ h => tx_Z.of h) (W.lret (v := cdv 100 (0 : Int64) (labs (cf 15))) hx hb hr (fun t ht hW => ⟨⟨[(mi, .inr (2, [.ref cu, .ref nx, .int (4 : Int32)])), (cu, .inl (cJ, 16, .inr (.inl cf)))], ⟨rfl, rfl⟩, by rw [ht]; exact hP.sub [1, 0] rfl, hD.sub [1, 0] (by decide) rfl⟩, hS.F ht⟩) hS.2.2 d_MI_commonDivisor_45)

