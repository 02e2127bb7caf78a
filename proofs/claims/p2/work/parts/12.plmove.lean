/-! ===== own rows, laid by wip/tools/sym.py: PointList, moving points ===== -/
def oc (a b : Int32) : Int32 := if b ≤ a then 1 else -1
def ord4 (f : Nat → Int32) (k : Nat) (g : Nat → Int32) : Int32 :=
  if f (k * 4 + 0) = g 0 then if f (k * 4 + 1) = g 1 then if f (k * 4 + 2) = g 2 then if f (k * 4 + 3) = g 3 then 0 else oc (f (k * 4 + 3)) (g 3) else oc (f (k * 4 + 2)) (g 2) else oc (f (k * 4 + 1)) (g 1) else oc (f (k * 4 + 0)) (g 0)
/-- where a point belongs among the first n -/
def ipl (f : Nat → Int32) (g : Nat → Int32) : Nat → Nat
  | 0 => 0
  | n + 1 => if 0 < ord4 f n g then ipl f g n else n + 1
theorem ipl_down {f g : Nat → Int32} {q : Nat} (h0 : 0 < q) (h : 0 < ord4 f (q - 1) g) : ipl f g q = ipl f g (q - 1) := by
  obtain ⟨n, rfl⟩ : ∃ n, q = n + 1 := ⟨q - 1, by omega⟩
  have h : 0 < ord4 f n g := h
  show (if 0 < ord4 f n g then ipl f g n else n + 1) = ipl f g n
  rw [if_pos h]
theorem ipl_here {f g : Nat → Int32} {q : Nat} (h : q = 0 ∨ ¬ 0 < ord4 f (q - 1) g) : ipl f g q = q := by
  rcases h with rfl | h
  · rfl
  · cases q with
    | zero => rfl
    | succ n =>
      have h : ¬ 0 < ord4 f n g := h
      show (if 0 < ord4 f n g then ipl f g n else n + 1) = n + 1
      rw [if_neg h]
theorem ipl_le (f g : Nat → Int32) : ∀ n, ipl f g n ≤ n
  | 0 => Nat.le_refl 0
  | n + 1 => by
    show (if 0 < ord4 f n g then ipl f g n else n + 1) ≤ n + 1
    split
    · exact Nat.le_succ_of_le (ipl_le f g n)
    · exact Nat.le_refl _
set_option maxHeartbeats 4000000 in
set_option maxRecDepth 100000 in
theorem c_PL_copyOut {l : Launch} {s0 : State} {b0 : Addr} {D : va_G} {cI cJ cZ : ClassId} {tC tS : Nat} (E : gE l s0 b0 D cI cJ cZ tC tS) (sz : Nat) (pl : Nat) (pa : Nat) (ct : Nat) (mo : Nat) (pz : Nat) (pf : Nat → Int32) (k : Nat) (ga : Nat) (g : Nat → Int32) (hpz : pz = mo * 4) (hmo : mo ≤ 107) (hct : ct ≤ mo) (hk : k < mo) : cx_M l s0 D kl y_PL_copyOut b_PL_copyOut 3 none ({ frames := 1, cells := 0, slots := 0, locals := 40 } : Room) 0 0 [.ref pl, .int (nI k), .ref ga] [(pl, .inr (1, [.ref pa, .int (nI ct), .int (nI mo)])), (pa, .inl (cI, pz, .inl pf)), (ga, .inl (cI, 4, .inl g))] sz (fun o9 _ w9 => o9 = .returned none ∧ w9 = [(pl, .inr (1, [.ref pa, .int (nI ct), .int (nI mo)])), (pa, .inl (cI, pz, .inl pf)), (ga, .inl (cI, 4, .inl (va_cpy pf g (k * 4) 0 4)))]) := by
  refine tx_ofW (cc := b_PL_copyOut) (maxL := 3) (ret := none) (by decide) rfl ?_
  intro p e s m args below meth c s₁ B hml hT hv
  obtain ⟨rfl, hsz, hP, hD0, hx0⟩ := hv
  have hx := B.exec
  have hb := B.bytes
  have hr := B.returns
  have G := E.2.1
  have hown : s.vm.findClass cn_PL = some m.cls := findClass_of_methodNamed B.named
  have hlocks := B.notSynchronized
  have hK := va_K.moved hx0.1.alike E.2.2.1
  have hf_PL : ∀ w99 ∈ u_ws cn_PL ft_PL 3, w99.before ([.ref pl, .int (nI k), .ref ga] : List Value).toArray s = true := fun w99 h99 => gw.at G hx0 (fw_PL w99 h99) (fo_PL w99 h99) _
  subst hsz
  have hA0 := cx_new hD0 hx0.2.1
  have hD := hD0.self (sz := s.heap.size)
  generalize hAe : va_A [(pl, .inr (1, [.ref pa, .int (nI ct), .int (nI mo)])), (pa, .inl (cI, pz, .inl pf)), (ga, .inl (cI, 4, .inl g))] s.heap.size = A at hD hA0 ⊢
  have hA : ∀ q : Nat, s.heap.size ≤ q → A q := fun q h => by rw [← hAe]; exact Or.inr h
  have hS : va_S A s.heap s.heap [] := va_S.rf
  have hl := lv_entry ([.ref pl, .int (nI k), .ref ga]) (n := 3) (Nat.le_of_ble_eq_true rfl)
  rw [lg_entry_eq]
  generalize (lg_sl ([.ref pl, .int (nI k), .ref ga]) ++ List.replicate (3 - (lg_sl ([.ref pl, .int (nI k), .ref ga])).length) Slot.unset).toArray = ls at hl ⊢
  have hl : lv_has ls 3 [(0, .ref pl), (1, .int (nI k)), (2, .ref ga)] := hl
  have hP : va_P D kl [(pl, .inr (1, [.ref pa, .int (nI ct), .int (nI mo)])), (pa, .inl (cI, pz, .inl pf)), (ga, .inl (cI, 4, .inl g))] s.heap := hP
  have hml : c.maxLocals = 3 := hml
  refine lv_aload_n hx hb d_PL_copyOut_0 rfl (lv_at hl 0 rfl) ?_
  refine va_get (D := D) (ci := 1) (v := .ref pa) (C := cn_PL) (T := ft_PL) (N := 3) hx hb hf_PL (fun _ h => h) hown hK hP 0 rfl rfl 0 (by decide) (gw.at G hx0 mw_39 rfl _) (fun _ h9 => h9) rfl d_PL_copyOut_1 ?_
  refine lv_iload_n hx hb d_PL_copyOut_4 rfl (lv_at hl 1 rfl) ?_
  refine lv_iconst (v := (4 : Int32)) hx hb d_PL_copyOut_5 (by decide) ?_
  refine lv_imul hx hb d_PL_copyOut_6 ?_
  refine tp_i (y := nI (k * 4)) (nI_mul k 4) ?_
  refine lv_aload_n hx hb d_PL_copyOut_7 rfl (lv_at hl 2 rfl) ?_
  refine lv_iconst (v := (0 : Int32)) hx hb d_PL_copyOut_8 (by decide) ?_
  refine lv_iconst (v := (4 : Int32)) hx hb d_PL_copyOut_9 (by decide) ?_
  refine va_copyi hx hb (hml.trans hl.1.symm) hown (gw.at G hx0 mw_356 rfl _) (gw.at G hx0 mw_358 rfl _) (gw.at G hx0 mw_357 rfl _) (gw.at G hx0 mw_15 rfl _) hK hP hD hS 1 2 0 0 rfl rfl rfl rfl rfl (nI_pos (n := k * 4) (by omega)) (by decide) (by decide) (by rw [nI_clamp (n := k * 4) (by omega)]; show (k * 4) + 4 ≤ pz; omega) (by show 0 + 4 ≤ 4; omega) (fun _ _ => rfl) (by decide) (by decide) d_PL_copyOut_10 (fun H locs hP hD hS => ?_)
  rw [nI_clamp (n := k * 4) (by omega)] at hP hD
  have hP : va_P D kl [(pl, .inr (1, [.ref pa, .int (nI ct), .int (nI mo)])), (pa, .inl (cI, pz, .inl pf)), (ga, .inl (cI, 4, .inl (va_cpy pf g (k * 4) 0 4)))] H := hP
  have hD : va_D A [(pl, .inr (1, [.ref pa, .int (nI ct), .int (nI mo)])), (pa, .inl (cI, pz, .inl pf)), (ga, .inl (cI, 4, .inl (va_cpy pf g (k * 4) 0 4)))] := hD
  exact tx_mono (fun _ h => tx_Z.of h) (W.vret hx hb hr (fun t ht hW => ⟨⟨[(pl, .inr (1, [.ref pa, .int (nI ct), .int (nI mo)])), (pa, .inl (cI, pz, .inl pf)), (ga, .inl (cI, 4, .inl (va_cpy pf g (k * 4) 0 4)))], ⟨rfl, rfl⟩, by rw [ht]; exact hP.sub [0, 1, 2] rfl, hD.sub [0, 1, 2] (by decide) rfl⟩, hS.F ht⟩) hS.2.2 d_PL_copyOut_13)

set_option maxHeartbeats 4000000 in
set_option maxRecDepth 100000 in
theorem c_PL_copyWithin {l : Launch} {s0 : State} {b0 : Addr} {D : va_G} {cI cJ cZ : ClassId} {tC tS : Nat} (E : gE l s0 b0 D cI cJ cZ tC tS) (sz : Nat) (pl : Nat) (pa : Nat) (ct : Nat) (mo : Nat) (pz : Nat) (pf : Nat → Int32) (k : Nat) (k2 : Nat) (hpz : pz = mo * 4) (hmo : mo ≤ 107) (hct : ct ≤ mo) (hk : k < mo) (hk2 : k2 < mo) : cx_M l s0 D kl y_PL_copyWithin b_PL_copyWithin 3 none ({ frames := 1, cells := 0, slots := 0, locals := 40 } : Room) 0 0 [.ref pl, .int (nI k), .int (nI k2)] [(pl, .inr (1, [.ref pa, .int (nI ct), .int (nI mo)])), (pa, .inl (cI, pz, .inl pf))] sz (fun o9 _ w9 => o9 = .returned none ∧ w9 = [(pl, .inr (1, [.ref pa, .int (nI ct), .int (nI mo)])), (pa, .inl (cI, pz, .inl (va_cpy pf pf (k * 4) (k2 * 4) 4)))]) := by
  refine tx_ofW (cc := b_PL_copyWithin) (maxL := 3) (ret := none) (by decide) rfl ?_
  intro p e s m args below meth c s₁ B hml hT hv
  obtain ⟨rfl, hsz, hP, hD0, hx0⟩ := hv
  have hx := B.exec
  have hb := B.bytes
  have hr := B.returns
  have G := E.2.1
  have hown : s.vm.findClass cn_PL = some m.cls := findClass_of_methodNamed B.named
  have hlocks := B.notSynchronized
  have hK := va_K.moved hx0.1.alike E.2.2.1
  have hf_PL : ∀ w99 ∈ u_ws cn_PL ft_PL 3, w99.before ([.ref pl, .int (nI k), .int (nI k2)] : List Value).toArray s = true := fun w99 h99 => gw.at G hx0 (fw_PL w99 h99) (fo_PL w99 h99) _
  subst hsz
  have hA0 := cx_new hD0 hx0.2.1
  have hD := hD0.self (sz := s.heap.size)
  generalize hAe : va_A [(pl, .inr (1, [.ref pa, .int (nI ct), .int (nI mo)])), (pa, .inl (cI, pz, .inl pf))] s.heap.size = A at hD hA0 ⊢
  have hA : ∀ q : Nat, s.heap.size ≤ q → A q := fun q h => by rw [← hAe]; exact Or.inr h
  have hS : va_S A s.heap s.heap [] := va_S.rf
  have hl := lv_entry ([.ref pl, .int (nI k), .int (nI k2)]) (n := 3) (Nat.le_of_ble_eq_true rfl)
  rw [lg_entry_eq]
  generalize (lg_sl ([.ref pl, .int (nI k), .int (nI k2)]) ++ List.replicate (3 - (lg_sl ([.ref pl, .int (nI k), .int (nI k2)])).length) Slot.unset).toArray = ls at hl ⊢
  have hl : lv_has ls 3 [(0, .ref pl), (1, .int (nI k)), (2, .int (nI k2))] := hl
  have hP : va_P D kl [(pl, .inr (1, [.ref pa, .int (nI ct), .int (nI mo)])), (pa, .inl (cI, pz, .inl pf))] s.heap := hP
  have hml : c.maxLocals = 3 := hml
  refine lv_aload_n hx hb d_PL_copyWithin_0 rfl (lv_at hl 0 rfl) ?_
  refine va_get (D := D) (ci := 1) (v := .ref pa) (C := cn_PL) (T := ft_PL) (N := 3) hx hb hf_PL (fun _ h => h) hown hK hP 0 rfl rfl 0 (by decide) (gw.at G hx0 mw_39 rfl _) (fun _ h9 => h9) rfl d_PL_copyWithin_1 ?_
  refine lv_iload_n hx hb d_PL_copyWithin_4 rfl (lv_at hl 1 rfl) ?_
  refine lv_iconst (v := (4 : Int32)) hx hb d_PL_copyWithin_5 (by decide) ?_
  refine lv_imul hx hb d_PL_copyWithin_6 ?_
  refine tp_i (y := nI (k * 4)) (nI_mul k 4) ?_
  refine lv_aload_n hx hb d_PL_copyWithin_7 rfl (lv_at hl 0 rfl) ?_
  refine va_get (D := D) (ci := 1) (v := .ref pa) (C := cn_PL) (T := ft_PL) (N := 3) hx hb hf_PL (fun _ h => h) hown hK hP 0 rfl rfl 0 (by decide) (gw.at G hx0 mw_39 rfl _) (fun _ h9 => h9) rfl d_PL_copyWithin_8 ?_
  refine lv_iload_n hx hb d_PL_copyWithin_11 rfl (lv_at hl 2 rfl) ?_
  refine lv_iconst (v := (4 : Int32)) hx hb d_PL_copyWithin_12 (by decide) ?_
  refine lv_imul hx hb d_PL_copyWithin_13 ?_
  refine tp_i (y := nI (k2 * 4)) (nI_mul k2 4) ?_
  refine lv_iconst (v := (4 : Int32)) hx hb d_PL_copyWithin_14 (by decide) ?_
  refine va_copyi hx hb (hml.trans hl.1.symm) hown (gw.at G hx0 mw_356 rfl _) (gw.at G hx0 mw_358 rfl _) (gw.at G hx0 mw_357 rfl _) (gw.at G hx0 mw_15 rfl _) hK hP hD hS 1 1 0 0 rfl rfl rfl rfl rfl (nI_pos (n := k * 4) (by omega)) (nI_pos (n := k2 * 4) (by omega)) (by decide) (by rw [nI_clamp (n := k * 4) (by omega)]; show (k * 4) + 4 ≤ pz; omega) (by rw [nI_clamp (n := k2 * 4) (by omega)]; show (k2 * 4) + 4 ≤ pz; omega) (fun _ _ => rfl) (by decide) (by decide) d_PL_copyWithin_15 (fun H locs hP hD hS => ?_)
  rw [nI_clamp (n := k * 4) (by omega), nI_clamp (n := k2 * 4) (by omega)] at hP hD
  have hP : va_P D kl [(pl, .inr (1, [.ref pa, .int (nI ct), .int (nI mo)])), (pa, .inl (cI, pz, .inl (va_cpy pf pf (k * 4) (k2 * 4) 4)))] H := hP
  have hD : va_D A [(pl, .inr (1, [.ref pa, .int (nI ct), .int (nI mo)])), (pa, .inl (cI, pz, .inl (va_cpy pf pf (k * 4) (k2 * 4) 4)))] := hD
  exact tx_mono (fun _ h => tx_Z.of h) (W.vret hx hb hr (fun t ht hW => ⟨⟨[(pl, .inr (1, [.ref pa, .int (nI ct), .int (nI mo)])), (pa, .inl (cI, pz, .inl (va_cpy pf pf (k * 4) (k2 * 4) 4)))], ⟨rfl, rfl⟩, by rw [ht]; exact hP.sub [0, 1] rfl, hD.sub [0, 1] (by decide) rfl⟩, hS.F ht⟩) hS.2.2 d_PL_copyWithin_18)

set_option maxHeartbeats 4000000 in
set_option maxRecDepth 100000 in
theorem c_PL_put {l : Launch} {s0 : State} {b0 : Addr} {D : va_G} {cI cJ cZ : ClassId} {tC tS : Nat} (E : gE l s0 b0 D cI cJ cZ tC tS) (sz : Nat) (pl : Nat) (pa : Nat) (ct : Nat) (mo : Nat) (pz : Nat) (pf : Nat → Int32) (k : Nat) (ga : Nat) (g : Nat → Int32) (hpz : pz = mo * 4) (hmo : mo ≤ 107) (hct : ct ≤ mo) (hk : k ≤ ct) (hlt : ct < mo) : cx_M l s0 D kl y_PL_putAt b_PL_putAt 4 none ({ frames := 1, cells := 0, slots := 0, locals := 40 } : Room) 0 0 [.ref pl, .int (nI k), .ref ga] [(pl, .inr (1, [.ref pa, .int (nI ct), .int (nI mo)])), (pa, .inl (cI, pz, .inl pf)), (ga, .inl (cI, 4, .inl g))] sz (fun o9 _ w9 => o9 = .returned none ∧ w9 = [(pl, .inr (1, [.ref pa, .int (nI (ct + 1)), .int (nI mo)])), (pa, .inl (cI, pz, .inl (va_cpy g (va_cpy pf pf (k * 4) (k * 4 + 4) (ct * 4 - k * 4)) 0 (k * 4) 4))), (ga, .inl (cI, 4, .inl g))]) := by
  refine tx_ofW (cc := b_PL_putAt) (maxL := 4) (ret := none) (by decide) rfl ?_
  intro p e s m args below meth c s₁ B hml hT hv
  obtain ⟨rfl, hsz, hP, hD0, hx0⟩ := hv
  have hx := B.exec
  have hb := B.bytes
  have hr := B.returns
  have G := E.2.1
  have hown : s.vm.findClass cn_PL = some m.cls := findClass_of_methodNamed B.named
  have hlocks := B.notSynchronized
  have hK := va_K.moved hx0.1.alike E.2.2.1
  have hf_PL : ∀ w99 ∈ u_ws cn_PL ft_PL 3, w99.before ([.ref pl, .int (nI k), .ref ga] : List Value).toArray s = true := fun w99 h99 => gw.at G hx0 (fw_PL w99 h99) (fo_PL w99 h99) _
  subst hsz
  have hA0 := cx_new hD0 hx0.2.1
  have hD := hD0.self (sz := s.heap.size)
  generalize hAe : va_A [(pl, .inr (1, [.ref pa, .int (nI ct), .int (nI mo)])), (pa, .inl (cI, pz, .inl pf)), (ga, .inl (cI, 4, .inl g))] s.heap.size = A at hD hA0 ⊢
  have hA : ∀ q : Nat, s.heap.size ≤ q → A q := fun q h => by rw [← hAe]; exact Or.inr h
  have hS : va_S A s.heap s.heap [] := va_S.rf
  have hl := lv_entry ([.ref pl, .int (nI k), .ref ga]) (n := 4) (Nat.le_of_ble_eq_true rfl)
  rw [lg_entry_eq]
  generalize (lg_sl ([.ref pl, .int (nI k), .ref ga]) ++ List.replicate (4 - (lg_sl ([.ref pl, .int (nI k), .ref ga])).length) Slot.unset).toArray = ls at hl ⊢
  have hl : lv_has ls 4 [(0, .ref pl), (1, .int (nI k)), (2, .ref ga)] := hl
  have hP : va_P D kl [(pl, .inr (1, [.ref pa, .int (nI ct), .int (nI mo)])), (pa, .inl (cI, pz, .inl pf)), (ga, .inl (cI, 4, .inl g))] s.heap := hP
  have hml : c.maxLocals = 4 := hml
  refine lv_aload_n hx hb d_PL_putAt_0 rfl (lv_at hl 0 rfl) ?_
  refine va_get (D := D) (ci := 1) (v := .int (nI ct)) (C := cn_PL) (T := ft_PL) (N := 3) hx hb hf_PL (fun _ h => h) hown hK hP 0 rfl rfl 1 (by decide) (gw.at G hx0 mw_42 rfl _) (fun _ h9 => h9) rfl d_PL_putAt_1 ?_
  refine lv_aload_n hx hb d_PL_putAt_4 rfl (lv_at hl 0 rfl) ?_
  refine va_get (D := D) (ci := 1) (v := .int (nI mo)) (C := cn_PL) (T := ft_PL) (N := 3) hx hb hf_PL (fun _ h => h) hown hK hP 0 rfl rfl 2 (by decide) (gw.at G hx0 mw_47 rfl _) (fun _ h9 => h9) rfl d_PL_putAt_5 ?_
  refine lv_icmp_lt (tgt := 12) hx hb d_PL_putAt_8 (by decide) (fun _ => ?_) (fun h99 => absurd h99 (not_not_intro ((nI_ltI (a := ct) (b := mo) (by omega) (by omega)).mpr (by omega))))
  refine lv_iload_n hx hb d_PL_putAt_12 rfl (lv_at hl 1 rfl) ?_
  refine lv_iconst (v := (4 : Int32)) hx hb d_PL_putAt_13 (by decide) ?_
  refine lv_imul hx hb d_PL_putAt_14 ?_
  refine tp_i (y := nI (k * 4)) (nI_mul k 4) ?_
  refine lv_istore_n (lv' := [(3, .int (nI (k * 4))), (0, .ref pl), (1, .int (nI k)), (2, .ref ga)]) hx hb d_PL_putAt_15 rfl hl (by decide) rfl (fun ls hl => ?_)
  refine lv_aload_n hx hb d_PL_putAt_16 rfl (lv_at hl 1 rfl) ?_
  refine va_get (D := D) (ci := 1) (v := .ref pa) (C := cn_PL) (T := ft_PL) (N := 3) hx hb hf_PL (fun _ h => h) hown hK hP 0 rfl rfl 0 (by decide) (gw.at G hx0 mw_39 rfl _) (fun _ h9 => h9) rfl d_PL_putAt_17 ?_
  refine lv_iload_n hx hb d_PL_putAt_20 rfl (lv_at hl 0 rfl) ?_
  refine lv_aload_n hx hb d_PL_putAt_21 rfl (lv_at hl 1 rfl) ?_
  refine va_get (D := D) (ci := 1) (v := .ref pa) (C := cn_PL) (T := ft_PL) (N := 3) hx hb hf_PL (fun _ h => h) hown hK hP 0 rfl rfl 0 (by decide) (gw.at G hx0 mw_39 rfl _) (fun _ h9 => h9) rfl d_PL_putAt_22 ?_
  refine lv_iload_n hx hb d_PL_putAt_25 rfl (lv_at hl 0 rfl) ?_
  refine lv_iconst (v := (4 : Int32)) hx hb d_PL_putAt_26 (by decide) ?_
  refine lv_iadd hx hb d_PL_putAt_27 ?_
  refine tp_i (y := nI ((k * 4) + 4)) (nI_add (k * 4) 4) ?_
  refine lv_aload_n hx hb d_PL_putAt_28 rfl (lv_at hl 1 rfl) ?_
  refine va_get (D := D) (ci := 1) (v := .int (nI ct)) (C := cn_PL) (T := ft_PL) (N := 3) hx hb hf_PL (fun _ h => h) hown hK hP 0 rfl rfl 1 (by decide) (gw.at G hx0 mw_42 rfl _) (fun _ h9 => h9) rfl d_PL_putAt_29 ?_
  refine lv_iconst (v := (4 : Int32)) hx hb d_PL_putAt_32 (by decide) ?_
  refine lv_imul hx hb d_PL_putAt_33 ?_
  refine tp_i (y := nI (ct * 4)) (nI_mul ct 4) ?_
  refine lv_iload_n hx hb d_PL_putAt_34 rfl (lv_at hl 0 rfl) ?_
  refine lv_isub hx hb d_PL_putAt_35 ?_
  refine tp_i (y := nI ((ct * 4) - (k * 4))) (nI_sub (a := ct * 4) (b := k * 4) (by omega)) ?_
  refine va_copyi hx hb (hml.trans hl.1.symm) hown (gw.at G hx0 mw_356 rfl _) (gw.at G hx0 mw_358 rfl _) (gw.at G hx0 mw_357 rfl _) (gw.at G hx0 mw_15 rfl _) hK hP hD hS 1 1 0 0 rfl rfl rfl rfl rfl (nI_pos (n := k * 4) (by omega)) (nI_pos (n := (k * 4) + 4) (by omega)) (nI_pos (n := (ct * 4) - (k * 4)) (by omega)) (by rw [nI_clamp (n := k * 4) (by omega), nI_clamp (n := (ct * 4) - (k * 4)) (by omega)]; show (k * 4) + ((ct * 4) - (k * 4)) ≤ pz; omega) (by rw [nI_clamp (n := (k * 4) + 4) (by omega), nI_clamp (n := (ct * 4) - (k * 4)) (by omega)]; show ((k * 4) + 4) + ((ct * 4) - (k * 4)) ≤ pz; omega) (fun _ _ => rfl) (by decide) (by decide) d_PL_putAt_36 (fun H locs hP hD hS => ?_)
  rw [nI_clamp (n := k * 4) (by omega), nI_clamp (n := (k * 4) + 4) (by omega), nI_clamp (n := (ct * 4) - (k * 4)) (by omega)] at hP hD
  have hP : va_P D kl [(pl, .inr (1, [.ref pa, .int (nI ct), .int (nI mo)])), (pa, .inl (cI, pz, .inl (va_cpy pf pf (k * 4) ((k * 4) + 4) ((ct * 4) - (k * 4))))), (ga, .inl (cI, 4, .inl g))] H := hP
  have hD : va_D A [(pl, .inr (1, [.ref pa, .int (nI ct), .int (nI mo)])), (pa, .inl (cI, pz, .inl (va_cpy pf pf (k * 4) ((k * 4) + 4) ((ct * 4) - (k * 4))))), (ga, .inl (cI, 4, .inl g))] := hD
  refine lv_aload_n hx hb d_PL_putAt_39 rfl (lv_at hl 3 rfl) ?_
  refine lv_iconst (v := (0 : Int32)) hx hb d_PL_putAt_40 (by decide) ?_
  refine lv_aload_n hx hb d_PL_putAt_41 rfl (lv_at hl 1 rfl) ?_
  refine va_get (D := D) (ci := 1) (v := .ref pa) (C := cn_PL) (T := ft_PL) (N := 3) hx hb hf_PL (fun _ h => h) hown hK hP 0 rfl rfl 0 (by decide) (gw.at G hx0 mw_39 rfl _) (fun _ h9 => h9) rfl d_PL_putAt_42 ?_
  refine lv_iload_n hx hb d_PL_putAt_45 rfl (lv_at hl 0 rfl) ?_
  refine lv_iconst (v := (4 : Int32)) hx hb d_PL_putAt_46 (by decide) ?_
  refine va_copyi hx hb (hml.trans hl.1.symm) hown (gw.at G hx0 mw_356 rfl _) (gw.at G hx0 mw_358 rfl _) (gw.at G hx0 mw_357 rfl _) (gw.at G hx0 mw_15 rfl _) hK hP hD hS 2 1 0 0 rfl rfl rfl rfl rfl (by decide) (nI_pos (n := k * 4) (by omega)) (by decide) (by show 0 + 4 ≤ 4; omega) (by rw [nI_clamp (n := k * 4) (by omega)]; show (k * 4) + 4 ≤ pz; omega) (fun _ _ => rfl) (by decide) (by decide) d_PL_putAt_47 (fun H locs hP hD hS => ?_)
  rw [nI_clamp (n := k * 4) (by omega)] at hP hD
  have hP : va_P D kl [(pl, .inr (1, [.ref pa, .int (nI ct), .int (nI mo)])), (pa, .inl (cI, pz, .inl (va_cpy g (va_cpy pf pf (k * 4) ((k * 4) + 4) ((ct * 4) - (k * 4))) 0 (k * 4) 4))), (ga, .inl (cI, 4, .inl g))] H := hP
  have hD : va_D A [(pl, .inr (1, [.ref pa, .int (nI ct), .int (nI mo)])), (pa, .inl (cI, pz, .inl (va_cpy g (va_cpy pf pf (k * 4) ((k * 4) + 4) ((ct * 4) - (k * 4))) 0 (k * 4) 4))), (ga, .inl (cI, 4, .inl g))] := hD
  refine lv_aload_n hx hb d_PL_putAt_50 rfl (lv_at hl 1 rfl) ?_
  refine lv_dup hx hb d_PL_putAt_51 rfl ?_
  refine va_get (D := D) (ci := 1) (v := .int (nI ct)) (C := cn_PL) (T := ft_PL) (N := 3) hx hb hf_PL (fun _ h => h) hown hK hP 0 rfl rfl 1 (by decide) (gw.at G hx0 mw_42 rfl _) (fun _ h9 => h9) rfl d_PL_putAt_52 ?_
  refine lv_iconst (v := (1 : Int32)) hx hb d_PL_putAt_55 (by decide) ?_
  refine lv_iadd hx hb d_PL_putAt_56 ?_
  refine tp_i (y := nI (ct + 1)) (nI_add ct 1) ?_
  refine va_put (D := D) (ci := 1) (v := .int (nI (ct + 1))) (ty := .int) (C := cn_PL) (T := ft_PL) (N := 3) hx hb hf_PL (fun _ h => h) fy_PL fk_PL fn_PL hown hK hP hD hS 0 rfl rfl 1 (by decide) (gw.at G hx0 mw_42 rfl _) (fun _ h9 => h9) rfl (by decide +kernel) rfl rfl (Nat.le_of_ble_eq_true rfl) d_PL_putAt_57 (fun H locs hP hD hS => ?_)
  have hP : va_P D kl [(pl, .inr (1, [.ref pa, .int (nI (ct + 1)), .int (nI mo)])), (pa, .inl (cI, pz, .inl (va_cpy g (va_cpy pf pf (k * 4) ((k * 4) + 4) ((ct * 4) - (k * 4))) 0 (k * 4) 4))), (ga, .inl (cI, 4, .inl g))] H := hP
  have hD : va_D A [(pl, .inr (1, [.ref pa, .int (nI (ct + 1)), .int (nI mo)])), (pa, .inl (cI, pz, .inl (va_cpy g (va_cpy pf pf (k * 4) ((k * 4) + 4) ((ct * 4) - (k * 4))) 0 (k * 4) 4))), (ga, .inl (cI, 4, .inl g))] := hD
  exact tx_mono (fun _ h => tx_Z.of h) (W.vret hx hb hr (fun t ht hW => ⟨⟨[(pl, .inr (1, [.ref pa, .int (nI (ct + 1)), .int (nI mo)])), (pa, .inl (cI, pz, .inl (va_cpy g (va_cpy pf pf (k * 4) ((k * 4) + 4) ((ct * 4) - (k * 4))) 0 (k * 4) 4))), (ga, .inl (cI, 4, .inl g))], ⟨rfl, rfl⟩, by rw [ht]; exact hP.sub [0, 1, 2] rfl, hD.sub [0, 1, 2] (by decide) rfl⟩, hS.F ht⟩) hS.2.2 d_PL_putAt_60)

set_option maxHeartbeats 4000000 in
set_option maxRecDepth 100000 in
theorem c_PL_putFull {l : Launch} {s0 : State} {b0 : Addr} {D : va_G} {cI cJ cZ : ClassId} {tC tS : Nat} (E : gE l s0 b0 D cI cJ cZ tC tS) (sz : Nat) (pl : Nat) (pa : Nat) (ct : Nat) (mo : Nat) (pz : Nat) (pf : Nat → Int32) (k : Nat) (ga : Nat) (hpz : pz = mo * 4) (hmo : mo ≤ 107) (hct : ct ≤ mo) (hlt : ct = mo) : cx_M l s0 D kl y_PL_putAt b_PL_putAt 4 none ({ frames := 0, cells := 0, slots := 0, locals := 0 } : Room) 0 0 [.ref pl, .int (nI k), .ref ga] [(pl, .inr (1, [.ref pa, .int (nI ct), .int (nI mo)])), (pa, .inl (cI, pz, .inl pf))] sz (fun o9 _ w9 => o9 = .returned none ∧ w9 = [(pl, .inr (1, [.ref pa, .int (nI ct), .int (nI mo)])), (pa, .inl (cI, pz, .inl pf))]) := by
  refine tx_ofW (cc := b_PL_putAt) (maxL := 4) (ret := none) (by decide) rfl ?_
  intro p e s m args below meth c s₁ B hml hT hv
  obtain ⟨rfl, hsz, hP, hD0, hx0⟩ := hv
  have hx := B.exec
  have hb := B.bytes
  have hr := B.returns
  have G := E.2.1
  have hown : s.vm.findClass cn_PL = some m.cls := findClass_of_methodNamed B.named
  have hlocks := B.notSynchronized
  have hK := va_K.moved hx0.1.alike E.2.2.1
  have hf_PL : ∀ w99 ∈ u_ws cn_PL ft_PL 3, w99.before ([.ref pl, .int (nI k), .ref ga] : List Value).toArray s = true := fun w99 h99 => gw.at G hx0 (fw_PL w99 h99) (fo_PL w99 h99) _
  subst hsz
  have hA0 := cx_new hD0 hx0.2.1
  have hD := hD0.self (sz := s.heap.size)
  generalize hAe : va_A [(pl, .inr (1, [.ref pa, .int (nI ct), .int (nI mo)])), (pa, .inl (cI, pz, .inl pf))] s.heap.size = A at hD hA0 ⊢
  have hA : ∀ q : Nat, s.heap.size ≤ q → A q := fun q h => by rw [← hAe]; exact Or.inr h
  have hS : va_S A s.heap s.heap [] := va_S.rf
  have hl := lv_entry ([.ref pl, .int (nI k), .ref ga]) (n := 4) (Nat.le_of_ble_eq_true rfl)
  rw [lg_entry_eq]
  generalize (lg_sl ([.ref pl, .int (nI k), .ref ga]) ++ List.replicate (4 - (lg_sl ([.ref pl, .int (nI k), .ref ga])).length) Slot.unset).toArray = ls at hl ⊢
  have hl : lv_has ls 4 [(0, .ref pl), (1, .int (nI k)), (2, .ref ga)] := hl
  have hP : va_P D kl [(pl, .inr (1, [.ref pa, .int (nI ct), .int (nI mo)])), (pa, .inl (cI, pz, .inl pf))] s.heap := hP
  have hml : c.maxLocals = 4 := hml
  refine lv_aload_n hx hb d_PL_putAt_0 rfl (lv_at hl 0 rfl) ?_
  refine va_get (D := D) (ci := 1) (v := .int (nI ct)) (C := cn_PL) (T := ft_PL) (N := 3) hx hb hf_PL (fun _ h => h) hown hK hP 0 rfl rfl 1 (by decide) (gw.at G hx0 mw_42 rfl _) (fun _ h9 => h9) rfl d_PL_putAt_1 ?_
  refine lv_aload_n hx hb d_PL_putAt_4 rfl (lv_at hl 0 rfl) ?_
  refine va_get (D := D) (ci := 1) (v := .int (nI mo)) (C := cn_PL) (T := ft_PL) (N := 3) hx hb hf_PL (fun _ h => h) hown hK hP 0 rfl rfl 2 (by decide) (gw.at G hx0 mw_47 rfl _) (fun _ h9 => h9) rfl d_PL_putAt_5 ?_
  refine lv_icmp_lt (tgt := 12) hx hb d_PL_putAt_8 (by decide) (fun h99 => absurd h99 (fun z99 => absurd ((nI_ltI (a := ct) (b := mo) (by omega) (by omega)).mp z99) (by omega))) (fun _ => ?_)
  exact tx_mono (fun _ h => tx_Z.of h) (W.vret hx hb hr (fun t ht hW => ⟨⟨[(pl, .inr (1, [.ref pa, .int (nI ct), .int (nI mo)])), (pa, .inl (cI, pz, .inl pf))], ⟨rfl, rfl⟩, by rw [ht]; exact hP.sub [0, 1] rfl, hD.sub [0, 1] (by decide) rfl⟩, hS.F ht⟩) hS.2.2 d_PL_putAt_11)

set_option maxHeartbeats 4000000 in
set_option maxRecDepth 100000 in
theorem c_PL_remove {l : Launch} {s0 : State} {b0 : Addr} {D : va_G} {cI cJ cZ : ClassId} {tC tS : Nat} (E : gE l s0 b0 D cI cJ cZ tC tS) (sz : Nat) (pl : Nat) (pa : Nat) (ct : Nat) (mo : Nat) (pz : Nat) (pf : Nat → Int32) (k : Nat) (hpz : pz = mo * 4) (hmo : mo ≤ 107) (hct : ct ≤ mo) (hk : k < ct) : cx_M l s0 D kl y_PL_removeAt b_PL_removeAt 3 none ({ frames := 1, cells := 0, slots := 0, locals := 40 } : Room) 0 0 [.ref pl, .int (nI k)] [(pl, .inr (1, [.ref pa, .int (nI ct), .int (nI mo)])), (pa, .inl (cI, pz, .inl pf))] sz (fun o9 _ w9 => o9 = .returned none ∧ w9 = [(pl, .inr (1, [.ref pa, .int (nI (ct - 1)), .int (nI mo)])), (pa, .inl (cI, pz, .inl (va_cpy pf pf ((k + 1) * 4) (k * 4) (ct * 4 - (k + 1) * 4))))]) := by
  refine tx_ofW (cc := b_PL_removeAt) (maxL := 3) (ret := none) (by decide) rfl ?_
  intro p e s m args below meth c s₁ B hml hT hv
  obtain ⟨rfl, hsz, hP, hD0, hx0⟩ := hv
  have hx := B.exec
  have hb := B.bytes
  have hr := B.returns
  have G := E.2.1
  have hown : s.vm.findClass cn_PL = some m.cls := findClass_of_methodNamed B.named
  have hlocks := B.notSynchronized
  have hK := va_K.moved hx0.1.alike E.2.2.1
  have hf_PL : ∀ w99 ∈ u_ws cn_PL ft_PL 3, w99.before ([.ref pl, .int (nI k)] : List Value).toArray s = true := fun w99 h99 => gw.at G hx0 (fw_PL w99 h99) (fo_PL w99 h99) _
  subst hsz
  have hA0 := cx_new hD0 hx0.2.1
  have hD := hD0.self (sz := s.heap.size)
  generalize hAe : va_A [(pl, .inr (1, [.ref pa, .int (nI ct), .int (nI mo)])), (pa, .inl (cI, pz, .inl pf))] s.heap.size = A at hD hA0 ⊢
  have hA : ∀ q : Nat, s.heap.size ≤ q → A q := fun q h => by rw [← hAe]; exact Or.inr h
  have hS : va_S A s.heap s.heap [] := va_S.rf
  have hl := lv_entry ([.ref pl, .int (nI k)]) (n := 3) (Nat.le_of_ble_eq_true rfl)
  rw [lg_entry_eq]
  generalize (lg_sl ([.ref pl, .int (nI k)]) ++ List.replicate (3 - (lg_sl ([.ref pl, .int (nI k)])).length) Slot.unset).toArray = ls at hl ⊢
  have hl : lv_has ls 3 [(0, .ref pl), (1, .int (nI k))] := hl
  have hP : va_P D kl [(pl, .inr (1, [.ref pa, .int (nI ct), .int (nI mo)])), (pa, .inl (cI, pz, .inl pf))] s.heap := hP
  have hml : c.maxLocals = 3 := hml
  refine lv_iload_n hx hb d_PL_removeAt_0 rfl (lv_at hl 1 rfl) ?_
  refine lv_iconst (v := (1 : Int32)) hx hb d_PL_removeAt_1 (by decide) ?_
  refine lv_iadd hx hb d_PL_removeAt_2 ?_
  refine tp_i (y := nI (k + 1)) (nI_add k 1) ?_
  refine lv_iconst (v := (4 : Int32)) hx hb d_PL_removeAt_3 (by decide) ?_
  refine lv_imul hx hb d_PL_removeAt_4 ?_
  refine tp_i (y := nI ((k + 1) * 4)) (nI_mul (k + 1) 4) ?_
  refine lv_istore_n (lv' := [(2, .int (nI ((k + 1) * 4))), (0, .ref pl), (1, .int (nI k))]) hx hb d_PL_removeAt_5 rfl hl (by decide) rfl (fun ls hl => ?_)
  refine lv_aload_n hx hb d_PL_removeAt_6 rfl (lv_at hl 1 rfl) ?_
  refine va_get (D := D) (ci := 1) (v := .ref pa) (C := cn_PL) (T := ft_PL) (N := 3) hx hb hf_PL (fun _ h => h) hown hK hP 0 rfl rfl 0 (by decide) (gw.at G hx0 mw_39 rfl _) (fun _ h9 => h9) rfl d_PL_removeAt_7 ?_
  refine lv_iload_n hx hb d_PL_removeAt_10 rfl (lv_at hl 0 rfl) ?_
  refine lv_aload_n hx hb d_PL_removeAt_11 rfl (lv_at hl 1 rfl) ?_
  refine va_get (D := D) (ci := 1) (v := .ref pa) (C := cn_PL) (T := ft_PL) (N := 3) hx hb hf_PL (fun _ h => h) hown hK hP 0 rfl rfl 0 (by decide) (gw.at G hx0 mw_39 rfl _) (fun _ h9 => h9) rfl d_PL_removeAt_12 ?_
  refine lv_iload_n hx hb d_PL_removeAt_15 rfl (lv_at hl 2 rfl) ?_
  refine lv_iconst (v := (4 : Int32)) hx hb d_PL_removeAt_16 (by decide) ?_
  refine lv_imul hx hb d_PL_removeAt_17 ?_
  refine tp_i (y := nI (k * 4)) (nI_mul k 4) ?_
  refine lv_aload_n hx hb d_PL_removeAt_18 rfl (lv_at hl 1 rfl) ?_
  refine va_get (D := D) (ci := 1) (v := .int (nI ct)) (C := cn_PL) (T := ft_PL) (N := 3) hx hb hf_PL (fun _ h => h) hown hK hP 0 rfl rfl 1 (by decide) (gw.at G hx0 mw_42 rfl _) (fun _ h9 => h9) rfl d_PL_removeAt_19 ?_
  refine lv_iconst (v := (4 : Int32)) hx hb d_PL_removeAt_22 (by decide) ?_
  refine lv_imul hx hb d_PL_removeAt_23 ?_
  refine tp_i (y := nI (ct * 4)) (nI_mul ct 4) ?_
  refine lv_iload_n hx hb d_PL_removeAt_24 rfl (lv_at hl 0 rfl) ?_
  refine lv_isub hx hb d_PL_removeAt_25 ?_
  refine tp_i (y := nI ((ct * 4) - ((k + 1) * 4))) (nI_sub (a := ct * 4) (b := (k + 1) * 4) (by omega)) ?_
  refine va_copyi hx hb (hml.trans hl.1.symm) hown (gw.at G hx0 mw_356 rfl _) (gw.at G hx0 mw_358 rfl _) (gw.at G hx0 mw_357 rfl _) (gw.at G hx0 mw_15 rfl _) hK hP hD hS 1 1 0 0 rfl rfl rfl rfl rfl (nI_pos (n := (k + 1) * 4) (by omega)) (nI_pos (n := k * 4) (by omega)) (nI_pos (n := (ct * 4) - ((k + 1) * 4)) (by omega)) (by rw [nI_clamp (n := (k + 1) * 4) (by omega), nI_clamp (n := (ct * 4) - ((k + 1) * 4)) (by omega)]; show ((k + 1) * 4) + ((ct * 4) - ((k + 1) * 4)) ≤ pz; omega) (by rw [nI_clamp (n := k * 4) (by omega), nI_clamp (n := (ct * 4) - ((k + 1) * 4)) (by omega)]; show (k * 4) + ((ct * 4) - ((k + 1) * 4)) ≤ pz; omega) (fun _ _ => rfl) (by decide) (by decide) d_PL_removeAt_26 (fun H locs hP hD hS => ?_)
  rw [nI_clamp (n := (k + 1) * 4) (by omega), nI_clamp (n := k * 4) (by omega), nI_clamp (n := (ct * 4) - ((k + 1) * 4)) (by omega)] at hP hD
  have hP : va_P D kl [(pl, .inr (1, [.ref pa, .int (nI ct), .int (nI mo)])), (pa, .inl (cI, pz, .inl (va_cpy pf pf ((k + 1) * 4) (k * 4) ((ct * 4) - ((k + 1) * 4)))))] H := hP
  have hD : va_D A [(pl, .inr (1, [.ref pa, .int (nI ct), .int (nI mo)])), (pa, .inl (cI, pz, .inl (va_cpy pf pf ((k + 1) * 4) (k * 4) ((ct * 4) - ((k + 1) * 4)))))] := hD
  refine lv_aload_n hx hb d_PL_removeAt_29 rfl (lv_at hl 1 rfl) ?_
  refine lv_dup hx hb d_PL_removeAt_30 rfl ?_
  refine va_get (D := D) (ci := 1) (v := .int (nI ct)) (C := cn_PL) (T := ft_PL) (N := 3) hx hb hf_PL (fun _ h => h) hown hK hP 0 rfl rfl 1 (by decide) (gw.at G hx0 mw_42 rfl _) (fun _ h9 => h9) rfl d_PL_removeAt_31 ?_
  refine lv_iconst (v := (1 : Int32)) hx hb d_PL_removeAt_34 (by decide) ?_
  refine lv_isub hx hb d_PL_removeAt_35 ?_
  refine tp_i (y := nI (ct - 1)) (nI_sub (a := ct) (b := 1) (by omega)) ?_
  refine va_put (D := D) (ci := 1) (v := .int (nI (ct - 1))) (ty := .int) (C := cn_PL) (T := ft_PL) (N := 3) hx hb hf_PL (fun _ h => h) fy_PL fk_PL fn_PL hown hK hP hD hS 0 rfl rfl 1 (by decide) (gw.at G hx0 mw_42 rfl _) (fun _ h9 => h9) rfl (by decide +kernel) rfl rfl (Nat.le_of_ble_eq_true rfl) d_PL_removeAt_36 (fun H locs hP hD hS => ?_)
  have hP : va_P D kl [(pl, .inr (1, [.ref pa, .int (nI (ct - 1)), .int (nI mo)])), (pa, .inl (cI, pz, .inl (va_cpy pf pf ((k + 1) * 4) (k * 4) ((ct * 4) - ((k + 1) * 4)))))] H := hP
  have hD : va_D A [(pl, .inr (1, [.ref pa, .int (nI (ct - 1)), .int (nI mo)])), (pa, .inl (cI, pz, .inl (va_cpy pf pf ((k + 1) * 4) (k * 4) ((ct * 4) - ((k + 1) * 4)))))] := hD
  exact tx_mono (fun _ h => tx_Z.of h) (W.vret hx hb hr (fun t ht hW => ⟨⟨[(pl, .inr (1, [.ref pa, .int (nI (ct - 1)), .int (nI mo)])), (pa, .inl (cI, pz, .inl (va_cpy pf pf ((k + 1) * 4) (k * 4) ((ct * 4) - ((k + 1) * 4)))))], ⟨rfl, rfl⟩, by rw [ht]; exact hP.sub [0, 1] rfl, hD.sub [0, 1] (by decide) rfl⟩, hS.F ht⟩) hS.2.2 d_PL_removeAt_39)

set_option maxHeartbeats 4000000 in
set_option maxRecDepth 100000 in
theorem c_PL_order {l : Launch} {s0 : State} {b0 : Addr} {D : va_G} {cI cJ cZ : ClassId} {tC tS : Nat} (E : gE l s0 b0 D cI cJ cZ tC tS) (sz : Nat) (pl : Nat) (pa : Nat) (ct : Nat) (mo : Nat) (pz : Nat) (pf : Nat → Int32) (k : Nat) (ga : Nat) (g : Nat → Int32) (hpz : pz = mo * 4) (hmo : mo ≤ 107) (hct : ct ≤ mo) (hk : k < mo) : cx_M l s0 D kl y_PL_order b_PL_order 5 (some .int) ({ frames := 1, cells := 0, slots := 0, locals := 22 } : Room) 0 0 [.ref pl, .int (nI k), .ref ga] [(pl, .inr (1, [.ref pa, .int (nI ct), .int (nI mo)])), (pa, .inl (cI, pz, .inl pf)), (ga, .inl (cI, 4, .inl g))] sz (fun o9 _ w9 => o9 = .returned (some (.int (ord4 pf k g))) ∧ w9 = [(pl, .inr (1, [.ref pa, .int (nI ct), .int (nI mo)])), (pa, .inl (cI, pz, .inl pf)), (ga, .inl (cI, 4, .inl g))]) := by
  refine tx_ofW (cc := b_PL_order) (maxL := 5) (ret := (some .int)) (by decide) rfl ?_
  intro p e s m args below meth c s₁ B hml hT hv
  obtain ⟨rfl, hsz, hP, hD0, hx0⟩ := hv
  have hx := B.exec
  have hb := B.bytes
  have hr := B.returns
  have G := E.2.1
  have hown : s.vm.findClass cn_PL = some m.cls := findClass_of_methodNamed B.named
  have hlocks := B.notSynchronized
  have hK := va_K.moved hx0.1.alike E.2.2.1
  subst hsz
  have hA0 := cx_new hD0 hx0.2.1
  have hD := hD0.self (sz := s.heap.size)
  generalize hAe : va_A [(pl, .inr (1, [.ref pa, .int (nI ct), .int (nI mo)])), (pa, .inl (cI, pz, .inl pf)), (ga, .inl (cI, 4, .inl g))] s.heap.size = A at hD hA0 ⊢
  have hA : ∀ q : Nat, s.heap.size ≤ q → A q := fun q h => by rw [← hAe]; exact Or.inr h
  have hS : va_S A s.heap s.heap [] := va_S.rf
  have hl := lv_entry ([.ref pl, .int (nI k), .ref ga]) (n := 5) (Nat.le_of_ble_eq_true rfl)
  rw [lg_entry_eq]
  generalize (lg_sl ([.ref pl, .int (nI k), .ref ga]) ++ List.replicate (5 - (lg_sl ([.ref pl, .int (nI k), .ref ga])).length) Slot.unset).toArray = ls at hl ⊢
  have hl : lv_has ls 5 [(0, .ref pl), (1, .int (nI k)), (2, .ref ga)] := hl
  have hP : va_P D kl [(pl, .inr (1, [.ref pa, .int (nI ct), .int (nI mo)])), (pa, .inl (cI, pz, .inl pf)), (ga, .inl (cI, 4, .inl g))] s.heap := hP
  have hml : c.maxLocals = 5 := hml
  refine lv_iconst (v := (0 : Int32)) hx hb d_PL_order_0 (by decide) ?_
  refine lv_istore_n (lv' := [(3, .int (0 : Int32)), (0, .ref pl), (1, .int (nI k)), (2, .ref ga)]) hx hb d_PL_order_1 rfl hl (by decide) rfl (fun ls hl => ?_)
  refine lv_iload_n hx hb d_PL_order_2 rfl (lv_at hl 0 rfl) ?_
  refine lv_iconst (v := (4 : Int32)) hx hb d_PL_order_3 (by decide) ?_
  refine lv_icmp_ge (tgt := 43) hx hb d_PL_order_4 (by decide) (fun h99 => absurd h99 (by decide)) (fun _ => ?_)
  refine lv_aload_n hx hb d_PL_order_7 rfl (lv_at hl 1 rfl) ?_
  refine lv_iload_n hx hb d_PL_order_8 rfl (lv_at hl 2 rfl) ?_
  refine lv_iload_n hx hb d_PL_order_9 rfl (lv_at hl 0 rfl) ?_
  refine cx_call (D := D) (cl := kl) (ws := _) (wc := [(pl, .inr (1, [.ref pa, .int (nI ct), .int (nI mo)])), (pa, .inl (cI, pz, .inl pf))]) (wr := [(ga, .inl (cI, 4, .inl g))]) (tx_runV (C := cn_PL) (b := pl) (As := [.int (nI k), .int (0 : Int32)]) (rest := []) hx hb hml hown (c_PL_at E s.heap.size pl pa ct mo pz pf k 0 hpz hmo hct hk (by decide)) (cx_C (b0 := b0) G hx0 mw_251 mw_3 ny_PL_at (by decide)) (gw.at G hx0 mw_248 rfl _) (gw.at G hx0 mw_249 rfl _) (gw.at G hx0 mw_250 rfl _) ⟨cx_blind, va_recv hK hP (q0 := 0) (ci := 1) (q := (cn_PL, ft_PL, 3)) rfl rfl, (cx_pre (s := s) hx0 hP hD hS hA0 [0, 1] rfl rfl (by decide))⟩ rfl rfl hl.1 rfl (lv_room (Nat.le_of_ble_eq_true rfl)) d_PL_order_10 ⟨by decide, by decide⟩) hP hD hS hA [0, 1] [2] rfl rfl (by decide) (by decide) (fun v t w1 H locs ht hW9 hp hP hD hS => ?_) (fun x t w1 H locs ht hW9 hp hP hD hS => by obtain ⟨h9, -⟩ := hp; cases h9)
  obtain ⟨h9, rfl⟩ := hp
  cases h9
  refine W.eq (g2 := F0 m 13 ls [.int (pf (k * 4 + 0))]) rfl ?_
  refine W.widen (k := 0) (n := 0) (by decide) (by decide) ?_
  have hP : va_P D kl [(ga, .inl (cI, 4, .inl g)), (pl, .inr (1, [.ref pa, .int (nI ct), .int (nI mo)])), (pa, .inl (cI, pz, .inl pf))] H := hP
  have hD : va_D A [(ga, .inl (cI, 4, .inl g)), (pl, .inr (1, [.ref pa, .int (nI ct), .int (nI mo)])), (pa, .inl (cI, pz, .inl pf))] := hD
  refine lv_istore (lv' := [(4, .int (pf (k * 4 + 0))), (3, .int (0 : Int32)), (0, .ref pl), (1, .int (nI k)), (2, .ref ga)]) hx hb d_PL_order_13 hl (by decide) rfl (fun ls hl => ?_)
  refine lv_iload hx hb d_PL_order_15 (lv_at hl 0 rfl) ?_
  refine lv_aload_n hx hb d_PL_order_17 rfl (lv_at hl 4 rfl) ?_
  refine lv_iload_n hx hb d_PL_order_18 rfl (lv_at hl 1 rfl) ?_
  refine va_iald hx hb hK hP 0 0 rfl rfl (vp_in_iff.mpr (by decide)) d_PL_order_19 ?_
  refine tp_i (y := g 0) (by rfl) ?_
  refine lv_icmp_eq (tgt := 37) hx hb d_PL_order_20 (by decide) (fun h_1 => ?_) (fun h_1 => ?_)
  · refine lv_iinc (lv' := [(3, .int (1 : Int32)), (4, .int (pf (k * 4 + 0))), (0, .ref pl), (1, .int (nI k)), (2, .ref ga)]) (k := 1) (v := (1 : Int32)) hx hb d_PL_order_37 hl rfl (by decide) (by decide) rfl (fun ls hl => ?_)
    refine lv_goto (tgt := 2) hx hb d_PL_order_40 (by decide) ?_
    refine lv_iload_n hx hb d_PL_order_2 rfl (lv_at hl 0 rfl) ?_
    refine lv_iconst (v := (4 : Int32)) hx hb d_PL_order_3 (by decide) ?_
    refine lv_icmp_ge (tgt := 43) hx hb d_PL_order_4 (by decide) (fun h99 => absurd h99 (by decide)) (fun _ => ?_)
    refine lv_aload_n hx hb d_PL_order_7 rfl (lv_at hl 2 rfl) ?_
    refine lv_iload_n hx hb d_PL_order_8 rfl (lv_at hl 3 rfl) ?_
    refine lv_iload_n hx hb d_PL_order_9 rfl (lv_at hl 0 rfl) ?_
    refine cx_call (D := D) (cl := kl) (ws := _) (wc := [(pl, .inr (1, [.ref pa, .int (nI ct), .int (nI mo)])), (pa, .inl (cI, pz, .inl pf))]) (wr := [(ga, .inl (cI, 4, .inl g))]) (tx_runV (C := cn_PL) (b := pl) (As := [.int (nI k), .int (1 : Int32)]) (rest := []) hx hb hml hown (c_PL_at E H.size pl pa ct mo pz pf k 1 hpz hmo hct hk (by decide)) (cx_C (b0 := b0) G hx0 mw_251 mw_3 ny_PL_at (by decide)) (gw.at G hx0 mw_248 rfl _) (gw.at G hx0 mw_249 rfl _) (gw.at G hx0 mw_250 rfl _) ⟨cx_blind, va_recv hK hP (q0 := 1) (ci := 1) (q := (cn_PL, ft_PL, 3)) rfl rfl, (cx_pre (s := s) hx0 hP hD hS hA0 [1, 2] rfl rfl (by decide))⟩ rfl rfl hl.1 rfl (lv_room (Nat.le_of_ble_eq_true rfl)) d_PL_order_10 ⟨by decide, by decide⟩) hP hD hS hA [1, 2] [0] rfl rfl (by decide) (by decide) (fun v t w1 H locs ht hW9 hp hP hD hS => ?_) (fun x t w1 H locs ht hW9 hp hP hD hS => by obtain ⟨h9, -⟩ := hp; cases h9)
    obtain ⟨h9, rfl⟩ := hp
    cases h9
    refine W.eq (g2 := F0 m 13 ls [.int (pf (k * 4 + 1))]) rfl ?_
    refine W.widen (k := 0) (n := 0) (by decide) (by decide) ?_
    have hP : va_P D kl [(ga, .inl (cI, 4, .inl g)), (pl, .inr (1, [.ref pa, .int (nI ct), .int (nI mo)])), (pa, .inl (cI, pz, .inl pf))] H := hP
    have hD : va_D A [(ga, .inl (cI, 4, .inl g)), (pl, .inr (1, [.ref pa, .int (nI ct), .int (nI mo)])), (pa, .inl (cI, pz, .inl pf))] := hD
    refine lv_istore (lv' := [(4, .int (pf (k * 4 + 1))), (3, .int (1 : Int32)), (0, .ref pl), (1, .int (nI k)), (2, .ref ga)]) hx hb d_PL_order_13 hl (by decide) rfl (fun ls hl => ?_)
    refine lv_iload hx hb d_PL_order_15 (lv_at hl 0 rfl) ?_
    refine lv_aload_n hx hb d_PL_order_17 rfl (lv_at hl 4 rfl) ?_
    refine lv_iload_n hx hb d_PL_order_18 rfl (lv_at hl 1 rfl) ?_
    refine va_iald hx hb hK hP 0 0 rfl rfl (vp_in_iff.mpr (by decide)) d_PL_order_19 ?_
    refine tp_i (y := g 1) (by rfl) ?_
    refine lv_icmp_eq (tgt := 37) hx hb d_PL_order_20 (by decide) (fun h_2 => ?_) (fun h_2 => ?_)
    · refine lv_iinc (lv' := [(3, .int (2 : Int32)), (4, .int (pf (k * 4 + 1))), (0, .ref pl), (1, .int (nI k)), (2, .ref ga)]) (k := 1) (v := (2 : Int32)) hx hb d_PL_order_37 hl rfl (by decide) (by decide) rfl (fun ls hl => ?_)
      refine lv_goto (tgt := 2) hx hb d_PL_order_40 (by decide) ?_
      refine lv_iload_n hx hb d_PL_order_2 rfl (lv_at hl 0 rfl) ?_
      refine lv_iconst (v := (4 : Int32)) hx hb d_PL_order_3 (by decide) ?_
      refine lv_icmp_ge (tgt := 43) hx hb d_PL_order_4 (by decide) (fun h99 => absurd h99 (by decide)) (fun _ => ?_)
      refine lv_aload_n hx hb d_PL_order_7 rfl (lv_at hl 2 rfl) ?_
      refine lv_iload_n hx hb d_PL_order_8 rfl (lv_at hl 3 rfl) ?_
      refine lv_iload_n hx hb d_PL_order_9 rfl (lv_at hl 0 rfl) ?_
      refine cx_call (D := D) (cl := kl) (ws := _) (wc := [(pl, .inr (1, [.ref pa, .int (nI ct), .int (nI mo)])), (pa, .inl (cI, pz, .inl pf))]) (wr := [(ga, .inl (cI, 4, .inl g))]) (tx_runV (C := cn_PL) (b := pl) (As := [.int (nI k), .int (2 : Int32)]) (rest := []) hx hb hml hown (c_PL_at E H.size pl pa ct mo pz pf k 2 hpz hmo hct hk (by decide)) (cx_C (b0 := b0) G hx0 mw_251 mw_3 ny_PL_at (by decide)) (gw.at G hx0 mw_248 rfl _) (gw.at G hx0 mw_249 rfl _) (gw.at G hx0 mw_250 rfl _) ⟨cx_blind, va_recv hK hP (q0 := 1) (ci := 1) (q := (cn_PL, ft_PL, 3)) rfl rfl, (cx_pre (s := s) hx0 hP hD hS hA0 [1, 2] rfl rfl (by decide))⟩ rfl rfl hl.1 rfl (lv_room (Nat.le_of_ble_eq_true rfl)) d_PL_order_10 ⟨by decide, by decide⟩) hP hD hS hA [1, 2] [0] rfl rfl (by decide) (by decide) (fun v t w1 H locs ht hW9 hp hP hD hS => ?_) (fun x t w1 H locs ht hW9 hp hP hD hS => by obtain ⟨h9, -⟩ := hp; cases h9)
      obtain ⟨h9, rfl⟩ := hp
      cases h9
      refine W.eq (g2 := F0 m 13 ls [.int (pf (k * 4 + 2))]) rfl ?_
      refine W.widen (k := 0) (n := 0) (by decide) (by decide) ?_
      have hP : va_P D kl [(ga, .inl (cI, 4, .inl g)), (pl, .inr (1, [.ref pa, .int (nI ct), .int (nI mo)])), (pa, .inl (cI, pz, .inl pf))] H := hP
      have hD : va_D A [(ga, .inl (cI, 4, .inl g)), (pl, .inr (1, [.ref pa, .int (nI ct), .int (nI mo)])), (pa, .inl (cI, pz, .inl pf))] := hD
      refine lv_istore (lv' := [(4, .int (pf (k * 4 + 2))), (3, .int (2 : Int32)), (0, .ref pl), (1, .int (nI k)), (2, .ref ga)]) hx hb d_PL_order_13 hl (by decide) rfl (fun ls hl => ?_)
      refine lv_iload hx hb d_PL_order_15 (lv_at hl 0 rfl) ?_
      refine lv_aload_n hx hb d_PL_order_17 rfl (lv_at hl 4 rfl) ?_
      refine lv_iload_n hx hb d_PL_order_18 rfl (lv_at hl 1 rfl) ?_
      refine va_iald hx hb hK hP 0 0 rfl rfl (vp_in_iff.mpr (by decide)) d_PL_order_19 ?_
      refine tp_i (y := g 2) (by rfl) ?_
      refine lv_icmp_eq (tgt := 37) hx hb d_PL_order_20 (by decide) (fun h_3 => ?_) (fun h_3 => ?_)
      · refine lv_iinc (lv' := [(3, .int (3 : Int32)), (4, .int (pf (k * 4 + 2))), (0, .ref pl), (1, .int (nI k)), (2, .ref ga)]) (k := 1) (v := (3 : Int32)) hx hb d_PL_order_37 hl rfl (by decide) (by decide) rfl (fun ls hl => ?_)
        refine lv_goto (tgt := 2) hx hb d_PL_order_40 (by decide) ?_
        refine lv_iload_n hx hb d_PL_order_2 rfl (lv_at hl 0 rfl) ?_
        refine lv_iconst (v := (4 : Int32)) hx hb d_PL_order_3 (by decide) ?_
        refine lv_icmp_ge (tgt := 43) hx hb d_PL_order_4 (by decide) (fun h99 => absurd h99 (by decide)) (fun _ => ?_)
        refine lv_aload_n hx hb d_PL_order_7 rfl (lv_at hl 2 rfl) ?_
        refine lv_iload_n hx hb d_PL_order_8 rfl (lv_at hl 3 rfl) ?_
        refine lv_iload_n hx hb d_PL_order_9 rfl (lv_at hl 0 rfl) ?_
        refine cx_call (D := D) (cl := kl) (ws := _) (wc := [(pl, .inr (1, [.ref pa, .int (nI ct), .int (nI mo)])), (pa, .inl (cI, pz, .inl pf))]) (wr := [(ga, .inl (cI, 4, .inl g))]) (tx_runV (C := cn_PL) (b := pl) (As := [.int (nI k), .int (3 : Int32)]) (rest := []) hx hb hml hown (c_PL_at E H.size pl pa ct mo pz pf k 3 hpz hmo hct hk (by decide)) (cx_C (b0 := b0) G hx0 mw_251 mw_3 ny_PL_at (by decide)) (gw.at G hx0 mw_248 rfl _) (gw.at G hx0 mw_249 rfl _) (gw.at G hx0 mw_250 rfl _) ⟨cx_blind, va_recv hK hP (q0 := 1) (ci := 1) (q := (cn_PL, ft_PL, 3)) rfl rfl, (cx_pre (s := s) hx0 hP hD hS hA0 [1, 2] rfl rfl (by decide))⟩ rfl rfl hl.1 rfl (lv_room (Nat.le_of_ble_eq_true rfl)) d_PL_order_10 ⟨by decide, by decide⟩) hP hD hS hA [1, 2] [0] rfl rfl (by decide) (by decide) (fun v t w1 H locs ht hW9 hp hP hD hS => ?_) (fun x t w1 H locs ht hW9 hp hP hD hS => by obtain ⟨h9, -⟩ := hp; cases h9)
        obtain ⟨h9, rfl⟩ := hp
        cases h9
        refine W.eq (g2 := F0 m 13 ls [.int (pf (k * 4 + 3))]) rfl ?_
        refine W.widen (k := 0) (n := 0) (by decide) (by decide) ?_
        have hP : va_P D kl [(ga, .inl (cI, 4, .inl g)), (pl, .inr (1, [.ref pa, .int (nI ct), .int (nI mo)])), (pa, .inl (cI, pz, .inl pf))] H := hP
        have hD : va_D A [(ga, .inl (cI, 4, .inl g)), (pl, .inr (1, [.ref pa, .int (nI ct), .int (nI mo)])), (pa, .inl (cI, pz, .inl pf))] := hD
        refine lv_istore (lv' := [(4, .int (pf (k * 4 + 3))), (3, .int (3 : Int32)), (0, .ref pl), (1, .int (nI k)), (2, .ref ga)]) hx hb d_PL_order_13 hl (by decide) rfl (fun ls hl => ?_)
        refine lv_iload hx hb d_PL_order_15 (lv_at hl 0 rfl) ?_
        refine lv_aload_n hx hb d_PL_order_17 rfl (lv_at hl 4 rfl) ?_
        refine lv_iload_n hx hb d_PL_order_18 rfl (lv_at hl 1 rfl) ?_
        refine va_iald hx hb hK hP 0 0 rfl rfl (vp_in_iff.mpr (by decide)) d_PL_order_19 ?_
        refine tp_i (y := g 3) (by rfl) ?_
        refine lv_icmp_eq (tgt := 37) hx hb d_PL_order_20 (by decide) (fun h_4 => ?_) (fun h_4 => ?_)
        · refine lv_iinc (lv' := [(3, .int (4 : Int32)), (4, .int (pf (k * 4 + 3))), (0, .ref pl), (1, .int (nI k)), (2, .ref ga)]) (k := 1) (v := (4 : Int32)) hx hb d_PL_order_37 hl rfl (by decide) (by decide) rfl (fun ls hl => ?_)
          refine lv_goto (tgt := 2) hx hb d_PL_order_40 (by decide) ?_
          refine lv_iload_n hx hb d_PL_order_2 rfl (lv_at hl 0 rfl) ?_
          refine lv_iconst (v := (4 : Int32)) hx hb d_PL_order_3 (by decide) ?_
          refine lv_icmp_ge (tgt := 43) hx hb d_PL_order_4 (by decide) (fun _ => ?_) (fun h99 => absurd h99 (by decide))
          refine lv_iconst (v := (0 : Int32)) hx hb d_PL_order_43 (by decide) ?_
          exact tx_mono (fun _ h => tx_Z.of h) (W.iret (v := (0 : Int32)) hx hb hr (fun t ht hW => ⟨⟨[(pl, .inr (1, [.ref pa, .int (nI ct), .int (nI mo)])), (pa, .inl (cI, pz, .inl pf)), (ga, .inl (cI, 4, .inl g))], ⟨(by unfold ord4; rw [if_pos h_1, if_pos h_2, if_pos h_3, if_pos h_4]), rfl⟩, by rw [ht]; exact hP.sub [1, 2, 0] rfl, hD.sub [1, 2, 0] (by decide) rfl⟩, hS.F ht⟩) hS.2.2 d_PL_order_44)
        · refine lv_iload hx hb d_PL_order_23 (lv_at hl 0 rfl) ?_
          refine lv_aload_n hx hb d_PL_order_25 rfl (lv_at hl 4 rfl) ?_
          refine lv_iload_n hx hb d_PL_order_26 rfl (lv_at hl 1 rfl) ?_
          refine va_iald hx hb hK hP 0 0 rfl rfl (vp_in_iff.mpr (by decide)) d_PL_order_27 ?_
          refine tp_i (y := g 3) (by rfl) ?_
          refine lv_icmp_ge (tgt := 35) hx hb d_PL_order_28 (by decide) (fun h_5 => ?_) (fun h_5 => ?_)
          · refine lv_iconst (v := (1 : Int32)) hx hb d_PL_order_35 (by decide) ?_
            exact tx_mono (fun _ h => tx_Z.of h) (W.iret (v := (1 : Int32)) hx hb hr (fun t ht hW => ⟨⟨[(pl, .inr (1, [.ref pa, .int (nI ct), .int (nI mo)])), (pa, .inl (cI, pz, .inl pf)), (ga, .inl (cI, 4, .inl g))], ⟨(by unfold ord4; rw [if_pos h_1, if_pos h_2, if_pos h_3, if_neg h_4]; unfold oc; rw [if_pos h_5]), rfl⟩, by rw [ht]; exact hP.sub [1, 2, 0] rfl, hD.sub [1, 2, 0] (by decide) rfl⟩, hS.F ht⟩) hS.2.2 d_PL_order_36)
          · refine lv_iconst (v := (-1 : Int32)) hx hb d_PL_order_31 (by decide) ?_
            refine lv_goto (tgt := 36) hx hb d_PL_order_32 (by decide) ?_
            exact tx_mono (fun _ h => tx_Z.of h) (W.iret (v := (-1 : Int32)) hx hb hr (fun t ht hW => ⟨⟨[(pl, .inr (1, [.ref pa, .int (nI ct), .int (nI mo)])), (pa, .inl (cI, pz, .inl pf)), (ga, .inl (cI, 4, .inl g))], ⟨(by unfold ord4; rw [if_pos h_1, if_pos h_2, if_pos h_3, if_neg h_4]; unfold oc; rw [if_neg h_5]), rfl⟩, by rw [ht]; exact hP.sub [1, 2, 0] rfl, hD.sub [1, 2, 0] (by decide) rfl⟩, hS.F ht⟩) hS.2.2 d_PL_order_36)
      · refine lv_iload hx hb d_PL_order_23 (lv_at hl 0 rfl) ?_
        refine lv_aload_n hx hb d_PL_order_25 rfl (lv_at hl 4 rfl) ?_
        refine lv_iload_n hx hb d_PL_order_26 rfl (lv_at hl 1 rfl) ?_
        refine va_iald hx hb hK hP 0 0 rfl rfl (vp_in_iff.mpr (by decide)) d_PL_order_27 ?_
        refine tp_i (y := g 2) (by rfl) ?_
        refine lv_icmp_ge (tgt := 35) hx hb d_PL_order_28 (by decide) (fun h_6 => ?_) (fun h_6 => ?_)
        · refine lv_iconst (v := (1 : Int32)) hx hb d_PL_order_35 (by decide) ?_
          exact tx_mono (fun _ h => tx_Z.of h) (W.iret (v := (1 : Int32)) hx hb hr (fun t ht hW => ⟨⟨[(pl, .inr (1, [.ref pa, .int (nI ct), .int (nI mo)])), (pa, .inl (cI, pz, .inl pf)), (ga, .inl (cI, 4, .inl g))], ⟨(by unfold ord4; rw [if_pos h_1, if_pos h_2, if_neg h_3]; unfold oc; rw [if_pos h_6]), rfl⟩, by rw [ht]; exact hP.sub [1, 2, 0] rfl, hD.sub [1, 2, 0] (by decide) rfl⟩, hS.F ht⟩) hS.2.2 d_PL_order_36)
        · refine lv_iconst (v := (-1 : Int32)) hx hb d_PL_order_31 (by decide) ?_
          refine lv_goto (tgt := 36) hx hb d_PL_order_32 (by decide) ?_
          exact tx_mono (fun _ h => tx_Z.of h) (W.iret (v := (-1 : Int32)) hx hb hr (fun t ht hW => ⟨⟨[(pl, .inr (1, [.ref pa, .int (nI ct), .int (nI mo)])), (pa, .inl (cI, pz, .inl pf)), (ga, .inl (cI, 4, .inl g))], ⟨(by unfold ord4; rw [if_pos h_1, if_pos h_2, if_neg h_3]; unfold oc; rw [if_neg h_6]), rfl⟩, by rw [ht]; exact hP.sub [1, 2, 0] rfl, hD.sub [1, 2, 0] (by decide) rfl⟩, hS.F ht⟩) hS.2.2 d_PL_order_36)
    · refine lv_iload hx hb d_PL_order_23 (lv_at hl 0 rfl) ?_
      refine lv_aload_n hx hb d_PL_order_25 rfl (lv_at hl 4 rfl) ?_
      refine lv_iload_n hx hb d_PL_order_26 rfl (lv_at hl 1 rfl) ?_
      refine va_iald hx hb hK hP 0 0 rfl rfl (vp_in_iff.mpr (by decide)) d_PL_order_27 ?_
      refine tp_i (y := g 1) (by rfl) ?_
      refine lv_icmp_ge (tgt := 35) hx hb d_PL_order_28 (by decide) (fun h_7 => ?_) (fun h_7 => ?_)
      · refine lv_iconst (v := (1 : Int32)) hx hb d_PL_order_35 (by decide) ?_
        exact tx_mono (fun _ h => tx_Z.of h) (W.iret (v := (1 : Int32)) hx hb hr (fun t ht hW => ⟨⟨[(pl, .inr (1, [.ref pa, .int (nI ct), .int (nI mo)])), (pa, .inl (cI, pz, .inl pf)), (ga, .inl (cI, 4, .inl g))], ⟨(by unfold ord4; rw [if_pos h_1, if_neg h_2]; unfold oc; rw [if_pos h_7]), rfl⟩, by rw [ht]; exact hP.sub [1, 2, 0] rfl, hD.sub [1, 2, 0] (by decide) rfl⟩, hS.F ht⟩) hS.2.2 d_PL_order_36)
      · refine lv_iconst (v := (-1 : Int32)) hx hb d_PL_order_31 (by decide) ?_
        refine lv_goto (tgt := 36) hx hb d_PL_order_32 (by decide) ?_
        exact tx_mono (fun _ h => tx_Z.of h) (W.iret (v := (-1 : Int32)) hx hb hr (fun t ht hW => ⟨⟨[(pl, .inr (1, [.ref pa, .int (nI ct), .int (nI mo)])), (pa, .inl (cI, pz, .inl pf)), (ga, .inl (cI, 4, .inl g))], ⟨(by unfold ord4; rw [if_pos h_1, if_neg h_2]; unfold oc; rw [if_neg h_7]), rfl⟩, by rw [ht]; exact hP.sub [1, 2, 0] rfl, hD.sub [1, 2, 0] (by decide) rfl⟩, hS.F ht⟩) hS.2.2 d_PL_order_36)
  · refine lv_iload hx hb d_PL_order_23 (lv_at hl 0 rfl) ?_
    refine lv_aload_n hx hb d_PL_order_25 rfl (lv_at hl 4 rfl) ?_
    refine lv_iload_n hx hb d_PL_order_26 rfl (lv_at hl 1 rfl) ?_
    refine va_iald hx hb hK hP 0 0 rfl rfl (vp_in_iff.mpr (by decide)) d_PL_order_27 ?_
    refine tp_i (y := g 0) (by rfl) ?_
    refine lv_icmp_ge (tgt := 35) hx hb d_PL_order_28 (by decide) (fun h_8 => ?_) (fun h_8 => ?_)
    · refine lv_iconst (v := (1 : Int32)) hx hb d_PL_order_35 (by decide) ?_
      exact tx_mono (fun _ h => tx_Z.of h) (W.iret (v := (1 : Int32)) hx hb hr (fun t ht hW => ⟨⟨[(pl, .inr (1, [.ref pa, .int (nI ct), .int (nI mo)])), (pa, .inl (cI, pz, .inl pf)), (ga, .inl (cI, 4, .inl g))], ⟨(by unfold ord4; rw [if_neg h_1]; unfold oc; rw [if_pos h_8]), rfl⟩, by rw [ht]; exact hP.sub [1, 2, 0] rfl, hD.sub [1, 2, 0] (by decide) rfl⟩, hS.F ht⟩) hS.2.2 d_PL_order_36)
    · refine lv_iconst (v := (-1 : Int32)) hx hb d_PL_order_31 (by decide) ?_
      refine lv_goto (tgt := 36) hx hb d_PL_order_32 (by decide) ?_
      exact tx_mono (fun _ h => tx_Z.of h) (W.iret (v := (-1 : Int32)) hx hb hr (fun t ht hW => ⟨⟨[(pl, .inr (1, [.ref pa, .int (nI ct), .int (nI mo)])), (pa, .inl (cI, pz, .inl pf)), (ga, .inl (cI, 4, .inl g))], ⟨(by unfold ord4; rw [if_neg h_1]; unfold oc; rw [if_neg h_8]), rfl⟩, by rw [ht]; exact hP.sub [1, 2, 0] rfl, hD.sub [1, 2, 0] (by decide) rfl⟩, hS.F ht⟩) hS.2.2 d_PL_order_36)

