/-! ===== own rows, laid by wip/tools/sym.py: the class's small methods ===== -/
def tk_c (dm c : Int32) : Int32 := if dm ≤ 2 then 0 else c
def tk_d (dm d : Int32) : Int32 := if dm ≤ 3 then 0 else d
def inw (r x : Int32) : Bool := !(decide (x < -r)) && decide (x ≤ r)
theorem inw_lt {r x : Int32} (h : inw r x = true) : ¬ x < -r := by
  simp only [inw, Bool.and_eq_true, Bool.not_eq_true', decide_eq_false_iff_not, decide_eq_true_eq] at h
  exact h.1
theorem inw_le {r x : Int32} (h : inw r x = true) : x ≤ r := by
  simp only [inw, Bool.and_eq_true, Bool.not_eq_true', decide_eq_false_iff_not, decide_eq_true_eq] at h
  exact h.2
theorem inw_of {r x : Int32} (h1 : ¬ x < -r) (h2 : x ≤ r) : inw r x = true := by
  simp only [inw, Bool.and_eq_true, Bool.not_eq_true', decide_eq_false_iff_not, decide_eq_true_eq]
  exact ⟨h1, h2⟩
def iw (r a b c d : Int32) : Prop := inw r a = true ∧ inw r b = true ∧ inw r c = true ∧ inw r d = true
set_option maxHeartbeats 4000000 in
set_option maxRecDepth 100000 in
theorem c_D_take {l : Launch} {s0 : State} {b0 : Addr} {D : va_G} {cI cJ cZ : ClassId} {tC tS : Nat} (E : gE l s0 b0 D cI cJ cZ tC tS) (sz : Nat) (d0 : Nat) (gv : Nat) (dr : Nat) (rl : Nat) (yl : Nat) (mi : Nat) (fl : Nat) (bf : Nat) (dm : Int32) (rk : Int32) (sp : Int32) (kn : Int32) (a : Int32) (b : Int32) (c2 : Int32) (d2 : Int32) (g : Nat → Int32) : cx_M l s0 D kl y_D_take b_D_take 5 none ({ frames := 0, cells := 0, slots := 0, locals := 0 } : Room) 0 0 [.ref d0, .int a, .int b, .int c2, .int d2] [(d0, .inr (0, [.int dm, .ref gv, .ref dr, .ref rl, .ref yl, .ref mi, .ref fl, .ref bf, .int rk, .int sp, .int kn])), (gv, .inl (cI, 4, .inl g))] sz (fun o9 _ w9 => o9 = .returned none ∧ w9 = [(d0, .inr (0, [.int dm, .ref gv, .ref dr, .ref rl, .ref yl, .ref mi, .ref fl, .ref bf, .int rk, .int sp, .int kn])), (gv, .inl (cI, 4, .inl (upd (upd (upd (upd g 0 a) 1 b) 2 (tk_c dm c2)) 3 (tk_d dm d2))))]) := by
  refine tx_ofW (cc := b_D_take) (maxL := 5) (ret := none) (by decide) rfl ?_
  intro p e s m args below meth c s₁ B hml hT hv
  obtain ⟨rfl, hsz, hP, hD0, hx0⟩ := hv
  have hx := B.exec
  have hb := B.bytes
  have hr := B.returns
  have G := E.2.1
  have hown : s.vm.findClass cn_D = some m.cls := findClass_of_methodNamed B.named
  have hlocks := B.notSynchronized
  have hK := va_K.moved hx0.1.alike E.2.2.1
  have hf_D : ∀ w99 ∈ u_ws cn_D ft_D 11, w99.before ([.ref d0, .int a, .int b, .int c2, .int d2] : List Value).toArray s = true := fun w99 h99 => gw.at G hx0 (fw_D w99 h99) (fo_D w99 h99) _
  subst hsz
  have hA0 := cx_new hD0 hx0.2.1
  have hD := hD0.self (sz := s.heap.size)
  generalize hAe : va_A [(d0, .inr (0, [.int dm, .ref gv, .ref dr, .ref rl, .ref yl, .ref mi, .ref fl, .ref bf, .int rk, .int sp, .int kn])), (gv, .inl (cI, 4, .inl g))] s.heap.size = A at hD hA0 ⊢
  have hA : ∀ q : Nat, s.heap.size ≤ q → A q := fun q h => by rw [← hAe]; exact Or.inr h
  have hS : va_S A s.heap s.heap [] := va_S.rf
  have hl := lv_entry ([.ref d0, .int a, .int b, .int c2, .int d2]) (n := 5) (Nat.le_of_ble_eq_true rfl)
  rw [lg_entry_eq]
  generalize (lg_sl ([.ref d0, .int a, .int b, .int c2, .int d2]) ++ List.replicate (5 - (lg_sl ([.ref d0, .int a, .int b, .int c2, .int d2])).length) Slot.unset).toArray = ls at hl ⊢
  have hl : lv_has ls 5 [(0, .ref d0), (1, .int a), (2, .int b), (3, .int c2), (4, .int d2)] := hl
  have hP : va_P D kl [(d0, .inr (0, [.int dm, .ref gv, .ref dr, .ref rl, .ref yl, .ref mi, .ref fl, .ref bf, .int rk, .int sp, .int kn])), (gv, .inl (cI, 4, .inl g))] s.heap := hP
  have hml : c.maxLocals = 5 := hml
  refine lv_aload_n hx hb d_D_take_0 rfl (lv_at hl 0 rfl) ?_
  refine va_get (D := D) (ci := 0) (v := .ref gv) (C := cn_D) (T := ft_D) (N := 11) hx hb hf_D (fun _ h => h) hown hK hP 0 rfl rfl 1 (by decide) (gw.at G hx0 mw_195 rfl _) (fun _ h9 => h9) rfl d_D_take_1 ?_
  refine lv_iconst (v := (0 : Int32)) hx hb d_D_take_4 (by decide) ?_
  refine lv_iload_n hx hb d_D_take_5 rfl (lv_at hl 1 rfl) ?_
  refine va_iast hx hb hK hP hD hS 1 0 rfl rfl (vp_in_iff.mpr (by decide)) d_D_take_6 (fun H locs hP hD hS => ?_)
  have hP : va_P D kl [(d0, .inr (0, [.int dm, .ref gv, .ref dr, .ref rl, .ref yl, .ref mi, .ref fl, .ref bf, .int rk, .int sp, .int kn])), (gv, .inl (cI, 4, .inl (upd g 0 a)))] H := hP
  have hD : va_D A [(d0, .inr (0, [.int dm, .ref gv, .ref dr, .ref rl, .ref yl, .ref mi, .ref fl, .ref bf, .int rk, .int sp, .int kn])), (gv, .inl (cI, 4, .inl (upd g 0 a)))] := hD
  refine lv_aload_n hx hb d_D_take_7 rfl (lv_at hl 0 rfl) ?_
  refine va_get (D := D) (ci := 0) (v := .ref gv) (C := cn_D) (T := ft_D) (N := 11) hx hb hf_D (fun _ h => h) hown hK hP 0 rfl rfl 1 (by decide) (gw.at G hx0 mw_195 rfl _) (fun _ h9 => h9) rfl d_D_take_8 ?_
  refine lv_iconst (v := (1 : Int32)) hx hb d_D_take_11 (by decide) ?_
  refine lv_iload_n hx hb d_D_take_12 rfl (lv_at hl 2 rfl) ?_
  refine va_iast hx hb hK hP hD hS 1 0 rfl rfl (vp_in_iff.mpr (by decide)) d_D_take_13 (fun H locs hP hD hS => ?_)
  have hP : va_P D kl [(d0, .inr (0, [.int dm, .ref gv, .ref dr, .ref rl, .ref yl, .ref mi, .ref fl, .ref bf, .int rk, .int sp, .int kn])), (gv, .inl (cI, 4, .inl (upd (upd g 0 a) 1 b)))] H := hP
  have hD : va_D A [(d0, .inr (0, [.int dm, .ref gv, .ref dr, .ref rl, .ref yl, .ref mi, .ref fl, .ref bf, .int rk, .int sp, .int kn])), (gv, .inl (cI, 4, .inl (upd (upd g 0 a) 1 b)))] := hD
  refine lv_aload_n hx hb d_D_take_14 rfl (lv_at hl 0 rfl) ?_
  refine va_get (D := D) (ci := 0) (v := .ref gv) (C := cn_D) (T := ft_D) (N := 11) hx hb hf_D (fun _ h => h) hown hK hP 0 rfl rfl 1 (by decide) (gw.at G hx0 mw_195 rfl _) (fun _ h9 => h9) rfl d_D_take_15 ?_
  refine lv_iconst (v := (2 : Int32)) hx hb d_D_take_18 (by decide) ?_
  refine lv_aload_n hx hb d_D_take_19 rfl (lv_at hl 0 rfl) ?_
  refine va_get (D := D) (ci := 0) (v := .int dm) (C := cn_D) (T := ft_D) (N := 11) hx hb hf_D (fun _ h => h) hown hK hP 0 rfl rfl 0 (by decide) (gw.at G hx0 mw_194 rfl _) (fun _ h9 => h9) rfl d_D_take_20 ?_
  refine lv_iconst (v := (2 : Int32)) hx hb d_D_take_23 (by decide) ?_
  refine lv_icmp_le (tgt := 31) hx hb d_D_take_24 (by decide) (fun h_1 => ?_) (fun h_1 => ?_)
  · refine lv_iconst (v := (0 : Int32)) hx hb d_D_take_31 (by decide) ?_
    refine tp_i (y := tk_c dm c2) (by simp [tk_c, *]) ?_
    refine va_iast hx hb hK hP hD hS 1 0 rfl rfl (vp_in_iff.mpr (by decide)) d_D_take_32 (fun H locs hP hD hS => ?_)
    have hP : va_P D kl [(d0, .inr (0, [.int dm, .ref gv, .ref dr, .ref rl, .ref yl, .ref mi, .ref fl, .ref bf, .int rk, .int sp, .int kn])), (gv, .inl (cI, 4, .inl (upd (upd (upd g 0 a) 1 b) 2 (tk_c dm c2))))] H := hP
    have hD : va_D A [(d0, .inr (0, [.int dm, .ref gv, .ref dr, .ref rl, .ref yl, .ref mi, .ref fl, .ref bf, .int rk, .int sp, .int kn])), (gv, .inl (cI, 4, .inl (upd (upd (upd g 0 a) 1 b) 2 (tk_c dm c2))))] := hD
    refine lv_aload_n hx hb d_D_take_33 rfl (lv_at hl 0 rfl) ?_
    refine va_get (D := D) (ci := 0) (v := .ref gv) (C := cn_D) (T := ft_D) (N := 11) hx hb hf_D (fun _ h => h) hown hK hP 0 rfl rfl 1 (by decide) (gw.at G hx0 mw_195 rfl _) (fun _ h9 => h9) rfl d_D_take_34 ?_
    refine lv_iconst (v := (3 : Int32)) hx hb d_D_take_37 (by decide) ?_
    refine lv_aload_n hx hb d_D_take_38 rfl (lv_at hl 0 rfl) ?_
    refine va_get (D := D) (ci := 0) (v := .int dm) (C := cn_D) (T := ft_D) (N := 11) hx hb hf_D (fun _ h => h) hown hK hP 0 rfl rfl 0 (by decide) (gw.at G hx0 mw_194 rfl _) (fun _ h9 => h9) rfl d_D_take_39 ?_
    refine lv_iconst (v := (3 : Int32)) hx hb d_D_take_42 (by decide) ?_
    refine lv_icmp_le (tgt := 51) hx hb d_D_take_43 (by decide) (fun h_2 => ?_) (fun h_2 => ?_)
    · refine lv_iconst (v := (0 : Int32)) hx hb d_D_take_51 (by decide) ?_
      refine tp_i (y := tk_d dm d2) (by simp [tk_d, *]) ?_
      refine va_iast hx hb hK hP hD hS 1 0 rfl rfl (vp_in_iff.mpr (by decide)) d_D_take_52 (fun H locs hP hD hS => ?_)
      have hP : va_P D kl [(d0, .inr (0, [.int dm, .ref gv, .ref dr, .ref rl, .ref yl, .ref mi, .ref fl, .ref bf, .int rk, .int sp, .int kn])), (gv, .inl (cI, 4, .inl (upd (upd (upd (upd g 0 a) 1 b) 2 (tk_c dm c2)) 3 (tk_d dm d2))))] H := hP
      have hD : va_D A [(d0, .inr (0, [.int dm, .ref gv, .ref dr, .ref rl, .ref yl, .ref mi, .ref fl, .ref bf, .int rk, .int sp, .int kn])), (gv, .inl (cI, 4, .inl (upd (upd (upd (upd g 0 a) 1 b) 2 (tk_c dm c2)) 3 (tk_d dm d2))))] := hD
      exact tx_mono (fun _ h => tx_Z.of h) (W.vret hx hb hr (fun t ht hW => ⟨⟨[(d0, .inr (0, [.int dm, .ref gv, .ref dr, .ref rl, .ref yl, .ref mi, .ref fl, .ref bf, .int rk, .int sp, .int kn])), (gv, .inl (cI, 4, .inl (upd (upd (upd (upd g 0 a) 1 b) 2 (tk_c dm c2)) 3 (tk_d dm d2))))], ⟨rfl, rfl⟩, by rw [ht]; exact hP.sub [0, 1] rfl, hD.sub [0, 1] (by decide) rfl⟩, hS.F ht⟩) hS.2.2 d_D_take_53)
    · refine lv_iload hx hb d_D_take_46 (lv_at hl 4 rfl) ?_
      refine lv_goto (tgt := 52) hx hb d_D_take_48 (by decide) ?_
      refine tp_i (y := tk_d dm d2) (by simp [tk_d, *]) ?_
      refine va_iast hx hb hK hP hD hS 1 0 rfl rfl (vp_in_iff.mpr (by decide)) d_D_take_52 (fun H locs hP hD hS => ?_)
      have hP : va_P D kl [(d0, .inr (0, [.int dm, .ref gv, .ref dr, .ref rl, .ref yl, .ref mi, .ref fl, .ref bf, .int rk, .int sp, .int kn])), (gv, .inl (cI, 4, .inl (upd (upd (upd (upd g 0 a) 1 b) 2 (tk_c dm c2)) 3 (tk_d dm d2))))] H := hP
      have hD : va_D A [(d0, .inr (0, [.int dm, .ref gv, .ref dr, .ref rl, .ref yl, .ref mi, .ref fl, .ref bf, .int rk, .int sp, .int kn])), (gv, .inl (cI, 4, .inl (upd (upd (upd (upd g 0 a) 1 b) 2 (tk_c dm c2)) 3 (tk_d dm d2))))] := hD
      exact tx_mono (fun _ h => tx_Z.of h) (W.vret hx hb hr (fun t ht hW => ⟨⟨[(d0, .inr (0, [.int dm, .ref gv, .ref dr, .ref rl, .ref yl, .ref mi, .ref fl, .ref bf, .int rk, .int sp, .int kn])), (gv, .inl (cI, 4, .inl (upd (upd (upd (upd g 0 a) 1 b) 2 (tk_c dm c2)) 3 (tk_d dm d2))))], ⟨rfl, rfl⟩, by rw [ht]; exact hP.sub [0, 1] rfl, hD.sub [0, 1] (by decide) rfl⟩, hS.F ht⟩) hS.2.2 d_D_take_53)
  · refine lv_iload_n hx hb d_D_take_27 rfl (lv_at hl 3 rfl) ?_
    refine lv_goto (tgt := 32) hx hb d_D_take_28 (by decide) ?_
    refine tp_i (y := tk_c dm c2) (by simp [tk_c, *]) ?_
    refine va_iast hx hb hK hP hD hS 1 0 rfl rfl (vp_in_iff.mpr (by decide)) d_D_take_32 (fun H locs hP hD hS => ?_)
    have hP : va_P D kl [(d0, .inr (0, [.int dm, .ref gv, .ref dr, .ref rl, .ref yl, .ref mi, .ref fl, .ref bf, .int rk, .int sp, .int kn])), (gv, .inl (cI, 4, .inl (upd (upd (upd g 0 a) 1 b) 2 (tk_c dm c2))))] H := hP
    have hD : va_D A [(d0, .inr (0, [.int dm, .ref gv, .ref dr, .ref rl, .ref yl, .ref mi, .ref fl, .ref bf, .int rk, .int sp, .int kn])), (gv, .inl (cI, 4, .inl (upd (upd (upd g 0 a) 1 b) 2 (tk_c dm c2))))] := hD
    refine lv_aload_n hx hb d_D_take_33 rfl (lv_at hl 0 rfl) ?_
    refine va_get (D := D) (ci := 0) (v := .ref gv) (C := cn_D) (T := ft_D) (N := 11) hx hb hf_D (fun _ h => h) hown hK hP 0 rfl rfl 1 (by decide) (gw.at G hx0 mw_195 rfl _) (fun _ h9 => h9) rfl d_D_take_34 ?_
    refine lv_iconst (v := (3 : Int32)) hx hb d_D_take_37 (by decide) ?_
    refine lv_aload_n hx hb d_D_take_38 rfl (lv_at hl 0 rfl) ?_
    refine va_get (D := D) (ci := 0) (v := .int dm) (C := cn_D) (T := ft_D) (N := 11) hx hb hf_D (fun _ h => h) hown hK hP 0 rfl rfl 0 (by decide) (gw.at G hx0 mw_194 rfl _) (fun _ h9 => h9) rfl d_D_take_39 ?_
    refine lv_iconst (v := (3 : Int32)) hx hb d_D_take_42 (by decide) ?_
    refine lv_icmp_le (tgt := 51) hx hb d_D_take_43 (by decide) (fun h_3 => ?_) (fun h_3 => ?_)
    · refine lv_iconst (v := (0 : Int32)) hx hb d_D_take_51 (by decide) ?_
      refine tp_i (y := tk_d dm d2) (by simp [tk_d, *]) ?_
      refine va_iast hx hb hK hP hD hS 1 0 rfl rfl (vp_in_iff.mpr (by decide)) d_D_take_52 (fun H locs hP hD hS => ?_)
      have hP : va_P D kl [(d0, .inr (0, [.int dm, .ref gv, .ref dr, .ref rl, .ref yl, .ref mi, .ref fl, .ref bf, .int rk, .int sp, .int kn])), (gv, .inl (cI, 4, .inl (upd (upd (upd (upd g 0 a) 1 b) 2 (tk_c dm c2)) 3 (tk_d dm d2))))] H := hP
      have hD : va_D A [(d0, .inr (0, [.int dm, .ref gv, .ref dr, .ref rl, .ref yl, .ref mi, .ref fl, .ref bf, .int rk, .int sp, .int kn])), (gv, .inl (cI, 4, .inl (upd (upd (upd (upd g 0 a) 1 b) 2 (tk_c dm c2)) 3 (tk_d dm d2))))] := hD
      exact tx_mono (fun _ h => tx_Z.of h) (W.vret hx hb hr (fun t ht hW => ⟨⟨[(d0, .inr (0, [.int dm, .ref gv, .ref dr, .ref rl, .ref yl, .ref mi, .ref fl, .ref bf, .int rk, .int sp, .int kn])), (gv, .inl (cI, 4, .inl (upd (upd (upd (upd g 0 a) 1 b) 2 (tk_c dm c2)) 3 (tk_d dm d2))))], ⟨rfl, rfl⟩, by rw [ht]; exact hP.sub [0, 1] rfl, hD.sub [0, 1] (by decide) rfl⟩, hS.F ht⟩) hS.2.2 d_D_take_53)
    · refine lv_iload hx hb d_D_take_46 (lv_at hl 4 rfl) ?_
      refine lv_goto (tgt := 52) hx hb d_D_take_48 (by decide) ?_
      refine tp_i (y := tk_d dm d2) (by simp [tk_d, *]) ?_
      refine va_iast hx hb hK hP hD hS 1 0 rfl rfl (vp_in_iff.mpr (by decide)) d_D_take_52 (fun H locs hP hD hS => ?_)
      have hP : va_P D kl [(d0, .inr (0, [.int dm, .ref gv, .ref dr, .ref rl, .ref yl, .ref mi, .ref fl, .ref bf, .int rk, .int sp, .int kn])), (gv, .inl (cI, 4, .inl (upd (upd (upd (upd g 0 a) 1 b) 2 (tk_c dm c2)) 3 (tk_d dm d2))))] H := hP
      have hD : va_D A [(d0, .inr (0, [.int dm, .ref gv, .ref dr, .ref rl, .ref yl, .ref mi, .ref fl, .ref bf, .int rk, .int sp, .int kn])), (gv, .inl (cI, 4, .inl (upd (upd (upd (upd g 0 a) 1 b) 2 (tk_c dm c2)) 3 (tk_d dm d2))))] := hD
      exact tx_mono (fun _ h => tx_Z.of h) (W.vret hx hb hr (fun t ht hW => ⟨⟨[(d0, .inr (0, [.int dm, .ref gv, .ref dr, .ref rl, .ref yl, .ref mi, .ref fl, .ref bf, .int rk, .int sp, .int kn])), (gv, .inl (cI, 4, .inl (upd (upd (upd (upd g 0 a) 1 b) 2 (tk_c dm c2)) 3 (tk_d dm d2))))], ⟨rfl, rfl⟩, by rw [ht]; exact hP.sub [0, 1] rfl, hD.sub [0, 1] (by decide) rfl⟩, hS.F ht⟩) hS.2.2 d_D_take_53)

set_option maxHeartbeats 4000000 in
set_option maxRecDepth 100000 in
theorem c_D_within_y {l : Launch} {s0 : State} {b0 : Addr} {D : va_G} {cI cJ cZ : ClassId} {tC tS : Nat} (E : gE l s0 b0 D cI cJ cZ tC tS) (sz : Nat) (d0 : Nat) (gv : Nat) (dr : Nat) (rl : Nat) (yl : Nat) (mi : Nat) (fl : Nat) (bf : Nat) (dm : Int32) (rk : Int32) (sp : Int32) (kn : Int32) (r : Int32) (g : Nat → Int32) (h : iw r (g 0) (g 1) (g 2) (g 3)) : cx_M l s0 D kl y_D_isGivenWithin b_D_isGivenWithin 3 (some .boolean) ({ frames := 0, cells := 0, slots := 0, locals := 0 } : Room) 0 0 [.ref d0, .int r] [(d0, .inr (0, [.int dm, .ref gv, .ref dr, .ref rl, .ref yl, .ref mi, .ref fl, .ref bf, .int rk, .int sp, .int kn])), (gv, .inl (cI, 4, .inl g))] sz (fun o9 _ w9 => o9 = .returned (some (.int (1 : Int32))) ∧ w9 = [(d0, .inr (0, [.int dm, .ref gv, .ref dr, .ref rl, .ref yl, .ref mi, .ref fl, .ref bf, .int rk, .int sp, .int kn])), (gv, .inl (cI, 4, .inl g))]) := by
  refine tx_ofW (cc := b_D_isGivenWithin) (maxL := 3) (ret := (some .boolean)) (by decide) rfl ?_
  intro p e s m args below meth c s₁ B hml hT hv
  obtain ⟨rfl, hsz, hP, hD0, hx0⟩ := hv
  have hx := B.exec
  have hb := B.bytes
  have hr := B.returns
  have G := E.2.1
  have hown : s.vm.findClass cn_D = some m.cls := findClass_of_methodNamed B.named
  have hlocks := B.notSynchronized
  have hK := va_K.moved hx0.1.alike E.2.2.1
  have hf_D : ∀ w99 ∈ u_ws cn_D ft_D 11, w99.before ([.ref d0, .int r] : List Value).toArray s = true := fun w99 h99 => gw.at G hx0 (fw_D w99 h99) (fo_D w99 h99) _
  subst hsz
  have hA0 := cx_new hD0 hx0.2.1
  have hD := hD0.self (sz := s.heap.size)
  generalize hAe : va_A [(d0, .inr (0, [.int dm, .ref gv, .ref dr, .ref rl, .ref yl, .ref mi, .ref fl, .ref bf, .int rk, .int sp, .int kn])), (gv, .inl (cI, 4, .inl g))] s.heap.size = A at hD hA0 ⊢
  have hA : ∀ q : Nat, s.heap.size ≤ q → A q := fun q h => by rw [← hAe]; exact Or.inr h
  have hS : va_S A s.heap s.heap [] := va_S.rf
  have hl := lv_entry ([.ref d0, .int r]) (n := 3) (Nat.le_of_ble_eq_true rfl)
  rw [lg_entry_eq]
  generalize (lg_sl ([.ref d0, .int r]) ++ List.replicate (3 - (lg_sl ([.ref d0, .int r])).length) Slot.unset).toArray = ls at hl ⊢
  have hl : lv_has ls 3 [(0, .ref d0), (1, .int r)] := hl
  have hP : va_P D kl [(d0, .inr (0, [.int dm, .ref gv, .ref dr, .ref rl, .ref yl, .ref mi, .ref fl, .ref bf, .int rk, .int sp, .int kn])), (gv, .inl (cI, 4, .inl g))] s.heap := hP
  have hml : c.maxLocals = 3 := hml
  refine lv_iconst (v := (0 : Int32)) hx hb d_D_isGivenWithin_0 (by decide) ?_
  refine lv_istore_n (lv' := [(2, .int (0 : Int32)), (0, .ref d0), (1, .int r)]) hx hb d_D_isGivenWithin_1 rfl hl (by decide) rfl (fun ls hl => ?_)
  refine lv_iload_n hx hb d_D_isGivenWithin_2 rfl (lv_at hl 0 rfl) ?_
  refine lv_iconst (v := (4 : Int32)) hx hb d_D_isGivenWithin_3 (by decide) ?_
  refine lv_icmp_ge (tgt := 36) hx hb d_D_isGivenWithin_4 (by decide) (fun h99 => absurd h99 (by decide)) (fun _ => ?_)
  refine lv_aload_n hx hb d_D_isGivenWithin_7 rfl (lv_at hl 1 rfl) ?_
  refine va_get (D := D) (ci := 0) (v := .ref gv) (C := cn_D) (T := ft_D) (N := 11) hx hb hf_D (fun _ h => h) hown hK hP 0 rfl rfl 1 (by decide) (gw.at G hx0 mw_195 rfl _) (fun _ h9 => h9) rfl d_D_isGivenWithin_8 ?_
  refine lv_iload_n hx hb d_D_isGivenWithin_11 rfl (lv_at hl 0 rfl) ?_
  refine va_iald hx hb hK hP 1 0 rfl rfl (vp_in_iff.mpr (by decide)) d_D_isGivenWithin_12 ?_
  refine tp_i (y := g 0) (by rfl) ?_
  refine lv_iload_n hx hb d_D_isGivenWithin_13 rfl (lv_at hl 2 rfl) ?_
  refine lv_ineg hx hb d_D_isGivenWithin_14 ?_
  refine lv_icmp_lt (tgt := 28) hx hb d_D_isGivenWithin_15 (by decide) (fun h99 => absurd h99 (inw_lt h.1)) (fun _ => ?_)
  refine lv_aload_n hx hb d_D_isGivenWithin_18 rfl (lv_at hl 1 rfl) ?_
  refine va_get (D := D) (ci := 0) (v := .ref gv) (C := cn_D) (T := ft_D) (N := 11) hx hb hf_D (fun _ h => h) hown hK hP 0 rfl rfl 1 (by decide) (gw.at G hx0 mw_195 rfl _) (fun _ h9 => h9) rfl d_D_isGivenWithin_19 ?_
  refine lv_iload_n hx hb d_D_isGivenWithin_22 rfl (lv_at hl 0 rfl) ?_
  refine va_iald hx hb hK hP 1 0 rfl rfl (vp_in_iff.mpr (by decide)) d_D_isGivenWithin_23 ?_
  refine tp_i (y := g 0) (by rfl) ?_
  refine lv_iload_n hx hb d_D_isGivenWithin_24 rfl (lv_at hl 2 rfl) ?_
  refine lv_icmp_le (tgt := 30) hx hb d_D_isGivenWithin_25 (by decide) (fun _ => ?_) (fun h99 => absurd h99 (not_not_intro (inw_le h.1)))
  refine lv_iinc (lv' := [(2, .int (1 : Int32)), (0, .ref d0), (1, .int r)]) (k := 0) (v := (1 : Int32)) hx hb d_D_isGivenWithin_30 hl rfl (by decide) (by decide) rfl (fun ls hl => ?_)
  refine lv_goto (tgt := 2) hx hb d_D_isGivenWithin_33 (by decide) ?_
  refine lv_iload_n hx hb d_D_isGivenWithin_2 rfl (lv_at hl 0 rfl) ?_
  refine lv_iconst (v := (4 : Int32)) hx hb d_D_isGivenWithin_3 (by decide) ?_
  refine lv_icmp_ge (tgt := 36) hx hb d_D_isGivenWithin_4 (by decide) (fun h99 => absurd h99 (by decide)) (fun _ => ?_)
  refine lv_aload_n hx hb d_D_isGivenWithin_7 rfl (lv_at hl 1 rfl) ?_
  refine va_get (D := D) (ci := 0) (v := .ref gv) (C := cn_D) (T := ft_D) (N := 11) hx hb hf_D (fun _ h => h) hown hK hP 0 rfl rfl 1 (by decide) (gw.at G hx0 mw_195 rfl _) (fun _ h9 => h9) rfl d_D_isGivenWithin_8 ?_
  refine lv_iload_n hx hb d_D_isGivenWithin_11 rfl (lv_at hl 0 rfl) ?_
  refine va_iald hx hb hK hP 1 0 rfl rfl (vp_in_iff.mpr (by decide)) d_D_isGivenWithin_12 ?_
  refine tp_i (y := g 1) (by rfl) ?_
  refine lv_iload_n hx hb d_D_isGivenWithin_13 rfl (lv_at hl 2 rfl) ?_
  refine lv_ineg hx hb d_D_isGivenWithin_14 ?_
  refine lv_icmp_lt (tgt := 28) hx hb d_D_isGivenWithin_15 (by decide) (fun h99 => absurd h99 (inw_lt h.2.1)) (fun _ => ?_)
  refine lv_aload_n hx hb d_D_isGivenWithin_18 rfl (lv_at hl 1 rfl) ?_
  refine va_get (D := D) (ci := 0) (v := .ref gv) (C := cn_D) (T := ft_D) (N := 11) hx hb hf_D (fun _ h => h) hown hK hP 0 rfl rfl 1 (by decide) (gw.at G hx0 mw_195 rfl _) (fun _ h9 => h9) rfl d_D_isGivenWithin_19 ?_
  refine lv_iload_n hx hb d_D_isGivenWithin_22 rfl (lv_at hl 0 rfl) ?_
  refine va_iald hx hb hK hP 1 0 rfl rfl (vp_in_iff.mpr (by decide)) d_D_isGivenWithin_23 ?_
  refine tp_i (y := g 1) (by rfl) ?_
  refine lv_iload_n hx hb d_D_isGivenWithin_24 rfl (lv_at hl 2 rfl) ?_
  refine lv_icmp_le (tgt := 30) hx hb d_D_isGivenWithin_25 (by decide) (fun _ => ?_) (fun h99 => absurd h99 (not_not_intro (inw_le h.2.1)))
  refine lv_iinc (lv' := [(2, .int (2 : Int32)), (0, .ref d0), (1, .int r)]) (k := 0) (v := (2 : Int32)) hx hb d_D_isGivenWithin_30 hl rfl (by decide) (by decide) rfl (fun ls hl => ?_)
  refine lv_goto (tgt := 2) hx hb d_D_isGivenWithin_33 (by decide) ?_
  refine lv_iload_n hx hb d_D_isGivenWithin_2 rfl (lv_at hl 0 rfl) ?_
  refine lv_iconst (v := (4 : Int32)) hx hb d_D_isGivenWithin_3 (by decide) ?_
  refine lv_icmp_ge (tgt := 36) hx hb d_D_isGivenWithin_4 (by decide) (fun h99 => absurd h99 (by decide)) (fun _ => ?_)
  refine lv_aload_n hx hb d_D_isGivenWithin_7 rfl (lv_at hl 1 rfl) ?_
  refine va_get (D := D) (ci := 0) (v := .ref gv) (C := cn_D) (T := ft_D) (N := 11) hx hb hf_D (fun _ h => h) hown hK hP 0 rfl rfl 1 (by decide) (gw.at G hx0 mw_195 rfl _) (fun _ h9 => h9) rfl d_D_isGivenWithin_8 ?_
  refine lv_iload_n hx hb d_D_isGivenWithin_11 rfl (lv_at hl 0 rfl) ?_
  refine va_iald hx hb hK hP 1 0 rfl rfl (vp_in_iff.mpr (by decide)) d_D_isGivenWithin_12 ?_
  refine tp_i (y := g 2) (by rfl) ?_
  refine lv_iload_n hx hb d_D_isGivenWithin_13 rfl (lv_at hl 2 rfl) ?_
  refine lv_ineg hx hb d_D_isGivenWithin_14 ?_
  refine lv_icmp_lt (tgt := 28) hx hb d_D_isGivenWithin_15 (by decide) (fun h99 => absurd h99 (inw_lt h.2.2.1)) (fun _ => ?_)
  refine lv_aload_n hx hb d_D_isGivenWithin_18 rfl (lv_at hl 1 rfl) ?_
  refine va_get (D := D) (ci := 0) (v := .ref gv) (C := cn_D) (T := ft_D) (N := 11) hx hb hf_D (fun _ h => h) hown hK hP 0 rfl rfl 1 (by decide) (gw.at G hx0 mw_195 rfl _) (fun _ h9 => h9) rfl d_D_isGivenWithin_19 ?_
  refine lv_iload_n hx hb d_D_isGivenWithin_22 rfl (lv_at hl 0 rfl) ?_
  refine va_iald hx hb hK hP 1 0 rfl rfl (vp_in_iff.mpr (by decide)) d_D_isGivenWithin_23 ?_
  refine tp_i (y := g 2) (by rfl) ?_
  refine lv_iload_n hx hb d_D_isGivenWithin_24 rfl (lv_at hl 2 rfl) ?_
  refine lv_icmp_le (tgt := 30) hx hb d_D_isGivenWithin_25 (by decide) (fun _ => ?_) (fun h99 => absurd h99 (not_not_intro (inw_le h.2.2.1)))
  refine lv_iinc (lv' := [(2, .int (3 : Int32)), (0, .ref d0), (1, .int r)]) (k := 0) (v := (3 : Int32)) hx hb d_D_isGivenWithin_30 hl rfl (by decide) (by decide) rfl (fun ls hl => ?_)
  refine lv_goto (tgt := 2) hx hb d_D_isGivenWithin_33 (by decide) ?_
  refine lv_iload_n hx hb d_D_isGivenWithin_2 rfl (lv_at hl 0 rfl) ?_
  refine lv_iconst (v := (4 : Int32)) hx hb d_D_isGivenWithin_3 (by decide) ?_
  refine lv_icmp_ge (tgt := 36) hx hb d_D_isGivenWithin_4 (by decide) (fun h99 => absurd h99 (by decide)) (fun _ => ?_)
  refine lv_aload_n hx hb d_D_isGivenWithin_7 rfl (lv_at hl 1 rfl) ?_
  refine va_get (D := D) (ci := 0) (v := .ref gv) (C := cn_D) (T := ft_D) (N := 11) hx hb hf_D (fun _ h => h) hown hK hP 0 rfl rfl 1 (by decide) (gw.at G hx0 mw_195 rfl _) (fun _ h9 => h9) rfl d_D_isGivenWithin_8 ?_
  refine lv_iload_n hx hb d_D_isGivenWithin_11 rfl (lv_at hl 0 rfl) ?_
  refine va_iald hx hb hK hP 1 0 rfl rfl (vp_in_iff.mpr (by decide)) d_D_isGivenWithin_12 ?_
  refine tp_i (y := g 3) (by rfl) ?_
  refine lv_iload_n hx hb d_D_isGivenWithin_13 rfl (lv_at hl 2 rfl) ?_
  refine lv_ineg hx hb d_D_isGivenWithin_14 ?_
  refine lv_icmp_lt (tgt := 28) hx hb d_D_isGivenWithin_15 (by decide) (fun h99 => absurd h99 (inw_lt h.2.2.2)) (fun _ => ?_)
  refine lv_aload_n hx hb d_D_isGivenWithin_18 rfl (lv_at hl 1 rfl) ?_
  refine va_get (D := D) (ci := 0) (v := .ref gv) (C := cn_D) (T := ft_D) (N := 11) hx hb hf_D (fun _ h => h) hown hK hP 0 rfl rfl 1 (by decide) (gw.at G hx0 mw_195 rfl _) (fun _ h9 => h9) rfl d_D_isGivenWithin_19 ?_
  refine lv_iload_n hx hb d_D_isGivenWithin_22 rfl (lv_at hl 0 rfl) ?_
  refine va_iald hx hb hK hP 1 0 rfl rfl (vp_in_iff.mpr (by decide)) d_D_isGivenWithin_23 ?_
  refine tp_i (y := g 3) (by rfl) ?_
  refine lv_iload_n hx hb d_D_isGivenWithin_24 rfl (lv_at hl 2 rfl) ?_
  refine lv_icmp_le (tgt := 30) hx hb d_D_isGivenWithin_25 (by decide) (fun _ => ?_) (fun h99 => absurd h99 (not_not_intro (inw_le h.2.2.2)))
  refine lv_iinc (lv' := [(2, .int (4 : Int32)), (0, .ref d0), (1, .int r)]) (k := 0) (v := (4 : Int32)) hx hb d_D_isGivenWithin_30 hl rfl (by decide) (by decide) rfl (fun ls hl => ?_)
  refine lv_goto (tgt := 2) hx hb d_D_isGivenWithin_33 (by decide) ?_
  refine lv_iload_n hx hb d_D_isGivenWithin_2 rfl (lv_at hl 0 rfl) ?_
  refine lv_iconst (v := (4 : Int32)) hx hb d_D_isGivenWithin_3 (by decide) ?_
  refine lv_icmp_ge (tgt := 36) hx hb d_D_isGivenWithin_4 (by decide) (fun _ => ?_) (fun h99 => absurd h99 (by decide))
  refine lv_iconst (v := (1 : Int32)) hx hb d_D_isGivenWithin_36 (by decide) ?_
  exact tx_mono (fun _ h => tx_Z.of h) (W.zret (v := (1 : Int32)) hx hb hr (by decide) (fun t ht hW => ⟨⟨[(d0, .inr (0, [.int dm, .ref gv, .ref dr, .ref rl, .ref yl, .ref mi, .ref fl, .ref bf, .int rk, .int sp, .int kn])), (gv, .inl (cI, 4, .inl g))], ⟨rfl, rfl⟩, by rw [ht]; exact hP.sub [0, 1] rfl, hD.sub [0, 1] (by decide) rfl⟩, hS.F ht⟩) hS.2.2 d_D_isGivenWithin_37)

set_option maxHeartbeats 4000000 in
set_option maxRecDepth 100000 in
theorem c_D_within_n {l : Launch} {s0 : State} {b0 : Addr} {D : va_G} {cI cJ cZ : ClassId} {tC tS : Nat} (E : gE l s0 b0 D cI cJ cZ tC tS) (sz : Nat) (d0 : Nat) (gv : Nat) (dr : Nat) (rl : Nat) (yl : Nat) (mi : Nat) (fl : Nat) (bf : Nat) (dm : Int32) (rk : Int32) (sp : Int32) (kn : Int32) (r : Int32) (g : Nat → Int32) (h : ¬ iw r (g 0) (g 1) (g 2) (g 3)) : cx_M l s0 D kl y_D_isGivenWithin b_D_isGivenWithin 3 (some .boolean) ({ frames := 0, cells := 0, slots := 0, locals := 0 } : Room) 0 0 [.ref d0, .int r] [(d0, .inr (0, [.int dm, .ref gv, .ref dr, .ref rl, .ref yl, .ref mi, .ref fl, .ref bf, .int rk, .int sp, .int kn])), (gv, .inl (cI, 4, .inl g))] sz (fun o9 _ w9 => o9 = .returned (some (.int (0 : Int32))) ∧ w9 = [(d0, .inr (0, [.int dm, .ref gv, .ref dr, .ref rl, .ref yl, .ref mi, .ref fl, .ref bf, .int rk, .int sp, .int kn])), (gv, .inl (cI, 4, .inl g))]) := by
  refine tx_ofW (cc := b_D_isGivenWithin) (maxL := 3) (ret := (some .boolean)) (by decide) rfl ?_
  intro p e s m args below meth c s₁ B hml hT hv
  obtain ⟨rfl, hsz, hP, hD0, hx0⟩ := hv
  have hx := B.exec
  have hb := B.bytes
  have hr := B.returns
  have G := E.2.1
  have hown : s.vm.findClass cn_D = some m.cls := findClass_of_methodNamed B.named
  have hlocks := B.notSynchronized
  have hK := va_K.moved hx0.1.alike E.2.2.1
  have hf_D : ∀ w99 ∈ u_ws cn_D ft_D 11, w99.before ([.ref d0, .int r] : List Value).toArray s = true := fun w99 h99 => gw.at G hx0 (fw_D w99 h99) (fo_D w99 h99) _
  subst hsz
  have hA0 := cx_new hD0 hx0.2.1
  have hD := hD0.self (sz := s.heap.size)
  generalize hAe : va_A [(d0, .inr (0, [.int dm, .ref gv, .ref dr, .ref rl, .ref yl, .ref mi, .ref fl, .ref bf, .int rk, .int sp, .int kn])), (gv, .inl (cI, 4, .inl g))] s.heap.size = A at hD hA0 ⊢
  have hA : ∀ q : Nat, s.heap.size ≤ q → A q := fun q h => by rw [← hAe]; exact Or.inr h
  have hS : va_S A s.heap s.heap [] := va_S.rf
  have hl := lv_entry ([.ref d0, .int r]) (n := 3) (Nat.le_of_ble_eq_true rfl)
  rw [lg_entry_eq]
  generalize (lg_sl ([.ref d0, .int r]) ++ List.replicate (3 - (lg_sl ([.ref d0, .int r])).length) Slot.unset).toArray = ls at hl ⊢
  have hl : lv_has ls 3 [(0, .ref d0), (1, .int r)] := hl
  have hP : va_P D kl [(d0, .inr (0, [.int dm, .ref gv, .ref dr, .ref rl, .ref yl, .ref mi, .ref fl, .ref bf, .int rk, .int sp, .int kn])), (gv, .inl (cI, 4, .inl g))] s.heap := hP
  have hml : c.maxLocals = 3 := hml
  refine lv_iconst (v := (0 : Int32)) hx hb d_D_isGivenWithin_0 (by decide) ?_
  refine lv_istore_n (lv' := [(2, .int (0 : Int32)), (0, .ref d0), (1, .int r)]) hx hb d_D_isGivenWithin_1 rfl hl (by decide) rfl (fun ls hl => ?_)
  refine lv_iload_n hx hb d_D_isGivenWithin_2 rfl (lv_at hl 0 rfl) ?_
  refine lv_iconst (v := (4 : Int32)) hx hb d_D_isGivenWithin_3 (by decide) ?_
  refine lv_icmp_ge (tgt := 36) hx hb d_D_isGivenWithin_4 (by decide) (fun h99 => absurd h99 (by decide)) (fun _ => ?_)
  refine lv_aload_n hx hb d_D_isGivenWithin_7 rfl (lv_at hl 1 rfl) ?_
  refine va_get (D := D) (ci := 0) (v := .ref gv) (C := cn_D) (T := ft_D) (N := 11) hx hb hf_D (fun _ h => h) hown hK hP 0 rfl rfl 1 (by decide) (gw.at G hx0 mw_195 rfl _) (fun _ h9 => h9) rfl d_D_isGivenWithin_8 ?_
  refine lv_iload_n hx hb d_D_isGivenWithin_11 rfl (lv_at hl 0 rfl) ?_
  refine va_iald hx hb hK hP 1 0 rfl rfl (vp_in_iff.mpr (by decide)) d_D_isGivenWithin_12 ?_
  refine tp_i (y := g 0) (by rfl) ?_
  refine lv_iload_n hx hb d_D_isGivenWithin_13 rfl (lv_at hl 2 rfl) ?_
  refine lv_ineg hx hb d_D_isGivenWithin_14 ?_
  refine lv_icmp_lt (tgt := 28) hx hb d_D_isGivenWithin_15 (by decide) (fun h_1 => ?_) (fun h_1 => ?_)
  · refine lv_iconst (v := (0 : Int32)) hx hb d_D_isGivenWithin_28 (by decide) ?_
    exact tx_mono (fun _ h => tx_Z.of h) (W.zret (v := (0 : Int32)) hx hb hr (by decide) (fun t ht hW => ⟨⟨[(d0, .inr (0, [.int dm, .ref gv, .ref dr, .ref rl, .ref yl, .ref mi, .ref fl, .ref bf, .int rk, .int sp, .int kn])), (gv, .inl (cI, 4, .inl g))], ⟨rfl, rfl⟩, by rw [ht]; exact hP.sub [0, 1] rfl, hD.sub [0, 1] (by decide) rfl⟩, hS.F ht⟩) hS.2.2 d_D_isGivenWithin_29)
  · refine lv_aload_n hx hb d_D_isGivenWithin_18 rfl (lv_at hl 1 rfl) ?_
    refine va_get (D := D) (ci := 0) (v := .ref gv) (C := cn_D) (T := ft_D) (N := 11) hx hb hf_D (fun _ h => h) hown hK hP 0 rfl rfl 1 (by decide) (gw.at G hx0 mw_195 rfl _) (fun _ h9 => h9) rfl d_D_isGivenWithin_19 ?_
    refine lv_iload_n hx hb d_D_isGivenWithin_22 rfl (lv_at hl 0 rfl) ?_
    refine va_iald hx hb hK hP 1 0 rfl rfl (vp_in_iff.mpr (by decide)) d_D_isGivenWithin_23 ?_
    refine tp_i (y := g 0) (by rfl) ?_
    refine lv_iload_n hx hb d_D_isGivenWithin_24 rfl (lv_at hl 2 rfl) ?_
    refine lv_icmp_le (tgt := 30) hx hb d_D_isGivenWithin_25 (by decide) (fun h_2 => ?_) (fun h_2 => ?_)
    · refine lv_iinc (lv' := [(2, .int (1 : Int32)), (0, .ref d0), (1, .int r)]) (k := 0) (v := (1 : Int32)) hx hb d_D_isGivenWithin_30 hl rfl (by decide) (by decide) rfl (fun ls hl => ?_)
      refine lv_goto (tgt := 2) hx hb d_D_isGivenWithin_33 (by decide) ?_
      refine lv_iload_n hx hb d_D_isGivenWithin_2 rfl (lv_at hl 0 rfl) ?_
      refine lv_iconst (v := (4 : Int32)) hx hb d_D_isGivenWithin_3 (by decide) ?_
      refine lv_icmp_ge (tgt := 36) hx hb d_D_isGivenWithin_4 (by decide) (fun h99 => absurd h99 (by decide)) (fun _ => ?_)
      refine lv_aload_n hx hb d_D_isGivenWithin_7 rfl (lv_at hl 1 rfl) ?_
      refine va_get (D := D) (ci := 0) (v := .ref gv) (C := cn_D) (T := ft_D) (N := 11) hx hb hf_D (fun _ h => h) hown hK hP 0 rfl rfl 1 (by decide) (gw.at G hx0 mw_195 rfl _) (fun _ h9 => h9) rfl d_D_isGivenWithin_8 ?_
      refine lv_iload_n hx hb d_D_isGivenWithin_11 rfl (lv_at hl 0 rfl) ?_
      refine va_iald hx hb hK hP 1 0 rfl rfl (vp_in_iff.mpr (by decide)) d_D_isGivenWithin_12 ?_
      refine tp_i (y := g 1) (by rfl) ?_
      refine lv_iload_n hx hb d_D_isGivenWithin_13 rfl (lv_at hl 2 rfl) ?_
      refine lv_ineg hx hb d_D_isGivenWithin_14 ?_
      refine lv_icmp_lt (tgt := 28) hx hb d_D_isGivenWithin_15 (by decide) (fun h_3 => ?_) (fun h_3 => ?_)
      · refine lv_iconst (v := (0 : Int32)) hx hb d_D_isGivenWithin_28 (by decide) ?_
        exact tx_mono (fun _ h => tx_Z.of h) (W.zret (v := (0 : Int32)) hx hb hr (by decide) (fun t ht hW => ⟨⟨[(d0, .inr (0, [.int dm, .ref gv, .ref dr, .ref rl, .ref yl, .ref mi, .ref fl, .ref bf, .int rk, .int sp, .int kn])), (gv, .inl (cI, 4, .inl g))], ⟨rfl, rfl⟩, by rw [ht]; exact hP.sub [0, 1] rfl, hD.sub [0, 1] (by decide) rfl⟩, hS.F ht⟩) hS.2.2 d_D_isGivenWithin_29)
      · refine lv_aload_n hx hb d_D_isGivenWithin_18 rfl (lv_at hl 1 rfl) ?_
        refine va_get (D := D) (ci := 0) (v := .ref gv) (C := cn_D) (T := ft_D) (N := 11) hx hb hf_D (fun _ h => h) hown hK hP 0 rfl rfl 1 (by decide) (gw.at G hx0 mw_195 rfl _) (fun _ h9 => h9) rfl d_D_isGivenWithin_19 ?_
        refine lv_iload_n hx hb d_D_isGivenWithin_22 rfl (lv_at hl 0 rfl) ?_
        refine va_iald hx hb hK hP 1 0 rfl rfl (vp_in_iff.mpr (by decide)) d_D_isGivenWithin_23 ?_
        refine tp_i (y := g 1) (by rfl) ?_
        refine lv_iload_n hx hb d_D_isGivenWithin_24 rfl (lv_at hl 2 rfl) ?_
        refine lv_icmp_le (tgt := 30) hx hb d_D_isGivenWithin_25 (by decide) (fun h_4 => ?_) (fun h_4 => ?_)
        · refine lv_iinc (lv' := [(2, .int (2 : Int32)), (0, .ref d0), (1, .int r)]) (k := 0) (v := (2 : Int32)) hx hb d_D_isGivenWithin_30 hl rfl (by decide) (by decide) rfl (fun ls hl => ?_)
          refine lv_goto (tgt := 2) hx hb d_D_isGivenWithin_33 (by decide) ?_
          refine lv_iload_n hx hb d_D_isGivenWithin_2 rfl (lv_at hl 0 rfl) ?_
          refine lv_iconst (v := (4 : Int32)) hx hb d_D_isGivenWithin_3 (by decide) ?_
          refine lv_icmp_ge (tgt := 36) hx hb d_D_isGivenWithin_4 (by decide) (fun h99 => absurd h99 (by decide)) (fun _ => ?_)
          refine lv_aload_n hx hb d_D_isGivenWithin_7 rfl (lv_at hl 1 rfl) ?_
          refine va_get (D := D) (ci := 0) (v := .ref gv) (C := cn_D) (T := ft_D) (N := 11) hx hb hf_D (fun _ h => h) hown hK hP 0 rfl rfl 1 (by decide) (gw.at G hx0 mw_195 rfl _) (fun _ h9 => h9) rfl d_D_isGivenWithin_8 ?_
          refine lv_iload_n hx hb d_D_isGivenWithin_11 rfl (lv_at hl 0 rfl) ?_
          refine va_iald hx hb hK hP 1 0 rfl rfl (vp_in_iff.mpr (by decide)) d_D_isGivenWithin_12 ?_
          refine tp_i (y := g 2) (by rfl) ?_
          refine lv_iload_n hx hb d_D_isGivenWithin_13 rfl (lv_at hl 2 rfl) ?_
          refine lv_ineg hx hb d_D_isGivenWithin_14 ?_
          refine lv_icmp_lt (tgt := 28) hx hb d_D_isGivenWithin_15 (by decide) (fun h_5 => ?_) (fun h_5 => ?_)
          · refine lv_iconst (v := (0 : Int32)) hx hb d_D_isGivenWithin_28 (by decide) ?_
            exact tx_mono (fun _ h => tx_Z.of h) (W.zret (v := (0 : Int32)) hx hb hr (by decide) (fun t ht hW => ⟨⟨[(d0, .inr (0, [.int dm, .ref gv, .ref dr, .ref rl, .ref yl, .ref mi, .ref fl, .ref bf, .int rk, .int sp, .int kn])), (gv, .inl (cI, 4, .inl g))], ⟨rfl, rfl⟩, by rw [ht]; exact hP.sub [0, 1] rfl, hD.sub [0, 1] (by decide) rfl⟩, hS.F ht⟩) hS.2.2 d_D_isGivenWithin_29)
          · refine lv_aload_n hx hb d_D_isGivenWithin_18 rfl (lv_at hl 1 rfl) ?_
            refine va_get (D := D) (ci := 0) (v := .ref gv) (C := cn_D) (T := ft_D) (N := 11) hx hb hf_D (fun _ h => h) hown hK hP 0 rfl rfl 1 (by decide) (gw.at G hx0 mw_195 rfl _) (fun _ h9 => h9) rfl d_D_isGivenWithin_19 ?_
            refine lv_iload_n hx hb d_D_isGivenWithin_22 rfl (lv_at hl 0 rfl) ?_
            refine va_iald hx hb hK hP 1 0 rfl rfl (vp_in_iff.mpr (by decide)) d_D_isGivenWithin_23 ?_
            refine tp_i (y := g 2) (by rfl) ?_
            refine lv_iload_n hx hb d_D_isGivenWithin_24 rfl (lv_at hl 2 rfl) ?_
            refine lv_icmp_le (tgt := 30) hx hb d_D_isGivenWithin_25 (by decide) (fun h_6 => ?_) (fun h_6 => ?_)
            · refine lv_iinc (lv' := [(2, .int (3 : Int32)), (0, .ref d0), (1, .int r)]) (k := 0) (v := (3 : Int32)) hx hb d_D_isGivenWithin_30 hl rfl (by decide) (by decide) rfl (fun ls hl => ?_)
              refine lv_goto (tgt := 2) hx hb d_D_isGivenWithin_33 (by decide) ?_
              refine lv_iload_n hx hb d_D_isGivenWithin_2 rfl (lv_at hl 0 rfl) ?_
              refine lv_iconst (v := (4 : Int32)) hx hb d_D_isGivenWithin_3 (by decide) ?_
              refine lv_icmp_ge (tgt := 36) hx hb d_D_isGivenWithin_4 (by decide) (fun h99 => absurd h99 (by decide)) (fun _ => ?_)
              refine lv_aload_n hx hb d_D_isGivenWithin_7 rfl (lv_at hl 1 rfl) ?_
              refine va_get (D := D) (ci := 0) (v := .ref gv) (C := cn_D) (T := ft_D) (N := 11) hx hb hf_D (fun _ h => h) hown hK hP 0 rfl rfl 1 (by decide) (gw.at G hx0 mw_195 rfl _) (fun _ h9 => h9) rfl d_D_isGivenWithin_8 ?_
              refine lv_iload_n hx hb d_D_isGivenWithin_11 rfl (lv_at hl 0 rfl) ?_
              refine va_iald hx hb hK hP 1 0 rfl rfl (vp_in_iff.mpr (by decide)) d_D_isGivenWithin_12 ?_
              refine tp_i (y := g 3) (by rfl) ?_
              refine lv_iload_n hx hb d_D_isGivenWithin_13 rfl (lv_at hl 2 rfl) ?_
              refine lv_ineg hx hb d_D_isGivenWithin_14 ?_
              refine lv_icmp_lt (tgt := 28) hx hb d_D_isGivenWithin_15 (by decide) (fun h_7 => ?_) (fun h_7 => ?_)
              · refine lv_iconst (v := (0 : Int32)) hx hb d_D_isGivenWithin_28 (by decide) ?_
                exact tx_mono (fun _ h => tx_Z.of h) (W.zret (v := (0 : Int32)) hx hb hr (by decide) (fun t ht hW => ⟨⟨[(d0, .inr (0, [.int dm, .ref gv, .ref dr, .ref rl, .ref yl, .ref mi, .ref fl, .ref bf, .int rk, .int sp, .int kn])), (gv, .inl (cI, 4, .inl g))], ⟨rfl, rfl⟩, by rw [ht]; exact hP.sub [0, 1] rfl, hD.sub [0, 1] (by decide) rfl⟩, hS.F ht⟩) hS.2.2 d_D_isGivenWithin_29)
              · refine lv_aload_n hx hb d_D_isGivenWithin_18 rfl (lv_at hl 1 rfl) ?_
                refine va_get (D := D) (ci := 0) (v := .ref gv) (C := cn_D) (T := ft_D) (N := 11) hx hb hf_D (fun _ h => h) hown hK hP 0 rfl rfl 1 (by decide) (gw.at G hx0 mw_195 rfl _) (fun _ h9 => h9) rfl d_D_isGivenWithin_19 ?_
                refine lv_iload_n hx hb d_D_isGivenWithin_22 rfl (lv_at hl 0 rfl) ?_
                refine va_iald hx hb hK hP 1 0 rfl rfl (vp_in_iff.mpr (by decide)) d_D_isGivenWithin_23 ?_
                refine tp_i (y := g 3) (by rfl) ?_
                refine lv_iload_n hx hb d_D_isGivenWithin_24 rfl (lv_at hl 2 rfl) ?_
                refine lv_icmp_le (tgt := 30) hx hb d_D_isGivenWithin_25 (by decide) (fun h_8 => ?_) (fun h_8 => ?_)
                · refine lv_iinc (lv' := [(2, .int (4 : Int32)), (0, .ref d0), (1, .int r)]) (k := 0) (v := (4 : Int32)) hx hb d_D_isGivenWithin_30 hl rfl (by decide) (by decide) rfl (fun ls hl => ?_)
                  refine lv_goto (tgt := 2) hx hb d_D_isGivenWithin_33 (by decide) ?_
                  refine lv_iload_n hx hb d_D_isGivenWithin_2 rfl (lv_at hl 0 rfl) ?_
                  refine lv_iconst (v := (4 : Int32)) hx hb d_D_isGivenWithin_3 (by decide) ?_
                  refine lv_icmp_ge (tgt := 36) hx hb d_D_isGivenWithin_4 (by decide) (fun _ => ?_) (fun h99 => absurd h99 (by decide))
                  refine lv_iconst (v := (1 : Int32)) hx hb d_D_isGivenWithin_36 (by decide) ?_
                  exact absurd ⟨inw_of h_1 h_2, inw_of h_3 h_4, inw_of h_5 h_6, inw_of h_7 h_8⟩ h
                · refine lv_iconst (v := (0 : Int32)) hx hb d_D_isGivenWithin_28 (by decide) ?_
                  exact tx_mono (fun _ h => tx_Z.of h) (W.zret (v := (0 : Int32)) hx hb hr (by decide) (fun t ht hW => ⟨⟨[(d0, .inr (0, [.int dm, .ref gv, .ref dr, .ref rl, .ref yl, .ref mi, .ref fl, .ref bf, .int rk, .int sp, .int kn])), (gv, .inl (cI, 4, .inl g))], ⟨rfl, rfl⟩, by rw [ht]; exact hP.sub [0, 1] rfl, hD.sub [0, 1] (by decide) rfl⟩, hS.F ht⟩) hS.2.2 d_D_isGivenWithin_29)
            · refine lv_iconst (v := (0 : Int32)) hx hb d_D_isGivenWithin_28 (by decide) ?_
              exact tx_mono (fun _ h => tx_Z.of h) (W.zret (v := (0 : Int32)) hx hb hr (by decide) (fun t ht hW => ⟨⟨[(d0, .inr (0, [.int dm, .ref gv, .ref dr, .ref rl, .ref yl, .ref mi, .ref fl, .ref bf, .int rk, .int sp, .int kn])), (gv, .inl (cI, 4, .inl g))], ⟨rfl, rfl⟩, by rw [ht]; exact hP.sub [0, 1] rfl, hD.sub [0, 1] (by decide) rfl⟩, hS.F ht⟩) hS.2.2 d_D_isGivenWithin_29)
        · refine lv_iconst (v := (0 : Int32)) hx hb d_D_isGivenWithin_28 (by decide) ?_
          exact tx_mono (fun _ h => tx_Z.of h) (W.zret (v := (0 : Int32)) hx hb hr (by decide) (fun t ht hW => ⟨⟨[(d0, .inr (0, [.int dm, .ref gv, .ref dr, .ref rl, .ref yl, .ref mi, .ref fl, .ref bf, .int rk, .int sp, .int kn])), (gv, .inl (cI, 4, .inl g))], ⟨rfl, rfl⟩, by rw [ht]; exact hP.sub [0, 1] rfl, hD.sub [0, 1] (by decide) rfl⟩, hS.F ht⟩) hS.2.2 d_D_isGivenWithin_29)
    · refine lv_iconst (v := (0 : Int32)) hx hb d_D_isGivenWithin_28 (by decide) ?_
      exact tx_mono (fun _ h => tx_Z.of h) (W.zret (v := (0 : Int32)) hx hb hr (by decide) (fun t ht hW => ⟨⟨[(d0, .inr (0, [.int dm, .ref gv, .ref dr, .ref rl, .ref yl, .ref mi, .ref fl, .ref bf, .int rk, .int sp, .int kn])), (gv, .inl (cI, 4, .inl g))], ⟨rfl, rfl⟩, by rw [ht]; exact hP.sub [0, 1] rfl, hD.sub [0, 1] (by decide) rfl⟩, hS.F ht⟩) hS.2.2 d_D_isGivenWithin_29)

set_option maxHeartbeats 4000000 in
set_option maxRecDepth 100000 in
theorem c_D_mask {l : Launch} {s0 : State} {b0 : Addr} {D : va_G} {cI cJ cZ : ClassId} {tC tS : Nat} (E : gE l s0 b0 D cI cJ cZ tC tS) (sz : Nat) (n : Int32) : cx_M l s0 D kl y_D_maskOfAll b_D_maskOfAll 1 (some .int) ({ frames := 0, cells := 0, slots := 0, locals := 0 } : Room) 0 0 [.int n] [] sz (fun o9 _ w9 => o9 = .returned (some (.int ((1 : Int32) <<< (n &&& 31) - (1 : Int32)))) ∧ w9 = []) := by
  refine tx_ofW (cc := b_D_maskOfAll) (maxL := 1) (ret := (some .int)) (by decide) rfl ?_
  intro p e s m args below meth c s₁ B hml hT hv
  obtain ⟨rfl, hsz, hP, hD0, hx0⟩ := hv
  have hx := B.exec
  have hb := B.bytes
  have hr := B.returns
  have G := E.2.1
  have hown : s.vm.findClass cn_D = some m.cls := findClass_of_methodNamed B.named
  have hlocks := B.notSynchronized
  have hK := va_K.moved hx0.1.alike E.2.2.1
  subst hsz
  have hA0 := cx_new hD0 hx0.2.1
  have hD := hD0.self (sz := s.heap.size)
  generalize hAe : va_A [] s.heap.size = A at hD hA0 ⊢
  have hA : ∀ q : Nat, s.heap.size ≤ q → A q := fun q h => by rw [← hAe]; exact Or.inr h
  have hS : va_S A s.heap s.heap [] := va_S.rf
  have hl := lv_entry ([.int n]) (n := 1) (Nat.le_of_ble_eq_true rfl)
  rw [lg_entry_eq]
  generalize (lg_sl ([.int n]) ++ List.replicate (1 - (lg_sl ([.int n])).length) Slot.unset).toArray = ls at hl ⊢
  have hl : lv_has ls 1 [(0, .int n)] := hl
  have hP : va_P D kl [] s.heap := hP
  have hml : c.maxLocals = 1 := hml
  refine lv_iconst (v := (1 : Int32)) hx hb d_D_maskOfAll_0 (by decide) ?_
  refine lv_iload_n hx hb d_D_maskOfAll_1 rfl (lv_at hl 0 rfl) ?_
  refine lv_ishl hx hb d_D_maskOfAll_2 ?_
  refine lv_iconst (v := (1 : Int32)) hx hb d_D_maskOfAll_3 (by decide) ?_
  refine lv_isub hx hb d_D_maskOfAll_4 ?_
  exact tx_mono (fun _ h => tx_Z.of h) (W.iret (v := ((1 : Int32) <<< (n &&& 31)) - (1 : Int32)) hx hb hr (fun t ht hW => ⟨⟨[], ⟨rfl, rfl⟩, by rw [ht]; exact hP.sub [] rfl, hD.sub [] (by decide) rfl⟩, hS.F ht⟩) hS.2.2 d_D_maskOfAll_5)

