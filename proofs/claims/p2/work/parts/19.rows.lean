/-! ===== own rows, laid by wip/tools/sym.py: rows of the class, in general ===== -/
set_option maxHeartbeats 4000000 in
set_option maxRecDepth 100000 in
theorem c_D_inCone_y {l : Launch} {s0 : State} {b0 : Addr} {D : va_G} {cI cJ cZ : ClassId} {tC tS : Nat} (E : gE l s0 b0 D cI cJ cZ tC tS) (sz : Nat) (d0 : Nat) (gv : Nat) (dr : Nat) (rl : Nat) (yl : Nat) (mi : Nat) (fl : Nat) (bf : Nat) (dm : Int32) (rk : Int32) (sp : Int32) (kn : Int32) (rc : Nat) (ct : Nat) (mo : Nat) (pz : Nat) (pf : Nat → Int32) (ga : Nat) (g : Nat → Int32) (hpz : pz = mo * 4) (hmo : mo ≤ 107) (hct : ct ≤ mo) (h : (∀ r, r < ct → ¬ pr4 pf r g < 0)) : cx_M l s0 D kl y_D_isInCone b_D_isInCone 3 (some .boolean) ({ frames := 2, cells := 0, slots := 0, locals := 47 } : Room) 0 0 [.ref d0, .ref ga] [(d0, .inr (0, [.int dm, .ref gv, .ref dr, .ref rl, .ref yl, .ref mi, .ref fl, .ref bf, .int rk, .int sp, .int kn])), (rl, .inr (1, [.ref rc, .int (nI ct), .int (nI mo)])), (rc, .inl (cI, pz, .inl pf)), (ga, .inl (cI, 4, .inl g))] sz (fun o9 _ w9 => o9 = .returned (some (.int (1 : Int32))) ∧ w9 = [(d0, .inr (0, [.int dm, .ref gv, .ref dr, .ref rl, .ref yl, .ref mi, .ref fl, .ref bf, .int rk, .int sp, .int kn])), (rl, .inr (1, [.ref rc, .int (nI ct), .int (nI mo)])), (rc, .inl (cI, pz, .inl pf)), (ga, .inl (cI, 4, .inl g))]) := by
  refine tx_ofW (cc := b_D_isInCone) (maxL := 3) (ret := (some .boolean)) (by decide) rfl ?_
  intro p e s m args below meth c s₁ B hml hT hv
  obtain ⟨rfl, hsz, hP, hD0, hx0⟩ := hv
  have hx := B.exec
  have hb := B.bytes
  have hr := B.returns
  have G := E.2.1
  have hown : s.vm.findClass cn_D = some m.cls := findClass_of_methodNamed B.named
  have hlocks := B.notSynchronized
  have hK := va_K.moved hx0.1.alike E.2.2.1
  have hf_D : ∀ w99 ∈ u_ws cn_D ft_D 11, w99.before ([.ref d0, .ref ga] : List Value).toArray s = true := fun w99 h99 => gw.at G hx0 (fw_D w99 h99) (fo_D w99 h99) _
  have hf_PL : ∀ w99 ∈ u_ws cn_PL ft_PL 3, w99.before ([.ref d0, .ref ga] : List Value).toArray s = true := fun w99 h99 => gw.at G hx0 (fw_PL w99 h99) (fo_PL w99 h99) _
  subst hsz
  have hA0 := cx_new hD0 hx0.2.1
  have hD := hD0.self (sz := s.heap.size)
  generalize hAe : va_A [(d0, .inr (0, [.int dm, .ref gv, .ref dr, .ref rl, .ref yl, .ref mi, .ref fl, .ref bf, .int rk, .int sp, .int kn])), (rl, .inr (1, [.ref rc, .int (nI ct), .int (nI mo)])), (rc, .inl (cI, pz, .inl pf)), (ga, .inl (cI, 4, .inl g))] s.heap.size = A at hD hA0 ⊢
  have hA : ∀ q : Nat, s.heap.size ≤ q → A q := fun q h => by rw [← hAe]; exact Or.inr h
  have hS : va_S A s.heap s.heap [] := va_S.rf
  have hl := lv_entry ([.ref d0, .ref ga]) (n := 3) (Nat.le_of_ble_eq_true rfl)
  rw [lg_entry_eq]
  generalize (lg_sl ([.ref d0, .ref ga]) ++ List.replicate (3 - (lg_sl ([.ref d0, .ref ga])).length) Slot.unset).toArray = ls at hl ⊢
  have hl : lv_has ls 3 [(0, .ref d0), (1, .ref ga)] := hl
  have hP : va_P D kl [(d0, .inr (0, [.int dm, .ref gv, .ref dr, .ref rl, .ref yl, .ref mi, .ref fl, .ref bf, .int rk, .int sp, .int kn])), (rl, .inr (1, [.ref rc, .int (nI ct), .int (nI mo)])), (rc, .inl (cI, pz, .inl pf)), (ga, .inl (cI, 4, .inl g))] s.heap := hP
  have hml : c.maxLocals = 3 := hml
  generalize hQe : tx_Z below (cx_Q D kl A (fun o9 _ w9 => o9 = .returned (some (.int (1 : Int32))) ∧ w9 = [(d0, .inr (0, [.int dm, .ref gv, .ref dr, .ref rl, .ref yl, .ref mi, .ref fl, .ref bf, .int rk, .int sp, .int kn])), (rl, .inr (1, [.ref rc, .int (nI ct), .int (nI mo)])), (rc, .inl (cI, pz, .inl pf)), (ga, .inl (cI, 4, .inl g))])) ([.ref d0, .ref ga] : List Value).toArray s 0 0 A = Q
  refine lv_iconst (v := (0 : Int32)) hx hb d_D_isInCone_0 (by decide) ?_
  refine lv_istore_n (lv' := [(2, .int (0 : Int32)), (0, .ref d0), (1, .ref ga)]) hx hb d_D_isInCone_1 rfl hl (by decide) rfl (fun ls hl => ?_)
  have lp_2 : ∀ (n9 : Nat) (z : Nat) (ls : Array Slot) (H : Heap) (locs : List Loc), ct - z = n9 → (∀ r, r < z → ¬ pr4 pf r g < 0) → (z ≤ ct) → lv_has ls 3 [(2, .int (nI z)), (0, .ref d0), (1, .ref ga)] → va_P D kl [(d0, .inr (0, [.int dm, .ref gv, .ref dr, .ref rl, .ref yl, .ref mi, .ref fl, .ref bf, .int rk, .int sp, .int kn])), (rl, .inr (1, [.ref rc, .int (nI ct), .int (nI mo)])), (rc, .inl (cI, pz, .inl pf)), (ga, .inl (cI, 4, .inl g))] H → va_D A [(d0, .inr (0, [.int dm, .ref gv, .ref dr, .ref rl, .ref yl, .ref mi, .ref fl, .ref bf, .int rk, .int sp, .int kn])), (rl, .inr (1, [.ref rc, .int (nI ct), .int (nI mo)])), (rc, .inl (cI, pz, .inl pf)), (ga, .inl (cI, 4, .inl g))] → va_S A s.heap H locs → W p l e ({ frames := 2, cells := 0, slots := 0, locals := 47 } : Room) s m ([.ref d0, .ref ga] : List Value).toArray below meth c H locs 0 0 Q (F0 m 2 ls []) := by
    intro n9
    induction n9 using Nat.strongRecOn with
    | ind n9 ih_2 =>
      intro z ls H locs hm_2 hi hz hl hP hD hS
      refine lv_iload_n hx hb d_D_isInCone_2 rfl (lv_at hl 0 rfl) ?_
      refine lv_aload_n hx hb d_D_isInCone_3 rfl (lv_at hl 1 rfl) ?_
      refine va_get (D := D) (ci := 0) (v := .ref rl) (C := cn_D) (T := ft_D) (N := 11) hx hb hf_D (fun _ h => h) hown hK hP 0 rfl rfl 3 (by decide) (gw.at G hx0 mw_197 rfl _) (fun _ h9 => h9) rfl d_D_isInCone_4 ?_
      refine va_get (D := D) (ci := 1) (v := .int (nI ct)) (C := cn_PL) (T := ft_PL) (N := 3) hx hb hf_PL (fun _ h => h) hown hK hP 1 rfl rfl 1 (by decide) (gw.at G hx0 mw_45 rfl _) (fun _ h9 => h9) rfl d_D_isInCone_7 ?_
      refine lv_icmp_ge (tgt := 35) hx hb d_D_isInCone_10 (by decide) (fun h_1 => ?_) (fun h_1 => ?_)
      · have h_1 : ct ≤ z := (nI_leI (a := ct) (b := z) (by omega) (by omega)).mp h_1
        refine lv_iconst (v := (1 : Int32)) hx hb d_D_isInCone_35 (by decide) ?_
        rw [← hQe]
        exact tx_mono (fun _ h => tx_Z.of h) (W.zret (v := (1 : Int32)) hx hb hr (by decide) (fun t ht hW => ⟨⟨[(d0, .inr (0, [.int dm, .ref gv, .ref dr, .ref rl, .ref yl, .ref mi, .ref fl, .ref bf, .int rk, .int sp, .int kn])), (rl, .inr (1, [.ref rc, .int (nI ct), .int (nI mo)])), (rc, .inl (cI, pz, .inl pf)), (ga, .inl (cI, 4, .inl g))], ⟨rfl, rfl⟩, by rw [ht]; exact hP.sub [0, 1, 2, 3] rfl, hD.sub [0, 1, 2, 3] (by decide) rfl⟩, hS.F ht⟩) hS.2.2 d_D_isInCone_36)
      · have h_1 : ¬ (ct ≤ z) := fun z99 => h_1 ((nI_leI (a := ct) (b := z) (by omega) (by omega)).mpr z99)
        refine lv_aload_n hx hb d_D_isInCone_13 rfl (lv_at hl 1 rfl) ?_
        refine va_get (D := D) (ci := 0) (v := .ref rl) (C := cn_D) (T := ft_D) (N := 11) hx hb hf_D (fun _ h => h) hown hK hP 0 rfl rfl 3 (by decide) (gw.at G hx0 mw_197 rfl _) (fun _ h9 => h9) rfl d_D_isInCone_14 ?_
        refine lv_iload_n hx hb d_D_isInCone_17 rfl (lv_at hl 0 rfl) ?_
        refine lv_aload_n hx hb d_D_isInCone_18 rfl (lv_at hl 2 rfl) ?_
        refine cx_call (D := D) (cl := kl) (ws := _) (wc := [(rl, .inr (1, [.ref rc, .int (nI ct), .int (nI mo)])), (rc, .inl (cI, pz, .inl pf)), (ga, .inl (cI, 4, .inl g))]) (wr := [(d0, .inr (0, [.int dm, .ref gv, .ref dr, .ref rl, .ref yl, .ref mi, .ref fl, .ref bf, .int rk, .int sp, .int kn]))]) (tx_runV (C := cn_PL) (b := rl) (As := [.int (nI z), .ref ga]) (rest := []) hx hb hml hown (c_PL_product E H.size rl rc ct mo pz pf z ga g hpz hmo hct (by omega)) (cx_C (b0 := b0) G hx0 mw_247 mw_3 ny_PL_product (by decide)) (gw.at G hx0 mw_244 rfl _) (gw.at G hx0 mw_245 rfl _) (gw.at G hx0 mw_246 rfl _) ⟨cx_blind, va_recv hK hP (q0 := 1) (ci := 1) (q := (cn_PL, ft_PL, 3)) rfl rfl, (cx_pre (s := s) hx0 hP hD hS hA0 [1, 2, 3] rfl rfl (by decide))⟩ rfl rfl hl.1 rfl (lv_room (Nat.le_of_ble_eq_true rfl)) d_D_isInCone_19 ⟨by decide, by decide⟩) hP hD hS hA [1, 2, 3] [0] rfl rfl (by decide) (by decide) (fun v t w1 H locs ht hW9 hp hP hD hS => ?_) (fun x t w1 H locs ht hW9 hp hP hD hS => by obtain ⟨h9, -⟩ := hp; cases h9)
        obtain ⟨h9, rfl⟩ := hp
        cases h9
        refine W.eq (g2 := F0 m 22 ls [.long (pr4 pf z g)]) rfl ?_
        refine W.widen (k := 0) (n := 0) (by decide) (by decide) ?_
        have hP : va_P D kl [(d0, .inr (0, [.int dm, .ref gv, .ref dr, .ref rl, .ref yl, .ref mi, .ref fl, .ref bf, .int rk, .int sp, .int kn])), (rl, .inr (1, [.ref rc, .int (nI ct), .int (nI mo)])), (rc, .inl (cI, pz, .inl pf)), (ga, .inl (cI, 4, .inl g))] H := hP
        have hD : va_D A [(d0, .inr (0, [.int dm, .ref gv, .ref dr, .ref rl, .ref yl, .ref mi, .ref fl, .ref bf, .int rk, .int sp, .int kn])), (rl, .inr (1, [.ref rc, .int (nI ct), .int (nI mo)])), (rc, .inl (cI, pz, .inl pf)), (ga, .inl (cI, 4, .inl g))] := hD
        refine lv_lconst (v := (0 : Int64)) hx hb d_D_isInCone_22 (by decide) ?_
        refine W.lcmp hx hb d_D_isInCone_23 ?_
        refine lv_if_ge (tgt := 29) hx hb d_D_isInCone_24 (by decide) (fun _ => ?_) (fun h99 => absurd h99 (not_not_intro ((lg_cmp_ge _ _).mpr (Int64.not_lt.mp (h z (by omega))))))
        refine lv_iinc (lv' := [(2, .int (nI (z + 1))), (0, .ref d0), (1, .ref ga)]) (k := 0) (v := nI (z + 1)) hx hb d_D_isInCone_29 hl rfl (nI_add z 1) (by decide) rfl (fun ls hl => ?_)
        refine lv_goto (tgt := 2) hx hb d_D_isInCone_32 (by decide) ?_
        exact ih_2 _ (by omega) (z + 1) ls H locs rfl (fun r hr => h r (by omega)) (by omega) (lv_sub hl [0, 1, 2] rfl) (hP.sub [0, 1, 2, 3] rfl) (hD.sub [0, 1, 2, 3] (by decide) rfl) hS
  exact lp_2 _ 0 ls s.heap [] rfl (fun r hr => absurd hr (Nat.not_lt_zero r)) (Nat.zero_le _) (lv_sub hl [0, 1, 2] rfl) (hP.sub [0, 1, 2, 3] rfl) (hD.sub [0, 1, 2, 3] (by decide) rfl) hS

set_option maxHeartbeats 4000000 in
set_option maxRecDepth 100000 in
theorem c_D_inCone_n {l : Launch} {s0 : State} {b0 : Addr} {D : va_G} {cI cJ cZ : ClassId} {tC tS : Nat} (E : gE l s0 b0 D cI cJ cZ tC tS) (sz : Nat) (d0 : Nat) (gv : Nat) (dr : Nat) (rl : Nat) (yl : Nat) (mi : Nat) (fl : Nat) (bf : Nat) (dm : Int32) (rk : Int32) (sp : Int32) (kn : Int32) (rc : Nat) (ct : Nat) (mo : Nat) (pz : Nat) (pf : Nat → Int32) (ga : Nat) (g : Nat → Int32) (hpz : pz = mo * 4) (hmo : mo ≤ 107) (hct : ct ≤ mo) (h : ¬ (∀ r, r < ct → ¬ pr4 pf r g < 0)) : cx_M l s0 D kl y_D_isInCone b_D_isInCone 3 (some .boolean) ({ frames := 2, cells := 0, slots := 0, locals := 47 } : Room) 0 0 [.ref d0, .ref ga] [(d0, .inr (0, [.int dm, .ref gv, .ref dr, .ref rl, .ref yl, .ref mi, .ref fl, .ref bf, .int rk, .int sp, .int kn])), (rl, .inr (1, [.ref rc, .int (nI ct), .int (nI mo)])), (rc, .inl (cI, pz, .inl pf)), (ga, .inl (cI, 4, .inl g))] sz (fun o9 _ w9 => o9 = .returned (some (.int (0 : Int32))) ∧ w9 = [(d0, .inr (0, [.int dm, .ref gv, .ref dr, .ref rl, .ref yl, .ref mi, .ref fl, .ref bf, .int rk, .int sp, .int kn])), (rl, .inr (1, [.ref rc, .int (nI ct), .int (nI mo)])), (rc, .inl (cI, pz, .inl pf)), (ga, .inl (cI, 4, .inl g))]) := by
  refine tx_ofW (cc := b_D_isInCone) (maxL := 3) (ret := (some .boolean)) (by decide) rfl ?_
  intro p e s m args below meth c s₁ B hml hT hv
  obtain ⟨rfl, hsz, hP, hD0, hx0⟩ := hv
  have hx := B.exec
  have hb := B.bytes
  have hr := B.returns
  have G := E.2.1
  have hown : s.vm.findClass cn_D = some m.cls := findClass_of_methodNamed B.named
  have hlocks := B.notSynchronized
  have hK := va_K.moved hx0.1.alike E.2.2.1
  have hf_D : ∀ w99 ∈ u_ws cn_D ft_D 11, w99.before ([.ref d0, .ref ga] : List Value).toArray s = true := fun w99 h99 => gw.at G hx0 (fw_D w99 h99) (fo_D w99 h99) _
  have hf_PL : ∀ w99 ∈ u_ws cn_PL ft_PL 3, w99.before ([.ref d0, .ref ga] : List Value).toArray s = true := fun w99 h99 => gw.at G hx0 (fw_PL w99 h99) (fo_PL w99 h99) _
  subst hsz
  have hA0 := cx_new hD0 hx0.2.1
  have hD := hD0.self (sz := s.heap.size)
  generalize hAe : va_A [(d0, .inr (0, [.int dm, .ref gv, .ref dr, .ref rl, .ref yl, .ref mi, .ref fl, .ref bf, .int rk, .int sp, .int kn])), (rl, .inr (1, [.ref rc, .int (nI ct), .int (nI mo)])), (rc, .inl (cI, pz, .inl pf)), (ga, .inl (cI, 4, .inl g))] s.heap.size = A at hD hA0 ⊢
  have hA : ∀ q : Nat, s.heap.size ≤ q → A q := fun q h => by rw [← hAe]; exact Or.inr h
  have hS : va_S A s.heap s.heap [] := va_S.rf
  have hl := lv_entry ([.ref d0, .ref ga]) (n := 3) (Nat.le_of_ble_eq_true rfl)
  rw [lg_entry_eq]
  generalize (lg_sl ([.ref d0, .ref ga]) ++ List.replicate (3 - (lg_sl ([.ref d0, .ref ga])).length) Slot.unset).toArray = ls at hl ⊢
  have hl : lv_has ls 3 [(0, .ref d0), (1, .ref ga)] := hl
  have hP : va_P D kl [(d0, .inr (0, [.int dm, .ref gv, .ref dr, .ref rl, .ref yl, .ref mi, .ref fl, .ref bf, .int rk, .int sp, .int kn])), (rl, .inr (1, [.ref rc, .int (nI ct), .int (nI mo)])), (rc, .inl (cI, pz, .inl pf)), (ga, .inl (cI, 4, .inl g))] s.heap := hP
  have hml : c.maxLocals = 3 := hml
  generalize hQe : tx_Z below (cx_Q D kl A (fun o9 _ w9 => o9 = .returned (some (.int (0 : Int32))) ∧ w9 = [(d0, .inr (0, [.int dm, .ref gv, .ref dr, .ref rl, .ref yl, .ref mi, .ref fl, .ref bf, .int rk, .int sp, .int kn])), (rl, .inr (1, [.ref rc, .int (nI ct), .int (nI mo)])), (rc, .inl (cI, pz, .inl pf)), (ga, .inl (cI, 4, .inl g))])) ([.ref d0, .ref ga] : List Value).toArray s 0 0 A = Q
  refine lv_iconst (v := (0 : Int32)) hx hb d_D_isInCone_0 (by decide) ?_
  refine lv_istore_n (lv' := [(2, .int (0 : Int32)), (0, .ref d0), (1, .ref ga)]) hx hb d_D_isInCone_1 rfl hl (by decide) rfl (fun ls hl => ?_)
  have lp_2 : ∀ (n9 : Nat) (z : Nat) (ls : Array Slot) (H : Heap) (locs : List Loc), ct - z = n9 → (∀ r, r < z → ¬ pr4 pf r g < 0) → (z ≤ ct) → lv_has ls 3 [(2, .int (nI z)), (0, .ref d0), (1, .ref ga)] → va_P D kl [(d0, .inr (0, [.int dm, .ref gv, .ref dr, .ref rl, .ref yl, .ref mi, .ref fl, .ref bf, .int rk, .int sp, .int kn])), (rl, .inr (1, [.ref rc, .int (nI ct), .int (nI mo)])), (rc, .inl (cI, pz, .inl pf)), (ga, .inl (cI, 4, .inl g))] H → va_D A [(d0, .inr (0, [.int dm, .ref gv, .ref dr, .ref rl, .ref yl, .ref mi, .ref fl, .ref bf, .int rk, .int sp, .int kn])), (rl, .inr (1, [.ref rc, .int (nI ct), .int (nI mo)])), (rc, .inl (cI, pz, .inl pf)), (ga, .inl (cI, 4, .inl g))] → va_S A s.heap H locs → W p l e ({ frames := 2, cells := 0, slots := 0, locals := 47 } : Room) s m ([.ref d0, .ref ga] : List Value).toArray below meth c H locs 0 0 Q (F0 m 2 ls []) := by
    intro n9
    induction n9 using Nat.strongRecOn with
    | ind n9 ih_2 =>
      intro z ls H locs hm_2 hi hz hl hP hD hS
      refine lv_iload_n hx hb d_D_isInCone_2 rfl (lv_at hl 0 rfl) ?_
      refine lv_aload_n hx hb d_D_isInCone_3 rfl (lv_at hl 1 rfl) ?_
      refine va_get (D := D) (ci := 0) (v := .ref rl) (C := cn_D) (T := ft_D) (N := 11) hx hb hf_D (fun _ h => h) hown hK hP 0 rfl rfl 3 (by decide) (gw.at G hx0 mw_197 rfl _) (fun _ h9 => h9) rfl d_D_isInCone_4 ?_
      refine va_get (D := D) (ci := 1) (v := .int (nI ct)) (C := cn_PL) (T := ft_PL) (N := 3) hx hb hf_PL (fun _ h => h) hown hK hP 1 rfl rfl 1 (by decide) (gw.at G hx0 mw_45 rfl _) (fun _ h9 => h9) rfl d_D_isInCone_7 ?_
      refine lv_icmp_ge (tgt := 35) hx hb d_D_isInCone_10 (by decide) (fun h_1 => ?_) (fun h_1 => ?_)
      · have h_1 : ct ≤ z := (nI_leI (a := ct) (b := z) (by omega) (by omega)).mp h_1
        refine lv_iconst (v := (1 : Int32)) hx hb d_D_isInCone_35 (by decide) ?_
        exact absurd (fun r hr => hi r (by omega)) h
      · have h_1 : ¬ (ct ≤ z) := fun z99 => h_1 ((nI_leI (a := ct) (b := z) (by omega) (by omega)).mpr z99)
        refine lv_aload_n hx hb d_D_isInCone_13 rfl (lv_at hl 1 rfl) ?_
        refine va_get (D := D) (ci := 0) (v := .ref rl) (C := cn_D) (T := ft_D) (N := 11) hx hb hf_D (fun _ h => h) hown hK hP 0 rfl rfl 3 (by decide) (gw.at G hx0 mw_197 rfl _) (fun _ h9 => h9) rfl d_D_isInCone_14 ?_
        refine lv_iload_n hx hb d_D_isInCone_17 rfl (lv_at hl 0 rfl) ?_
        refine lv_aload_n hx hb d_D_isInCone_18 rfl (lv_at hl 2 rfl) ?_
        refine cx_call (D := D) (cl := kl) (ws := _) (wc := [(rl, .inr (1, [.ref rc, .int (nI ct), .int (nI mo)])), (rc, .inl (cI, pz, .inl pf)), (ga, .inl (cI, 4, .inl g))]) (wr := [(d0, .inr (0, [.int dm, .ref gv, .ref dr, .ref rl, .ref yl, .ref mi, .ref fl, .ref bf, .int rk, .int sp, .int kn]))]) (tx_runV (C := cn_PL) (b := rl) (As := [.int (nI z), .ref ga]) (rest := []) hx hb hml hown (c_PL_product E H.size rl rc ct mo pz pf z ga g hpz hmo hct (by omega)) (cx_C (b0 := b0) G hx0 mw_247 mw_3 ny_PL_product (by decide)) (gw.at G hx0 mw_244 rfl _) (gw.at G hx0 mw_245 rfl _) (gw.at G hx0 mw_246 rfl _) ⟨cx_blind, va_recv hK hP (q0 := 1) (ci := 1) (q := (cn_PL, ft_PL, 3)) rfl rfl, (cx_pre (s := s) hx0 hP hD hS hA0 [1, 2, 3] rfl rfl (by decide))⟩ rfl rfl hl.1 rfl (lv_room (Nat.le_of_ble_eq_true rfl)) d_D_isInCone_19 ⟨by decide, by decide⟩) hP hD hS hA [1, 2, 3] [0] rfl rfl (by decide) (by decide) (fun v t w1 H locs ht hW9 hp hP hD hS => ?_) (fun x t w1 H locs ht hW9 hp hP hD hS => by obtain ⟨h9, -⟩ := hp; cases h9)
        obtain ⟨h9, rfl⟩ := hp
        cases h9
        refine W.eq (g2 := F0 m 22 ls [.long (pr4 pf z g)]) rfl ?_
        refine W.widen (k := 0) (n := 0) (by decide) (by decide) ?_
        have hP : va_P D kl [(d0, .inr (0, [.int dm, .ref gv, .ref dr, .ref rl, .ref yl, .ref mi, .ref fl, .ref bf, .int rk, .int sp, .int kn])), (rl, .inr (1, [.ref rc, .int (nI ct), .int (nI mo)])), (rc, .inl (cI, pz, .inl pf)), (ga, .inl (cI, 4, .inl g))] H := hP
        have hD : va_D A [(d0, .inr (0, [.int dm, .ref gv, .ref dr, .ref rl, .ref yl, .ref mi, .ref fl, .ref bf, .int rk, .int sp, .int kn])), (rl, .inr (1, [.ref rc, .int (nI ct), .int (nI mo)])), (rc, .inl (cI, pz, .inl pf)), (ga, .inl (cI, 4, .inl g))] := hD
        refine lv_lconst (v := (0 : Int64)) hx hb d_D_isInCone_22 (by decide) ?_
        refine W.lcmp hx hb d_D_isInCone_23 ?_
        refine lv_if_ge (tgt := 29) hx hb d_D_isInCone_24 (by decide) (fun h_2 => ?_) (fun h_2 => ?_)
        · refine lv_iinc (lv' := [(2, .int (nI (z + 1))), (0, .ref d0), (1, .ref ga)]) (k := 0) (v := nI (z + 1)) hx hb d_D_isInCone_29 hl rfl (nI_add z 1) (by decide) rfl (fun ls hl => ?_)
          refine lv_goto (tgt := 2) hx hb d_D_isInCone_32 (by decide) ?_
          exact ih_2 _ (by omega) (z + 1) ls H locs rfl (fun r hr => (Nat.lt_succ_iff_lt_or_eq.mp hr).elim (hi r) (fun e => by rw [e]; exact Int64.not_lt.mpr ((lg_cmp_ge _ _).mp h_2))) (by omega) (lv_sub hl [0, 1, 2] rfl) (hP.sub [0, 1, 2, 3] rfl) (hD.sub [0, 1, 2, 3] (by decide) rfl) hS
        · refine lv_iconst (v := (0 : Int32)) hx hb d_D_isInCone_27 (by decide) ?_
          rw [← hQe]
          exact tx_mono (fun _ h => tx_Z.of h) (W.zret (v := (0 : Int32)) hx hb hr (by decide) (fun t ht hW => ⟨⟨[(d0, .inr (0, [.int dm, .ref gv, .ref dr, .ref rl, .ref yl, .ref mi, .ref fl, .ref bf, .int rk, .int sp, .int kn])), (rl, .inr (1, [.ref rc, .int (nI ct), .int (nI mo)])), (rc, .inl (cI, pz, .inl pf)), (ga, .inl (cI, 4, .inl g))], ⟨rfl, rfl⟩, by rw [ht]; exact hP.sub [0, 1, 2, 3] rfl, hD.sub [0, 1, 2, 3] (by decide) rfl⟩, hS.F ht⟩) hS.2.2 d_D_isInCone_28)
  exact lp_2 _ 0 ls s.heap [] rfl (fun r hr => absurd hr (Nat.not_lt_zero r)) (Nat.zero_le _) (lv_sub hl [0, 1, 2] rfl) (hP.sub [0, 1, 2, 3] rfl) (hD.sub [0, 1, 2, 3] (by decide) rfl) hS

set_option maxHeartbeats 4000000 in
set_option maxRecDepth 100000 in
theorem c_D_note {l : Launch} {s0 : State} {b0 : Addr} {D : va_G} {cI cJ cZ : ClassId} {tC tS : Nat} (E : gE l s0 b0 D cI cJ cZ tC tS) (sz : Nat) (d0 : Nat) (gv : Nat) (dr : Nat) (rl : Nat) (yl : Nat) (mi : Nat) (fl : Nat) (bf : Nat) (dm : Int32) (rk : Int32) (sp : Int32) (kn : Int32) (rc : Nat) (ct : Nat) (mo : Nat) (pz : Nat) (pf : Nat → Int32) (cu : Nat) (nx : Nat) (cf : Nat → Int64) (nf : Nat → Int64) (jz : Int32) (hpz : pz = mo * 4) (hmo : mo ≤ 107) (hct : ct ≤ mo) (hc12 : ct ≤ 12) : cx_M l s0 D kl y_D_noteChange b_D_noteChange 1 none ({ frames := 2, cells := 0, slots := 0, locals := 53 } : Room) 0 0 [.ref d0] [(d0, .inr (0, [.int dm, .ref gv, .ref dr, .ref rl, .ref yl, .ref mi, .ref fl, .ref bf, .int rk, .int sp, .int kn])), (rl, .inr (1, [.ref rc, .int (nI ct), .int (nI mo)])), (rc, .inl (cI, pz, .inl pf)), (mi, .inr (2, [.ref cu, .ref nx, .int jz])), (cu, .inl (cJ, 16, .inr (.inl cf))), (nx, .inl (cJ, 16, .inr (.inl nf)))] sz (fun o9 _ w9 => ∃ (ca : Nat) (nb : Nat) (fa : Nat → Int64) (fb : Nat → Int64), o9 = .returned none ∧ w9 = [(d0, .inr (0, [.int dm, .ref gv, .ref dr, .ref rl, .ref yl, .ref mi, .ref fl, .ref bf, .int (nI ((lst pf (2 ^ ct - 1) ct).1)), .int sp, .int (0 : Int32)])), (rl, .inr (1, [.ref rc, .int (nI ct), .int (nI mo)])), (rc, .inl (cI, pz, .inl pf)), (mi, .inr (2, [.ref ca, .ref nb, .int (nI ((lst pf (2 ^ ct - 1) ct).1))])), (ca, .inl (cJ, 16, .inr (.inl fa))), (nb, .inl (cJ, 16, .inr (.inl fb)))]) := by
  refine tx_ofW (cc := b_D_noteChange) (maxL := 1) (ret := none) (by decide) rfl ?_
  intro p e s m args below meth c s₁ B hml hT hv
  obtain ⟨rfl, hsz, hP, hD0, hx0⟩ := hv
  have hx := B.exec
  have hb := B.bytes
  have hr := B.returns
  have G := E.2.1
  have hown : s.vm.findClass cn_D = some m.cls := findClass_of_methodNamed B.named
  have hlocks := B.notSynchronized
  have hK := va_K.moved hx0.1.alike E.2.2.1
  have hf_D : ∀ w99 ∈ u_ws cn_D ft_D 11, w99.before ([.ref d0] : List Value).toArray s = true := fun w99 h99 => gw.at G hx0 (fw_D w99 h99) (fo_D w99 h99) _
  have hf_PL : ∀ w99 ∈ u_ws cn_PL ft_PL 3, w99.before ([.ref d0] : List Value).toArray s = true := fun w99 h99 => gw.at G hx0 (fw_PL w99 h99) (fo_PL w99 h99) _
  subst hsz
  have hA0 := cx_new hD0 hx0.2.1
  have hD := hD0.self (sz := s.heap.size)
  generalize hAe : va_A [(d0, .inr (0, [.int dm, .ref gv, .ref dr, .ref rl, .ref yl, .ref mi, .ref fl, .ref bf, .int rk, .int sp, .int kn])), (rl, .inr (1, [.ref rc, .int (nI ct), .int (nI mo)])), (rc, .inl (cI, pz, .inl pf)), (mi, .inr (2, [.ref cu, .ref nx, .int jz])), (cu, .inl (cJ, 16, .inr (.inl cf))), (nx, .inl (cJ, 16, .inr (.inl nf)))] s.heap.size = A at hD hA0 ⊢
  have hA : ∀ q : Nat, s.heap.size ≤ q → A q := fun q h => by rw [← hAe]; exact Or.inr h
  have hS : va_S A s.heap s.heap [] := va_S.rf
  have hl := lv_entry ([.ref d0]) (n := 1) (Nat.le_of_ble_eq_true rfl)
  rw [lg_entry_eq]
  generalize (lg_sl ([.ref d0]) ++ List.replicate (1 - (lg_sl ([.ref d0])).length) Slot.unset).toArray = ls at hl ⊢
  have hl : lv_has ls 1 [(0, .ref d0)] := hl
  have hP : va_P D kl [(d0, .inr (0, [.int dm, .ref gv, .ref dr, .ref rl, .ref yl, .ref mi, .ref fl, .ref bf, .int rk, .int sp, .int kn])), (rl, .inr (1, [.ref rc, .int (nI ct), .int (nI mo)])), (rc, .inl (cI, pz, .inl pf)), (mi, .inr (2, [.ref cu, .ref nx, .int jz])), (cu, .inl (cJ, 16, .inr (.inl cf))), (nx, .inl (cJ, 16, .inr (.inl nf)))] s.heap := hP
  have hml : c.maxLocals = 1 := hml
  have h2n : 2 ^ ct ≤ 2 ^ 12 := Nat.pow_le_pow_right (by decide) hc12
  refine lv_aload_n hx hb d_D_noteChange_0 rfl (lv_at hl 0 rfl) ?_
  refine lv_aload_n hx hb d_D_noteChange_1 rfl (lv_at hl 0 rfl) ?_
  refine va_get (D := D) (ci := 0) (v := .ref mi) (C := cn_D) (T := ft_D) (N := 11) hx hb hf_D (fun _ h => h) hown hK hP 0 rfl rfl 5 (by decide) (gw.at G hx0 mw_199 rfl _) (fun _ h9 => h9) rfl d_D_noteChange_2 ?_
  refine lv_aload_n hx hb d_D_noteChange_5 rfl (lv_at hl 0 rfl) ?_
  refine va_get (D := D) (ci := 0) (v := .ref rl) (C := cn_D) (T := ft_D) (N := 11) hx hb hf_D (fun _ h => h) hown hK hP 0 rfl rfl 3 (by decide) (gw.at G hx0 mw_197 rfl _) (fun _ h9 => h9) rfl d_D_noteChange_6 ?_
  refine lv_aload_n hx hb d_D_noteChange_9 rfl (lv_at hl 0 rfl) ?_
  refine va_get (D := D) (ci := 0) (v := .ref rl) (C := cn_D) (T := ft_D) (N := 11) hx hb hf_D (fun _ h => h) hown hK hP 0 rfl rfl 3 (by decide) (gw.at G hx0 mw_197 rfl _) (fun _ h9 => h9) rfl d_D_noteChange_10 ?_
  refine va_get (D := D) (ci := 1) (v := .int (nI ct)) (C := cn_PL) (T := ft_PL) (N := 3) hx hb hf_PL (fun _ h => h) hown hK hP 1 rfl rfl 1 (by decide) (gw.at G hx0 mw_45 rfl _) (fun _ h9 => h9) rfl d_D_noteChange_13 ?_
  refine cx_call (D := D) (cl := kl) (ws := _) (wc := []) (wr := [(d0, .inr (0, [.int dm, .ref gv, .ref dr, .ref rl, .ref yl, .ref mi, .ref fl, .ref bf, .int rk, .int sp, .int kn])), (rl, .inr (1, [.ref rc, .int (nI ct), .int (nI mo)])), (rc, .inl (cI, pz, .inl pf)), (mi, .inr (2, [.ref cu, .ref nx, .int jz])), (cu, .inl (cJ, 16, .inr (.inl cf))), (nx, .inl (cJ, 16, .inr (.inl nf)))]) (tx_runS (As := [.int (nI ct)]) (rest := [.ref rl, .ref mi, .ref d0]) hx hb hml hown (c_D_maskOf E s.heap.size ct hc12) (cx_C (b0 := b0) G hx0 mw_365 mw_1 ny_D_maskOfAll (by decide)) (gw.at G hx0 mw_363 rfl _) (gw.at G hx0 mw_364 rfl _) (gw.at G hx0 mw_1 rfl _) ⟨cx_blind, (cx_pre (s := s) hx0 hP hD hS hA0 [] rfl rfl (by decide))⟩ rfl rfl hl.1 rfl (lv_room (Nat.le_of_ble_eq_true rfl)) d_D_noteChange_16 ⟨by decide, by decide⟩) hP hD hS hA [] [0, 1, 2, 3, 4, 5] rfl rfl (by decide) (by decide) (fun v t w1 H locs ht hW9 hp hP hD hS => ?_) (fun x t w1 H locs ht hW9 hp hP hD hS => by obtain ⟨h9, -⟩ := hp; cases h9)
  obtain ⟨h9, rfl⟩ := hp
  cases h9
  refine W.eq (g2 := F0 m 19 ls [.int (nI (2 ^ ct - 1)), .ref rl, .ref mi, .ref d0]) rfl ?_
  refine W.widen (k := 0) (n := 0) (by decide) (by decide) ?_
  have hP : va_P D kl [(d0, .inr (0, [.int dm, .ref gv, .ref dr, .ref rl, .ref yl, .ref mi, .ref fl, .ref bf, .int rk, .int sp, .int kn])), (rl, .inr (1, [.ref rc, .int (nI ct), .int (nI mo)])), (rc, .inl (cI, pz, .inl pf)), (mi, .inr (2, [.ref cu, .ref nx, .int jz])), (cu, .inl (cJ, 16, .inr (.inl cf))), (nx, .inl (cJ, 16, .inr (.inl nf)))] H := hP
  have hD : va_D A [(d0, .inr (0, [.int dm, .ref gv, .ref dr, .ref rl, .ref yl, .ref mi, .ref fl, .ref bf, .int rk, .int sp, .int kn])), (rl, .inr (1, [.ref rc, .int (nI ct), .int (nI mo)])), (rc, .inl (cI, pz, .inl pf)), (mi, .inr (2, [.ref cu, .ref nx, .int jz])), (cu, .inl (cJ, 16, .inr (.inl cf))), (nx, .inl (cJ, 16, .inr (.inl nf)))] := hD
  refine cx_call (D := D) (cl := kl) (ws := _) (wc := [(mi, .inr (2, [.ref cu, .ref nx, .int jz])), (cu, .inl (cJ, 16, .inr (.inl cf))), (nx, .inl (cJ, 16, .inr (.inl nf))), (rl, .inr (1, [.ref rc, .int (nI ct), .int (nI mo)])), (rc, .inl (cI, pz, .inl pf))]) (wr := [(d0, .inr (0, [.int dm, .ref gv, .ref dr, .ref rl, .ref yl, .ref mi, .ref fl, .ref bf, .int rk, .int sp, .int kn]))]) (tx_runV (C := cn_MI) (b := mi) (As := [.ref rl, .int (nI (2 ^ ct - 1))]) (rest := [.ref d0]) hx hb hml hown (c_MI_load E H.size mi cu nx cf nf jz rl rc ct mo pz pf (2 ^ ct - 1) hpz hmo hct hc12 (by omega)) (cx_C (b0 := b0) G hx0 mw_369 mw_4 ny_MI_load (by decide)) (gw.at G hx0 mw_366 rfl _) (gw.at G hx0 mw_367 rfl _) (gw.at G hx0 mw_368 rfl _) ⟨cx_blind, va_recv hK hP (q0 := 3) (ci := 2) (q := (cn_MI, ft_MI, 3)) rfl rfl, (cx_pre (s := s) hx0 hP hD hS hA0 [3, 4, 5, 1, 2] rfl rfl (by decide))⟩ rfl rfl hl.1 rfl (lv_room (Nat.le_of_ble_eq_true rfl)) d_D_noteChange_19 ⟨by decide, by decide⟩) hP hD hS hA [3, 4, 5, 1, 2] [0] rfl rfl (by decide) (by decide) (fun v t w1 H locs ht hW9 hp hP hD hS => ?_) (fun x t w1 H locs ht hW9 hp hP hD hS => by obtain ⟨_, _, _, _, h9, -⟩ := hp; cases h9)
  obtain ⟨ca_1, nb_2, fa_3, fb_4, h9, f_5, rfl⟩ := hp
  cases h9
  refine W.eq (g2 := F0 m 22 ls [.int (nI ((lst pf (2 ^ ct - 1) ct).1)), .ref d0]) rfl ?_
  refine W.widen (k := 0) (n := 0) (by decide) (by decide) ?_
  have hP : va_P D kl [(d0, .inr (0, [.int dm, .ref gv, .ref dr, .ref rl, .ref yl, .ref mi, .ref fl, .ref bf, .int rk, .int sp, .int kn])), (mi, .inr (2, [.ref ca_1, .ref nb_2, .int (nI ((lst pf (2 ^ ct - 1) ct).1))])), (ca_1, .inl (cJ, 16, .inr (.inl fa_3))), (nb_2, .inl (cJ, 16, .inr (.inl fb_4))), (rl, .inr (1, [.ref rc, .int (nI ct), .int (nI mo)])), (rc, .inl (cI, pz, .inl pf))] H := hP
  have hD : va_D A [(d0, .inr (0, [.int dm, .ref gv, .ref dr, .ref rl, .ref yl, .ref mi, .ref fl, .ref bf, .int rk, .int sp, .int kn])), (mi, .inr (2, [.ref ca_1, .ref nb_2, .int (nI ((lst pf (2 ^ ct - 1) ct).1))])), (ca_1, .inl (cJ, 16, .inr (.inl fa_3))), (nb_2, .inl (cJ, 16, .inr (.inl fb_4))), (rl, .inr (1, [.ref rc, .int (nI ct), .int (nI mo)])), (rc, .inl (cI, pz, .inl pf))] := hD
  refine va_put (D := D) (ci := 0) (v := .int (nI ((lst pf (2 ^ ct - 1) ct).1))) (ty := .int) (C := cn_D) (T := ft_D) (N := 11) hx hb hf_D (fun _ h => h) fy_D fk_D fn_D hown hK hP hD hS 0 rfl rfl 8 (by decide) (gw.at G hx0 mw_202 rfl _) (fun _ h9 => h9) rfl (by decide +kernel) rfl rfl (Nat.le_of_ble_eq_true rfl) d_D_noteChange_22 (fun H locs hP hD hS => ?_)
  have hP : va_P D kl [(d0, .inr (0, [.int dm, .ref gv, .ref dr, .ref rl, .ref yl, .ref mi, .ref fl, .ref bf, .int (nI ((lst pf (2 ^ ct - 1) ct).1)), .int sp, .int kn])), (mi, .inr (2, [.ref ca_1, .ref nb_2, .int (nI ((lst pf (2 ^ ct - 1) ct).1))])), (ca_1, .inl (cJ, 16, .inr (.inl fa_3))), (nb_2, .inl (cJ, 16, .inr (.inl fb_4))), (rl, .inr (1, [.ref rc, .int (nI ct), .int (nI mo)])), (rc, .inl (cI, pz, .inl pf))] H := hP
  have hD : va_D A [(d0, .inr (0, [.int dm, .ref gv, .ref dr, .ref rl, .ref yl, .ref mi, .ref fl, .ref bf, .int (nI ((lst pf (2 ^ ct - 1) ct).1)), .int sp, .int kn])), (mi, .inr (2, [.ref ca_1, .ref nb_2, .int (nI ((lst pf (2 ^ ct - 1) ct).1))])), (ca_1, .inl (cJ, 16, .inr (.inl fa_3))), (nb_2, .inl (cJ, 16, .inr (.inl fb_4))), (rl, .inr (1, [.ref rc, .int (nI ct), .int (nI mo)])), (rc, .inl (cI, pz, .inl pf))] := hD
  refine lv_aload_n hx hb d_D_noteChange_25 rfl (lv_at hl 0 rfl) ?_
  refine lv_iconst (v := (0 : Int32)) hx hb d_D_noteChange_26 (by decide) ?_
  refine va_put (D := D) (ci := 0) (v := .int (0 : Int32)) (ty := .int) (C := cn_D) (T := ft_D) (N := 11) hx hb hf_D (fun _ h => h) fy_D fk_D fn_D hown hK hP hD hS 0 rfl rfl 10 (by decide) (gw.at G hx0 mw_204 rfl _) (fun _ h9 => h9) rfl (by decide +kernel) rfl rfl (Nat.le_of_ble_eq_true rfl) d_D_noteChange_27 (fun H locs hP hD hS => ?_)
  have hP : va_P D kl [(d0, .inr (0, [.int dm, .ref gv, .ref dr, .ref rl, .ref yl, .ref mi, .ref fl, .ref bf, .int (nI ((lst pf (2 ^ ct - 1) ct).1)), .int sp, .int (0 : Int32)])), (mi, .inr (2, [.ref ca_1, .ref nb_2, .int (nI ((lst pf (2 ^ ct - 1) ct).1))])), (ca_1, .inl (cJ, 16, .inr (.inl fa_3))), (nb_2, .inl (cJ, 16, .inr (.inl fb_4))), (rl, .inr (1, [.ref rc, .int (nI ct), .int (nI mo)])), (rc, .inl (cI, pz, .inl pf))] H := hP
  have hD : va_D A [(d0, .inr (0, [.int dm, .ref gv, .ref dr, .ref rl, .ref yl, .ref mi, .ref fl, .ref bf, .int (nI ((lst pf (2 ^ ct - 1) ct).1)), .int sp, .int (0 : Int32)])), (mi, .inr (2, [.ref ca_1, .ref nb_2, .int (nI ((lst pf (2 ^ ct - 1) ct).1))])), (ca_1, .inl (cJ, 16, .inr (.inl fa_3))), (nb_2, .inl (cJ, 16, .inr (.inl fb_4))), (rl, .inr (1, [.ref rc, .int (nI ct), .int (nI mo)])), (rc, .inl (cI, pz, .inl pf))] := hD
  exact tx_mono (fun _ h => tx_Z.of h) (W.vret hx hb hr (fun t ht hW => ⟨⟨[(d0, .inr (0, [.int dm, .ref gv, .ref dr, .ref rl, .ref yl, .ref mi, .ref fl, .ref bf, .int (nI ((lst pf (2 ^ ct - 1) ct).1)), .int sp, .int (0 : Int32)])), (rl, .inr (1, [.ref rc, .int (nI ct), .int (nI mo)])), (rc, .inl (cI, pz, .inl pf)), (mi, .inr (2, [.ref ca_1, .ref nb_2, .int (nI ((lst pf (2 ^ ct - 1) ct).1))])), (ca_1, .inl (cJ, 16, .inr (.inl fa_3))), (nb_2, .inl (cJ, 16, .inr (.inl fb_4)))], ⟨ca_1, nb_2, fa_3, fb_4, rfl, rfl⟩, by rw [ht]; exact hP.sub [0, 4, 5, 1, 2, 3] rfl, hD.sub [0, 4, 5, 1, 2, 3] (by decide) rfl⟩, hS.F ht⟩) hS.2.2 d_D_noteChange_30)

