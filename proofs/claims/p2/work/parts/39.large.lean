/-! ===== own rows, laid by wip/tools/sym.py: BasisFinder.isLarge ===== -/
/-- a choice of rays that makes the cone large -/
def lrx (yf : Nat → Int32) (yn sp x : Nat) : Prop := pcn x = sp ∧ (lst yf x yn).1 = sp ∧ 12 < cdl (lst yf x yn).2 (lev (lst yf x yn).1)
def lrg (yf : Nat → Int32) (yn sp : Nat) : Prop := ∃ x, x < 2 ^ yn ∧ lrx yf yn sp x
set_option maxHeartbeats 4000000 in
set_option maxRecDepth 100000 in
theorem c_BF_large_b {l : Launch} {s0 : State} {b0 : Addr} {D : va_G} {cI cJ cZ : ClassId} {tC tS : Nat} (E : gE l s0 b0 D cI cJ cZ tC tS) (sz : Nat) (bf : Nat) (fo : Nat) (bm : Nat) (bs : Nat) (ip : Nat) (bc : Nat) (bh : Nat) (br : Nat) (lg : Int32) (rc0 : Int32) (yl : Nat) (ya : Nat) (yn : Nat) (sp : Nat) (hyn : yn ≤ 12) (h : 8 < yn) : cx_M l s0 D kl y_BF_isLarge b_BF_isLarge 5 (some .boolean) ({ frames := 0, cells := 0, slots := 0, locals := 0 } : Room) 0 0 [.ref bf, .ref yl, .int (nI sp)] [(bf, .inr (6, [.ref fo, .int lg, .ref bm, .ref bs, .ref ip, .ref bc, .ref bh, .ref br, .int rc0])), (yl, .inr (1, [.ref ya, .int (nI yn), .int (12 : Int32)]))] sz (fun o9 _ w9 => o9 = .returned (some (.int (1 : Int32))) ∧ w9 = [(bf, .inr (6, [.ref fo, .int lg, .ref bm, .ref bs, .ref ip, .ref bc, .ref bh, .ref br, .int rc0])), (yl, .inr (1, [.ref ya, .int (nI yn), .int (12 : Int32)]))]) := by
  refine tx_ofW (cc := b_BF_isLarge) (maxL := 5) (ret := (some .boolean)) (by decide) rfl ?_
  intro p e s m args below meth c s₁ B hml hT hv
  obtain ⟨rfl, hsz, hP, hD0, hx0⟩ := hv
  have hx := B.exec
  have hb := B.bytes
  have hr := B.returns
  have G := E.2.1
  have hown : s.vm.findClass cn_BF = some m.cls := findClass_of_methodNamed B.named
  have hlocks := B.notSynchronized
  have hK := va_K.moved hx0.1.alike E.2.2.1
  have hf_PL : ∀ w99 ∈ u_ws cn_PL ft_PL 3, w99.before ([.ref bf, .ref yl, .int (nI sp)] : List Value).toArray s = true := fun w99 h99 => gw.at G hx0 (fw_PL w99 h99) (fo_PL w99 h99) _
  subst hsz
  have hA0 := cx_new hD0 hx0.2.1
  have hD := hD0.self (sz := s.heap.size)
  generalize hAe : va_A [(bf, .inr (6, [.ref fo, .int lg, .ref bm, .ref bs, .ref ip, .ref bc, .ref bh, .ref br, .int rc0])), (yl, .inr (1, [.ref ya, .int (nI yn), .int (12 : Int32)]))] s.heap.size = A at hD hA0 ⊢
  have hA : ∀ q : Nat, s.heap.size ≤ q → A q := fun q h => by rw [← hAe]; exact Or.inr h
  have hS : va_S A s.heap s.heap [] := va_S.rf
  have hl := lv_entry ([.ref bf, .ref yl, .int (nI sp)]) (n := 5) (Nat.le_of_ble_eq_true rfl)
  rw [lg_entry_eq]
  generalize (lg_sl ([.ref bf, .ref yl, .int (nI sp)]) ++ List.replicate (5 - (lg_sl ([.ref bf, .ref yl, .int (nI sp)])).length) Slot.unset).toArray = ls at hl ⊢
  have hl : lv_has ls 5 [(0, .ref bf), (1, .ref yl), (2, .int (nI sp))] := hl
  have hP : va_P D kl [(bf, .inr (6, [.ref fo, .int lg, .ref bm, .ref bs, .ref ip, .ref bc, .ref bh, .ref br, .int rc0])), (yl, .inr (1, [.ref ya, .int (nI yn), .int (12 : Int32)]))] s.heap := hP
  have hml : c.maxLocals = 5 := hml
  refine lv_aload_n hx hb d_BF_isLarge_0 rfl (lv_at hl 1 rfl) ?_
  refine va_get (D := D) (ci := 1) (v := .int (nI yn)) (C := cn_PL) (T := ft_PL) (N := 3) hx hb hf_PL (fun _ h => h) hown hK hP 1 rfl rfl 1 (by decide) (gw.at G hx0 mw_41 rfl _) (fun _ h9 => h9) rfl d_BF_isLarge_1 ?_
  refine lv_bipush (v := (8 : Int32)) hx hb d_BF_isLarge_4 (by decide) ?_
  refine lv_icmp_le (tgt := 11) hx hb d_BF_isLarge_6 (by decide) (fun h99 => absurd h99 (fun z99 => absurd ((nI_leI (a := yn) (b := 8) (by omega) (by omega)).mp z99) (by omega))) (fun _ => ?_)
  refine lv_iconst (v := (1 : Int32)) hx hb d_BF_isLarge_9 (by decide) ?_
  exact tx_mono (fun _ h => tx_Z.of h) (W.zret (v := (1 : Int32)) hx hb hr (by decide) (fun t ht hW => ⟨⟨[(bf, .inr (6, [.ref fo, .int lg, .ref bm, .ref bs, .ref ip, .ref bc, .ref bh, .ref br, .int rc0])), (yl, .inr (1, [.ref ya, .int (nI yn), .int (12 : Int32)]))], ⟨rfl, rfl⟩, by rw [ht]; exact hP.sub [0, 1] rfl, hD.sub [0, 1] (by decide) rfl⟩, hS.F ht⟩) hS.2.2 d_BF_isLarge_10)

set_option maxHeartbeats 4000000 in
set_option maxRecDepth 100000 in
theorem c_BF_large_y {l : Launch} {s0 : State} {b0 : Addr} {D : va_G} {cI cJ cZ : ClassId} {tC tS : Nat} (E : gE l s0 b0 D cI cJ cZ tC tS) (sz : Nat) (bf : Nat) (fo : Nat) (bm : Nat) (bs : Nat) (ip : Nat) (bc : Nat) (bh : Nat) (br : Nat) (lg : Int32) (rc0 : Int32) (cu : Nat) (nx : Nat) (cf : Nat → Int64) (nf9 : Nat → Int64) (jz : Int32) (yl : Nat) (ya : Nat) (yn : Nat) (yf : Nat → Int32) (sp : Nat) (hyn : yn ≤ 8) (hsp : sp ≤ 4) (h : lrg yf yn sp) : cx_M l s0 D kl y_BF_isLarge b_BF_isLarge 5 (some .boolean) ({ frames := 2, cells := 0, slots := 0, locals := 54 } : Room) 0 0 [.ref bf, .ref yl, .int (nI sp)] [(bf, .inr (6, [.ref fo, .int lg, .ref bm, .ref bs, .ref ip, .ref bc, .ref bh, .ref br, .int rc0])), (yl, .inr (1, [.ref ya, .int (nI yn), .int (12 : Int32)])), (ya, .inl (cI, 48, .inl yf)), (bm, .inr (2, [.ref cu, .ref nx, .int jz])), (cu, .inl (cJ, 16, .inr (.inl cf))), (nx, .inl (cJ, 16, .inr (.inl nf9)))] sz (fun o9 _ w9 => ∃ (ca : Nat) (nb : Nat) (fa : Nat → Int64) (fb : Nat → Int64) (jj : Int32), o9 = .returned (some (.int (1 : Int32))) ∧ w9 = [(bf, .inr (6, [.ref fo, .int lg, .ref bm, .ref bs, .ref ip, .ref bc, .ref bh, .ref br, .int rc0])), (yl, .inr (1, [.ref ya, .int (nI yn), .int (12 : Int32)])), (ya, .inl (cI, 48, .inl yf)), (bm, .inr (2, [.ref ca, .ref nb, .int jj])), (ca, .inl (cJ, 16, .inr (.inl fa))), (nb, .inl (cJ, 16, .inr (.inl fb)))]) := by
  refine tx_ofW (cc := b_BF_isLarge) (maxL := 5) (ret := (some .boolean)) (by decide) rfl ?_
  intro p e s m args below meth c s₁ B hml hT hv
  obtain ⟨rfl, hsz, hP, hD0, hx0⟩ := hv
  have hx := B.exec
  have hb := B.bytes
  have hr := B.returns
  have G := E.2.1
  have hown : s.vm.findClass cn_BF = some m.cls := findClass_of_methodNamed B.named
  have hlocks := B.notSynchronized
  have hK := va_K.moved hx0.1.alike E.2.2.1
  have hf_BF : ∀ w99 ∈ u_ws cn_BF ft_BF 9, w99.before ([.ref bf, .ref yl, .int (nI sp)] : List Value).toArray s = true := fun w99 h99 => gw.at G hx0 (fw_BF w99 h99) (fo_BF w99 h99) _
  have hf_PL : ∀ w99 ∈ u_ws cn_PL ft_PL 3, w99.before ([.ref bf, .ref yl, .int (nI sp)] : List Value).toArray s = true := fun w99 h99 => gw.at G hx0 (fw_PL w99 h99) (fo_PL w99 h99) _
  subst hsz
  have hA0 := cx_new hD0 hx0.2.1
  have hD := hD0.self (sz := s.heap.size)
  generalize hAe : va_A [(bf, .inr (6, [.ref fo, .int lg, .ref bm, .ref bs, .ref ip, .ref bc, .ref bh, .ref br, .int rc0])), (yl, .inr (1, [.ref ya, .int (nI yn), .int (12 : Int32)])), (ya, .inl (cI, 48, .inl yf)), (bm, .inr (2, [.ref cu, .ref nx, .int jz])), (cu, .inl (cJ, 16, .inr (.inl cf))), (nx, .inl (cJ, 16, .inr (.inl nf9)))] s.heap.size = A at hD hA0 ⊢
  have hA : ∀ q : Nat, s.heap.size ≤ q → A q := fun q h => by rw [← hAe]; exact Or.inr h
  have hS : va_S A s.heap s.heap [] := va_S.rf
  have hl := lv_entry ([.ref bf, .ref yl, .int (nI sp)]) (n := 5) (Nat.le_of_ble_eq_true rfl)
  rw [lg_entry_eq]
  generalize (lg_sl ([.ref bf, .ref yl, .int (nI sp)]) ++ List.replicate (5 - (lg_sl ([.ref bf, .ref yl, .int (nI sp)])).length) Slot.unset).toArray = ls at hl ⊢
  have hl : lv_has ls 5 [(0, .ref bf), (1, .ref yl), (2, .int (nI sp))] := hl
  have hP : va_P D kl [(bf, .inr (6, [.ref fo, .int lg, .ref bm, .ref bs, .ref ip, .ref bc, .ref bh, .ref br, .int rc0])), (yl, .inr (1, [.ref ya, .int (nI yn), .int (12 : Int32)])), (ya, .inl (cI, 48, .inl yf)), (bm, .inr (2, [.ref cu, .ref nx, .int jz])), (cu, .inl (cJ, 16, .inr (.inl cf))), (nx, .inl (cJ, 16, .inr (.inl nf9)))] s.heap := hP
  have hml : c.maxLocals = 5 := hml
  have h2n : 2 ^ yn ≤ 2 ^ 8 := Nat.pow_le_pow_right (by decide) hyn
  generalize hQe : tx_Z below (cx_Q D kl A (fun o9 _ w9 => ∃ (ca : Nat) (nb : Nat) (fa : Nat → Int64) (fb : Nat → Int64) (jj : Int32), o9 = .returned (some (.int (1 : Int32))) ∧ w9 = [(bf, .inr (6, [.ref fo, .int lg, .ref bm, .ref bs, .ref ip, .ref bc, .ref bh, .ref br, .int rc0])), (yl, .inr (1, [.ref ya, .int (nI yn), .int (12 : Int32)])), (ya, .inl (cI, 48, .inl yf)), (bm, .inr (2, [.ref ca, .ref nb, .int jj])), (ca, .inl (cJ, 16, .inr (.inl fa))), (nb, .inl (cJ, 16, .inr (.inl fb)))])) ([.ref bf, .ref yl, .int (nI sp)] : List Value).toArray s 0 0 A = Q
  refine lv_aload_n hx hb d_BF_isLarge_0 rfl (lv_at hl 1 rfl) ?_
  refine va_get (D := D) (ci := 1) (v := .int (nI yn)) (C := cn_PL) (T := ft_PL) (N := 3) hx hb hf_PL (fun _ h => h) hown hK hP 1 rfl rfl 1 (by decide) (gw.at G hx0 mw_41 rfl _) (fun _ h9 => h9) rfl d_BF_isLarge_1 ?_
  refine lv_bipush (v := (8 : Int32)) hx hb d_BF_isLarge_4 (by decide) ?_
  refine lv_icmp_le (tgt := 11) hx hb d_BF_isLarge_6 (by decide) (fun _ => ?_) (fun h99 => absurd h99 (not_not_intro ((nI_leI (a := yn) (b := 8) (by omega) (by omega)).mpr (by omega))))
  refine lv_iconst (v := (1 : Int32)) hx hb d_BF_isLarge_11 (by decide) ?_
  refine lv_aload_n hx hb d_BF_isLarge_12 rfl (lv_at hl 1 rfl) ?_
  refine va_get (D := D) (ci := 1) (v := .int (nI yn)) (C := cn_PL) (T := ft_PL) (N := 3) hx hb hf_PL (fun _ h => h) hown hK hP 1 rfl rfl 1 (by decide) (gw.at G hx0 mw_41 rfl _) (fun _ h9 => h9) rfl d_BF_isLarge_13 ?_
  refine lv_ishl hx hb d_BF_isLarge_16 ?_
  refine tp_i (y := nI (2 ^ yn)) (nI_shl (k := yn) (by omega)) ?_
  refine lv_istore_n (lv' := [(3, .int (nI (2 ^ yn))), (0, .ref bf), (1, .ref yl), (2, .int (nI sp))]) hx hb d_BF_isLarge_17 rfl hl (by decide) rfl (fun ls hl => ?_)
  refine lv_iconst (v := (0 : Int32)) hx hb d_BF_isLarge_18 (by decide) ?_
  refine lv_istore (lv' := [(4, .int (0 : Int32)), (3, .int (nI (2 ^ yn))), (0, .ref bf), (1, .ref yl), (2, .int (nI sp))]) hx hb d_BF_isLarge_19 hl (by decide) rfl (fun ls hl => ?_)
  have lp_21 : ∀ (n9 : Nat) (x : Nat) (ca : Nat) (nb : Nat) (fa : Nat → Int64) (fb : Nat → Int64) (jj : Int32) (ls : Array Slot) (H : Heap) (locs : List Loc), 2 ^ yn - x = n9 → (∀ k, k < x → ¬ lrx yf yn sp k) → (x ≤ 2 ^ yn) → lv_has ls 5 [(4, .int (nI x)), (3, .int (nI (2 ^ yn))), (0, .ref bf), (1, .ref yl), (2, .int (nI sp))] → va_P D kl [(bf, .inr (6, [.ref fo, .int lg, .ref bm, .ref bs, .ref ip, .ref bc, .ref bh, .ref br, .int rc0])), (yl, .inr (1, [.ref ya, .int (nI yn), .int (12 : Int32)])), (ya, .inl (cI, 48, .inl yf)), (bm, .inr (2, [.ref ca, .ref nb, .int jj])), (ca, .inl (cJ, 16, .inr (.inl fa))), (nb, .inl (cJ, 16, .inr (.inl fb)))] H → va_D A [(bf, .inr (6, [.ref fo, .int lg, .ref bm, .ref bs, .ref ip, .ref bc, .ref bh, .ref br, .int rc0])), (yl, .inr (1, [.ref ya, .int (nI yn), .int (12 : Int32)])), (ya, .inl (cI, 48, .inl yf)), (bm, .inr (2, [.ref ca, .ref nb, .int jj])), (ca, .inl (cJ, 16, .inr (.inl fa))), (nb, .inl (cJ, 16, .inr (.inl fb)))] → va_S A s.heap H locs → W p l e ({ frames := 2, cells := 0, slots := 0, locals := 54 } : Room) s m ([.ref bf, .ref yl, .int (nI sp)] : List Value).toArray below meth c H locs 0 0 Q (F0 m 21 ls []) := by
    intro n9
    induction n9 using Nat.strongRecOn with
    | ind n9 ih_21 =>
      intro x ca nb fa fb jj ls H locs hm_21 hi hx9 hl hP hD hS
      refine lv_iload hx hb d_BF_isLarge_21 (lv_at hl 0 rfl) ?_
      refine lv_iload_n hx hb d_BF_isLarge_23 rfl (lv_at hl 1 rfl) ?_
      refine lv_icmp_ge (tgt := 72) hx hb d_BF_isLarge_24 (by decide) (fun h_1 => ?_) (fun h_1 => ?_)
      · have h_1 : (2 ^ yn) ≤ x := (nI_leI (a := 2 ^ yn) (b := x) (by omega) (by omega)).mp h_1
        refine lv_iconst (v := (0 : Int32)) hx hb d_BF_isLarge_72 (by decide) ?_
        exact absurd h (fun z99 => by obtain ⟨k, hk, hx8⟩ := z99; exact hi k (by omega) hx8)
      · have h_1 : ¬ ((2 ^ yn) ≤ x) := fun z99 => h_1 ((nI_leI (a := 2 ^ yn) (b := x) (by omega) (by omega)).mpr z99)
        have hpc : pcn x ≤ 8 := pcn_le
        refine lv_iload hx hb d_BF_isLarge_27 (lv_at hl 0 rfl) ?_
        refine cx_call (D := D) (cl := kl) (ws := _) (wc := []) (wr := [(bf, .inr (6, [.ref fo, .int lg, .ref bm, .ref bs, .ref ip, .ref bc, .ref bh, .ref br, .int rc0])), (yl, .inr (1, [.ref ya, .int (nI yn), .int (12 : Int32)])), (ya, .inl (cI, 48, .inl yf)), (bm, .inr (2, [.ref ca, .ref nb, .int jj])), (ca, .inl (cJ, 16, .inr (.inl fa))), (nb, .inl (cJ, 16, .inr (.inl fb)))]) (tx_runS (As := [.int (nI x)]) (rest := []) hx hb hml hown (c_JI_bitCount E H.size x (by omega)) (cx_C (b0 := b0) G hx0 mw_446 mw_17 ny_JI_bitCount (by decide)) (gw.at G hx0 mw_521 rfl _) (gw.at G hx0 mw_445 rfl _) (gw.at G hx0 mw_17 rfl _) ⟨cx_blind, (cx_pre (s := s) hx0 hP hD hS hA0 [] rfl rfl (by decide))⟩ rfl rfl hl.1 rfl (lv_room (Nat.le_of_ble_eq_true rfl)) d_BF_isLarge_29 ⟨by decide, by decide⟩) hP hD hS hA [] [0, 1, 2, 3, 4, 5] rfl rfl (by decide) (by decide) (fun v t w1 H locs ht hW9 hp hP hD hS => ?_) (fun x t w1 H locs ht hW9 hp hP hD hS => by obtain ⟨h9, -⟩ := hp; cases h9)
        obtain ⟨h9, rfl⟩ := hp
        cases h9
        refine W.eq (g2 := F0 m 32 ls [.int (nI (pcn x))]) rfl ?_
        refine W.widen (k := 0) (n := 0) (by decide) (by decide) ?_
        have hP : va_P D kl [(bf, .inr (6, [.ref fo, .int lg, .ref bm, .ref bs, .ref ip, .ref bc, .ref bh, .ref br, .int rc0])), (yl, .inr (1, [.ref ya, .int (nI yn), .int (12 : Int32)])), (ya, .inl (cI, 48, .inl yf)), (bm, .inr (2, [.ref ca, .ref nb, .int jj])), (ca, .inl (cJ, 16, .inr (.inl fa))), (nb, .inl (cJ, 16, .inr (.inl fb)))] H := hP
        have hD : va_D A [(bf, .inr (6, [.ref fo, .int lg, .ref bm, .ref bs, .ref ip, .ref bc, .ref bh, .ref br, .int rc0])), (yl, .inr (1, [.ref ya, .int (nI yn), .int (12 : Int32)])), (ya, .inl (cI, 48, .inl yf)), (bm, .inr (2, [.ref ca, .ref nb, .int jj])), (ca, .inl (cJ, 16, .inr (.inl fa))), (nb, .inl (cJ, 16, .inr (.inl fb)))] := hD
        refine lv_iload_n hx hb d_BF_isLarge_32 rfl (lv_at hl 4 rfl) ?_
        refine lv_icmp_ne (tgt := 66) hx hb d_BF_isLarge_33 (by decide) (fun h_2 => ?_) (fun h_2 => ?_)
        · have h_2 : ¬ ((pcn x) = sp) := fun z99 => h_2 ((nI_eq (a := pcn x) (b := sp) (by omega) (by omega)).mpr z99)
          refine lv_iinc (lv' := [(4, .int (nI (x + 1))), (3, .int (nI (2 ^ yn))), (0, .ref bf), (1, .ref yl), (2, .int (nI sp))]) (k := 0) (v := nI (x + 1)) hx hb d_BF_isLarge_66 hl rfl (nI_add x 1) (by decide) rfl (fun ls hl => ?_)
          refine lv_goto (tgt := 21) hx hb d_BF_isLarge_69 (by decide) ?_
          exact ih_21 _ (by omega) (x + 1) ca nb fa fb jj ls H locs rfl (fun k hk z98 => (Nat.lt_succ_iff_lt_or_eq.mp hk).elim (fun z96 => hi k z96 z98) (fun e9 => by rw [e9] at z98; exact h_2 z98.1)) (by omega) (lv_sub hl [0, 1, 2, 3, 4] rfl) (hP.sub [0, 1, 2, 3, 4, 5] rfl) (hD.sub [0, 1, 2, 3, 4, 5] (by decide) rfl) hS
        · have h_2 : (pcn x) = sp := (nI_eq (a := pcn x) (b := sp) (by omega) (by omega)).mp h_2
          refine lv_aload_n hx hb d_BF_isLarge_36 rfl (lv_at hl 2 rfl) ?_
          refine va_get (D := D) (ci := 6) (v := .ref bm) (C := cn_BF) (T := ft_BF) (N := 9) hx hb hf_BF (fun _ h => h) hown hK hP 0 rfl rfl 2 (by decide) (gw.at G hx0 mw_168 rfl _) (fun _ h9 => h9) rfl d_BF_isLarge_37 ?_
          refine lv_aload_n hx hb d_BF_isLarge_40 rfl (lv_at hl 3 rfl) ?_
          refine lv_iload hx hb d_BF_isLarge_41 (lv_at hl 0 rfl) ?_
          refine cx_call (D := D) (cl := kl) (ws := _) (wc := [(bm, .inr (2, [.ref ca, .ref nb, .int jj])), (ca, .inl (cJ, 16, .inr (.inl fa))), (nb, .inl (cJ, 16, .inr (.inl fb))), (yl, .inr (1, [.ref ya, .int (nI yn), .int (12 : Int32)])), (ya, .inl (cI, 48, .inl yf))]) (wr := [(bf, .inr (6, [.ref fo, .int lg, .ref bm, .ref bs, .ref ip, .ref bc, .ref bh, .ref br, .int rc0]))]) (tx_runV (C := cn_MI) (b := bm) (As := [.ref yl, .int (nI x)]) (rest := []) hx hb hml hown (c_MI_load E H.size bm ca nb fa fb jj yl ya yn 12 48 yf x (by decide) (by decide) (by omega) (by omega) (by omega)) (cx_C (b0 := b0) G hx0 mw_369 mw_4 ny_MI_load (by decide)) (gw.at G hx0 mw_522 rfl _) (gw.at G hx0 mw_367 rfl _) (gw.at G hx0 mw_368 rfl _) ⟨cx_blind, va_recv hK hP (q0 := 3) (ci := 2) (q := (cn_MI, ft_MI, 3)) rfl rfl, (cx_pre (s := s) hx0 hP hD hS hA0 [3, 4, 5, 1, 2] rfl rfl (by decide))⟩ rfl rfl hl.1 rfl (lv_room (Nat.le_of_ble_eq_true rfl)) d_BF_isLarge_43 ⟨by decide, by decide⟩) hP hD hS hA [3, 4, 5, 1, 2] [0] rfl rfl (by decide) (by decide) (fun v t w1 H locs ht hW9 hp hP hD hS => ?_) (fun x t w1 H locs ht hW9 hp hP hD hS => by obtain ⟨_, _, _, _, h9, -⟩ := hp; cases h9)
          obtain ⟨ca_3, nb_4, fa_5, fb_6, h9, f_7, rfl⟩ := hp
          cases h9
          refine W.eq (g2 := F0 m 46 ls [.int (nI ((lst yf x yn).1))]) rfl ?_
          refine W.widen (k := 0) (n := 0) (by decide) (by decide) ?_
          have hP : va_P D kl [(bf, .inr (6, [.ref fo, .int lg, .ref bm, .ref bs, .ref ip, .ref bc, .ref bh, .ref br, .int rc0])), (bm, .inr (2, [.ref ca_3, .ref nb_4, .int (nI ((lst yf x yn).1))])), (ca_3, .inl (cJ, 16, .inr (.inl fa_5))), (nb_4, .inl (cJ, 16, .inr (.inl fb_6))), (yl, .inr (1, [.ref ya, .int (nI yn), .int (12 : Int32)])), (ya, .inl (cI, 48, .inl yf))] H := hP
          have hD : va_D A [(bf, .inr (6, [.ref fo, .int lg, .ref bm, .ref bs, .ref ip, .ref bc, .ref bh, .ref br, .int rc0])), (bm, .inr (2, [.ref ca_3, .ref nb_4, .int (nI ((lst yf x yn).1))])), (ca_3, .inl (cJ, 16, .inr (.inl fa_5))), (nb_4, .inl (cJ, 16, .inr (.inl fb_6))), (yl, .inr (1, [.ref ya, .int (nI yn), .int (12 : Int32)])), (ya, .inl (cI, 48, .inl yf))] := hD
          have hll : (lst yf x yn).1 ≤ 4 := lst_le yf x yn
          refine lv_iload_n hx hb d_BF_isLarge_46 rfl (lv_at hl 4 rfl) ?_
          refine lv_icmp_ne (tgt := 66) hx hb d_BF_isLarge_47 (by decide) (fun h_8 => ?_) (fun h_8 => ?_)
          · have h_8 : ¬ (((lst yf x yn).1) = sp) := fun z99 => h_8 ((nI_eq (a := (lst yf x yn).1) (b := sp) (by omega) (by omega)).mpr z99)
            refine lv_iinc (lv' := [(4, .int (nI (x + 1))), (3, .int (nI (2 ^ yn))), (0, .ref bf), (1, .ref yl), (2, .int (nI sp))]) (k := 0) (v := nI (x + 1)) hx hb d_BF_isLarge_66 hl rfl (nI_add x 1) (by decide) rfl (fun ls hl => ?_)
            refine lv_goto (tgt := 21) hx hb d_BF_isLarge_69 (by decide) ?_
            exact ih_21 _ (by omega) (x + 1) ca_3 nb_4 fa_5 fb_6 (nI ((lst yf x yn).1)) ls H locs rfl (fun k hk z98 => (Nat.lt_succ_iff_lt_or_eq.mp hk).elim (fun z96 => hi k z96 z98) (fun e9 => by rw [e9] at z98; exact h_8 z98.2.1)) (by omega) (lv_sub hl [0, 1, 2, 3, 4] rfl) (hP.sub [0, 4, 5, 1, 2, 3] rfl) (hD.sub [0, 4, 5, 1, 2, 3] (by decide) rfl) hS
          · have h_8 : ((lst yf x yn).1) = sp := (nI_eq (a := (lst yf x yn).1) (b := sp) (by omega) (by omega)).mp h_8
            refine lv_aload_n hx hb d_BF_isLarge_50 rfl (lv_at hl 2 rfl) ?_
            refine va_get (D := D) (ci := 6) (v := .ref bm) (C := cn_BF) (T := ft_BF) (N := 9) hx hb hf_BF (fun _ h => h) hown hK hP 0 rfl rfl 2 (by decide) (gw.at G hx0 mw_168 rfl _) (fun _ h9 => h9) rfl d_BF_isLarge_51 ?_
            refine cx_call (D := D) (cl := kl) (ws := _) (wc := [(bm, .inr (2, [.ref ca_3, .ref nb_4, .int (nI ((lst yf x yn).1))])), (ca_3, .inl (cJ, 16, .inr (.inl fa_5)))]) (wr := [(bf, .inr (6, [.ref fo, .int lg, .ref bm, .ref bs, .ref ip, .ref bc, .ref bh, .ref br, .int rc0])), (nb_4, .inl (cJ, 16, .inr (.inl fb_6))), (yl, .inr (1, [.ref ya, .int (nI yn), .int (12 : Int32)])), (ya, .inl (cI, 48, .inl yf))]) (tx_runV (C := cn_MI) (b := bm) (As := []) (rest := []) hx hb hml hown (c_MI_comdiv E H.size bm ca_3 nb_4 fa_5 ((lst yf x yn).1) hll) (cx_C (b0 := b0) G hx0 mw_461 mw_4 ny_MI_commonDivisor (by decide)) (gw.at G hx0 mw_523 rfl _) (gw.at G hx0 mw_459 rfl _) (gw.at G hx0 mw_460 rfl _) ⟨cx_blind, va_recv hK hP (q0 := 1) (ci := 2) (q := (cn_MI, ft_MI, 3)) rfl rfl, (cx_pre (s := s) hx0 hP hD hS hA0 [1, 2] rfl rfl (by decide))⟩ rfl rfl hl.1 rfl (lv_room (Nat.le_of_ble_eq_true rfl)) d_BF_isLarge_54 ⟨by decide, by decide⟩) hP hD hS hA [1, 2] [0, 3, 4, 5] rfl rfl (by decide) (by decide) (fun v t w1 H locs ht hW9 hp hP hD hS => ?_) (fun x t w1 H locs ht hW9 hp hP hD hS => by obtain ⟨h9, -⟩ := hp; cases h9)
            obtain ⟨h9, rfl⟩ := hp
            cases h9
            refine W.eq (g2 := F0 m 57 ls [.long (cdl fa_5 (lev ((lst yf x yn).1)))]) rfl ?_
            refine W.widen (k := 0) (n := 0) (by decide) (by decide) ?_
            have hP : va_P D kl [(bf, .inr (6, [.ref fo, .int lg, .ref bm, .ref bs, .ref ip, .ref bc, .ref bh, .ref br, .int rc0])), (nb_4, .inl (cJ, 16, .inr (.inl fb_6))), (yl, .inr (1, [.ref ya, .int (nI yn), .int (12 : Int32)])), (ya, .inl (cI, 48, .inl yf)), (bm, .inr (2, [.ref ca_3, .ref nb_4, .int (nI ((lst yf x yn).1))])), (ca_3, .inl (cJ, 16, .inr (.inl fa_5)))] H := hP
            have hD : va_D A [(bf, .inr (6, [.ref fo, .int lg, .ref bm, .ref bs, .ref ip, .ref bc, .ref bh, .ref br, .int rc0])), (nb_4, .inl (cJ, 16, .inr (.inl fb_6))), (yl, .inr (1, [.ref ya, .int (nI yn), .int (12 : Int32)])), (ya, .inl (cI, 48, .inl yf)), (bm, .inr (2, [.ref ca_3, .ref nb_4, .int (nI ((lst yf x yn).1))])), (ca_3, .inl (cJ, 16, .inr (.inl fa_5)))] := hD
            refine tp_l (y := cdl (lst yf x yn).2 (lev (lst yf x yn).1)) (cdl_lev f_7) ?_
            refine lv_ldc2 (v := (12 : Int64)) hx hb hown (gw.at G hx0 mw_524 rfl _) d_BF_isLarge_57 ?_
            refine W.lcmp hx hb d_BF_isLarge_60 ?_
            refine lv_if_le (tgt := 66) hx hb d_BF_isLarge_61 (by decide) (fun h_9 => ?_) (fun h_9 => ?_)
            · refine lv_iinc (lv' := [(4, .int (nI (x + 1))), (3, .int (nI (2 ^ yn))), (0, .ref bf), (1, .ref yl), (2, .int (nI sp))]) (k := 0) (v := nI (x + 1)) hx hb d_BF_isLarge_66 hl rfl (nI_add x 1) (by decide) rfl (fun ls hl => ?_)
              refine lv_goto (tgt := 21) hx hb d_BF_isLarge_69 (by decide) ?_
              exact ih_21 _ (by omega) (x + 1) ca_3 nb_4 fa_5 fb_6 (nI ((lst yf x yn).1)) ls H locs rfl (fun k hk z98 => (Nat.lt_succ_iff_lt_or_eq.mp hk).elim (fun z96 => hi k z96 z98) (fun e9 => by rw [e9] at z98; exact (fun z97 => absurd z97 (Int32.not_lt.mpr h_9)) ((lg_cmp_gt _ _).mpr z98.2.2))) (by omega) (lv_sub hl [0, 1, 2, 3, 4] rfl) (hP.sub [0, 2, 3, 4, 5, 1] rfl) (hD.sub [0, 2, 3, 4, 5, 1] (by decide) rfl) hS
            · refine lv_iconst (v := (1 : Int32)) hx hb d_BF_isLarge_64 (by decide) ?_
              rw [← hQe]
              exact tx_mono (fun _ h => tx_Z.of h) (W.zret (v := (1 : Int32)) hx hb hr (by decide) (fun t ht hW => ⟨⟨[(bf, .inr (6, [.ref fo, .int lg, .ref bm, .ref bs, .ref ip, .ref bc, .ref bh, .ref br, .int rc0])), (yl, .inr (1, [.ref ya, .int (nI yn), .int (12 : Int32)])), (ya, .inl (cI, 48, .inl yf)), (bm, .inr (2, [.ref ca_3, .ref nb_4, .int (nI ((lst yf x yn).1))])), (ca_3, .inl (cJ, 16, .inr (.inl fa_5))), (nb_4, .inl (cJ, 16, .inr (.inl fb_6)))], ⟨ca_3, nb_4, fa_5, fb_6, (nI ((lst yf x yn).1)), rfl, rfl⟩, by rw [ht]; exact hP.sub [0, 2, 3, 4, 5, 1] rfl, hD.sub [0, 2, 3, 4, 5, 1] (by decide) rfl⟩, hS.F ht⟩) hS.2.2 d_BF_isLarge_65)
  exact lp_21 _ 0 cu nx cf nf9 jz ls s.heap [] rfl (fun k hk => absurd hk (Nat.not_lt_zero k)) (Nat.zero_le _) (lv_sub hl [0, 1, 2, 3, 4] rfl) (hP.sub [0, 1, 2, 3, 4, 5] rfl) (hD.sub [0, 1, 2, 3, 4, 5] (by decide) rfl) hS

set_option maxHeartbeats 4000000 in
set_option maxRecDepth 100000 in
theorem c_BF_large_n {l : Launch} {s0 : State} {b0 : Addr} {D : va_G} {cI cJ cZ : ClassId} {tC tS : Nat} (E : gE l s0 b0 D cI cJ cZ tC tS) (sz : Nat) (bf : Nat) (fo : Nat) (bm : Nat) (bs : Nat) (ip : Nat) (bc : Nat) (bh : Nat) (br : Nat) (lg : Int32) (rc0 : Int32) (cu : Nat) (nx : Nat) (cf : Nat → Int64) (nf9 : Nat → Int64) (jz : Int32) (yl : Nat) (ya : Nat) (yn : Nat) (yf : Nat → Int32) (sp : Nat) (hyn : yn ≤ 8) (hsp : sp ≤ 4) (h : ¬ lrg yf yn sp) : cx_M l s0 D kl y_BF_isLarge b_BF_isLarge 5 (some .boolean) ({ frames := 2, cells := 0, slots := 0, locals := 54 } : Room) 0 0 [.ref bf, .ref yl, .int (nI sp)] [(bf, .inr (6, [.ref fo, .int lg, .ref bm, .ref bs, .ref ip, .ref bc, .ref bh, .ref br, .int rc0])), (yl, .inr (1, [.ref ya, .int (nI yn), .int (12 : Int32)])), (ya, .inl (cI, 48, .inl yf)), (bm, .inr (2, [.ref cu, .ref nx, .int jz])), (cu, .inl (cJ, 16, .inr (.inl cf))), (nx, .inl (cJ, 16, .inr (.inl nf9)))] sz (fun o9 _ w9 => ∃ (ca : Nat) (nb : Nat) (fa : Nat → Int64) (fb : Nat → Int64) (jj : Int32), o9 = .returned (some (.int (0 : Int32))) ∧ w9 = [(bf, .inr (6, [.ref fo, .int lg, .ref bm, .ref bs, .ref ip, .ref bc, .ref bh, .ref br, .int rc0])), (yl, .inr (1, [.ref ya, .int (nI yn), .int (12 : Int32)])), (ya, .inl (cI, 48, .inl yf)), (bm, .inr (2, [.ref ca, .ref nb, .int jj])), (ca, .inl (cJ, 16, .inr (.inl fa))), (nb, .inl (cJ, 16, .inr (.inl fb)))]) := by
  refine tx_ofW (cc := b_BF_isLarge) (maxL := 5) (ret := (some .boolean)) (by decide) rfl ?_
  intro p e s m args below meth c s₁ B hml hT hv
  obtain ⟨rfl, hsz, hP, hD0, hx0⟩ := hv
  have hx := B.exec
  have hb := B.bytes
  have hr := B.returns
  have G := E.2.1
  have hown : s.vm.findClass cn_BF = some m.cls := findClass_of_methodNamed B.named
  have hlocks := B.notSynchronized
  have hK := va_K.moved hx0.1.alike E.2.2.1
  have hf_BF : ∀ w99 ∈ u_ws cn_BF ft_BF 9, w99.before ([.ref bf, .ref yl, .int (nI sp)] : List Value).toArray s = true := fun w99 h99 => gw.at G hx0 (fw_BF w99 h99) (fo_BF w99 h99) _
  have hf_PL : ∀ w99 ∈ u_ws cn_PL ft_PL 3, w99.before ([.ref bf, .ref yl, .int (nI sp)] : List Value).toArray s = true := fun w99 h99 => gw.at G hx0 (fw_PL w99 h99) (fo_PL w99 h99) _
  subst hsz
  have hA0 := cx_new hD0 hx0.2.1
  have hD := hD0.self (sz := s.heap.size)
  generalize hAe : va_A [(bf, .inr (6, [.ref fo, .int lg, .ref bm, .ref bs, .ref ip, .ref bc, .ref bh, .ref br, .int rc0])), (yl, .inr (1, [.ref ya, .int (nI yn), .int (12 : Int32)])), (ya, .inl (cI, 48, .inl yf)), (bm, .inr (2, [.ref cu, .ref nx, .int jz])), (cu, .inl (cJ, 16, .inr (.inl cf))), (nx, .inl (cJ, 16, .inr (.inl nf9)))] s.heap.size = A at hD hA0 ⊢
  have hA : ∀ q : Nat, s.heap.size ≤ q → A q := fun q h => by rw [← hAe]; exact Or.inr h
  have hS : va_S A s.heap s.heap [] := va_S.rf
  have hl := lv_entry ([.ref bf, .ref yl, .int (nI sp)]) (n := 5) (Nat.le_of_ble_eq_true rfl)
  rw [lg_entry_eq]
  generalize (lg_sl ([.ref bf, .ref yl, .int (nI sp)]) ++ List.replicate (5 - (lg_sl ([.ref bf, .ref yl, .int (nI sp)])).length) Slot.unset).toArray = ls at hl ⊢
  have hl : lv_has ls 5 [(0, .ref bf), (1, .ref yl), (2, .int (nI sp))] := hl
  have hP : va_P D kl [(bf, .inr (6, [.ref fo, .int lg, .ref bm, .ref bs, .ref ip, .ref bc, .ref bh, .ref br, .int rc0])), (yl, .inr (1, [.ref ya, .int (nI yn), .int (12 : Int32)])), (ya, .inl (cI, 48, .inl yf)), (bm, .inr (2, [.ref cu, .ref nx, .int jz])), (cu, .inl (cJ, 16, .inr (.inl cf))), (nx, .inl (cJ, 16, .inr (.inl nf9)))] s.heap := hP
  have hml : c.maxLocals = 5 := hml
  have h2n : 2 ^ yn ≤ 2 ^ 8 := Nat.pow_le_pow_right (by decide) hyn
  generalize hQe : tx_Z below (cx_Q D kl A (fun o9 _ w9 => ∃ (ca : Nat) (nb : Nat) (fa : Nat → Int64) (fb : Nat → Int64) (jj : Int32), o9 = .returned (some (.int (0 : Int32))) ∧ w9 = [(bf, .inr (6, [.ref fo, .int lg, .ref bm, .ref bs, .ref ip, .ref bc, .ref bh, .ref br, .int rc0])), (yl, .inr (1, [.ref ya, .int (nI yn), .int (12 : Int32)])), (ya, .inl (cI, 48, .inl yf)), (bm, .inr (2, [.ref ca, .ref nb, .int jj])), (ca, .inl (cJ, 16, .inr (.inl fa))), (nb, .inl (cJ, 16, .inr (.inl fb)))])) ([.ref bf, .ref yl, .int (nI sp)] : List Value).toArray s 0 0 A = Q
  refine lv_aload_n hx hb d_BF_isLarge_0 rfl (lv_at hl 1 rfl) ?_
  refine va_get (D := D) (ci := 1) (v := .int (nI yn)) (C := cn_PL) (T := ft_PL) (N := 3) hx hb hf_PL (fun _ h => h) hown hK hP 1 rfl rfl 1 (by decide) (gw.at G hx0 mw_41 rfl _) (fun _ h9 => h9) rfl d_BF_isLarge_1 ?_
  refine lv_bipush (v := (8 : Int32)) hx hb d_BF_isLarge_4 (by decide) ?_
  refine lv_icmp_le (tgt := 11) hx hb d_BF_isLarge_6 (by decide) (fun _ => ?_) (fun h99 => absurd h99 (not_not_intro ((nI_leI (a := yn) (b := 8) (by omega) (by omega)).mpr (by omega))))
  refine lv_iconst (v := (1 : Int32)) hx hb d_BF_isLarge_11 (by decide) ?_
  refine lv_aload_n hx hb d_BF_isLarge_12 rfl (lv_at hl 1 rfl) ?_
  refine va_get (D := D) (ci := 1) (v := .int (nI yn)) (C := cn_PL) (T := ft_PL) (N := 3) hx hb hf_PL (fun _ h => h) hown hK hP 1 rfl rfl 1 (by decide) (gw.at G hx0 mw_41 rfl _) (fun _ h9 => h9) rfl d_BF_isLarge_13 ?_
  refine lv_ishl hx hb d_BF_isLarge_16 ?_
  refine tp_i (y := nI (2 ^ yn)) (nI_shl (k := yn) (by omega)) ?_
  refine lv_istore_n (lv' := [(3, .int (nI (2 ^ yn))), (0, .ref bf), (1, .ref yl), (2, .int (nI sp))]) hx hb d_BF_isLarge_17 rfl hl (by decide) rfl (fun ls hl => ?_)
  refine lv_iconst (v := (0 : Int32)) hx hb d_BF_isLarge_18 (by decide) ?_
  refine lv_istore (lv' := [(4, .int (0 : Int32)), (3, .int (nI (2 ^ yn))), (0, .ref bf), (1, .ref yl), (2, .int (nI sp))]) hx hb d_BF_isLarge_19 hl (by decide) rfl (fun ls hl => ?_)
  have lp_21 : ∀ (n9 : Nat) (x : Nat) (ca : Nat) (nb : Nat) (fa : Nat → Int64) (fb : Nat → Int64) (jj : Int32) (ls : Array Slot) (H : Heap) (locs : List Loc), 2 ^ yn - x = n9 → (∀ k, k < x → ¬ lrx yf yn sp k) → (x ≤ 2 ^ yn) → lv_has ls 5 [(4, .int (nI x)), (3, .int (nI (2 ^ yn))), (0, .ref bf), (1, .ref yl), (2, .int (nI sp))] → va_P D kl [(bf, .inr (6, [.ref fo, .int lg, .ref bm, .ref bs, .ref ip, .ref bc, .ref bh, .ref br, .int rc0])), (yl, .inr (1, [.ref ya, .int (nI yn), .int (12 : Int32)])), (ya, .inl (cI, 48, .inl yf)), (bm, .inr (2, [.ref ca, .ref nb, .int jj])), (ca, .inl (cJ, 16, .inr (.inl fa))), (nb, .inl (cJ, 16, .inr (.inl fb)))] H → va_D A [(bf, .inr (6, [.ref fo, .int lg, .ref bm, .ref bs, .ref ip, .ref bc, .ref bh, .ref br, .int rc0])), (yl, .inr (1, [.ref ya, .int (nI yn), .int (12 : Int32)])), (ya, .inl (cI, 48, .inl yf)), (bm, .inr (2, [.ref ca, .ref nb, .int jj])), (ca, .inl (cJ, 16, .inr (.inl fa))), (nb, .inl (cJ, 16, .inr (.inl fb)))] → va_S A s.heap H locs → W p l e ({ frames := 2, cells := 0, slots := 0, locals := 54 } : Room) s m ([.ref bf, .ref yl, .int (nI sp)] : List Value).toArray below meth c H locs 0 0 Q (F0 m 21 ls []) := by
    intro n9
    induction n9 using Nat.strongRecOn with
    | ind n9 ih_21 =>
      intro x ca nb fa fb jj ls H locs hm_21 hi hx9 hl hP hD hS
      refine lv_iload hx hb d_BF_isLarge_21 (lv_at hl 0 rfl) ?_
      refine lv_iload_n hx hb d_BF_isLarge_23 rfl (lv_at hl 1 rfl) ?_
      refine lv_icmp_ge (tgt := 72) hx hb d_BF_isLarge_24 (by decide) (fun h_1 => ?_) (fun h_1 => ?_)
      · have h_1 : (2 ^ yn) ≤ x := (nI_leI (a := 2 ^ yn) (b := x) (by omega) (by omega)).mp h_1
        refine lv_iconst (v := (0 : Int32)) hx hb d_BF_isLarge_72 (by decide) ?_
        rw [← hQe]
        exact tx_mono (fun _ h => tx_Z.of h) (W.zret (v := (0 : Int32)) hx hb hr (by decide) (fun t ht hW => ⟨⟨[(bf, .inr (6, [.ref fo, .int lg, .ref bm, .ref bs, .ref ip, .ref bc, .ref bh, .ref br, .int rc0])), (yl, .inr (1, [.ref ya, .int (nI yn), .int (12 : Int32)])), (ya, .inl (cI, 48, .inl yf)), (bm, .inr (2, [.ref ca, .ref nb, .int jj])), (ca, .inl (cJ, 16, .inr (.inl fa))), (nb, .inl (cJ, 16, .inr (.inl fb)))], ⟨ca, nb, fa, fb, jj, rfl, rfl⟩, by rw [ht]; exact hP.sub [0, 1, 2, 3, 4, 5] rfl, hD.sub [0, 1, 2, 3, 4, 5] (by decide) rfl⟩, hS.F ht⟩) hS.2.2 d_BF_isLarge_73)
      · have h_1 : ¬ ((2 ^ yn) ≤ x) := fun z99 => h_1 ((nI_leI (a := 2 ^ yn) (b := x) (by omega) (by omega)).mpr z99)
        have hpc : pcn x ≤ 8 := pcn_le
        refine lv_iload hx hb d_BF_isLarge_27 (lv_at hl 0 rfl) ?_
        refine cx_call (D := D) (cl := kl) (ws := _) (wc := []) (wr := [(bf, .inr (6, [.ref fo, .int lg, .ref bm, .ref bs, .ref ip, .ref bc, .ref bh, .ref br, .int rc0])), (yl, .inr (1, [.ref ya, .int (nI yn), .int (12 : Int32)])), (ya, .inl (cI, 48, .inl yf)), (bm, .inr (2, [.ref ca, .ref nb, .int jj])), (ca, .inl (cJ, 16, .inr (.inl fa))), (nb, .inl (cJ, 16, .inr (.inl fb)))]) (tx_runS (As := [.int (nI x)]) (rest := []) hx hb hml hown (c_JI_bitCount E H.size x (by omega)) (cx_C (b0 := b0) G hx0 mw_446 mw_17 ny_JI_bitCount (by decide)) (gw.at G hx0 mw_521 rfl _) (gw.at G hx0 mw_445 rfl _) (gw.at G hx0 mw_17 rfl _) ⟨cx_blind, (cx_pre (s := s) hx0 hP hD hS hA0 [] rfl rfl (by decide))⟩ rfl rfl hl.1 rfl (lv_room (Nat.le_of_ble_eq_true rfl)) d_BF_isLarge_29 ⟨by decide, by decide⟩) hP hD hS hA [] [0, 1, 2, 3, 4, 5] rfl rfl (by decide) (by decide) (fun v t w1 H locs ht hW9 hp hP hD hS => ?_) (fun x t w1 H locs ht hW9 hp hP hD hS => by obtain ⟨h9, -⟩ := hp; cases h9)
        obtain ⟨h9, rfl⟩ := hp
        cases h9
        refine W.eq (g2 := F0 m 32 ls [.int (nI (pcn x))]) rfl ?_
        refine W.widen (k := 0) (n := 0) (by decide) (by decide) ?_
        have hP : va_P D kl [(bf, .inr (6, [.ref fo, .int lg, .ref bm, .ref bs, .ref ip, .ref bc, .ref bh, .ref br, .int rc0])), (yl, .inr (1, [.ref ya, .int (nI yn), .int (12 : Int32)])), (ya, .inl (cI, 48, .inl yf)), (bm, .inr (2, [.ref ca, .ref nb, .int jj])), (ca, .inl (cJ, 16, .inr (.inl fa))), (nb, .inl (cJ, 16, .inr (.inl fb)))] H := hP
        have hD : va_D A [(bf, .inr (6, [.ref fo, .int lg, .ref bm, .ref bs, .ref ip, .ref bc, .ref bh, .ref br, .int rc0])), (yl, .inr (1, [.ref ya, .int (nI yn), .int (12 : Int32)])), (ya, .inl (cI, 48, .inl yf)), (bm, .inr (2, [.ref ca, .ref nb, .int jj])), (ca, .inl (cJ, 16, .inr (.inl fa))), (nb, .inl (cJ, 16, .inr (.inl fb)))] := hD
        refine lv_iload_n hx hb d_BF_isLarge_32 rfl (lv_at hl 4 rfl) ?_
        refine lv_icmp_ne (tgt := 66) hx hb d_BF_isLarge_33 (by decide) (fun h_2 => ?_) (fun h_2 => ?_)
        · have h_2 : ¬ ((pcn x) = sp) := fun z99 => h_2 ((nI_eq (a := pcn x) (b := sp) (by omega) (by omega)).mpr z99)
          refine lv_iinc (lv' := [(4, .int (nI (x + 1))), (3, .int (nI (2 ^ yn))), (0, .ref bf), (1, .ref yl), (2, .int (nI sp))]) (k := 0) (v := nI (x + 1)) hx hb d_BF_isLarge_66 hl rfl (nI_add x 1) (by decide) rfl (fun ls hl => ?_)
          refine lv_goto (tgt := 21) hx hb d_BF_isLarge_69 (by decide) ?_
          exact ih_21 _ (by omega) (x + 1) ca nb fa fb jj ls H locs rfl (fun k hk z98 => (Nat.lt_succ_iff_lt_or_eq.mp hk).elim (fun z96 => hi k z96 z98) (fun e9 => by rw [e9] at z98; exact h_2 z98.1)) (by omega) (lv_sub hl [0, 1, 2, 3, 4] rfl) (hP.sub [0, 1, 2, 3, 4, 5] rfl) (hD.sub [0, 1, 2, 3, 4, 5] (by decide) rfl) hS
        · have h_2 : (pcn x) = sp := (nI_eq (a := pcn x) (b := sp) (by omega) (by omega)).mp h_2
          refine lv_aload_n hx hb d_BF_isLarge_36 rfl (lv_at hl 2 rfl) ?_
          refine va_get (D := D) (ci := 6) (v := .ref bm) (C := cn_BF) (T := ft_BF) (N := 9) hx hb hf_BF (fun _ h => h) hown hK hP 0 rfl rfl 2 (by decide) (gw.at G hx0 mw_168 rfl _) (fun _ h9 => h9) rfl d_BF_isLarge_37 ?_
          refine lv_aload_n hx hb d_BF_isLarge_40 rfl (lv_at hl 3 rfl) ?_
          refine lv_iload hx hb d_BF_isLarge_41 (lv_at hl 0 rfl) ?_
          refine cx_call (D := D) (cl := kl) (ws := _) (wc := [(bm, .inr (2, [.ref ca, .ref nb, .int jj])), (ca, .inl (cJ, 16, .inr (.inl fa))), (nb, .inl (cJ, 16, .inr (.inl fb))), (yl, .inr (1, [.ref ya, .int (nI yn), .int (12 : Int32)])), (ya, .inl (cI, 48, .inl yf))]) (wr := [(bf, .inr (6, [.ref fo, .int lg, .ref bm, .ref bs, .ref ip, .ref bc, .ref bh, .ref br, .int rc0]))]) (tx_runV (C := cn_MI) (b := bm) (As := [.ref yl, .int (nI x)]) (rest := []) hx hb hml hown (c_MI_load E H.size bm ca nb fa fb jj yl ya yn 12 48 yf x (by decide) (by decide) (by omega) (by omega) (by omega)) (cx_C (b0 := b0) G hx0 mw_369 mw_4 ny_MI_load (by decide)) (gw.at G hx0 mw_522 rfl _) (gw.at G hx0 mw_367 rfl _) (gw.at G hx0 mw_368 rfl _) ⟨cx_blind, va_recv hK hP (q0 := 3) (ci := 2) (q := (cn_MI, ft_MI, 3)) rfl rfl, (cx_pre (s := s) hx0 hP hD hS hA0 [3, 4, 5, 1, 2] rfl rfl (by decide))⟩ rfl rfl hl.1 rfl (lv_room (Nat.le_of_ble_eq_true rfl)) d_BF_isLarge_43 ⟨by decide, by decide⟩) hP hD hS hA [3, 4, 5, 1, 2] [0] rfl rfl (by decide) (by decide) (fun v t w1 H locs ht hW9 hp hP hD hS => ?_) (fun x t w1 H locs ht hW9 hp hP hD hS => by obtain ⟨_, _, _, _, h9, -⟩ := hp; cases h9)
          obtain ⟨ca_3, nb_4, fa_5, fb_6, h9, f_7, rfl⟩ := hp
          cases h9
          refine W.eq (g2 := F0 m 46 ls [.int (nI ((lst yf x yn).1))]) rfl ?_
          refine W.widen (k := 0) (n := 0) (by decide) (by decide) ?_
          have hP : va_P D kl [(bf, .inr (6, [.ref fo, .int lg, .ref bm, .ref bs, .ref ip, .ref bc, .ref bh, .ref br, .int rc0])), (bm, .inr (2, [.ref ca_3, .ref nb_4, .int (nI ((lst yf x yn).1))])), (ca_3, .inl (cJ, 16, .inr (.inl fa_5))), (nb_4, .inl (cJ, 16, .inr (.inl fb_6))), (yl, .inr (1, [.ref ya, .int (nI yn), .int (12 : Int32)])), (ya, .inl (cI, 48, .inl yf))] H := hP
          have hD : va_D A [(bf, .inr (6, [.ref fo, .int lg, .ref bm, .ref bs, .ref ip, .ref bc, .ref bh, .ref br, .int rc0])), (bm, .inr (2, [.ref ca_3, .ref nb_4, .int (nI ((lst yf x yn).1))])), (ca_3, .inl (cJ, 16, .inr (.inl fa_5))), (nb_4, .inl (cJ, 16, .inr (.inl fb_6))), (yl, .inr (1, [.ref ya, .int (nI yn), .int (12 : Int32)])), (ya, .inl (cI, 48, .inl yf))] := hD
          have hll : (lst yf x yn).1 ≤ 4 := lst_le yf x yn
          refine lv_iload_n hx hb d_BF_isLarge_46 rfl (lv_at hl 4 rfl) ?_
          refine lv_icmp_ne (tgt := 66) hx hb d_BF_isLarge_47 (by decide) (fun h_8 => ?_) (fun h_8 => ?_)
          · have h_8 : ¬ (((lst yf x yn).1) = sp) := fun z99 => h_8 ((nI_eq (a := (lst yf x yn).1) (b := sp) (by omega) (by omega)).mpr z99)
            refine lv_iinc (lv' := [(4, .int (nI (x + 1))), (3, .int (nI (2 ^ yn))), (0, .ref bf), (1, .ref yl), (2, .int (nI sp))]) (k := 0) (v := nI (x + 1)) hx hb d_BF_isLarge_66 hl rfl (nI_add x 1) (by decide) rfl (fun ls hl => ?_)
            refine lv_goto (tgt := 21) hx hb d_BF_isLarge_69 (by decide) ?_
            exact ih_21 _ (by omega) (x + 1) ca_3 nb_4 fa_5 fb_6 (nI ((lst yf x yn).1)) ls H locs rfl (fun k hk z98 => (Nat.lt_succ_iff_lt_or_eq.mp hk).elim (fun z96 => hi k z96 z98) (fun e9 => by rw [e9] at z98; exact h_8 z98.2.1)) (by omega) (lv_sub hl [0, 1, 2, 3, 4] rfl) (hP.sub [0, 4, 5, 1, 2, 3] rfl) (hD.sub [0, 4, 5, 1, 2, 3] (by decide) rfl) hS
          · have h_8 : ((lst yf x yn).1) = sp := (nI_eq (a := (lst yf x yn).1) (b := sp) (by omega) (by omega)).mp h_8
            refine lv_aload_n hx hb d_BF_isLarge_50 rfl (lv_at hl 2 rfl) ?_
            refine va_get (D := D) (ci := 6) (v := .ref bm) (C := cn_BF) (T := ft_BF) (N := 9) hx hb hf_BF (fun _ h => h) hown hK hP 0 rfl rfl 2 (by decide) (gw.at G hx0 mw_168 rfl _) (fun _ h9 => h9) rfl d_BF_isLarge_51 ?_
            refine cx_call (D := D) (cl := kl) (ws := _) (wc := [(bm, .inr (2, [.ref ca_3, .ref nb_4, .int (nI ((lst yf x yn).1))])), (ca_3, .inl (cJ, 16, .inr (.inl fa_5)))]) (wr := [(bf, .inr (6, [.ref fo, .int lg, .ref bm, .ref bs, .ref ip, .ref bc, .ref bh, .ref br, .int rc0])), (nb_4, .inl (cJ, 16, .inr (.inl fb_6))), (yl, .inr (1, [.ref ya, .int (nI yn), .int (12 : Int32)])), (ya, .inl (cI, 48, .inl yf))]) (tx_runV (C := cn_MI) (b := bm) (As := []) (rest := []) hx hb hml hown (c_MI_comdiv E H.size bm ca_3 nb_4 fa_5 ((lst yf x yn).1) hll) (cx_C (b0 := b0) G hx0 mw_461 mw_4 ny_MI_commonDivisor (by decide)) (gw.at G hx0 mw_523 rfl _) (gw.at G hx0 mw_459 rfl _) (gw.at G hx0 mw_460 rfl _) ⟨cx_blind, va_recv hK hP (q0 := 1) (ci := 2) (q := (cn_MI, ft_MI, 3)) rfl rfl, (cx_pre (s := s) hx0 hP hD hS hA0 [1, 2] rfl rfl (by decide))⟩ rfl rfl hl.1 rfl (lv_room (Nat.le_of_ble_eq_true rfl)) d_BF_isLarge_54 ⟨by decide, by decide⟩) hP hD hS hA [1, 2] [0, 3, 4, 5] rfl rfl (by decide) (by decide) (fun v t w1 H locs ht hW9 hp hP hD hS => ?_) (fun x t w1 H locs ht hW9 hp hP hD hS => by obtain ⟨h9, -⟩ := hp; cases h9)
            obtain ⟨h9, rfl⟩ := hp
            cases h9
            refine W.eq (g2 := F0 m 57 ls [.long (cdl fa_5 (lev ((lst yf x yn).1)))]) rfl ?_
            refine W.widen (k := 0) (n := 0) (by decide) (by decide) ?_
            have hP : va_P D kl [(bf, .inr (6, [.ref fo, .int lg, .ref bm, .ref bs, .ref ip, .ref bc, .ref bh, .ref br, .int rc0])), (nb_4, .inl (cJ, 16, .inr (.inl fb_6))), (yl, .inr (1, [.ref ya, .int (nI yn), .int (12 : Int32)])), (ya, .inl (cI, 48, .inl yf)), (bm, .inr (2, [.ref ca_3, .ref nb_4, .int (nI ((lst yf x yn).1))])), (ca_3, .inl (cJ, 16, .inr (.inl fa_5)))] H := hP
            have hD : va_D A [(bf, .inr (6, [.ref fo, .int lg, .ref bm, .ref bs, .ref ip, .ref bc, .ref bh, .ref br, .int rc0])), (nb_4, .inl (cJ, 16, .inr (.inl fb_6))), (yl, .inr (1, [.ref ya, .int (nI yn), .int (12 : Int32)])), (ya, .inl (cI, 48, .inl yf)), (bm, .inr (2, [.ref ca_3, .ref nb_4, .int (nI ((lst yf x yn).1))])), (ca_3, .inl (cJ, 16, .inr (.inl fa_5)))] := hD
            refine tp_l (y := cdl (lst yf x yn).2 (lev (lst yf x yn).1)) (cdl_lev f_7) ?_
            refine lv_ldc2 (v := (12 : Int64)) hx hb hown (gw.at G hx0 mw_524 rfl _) d_BF_isLarge_57 ?_
            refine W.lcmp hx hb d_BF_isLarge_60 ?_
            refine lv_if_le (tgt := 66) hx hb d_BF_isLarge_61 (by decide) (fun h_9 => ?_) (fun h_9 => ?_)
            · refine lv_iinc (lv' := [(4, .int (nI (x + 1))), (3, .int (nI (2 ^ yn))), (0, .ref bf), (1, .ref yl), (2, .int (nI sp))]) (k := 0) (v := nI (x + 1)) hx hb d_BF_isLarge_66 hl rfl (nI_add x 1) (by decide) rfl (fun ls hl => ?_)
              refine lv_goto (tgt := 21) hx hb d_BF_isLarge_69 (by decide) ?_
              exact ih_21 _ (by omega) (x + 1) ca_3 nb_4 fa_5 fb_6 (nI ((lst yf x yn).1)) ls H locs rfl (fun k hk z98 => (Nat.lt_succ_iff_lt_or_eq.mp hk).elim (fun z96 => hi k z96 z98) (fun e9 => by rw [e9] at z98; exact (fun z97 => absurd z97 (Int32.not_lt.mpr h_9)) ((lg_cmp_gt _ _).mpr z98.2.2))) (by omega) (lv_sub hl [0, 1, 2, 3, 4] rfl) (hP.sub [0, 2, 3, 4, 5, 1] rfl) (hD.sub [0, 2, 3, 4, 5, 1] (by decide) rfl) hS
            · refine lv_iconst (v := (1 : Int32)) hx hb d_BF_isLarge_64 (by decide) ?_
              exact absurd ⟨x, by omega, h_2, h_8, (lg_cmp_gt _ _).mp (Int32.not_le.mp h_9)⟩ h
  exact lp_21 _ 0 cu nx cf nf9 jz ls s.heap [] rfl (fun k hk => absurd hk (Nat.not_lt_zero k)) (Nat.zero_le _) (lv_sub hl [0, 1, 2, 3, 4] rfl) (hP.sub [0, 1, 2, 3, 4, 5] rfl) (hD.sub [0, 1, 2, 3, 4, 5] (by decide) rfl) hS

