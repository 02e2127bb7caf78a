/-! ===== own rows, laid by wip/tools/sym.py: findRays ===== -/
noncomputable def rstep (pf : Nat → Int32) (ct dm : Nat) (f : Nat → Int64) (p : Nat × (Nat → Int32) × (Nat → Int32)) : Nat × (Nat → Int32) × (Nat → Int32) :=
  (trN pf ct (trN pf ct p.1 p.2.1 (drw_p f dm p.2.2)) (trF pf ct p.1 p.2.1 (drw_p f dm p.2.2)) (drw_m f dm (drw_p f dm p.2.2)), trF pf ct (trN pf ct p.1 p.2.1 (drw_p f dm p.2.2)) (trF pf ct p.1 p.2.1 (drw_p f dm p.2.2)) (drw_m f dm (drw_p f dm p.2.2)), drw_m f dm (drw_p f dm p.2.2))
/-- the rays that are found among the first x sets of rows: how many, where, and the direction tried last -/
noncomputable def rst (pf : Nat → Int32) (ct dm : Nat) (yf dg : Nat → Int32) : Nat → Nat × (Nat → Int32) × (Nat → Int32)
  | 0 => (0, yf, dg)
  | x + 1 => @ite _ (pcn x = dm - 1 ∧ (lst pf x ct).1 = dm - 1) (Classical.propDecidable _) (rstep pf ct dm (lst pf x ct).2 (rst pf ct dm yf dg x)) (rst pf ct dm yf dg x)
theorem rst_no {pf : Nat → Int32} {ct dm x : Nat} {yf dg : Nat → Int32} (h : ¬ (pcn x = dm - 1 ∧ (lst pf x ct).1 = dm - 1)) : rst pf ct dm yf dg (x + 1) = rst pf ct dm yf dg x := @if_neg _ (Classical.propDecidable _) h _ _ _
theorem drw_p_lev {f g : Nat → Int64} {z : Nat} {d : Nat → Int32} (hz2 : 2 ≤ z) (hz4 : z ≤ 4) (h : ∀ m ∈ lev (z - 1), f m = g m) : drw_p f z d = drw_p g z d := by
  unfold drw_p
  rw [cdl_lev h, dirg_p_lev hz2 hz4 h]
theorem drw_m_lev {f g : Nat → Int64} {z : Nat} {d : Nat → Int32} (hz2 : 2 ≤ z) (hz4 : z ≤ 4) (h : ∀ m ∈ lev (z - 1), f m = g m) : drw_m f z d = drw_m g z d := by
  unfold drw_m
  rw [cdl_lev h, dirg_m_lev hz2 hz4 h]
theorem rst_yes {pf : Nat → Int32} {ct dm x yn : Nat} {yf0 dg0 yf dg : Nat → Int32} {fa : Nat → Int64} (hr : rst pf ct dm yf0 dg0 x = (yn, yf, dg)) (hp : pcn x = dm - 1) (hl : (lst pf x ct).1 = dm - 1) (hf : ∀ m ∈ lev (lst pf x ct).1, fa m = (lst pf x ct).2 m) (hd2 : 2 ≤ dm) (hd4 : dm ≤ 4) :
    rst pf ct dm yf0 dg0 (x + 1) = (trN pf ct (trN pf ct yn yf (drw_p fa dm dg)) (trF pf ct yn yf (drw_p fa dm dg)) (drw_m fa dm (drw_p fa dm dg)), trF pf ct (trN pf ct yn yf (drw_p fa dm dg)) (trF pf ct yn yf (drw_p fa dm dg)) (drw_m fa dm (drw_p fa dm dg)), drw_m fa dm (drw_p fa dm dg)) := by
  have h1 : rst pf ct dm yf0 dg0 (x + 1) = rstep pf ct dm (lst pf x ct).2 (rst pf ct dm yf0 dg0 x) := @if_pos _ (Classical.propDecidable _) ⟨hp, hl⟩ _ _ _
  rw [hl] at hf
  rw [h1, hr]
  unfold rstep
  simp only
  rw [drw_p_lev hd2 hd4 hf, drw_m_lev hd2 hd4 hf]
set_option maxHeartbeats 4000000 in
set_option maxRecDepth 100000 in
theorem c_D_findRays {l : Launch} {s0 : State} {b0 : Addr} {D : va_G} {cI cJ cZ : ClassId} {tC tS : Nat} (E : gE l s0 b0 D cI cJ cZ tC tS) (sz : Nat) (d0 : Nat) (gv : Nat) (dr : Nat) (rl : Nat) (yl : Nat) (mi : Nat) (fl : Nat) (bf : Nat) (dm : Nat) (rk : Int32) (sp : Int32) (kn : Int32) (rc : Nat) (ct : Nat) (mo : Nat) (pz : Nat) (pf : Nat → Int32) (cu : Nat) (nx : Nat) (cf : Nat → Int64) (nf : Nat → Int64) (jz : Int32) (ya : Nat) (y0 : Int32) (yf0 : Nat → Int32) (dg0 : Nat → Int32) (hpz : pz = mo * 4) (hmo : mo ≤ 107) (hct : ct ≤ mo) (hd2 : 2 ≤ dm) (hd4 : dm ≤ 4) (hc8 : ct ≤ 8) : cx_M l s0 D kl y_D_findRays b_D_findRays 3 none ({ frames := 5, cells := 0, slots := 0, locals := 151 } : Room) 0 0 [.ref d0] [(d0, .inr (0, [.int (nI dm), .ref gv, .ref dr, .ref rl, .ref yl, .ref mi, .ref fl, .ref bf, .int rk, .int sp, .int kn])), (rl, .inr (1, [.ref rc, .int (nI ct), .int (nI mo)])), (rc, .inl (cI, pz, .inl pf)), (mi, .inr (2, [.ref cu, .ref nx, .int jz])), (cu, .inl (cJ, 16, .inr (.inl cf))), (nx, .inl (cJ, 16, .inr (.inl nf))), (yl, .inr (1, [.ref ya, .int y0, .int (12 : Int32)])), (ya, .inl (cI, 48, .inl yf0)), (dr, .inl (cI, 4, .inl dg0))] sz (fun o9 _ w9 => ∃ (ca : Nat) (nb : Nat) (fa : Nat → Int64) (fb : Nat → Int64) (jj : Int32), o9 = .returned none ∧ (rst pf ct dm yf0 dg0 (2 ^ ct)).1 ≤ 12 ∧ w9 = [(d0, .inr (0, [.int (nI dm), .ref gv, .ref dr, .ref rl, .ref yl, .ref mi, .ref fl, .ref bf, .int rk, .int sp, .int kn])), (rl, .inr (1, [.ref rc, .int (nI ct), .int (nI mo)])), (rc, .inl (cI, pz, .inl pf)), (mi, .inr (2, [.ref ca, .ref nb, .int jj])), (ca, .inl (cJ, 16, .inr (.inl fa))), (nb, .inl (cJ, 16, .inr (.inl fb))), (yl, .inr (1, [.ref ya, .int (nI ((rst pf ct dm yf0 dg0 (2 ^ ct)).1)), .int (12 : Int32)])), (ya, .inl (cI, 48, .inl ((rst pf ct dm yf0 dg0 (2 ^ ct)).2.1))), (dr, .inl (cI, 4, .inl ((rst pf ct dm yf0 dg0 (2 ^ ct)).2.2)))]) := by
  refine tx_ofW (cc := b_D_findRays) (maxL := 3) (ret := none) (by decide) rfl ?_
  intro p e s m args below meth c s₁ B hml hT hv
  obtain ⟨rfl, hsz, hP, hD0, hx0⟩ := hv
  have hx := B.exec
  have hb := B.bytes
  have hr := B.returns
  have G := E.2.1
  have hown : s.vm.findClass cn_D = some m.cls := findClass_of_methodNamed B.named
  have hlocks := B.notSynchronized
  have hK := va_K.moved hx0.1.alike E.2.2.1
  have hf_D : ∀ w99 ∈ u_ws cn_D ft_D 11, w99.before ([.ref d0] : List Value).toArray s = true := fun w99 h99 => gw.at G hx0 (fw_D w99 h99) (fo_D w99 h99) _
  have hf_PL : ∀ w99 ∈ u_ws cn_PL ft_PL 3, w99.before ([.ref d0] : List Value).toArray s = true := fun w99 h99 => gw.at G hx0 (fw_PL w99 h99) (fo_PL w99 h99) _
  subst hsz
  have hA0 := cx_new hD0 hx0.2.1
  have hD := hD0.self (sz := s.heap.size)
  generalize hAe : va_A [(d0, .inr (0, [.int (nI dm), .ref gv, .ref dr, .ref rl, .ref yl, .ref mi, .ref fl, .ref bf, .int rk, .int sp, .int kn])), (rl, .inr (1, [.ref rc, .int (nI ct), .int (nI mo)])), (rc, .inl (cI, pz, .inl pf)), (mi, .inr (2, [.ref cu, .ref nx, .int jz])), (cu, .inl (cJ, 16, .inr (.inl cf))), (nx, .inl (cJ, 16, .inr (.inl nf))), (yl, .inr (1, [.ref ya, .int y0, .int (12 : Int32)])), (ya, .inl (cI, 48, .inl yf0)), (dr, .inl (cI, 4, .inl dg0))] s.heap.size = A at hD hA0 ⊢
  have hA : ∀ q : Nat, s.heap.size ≤ q → A q := fun q h => by rw [← hAe]; exact Or.inr h
  have hS : va_S A s.heap s.heap [] := va_S.rf
  have hl := lv_entry ([.ref d0]) (n := 3) (Nat.le_of_ble_eq_true rfl)
  rw [lg_entry_eq]
  generalize (lg_sl ([.ref d0]) ++ List.replicate (3 - (lg_sl ([.ref d0])).length) Slot.unset).toArray = ls at hl ⊢
  have hl : lv_has ls 3 [(0, .ref d0)] := hl
  have hP : va_P D kl [(d0, .inr (0, [.int (nI dm), .ref gv, .ref dr, .ref rl, .ref yl, .ref mi, .ref fl, .ref bf, .int rk, .int sp, .int kn])), (rl, .inr (1, [.ref rc, .int (nI ct), .int (nI mo)])), (rc, .inl (cI, pz, .inl pf)), (mi, .inr (2, [.ref cu, .ref nx, .int jz])), (cu, .inl (cJ, 16, .inr (.inl cf))), (nx, .inl (cJ, 16, .inr (.inl nf))), (yl, .inr (1, [.ref ya, .int y0, .int (12 : Int32)])), (ya, .inl (cI, 48, .inl yf0)), (dr, .inl (cI, 4, .inl dg0))] s.heap := hP
  have hml : c.maxLocals = 3 := hml
  have h2n : 2 ^ ct ≤ 2 ^ 8 := Nat.pow_le_pow_right (by decide) hc8
  generalize hQe : tx_Z below (cx_Q D kl A (fun o9 _ w9 => ∃ (ca : Nat) (nb : Nat) (fa : Nat → Int64) (fb : Nat → Int64) (jj : Int32), o9 = .returned none ∧ (rst pf ct dm yf0 dg0 (2 ^ ct)).1 ≤ 12 ∧ w9 = [(d0, .inr (0, [.int (nI dm), .ref gv, .ref dr, .ref rl, .ref yl, .ref mi, .ref fl, .ref bf, .int rk, .int sp, .int kn])), (rl, .inr (1, [.ref rc, .int (nI ct), .int (nI mo)])), (rc, .inl (cI, pz, .inl pf)), (mi, .inr (2, [.ref ca, .ref nb, .int jj])), (ca, .inl (cJ, 16, .inr (.inl fa))), (nb, .inl (cJ, 16, .inr (.inl fb))), (yl, .inr (1, [.ref ya, .int (nI ((rst pf ct dm yf0 dg0 (2 ^ ct)).1)), .int (12 : Int32)])), (ya, .inl (cI, 48, .inl ((rst pf ct dm yf0 dg0 (2 ^ ct)).2.1))), (dr, .inl (cI, 4, .inl ((rst pf ct dm yf0 dg0 (2 ^ ct)).2.2)))])) ([.ref d0] : List Value).toArray s 0 0 A = Q
  refine lv_aload_n hx hb d_D_findRays_0 rfl (lv_at hl 0 rfl) ?_
  refine va_get (D := D) (ci := 0) (v := .ref yl) (C := cn_D) (T := ft_D) (N := 11) hx hb hf_D (fun _ h => h) hown hK hP 0 rfl rfl 4 (by decide) (gw.at G hx0 mw_198 rfl _) (fun _ h9 => h9) rfl d_D_findRays_1 ?_
  refine lv_iconst (v := (0 : Int32)) hx hb d_D_findRays_4 (by decide) ?_
  refine va_put (D := D) (ci := 1) (v := .int (0 : Int32)) (ty := .int) (C := cn_PL) (T := ft_PL) (N := 3) hx hb hf_PL (fun _ h => h) fy_PL fk_PL fn_PL hown hK hP hD hS 6 rfl rfl 1 (by decide) (gw.at G hx0 mw_45 rfl _) (fun _ h9 => h9) rfl (by decide +kernel) rfl rfl (Nat.le_of_ble_eq_true rfl) d_D_findRays_5 (fun H locs hP hD hS => ?_)
  have hP : va_P D kl [(d0, .inr (0, [.int (nI dm), .ref gv, .ref dr, .ref rl, .ref yl, .ref mi, .ref fl, .ref bf, .int rk, .int sp, .int kn])), (rl, .inr (1, [.ref rc, .int (nI ct), .int (nI mo)])), (rc, .inl (cI, pz, .inl pf)), (mi, .inr (2, [.ref cu, .ref nx, .int jz])), (cu, .inl (cJ, 16, .inr (.inl cf))), (nx, .inl (cJ, 16, .inr (.inl nf))), (yl, .inr (1, [.ref ya, .int (0 : Int32), .int (12 : Int32)])), (ya, .inl (cI, 48, .inl yf0)), (dr, .inl (cI, 4, .inl dg0))] H := hP
  have hD : va_D A [(d0, .inr (0, [.int (nI dm), .ref gv, .ref dr, .ref rl, .ref yl, .ref mi, .ref fl, .ref bf, .int rk, .int sp, .int kn])), (rl, .inr (1, [.ref rc, .int (nI ct), .int (nI mo)])), (rc, .inl (cI, pz, .inl pf)), (mi, .inr (2, [.ref cu, .ref nx, .int jz])), (cu, .inl (cJ, 16, .inr (.inl cf))), (nx, .inl (cJ, 16, .inr (.inl nf))), (yl, .inr (1, [.ref ya, .int (0 : Int32), .int (12 : Int32)])), (ya, .inl (cI, 48, .inl yf0)), (dr, .inl (cI, 4, .inl dg0))] := hD
  refine lv_iconst (v := (1 : Int32)) hx hb d_D_findRays_8 (by decide) ?_
  refine lv_aload_n hx hb d_D_findRays_9 rfl (lv_at hl 0 rfl) ?_
  refine va_get (D := D) (ci := 0) (v := .ref rl) (C := cn_D) (T := ft_D) (N := 11) hx hb hf_D (fun _ h => h) hown hK hP 0 rfl rfl 3 (by decide) (gw.at G hx0 mw_197 rfl _) (fun _ h9 => h9) rfl d_D_findRays_10 ?_
  refine va_get (D := D) (ci := 1) (v := .int (nI ct)) (C := cn_PL) (T := ft_PL) (N := 3) hx hb hf_PL (fun _ h => h) hown hK hP 1 rfl rfl 1 (by decide) (gw.at G hx0 mw_45 rfl _) (fun _ h9 => h9) rfl d_D_findRays_13 ?_
  refine lv_ishl hx hb d_D_findRays_16 ?_
  refine tp_i (y := nI (2 ^ ct)) (nI_shl (k := ct) (by omega)) ?_
  refine lv_istore_n (lv' := [(1, .int (nI (2 ^ ct))), (0, .ref d0)]) hx hb d_D_findRays_17 rfl hl (by decide) rfl (fun ls hl => ?_)
  refine lv_iconst (v := (0 : Int32)) hx hb d_D_findRays_18 (by decide) ?_
  refine lv_istore_n (lv' := [(2, .int (0 : Int32)), (1, .int (nI (2 ^ ct))), (0, .ref d0)]) hx hb d_D_findRays_19 rfl hl (by decide) rfl (fun ls hl => ?_)
  have lp_20 : ∀ (n9 : Nat) (x : Nat) (yn : Nat) (yf : Nat → Int32) (dg : Nat → Int32) (ca : Nat) (nb : Nat) (fa : Nat → Int64) (fb : Nat → Int64) (jj : Int32) (ls : Array Slot) (H : Heap) (locs : List Loc), 2 ^ ct - x = n9 → (rst pf ct dm yf0 dg0 x = (yn, yf, dg)) → (x ≤ 2 ^ ct) → (yn ≤ 12) → lv_has ls 3 [(2, .int (nI x)), (0, .ref d0), (1, .int (nI (2 ^ ct)))] → va_P D kl [(d0, .inr (0, [.int (nI dm), .ref gv, .ref dr, .ref rl, .ref yl, .ref mi, .ref fl, .ref bf, .int rk, .int sp, .int kn])), (rl, .inr (1, [.ref rc, .int (nI ct), .int (nI mo)])), (rc, .inl (cI, pz, .inl pf)), (mi, .inr (2, [.ref ca, .ref nb, .int jj])), (ca, .inl (cJ, 16, .inr (.inl fa))), (nb, .inl (cJ, 16, .inr (.inl fb))), (yl, .inr (1, [.ref ya, .int (nI yn), .int (12 : Int32)])), (ya, .inl (cI, 48, .inl yf)), (dr, .inl (cI, 4, .inl dg))] H → va_D A [(d0, .inr (0, [.int (nI dm), .ref gv, .ref dr, .ref rl, .ref yl, .ref mi, .ref fl, .ref bf, .int rk, .int sp, .int kn])), (rl, .inr (1, [.ref rc, .int (nI ct), .int (nI mo)])), (rc, .inl (cI, pz, .inl pf)), (mi, .inr (2, [.ref ca, .ref nb, .int jj])), (ca, .inl (cJ, 16, .inr (.inl fa))), (nb, .inl (cJ, 16, .inr (.inl fb))), (yl, .inr (1, [.ref ya, .int (nI yn), .int (12 : Int32)])), (ya, .inl (cI, 48, .inl yf)), (dr, .inl (cI, 4, .inl dg))] → va_S A s.heap H locs → W p l e ({ frames := 5, cells := 0, slots := 0, locals := 151 } : Room) s m ([.ref d0] : List Value).toArray below meth c H locs 0 0 Q (F0 m 20 ls []) := by
    intro n9
    induction n9 using Nat.strongRecOn with
    | ind n9 ih_20 =>
      intro x yn yf dg ca nb fa fb jj ls H locs hm_20 hr hx9 hyn hl hP hD hS
      refine lv_iload_n hx hb d_D_findRays_20 rfl (lv_at hl 0 rfl) ?_
      refine lv_iload_n hx hb d_D_findRays_21 rfl (lv_at hl 2 rfl) ?_
      refine lv_icmp_ge (tgt := 75) hx hb d_D_findRays_22 (by decide) (fun h_1 => ?_) (fun h_1 => ?_)
      · have h_1 : (2 ^ ct) ≤ x := (nI_leI (a := 2 ^ ct) (b := x) (by omega) (by omega)).mp h_1
        have hr9 : rst pf ct dm yf0 dg0 (2 ^ ct) = (yn, yf, dg) := by rw [show 2 ^ ct = x by omega]; exact hr
        have e1 : (rst pf ct dm yf0 dg0 (2 ^ ct)).1 = yn := by rw [hr9]
        have e2 : (rst pf ct dm yf0 dg0 (2 ^ ct)).2.1 = yf := by rw [hr9]
        have e3 : (rst pf ct dm yf0 dg0 (2 ^ ct)).2.2 = dg := by rw [hr9]
        clear hr hr9
        subst e1 e2 e3
        rw [← hQe]
        exact tx_mono (fun _ h => tx_Z.of h) (W.vret hx hb hr (fun t ht hW => ⟨⟨[(d0, .inr (0, [.int (nI dm), .ref gv, .ref dr, .ref rl, .ref yl, .ref mi, .ref fl, .ref bf, .int rk, .int sp, .int kn])), (rl, .inr (1, [.ref rc, .int (nI ct), .int (nI mo)])), (rc, .inl (cI, pz, .inl pf)), (mi, .inr (2, [.ref ca, .ref nb, .int jj])), (ca, .inl (cJ, 16, .inr (.inl fa))), (nb, .inl (cJ, 16, .inr (.inl fb))), (yl, .inr (1, [.ref ya, .int (nI ((rst pf ct dm yf0 dg0 (2 ^ ct)).1)), .int (12 : Int32)])), (ya, .inl (cI, 48, .inl ((rst pf ct dm yf0 dg0 (2 ^ ct)).2.1))), (dr, .inl (cI, 4, .inl ((rst pf ct dm yf0 dg0 (2 ^ ct)).2.2)))], ⟨ca, nb, fa, fb, jj, rfl, hyn, rfl⟩, by rw [ht]; exact hP.sub [0, 1, 2, 3, 4, 5, 6, 7, 8] rfl, hD.sub [0, 1, 2, 3, 4, 5, 6, 7, 8] (by decide) rfl⟩, hS.F ht⟩) hS.2.2 d_D_findRays_75)
      · have h_1 : ¬ ((2 ^ ct) ≤ x) := fun z99 => h_1 ((nI_leI (a := 2 ^ ct) (b := x) (by omega) (by omega)).mpr z99)
        have hpc : pcn x ≤ 8 := pcn_le
        refine lv_iload_n hx hb d_D_findRays_25 rfl (lv_at hl 0 rfl) ?_
        refine cx_call (D := D) (cl := kl) (ws := _) (wc := []) (wr := [(d0, .inr (0, [.int (nI dm), .ref gv, .ref dr, .ref rl, .ref yl, .ref mi, .ref fl, .ref bf, .int rk, .int sp, .int kn])), (rl, .inr (1, [.ref rc, .int (nI ct), .int (nI mo)])), (rc, .inl (cI, pz, .inl pf)), (mi, .inr (2, [.ref ca, .ref nb, .int jj])), (ca, .inl (cJ, 16, .inr (.inl fa))), (nb, .inl (cJ, 16, .inr (.inl fb))), (yl, .inr (1, [.ref ya, .int (nI yn), .int (12 : Int32)])), (ya, .inl (cI, 48, .inl yf)), (dr, .inl (cI, 4, .inl dg))]) (tx_runS (As := [.int (nI x)]) (rest := []) hx hb hml hown (c_JI_bitCount E H.size x (by omega)) (cx_C (b0 := b0) G hx0 mw_446 mw_17 ny_JI_bitCount (by decide)) (gw.at G hx0 mw_444 rfl _) (gw.at G hx0 mw_445 rfl _) (gw.at G hx0 mw_17 rfl _) ⟨cx_blind, (cx_pre (s := s) hx0 hP hD hS hA0 [] rfl rfl (by decide))⟩ rfl rfl hl.1 rfl (lv_room (Nat.le_of_ble_eq_true rfl)) d_D_findRays_26 ⟨by decide, by decide⟩) hP hD hS hA [] [0, 1, 2, 3, 4, 5, 6, 7, 8] rfl rfl (by decide) (by decide) (fun v t w1 H locs ht hW9 hp hP hD hS => ?_) (fun x t w1 H locs ht hW9 hp hP hD hS => by obtain ⟨h9, -⟩ := hp; cases h9)
        obtain ⟨h9, rfl⟩ := hp
        cases h9
        refine W.eq (g2 := F0 m 29 ls [.int (nI (pcn x))]) rfl ?_
        refine W.widen (k := 0) (n := 0) (by decide) (by decide) ?_
        have hP : va_P D kl [(d0, .inr (0, [.int (nI dm), .ref gv, .ref dr, .ref rl, .ref yl, .ref mi, .ref fl, .ref bf, .int rk, .int sp, .int kn])), (rl, .inr (1, [.ref rc, .int (nI ct), .int (nI mo)])), (rc, .inl (cI, pz, .inl pf)), (mi, .inr (2, [.ref ca, .ref nb, .int jj])), (ca, .inl (cJ, 16, .inr (.inl fa))), (nb, .inl (cJ, 16, .inr (.inl fb))), (yl, .inr (1, [.ref ya, .int (nI yn), .int (12 : Int32)])), (ya, .inl (cI, 48, .inl yf)), (dr, .inl (cI, 4, .inl dg))] H := hP
        have hD : va_D A [(d0, .inr (0, [.int (nI dm), .ref gv, .ref dr, .ref rl, .ref yl, .ref mi, .ref fl, .ref bf, .int rk, .int sp, .int kn])), (rl, .inr (1, [.ref rc, .int (nI ct), .int (nI mo)])), (rc, .inl (cI, pz, .inl pf)), (mi, .inr (2, [.ref ca, .ref nb, .int jj])), (ca, .inl (cJ, 16, .inr (.inl fa))), (nb, .inl (cJ, 16, .inr (.inl fb))), (yl, .inr (1, [.ref ya, .int (nI yn), .int (12 : Int32)])), (ya, .inl (cI, 48, .inl yf)), (dr, .inl (cI, 4, .inl dg))] := hD
        refine lv_aload_n hx hb d_D_findRays_29 rfl (lv_at hl 1 rfl) ?_
        refine va_get (D := D) (ci := 0) (v := .int (nI dm)) (C := cn_D) (T := ft_D) (N := 11) hx hb hf_D (fun _ h => h) hown hK hP 0 rfl rfl 0 (by decide) (gw.at G hx0 mw_194 rfl _) (fun _ h9 => h9) rfl d_D_findRays_30 ?_
        refine lv_iconst (v := (1 : Int32)) hx hb d_D_findRays_33 (by decide) ?_
        refine lv_isub hx hb d_D_findRays_34 ?_
        refine tp_i (y := nI (dm - 1)) (nI_sub (a := dm) (b := 1) (by omega)) ?_
        refine lv_icmp_ne (tgt := 69) hx hb d_D_findRays_35 (by decide) (fun h_2 => ?_) (fun h_2 => ?_)
        · have h_2 : ¬ ((pcn x) = (dm - 1)) := fun z99 => h_2 ((nI_eq (a := pcn x) (b := dm - 1) (by omega) (by omega)).mpr z99)
          refine lv_iinc (lv' := [(2, .int (nI (x + 1))), (0, .ref d0), (1, .int (nI (2 ^ ct)))]) (k := 0) (v := nI (x + 1)) hx hb d_D_findRays_69 hl rfl (nI_add x 1) (by decide) rfl (fun ls hl => ?_)
          refine lv_goto (tgt := 20) hx hb d_D_findRays_72 (by decide) ?_
          exact ih_20 _ (by omega) (x + 1) yn yf dg ca nb fa fb jj ls H locs rfl (by rw [rst_no (fun z99 => h_2 z99.1)]; exact hr) (by omega) hyn (lv_sub hl [0, 1, 2] rfl) (hP.sub [0, 1, 2, 3, 4, 5, 6, 7, 8] rfl) (hD.sub [0, 1, 2, 3, 4, 5, 6, 7, 8] (by decide) rfl) hS
        · have h_2 : (pcn x) = (dm - 1) := (nI_eq (a := pcn x) (b := dm - 1) (by omega) (by omega)).mp h_2
          refine lv_aload_n hx hb d_D_findRays_38 rfl (lv_at hl 1 rfl) ?_
          refine va_get (D := D) (ci := 0) (v := .ref mi) (C := cn_D) (T := ft_D) (N := 11) hx hb hf_D (fun _ h => h) hown hK hP 0 rfl rfl 5 (by decide) (gw.at G hx0 mw_199 rfl _) (fun _ h9 => h9) rfl d_D_findRays_39 ?_
          refine lv_aload_n hx hb d_D_findRays_42 rfl (lv_at hl 1 rfl) ?_
          refine va_get (D := D) (ci := 0) (v := .ref rl) (C := cn_D) (T := ft_D) (N := 11) hx hb hf_D (fun _ h => h) hown hK hP 0 rfl rfl 3 (by decide) (gw.at G hx0 mw_197 rfl _) (fun _ h9 => h9) rfl d_D_findRays_43 ?_
          refine lv_iload_n hx hb d_D_findRays_46 rfl (lv_at hl 0 rfl) ?_
          refine cx_call (D := D) (cl := kl) (ws := _) (wc := [(mi, .inr (2, [.ref ca, .ref nb, .int jj])), (ca, .inl (cJ, 16, .inr (.inl fa))), (nb, .inl (cJ, 16, .inr (.inl fb))), (rl, .inr (1, [.ref rc, .int (nI ct), .int (nI mo)])), (rc, .inl (cI, pz, .inl pf))]) (wr := [(d0, .inr (0, [.int (nI dm), .ref gv, .ref dr, .ref rl, .ref yl, .ref mi, .ref fl, .ref bf, .int rk, .int sp, .int kn])), (yl, .inr (1, [.ref ya, .int (nI yn), .int (12 : Int32)])), (ya, .inl (cI, 48, .inl yf)), (dr, .inl (cI, 4, .inl dg))]) (tx_runV (C := cn_MI) (b := mi) (As := [.ref rl, .int (nI x)]) (rest := []) hx hb hml hown (c_MI_load E H.size mi ca nb fa fb jj rl rc ct mo pz pf x hpz hmo hct (by omega) (by omega)) (cx_C (b0 := b0) G hx0 mw_369 mw_4 ny_MI_load (by decide)) (gw.at G hx0 mw_366 rfl _) (gw.at G hx0 mw_367 rfl _) (gw.at G hx0 mw_368 rfl _) ⟨cx_blind, va_recv hK hP (q0 := 3) (ci := 2) (q := (cn_MI, ft_MI, 3)) rfl rfl, (cx_pre (s := s) hx0 hP hD hS hA0 [3, 4, 5, 1, 2] rfl rfl (by decide))⟩ rfl rfl hl.1 rfl (lv_room (Nat.le_of_ble_eq_true rfl)) d_D_findRays_47 ⟨by decide, by decide⟩) hP hD hS hA [3, 4, 5, 1, 2] [0, 6, 7, 8] rfl rfl (by decide) (by decide) (fun v t w1 H locs ht hW9 hp hP hD hS => ?_) (fun x t w1 H locs ht hW9 hp hP hD hS => by obtain ⟨_, _, _, _, h9, -⟩ := hp; cases h9)
          obtain ⟨ca_3, nb_4, fa_5, fb_6, h9, f_7, rfl⟩ := hp
          cases h9
          refine W.eq (g2 := F0 m 50 ls [.int (nI ((lst pf x ct).1))]) rfl ?_
          refine W.widen (k := 0) (n := 0) (by decide) (by decide) ?_
          have hP : va_P D kl [(d0, .inr (0, [.int (nI dm), .ref gv, .ref dr, .ref rl, .ref yl, .ref mi, .ref fl, .ref bf, .int rk, .int sp, .int kn])), (yl, .inr (1, [.ref ya, .int (nI yn), .int (12 : Int32)])), (ya, .inl (cI, 48, .inl yf)), (dr, .inl (cI, 4, .inl dg)), (mi, .inr (2, [.ref ca_3, .ref nb_4, .int (nI ((lst pf x ct).1))])), (ca_3, .inl (cJ, 16, .inr (.inl fa_5))), (nb_4, .inl (cJ, 16, .inr (.inl fb_6))), (rl, .inr (1, [.ref rc, .int (nI ct), .int (nI mo)])), (rc, .inl (cI, pz, .inl pf))] H := hP
          have hD : va_D A [(d0, .inr (0, [.int (nI dm), .ref gv, .ref dr, .ref rl, .ref yl, .ref mi, .ref fl, .ref bf, .int rk, .int sp, .int kn])), (yl, .inr (1, [.ref ya, .int (nI yn), .int (12 : Int32)])), (ya, .inl (cI, 48, .inl yf)), (dr, .inl (cI, 4, .inl dg)), (mi, .inr (2, [.ref ca_3, .ref nb_4, .int (nI ((lst pf x ct).1))])), (ca_3, .inl (cJ, 16, .inr (.inl fa_5))), (nb_4, .inl (cJ, 16, .inr (.inl fb_6))), (rl, .inr (1, [.ref rc, .int (nI ct), .int (nI mo)])), (rc, .inl (cI, pz, .inl pf))] := hD
          have hll : (lst pf x ct).1 ≤ 4 := lst_le pf x ct
          refine lv_aload_n hx hb d_D_findRays_50 rfl (lv_at hl 1 rfl) ?_
          refine va_get (D := D) (ci := 0) (v := .int (nI dm)) (C := cn_D) (T := ft_D) (N := 11) hx hb hf_D (fun _ h => h) hown hK hP 0 rfl rfl 0 (by decide) (gw.at G hx0 mw_194 rfl _) (fun _ h9 => h9) rfl d_D_findRays_51 ?_
          refine lv_iconst (v := (1 : Int32)) hx hb d_D_findRays_54 (by decide) ?_
          refine lv_isub hx hb d_D_findRays_55 ?_
          refine tp_i (y := nI (dm - 1)) (nI_sub (a := dm) (b := 1) (by omega)) ?_
          refine lv_icmp_ne (tgt := 69) hx hb d_D_findRays_56 (by decide) (fun h_8 => ?_) (fun h_8 => ?_)
          · have h_8 : ¬ (((lst pf x ct).1) = (dm - 1)) := fun z99 => h_8 ((nI_eq (a := (lst pf x ct).1) (b := dm - 1) (by omega) (by omega)).mpr z99)
            refine lv_iinc (lv' := [(2, .int (nI (x + 1))), (0, .ref d0), (1, .int (nI (2 ^ ct)))]) (k := 0) (v := nI (x + 1)) hx hb d_D_findRays_69 hl rfl (nI_add x 1) (by decide) rfl (fun ls hl => ?_)
            refine lv_goto (tgt := 20) hx hb d_D_findRays_72 (by decide) ?_
            exact ih_20 _ (by omega) (x + 1) yn yf dg ca_3 nb_4 fa_5 fb_6 (nI ((lst pf x ct).1)) ls H locs rfl (by rw [rst_no (fun z99 => h_8 z99.2)]; exact hr) (by omega) hyn (lv_sub hl [0, 1, 2] rfl) (hP.sub [0, 7, 8, 4, 5, 6, 1, 2, 3] rfl) (hD.sub [0, 7, 8, 4, 5, 6, 1, 2, 3] (by decide) rfl) hS
          · have h_8 : ((lst pf x ct).1) = (dm - 1) := (nI_eq (a := (lst pf x ct).1) (b := dm - 1) (by omega) (by omega)).mp h_8
            rw [h_8] at hP hD
            have hP : va_P D kl [(d0, .inr (0, [.int (nI dm), .ref gv, .ref dr, .ref rl, .ref yl, .ref mi, .ref fl, .ref bf, .int rk, .int sp, .int kn])), (yl, .inr (1, [.ref ya, .int (nI yn), .int (12 : Int32)])), (ya, .inl (cI, 48, .inl yf)), (dr, .inl (cI, 4, .inl dg)), (mi, .inr (2, [.ref ca_3, .ref nb_4, .int (nI (dm - 1))])), (ca_3, .inl (cJ, 16, .inr (.inl fa_5))), (nb_4, .inl (cJ, 16, .inr (.inl fb_6))), (rl, .inr (1, [.ref rc, .int (nI ct), .int (nI mo)])), (rc, .inl (cI, pz, .inl pf))] H := hP
            have hD : va_D A [(d0, .inr (0, [.int (nI dm), .ref gv, .ref dr, .ref rl, .ref yl, .ref mi, .ref fl, .ref bf, .int rk, .int sp, .int kn])), (yl, .inr (1, [.ref ya, .int (nI yn), .int (12 : Int32)])), (ya, .inl (cI, 48, .inl yf)), (dr, .inl (cI, 4, .inl dg)), (mi, .inr (2, [.ref ca_3, .ref nb_4, .int (nI (dm - 1))])), (ca_3, .inl (cJ, 16, .inr (.inl fa_5))), (nb_4, .inl (cJ, 16, .inr (.inl fb_6))), (rl, .inr (1, [.ref rc, .int (nI ct), .int (nI mo)])), (rc, .inl (cI, pz, .inl pf))] := hD
            refine lv_aload_n hx hb d_D_findRays_59 rfl (lv_at hl 1 rfl) ?_
            refine lv_iconst (v := (1 : Int32)) hx hb d_D_findRays_60 (by decide) ?_
            refine cx_call (D := D) (cl := kl) (ws := _) (wc := [(d0, .inr (0, [.int (nI dm), .ref gv, .ref dr, .ref rl, .ref yl, .ref mi, .ref fl, .ref bf, .int rk, .int sp, .int kn])), (rl, .inr (1, [.ref rc, .int (nI ct), .int (nI mo)])), (rc, .inl (cI, pz, .inl pf)), (mi, .inr (2, [.ref ca_3, .ref nb_4, .int (nI (dm - 1))])), (ca_3, .inl (cJ, 16, .inr (.inl fa_5))), (yl, .inr (1, [.ref ya, .int (nI yn), .int (12 : Int32)])), (ya, .inl (cI, 48, .inl yf)), (dr, .inl (cI, 4, .inl dg))]) (wr := [(nb_4, .inl (cJ, 16, .inr (.inl fb_6)))]) (tx_runV (C := cn_D) (b := d0) (As := [.int (1 : Int32)]) (rest := []) hx hb hml hown (c_D_tryp E H.size d0 gv dr rl yl mi fl bf dm rk sp kn rc ct mo pz pf ca_3 nb_4 fa_5 ya yn yf dg hpz hmo hct hd2 hd4 hyn) (cx_C (b0 := b0) G hx0 mw_453 mw_1 ny_D_tryRay (by decide)) (gw.at G hx0 mw_450 rfl _) (gw.at G hx0 mw_452 rfl _) (gw.at G hx0 ms_D_tryRay rfl _) ⟨cx_blind, va_recv hK hP (q0 := 0) (ci := 0) (q := (cn_D, ft_D, 11)) rfl rfl, (cx_pre (s := s) hx0 hP hD hS hA0 [0, 7, 8, 4, 5, 1, 2, 3] rfl rfl (by decide))⟩ rfl rfl hl.1 rfl (lv_room (Nat.le_of_ble_eq_true rfl)) d_D_findRays_61 ⟨by decide, by decide⟩) hP hD hS hA [0, 7, 8, 4, 5, 1, 2, 3] [6] rfl rfl (by decide) (by decide) (fun v t w1 H locs ht hW9 hp hP hD hS => ?_) (fun x t w1 H locs ht hW9 hp hP hD hS => by obtain ⟨h9, -⟩ := hp; cases h9)
            obtain ⟨h9, rfl⟩ := hp
            cases h9
            refine W.eq (g2 := F0 m 64 ls []) rfl ?_
            refine W.widen (k := 0) (n := 0) (by decide) (by decide) ?_
            have hP : va_P D kl [(nb_4, .inl (cJ, 16, .inr (.inl fb_6))), (d0, .inr (0, [.int (nI dm), .ref gv, .ref dr, .ref rl, .ref yl, .ref mi, .ref fl, .ref bf, .int rk, .int sp, .int kn])), (rl, .inr (1, [.ref rc, .int (nI ct), .int (nI mo)])), (rc, .inl (cI, pz, .inl pf)), (mi, .inr (2, [.ref ca_3, .ref nb_4, .int (nI (dm - 1))])), (ca_3, .inl (cJ, 16, .inr (.inl fa_5))), (yl, .inr (1, [.ref ya, .int (nI (trN pf ct yn yf (drw_p fa_5 dm dg))), .int (12 : Int32)])), (ya, .inl (cI, 48, .inl (trF pf ct yn yf (drw_p fa_5 dm dg)))), (dr, .inl (cI, 4, .inl (drw_p fa_5 dm dg)))] H := hP
            have hD : va_D A [(nb_4, .inl (cJ, 16, .inr (.inl fb_6))), (d0, .inr (0, [.int (nI dm), .ref gv, .ref dr, .ref rl, .ref yl, .ref mi, .ref fl, .ref bf, .int rk, .int sp, .int kn])), (rl, .inr (1, [.ref rc, .int (nI ct), .int (nI mo)])), (rc, .inl (cI, pz, .inl pf)), (mi, .inr (2, [.ref ca_3, .ref nb_4, .int (nI (dm - 1))])), (ca_3, .inl (cJ, 16, .inr (.inl fa_5))), (yl, .inr (1, [.ref ya, .int (nI (trN pf ct yn yf (drw_p fa_5 dm dg))), .int (12 : Int32)])), (ya, .inl (cI, 48, .inl (trF pf ct yn yf (drw_p fa_5 dm dg)))), (dr, .inl (cI, 4, .inl (drw_p fa_5 dm dg)))] := hD
            refine lv_aload_n hx hb d_D_findRays_64 rfl (lv_at hl 1 rfl) ?_
            refine lv_iconst (v := (-1 : Int32)) hx hb d_D_findRays_65 (by decide) ?_
            refine cx_call (D := D) (cl := kl) (ws := _) (wc := [(d0, .inr (0, [.int (nI dm), .ref gv, .ref dr, .ref rl, .ref yl, .ref mi, .ref fl, .ref bf, .int rk, .int sp, .int kn])), (rl, .inr (1, [.ref rc, .int (nI ct), .int (nI mo)])), (rc, .inl (cI, pz, .inl pf)), (mi, .inr (2, [.ref ca_3, .ref nb_4, .int (nI (dm - 1))])), (ca_3, .inl (cJ, 16, .inr (.inl fa_5))), (yl, .inr (1, [.ref ya, .int (nI (trN pf ct yn yf (drw_p fa_5 dm dg))), .int (12 : Int32)])), (ya, .inl (cI, 48, .inl (trF pf ct yn yf (drw_p fa_5 dm dg)))), (dr, .inl (cI, 4, .inl (drw_p fa_5 dm dg)))]) (wr := [(nb_4, .inl (cJ, 16, .inr (.inl fb_6)))]) (tx_runV (C := cn_D) (b := d0) (As := [.int (-1 : Int32)]) (rest := []) hx hb hml hown (c_D_trym E H.size d0 gv dr rl yl mi fl bf dm rk sp kn rc ct mo pz pf ca_3 nb_4 fa_5 ya (trN pf ct yn yf (drw_p fa_5 dm dg)) (trF pf ct yn yf (drw_p fa_5 dm dg)) (drw_p fa_5 dm dg) hpz hmo hct hd2 hd4 (trN_le hyn)) (cx_C (b0 := b0) G hx0 mw_453 mw_1 ny_D_tryRay (by decide)) (gw.at G hx0 mw_450 rfl _) (gw.at G hx0 mw_452 rfl _) (gw.at G hx0 ms_D_tryRay rfl _) ⟨cx_blind, va_recv hK hP (q0 := 1) (ci := 0) (q := (cn_D, ft_D, 11)) rfl rfl, (cx_pre (s := s) hx0 hP hD hS hA0 [1, 2, 3, 4, 5, 6, 7, 8] rfl rfl (by decide))⟩ rfl rfl hl.1 rfl (lv_room (Nat.le_of_ble_eq_true rfl)) d_D_findRays_66 ⟨by decide, by decide⟩) hP hD hS hA [1, 2, 3, 4, 5, 6, 7, 8] [0] rfl rfl (by decide) (by decide) (fun v t w1 H locs ht hW9 hp hP hD hS => ?_) (fun x t w1 H locs ht hW9 hp hP hD hS => by obtain ⟨h9, -⟩ := hp; cases h9)
            obtain ⟨h9, rfl⟩ := hp
            cases h9
            refine W.eq (g2 := F0 m 69 ls []) rfl ?_
            refine W.widen (k := 0) (n := 0) (by decide) (by decide) ?_
            have hP : va_P D kl [(nb_4, .inl (cJ, 16, .inr (.inl fb_6))), (d0, .inr (0, [.int (nI dm), .ref gv, .ref dr, .ref rl, .ref yl, .ref mi, .ref fl, .ref bf, .int rk, .int sp, .int kn])), (rl, .inr (1, [.ref rc, .int (nI ct), .int (nI mo)])), (rc, .inl (cI, pz, .inl pf)), (mi, .inr (2, [.ref ca_3, .ref nb_4, .int (nI (dm - 1))])), (ca_3, .inl (cJ, 16, .inr (.inl fa_5))), (yl, .inr (1, [.ref ya, .int (nI (trN pf ct (trN pf ct yn yf (drw_p fa_5 dm dg)) (trF pf ct yn yf (drw_p fa_5 dm dg)) (drw_m fa_5 dm (drw_p fa_5 dm dg)))), .int (12 : Int32)])), (ya, .inl (cI, 48, .inl (trF pf ct (trN pf ct yn yf (drw_p fa_5 dm dg)) (trF pf ct yn yf (drw_p fa_5 dm dg)) (drw_m fa_5 dm (drw_p fa_5 dm dg))))), (dr, .inl (cI, 4, .inl (drw_m fa_5 dm (drw_p fa_5 dm dg))))] H := hP
            have hD : va_D A [(nb_4, .inl (cJ, 16, .inr (.inl fb_6))), (d0, .inr (0, [.int (nI dm), .ref gv, .ref dr, .ref rl, .ref yl, .ref mi, .ref fl, .ref bf, .int rk, .int sp, .int kn])), (rl, .inr (1, [.ref rc, .int (nI ct), .int (nI mo)])), (rc, .inl (cI, pz, .inl pf)), (mi, .inr (2, [.ref ca_3, .ref nb_4, .int (nI (dm - 1))])), (ca_3, .inl (cJ, 16, .inr (.inl fa_5))), (yl, .inr (1, [.ref ya, .int (nI (trN pf ct (trN pf ct yn yf (drw_p fa_5 dm dg)) (trF pf ct yn yf (drw_p fa_5 dm dg)) (drw_m fa_5 dm (drw_p fa_5 dm dg)))), .int (12 : Int32)])), (ya, .inl (cI, 48, .inl (trF pf ct (trN pf ct yn yf (drw_p fa_5 dm dg)) (trF pf ct yn yf (drw_p fa_5 dm dg)) (drw_m fa_5 dm (drw_p fa_5 dm dg))))), (dr, .inl (cI, 4, .inl (drw_m fa_5 dm (drw_p fa_5 dm dg))))] := hD
            refine lv_iinc (lv' := [(2, .int (nI (x + 1))), (0, .ref d0), (1, .int (nI (2 ^ ct)))]) (k := 0) (v := nI (x + 1)) hx hb d_D_findRays_69 hl rfl (nI_add x 1) (by decide) rfl (fun ls hl => ?_)
            refine lv_goto (tgt := 20) hx hb d_D_findRays_72 (by decide) ?_
            exact ih_20 _ (by omega) (x + 1) (trN pf ct (trN pf ct yn yf (drw_p fa_5 dm dg)) (trF pf ct yn yf (drw_p fa_5 dm dg)) (drw_m fa_5 dm (drw_p fa_5 dm dg))) (trF pf ct (trN pf ct yn yf (drw_p fa_5 dm dg)) (trF pf ct yn yf (drw_p fa_5 dm dg)) (drw_m fa_5 dm (drw_p fa_5 dm dg))) (drw_m fa_5 dm (drw_p fa_5 dm dg)) ca_3 nb_4 fa_5 fb_6 (nI (dm - 1)) ls H locs rfl (rst_yes hr h_2 h_8 f_7 hd2 hd4) (by omega) (trN_le (trN_le hyn)) (lv_sub hl [0, 1, 2] rfl) (hP.sub [1, 2, 3, 4, 5, 0, 6, 7, 8] rfl) (hD.sub [1, 2, 3, 4, 5, 0, 6, 7, 8] (by decide) rfl) hS
  exact lp_20 _ 0 0 yf0 dg0 cu nx cf nf jz ls H locs rfl rfl (Nat.zero_le _) (Nat.zero_le _) (lv_sub hl [0, 2, 1] rfl) (hP.sub [0, 1, 2, 3, 4, 5, 6, 7, 8] rfl) (hD.sub [0, 1, 2, 3, 4, 5, 6, 7, 8] (by decide) rfl) hS

