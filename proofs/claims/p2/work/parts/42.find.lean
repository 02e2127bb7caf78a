/-! ===== own rows, laid by wip/tools/sym.py: BasisFinder.find ===== -/
/-- the first q rays, put into the list of points -/
noncomputable def fri (yf : Nat → Int32) : Nat → Nat × (Nat → Int32) × (Nat → Int32) → Nat × (Nat → Int32) × (Nat → Int32)
  | 0, p => p
  | q + 1, p => (insN 107 (fri yf q p).1 (fri yf q p).2.1 (va_cpy yf (fri yf q p).2.2 (q * 4) 0 4), insF 107 (fri yf q p).1 (fri yf q p).2.1 (va_cpy yf (fri yf q p).2.2 (q * 4) 0 4), va_cpy yf (fri yf q p).2.2 (q * 4) 0 4)
theorem fri_s {yf : Nat → Int32} {q n : Nat} {f g : Nat → Int32} {p : Nat × (Nat → Int32) × (Nat → Int32)} (h : fri yf q p = (n, f, g)) : fri yf (q + 1) p = (insN 107 n f (va_cpy yf g (q * 4) 0 4), insF 107 n f (va_cpy yf g (q * 4) 0 4), va_cpy yf g (q * 4) 0 4) := by
  show (insN 107 (fri yf q p).1 (fri yf q p).2.1 (va_cpy yf (fri yf q p).2.2 (q * 4) 0 4), insF 107 (fri yf q p).1 (fri yf q p).2.1 (va_cpy yf (fri yf q p).2.2 (q * 4) 0 4), va_cpy yf (fri yf q p).2.2 (q * 4) 0 4) = _
  rw [h]
/-- INDEX of a simplex -/
noncomputable def ixv (yf : Nat → Int32) (yn ch : Nat) : Int32 := (cdl (lst yf ch yn).2 (lev (lst yf ch yn).1)).toInt32
noncomputable def mxv (ix : Int32) (yf : Nat → Int32) (yn ch : Nat) (ek : Nat → Nat) (sf xf : Nat → Int32) : Nat × (Nat → Int32) := fmo ix (mbr ch yn (0, ek)).1 (stp ix yf yn ch (mbr ch yn (0, ek)).2 (mbr ch yn (0, ek)).1 (z16 sf)) 12 (1, upd xf 0 (0 : Int32))
/-- what InnerPoints keeps between simplices -/
abbrev ipS : Type := (Nat → Nat) × (Nat → Int32) × (Nat → Int32) × (Nat → Int32)
noncomputable def ats (yf : Nat → Int32) (yn ch : Nat) (p : (Nat × (Nat → Int32)) × ipS) : (Nat × (Nat → Int32)) × ipS :=
  @ite _ (1 < ixv yf yn ch ∧ ixv yf yn ch ≤ 12) (Classical.propDecidable _)
    (((ado (ixv yf yn ch) (mbr ch yn (0, p.2.1)).1 (mbr ch yn (0, p.2.1)).2 yf (mxv (ixv yf yn ch) yf yn ch p.2.1 p.2.2.1 p.2.2.2.1).2 ((mxv (ixv yf yn ch) yf yn ch p.2.1 p.2.2.1 p.2.2.2.1).1 - 1) (p.1.1, p.1.2, p.2.2.2.2)).1, (ado (ixv yf yn ch) (mbr ch yn (0, p.2.1)).1 (mbr ch yn (0, p.2.1)).2 yf (mxv (ixv yf yn ch) yf yn ch p.2.1 p.2.2.1 p.2.2.2.1).2 ((mxv (ixv yf yn ch) yf yn ch p.2.1 p.2.2.1 p.2.2.2.1).1 - 1) (p.1.1, p.1.2, p.2.2.2.2)).2.1),
      (mbr ch yn (0, p.2.1)).2, stp (ixv yf yn ch) yf yn ch (mbr ch yn (0, p.2.1)).2 (mbr ch yn (0, p.2.1)).1 (z16 p.2.2.1), (mxv (ixv yf yn ch) yf yn ch p.2.1 p.2.2.1 p.2.2.2.1).2, (ado (ixv yf yn ch) (mbr ch yn (0, p.2.1)).1 (mbr ch yn (0, p.2.1)).2 yf (mxv (ixv yf yn ch) yf yn ch p.2.1 p.2.2.1 p.2.2.2.1).2 ((mxv (ixv yf yn ch) yf yn ch p.2.1 p.2.2.1 p.2.2.2.1).1 - 1) (p.1.1, p.1.2, p.2.2.2.2)).2.2)
    p
noncomputable def ato (yf : Nat → Int32) (yn : Nat) (sk : Nat → Nat) : Nat → (Nat × (Nat → Int32)) × ipS → (Nat × (Nat → Int32)) × ipS
  | 0, p => p
  | q + 1, p => ats yf yn (sk q) (ato yf yn sk q p)
theorem ato_s {yf : Nat → Int32} {yn q : Nat} {sk : Nat → Nat} {p r : (Nat × (Nat → Int32)) × ipS} (h : ato yf yn sk q p = r) : ato yf yn sk (q + 1) p = ats yf yn (sk q) r := by
  show ats yf yn (sk q) (ato yf yn sk q p) = _
  rw [h]
theorem ats_n {yf : Nat → Int32} {yn ch : Nat} {p : (Nat × (Nat → Int32)) × ipS} (h : ¬ (1 < ixv yf yn ch ∧ ixv yf yn ch ≤ 12)) : ats yf yn ch p = p := @if_neg _ (Classical.propDecidable _) h _ _ _
set_option maxHeartbeats 4000000 in
set_option maxRecDepth 100000 in
theorem c_BF_find_b {l : Launch} {s0 : State} {b0 : Addr} {D : va_G} {cI cJ cZ : ClassId} {tC tS : Nat} (E : gE l s0 b0 D cI cJ cZ tC tS) (sz : Nat) (bf : Nat) (fo : Nat) (bm : Nat) (bs : Nat) (ip : Nat) (bc : Nat) (bh : Nat) (br : Nat) (lg : Int32) (r0 : Int32) (fq : Nat) (o0 : Int32) (pl : Nat) (pa : Nat) (ct : Nat) (mo : Nat) (pz : Nat) (pf : Nat → Int32) (yl : Nat) (ya : Nat) (yn : Nat) (fl : Nat) (sp : Nat) (hpz : pz = mo * 4) (hmo : mo ≤ 107) (hct : ct ≤ mo) (hyn : yn ≤ 12) (h : 8 < yn) : cx_M l s0 D kl y_BF_find b_BF_find 6 none ({ frames := 1, cells := 0, slots := 0, locals := 24 } : Room) 0 0 [.ref bf, .ref pl, .ref yl, .ref fl, .int (nI sp)] [(bf, .inr (6, [.ref fo, .int lg, .ref bm, .ref bs, .ref ip, .ref bc, .ref bh, .ref br, .int r0])), (fo, .inr (1, [.ref fq, .int o0, .int (107 : Int32)])), (pl, .inr (1, [.ref pa, .int (nI ct), .int (nI mo)])), (yl, .inr (1, [.ref ya, .int (nI yn), .int (12 : Int32)]))] sz (fun o9 _ w9 => o9 = .returned none ∧ w9 = [(bf, .inr (6, [.ref fo, .int (1 : Int32), .ref bm, .ref bs, .ref ip, .ref bc, .ref bh, .ref br, .int (nI ct)])), (fo, .inr (1, [.ref fq, .int (0 : Int32), .int (107 : Int32)])), (pl, .inr (1, [.ref pa, .int (nI ct), .int (nI mo)])), (yl, .inr (1, [.ref ya, .int (nI yn), .int (12 : Int32)]))]) := by
  refine tx_ofW (cc := b_BF_find) (maxL := 6) (ret := none) (by decide) rfl ?_
  intro p e s m args below meth c s₁ B hml hT hv
  obtain ⟨rfl, hsz, hP, hD0, hx0⟩ := hv
  have hx := B.exec
  have hb := B.bytes
  have hr := B.returns
  have G := E.2.1
  have hown : s.vm.findClass cn_BF = some m.cls := findClass_of_methodNamed B.named
  have hlocks := B.notSynchronized
  have hK := va_K.moved hx0.1.alike E.2.2.1
  have hf_BF : ∀ w99 ∈ u_ws cn_BF ft_BF 9, w99.before ([.ref bf, .ref pl, .ref yl, .ref fl, .int (nI sp)] : List Value).toArray s = true := fun w99 h99 => gw.at G hx0 (fw_BF w99 h99) (fo_BF w99 h99) _
  have hf_PL : ∀ w99 ∈ u_ws cn_PL ft_PL 3, w99.before ([.ref bf, .ref pl, .ref yl, .ref fl, .int (nI sp)] : List Value).toArray s = true := fun w99 h99 => gw.at G hx0 (fw_PL w99 h99) (fo_PL w99 h99) _
  subst hsz
  have hA0 := cx_new hD0 hx0.2.1
  have hD := hD0.self (sz := s.heap.size)
  generalize hAe : va_A [(bf, .inr (6, [.ref fo, .int lg, .ref bm, .ref bs, .ref ip, .ref bc, .ref bh, .ref br, .int r0])), (fo, .inr (1, [.ref fq, .int o0, .int (107 : Int32)])), (pl, .inr (1, [.ref pa, .int (nI ct), .int (nI mo)])), (yl, .inr (1, [.ref ya, .int (nI yn), .int (12 : Int32)]))] s.heap.size = A at hD hA0 ⊢
  have hA : ∀ q : Nat, s.heap.size ≤ q → A q := fun q h => by rw [← hAe]; exact Or.inr h
  have hS : va_S A s.heap s.heap [] := va_S.rf
  have hl := lv_entry ([.ref bf, .ref pl, .ref yl, .ref fl, .int (nI sp)]) (n := 6) (Nat.le_of_ble_eq_true rfl)
  rw [lg_entry_eq]
  generalize (lg_sl ([.ref bf, .ref pl, .ref yl, .ref fl, .int (nI sp)]) ++ List.replicate (6 - (lg_sl ([.ref bf, .ref pl, .ref yl, .ref fl, .int (nI sp)])).length) Slot.unset).toArray = ls at hl ⊢
  have hl : lv_has ls 6 [(0, .ref bf), (1, .ref pl), (2, .ref yl), (3, .ref fl), (4, .int (nI sp))] := hl
  have hP : va_P D kl [(bf, .inr (6, [.ref fo, .int lg, .ref bm, .ref bs, .ref ip, .ref bc, .ref bh, .ref br, .int r0])), (fo, .inr (1, [.ref fq, .int o0, .int (107 : Int32)])), (pl, .inr (1, [.ref pa, .int (nI ct), .int (nI mo)])), (yl, .inr (1, [.ref ya, .int (nI yn), .int (12 : Int32)]))] s.heap := hP
  have hml : c.maxLocals = 6 := hml
  refine lv_aload_n hx hb d_BF_find_0 rfl (lv_at hl 0 rfl) ?_
  refine lv_aload_n hx hb d_BF_find_1 rfl (lv_at hl 1 rfl) ?_
  refine va_get (D := D) (ci := 1) (v := .int (nI ct)) (C := cn_PL) (T := ft_PL) (N := 3) hx hb hf_PL (fun _ h => h) hown hK hP 2 rfl rfl 1 (by decide) (gw.at G hx0 mw_41 rfl _) (fun _ h9 => h9) rfl d_BF_find_2 ?_
  refine va_put (D := D) (ci := 6) (v := .int (nI ct)) (ty := .int) (C := cn_BF) (T := ft_BF) (N := 9) hx hb hf_BF (fun _ h => h) fy_BF fk_BF fn_BF hown hK hP hD hS 0 rfl rfl 8 (by decide) (gw.at G hx0 mw_174 rfl _) (fun _ h9 => h9) rfl (by decide +kernel) rfl rfl (Nat.le_of_ble_eq_true rfl) d_BF_find_5 (fun H locs hP hD hS => ?_)
  have hP : va_P D kl [(bf, .inr (6, [.ref fo, .int lg, .ref bm, .ref bs, .ref ip, .ref bc, .ref bh, .ref br, .int (nI ct)])), (fo, .inr (1, [.ref fq, .int o0, .int (107 : Int32)])), (pl, .inr (1, [.ref pa, .int (nI ct), .int (nI mo)])), (yl, .inr (1, [.ref ya, .int (nI yn), .int (12 : Int32)]))] H := hP
  have hD : va_D A [(bf, .inr (6, [.ref fo, .int lg, .ref bm, .ref bs, .ref ip, .ref bc, .ref bh, .ref br, .int (nI ct)])), (fo, .inr (1, [.ref fq, .int o0, .int (107 : Int32)])), (pl, .inr (1, [.ref pa, .int (nI ct), .int (nI mo)])), (yl, .inr (1, [.ref ya, .int (nI yn), .int (12 : Int32)]))] := hD
  refine lv_aload_n hx hb d_BF_find_8 rfl (lv_at hl 0 rfl) ?_
  refine va_get (D := D) (ci := 6) (v := .ref fo) (C := cn_BF) (T := ft_BF) (N := 9) hx hb hf_BF (fun _ h => h) hown hK hP 0 rfl rfl 0 (by decide) (gw.at G hx0 mw_164 rfl _) (fun _ h9 => h9) rfl d_BF_find_9 ?_
  refine lv_iconst (v := (0 : Int32)) hx hb d_BF_find_12 (by decide) ?_
  refine va_put (D := D) (ci := 1) (v := .int (0 : Int32)) (ty := .int) (C := cn_PL) (T := ft_PL) (N := 3) hx hb hf_PL (fun _ h => h) fy_PL fk_PL fn_PL hown hK hP hD hS 1 rfl rfl 1 (by decide) (gw.at G hx0 mw_41 rfl _) (fun _ h9 => h9) rfl (by decide +kernel) rfl rfl (Nat.le_of_ble_eq_true rfl) d_BF_find_13 (fun H locs hP hD hS => ?_)
  have hP : va_P D kl [(bf, .inr (6, [.ref fo, .int lg, .ref bm, .ref bs, .ref ip, .ref bc, .ref bh, .ref br, .int (nI ct)])), (fo, .inr (1, [.ref fq, .int (0 : Int32), .int (107 : Int32)])), (pl, .inr (1, [.ref pa, .int (nI ct), .int (nI mo)])), (yl, .inr (1, [.ref ya, .int (nI yn), .int (12 : Int32)]))] H := hP
  have hD : va_D A [(bf, .inr (6, [.ref fo, .int lg, .ref bm, .ref bs, .ref ip, .ref bc, .ref bh, .ref br, .int (nI ct)])), (fo, .inr (1, [.ref fq, .int (0 : Int32), .int (107 : Int32)])), (pl, .inr (1, [.ref pa, .int (nI ct), .int (nI mo)])), (yl, .inr (1, [.ref ya, .int (nI yn), .int (12 : Int32)]))] := hD
  refine lv_aload_n hx hb d_BF_find_16 rfl (lv_at hl 0 rfl) ?_
  refine lv_aload_n hx hb d_BF_find_17 rfl (lv_at hl 0 rfl) ?_
  refine lv_aload_n hx hb d_BF_find_18 rfl (lv_at hl 2 rfl) ?_
  refine lv_iload hx hb d_BF_find_19 (lv_at hl 4 rfl) ?_
  refine cx_call (D := D) (cl := kl) (ws := _) (wc := [(bf, .inr (6, [.ref fo, .int lg, .ref bm, .ref bs, .ref ip, .ref bc, .ref bh, .ref br, .int (nI ct)])), (yl, .inr (1, [.ref ya, .int (nI yn), .int (12 : Int32)]))]) (wr := [(fo, .inr (1, [.ref fq, .int (0 : Int32), .int (107 : Int32)])), (pl, .inr (1, [.ref pa, .int (nI ct), .int (nI mo)]))]) (tx_runV (C := cn_BF) (b := bf) (As := [.ref yl, .int (nI sp)]) (rest := [.ref bf]) hx hb hml hown (c_BF_large_b E H.size bf fo bm bs ip bc bh br lg (nI ct) yl ya yn sp hyn h) (cx_C (b0 := b0) G hx0 mw_520 mw_6 ny_BF_isLarge (by decide)) (gw.at G hx0 mw_517 rfl _) (gw.at G hx0 mw_519 rfl _) (gw.at G hx0 ms_BF_isLarge rfl _) ⟨cx_blind, va_recv hK hP (q0 := 0) (ci := 6) (q := (cn_BF, ft_BF, 9)) rfl rfl, (cx_pre (s := s) hx0 hP hD hS hA0 [0, 3] rfl rfl (by decide))⟩ rfl rfl hl.1 rfl (lv_room (Nat.le_of_ble_eq_true rfl)) d_BF_find_21 ⟨by decide, by decide⟩) hP hD hS hA [0, 3] [1, 2] rfl rfl (by decide) (by decide) (fun v t w1 H locs ht hW9 hp hP hD hS => ?_) (fun x t w1 H locs ht hW9 hp hP hD hS => by obtain ⟨h9, -⟩ := hp; cases h9)
  obtain ⟨h9, rfl⟩ := hp
  cases h9
  refine W.eq (g2 := F0 m 24 ls [.int (1 : Int32), .ref bf]) rfl ?_
  refine W.widen (k := 0) (n := 0) (by decide) (by decide) ?_
  have hP : va_P D kl [(fo, .inr (1, [.ref fq, .int (0 : Int32), .int (107 : Int32)])), (pl, .inr (1, [.ref pa, .int (nI ct), .int (nI mo)])), (bf, .inr (6, [.ref fo, .int lg, .ref bm, .ref bs, .ref ip, .ref bc, .ref bh, .ref br, .int (nI ct)])), (yl, .inr (1, [.ref ya, .int (nI yn), .int (12 : Int32)]))] H := hP
  have hD : va_D A [(fo, .inr (1, [.ref fq, .int (0 : Int32), .int (107 : Int32)])), (pl, .inr (1, [.ref pa, .int (nI ct), .int (nI mo)])), (bf, .inr (6, [.ref fo, .int lg, .ref bm, .ref bs, .ref ip, .ref bc, .ref bh, .ref br, .int (nI ct)])), (yl, .inr (1, [.ref ya, .int (nI yn), .int (12 : Int32)]))] := hD
  refine va_put (D := D) (ci := 6) (v := .int (1 : Int32)) (ty := .boolean) (C := cn_BF) (T := ft_BF) (N := 9) hx hb hf_BF (fun _ h => h) fy_BF fk_BF fn_BF hown hK hP hD hS 2 rfl rfl 1 (by decide) (gw.at G hx0 mw_166 rfl _) (fun _ h9 => h9) rfl (by decide +kernel) rfl rfl (Nat.le_of_ble_eq_true rfl) d_BF_find_24 (fun H locs hP hD hS => ?_)
  have hP : va_P D kl [(fo, .inr (1, [.ref fq, .int (0 : Int32), .int (107 : Int32)])), (pl, .inr (1, [.ref pa, .int (nI ct), .int (nI mo)])), (bf, .inr (6, [.ref fo, .int (1 : Int32), .ref bm, .ref bs, .ref ip, .ref bc, .ref bh, .ref br, .int (nI ct)])), (yl, .inr (1, [.ref ya, .int (nI yn), .int (12 : Int32)]))] H := hP
  have hD : va_D A [(fo, .inr (1, [.ref fq, .int (0 : Int32), .int (107 : Int32)])), (pl, .inr (1, [.ref pa, .int (nI ct), .int (nI mo)])), (bf, .inr (6, [.ref fo, .int (1 : Int32), .ref bm, .ref bs, .ref ip, .ref bc, .ref bh, .ref br, .int (nI ct)])), (yl, .inr (1, [.ref ya, .int (nI yn), .int (12 : Int32)]))] := hD
  refine lv_aload_n hx hb d_BF_find_27 rfl (lv_at hl 0 rfl) ?_
  refine va_get (D := D) (ci := 6) (v := .int (1 : Int32)) (C := cn_BF) (T := ft_BF) (N := 9) hx hb hf_BF (fun _ h => h) hown hK hP 2 rfl rfl 1 (by decide) (gw.at G hx0 mw_166 rfl _) (fun _ h9 => h9) rfl d_BF_find_28 ?_
  refine lv_if_eq (tgt := 35) hx hb d_BF_find_31 (by decide) (fun h99 => absurd h99 (by decide)) (fun _ => ?_)
  exact tx_mono (fun _ h => tx_Z.of h) (W.vret hx hb hr (fun t ht hW => ⟨⟨[(bf, .inr (6, [.ref fo, .int (1 : Int32), .ref bm, .ref bs, .ref ip, .ref bc, .ref bh, .ref br, .int (nI ct)])), (fo, .inr (1, [.ref fq, .int (0 : Int32), .int (107 : Int32)])), (pl, .inr (1, [.ref pa, .int (nI ct), .int (nI mo)])), (yl, .inr (1, [.ref ya, .int (nI yn), .int (12 : Int32)]))], ⟨rfl, rfl⟩, by rw [ht]; exact hP.sub [2, 0, 1, 3] rfl, hD.sub [2, 0, 1, 3] (by decide) rfl⟩, hS.F ht⟩) hS.2.2 d_BF_find_34)

set_option maxHeartbeats 4000000 in
set_option maxRecDepth 100000 in
theorem c_BF_find_l {l : Launch} {s0 : State} {b0 : Addr} {D : va_G} {cI cJ cZ : ClassId} {tC tS : Nat} (E : gE l s0 b0 D cI cJ cZ tC tS) (sz : Nat) (bf : Nat) (fo : Nat) (bm : Nat) (bs : Nat) (ip : Nat) (bc : Nat) (bh : Nat) (br : Nat) (lg : Int32) (r0 : Int32) (fq : Nat) (o0 : Int32) (pl : Nat) (pa : Nat) (ct : Nat) (mo : Nat) (pz : Nat) (pf : Nat → Int32) (cu : Nat) (nx : Nat) (cf : Nat → Int64) (nf9 : Nat → Int64) (jz : Int32) (yl : Nat) (ya : Nat) (yn : Nat) (yf : Nat → Int32) (fl : Nat) (sp : Nat) (hpz : pz = mo * 4) (hmo : mo ≤ 107) (hct : ct ≤ mo) (hyn : yn ≤ 8) (hsp : sp ≤ 4) (h : lrg yf yn sp) : cx_M l s0 D kl y_BF_find b_BF_find 6 none ({ frames := 3, cells := 0, slots := 0, locals := 78 } : Room) 0 0 [.ref bf, .ref pl, .ref yl, .ref fl, .int (nI sp)] [(bf, .inr (6, [.ref fo, .int lg, .ref bm, .ref bs, .ref ip, .ref bc, .ref bh, .ref br, .int r0])), (fo, .inr (1, [.ref fq, .int o0, .int (107 : Int32)])), (pl, .inr (1, [.ref pa, .int (nI ct), .int (nI mo)])), (yl, .inr (1, [.ref ya, .int (nI yn), .int (12 : Int32)])), (ya, .inl (cI, 48, .inl yf)), (bm, .inr (2, [.ref cu, .ref nx, .int jz])), (cu, .inl (cJ, 16, .inr (.inl cf))), (nx, .inl (cJ, 16, .inr (.inl nf9)))] sz (fun o9 _ w9 => ∃ (ca : Nat) (nb : Nat) (fa : Nat → Int64) (fb : Nat → Int64) (jj : Int32), o9 = .returned none ∧ w9 = [(bf, .inr (6, [.ref fo, .int (1 : Int32), .ref bm, .ref bs, .ref ip, .ref bc, .ref bh, .ref br, .int (nI ct)])), (fo, .inr (1, [.ref fq, .int (0 : Int32), .int (107 : Int32)])), (pl, .inr (1, [.ref pa, .int (nI ct), .int (nI mo)])), (yl, .inr (1, [.ref ya, .int (nI yn), .int (12 : Int32)])), (ya, .inl (cI, 48, .inl yf)), (bm, .inr (2, [.ref ca, .ref nb, .int jj])), (ca, .inl (cJ, 16, .inr (.inl fa))), (nb, .inl (cJ, 16, .inr (.inl fb)))]) := by
  refine tx_ofW (cc := b_BF_find) (maxL := 6) (ret := none) (by decide) rfl ?_
  intro p e s m args below meth c s₁ B hml hT hv
  obtain ⟨rfl, hsz, hP, hD0, hx0⟩ := hv
  have hx := B.exec
  have hb := B.bytes
  have hr := B.returns
  have G := E.2.1
  have hown : s.vm.findClass cn_BF = some m.cls := findClass_of_methodNamed B.named
  have hlocks := B.notSynchronized
  have hK := va_K.moved hx0.1.alike E.2.2.1
  have hf_BF : ∀ w99 ∈ u_ws cn_BF ft_BF 9, w99.before ([.ref bf, .ref pl, .ref yl, .ref fl, .int (nI sp)] : List Value).toArray s = true := fun w99 h99 => gw.at G hx0 (fw_BF w99 h99) (fo_BF w99 h99) _
  have hf_PL : ∀ w99 ∈ u_ws cn_PL ft_PL 3, w99.before ([.ref bf, .ref pl, .ref yl, .ref fl, .int (nI sp)] : List Value).toArray s = true := fun w99 h99 => gw.at G hx0 (fw_PL w99 h99) (fo_PL w99 h99) _
  subst hsz
  have hA0 := cx_new hD0 hx0.2.1
  have hD := hD0.self (sz := s.heap.size)
  generalize hAe : va_A [(bf, .inr (6, [.ref fo, .int lg, .ref bm, .ref bs, .ref ip, .ref bc, .ref bh, .ref br, .int r0])), (fo, .inr (1, [.ref fq, .int o0, .int (107 : Int32)])), (pl, .inr (1, [.ref pa, .int (nI ct), .int (nI mo)])), (yl, .inr (1, [.ref ya, .int (nI yn), .int (12 : Int32)])), (ya, .inl (cI, 48, .inl yf)), (bm, .inr (2, [.ref cu, .ref nx, .int jz])), (cu, .inl (cJ, 16, .inr (.inl cf))), (nx, .inl (cJ, 16, .inr (.inl nf9)))] s.heap.size = A at hD hA0 ⊢
  have hA : ∀ q : Nat, s.heap.size ≤ q → A q := fun q h => by rw [← hAe]; exact Or.inr h
  have hS : va_S A s.heap s.heap [] := va_S.rf
  have hl := lv_entry ([.ref bf, .ref pl, .ref yl, .ref fl, .int (nI sp)]) (n := 6) (Nat.le_of_ble_eq_true rfl)
  rw [lg_entry_eq]
  generalize (lg_sl ([.ref bf, .ref pl, .ref yl, .ref fl, .int (nI sp)]) ++ List.replicate (6 - (lg_sl ([.ref bf, .ref pl, .ref yl, .ref fl, .int (nI sp)])).length) Slot.unset).toArray = ls at hl ⊢
  have hl : lv_has ls 6 [(0, .ref bf), (1, .ref pl), (2, .ref yl), (3, .ref fl), (4, .int (nI sp))] := hl
  have hP : va_P D kl [(bf, .inr (6, [.ref fo, .int lg, .ref bm, .ref bs, .ref ip, .ref bc, .ref bh, .ref br, .int r0])), (fo, .inr (1, [.ref fq, .int o0, .int (107 : Int32)])), (pl, .inr (1, [.ref pa, .int (nI ct), .int (nI mo)])), (yl, .inr (1, [.ref ya, .int (nI yn), .int (12 : Int32)])), (ya, .inl (cI, 48, .inl yf)), (bm, .inr (2, [.ref cu, .ref nx, .int jz])), (cu, .inl (cJ, 16, .inr (.inl cf))), (nx, .inl (cJ, 16, .inr (.inl nf9)))] s.heap := hP
  have hml : c.maxLocals = 6 := hml
  refine lv_aload_n hx hb d_BF_find_0 rfl (lv_at hl 0 rfl) ?_
  refine lv_aload_n hx hb d_BF_find_1 rfl (lv_at hl 1 rfl) ?_
  refine va_get (D := D) (ci := 1) (v := .int (nI ct)) (C := cn_PL) (T := ft_PL) (N := 3) hx hb hf_PL (fun _ h => h) hown hK hP 2 rfl rfl 1 (by decide) (gw.at G hx0 mw_41 rfl _) (fun _ h9 => h9) rfl d_BF_find_2 ?_
  refine va_put (D := D) (ci := 6) (v := .int (nI ct)) (ty := .int) (C := cn_BF) (T := ft_BF) (N := 9) hx hb hf_BF (fun _ h => h) fy_BF fk_BF fn_BF hown hK hP hD hS 0 rfl rfl 8 (by decide) (gw.at G hx0 mw_174 rfl _) (fun _ h9 => h9) rfl (by decide +kernel) rfl rfl (Nat.le_of_ble_eq_true rfl) d_BF_find_5 (fun H locs hP hD hS => ?_)
  have hP : va_P D kl [(bf, .inr (6, [.ref fo, .int lg, .ref bm, .ref bs, .ref ip, .ref bc, .ref bh, .ref br, .int (nI ct)])), (fo, .inr (1, [.ref fq, .int o0, .int (107 : Int32)])), (pl, .inr (1, [.ref pa, .int (nI ct), .int (nI mo)])), (yl, .inr (1, [.ref ya, .int (nI yn), .int (12 : Int32)])), (ya, .inl (cI, 48, .inl yf)), (bm, .inr (2, [.ref cu, .ref nx, .int jz])), (cu, .inl (cJ, 16, .inr (.inl cf))), (nx, .inl (cJ, 16, .inr (.inl nf9)))] H := hP
  have hD : va_D A [(bf, .inr (6, [.ref fo, .int lg, .ref bm, .ref bs, .ref ip, .ref bc, .ref bh, .ref br, .int (nI ct)])), (fo, .inr (1, [.ref fq, .int o0, .int (107 : Int32)])), (pl, .inr (1, [.ref pa, .int (nI ct), .int (nI mo)])), (yl, .inr (1, [.ref ya, .int (nI yn), .int (12 : Int32)])), (ya, .inl (cI, 48, .inl yf)), (bm, .inr (2, [.ref cu, .ref nx, .int jz])), (cu, .inl (cJ, 16, .inr (.inl cf))), (nx, .inl (cJ, 16, .inr (.inl nf9)))] := hD
  refine lv_aload_n hx hb d_BF_find_8 rfl (lv_at hl 0 rfl) ?_
  refine va_get (D := D) (ci := 6) (v := .ref fo) (C := cn_BF) (T := ft_BF) (N := 9) hx hb hf_BF (fun _ h => h) hown hK hP 0 rfl rfl 0 (by decide) (gw.at G hx0 mw_164 rfl _) (fun _ h9 => h9) rfl d_BF_find_9 ?_
  refine lv_iconst (v := (0 : Int32)) hx hb d_BF_find_12 (by decide) ?_
  refine va_put (D := D) (ci := 1) (v := .int (0 : Int32)) (ty := .int) (C := cn_PL) (T := ft_PL) (N := 3) hx hb hf_PL (fun _ h => h) fy_PL fk_PL fn_PL hown hK hP hD hS 1 rfl rfl 1 (by decide) (gw.at G hx0 mw_41 rfl _) (fun _ h9 => h9) rfl (by decide +kernel) rfl rfl (Nat.le_of_ble_eq_true rfl) d_BF_find_13 (fun H locs hP hD hS => ?_)
  have hP : va_P D kl [(bf, .inr (6, [.ref fo, .int lg, .ref bm, .ref bs, .ref ip, .ref bc, .ref bh, .ref br, .int (nI ct)])), (fo, .inr (1, [.ref fq, .int (0 : Int32), .int (107 : Int32)])), (pl, .inr (1, [.ref pa, .int (nI ct), .int (nI mo)])), (yl, .inr (1, [.ref ya, .int (nI yn), .int (12 : Int32)])), (ya, .inl (cI, 48, .inl yf)), (bm, .inr (2, [.ref cu, .ref nx, .int jz])), (cu, .inl (cJ, 16, .inr (.inl cf))), (nx, .inl (cJ, 16, .inr (.inl nf9)))] H := hP
  have hD : va_D A [(bf, .inr (6, [.ref fo, .int lg, .ref bm, .ref bs, .ref ip, .ref bc, .ref bh, .ref br, .int (nI ct)])), (fo, .inr (1, [.ref fq, .int (0 : Int32), .int (107 : Int32)])), (pl, .inr (1, [.ref pa, .int (nI ct), .int (nI mo)])), (yl, .inr (1, [.ref ya, .int (nI yn), .int (12 : Int32)])), (ya, .inl (cI, 48, .inl yf)), (bm, .inr (2, [.ref cu, .ref nx, .int jz])), (cu, .inl (cJ, 16, .inr (.inl cf))), (nx, .inl (cJ, 16, .inr (.inl nf9)))] := hD
  refine lv_aload_n hx hb d_BF_find_16 rfl (lv_at hl 0 rfl) ?_
  refine lv_aload_n hx hb d_BF_find_17 rfl (lv_at hl 0 rfl) ?_
  refine lv_aload_n hx hb d_BF_find_18 rfl (lv_at hl 2 rfl) ?_
  refine lv_iload hx hb d_BF_find_19 (lv_at hl 4 rfl) ?_
  refine cx_call (D := D) (cl := kl) (ws := _) (wc := [(bf, .inr (6, [.ref fo, .int lg, .ref bm, .ref bs, .ref ip, .ref bc, .ref bh, .ref br, .int (nI ct)])), (yl, .inr (1, [.ref ya, .int (nI yn), .int (12 : Int32)])), (ya, .inl (cI, 48, .inl yf)), (bm, .inr (2, [.ref cu, .ref nx, .int jz])), (cu, .inl (cJ, 16, .inr (.inl cf))), (nx, .inl (cJ, 16, .inr (.inl nf9)))]) (wr := [(fo, .inr (1, [.ref fq, .int (0 : Int32), .int (107 : Int32)])), (pl, .inr (1, [.ref pa, .int (nI ct), .int (nI mo)]))]) (tx_runV (C := cn_BF) (b := bf) (As := [.ref yl, .int (nI sp)]) (rest := [.ref bf]) hx hb hml hown (c_BF_large_y E H.size bf fo bm bs ip bc bh br lg (nI ct) cu nx cf nf9 jz yl ya yn yf sp hyn hsp h) (cx_C (b0 := b0) G hx0 mw_520 mw_6 ny_BF_isLarge (by decide)) (gw.at G hx0 mw_517 rfl _) (gw.at G hx0 mw_519 rfl _) (gw.at G hx0 ms_BF_isLarge rfl _) ⟨cx_blind, va_recv hK hP (q0 := 0) (ci := 6) (q := (cn_BF, ft_BF, 9)) rfl rfl, (cx_pre (s := s) hx0 hP hD hS hA0 [0, 3, 4, 5, 6, 7] rfl rfl (by decide))⟩ rfl rfl hl.1 rfl (lv_room (Nat.le_of_ble_eq_true rfl)) d_BF_find_21 ⟨by decide, by decide⟩) hP hD hS hA [0, 3, 4, 5, 6, 7] [1, 2] rfl rfl (by decide) (by decide) (fun v t w1 H locs ht hW9 hp hP hD hS => ?_) (fun x t w1 H locs ht hW9 hp hP hD hS => by obtain ⟨_, _, _, _, _, h9, -⟩ := hp; cases h9)
  obtain ⟨ca_1, nb_2, fa_3, fb_4, jj_5, h9, rfl⟩ := hp
  cases h9
  refine W.eq (g2 := F0 m 24 ls [.int (1 : Int32), .ref bf]) rfl ?_
  refine W.widen (k := 0) (n := 0) (by decide) (by decide) ?_
  have hP : va_P D kl [(fo, .inr (1, [.ref fq, .int (0 : Int32), .int (107 : Int32)])), (pl, .inr (1, [.ref pa, .int (nI ct), .int (nI mo)])), (bf, .inr (6, [.ref fo, .int lg, .ref bm, .ref bs, .ref ip, .ref bc, .ref bh, .ref br, .int (nI ct)])), (yl, .inr (1, [.ref ya, .int (nI yn), .int (12 : Int32)])), (ya, .inl (cI, 48, .inl yf)), (bm, .inr (2, [.ref ca_1, .ref nb_2, .int jj_5])), (ca_1, .inl (cJ, 16, .inr (.inl fa_3))), (nb_2, .inl (cJ, 16, .inr (.inl fb_4)))] H := hP
  have hD : va_D A [(fo, .inr (1, [.ref fq, .int (0 : Int32), .int (107 : Int32)])), (pl, .inr (1, [.ref pa, .int (nI ct), .int (nI mo)])), (bf, .inr (6, [.ref fo, .int lg, .ref bm, .ref bs, .ref ip, .ref bc, .ref bh, .ref br, .int (nI ct)])), (yl, .inr (1, [.ref ya, .int (nI yn), .int (12 : Int32)])), (ya, .inl (cI, 48, .inl yf)), (bm, .inr (2, [.ref ca_1, .ref nb_2, .int jj_5])), (ca_1, .inl (cJ, 16, .inr (.inl fa_3))), (nb_2, .inl (cJ, 16, .inr (.inl fb_4)))] := hD
  refine va_put (D := D) (ci := 6) (v := .int (1 : Int32)) (ty := .boolean) (C := cn_BF) (T := ft_BF) (N := 9) hx hb hf_BF (fun _ h => h) fy_BF fk_BF fn_BF hown hK hP hD hS 2 rfl rfl 1 (by decide) (gw.at G hx0 mw_166 rfl _) (fun _ h9 => h9) rfl (by decide +kernel) rfl rfl (Nat.le_of_ble_eq_true rfl) d_BF_find_24 (fun H locs hP hD hS => ?_)
  have hP : va_P D kl [(fo, .inr (1, [.ref fq, .int (0 : Int32), .int (107 : Int32)])), (pl, .inr (1, [.ref pa, .int (nI ct), .int (nI mo)])), (bf, .inr (6, [.ref fo, .int (1 : Int32), .ref bm, .ref bs, .ref ip, .ref bc, .ref bh, .ref br, .int (nI ct)])), (yl, .inr (1, [.ref ya, .int (nI yn), .int (12 : Int32)])), (ya, .inl (cI, 48, .inl yf)), (bm, .inr (2, [.ref ca_1, .ref nb_2, .int jj_5])), (ca_1, .inl (cJ, 16, .inr (.inl fa_3))), (nb_2, .inl (cJ, 16, .inr (.inl fb_4)))] H := hP
  have hD : va_D A [(fo, .inr (1, [.ref fq, .int (0 : Int32), .int (107 : Int32)])), (pl, .inr (1, [.ref pa, .int (nI ct), .int (nI mo)])), (bf, .inr (6, [.ref fo, .int (1 : Int32), .ref bm, .ref bs, .ref ip, .ref bc, .ref bh, .ref br, .int (nI ct)])), (yl, .inr (1, [.ref ya, .int (nI yn), .int (12 : Int32)])), (ya, .inl (cI, 48, .inl yf)), (bm, .inr (2, [.ref ca_1, .ref nb_2, .int jj_5])), (ca_1, .inl (cJ, 16, .inr (.inl fa_3))), (nb_2, .inl (cJ, 16, .inr (.inl fb_4)))] := hD
  refine lv_aload_n hx hb d_BF_find_27 rfl (lv_at hl 0 rfl) ?_
  refine va_get (D := D) (ci := 6) (v := .int (1 : Int32)) (C := cn_BF) (T := ft_BF) (N := 9) hx hb hf_BF (fun _ h => h) hown hK hP 2 rfl rfl 1 (by decide) (gw.at G hx0 mw_166 rfl _) (fun _ h9 => h9) rfl d_BF_find_28 ?_
  refine lv_if_eq (tgt := 35) hx hb d_BF_find_31 (by decide) (fun h99 => absurd h99 (by decide)) (fun _ => ?_)
  exact tx_mono (fun _ h => tx_Z.of h) (W.vret hx hb hr (fun t ht hW => ⟨⟨[(bf, .inr (6, [.ref fo, .int (1 : Int32), .ref bm, .ref bs, .ref ip, .ref bc, .ref bh, .ref br, .int (nI ct)])), (fo, .inr (1, [.ref fq, .int (0 : Int32), .int (107 : Int32)])), (pl, .inr (1, [.ref pa, .int (nI ct), .int (nI mo)])), (yl, .inr (1, [.ref ya, .int (nI yn), .int (12 : Int32)])), (ya, .inl (cI, 48, .inl yf)), (bm, .inr (2, [.ref ca_1, .ref nb_2, .int jj_5])), (ca_1, .inl (cJ, 16, .inr (.inl fa_3))), (nb_2, .inl (cJ, 16, .inr (.inl fb_4)))], ⟨ca_1, nb_2, fa_3, fb_4, jj_5, rfl, rfl⟩, by rw [ht]; exact hP.sub [2, 0, 1, 3, 4, 5, 6, 7] rfl, hD.sub [2, 0, 1, 3, 4, 5, 6, 7] (by decide) rfl⟩, hS.F ht⟩) hS.2.2 d_BF_find_34)

