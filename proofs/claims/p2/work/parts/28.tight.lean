/-! ===== own rows, laid by wip/tools/sym.py: FaceList.findTight ===== -/
def z8 (t : Nat → Nat) : Nat → Nat := updN (updN (updN (updN (updN (updN (updN (updN t 0 0) 1 0) 2 0) 3 0) 4 0) 5 0) 6 0) 7 0
theorem z8_lt {t : Nat → Nat} (h : ∀ j, t j < 4096) : ∀ j, z8 t j < 4096 := by
  unfold z8
  repeat (refine updN_lt ?_ (by decide))
  exact h
/-- which rows are tight at ray q, for the first r rows -/
def tin (pf g : Nat → Int32) (q : Nat) : Nat → (Nat → Nat) → (Nat → Nat)
  | 0, t => t
  | r + 1, t => if pr4 pf r g = 0 then updN (tin pf g q r t) r (tin pf g q r t r ||| 2 ^ q) else tin pf g q r t
def tto (pf : Nat → Int32) (ct : Nat) (yf : Nat → Int32) (t : Nat → Nat) (g : Nat → Int32) : Nat → (Nat → Nat) × (Nat → Int32)
  | 0 => (t, g)
  | q + 1 => (tin pf (va_cpy yf (tto pf ct yf t g q).2 (q * 4) 0 4) q ct (tto pf ct yf t g q).1, va_cpy yf (tto pf ct yf t g q).2 (q * 4) 0 4)
theorem tto_s {pf : Nat → Int32} {ct : Nat} {yf : Nat → Int32} {t0 t u : Nat → Nat} {g0 g : Nat → Int32} {q : Nat} (h : tto pf ct yf t0 g0 q = (t, g)) (hu : tin pf (va_cpy yf g (q * 4) 0 4) q ct t = u) : tto pf ct yf t0 g0 (q + 1) = (u, va_cpy yf g (q * 4) 0 4) := by
  show (tin pf (va_cpy yf (tto pf ct yf t0 g0 q).2 (q * 4) 0 4) q ct (tto pf ct yf t0 g0 q).1, va_cpy yf (tto pf ct yf t0 g0 q).2 (q * 4) 0 4) = _
  rw [h, ← hu]
theorem tin_y {pf g : Nat → Int32} {q r : Nat} {t u : Nat → Nat} (h : tin pf g q r t = u) (hz : pr4 pf r g = 0) : tin pf g q (r + 1) t = updN u r (u r ||| 2 ^ q) := by
  show (if pr4 pf r g = 0 then updN (tin pf g q r t) r (tin pf g q r t r ||| 2 ^ q) else tin pf g q r t) = _
  rw [if_pos hz, h]
theorem tin_n {pf g : Nat → Int32} {q r : Nat} {t u : Nat → Nat} (h : tin pf g q r t = u) (hz : ¬ pr4 pf r g = 0) : tin pf g q (r + 1) t = u := by
  show (if pr4 pf r g = 0 then updN (tin pf g q r t) r (tin pf g q r t r ||| 2 ^ q) else tin pf g q r t) = _
  rw [if_neg hz, h]
theorem or12 {a q : Nat} (ha : a < 4096) (hq : q < 12) : a ||| 2 ^ q < 4096 := Nat.or_lt_two_pow (n := 12) ha (Nat.pow_lt_pow_right (by decide) hq)
theorem c_JA_fill8n {l : Launch} {s0 : State} {b0 : Addr} {D : va_G} {cI cJ cZ : ClassId} {tC tS : Nat} (E : gE l s0 b0 D cI cJ cZ tC tS) (sz : Nat) (ga : Nat) (tn : Nat → Nat) : cx_M l s0 D kl y_JA_fill b_JA_fill 4 none ({ frames := 0, cells := 0, slots := 0, locals := 0 } : Room) 0 0 [.ref ga, .int (0 : Int32)] [(ga, .inl (cI, 8, .inl (nf tn)))] sz (fun o9 _ w9 => o9 = .returned none ∧ w9 = [(ga, .inl (cI, 8, .inl (nf (z8 tn))))]) := by
  have e : upd (upd (upd (upd (upd (upd (upd (upd (nf tn) 0 (0 : Int32)) 1 (0 : Int32)) 2 (0 : Int32)) 3 (0 : Int32)) 4 (0 : Int32)) 5 (0 : Int32)) 6 (0 : Int32)) 7 (0 : Int32) = nf (z8 tn) := by simp only [nf_upd0, z8]
  rw [← e]
  exact c_JA_fill8 E sz ga (nf tn)

set_option maxHeartbeats 4000000 in
set_option maxRecDepth 100000 in
theorem c_FL_findTight {l : Launch} {s0 : State} {b0 : Addr} {D : va_G} {cI cJ cZ : ClassId} {tC tS : Nat} (E : gE l s0 b0 D cI cJ cZ tC tS) (sz : Nat) (fl : Nat) (fm : Nat) (fd : Nat) (ft : Nat) (fc : Nat) (fn : Nat) (tn : Nat → Nat) (cg : Nat → Int32) (pl : Nat) (pa : Nat) (ct : Nat) (mo : Nat) (pz : Nat) (pf : Nat → Int32) (yl : Nat) (ya : Nat) (yn : Nat) (yf : Nat → Int32) (htn : ∀ j, tn j < 4096) (hpz : pz = mo * 4) (hmo : mo ≤ 107) (hct : ct ≤ mo) (hc8 : ct ≤ 8) (hyn : yn ≤ 12) : cx_M l s0 D kl y_FL_findTight b_FL_findTight 5 none ({ frames := 2, cells := 0, slots := 0, locals := 62 } : Room) 0 0 [.ref fl, .ref pl, .ref yl] [(fl, .inr (3, [.ref fm, .int (nI fn), .ref fd, .ref ft, .ref fc])), (ft, .inl (cI, 8, .inl (nf tn))), (fc, .inl (cI, 4, .inl cg)), (pl, .inr (1, [.ref pa, .int (nI ct), .int (nI mo)])), (pa, .inl (cI, pz, .inl pf)), (yl, .inr (1, [.ref ya, .int (nI yn), .int (12 : Int32)])), (ya, .inl (cI, 48, .inl yf))] sz (fun o9 _ w9 => o9 = .returned none ∧ (∀ j, (tto pf ct yf (z8 tn) cg yn).1 j < 4096) ∧ w9 = [(fl, .inr (3, [.ref fm, .int (nI fn), .ref fd, .ref ft, .ref fc])), (ft, .inl (cI, 8, .inl (nf (tto pf ct yf (z8 tn) cg yn).1))), (fc, .inl (cI, 4, .inl ((tto pf ct yf (z8 tn) cg yn).2))), (pl, .inr (1, [.ref pa, .int (nI ct), .int (nI mo)])), (pa, .inl (cI, pz, .inl pf)), (yl, .inr (1, [.ref ya, .int (nI yn), .int (12 : Int32)])), (ya, .inl (cI, 48, .inl yf))]) := by
  refine tx_ofW (cc := b_FL_findTight) (maxL := 5) (ret := none) (by decide) rfl ?_
  intro p e s m args below meth c s₁ B hml hT hv
  obtain ⟨rfl, hsz, hP, hD0, hx0⟩ := hv
  have hx := B.exec
  have hb := B.bytes
  have hr := B.returns
  have G := E.2.1
  have hown : s.vm.findClass cn_FL = some m.cls := findClass_of_methodNamed B.named
  have hlocks := B.notSynchronized
  have hK := va_K.moved hx0.1.alike E.2.2.1
  have hf_FL : ∀ w99 ∈ u_ws cn_FL ft_FL 5, w99.before ([.ref fl, .ref pl, .ref yl] : List Value).toArray s = true := fun w99 h99 => gw.at G hx0 (fw_FL w99 h99) (fo_FL w99 h99) _
  have hf_PL : ∀ w99 ∈ u_ws cn_PL ft_PL 3, w99.before ([.ref fl, .ref pl, .ref yl] : List Value).toArray s = true := fun w99 h99 => gw.at G hx0 (fw_PL w99 h99) (fo_PL w99 h99) _
  subst hsz
  have hA0 := cx_new hD0 hx0.2.1
  have hD := hD0.self (sz := s.heap.size)
  generalize hAe : va_A [(fl, .inr (3, [.ref fm, .int (nI fn), .ref fd, .ref ft, .ref fc])), (ft, .inl (cI, 8, .inl (nf tn))), (fc, .inl (cI, 4, .inl cg)), (pl, .inr (1, [.ref pa, .int (nI ct), .int (nI mo)])), (pa, .inl (cI, pz, .inl pf)), (yl, .inr (1, [.ref ya, .int (nI yn), .int (12 : Int32)])), (ya, .inl (cI, 48, .inl yf))] s.heap.size = A at hD hA0 ⊢
  have hA : ∀ q : Nat, s.heap.size ≤ q → A q := fun q h => by rw [← hAe]; exact Or.inr h
  have hS : va_S A s.heap s.heap [] := va_S.rf
  have hl := lv_entry ([.ref fl, .ref pl, .ref yl]) (n := 5) (Nat.le_of_ble_eq_true rfl)
  rw [lg_entry_eq]
  generalize (lg_sl ([.ref fl, .ref pl, .ref yl]) ++ List.replicate (5 - (lg_sl ([.ref fl, .ref pl, .ref yl])).length) Slot.unset).toArray = ls at hl ⊢
  have hl : lv_has ls 5 [(0, .ref fl), (1, .ref pl), (2, .ref yl)] := hl
  have hP : va_P D kl [(fl, .inr (3, [.ref fm, .int (nI fn), .ref fd, .ref ft, .ref fc])), (ft, .inl (cI, 8, .inl (nf tn))), (fc, .inl (cI, 4, .inl cg)), (pl, .inr (1, [.ref pa, .int (nI ct), .int (nI mo)])), (pa, .inl (cI, pz, .inl pf)), (yl, .inr (1, [.ref ya, .int (nI yn), .int (12 : Int32)])), (ya, .inl (cI, 48, .inl yf))] s.heap := hP
  have hml : c.maxLocals = 5 := hml
  generalize hQe : tx_Z below (cx_Q D kl A (fun o9 _ w9 => o9 = .returned none ∧ (∀ j, (tto pf ct yf (z8 tn) cg yn).1 j < 4096) ∧ w9 = [(fl, .inr (3, [.ref fm, .int (nI fn), .ref fd, .ref ft, .ref fc])), (ft, .inl (cI, 8, .inl (nf (tto pf ct yf (z8 tn) cg yn).1))), (fc, .inl (cI, 4, .inl ((tto pf ct yf (z8 tn) cg yn).2))), (pl, .inr (1, [.ref pa, .int (nI ct), .int (nI mo)])), (pa, .inl (cI, pz, .inl pf)), (yl, .inr (1, [.ref ya, .int (nI yn), .int (12 : Int32)])), (ya, .inl (cI, 48, .inl yf))])) ([.ref fl, .ref pl, .ref yl] : List Value).toArray s 0 0 A = Q
  refine lv_aload_n hx hb d_FL_findTight_0 rfl (lv_at hl 0 rfl) ?_
  refine va_get (D := D) (ci := 3) (v := .ref ft) (C := cn_FL) (T := ft_FL) (N := 5) hx hb hf_FL (fun _ h => h) hown hK hP 0 rfl rfl 3 (by decide) (gw.at G hx0 mw_86 rfl _) (fun _ h9 => h9) rfl d_FL_findTight_1 ?_
  refine lv_iconst (v := (0 : Int32)) hx hb d_FL_findTight_4 (by decide) ?_
  refine cx_call (D := D) (cl := kl) (ws := _) (wc := [(ft, .inl (cI, 8, .inl (nf tn)))]) (wr := [(fl, .inr (3, [.ref fm, .int (nI fn), .ref fd, .ref ft, .ref fc])), (fc, .inl (cI, 4, .inl cg)), (pl, .inr (1, [.ref pa, .int (nI ct), .int (nI mo)])), (pa, .inl (cI, pz, .inl pf)), (yl, .inr (1, [.ref ya, .int (nI yn), .int (12 : Int32)])), (ya, .inl (cI, 48, .inl yf))]) (tx_runS (As := [.ref ft, .int (0 : Int32)]) (rest := []) hx hb hml hown (c_JA_fill8n E s.heap.size ft tn ) (cx_C (b0 := b0) G hx0 mw_478 mw_18 ny_JA_fill (by decide)) (gw.at G hx0 mw_506 rfl _) (gw.at G hx0 mw_477 rfl _) (gw.at G hx0 mw_18 rfl _) ⟨cx_blind, (cx_pre (s := s) hx0 hP hD hS hA0 [1] rfl rfl (by decide))⟩ rfl rfl hl.1 rfl (lv_room (Nat.le_of_ble_eq_true rfl)) d_FL_findTight_5 ⟨by decide, by decide⟩) hP hD hS hA [1] [0, 2, 3, 4, 5, 6] rfl rfl (by decide) (by decide) (fun v t w1 H locs ht hW9 hp hP hD hS => ?_) (fun x t w1 H locs ht hW9 hp hP hD hS => by obtain ⟨h9, -⟩ := hp; cases h9)
  obtain ⟨h9, rfl⟩ := hp
  cases h9
  refine W.eq (g2 := F0 m 8 ls []) rfl ?_
  refine W.widen (k := 0) (n := 0) (by decide) (by decide) ?_
  have hP : va_P D kl [(fl, .inr (3, [.ref fm, .int (nI fn), .ref fd, .ref ft, .ref fc])), (fc, .inl (cI, 4, .inl cg)), (pl, .inr (1, [.ref pa, .int (nI ct), .int (nI mo)])), (pa, .inl (cI, pz, .inl pf)), (yl, .inr (1, [.ref ya, .int (nI yn), .int (12 : Int32)])), (ya, .inl (cI, 48, .inl yf)), (ft, .inl (cI, 8, .inl (nf (z8 tn))))] H := hP
  have hD : va_D A [(fl, .inr (3, [.ref fm, .int (nI fn), .ref fd, .ref ft, .ref fc])), (fc, .inl (cI, 4, .inl cg)), (pl, .inr (1, [.ref pa, .int (nI ct), .int (nI mo)])), (pa, .inl (cI, pz, .inl pf)), (yl, .inr (1, [.ref ya, .int (nI yn), .int (12 : Int32)])), (ya, .inl (cI, 48, .inl yf)), (ft, .inl (cI, 8, .inl (nf (z8 tn))))] := hD
  refine lv_iconst (v := (0 : Int32)) hx hb d_FL_findTight_8 (by decide) ?_
  refine lv_istore_n (lv' := [(3, .int (0 : Int32)), (0, .ref fl), (1, .ref pl), (2, .ref yl)]) hx hb d_FL_findTight_9 rfl hl (by decide) rfl (fun ls hl => ?_)
  have lp_10 : ∀ (n9 : Nat) (q : Nat) (tq : Nat → Nat) (g : Nat → Int32) (ls : Array Slot) (H : Heap) (locs : List Loc), yn - q = n9 → (tto pf ct yf (z8 tn) cg q = (tq, g)) → (q ≤ yn) → (∀ j, tq j < 4096) → lv_has ls 5 [(3, .int (nI q)), (0, .ref fl), (1, .ref pl), (2, .ref yl)] → va_P D kl [(fl, .inr (3, [.ref fm, .int (nI fn), .ref fd, .ref ft, .ref fc])), (fc, .inl (cI, 4, .inl g)), (pl, .inr (1, [.ref pa, .int (nI ct), .int (nI mo)])), (pa, .inl (cI, pz, .inl pf)), (yl, .inr (1, [.ref ya, .int (nI yn), .int (12 : Int32)])), (ya, .inl (cI, 48, .inl yf)), (ft, .inl (cI, 8, .inl (nf tq)))] H → va_D A [(fl, .inr (3, [.ref fm, .int (nI fn), .ref fd, .ref ft, .ref fc])), (fc, .inl (cI, 4, .inl g)), (pl, .inr (1, [.ref pa, .int (nI ct), .int (nI mo)])), (pa, .inl (cI, pz, .inl pf)), (yl, .inr (1, [.ref ya, .int (nI yn), .int (12 : Int32)])), (ya, .inl (cI, 48, .inl yf)), (ft, .inl (cI, 8, .inl (nf tq)))] → va_S A s.heap H locs → W p l e ({ frames := 2, cells := 0, slots := 0, locals := 62 } : Room) s m ([.ref fl, .ref pl, .ref yl] : List Value).toArray below meth c H locs 0 0 Q (F0 m 10 ls []) := by
    intro n9
    induction n9 using Nat.strongRecOn with
    | ind n9 ih_10 =>
      intro q tq g ls H locs hm_10 ho hq htq hl hP hD hS
      refine lv_iload_n hx hb d_FL_findTight_10 rfl (lv_at hl 0 rfl) ?_
      refine lv_aload_n hx hb d_FL_findTight_11 rfl (lv_at hl 3 rfl) ?_
      refine va_get (D := D) (ci := 1) (v := .int (nI yn)) (C := cn_PL) (T := ft_PL) (N := 3) hx hb hf_PL (fun _ h => h) hown hK hP 4 rfl rfl 1 (by decide) (gw.at G hx0 mw_43 rfl _) (fun _ h9 => h9) rfl d_FL_findTight_12 ?_
      refine lv_icmp_ge (tgt := 79) hx hb d_FL_findTight_15 (by decide) (fun h_1 => ?_) (fun h_1 => ?_)
      · have h_1 : yn ≤ q := (nI_leI (a := yn) (b := q) (by omega) (by omega)).mp h_1
        have ho9 : tto pf ct yf (z8 tn) cg yn = (tq, g) := by rw [show yn = q by omega]; exact ho
        have e1 : (tto pf ct yf (z8 tn) cg yn).1 = tq := by rw [ho9]
        have e2 : (tto pf ct yf (z8 tn) cg yn).2 = g := by rw [ho9]
        clear ho ho9
        subst e1 e2
        rw [← hQe]
        exact tx_mono (fun _ h => tx_Z.of h) (W.vret hx hb hr (fun t ht hW => ⟨⟨[(fl, .inr (3, [.ref fm, .int (nI fn), .ref fd, .ref ft, .ref fc])), (ft, .inl (cI, 8, .inl (nf ((tto pf ct yf (z8 tn) cg yn).1)))), (fc, .inl (cI, 4, .inl ((tto pf ct yf (z8 tn) cg yn).2))), (pl, .inr (1, [.ref pa, .int (nI ct), .int (nI mo)])), (pa, .inl (cI, pz, .inl pf)), (yl, .inr (1, [.ref ya, .int (nI yn), .int (12 : Int32)])), (ya, .inl (cI, 48, .inl yf))], ⟨rfl, htq, rfl⟩, by rw [ht]; exact hP.sub [0, 6, 1, 2, 3, 4, 5] rfl, hD.sub [0, 6, 1, 2, 3, 4, 5] (by decide) rfl⟩, hS.F ht⟩) hS.2.2 d_FL_findTight_79)
      · have h_1 : ¬ (yn ≤ q) := fun z99 => h_1 ((nI_leI (a := yn) (b := q) (by omega) (by omega)).mpr z99)
        refine lv_aload_n hx hb d_FL_findTight_18 rfl (lv_at hl 3 rfl) ?_
        refine lv_iload_n hx hb d_FL_findTight_19 rfl (lv_at hl 0 rfl) ?_
        refine lv_aload_n hx hb d_FL_findTight_20 rfl (lv_at hl 1 rfl) ?_
        refine va_get (D := D) (ci := 3) (v := .ref fc) (C := cn_FL) (T := ft_FL) (N := 5) hx hb hf_FL (fun _ h => h) hown hK hP 0 rfl rfl 4 (by decide) (gw.at G hx0 mw_87 rfl _) (fun _ h9 => h9) rfl d_FL_findTight_21 ?_
        refine cx_call (D := D) (cl := kl) (ws := _) (wc := [(yl, .inr (1, [.ref ya, .int (nI yn), .int (12 : Int32)])), (ya, .inl (cI, 48, .inl yf)), (fc, .inl (cI, 4, .inl g))]) (wr := [(fl, .inr (3, [.ref fm, .int (nI fn), .ref fd, .ref ft, .ref fc])), (pl, .inr (1, [.ref pa, .int (nI ct), .int (nI mo)])), (pa, .inl (cI, pz, .inl pf)), (ft, .inl (cI, 8, .inl (nf tq)))]) (tx_runV (C := cn_PL) (b := yl) (As := [.int (nI q), .ref fc]) (rest := []) hx hb hml hown (c_PL_copyOut E H.size yl ya yn 12 48 yf q fc g (by decide) (by decide) hyn (by omega)) (cx_C (b0 := b0) G hx0 mw_510 mw_3 ny_PL_copyOut (by decide)) (gw.at G hx0 mw_507 rfl _) (gw.at G hx0 mw_508 rfl _) (gw.at G hx0 mw_509 rfl _) ⟨cx_blind, va_recv hK hP (q0 := 4) (ci := 1) (q := (cn_PL, ft_PL, 3)) rfl rfl, (cx_pre (s := s) hx0 hP hD hS hA0 [4, 5, 1] rfl rfl (by decide))⟩ rfl rfl hl.1 rfl (lv_room (Nat.le_of_ble_eq_true rfl)) d_FL_findTight_24 ⟨by decide, by decide⟩) hP hD hS hA [4, 5, 1] [0, 2, 3, 6] rfl rfl (by decide) (by decide) (fun v t w1 H locs ht hW9 hp hP hD hS => ?_) (fun x t w1 H locs ht hW9 hp hP hD hS => by obtain ⟨h9, -⟩ := hp; cases h9)
        obtain ⟨h9, rfl⟩ := hp
        cases h9
        refine W.eq (g2 := F0 m 27 ls []) rfl ?_
        refine W.widen (k := 0) (n := 0) (by decide) (by decide) ?_
        have hP : va_P D kl [(fl, .inr (3, [.ref fm, .int (nI fn), .ref fd, .ref ft, .ref fc])), (pl, .inr (1, [.ref pa, .int (nI ct), .int (nI mo)])), (pa, .inl (cI, pz, .inl pf)), (ft, .inl (cI, 8, .inl (nf tq))), (yl, .inr (1, [.ref ya, .int (nI yn), .int (12 : Int32)])), (ya, .inl (cI, 48, .inl yf)), (fc, .inl (cI, 4, .inl (va_cpy yf g (q * 4) 0 4)))] H := hP
        have hD : va_D A [(fl, .inr (3, [.ref fm, .int (nI fn), .ref fd, .ref ft, .ref fc])), (pl, .inr (1, [.ref pa, .int (nI ct), .int (nI mo)])), (pa, .inl (cI, pz, .inl pf)), (ft, .inl (cI, 8, .inl (nf tq))), (yl, .inr (1, [.ref ya, .int (nI yn), .int (12 : Int32)])), (ya, .inl (cI, 48, .inl yf)), (fc, .inl (cI, 4, .inl (va_cpy yf g (q * 4) 0 4)))] := hD
        refine lv_iconst (v := (0 : Int32)) hx hb d_FL_findTight_27 (by decide) ?_
        refine lv_istore (lv' := [(4, .int (0 : Int32)), (3, .int (nI q)), (0, .ref fl), (1, .ref pl), (2, .ref yl)]) hx hb d_FL_findTight_28 hl (by decide) rfl (fun ls hl => ?_)
        have lp_30 : ∀ (n9 : Nat) (r : Nat) (u : Nat → Nat) (ls : Array Slot) (H : Heap) (locs : List Loc), ct - r = n9 → (tin pf (va_cpy yf g (q * 4) 0 4) q r tq = u) → (r ≤ ct) → (∀ j, u j < 4096) → lv_has ls 5 [(4, .int (nI r)), (3, .int (nI q)), (0, .ref fl), (1, .ref pl), (2, .ref yl)] → va_P D kl [(fl, .inr (3, [.ref fm, .int (nI fn), .ref fd, .ref ft, .ref fc])), (pl, .inr (1, [.ref pa, .int (nI ct), .int (nI mo)])), (pa, .inl (cI, pz, .inl pf)), (ft, .inl (cI, 8, .inl (nf u))), (yl, .inr (1, [.ref ya, .int (nI yn), .int (12 : Int32)])), (ya, .inl (cI, 48, .inl yf)), (fc, .inl (cI, 4, .inl (va_cpy yf g (q * 4) 0 4)))] H → va_D A [(fl, .inr (3, [.ref fm, .int (nI fn), .ref fd, .ref ft, .ref fc])), (pl, .inr (1, [.ref pa, .int (nI ct), .int (nI mo)])), (pa, .inl (cI, pz, .inl pf)), (ft, .inl (cI, 8, .inl (nf u))), (yl, .inr (1, [.ref ya, .int (nI yn), .int (12 : Int32)])), (ya, .inl (cI, 48, .inl yf)), (fc, .inl (cI, 4, .inl (va_cpy yf g (q * 4) 0 4)))] → va_S A s.heap H locs → W p l e ({ frames := 2, cells := 0, slots := 0, locals := 62 } : Room) s m ([.ref fl, .ref pl, .ref yl] : List Value).toArray below meth c H locs 0 0 Q (F0 m 30 ls []) := by
          intro n9
          induction n9 using Nat.strongRecOn with
          | ind n9 ih_30 =>
            intro r u ls H locs hm_30 hin hr9 hu hl hP hD hS
            refine lv_iload hx hb d_FL_findTight_30 (lv_at hl 0 rfl) ?_
            refine lv_aload_n hx hb d_FL_findTight_32 rfl (lv_at hl 3 rfl) ?_
            refine va_get (D := D) (ci := 1) (v := .int (nI ct)) (C := cn_PL) (T := ft_PL) (N := 3) hx hb hf_PL (fun _ h => h) hown hK hP 1 rfl rfl 1 (by decide) (gw.at G hx0 mw_43 rfl _) (fun _ h9 => h9) rfl d_FL_findTight_33 ?_
            refine lv_icmp_ge (tgt := 73) hx hb d_FL_findTight_36 (by decide) (fun h_2 => ?_) (fun h_2 => ?_)
            · have h_2 : ct ≤ r := (nI_leI (a := ct) (b := r) (by omega) (by omega)).mp h_2
              refine lv_iinc (lv' := [(3, .int (nI (q + 1))), (4, .int (nI r)), (0, .ref fl), (1, .ref pl), (2, .ref yl)]) (k := 1) (v := nI (q + 1)) hx hb d_FL_findTight_73 hl rfl (nI_add q 1) (by decide) rfl (fun ls hl => ?_)
              refine lv_goto (tgt := 10) hx hb d_FL_findTight_76 (by decide) ?_
              exact ih_10 _ (by omega) (q + 1) u (va_cpy yf g (q * 4) 0 4) ls H locs rfl (tto_s ho (by rw [show ct = r by omega]; exact hin)) (by omega) hu (lv_sub hl [0, 2, 3, 4] rfl) (hP.sub [0, 6, 1, 2, 4, 5, 3] rfl) (hD.sub [0, 6, 1, 2, 4, 5, 3] (by decide) rfl) hS
            · have h_2 : ¬ (ct ≤ r) := fun z99 => h_2 ((nI_leI (a := ct) (b := r) (by omega) (by omega)).mpr z99)
              refine lv_aload_n hx hb d_FL_findTight_39 rfl (lv_at hl 3 rfl) ?_
              refine lv_iload hx hb d_FL_findTight_40 (lv_at hl 0 rfl) ?_
              refine lv_aload_n hx hb d_FL_findTight_42 rfl (lv_at hl 2 rfl) ?_
              refine va_get (D := D) (ci := 3) (v := .ref fc) (C := cn_FL) (T := ft_FL) (N := 5) hx hb hf_FL (fun _ h => h) hown hK hP 0 rfl rfl 4 (by decide) (gw.at G hx0 mw_87 rfl _) (fun _ h9 => h9) rfl d_FL_findTight_43 ?_
              refine cx_call (D := D) (cl := kl) (ws := _) (wc := [(pl, .inr (1, [.ref pa, .int (nI ct), .int (nI mo)])), (pa, .inl (cI, pz, .inl pf)), (fc, .inl (cI, 4, .inl (va_cpy yf g (q * 4) 0 4)))]) (wr := [(fl, .inr (3, [.ref fm, .int (nI fn), .ref fd, .ref ft, .ref fc])), (ft, .inl (cI, 8, .inl (nf u))), (yl, .inr (1, [.ref ya, .int (nI yn), .int (12 : Int32)])), (ya, .inl (cI, 48, .inl yf))]) (tx_runV (C := cn_PL) (b := pl) (As := [.int (nI r), .ref fc]) (rest := []) hx hb hml hown (c_PL_product E H.size pl pa ct mo pz pf r fc (va_cpy yf g (q * 4) 0 4) hpz hmo hct (by omega)) (cx_C (b0 := b0) G hx0 mw_247 mw_3 ny_PL_product (by decide)) (gw.at G hx0 mw_511 rfl _) (gw.at G hx0 mw_245 rfl _) (gw.at G hx0 mw_246 rfl _) ⟨cx_blind, va_recv hK hP (q0 := 1) (ci := 1) (q := (cn_PL, ft_PL, 3)) rfl rfl, (cx_pre (s := s) hx0 hP hD hS hA0 [1, 2, 6] rfl rfl (by decide))⟩ rfl rfl hl.1 rfl (lv_room (Nat.le_of_ble_eq_true rfl)) d_FL_findTight_46 ⟨by decide, by decide⟩) hP hD hS hA [1, 2, 6] [0, 3, 4, 5] rfl rfl (by decide) (by decide) (fun v t w1 H locs ht hW9 hp hP hD hS => ?_) (fun x t w1 H locs ht hW9 hp hP hD hS => by obtain ⟨h9, -⟩ := hp; cases h9)
              obtain ⟨h9, rfl⟩ := hp
              cases h9
              refine W.eq (g2 := F0 m 49 ls [.long (pr4 pf r (va_cpy yf g (q * 4) 0 4))]) rfl ?_
              refine W.widen (k := 0) (n := 0) (by decide) (by decide) ?_
              have hP : va_P D kl [(fl, .inr (3, [.ref fm, .int (nI fn), .ref fd, .ref ft, .ref fc])), (ft, .inl (cI, 8, .inl (nf u))), (yl, .inr (1, [.ref ya, .int (nI yn), .int (12 : Int32)])), (ya, .inl (cI, 48, .inl yf)), (pl, .inr (1, [.ref pa, .int (nI ct), .int (nI mo)])), (pa, .inl (cI, pz, .inl pf)), (fc, .inl (cI, 4, .inl (va_cpy yf g (q * 4) 0 4)))] H := hP
              have hD : va_D A [(fl, .inr (3, [.ref fm, .int (nI fn), .ref fd, .ref ft, .ref fc])), (ft, .inl (cI, 8, .inl (nf u))), (yl, .inr (1, [.ref ya, .int (nI yn), .int (12 : Int32)])), (ya, .inl (cI, 48, .inl yf)), (pl, .inr (1, [.ref pa, .int (nI ct), .int (nI mo)])), (pa, .inl (cI, pz, .inl pf)), (fc, .inl (cI, 4, .inl (va_cpy yf g (q * 4) 0 4)))] := hD
              refine lv_lconst (v := (0 : Int64)) hx hb d_FL_findTight_49 (by decide) ?_
              refine W.lcmp hx hb d_FL_findTight_50 ?_
              refine lv_if_ne (tgt := 67) hx hb d_FL_findTight_51 (by decide) (fun h_3 => ?_) (fun h_3 => ?_)
              · refine lv_iinc (lv' := [(4, .int (nI (r + 1))), (3, .int (nI q)), (0, .ref fl), (1, .ref pl), (2, .ref yl)]) (k := 0) (v := nI (r + 1)) hx hb d_FL_findTight_67 hl rfl (nI_add r 1) (by decide) rfl (fun ls hl => ?_)
                refine lv_goto (tgt := 30) hx hb d_FL_findTight_70 (by decide) ?_
                exact ih_30 _ (by omega) (r + 1) u ls H locs rfl (tin_n hin (lg_ne.mp h_3)) (by omega) hu (lv_sub hl [0, 1, 2, 3, 4] rfl) (hP.sub [0, 4, 5, 1, 2, 3, 6] rfl) (hD.sub [0, 4, 5, 1, 2, 3, 6] (by decide) rfl) hS
              · refine lv_aload_n hx hb d_FL_findTight_54 rfl (lv_at hl 2 rfl) ?_
                refine va_get (D := D) (ci := 3) (v := .ref ft) (C := cn_FL) (T := ft_FL) (N := 5) hx hb hf_FL (fun _ h => h) hown hK hP 0 rfl rfl 3 (by decide) (gw.at G hx0 mw_86 rfl _) (fun _ h9 => h9) rfl d_FL_findTight_55 ?_
                refine lv_iload hx hb d_FL_findTight_58 (lv_at hl 0 rfl) ?_
                refine lv_dup2_11 hx hb d_FL_findTight_60 rfl rfl ?_
                refine va_iald hx hb hK hP 1 0 rfl rfl (vp_in_nI (n := r) (by omega) (by omega)) d_FL_findTight_61 ?_
                refine tp_i (y := (nf u) r) (congrArg (nf u) (nI_clamp (n := r) (by omega))) ?_
                refine tp_i (y := nI (u r)) rfl ?_
                have hb_4 := hu r
                refine lv_iconst (v := (1 : Int32)) hx hb d_FL_findTight_62 (by decide) ?_
                refine lv_iload_n hx hb d_FL_findTight_63 rfl (lv_at hl 1 rfl) ?_
                refine lv_ishl hx hb d_FL_findTight_64 ?_
                refine tp_i (y := nI (2 ^ q)) (nI_shl (k := q) (by omega)) ?_
                refine lv_ior hx hb d_FL_findTight_65 ?_
                refine tp_i (y := nI ((u r) ||| (2 ^ q))) (nI_or (u r) (2 ^ q)) ?_
                refine va_iast hx hb hK hP hD hS 1 0 rfl rfl (vp_in_nI (n := r) (by omega) (by omega)) d_FL_findTight_66 (fun H locs hP hD hS => ?_)
                rw [nI_clamp (n := r) (by omega)] at hP hD
                rw [show upd (nf u) r (nI ((u r) ||| (2 ^ q))) = nf (updN u r ((u r) ||| (2 ^ q))) from nf_upd _ _ _] at hP hD
                have hP : va_P D kl [(fl, .inr (3, [.ref fm, .int (nI fn), .ref fd, .ref ft, .ref fc])), (ft, .inl (cI, 8, .inl (nf (updN u r ((u r) ||| (2 ^ q)))))), (yl, .inr (1, [.ref ya, .int (nI yn), .int (12 : Int32)])), (ya, .inl (cI, 48, .inl yf)), (pl, .inr (1, [.ref pa, .int (nI ct), .int (nI mo)])), (pa, .inl (cI, pz, .inl pf)), (fc, .inl (cI, 4, .inl (va_cpy yf g (q * 4) 0 4)))] H := hP
                have hD : va_D A [(fl, .inr (3, [.ref fm, .int (nI fn), .ref fd, .ref ft, .ref fc])), (ft, .inl (cI, 8, .inl (nf (updN u r ((u r) ||| (2 ^ q)))))), (yl, .inr (1, [.ref ya, .int (nI yn), .int (12 : Int32)])), (ya, .inl (cI, 48, .inl yf)), (pl, .inr (1, [.ref pa, .int (nI ct), .int (nI mo)])), (pa, .inl (cI, pz, .inl pf)), (fc, .inl (cI, 4, .inl (va_cpy yf g (q * 4) 0 4)))] := hD
                refine lv_iinc (lv' := [(4, .int (nI (r + 1))), (3, .int (nI q)), (0, .ref fl), (1, .ref pl), (2, .ref yl)]) (k := 0) (v := nI (r + 1)) hx hb d_FL_findTight_67 hl rfl (nI_add r 1) (by decide) rfl (fun ls hl => ?_)
                refine lv_goto (tgt := 30) hx hb d_FL_findTight_70 (by decide) ?_
                exact ih_30 _ (by omega) (r + 1) (updN u r (u r ||| 2 ^ q)) ls H locs rfl (tin_y hin (lg_eq h_3)) (by omega) (updN_lt hu (or12 (hu r) (by omega))) (lv_sub hl [0, 1, 2, 3, 4] rfl) (hP.sub [0, 4, 5, 1, 2, 3, 6] rfl) (hD.sub [0, 4, 5, 1, 2, 3, 6] (by decide) rfl) hS
        exact lp_30 _ 0 tq ls H locs rfl rfl (Nat.zero_le _) htq (lv_sub hl [0, 1, 2, 3, 4] rfl) (hP.sub [0, 1, 2, 3, 4, 5, 6] rfl) (hD.sub [0, 1, 2, 3, 4, 5, 6] (by decide) rfl) hS
  exact lp_10 _ 0 (z8 tn) cg ls H locs rfl rfl (Nat.zero_le _) (z8_lt htn) (lv_sub hl [0, 1, 2, 3] rfl) (hP.sub [0, 1, 2, 3, 4, 5, 6] rfl) (hD.sub [0, 1, 2, 3, 4, 5, 6] (by decide) rfl) hS

