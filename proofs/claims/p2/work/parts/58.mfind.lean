/-! ===== own rows, laid by wip/tools/g43.py: the reference, find ===== -/
def vst (zz : Int32) (vf : Nat → Int32) (a b c d : Int32) : Nat → Int32 := upd (upd (upd (upd vf 0 a) 1 b) 2 (tk_c zz c)) 3 (tk_d zz d)
/-- the first k rays, put into the points; the vector -/
noncomputable def fpr (yf : Nat → Int32) (zz : Int32) : Nat → (Nat × (Nat → Int32)) × (Nat → Int32) → (Nat × (Nat → Int32)) × (Nat → Int32)
  | 0, p => p
  | k + 1, p => ((kqN (fpr yf zz k p).1.1 (fpr yf zz k p).1.2 (vst zz (fpr yf zz k p).2 (yf (4 * k)) (yf (4 * k + 1)) (yf (4 * k + 2)) (yf (4 * k + 3))), kqF (fpr yf zz k p).1.1 (fpr yf zz k p).1.2 (vst zz (fpr yf zz k p).2 (yf (4 * k)) (yf (4 * k + 1)) (yf (4 * k + 2)) (yf (4 * k + 3)))), vst zz (fpr yf zz k p).2 (yf (4 * k)) (yf (4 * k + 1)) (yf (4 * k + 2)) (yf (4 * k + 3)))
theorem fpr_s {yf : Nat → Int32} {zz : Int32} {k n n2 : Nat} {p : (Nat × (Nat → Int32)) × (Nat → Int32)} {f v f2 : Nat → Int32} (h : fpr yf zz k p = ((n, f), v)) (hn : kqN n f (vst zz v (yf (4 * k)) (yf (4 * k + 1)) (yf (4 * k + 2)) (yf (4 * k + 3))) = n2) (hf : kqF n f (vst zz v (yf (4 * k)) (yf (4 * k + 1)) (yf (4 * k + 2)) (yf (4 * k + 3))) = f2) : fpr yf zz (k + 1) p = ((n2, f2), vst zz v (yf (4 * k)) (yf (4 * k + 1)) (yf (4 * k + 2)) (yf (4 * k + 3))) := by
  show ((kqN (fpr yf zz k p).1.1 (fpr yf zz k p).1.2 (vst zz (fpr yf zz k p).2 (yf (4 * k)) (yf (4 * k + 1)) (yf (4 * k + 2)) (yf (4 * k + 3))), kqF (fpr yf zz k p).1.1 (fpr yf zz k p).1.2 (vst zz (fpr yf zz k p).2 (yf (4 * k)) (yf (4 * k + 1)) (yf (4 * k + 2)) (yf (4 * k + 3)))), vst zz (fpr yf zz k p).2 (yf (4 * k)) (yf (4 * k + 1)) (yf (4 * k + 2)) (yf (4 * k + 3))) = _
  rw [h]
  simp only [hn, hf]
def ixn (v : Int64) : Nat := v.toInt32.toNatClampNeg
/-- INDEX of every choice is small -/
def bxh (yf : Nat → Int32) (yn sp zs : Nat) : Prop := ∀ (x : Nat) (ck : Nat → Nat) (q : Nat → Int64), x < 2 ^ yn → mny x 16 = sp → (∀ j, ck j < 8) → (ixf yf (chs x yn (0, ck)).2 sp zs 16 (0, q)).1.toInt32 = nI (ixn (ixf yf (chs x yn (0, ck)).2 sp zs 16 (0, q)).1) ∧ ixn (ixf yf (chs x yn (0, ck)).2 sp zs 16 (0, q)).1 ≤ 12
/-- the points of the first m choices of rays from choice 1 on; the choice; the square -/
noncomputable def fps (yf : Nat → Int32) (yn sp zs : Nat) : Nat → ((Nat × (Nat → Int32)) × (Nat → Int32) × (Nat → Nat)) × (Nat → Nat) × (Nat → Int64) → ((Nat × (Nat → Int32)) × (Nat → Int32) × (Nat → Nat)) × (Nat → Nat) × (Nat → Int64)
  | 0, p => p
  | m + 1, p => if mny (1 + m) 16 = sp then
      (box yf (chs (1 + m) yn (0, (fps yf yn sp zs m p).2.1)).2 (ixn (ixf yf (chs (1 + m) yn (0, (fps yf yn sp zs m p).2.1)).2 sp zs 16 (0, (fps yf yn sp zs m p).2.2)).1) sp (fps yf yn sp zs m p).1, (chs (1 + m) yn (0, (fps yf yn sp zs m p).2.1)).2, (ixf yf (chs (1 + m) yn (0, (fps yf yn sp zs m p).2.1)).2 sp zs 16 (0, (fps yf yn sp zs m p).2.2)).2)
    else fps yf yn sp zs m p
theorem fps_n {yf : Nat → Int32} {yn sp zs m : Nat} {p r : ((Nat × (Nat → Int32)) × (Nat → Int32) × (Nat → Nat)) × (Nat → Nat) × (Nat → Int64)} (h : fps yf yn sp zs m p = r) (h1 : ¬ mny (1 + m) 16 = sp) : fps yf yn sp zs (m + 1) p = r := by
  show (if mny (1 + m) 16 = sp then _ else _) = _
  rw [if_neg h1, h]
theorem fps_y {yf : Nat → Int32} {yn sp zs m n2 : Nat} {p : ((Nat × (Nat → Int32)) × (Nat → Int32) × (Nat → Nat)) × (Nat → Nat) × (Nat → Int64)} {S S2 : (Nat × (Nat → Int32)) × (Nat → Int32) × (Nat → Nat)} {ck c2 : Nat → Nat} {q q2 : Nat → Int64} {i : Int64} (h : fps yf yn sp zs m p = (S, ck, q)) (h1 : mny (1 + m) 16 = sp) (hc : chs (1 + m) yn (0, ck) = (n2, c2)) (hi : ixf yf c2 sp zs 16 (0, q) = (i, q2)) (hb : box yf c2 (ixn i) sp S = S2) : fps yf yn sp zs (m + 1) p = (S2, c2, q2) := by
  show (if mny (1 + m) 16 = sp then _ else _) = _
  rw [if_pos h1, h]
  simp only [hc, hi, hb]
/-- point k is a sum -/
def smd (wf pf : Nat → Int32) (rn pt k : Nat) : Prop := ∃ j, j < pt ∧ ¬ j = k ∧ ∀ r, r < rn → ¬ prm wf r pf (4 * k) < prm wf r pf (4 * j)
def cp4 (f : Nat → Int32) (n k : Nat) : Nat → Int32 := upd (upd (upd (upd f (4 * n + 0) (f (4 * k + 0))) (4 * n + 1) (upd f (4 * n + 0) (f (4 * k + 0)) (4 * k + 1))) (4 * n + 2) (upd (upd f (4 * n + 0) (f (4 * k + 0))) (4 * n + 1) (upd f (4 * n + 0) (f (4 * k + 0)) (4 * k + 1)) (4 * k + 2))) (4 * n + 3) (upd (upd (upd f (4 * n + 0) (f (4 * k + 0))) (4 * n + 1) (upd f (4 * n + 0) (f (4 * k + 0)) (4 * k + 1))) (4 * n + 2) (upd (upd f (4 * n + 0) (f (4 * k + 0))) (4 * n + 1) (upd f (4 * n + 0) (f (4 * k + 0)) (4 * k + 1)) (4 * k + 2)) (4 * k + 3))
noncomputable def cmq (wf pf : Nat → Int32) (rn pt : Nat) : Nat → Nat × (Nat → Int32) → Nat × (Nat → Int32)
  | 0, p => p
  | k + 1, p => @ite _ (smd wf pf rn pt k) (Classical.propDecidable _) (cmq wf pf rn pt k p) ((cmq wf pf rn pt k p).1 + 1, cp4 (cmq wf pf rn pt k p).2 (cmq wf pf rn pt k p).1 k)
theorem cmq_y {wf pf : Nat → Int32} {rn pt k : Nat} {p r : Nat × (Nat → Int32)} (h : cmq wf pf rn pt k p = r) (e : smd wf pf rn pt k) : cmq wf pf rn pt (k + 1) p = r := by
  show @ite _ (smd wf pf rn pt k) (Classical.propDecidable _) _ _ = _
  rw [@if_pos _ (Classical.propDecidable _) e, h]
theorem cmq_n {wf pf : Nat → Int32} {rn pt k n : Nat} {p : Nat × (Nat → Int32)} {f : Nat → Int32} (h : cmq wf pf rn pt k p = (n, f)) (e : ¬ smd wf pf rn pt k) : cmq wf pf rn pt (k + 1) p = (n + 1, cp4 f n k) := by
  show @ite _ (smd wf pf rn pt k) (Classical.propDecidable _) _ _ = _
  rw [@if_neg _ (Classical.propDecidable _) e, h]
/-- what the reference finds -/
def KMp (wf : Nat → Int32) (rn zs yn : Nat) (yf : Nat → Int32) (sp pt : Nat) (pf : Nat → Int32) : Prop :=
  ∃ (pf0 vf0 f1 v1 f2 v2 : Nat → Int32) (s0 s2 c0 c2 : Nat → Nat) (q0 q2 : Nat → Int64) (n1 n2 : Nat), (∀ j, c0 j < 8) ∧ fpr yf (nI zs) yn ((0, pf0), vf0) = ((n1, f1), v1) ∧ fps yf yn sp zs (2 ^ yn - 1) (((n1, f1), v1, s0), c0, q0) = (((n2, f2), v2, s2), c2, q2) ∧ n2 ≤ 1000 ∧ cmq wf f2 rn n2 n2 (0, f2) = (pt, pf)
set_option maxHeartbeats 4000000 in
set_option maxRecDepth 100000 in
theorem c_M_find_k {l : Launch} {s0 : State} {b0 : Addr} {D : va_G} {cI cJ cZ : ClassId} {tC tS : Nat} (E : gE l s0 b0 D cI cJ cZ tC tS) (sz : Nat) (m0 : Nat) (rw : Nat) (ry : Nat) (ti : Nat) (po : Nat) (su : Nat) (sq : Nat) (ch : Nat) (vt : Nat) (sh : Nat) (th : Int32) (rk : Int32) (lg : Int32) (pt : Int32) (zs : Nat) (rn : Nat) (kn : Nat) (fo : Nat) (yn : Nat) (sp : Nat) (hk1 : kn = 1) (hf1 : fo = 1) : cx_M l s0 D kl y_M_find b_M_find 4 none ({ frames := 1, cells := 0, slots := 0, locals := 22 } : Room) 0 0 [.ref m0] [(m0, .inr (7, [.int th, .int (nI zs), .int (nI rn), .ref rw, .int (nI kn), .int rk, .int (nI yn), .ref ry, .int (nI sp), .int lg, .ref ti, .int (nI fo), .int pt, .ref po, .ref su, .ref sq, .ref ch, .ref vt, .ref sh]))] sz (fun o9 _ w9 => o9 = .returned none ∧ w9 = [(m0, .inr (7, [.int th, .int (nI zs), .int (nI rn), .ref rw, .int (nI kn), .int rk, .int (nI yn), .ref ry, .int (nI sp), .int lg, .ref ti, .int (nI fo), .int pt, .ref po, .ref su, .ref sq, .ref ch, .ref vt, .ref sh]))]) := by
  refine tx_ofW (cc := b_M_find) (maxL := 4) (ret := none) (by decide) rfl ?_
  intro p e s m args below meth c s₁ B hml hT hv
  obtain ⟨rfl, hsz, hP, hD0, hx0⟩ := hv
  have hx := B.exec
  have hb := B.bytes
  have hr := B.returns
  have G := E.2.1
  have hown : s.vm.findClass cn_M = some m.cls := findClass_of_methodNamed B.named
  have hlocks := B.notSynchronized
  have hK := va_K.moved hx0.1.alike E.2.2.1
  have hf_M : ∀ w99 ∈ u_ws cn_M ft_M 19, w99.before ([.ref m0] : List Value).toArray s = true := fun w99 h99 => gw.at G hx0 (fw_M w99 h99) (fo_M w99 h99) _
  subst hsz
  have hA0 := cx_new hD0 hx0.2.1
  have hD := hD0.self (sz := s.heap.size)
  generalize hAe : va_A [(m0, .inr (7, [.int th, .int (nI zs), .int (nI rn), .ref rw, .int (nI kn), .int rk, .int (nI yn), .ref ry, .int (nI sp), .int lg, .ref ti, .int (nI fo), .int pt, .ref po, .ref su, .ref sq, .ref ch, .ref vt, .ref sh]))] s.heap.size = A at hD hA0 ⊢
  have hA : ∀ q : Nat, s.heap.size ≤ q → A q := fun q h => by rw [← hAe]; exact Or.inr h
  have hS : va_S A s.heap s.heap [] := va_S.rf
  have hl := lv_entry ([.ref m0]) (n := 4) (Nat.le_of_ble_eq_true rfl)
  rw [lg_entry_eq]
  generalize (lg_sl ([.ref m0]) ++ List.replicate (4 - (lg_sl ([.ref m0])).length) Slot.unset).toArray = ls at hl ⊢
  have hl : lv_has ls 4 [(0, .ref m0)] := hl
  have hP : va_P D kl [(m0, .inr (7, [.int th, .int (nI zs), .int (nI rn), .ref rw, .int (nI kn), .int rk, .int (nI yn), .ref ry, .int (nI sp), .int lg, .ref ti, .int (nI fo), .int pt, .ref po, .ref su, .ref sq, .ref ch, .ref vt, .ref sh]))] s.heap := hP
  have hml : c.maxLocals = 4 := hml
  refine lv_aload_n hx hb d_M_find_0 rfl (lv_at hl 0 rfl) ?_
  refine cx_call (D := D) (cl := kl) (ws := _) (wc := [(m0, .inr (7, [.int th, .int (nI zs), .int (nI rn), .ref rw, .int (nI kn), .int rk, .int (nI yn), .ref ry, .int (nI sp), .int lg, .ref ti, .int (nI fo), .int pt, .ref po, .ref su, .ref sq, .ref ch, .ref vt, .ref sh]))]) (wr := []) (tx_runV (C := cn_M) (b := m0) (As := []) (rest := []) hx hb hml hown (c_M_know_k E s.heap.size m0 rw ry ti po su sq ch vt sh th (nI zs) (nI rn) rk (nI yn) (nI sp) lg (nI fo) pt kn hk1) (cx_C (b0 := b0) G hx0 mw_806 mw_9 ny_M_know (by decide)) (gw.at G hx0 mw_803 rfl _) (gw.at G hx0 mw_805 rfl _) (gw.at G hx0 ms_M_know rfl _) ⟨cx_blind, va_recv hK hP (q0 := 0) (ci := 7) (q := (cn_M, ft_M, 19)) rfl rfl, (cx_pre (s := s) hx0 hP hD hS hA0 [0] rfl rfl (by decide))⟩ rfl rfl hl.1 rfl (lv_room (Nat.le_of_ble_eq_true rfl)) d_M_find_1 ⟨by decide, by decide⟩) hP hD hS hA [0] [] rfl rfl (by decide) (by decide) (fun v t w1 H locs ht hW9 hp hP hD hS => ?_) (fun x t w1 H locs ht hW9 hp hP hD hS => by obtain ⟨h9, -⟩ := hp; cases h9)
  obtain ⟨h9, rfl⟩ := hp
  cases h9
  refine W.eq (g2 := F0 m 4 ls []) rfl ?_
  refine W.widen (k := 0) (n := 0) (by decide) (by decide) ?_
  have hP : va_P D kl [(m0, .inr (7, [.int th, .int (nI zs), .int (nI rn), .ref rw, .int (nI kn), .int rk, .int (nI yn), .ref ry, .int (nI sp), .int lg, .ref ti, .int (nI fo), .int pt, .ref po, .ref su, .ref sq, .ref ch, .ref vt, .ref sh]))] H := hP
  have hD : va_D A [(m0, .inr (7, [.int th, .int (nI zs), .int (nI rn), .ref rw, .int (nI kn), .int rk, .int (nI yn), .ref ry, .int (nI sp), .int lg, .ref ti, .int (nI fo), .int pt, .ref po, .ref su, .ref sq, .ref ch, .ref vt, .ref sh]))] := hD
  refine lv_aload_n hx hb d_M_find_4 rfl (lv_at hl 0 rfl) ?_
  refine va_get (D := D) (ci := 7) (v := .int (nI fo)) (C := cn_M) (T := ft_M) (N := 19) hx hb hf_M (fun _ h => h) hown hK hP 0 rfl rfl 11 (by decide) (gw.at G hx0 mw_724 rfl _) (fun _ h9 => h9) rfl d_M_find_5 ?_
  refine lv_if_eq (tgt := 12) hx hb d_M_find_8 (by decide) (fun h99 => absurd h99 (fun z99 => absurd ((nI_eq (a := fo) (b := 0) (by omega) (by omega)).mp z99) (by omega))) (fun _ => ?_)
  exact tx_mono (fun _ h => tx_Z.of h) (W.vret hx hb hr (fun t ht hW => ⟨⟨[(m0, .inr (7, [.int th, .int (nI zs), .int (nI rn), .ref rw, .int (nI kn), .int rk, .int (nI yn), .ref ry, .int (nI sp), .int lg, .ref ti, .int (nI fo), .int pt, .ref po, .ref su, .ref sq, .ref ch, .ref vt, .ref sh]))], ⟨rfl, rfl⟩, by rw [ht]; exact hP.sub [0] rfl, hD.sub [0] (by decide) rfl⟩, hS.F ht⟩) hS.2.2 d_M_find_11)

theorem updI_ne {f : Nat → Int32} {k j : Nat} {v : Int32} (h : ¬ j = k) : upd f k v j = f j := by unfold upd; rw [if_neg h]
theorem updI_eq {f : Nat → Int32} {k : Nat} {v : Int32} : upd f k v k = v := by unfold upd; rw [if_pos rfl]
set_option maxHeartbeats 4000000 in
set_option maxRecDepth 100000 in
theorem c_M_find_u {l : Launch} {s0 : State} {b0 : Addr} {D : va_G} {cI cJ cZ : ClassId} {tC tS : Nat} (E : gE l s0 b0 D cI cJ cZ tC tS) (sz : Nat) (m0 : Nat) (rw : Nat) (ry : Nat) (ti : Nat) (po : Nat) (su : Nat) (sq : Nat) (ch : Nat) (vt : Nat) (sh : Nat) (th : Int32) (rk : Int32) (lg : Int32) (pt : Int32) (zs : Nat) (rn : Nat) (kn : Nat) (fo : Nat) (yn : Nat) (sp : Nat) (wf : Nat → Int32) (yf : Nat → Int32) (pf : Nat → Int32) (vf : Nat → Int32) (sf : Nat → Int32) (qf : Nat → Int64) (ck : Nat → Nat) (sk : Nat → Nat) (hk1 : kn = 1) (hf0 : fo = 0) (hz4 : zs ≤ 4) (hr8 : rn ≤ 8) (hyn : yn ≤ 8) (hs4 : sp ≤ 4) (hck : ∀ j, ck j < 8) (hsk : ∀ j, sk j < 12) (hbx : bxh yf yn sp zs) : cx_M l s0 D kl y_M_find b_M_find 4 none ({ frames := 3, cells := 0, slots := 0, locals := 77 } : Room) 0 0 [.ref m0] [(m0, .inr (7, [.int th, .int (nI zs), .int (nI rn), .ref rw, .int (nI kn), .int rk, .int (nI yn), .ref ry, .int (nI sp), .int lg, .ref ti, .int (nI fo), .int pt, .ref po, .ref su, .ref sq, .ref ch, .ref vt, .ref sh])), (rw, .inl (cI, 32, .inl wf)), (ry, .inl (cI, 256, .inl yf)), (po, .inl (cI, 4000, .inl pf)), (vt, .inl (cI, 4, .inl vf)), (su, .inl (cZ, 1000, .inl sf)), (sq, .inl (cJ, 256, .inr (.inl qf))), (ch, .inl (cI, 8, .inl (nf ck))), (sh, .inl (cI, 4, .inl (nf sk)))] sz (fun o9 _ w9 => ∃ (pt9 : Nat) (pf9 : Nat → Int32) (vf9 : Nat → Int32) (sf9 : Nat → Int32) (q9 : Nat → Int64) (c9 : Nat → Nat) (s9 : Nat → Nat), o9 = .returned none ∧ KMp wf rn zs yn yf sp pt9 pf9 ∧ pt9 ≤ 1000 ∧ (∀ j, c9 j < 8) ∧ (∀ j, s9 j < 12) ∧ w9 = [(m0, .inr (7, [.int th, .int (nI zs), .int (nI rn), .ref rw, .int (nI kn), .int rk, .int (nI yn), .ref ry, .int (nI sp), .int lg, .ref ti, .int (1 : Int32), .int (nI pt9), .ref po, .ref su, .ref sq, .ref ch, .ref vt, .ref sh])), (rw, .inl (cI, 32, .inl wf)), (ry, .inl (cI, 256, .inl yf)), (po, .inl (cI, 4000, .inl pf9)), (vt, .inl (cI, 4, .inl vf9)), (su, .inl (cZ, 1000, .inl sf9)), (sq, .inl (cJ, 256, .inr (.inl q9))), (ch, .inl (cI, 8, .inl (nf c9))), (sh, .inl (cI, 4, .inl (nf s9)))]) := by
  refine tx_ofW (cc := b_M_find) (maxL := 4) (ret := none) (by decide) rfl ?_
  intro p e s m args below meth c s₁ B hml hT hv
  obtain ⟨rfl, hsz, hP, hD0, hx0⟩ := hv
  have hx := B.exec
  have hb := B.bytes
  have hr := B.returns
  have G := E.2.1
  have hown : s.vm.findClass cn_M = some m.cls := findClass_of_methodNamed B.named
  have hlocks := B.notSynchronized
  have hK := va_K.moved hx0.1.alike E.2.2.1
  have hf_M : ∀ w99 ∈ u_ws cn_M ft_M 19, w99.before ([.ref m0] : List Value).toArray s = true := fun w99 h99 => gw.at G hx0 (fw_M w99 h99) (fo_M w99 h99) _
  subst hsz
  have hA0 := cx_new hD0 hx0.2.1
  have hD := hD0.self (sz := s.heap.size)
  generalize hAe : va_A [(m0, .inr (7, [.int th, .int (nI zs), .int (nI rn), .ref rw, .int (nI kn), .int rk, .int (nI yn), .ref ry, .int (nI sp), .int lg, .ref ti, .int (nI fo), .int pt, .ref po, .ref su, .ref sq, .ref ch, .ref vt, .ref sh])), (rw, .inl (cI, 32, .inl wf)), (ry, .inl (cI, 256, .inl yf)), (po, .inl (cI, 4000, .inl pf)), (vt, .inl (cI, 4, .inl vf)), (su, .inl (cZ, 1000, .inl sf)), (sq, .inl (cJ, 256, .inr (.inl qf))), (ch, .inl (cI, 8, .inl (nf ck))), (sh, .inl (cI, 4, .inl (nf sk)))] s.heap.size = A at hD hA0 ⊢
  have hA : ∀ q : Nat, s.heap.size ≤ q → A q := fun q h => by rw [← hAe]; exact Or.inr h
  have hS : va_S A s.heap s.heap [] := va_S.rf
  have hl := lv_entry ([.ref m0]) (n := 4) (Nat.le_of_ble_eq_true rfl)
  rw [lg_entry_eq]
  generalize (lg_sl ([.ref m0]) ++ List.replicate (4 - (lg_sl ([.ref m0])).length) Slot.unset).toArray = ls at hl ⊢
  have hl : lv_has ls 4 [(0, .ref m0)] := hl
  have hP : va_P D kl [(m0, .inr (7, [.int th, .int (nI zs), .int (nI rn), .ref rw, .int (nI kn), .int rk, .int (nI yn), .ref ry, .int (nI sp), .int lg, .ref ti, .int (nI fo), .int pt, .ref po, .ref su, .ref sq, .ref ch, .ref vt, .ref sh])), (rw, .inl (cI, 32, .inl wf)), (ry, .inl (cI, 256, .inl yf)), (po, .inl (cI, 4000, .inl pf)), (vt, .inl (cI, 4, .inl vf)), (su, .inl (cZ, 1000, .inl sf)), (sq, .inl (cJ, 256, .inr (.inl qf))), (ch, .inl (cI, 8, .inl (nf ck))), (sh, .inl (cI, 4, .inl (nf sk)))] s.heap := hP
  have hml : c.maxLocals = 4 := hml
  have h2n : 2 ^ yn ≤ 2 ^ 8 := Nat.pow_le_pow_right (by decide) hyn
  generalize hQe : tx_Z below (cx_Q D kl A (fun o9 _ w9 => ∃ (pt9 : Nat) (pf9 : Nat → Int32) (vf9 : Nat → Int32) (sf9 : Nat → Int32) (q9 : Nat → Int64) (c9 : Nat → Nat) (s9 : Nat → Nat), o9 = .returned none ∧ KMp wf rn zs yn yf sp pt9 pf9 ∧ pt9 ≤ 1000 ∧ (∀ j, c9 j < 8) ∧ (∀ j, s9 j < 12) ∧ w9 = [(m0, .inr (7, [.int th, .int (nI zs), .int (nI rn), .ref rw, .int (nI kn), .int rk, .int (nI yn), .ref ry, .int (nI sp), .int lg, .ref ti, .int (1 : Int32), .int (nI pt9), .ref po, .ref su, .ref sq, .ref ch, .ref vt, .ref sh])), (rw, .inl (cI, 32, .inl wf)), (ry, .inl (cI, 256, .inl yf)), (po, .inl (cI, 4000, .inl pf9)), (vt, .inl (cI, 4, .inl vf9)), (su, .inl (cZ, 1000, .inl sf9)), (sq, .inl (cJ, 256, .inr (.inl q9))), (ch, .inl (cI, 8, .inl (nf c9))), (sh, .inl (cI, 4, .inl (nf s9)))])) ([.ref m0] : List Value).toArray s 0 0 A = Q
  refine lv_aload_n hx hb d_M_find_0 rfl (lv_at hl 0 rfl) ?_
  refine cx_call (D := D) (cl := kl) (ws := _) (wc := [(m0, .inr (7, [.int th, .int (nI zs), .int (nI rn), .ref rw, .int (nI kn), .int rk, .int (nI yn), .ref ry, .int (nI sp), .int lg, .ref ti, .int (nI fo), .int pt, .ref po, .ref su, .ref sq, .ref ch, .ref vt, .ref sh]))]) (wr := [(rw, .inl (cI, 32, .inl wf)), (ry, .inl (cI, 256, .inl yf)), (po, .inl (cI, 4000, .inl pf)), (vt, .inl (cI, 4, .inl vf)), (su, .inl (cZ, 1000, .inl sf)), (sq, .inl (cJ, 256, .inr (.inl qf))), (ch, .inl (cI, 8, .inl (nf ck))), (sh, .inl (cI, 4, .inl (nf sk)))]) (tx_runV (C := cn_M) (b := m0) (As := []) (rest := []) hx hb hml hown (c_M_know_k E s.heap.size m0 rw ry ti po su sq ch vt sh th (nI zs) (nI rn) rk (nI yn) (nI sp) lg (nI fo) pt kn hk1) (cx_C (b0 := b0) G hx0 mw_806 mw_9 ny_M_know (by decide)) (gw.at G hx0 mw_803 rfl _) (gw.at G hx0 mw_805 rfl _) (gw.at G hx0 ms_M_know rfl _) ⟨cx_blind, va_recv hK hP (q0 := 0) (ci := 7) (q := (cn_M, ft_M, 19)) rfl rfl, (cx_pre (s := s) hx0 hP hD hS hA0 [0] rfl rfl (by decide))⟩ rfl rfl hl.1 rfl (lv_room (Nat.le_of_ble_eq_true rfl)) d_M_find_1 ⟨by decide, by decide⟩) hP hD hS hA [0] [1, 2, 3, 4, 5, 6, 7, 8] rfl rfl (by decide) (by decide) (fun v t w1 H locs ht hW9 hp hP hD hS => ?_) (fun x t w1 H locs ht hW9 hp hP hD hS => by obtain ⟨h9, -⟩ := hp; cases h9)
  obtain ⟨h9, rfl⟩ := hp
  cases h9
  refine W.eq (g2 := F0 m 4 ls []) rfl ?_
  refine W.widen (k := 0) (n := 0) (by decide) (by decide) ?_
  have hP : va_P D kl [(rw, .inl (cI, 32, .inl wf)), (ry, .inl (cI, 256, .inl yf)), (po, .inl (cI, 4000, .inl pf)), (vt, .inl (cI, 4, .inl vf)), (su, .inl (cZ, 1000, .inl sf)), (sq, .inl (cJ, 256, .inr (.inl qf))), (ch, .inl (cI, 8, .inl (nf ck))), (sh, .inl (cI, 4, .inl (nf sk))), (m0, .inr (7, [.int th, .int (nI zs), .int (nI rn), .ref rw, .int (nI kn), .int rk, .int (nI yn), .ref ry, .int (nI sp), .int lg, .ref ti, .int (nI fo), .int pt, .ref po, .ref su, .ref sq, .ref ch, .ref vt, .ref sh]))] H := hP
  have hD : va_D A [(rw, .inl (cI, 32, .inl wf)), (ry, .inl (cI, 256, .inl yf)), (po, .inl (cI, 4000, .inl pf)), (vt, .inl (cI, 4, .inl vf)), (su, .inl (cZ, 1000, .inl sf)), (sq, .inl (cJ, 256, .inr (.inl qf))), (ch, .inl (cI, 8, .inl (nf ck))), (sh, .inl (cI, 4, .inl (nf sk))), (m0, .inr (7, [.int th, .int (nI zs), .int (nI rn), .ref rw, .int (nI kn), .int rk, .int (nI yn), .ref ry, .int (nI sp), .int lg, .ref ti, .int (nI fo), .int pt, .ref po, .ref su, .ref sq, .ref ch, .ref vt, .ref sh]))] := hD
  refine lv_aload_n hx hb d_M_find_4 rfl (lv_at hl 0 rfl) ?_
  refine va_get (D := D) (ci := 7) (v := .int (nI fo)) (C := cn_M) (T := ft_M) (N := 19) hx hb hf_M (fun _ h => h) hown hK hP 8 rfl rfl 11 (by decide) (gw.at G hx0 mw_724 rfl _) (fun _ h9 => h9) rfl d_M_find_5 ?_
  refine lv_if_eq (tgt := 12) hx hb d_M_find_8 (by decide) (fun _ => ?_) (fun h99 => absurd h99 (not_not_intro ((nI_eq (a := fo) (b := 0) (by omega) (by omega)).mpr (by omega))))
  refine lv_aload_n hx hb d_M_find_12 rfl (lv_at hl 0 rfl) ?_
  refine lv_iconst (v := (1 : Int32)) hx hb d_M_find_13 (by decide) ?_
  refine va_put (D := D) (ci := 7) (v := .int (1 : Int32)) (ty := .boolean) (C := cn_M) (T := ft_M) (N := 19) hx hb hf_M (fun _ h => h) fy_M fk_M fn_M hown hK hP hD hS 8 rfl rfl 11 (by decide) (gw.at G hx0 mw_724 rfl _) (fun _ h9 => h9) rfl (by decide +kernel) rfl rfl (Nat.le_of_ble_eq_true rfl) d_M_find_14 (fun H locs hP hD hS => ?_)
  have hP : va_P D kl [(rw, .inl (cI, 32, .inl wf)), (ry, .inl (cI, 256, .inl yf)), (po, .inl (cI, 4000, .inl pf)), (vt, .inl (cI, 4, .inl vf)), (su, .inl (cZ, 1000, .inl sf)), (sq, .inl (cJ, 256, .inr (.inl qf))), (ch, .inl (cI, 8, .inl (nf ck))), (sh, .inl (cI, 4, .inl (nf sk))), (m0, .inr (7, [.int th, .int (nI zs), .int (nI rn), .ref rw, .int (nI kn), .int rk, .int (nI yn), .ref ry, .int (nI sp), .int lg, .ref ti, .int (1 : Int32), .int pt, .ref po, .ref su, .ref sq, .ref ch, .ref vt, .ref sh]))] H := hP
  have hD : va_D A [(rw, .inl (cI, 32, .inl wf)), (ry, .inl (cI, 256, .inl yf)), (po, .inl (cI, 4000, .inl pf)), (vt, .inl (cI, 4, .inl vf)), (su, .inl (cZ, 1000, .inl sf)), (sq, .inl (cJ, 256, .inr (.inl qf))), (ch, .inl (cI, 8, .inl (nf ck))), (sh, .inl (cI, 4, .inl (nf sk))), (m0, .inr (7, [.int th, .int (nI zs), .int (nI rn), .ref rw, .int (nI kn), .int rk, .int (nI yn), .ref ry, .int (nI sp), .int lg, .ref ti, .int (1 : Int32), .int pt, .ref po, .ref su, .ref sq, .ref ch, .ref vt, .ref sh]))] := hD
  refine lv_aload_n hx hb d_M_find_17 rfl (lv_at hl 0 rfl) ?_
  refine lv_iconst (v := (0 : Int32)) hx hb d_M_find_18 (by decide) ?_
  refine va_put (D := D) (ci := 7) (v := .int (0 : Int32)) (ty := .int) (C := cn_M) (T := ft_M) (N := 19) hx hb hf_M (fun _ h => h) fy_M fk_M fn_M hown hK hP hD hS 8 rfl rfl 12 (by decide) (gw.at G hx0 mw_725 rfl _) (fun _ h9 => h9) rfl (by decide +kernel) rfl rfl (Nat.le_of_ble_eq_true rfl) d_M_find_19 (fun H locs hP hD hS => ?_)
  have hP : va_P D kl [(rw, .inl (cI, 32, .inl wf)), (ry, .inl (cI, 256, .inl yf)), (po, .inl (cI, 4000, .inl pf)), (vt, .inl (cI, 4, .inl vf)), (su, .inl (cZ, 1000, .inl sf)), (sq, .inl (cJ, 256, .inr (.inl qf))), (ch, .inl (cI, 8, .inl (nf ck))), (sh, .inl (cI, 4, .inl (nf sk))), (m0, .inr (7, [.int th, .int (nI zs), .int (nI rn), .ref rw, .int (nI kn), .int rk, .int (nI yn), .ref ry, .int (nI sp), .int lg, .ref ti, .int (1 : Int32), .int (0 : Int32), .ref po, .ref su, .ref sq, .ref ch, .ref vt, .ref sh]))] H := hP
  have hD : va_D A [(rw, .inl (cI, 32, .inl wf)), (ry, .inl (cI, 256, .inl yf)), (po, .inl (cI, 4000, .inl pf)), (vt, .inl (cI, 4, .inl vf)), (su, .inl (cZ, 1000, .inl sf)), (sq, .inl (cJ, 256, .inr (.inl qf))), (ch, .inl (cI, 8, .inl (nf ck))), (sh, .inl (cI, 4, .inl (nf sk))), (m0, .inr (7, [.int th, .int (nI zs), .int (nI rn), .ref rw, .int (nI kn), .int rk, .int (nI yn), .ref ry, .int (nI sp), .int lg, .ref ti, .int (1 : Int32), .int (0 : Int32), .ref po, .ref su, .ref sq, .ref ch, .ref vt, .ref sh]))] := hD
  refine lv_iconst (v := (0 : Int32)) hx hb d_M_find_22 (by decide) ?_
  refine lv_istore_n (lv' := [(1, .int (0 : Int32)), (0, .ref m0)]) hx hb d_M_find_23 rfl hl (by decide) rfl (fun ls hl => ?_)
  have lp_24 : ∀ (n9 : Nat) (k : Nat) (n1 : Nat) (f1 : Nat → Int32) (v1 : Nat → Int32) (ls : Array Slot) (H : Heap) (locs : List Loc), yn - k = n9 → (fpr yf (nI zs) k ((0, pf), vf) = ((n1, f1), v1)) → (k ≤ yn) → (n1 ≤ 1000) → lv_has ls 4 [(1, .int (nI k)), (0, .ref m0)] → va_P D kl [(rw, .inl (cI, 32, .inl wf)), (ry, .inl (cI, 256, .inl yf)), (po, .inl (cI, 4000, .inl f1)), (vt, .inl (cI, 4, .inl v1)), (su, .inl (cZ, 1000, .inl sf)), (sq, .inl (cJ, 256, .inr (.inl qf))), (ch, .inl (cI, 8, .inl (nf ck))), (sh, .inl (cI, 4, .inl (nf sk))), (m0, .inr (7, [.int th, .int (nI zs), .int (nI rn), .ref rw, .int (nI kn), .int rk, .int (nI yn), .ref ry, .int (nI sp), .int lg, .ref ti, .int (1 : Int32), .int (nI n1), .ref po, .ref su, .ref sq, .ref ch, .ref vt, .ref sh]))] H → va_D A [(rw, .inl (cI, 32, .inl wf)), (ry, .inl (cI, 256, .inl yf)), (po, .inl (cI, 4000, .inl f1)), (vt, .inl (cI, 4, .inl v1)), (su, .inl (cZ, 1000, .inl sf)), (sq, .inl (cJ, 256, .inr (.inl qf))), (ch, .inl (cI, 8, .inl (nf ck))), (sh, .inl (cI, 4, .inl (nf sk))), (m0, .inr (7, [.int th, .int (nI zs), .int (nI rn), .ref rw, .int (nI kn), .int rk, .int (nI yn), .ref ry, .int (nI sp), .int lg, .ref ti, .int (1 : Int32), .int (nI n1), .ref po, .ref su, .ref sq, .ref ch, .ref vt, .ref sh]))] → va_S A s.heap H locs → W p l e ({ frames := 3, cells := 0, slots := 0, locals := 77 } : Room) s m ([.ref m0] : List Value).toArray below meth c H locs 0 0 Q (F0 m 24 ls []) := by
    intro n9
    induction n9 using Nat.strongRecOn with
    | ind n9 ih_24 =>
      intro k n1 f1 v1 ls H locs hm_24 hfp hk9 hn1 hl hP hD hS
      refine lv_iload_n hx hb d_M_find_24 rfl (lv_at hl 0 rfl) ?_
      refine lv_aload_n hx hb d_M_find_25 rfl (lv_at hl 1 rfl) ?_
      refine va_get (D := D) (ci := 7) (v := .int (nI yn)) (C := cn_M) (T := ft_M) (N := 19) hx hb hf_M (fun _ h => h) hown hK hP 8 rfl rfl 6 (by decide) (gw.at G hx0 mw_719 rfl _) (fun _ h9 => h9) rfl d_M_find_26 ?_
      refine lv_icmp_ge (tgt := 84) hx hb d_M_find_29 (by decide) (fun h_1 => ?_) (fun h_1 => ?_)
      · have h_1 : yn ≤ k := (nI_leI (a := yn) (b := k) (by omega) (by omega)).mp h_1
        have hkk : k = yn := by omega
        rw [hkk] at hfp
        refine lv_iconst (v := (1 : Int32)) hx hb d_M_find_84 (by decide) ?_
        refine lv_istore_n (lv' := [(1, .int (1 : Int32)), (0, .ref m0)]) hx hb d_M_find_85 rfl hl (by decide) rfl (fun ls hl => ?_)
        have lp_86 : ∀ (n9 : Nat) (m2 : Nat) (n2 : Nat) (f2 : Nat → Int32) (v2 : Nat → Int32) (s2 : Nat → Nat) (c2 : Nat → Nat) (q2 : Nat → Int64) (ls : Array Slot) (H : Heap) (locs : List Loc), 2 ^ yn - (1 + m2) = n9 → (fps yf yn sp zs m2 (((n1, f1), v1, sk), ck, qf) = (((n2, f2), v2, s2), c2, q2)) → (m2 ≤ 2 ^ yn - 1) → (n2 ≤ 1000) → (∀ j, s2 j < 12) → (∀ j, c2 j < 8) → lv_has ls 4 [(1, .int (nI (1 + m2))), (0, .ref m0)] → va_P D kl [(rw, .inl (cI, 32, .inl wf)), (ry, .inl (cI, 256, .inl yf)), (po, .inl (cI, 4000, .inl f2)), (vt, .inl (cI, 4, .inl v2)), (su, .inl (cZ, 1000, .inl sf)), (sq, .inl (cJ, 256, .inr (.inl q2))), (ch, .inl (cI, 8, .inl (nf c2))), (sh, .inl (cI, 4, .inl (nf s2))), (m0, .inr (7, [.int th, .int (nI zs), .int (nI rn), .ref rw, .int (nI kn), .int rk, .int (nI yn), .ref ry, .int (nI sp), .int lg, .ref ti, .int (1 : Int32), .int (nI n2), .ref po, .ref su, .ref sq, .ref ch, .ref vt, .ref sh]))] H → va_D A [(rw, .inl (cI, 32, .inl wf)), (ry, .inl (cI, 256, .inl yf)), (po, .inl (cI, 4000, .inl f2)), (vt, .inl (cI, 4, .inl v2)), (su, .inl (cZ, 1000, .inl sf)), (sq, .inl (cJ, 256, .inr (.inl q2))), (ch, .inl (cI, 8, .inl (nf c2))), (sh, .inl (cI, 4, .inl (nf s2))), (m0, .inr (7, [.int th, .int (nI zs), .int (nI rn), .ref rw, .int (nI kn), .int rk, .int (nI yn), .ref ry, .int (nI sp), .int lg, .ref ti, .int (1 : Int32), .int (nI n2), .ref po, .ref su, .ref sq, .ref ch, .ref vt, .ref sh]))] → va_S A s.heap H locs → W p l e ({ frames := 3, cells := 0, slots := 0, locals := 77 } : Room) s m ([.ref m0] : List Value).toArray below meth c H locs 0 0 Q (F0 m 86 ls []) := by
          intro n9
          induction n9 using Nat.strongRecOn with
          | ind n9 ih_86 =>
            intro m2 n2 f2 v2 s2 c2 q2 ls H locs hm_86 hfs hm9 hn2 hs2 hc2 hl hP hD hS
            refine lv_iload_n hx hb d_M_find_86 rfl (lv_at hl 0 rfl) ?_
            refine lv_iconst (v := (1 : Int32)) hx hb d_M_find_87 (by decide) ?_
            refine lv_aload_n hx hb d_M_find_88 rfl (lv_at hl 1 rfl) ?_
            refine va_get (D := D) (ci := 7) (v := .int (nI yn)) (C := cn_M) (T := ft_M) (N := 19) hx hb hf_M (fun _ h => h) hown hK hP 8 rfl rfl 6 (by decide) (gw.at G hx0 mw_719 rfl _) (fun _ h9 => h9) rfl d_M_find_89 ?_
            refine lv_ishl hx hb d_M_find_92 ?_
            refine tp_i (y := nI (2 ^ yn)) (nI_shl (k := yn) (by omega)) ?_
            refine lv_icmp_ge (tgt := 126) hx hb d_M_find_93 (by decide) (fun h_2 => ?_) (fun h_2 => ?_)
            · have h_2 : (2 ^ yn) ≤ (1 + m2) := (nI_leI (a := 2 ^ yn) (b := 1 + m2) (by omega) (by omega)).mp h_2
              have hmm : m2 = 2 ^ yn - 1 := by omega
              rw [hmm] at hfs
              refine lv_iconst (v := (0 : Int32)) hx hb d_M_find_126 (by decide) ?_
              refine lv_istore_n (lv' := [(1, .int (0 : Int32)), (0, .ref m0)]) hx hb d_M_find_127 rfl hl (by decide) rfl (fun ls hl => ?_)
              have lp_128 : ∀ (n9 : Nat) (k4 : Nat) (u1 : Nat → Int32) (ls : Array Slot) (H : Heap) (locs : List Loc), n2 - k4 = n9 → (k4 ≤ n2) → (∀ q9, q9 < k4 → (u1 q9 = 1 ∧ smd wf f2 rn n2 q9) ∨ (u1 q9 = 0 ∧ ¬ smd wf f2 rn n2 q9)) → lv_has ls 4 [(1, .int (nI k4)), (0, .ref m0)] → va_P D kl [(rw, .inl (cI, 32, .inl wf)), (ry, .inl (cI, 256, .inl yf)), (po, .inl (cI, 4000, .inl f2)), (vt, .inl (cI, 4, .inl v2)), (su, .inl (cZ, 1000, .inl u1)), (sq, .inl (cJ, 256, .inr (.inl q2))), (ch, .inl (cI, 8, .inl (nf c2))), (sh, .inl (cI, 4, .inl (nf s2))), (m0, .inr (7, [.int th, .int (nI zs), .int (nI rn), .ref rw, .int (nI kn), .int rk, .int (nI yn), .ref ry, .int (nI sp), .int lg, .ref ti, .int (1 : Int32), .int (nI n2), .ref po, .ref su, .ref sq, .ref ch, .ref vt, .ref sh]))] H → va_D A [(rw, .inl (cI, 32, .inl wf)), (ry, .inl (cI, 256, .inl yf)), (po, .inl (cI, 4000, .inl f2)), (vt, .inl (cI, 4, .inl v2)), (su, .inl (cZ, 1000, .inl u1)), (sq, .inl (cJ, 256, .inr (.inl q2))), (ch, .inl (cI, 8, .inl (nf c2))), (sh, .inl (cI, 4, .inl (nf s2))), (m0, .inr (7, [.int th, .int (nI zs), .int (nI rn), .ref rw, .int (nI kn), .int rk, .int (nI yn), .ref ry, .int (nI sp), .int lg, .ref ti, .int (1 : Int32), .int (nI n2), .ref po, .ref su, .ref sq, .ref ch, .ref vt, .ref sh]))] → va_S A s.heap H locs → W p l e ({ frames := 3, cells := 0, slots := 0, locals := 77 } : Room) s m ([.ref m0] : List Value).toArray below meth c H locs 0 0 Q (F0 m 128 ls []) := by
                intro n9
                induction n9 using Nat.strongRecOn with
                | ind n9 ih_128 =>
                  intro k4 u1 ls H locs hm_128 hk4 hin4 hl hP hD hS
                  refine lv_iload_n hx hb d_M_find_128 rfl (lv_at hl 0 rfl) ?_
                  refine lv_aload_n hx hb d_M_find_129 rfl (lv_at hl 1 rfl) ?_
                  refine va_get (D := D) (ci := 7) (v := .int (nI n2)) (C := cn_M) (T := ft_M) (N := 19) hx hb hf_M (fun _ h => h) hown hK hP 8 rfl rfl 12 (by decide) (gw.at G hx0 mw_725 rfl _) (fun _ h9 => h9) rfl d_M_find_130 ?_
                  refine lv_icmp_ge (tgt := 199) hx hb d_M_find_133 (by decide) (fun h_3 => ?_) (fun h_3 => ?_)
                  · have h_3 : n2 ≤ k4 := (nI_leI (a := n2) (b := k4) (by omega) (by omega)).mp h_3
                    have hk42 : k4 = n2 := by omega
                    rw [hk42] at hin4
                    refine lv_iconst (v := (0 : Int32)) hx hb d_M_find_199 (by decide) ?_
                    refine lv_istore_n (lv' := [(1, .int (0 : Int32)), (0, .ref m0)]) hx hb d_M_find_200 rfl hl (by decide) rfl (fun ls hl => ?_)
                    refine lv_iconst (v := (0 : Int32)) hx hb d_M_find_201 (by decide) ?_
                    refine lv_istore_n (lv' := [(2, .int (0 : Int32)), (1, .int (0 : Int32)), (0, .ref m0)]) hx hb d_M_find_202 rfl hl (by decide) rfl (fun ls hl => ?_)
                    have lp_203 : ∀ (n9 : Nat) (k5 : Nat) (n5 : Nat) (f5 : Nat → Int32) (ls : Array Slot) (H : Heap) (locs : List Loc), n2 - k5 = n9 → (cmq wf f2 rn n2 k5 (0, f2) = (n5, f5)) → (k5 ≤ n2) → (n5 ≤ k5) → lv_has ls 4 [(2, .int (nI k5)), (1, .int (nI n5)), (0, .ref m0)] → va_P D kl [(rw, .inl (cI, 32, .inl wf)), (ry, .inl (cI, 256, .inl yf)), (po, .inl (cI, 4000, .inl f5)), (vt, .inl (cI, 4, .inl v2)), (su, .inl (cZ, 1000, .inl u1)), (sq, .inl (cJ, 256, .inr (.inl q2))), (ch, .inl (cI, 8, .inl (nf c2))), (sh, .inl (cI, 4, .inl (nf s2))), (m0, .inr (7, [.int th, .int (nI zs), .int (nI rn), .ref rw, .int (nI kn), .int rk, .int (nI yn), .ref ry, .int (nI sp), .int lg, .ref ti, .int (1 : Int32), .int (nI n2), .ref po, .ref su, .ref sq, .ref ch, .ref vt, .ref sh]))] H → va_D A [(rw, .inl (cI, 32, .inl wf)), (ry, .inl (cI, 256, .inl yf)), (po, .inl (cI, 4000, .inl f5)), (vt, .inl (cI, 4, .inl v2)), (su, .inl (cZ, 1000, .inl u1)), (sq, .inl (cJ, 256, .inr (.inl q2))), (ch, .inl (cI, 8, .inl (nf c2))), (sh, .inl (cI, 4, .inl (nf s2))), (m0, .inr (7, [.int th, .int (nI zs), .int (nI rn), .ref rw, .int (nI kn), .int rk, .int (nI yn), .ref ry, .int (nI sp), .int lg, .ref ti, .int (1 : Int32), .int (nI n2), .ref po, .ref su, .ref sq, .ref ch, .ref vt, .ref sh]))] → va_S A s.heap H locs → W p l e ({ frames := 3, cells := 0, slots := 0, locals := 77 } : Room) s m ([.ref m0] : List Value).toArray below meth c H locs 0 0 Q (F0 m 203 ls []) := by
                      intro n9
                      induction n9 using Nat.strongRecOn with
                      | ind n9 ih_203 =>
                        intro k5 n5 f5 ls H locs hm_203 hcm hk5 hn5 hl hP hD hS
                        refine lv_iload_n hx hb d_M_find_203 rfl (lv_at hl 0 rfl) ?_
                        refine lv_aload_n hx hb d_M_find_204 rfl (lv_at hl 2 rfl) ?_
                        refine va_get (D := D) (ci := 7) (v := .int (nI n2)) (C := cn_M) (T := ft_M) (N := 19) hx hb hf_M (fun _ h => h) hown hK hP 8 rfl rfl 12 (by decide) (gw.at G hx0 mw_725 rfl _) (fun _ h9 => h9) rfl d_M_find_205 ?_
                        refine lv_icmp_ge (tgt := 262) hx hb d_M_find_208 (by decide) (fun h_4 => ?_) (fun h_4 => ?_)
                        · have h_4 : n2 ≤ k5 := (nI_leI (a := n2) (b := k5) (by omega) (by omega)).mp h_4
                          refine lv_aload_n hx hb d_M_find_262 rfl (lv_at hl 2 rfl) ?_
                          refine lv_iload_n hx hb d_M_find_263 rfl (lv_at hl 1 rfl) ?_
                          refine va_put (D := D) (ci := 7) (v := .int (nI n5)) (ty := .int) (C := cn_M) (T := ft_M) (N := 19) hx hb hf_M (fun _ h => h) fy_M fk_M fn_M hown hK hP hD hS 8 rfl rfl 12 (by decide) (gw.at G hx0 mw_725 rfl _) (fun _ h9 => h9) rfl (by decide +kernel) rfl rfl (Nat.le_of_ble_eq_true rfl) d_M_find_264 (fun H locs hP hD hS => ?_)
                          have hP : va_P D kl [(rw, .inl (cI, 32, .inl wf)), (ry, .inl (cI, 256, .inl yf)), (po, .inl (cI, 4000, .inl f5)), (vt, .inl (cI, 4, .inl v2)), (su, .inl (cZ, 1000, .inl u1)), (sq, .inl (cJ, 256, .inr (.inl q2))), (ch, .inl (cI, 8, .inl (nf c2))), (sh, .inl (cI, 4, .inl (nf s2))), (m0, .inr (7, [.int th, .int (nI zs), .int (nI rn), .ref rw, .int (nI kn), .int rk, .int (nI yn), .ref ry, .int (nI sp), .int lg, .ref ti, .int (1 : Int32), .int (nI n5), .ref po, .ref su, .ref sq, .ref ch, .ref vt, .ref sh]))] H := hP
                          have hD : va_D A [(rw, .inl (cI, 32, .inl wf)), (ry, .inl (cI, 256, .inl yf)), (po, .inl (cI, 4000, .inl f5)), (vt, .inl (cI, 4, .inl v2)), (su, .inl (cZ, 1000, .inl u1)), (sq, .inl (cJ, 256, .inr (.inl q2))), (ch, .inl (cI, 8, .inl (nf c2))), (sh, .inl (cI, 4, .inl (nf s2))), (m0, .inr (7, [.int th, .int (nI zs), .int (nI rn), .ref rw, .int (nI kn), .int rk, .int (nI yn), .ref ry, .int (nI sp), .int lg, .ref ti, .int (1 : Int32), .int (nI n5), .ref po, .ref su, .ref sq, .ref ch, .ref vt, .ref sh]))] := hD
                          rw [← hQe]
                          exact tx_mono (fun _ h => tx_Z.of h) (W.vret hx hb hr (fun t ht hW => ⟨⟨[(m0, .inr (7, [.int th, .int (nI zs), .int (nI rn), .ref rw, .int (nI kn), .int rk, .int (nI yn), .ref ry, .int (nI sp), .int lg, .ref ti, .int (1 : Int32), .int (nI n5), .ref po, .ref su, .ref sq, .ref ch, .ref vt, .ref sh])), (rw, .inl (cI, 32, .inl wf)), (ry, .inl (cI, 256, .inl yf)), (po, .inl (cI, 4000, .inl f5)), (vt, .inl (cI, 4, .inl v2)), (su, .inl (cZ, 1000, .inl u1)), (sq, .inl (cJ, 256, .inr (.inl q2))), (ch, .inl (cI, 8, .inl (nf c2))), (sh, .inl (cI, 4, .inl (nf s2)))], ⟨n5, f5, v2, u1, q2, c2, s2, rfl, ⟨pf, vf, f1, v1, f2, v2, sk, s2, ck, c2, qf, q2, n1, n2, hck, hfp, hfs, hn2, (show k5 = n2 by omega) ▸ hcm⟩, by omega, hc2, hs2, rfl⟩, by rw [ht]; exact hP.sub [8, 0, 1, 2, 3, 4, 5, 6, 7] rfl, hD.sub [8, 0, 1, 2, 3, 4, 5, 6, 7] (by decide) rfl⟩, hS.F ht⟩) hS.2.2 d_M_find_267)
                        · have h_4 : ¬ (n2 ≤ k5) := fun z99 => h_4 ((nI_leI (a := n2) (b := k5) (by omega) (by omega)).mpr z99)
                          refine lv_aload_n hx hb d_M_find_211 rfl (lv_at hl 2 rfl) ?_
                          refine va_get (D := D) (ci := 7) (v := .ref su) (C := cn_M) (T := ft_M) (N := 19) hx hb hf_M (fun _ h => h) hown hK hP 8 rfl rfl 14 (by decide) (gw.at G hx0 mw_727 rfl _) (fun _ h9 => h9) rfl d_M_find_212 ?_
                          refine lv_iload_n hx hb d_M_find_215 rfl (lv_at hl 0 rfl) ?_
                          refine va_zald hx hb hK hP 4 2 rfl rfl (vp_in_nI (n := k5) (by omega) (by omega)) d_M_find_216 ?_
                          refine tp_i (y := u1 k5) (congrArg u1 (nI_clamp (n := k5) (by omega))) ?_
                          refine lv_if_ne (tgt := 256) hx hb d_M_find_217 (by decide) (fun h_5 => ?_) (fun h_5 => ?_)
                          · refine lv_iinc (lv' := [(2, .int (nI (k5 + 1))), (1, .int (nI n5)), (0, .ref m0)]) (k := 0) (v := nI (k5 + 1)) hx hb d_M_find_256 hl rfl (nI_add k5 1) (by decide) rfl (fun ls hl => ?_)
                            refine lv_goto (tgt := 203) hx hb d_M_find_259 (by decide) ?_
                            exact ih_203 _ (by omega) (k5 + 1) n5 f5 ls H locs rfl (cmq_y hcm ((hin4 k5 (by omega)).elim (fun z9 => z9.2) (fun z9 => absurd z9.1 h_5))) (by omega) (by omega) (lv_sub hl [0, 1, 2] rfl) (hP.sub [0, 1, 2, 3, 4, 5, 6, 7, 8] rfl) (hD.sub [0, 1, 2, 3, 4, 5, 6, 7, 8] (by decide) rfl) hS
                          · refine lv_iconst (v := (0 : Int32)) hx hb d_M_find_220 (by decide) ?_
                            refine lv_istore_n (lv' := [(3, .int (0 : Int32)), (2, .int (nI k5)), (1, .int (nI n5)), (0, .ref m0)]) hx hb d_M_find_221 rfl hl (by decide) rfl (fun ls hl => ?_)
                            refine lv_iload_n hx hb d_M_find_222 rfl (lv_at hl 0 rfl) ?_
                            refine lv_iconst (v := (4 : Int32)) hx hb d_M_find_223 (by decide) ?_
                            refine lv_icmp_ge (tgt := 253) hx hb d_M_find_224 (by decide) (fun h99 => absurd h99 (by decide)) (fun _ => ?_)
                            refine lv_aload_n hx hb d_M_find_227 rfl (lv_at hl 3 rfl) ?_
                            refine va_get (D := D) (ci := 7) (v := .ref po) (C := cn_M) (T := ft_M) (N := 19) hx hb hf_M (fun _ h => h) hown hK hP 8 rfl rfl 13 (by decide) (gw.at G hx0 mw_726 rfl _) (fun _ h9 => h9) rfl d_M_find_228 ?_
                            refine lv_iconst (v := (4 : Int32)) hx hb d_M_find_231 (by decide) ?_
                            refine lv_iload_n hx hb d_M_find_232 rfl (lv_at hl 2 rfl) ?_
                            refine lv_imul hx hb d_M_find_233 ?_
                            refine tp_i (y := nI (4 * n5)) (nI_mul 4 n5) ?_
                            refine lv_iload_n hx hb d_M_find_234 rfl (lv_at hl 0 rfl) ?_
                            refine lv_iadd hx hb d_M_find_235 ?_
                            refine tp_i (y := nI ((4 * n5) + 0)) (nI_add (4 * n5) 0) ?_
                            refine lv_aload_n hx hb d_M_find_236 rfl (lv_at hl 3 rfl) ?_
                            refine va_get (D := D) (ci := 7) (v := .ref po) (C := cn_M) (T := ft_M) (N := 19) hx hb hf_M (fun _ h => h) hown hK hP 8 rfl rfl 13 (by decide) (gw.at G hx0 mw_726 rfl _) (fun _ h9 => h9) rfl d_M_find_237 ?_
                            refine lv_iconst (v := (4 : Int32)) hx hb d_M_find_240 (by decide) ?_
                            refine lv_iload_n hx hb d_M_find_241 rfl (lv_at hl 1 rfl) ?_
                            refine lv_imul hx hb d_M_find_242 ?_
                            refine tp_i (y := nI (4 * k5)) (nI_mul 4 k5) ?_
                            refine lv_iload_n hx hb d_M_find_243 rfl (lv_at hl 0 rfl) ?_
                            refine lv_iadd hx hb d_M_find_244 ?_
                            refine tp_i (y := nI ((4 * k5) + 0)) (nI_add (4 * k5) 0) ?_
                            refine va_iald hx hb hK hP 2 0 rfl rfl (vp_in_nI (n := (4 * k5) + 0) (by omega) (by omega)) d_M_find_245 ?_
                            refine tp_i (y := f5 ((4 * k5) + 0)) (congrArg f5 (nI_clamp (n := (4 * k5) + 0) (by omega))) ?_
                            refine va_iast hx hb hK hP hD hS 2 0 rfl rfl (vp_in_nI (n := (4 * n5) + 0) (by omega) (by omega)) d_M_find_246 (fun H locs hP hD hS => ?_)
                            rw [nI_clamp (n := (4 * n5) + 0) (by omega)] at hP hD
                            have hP : va_P D kl [(rw, .inl (cI, 32, .inl wf)), (ry, .inl (cI, 256, .inl yf)), (po, .inl (cI, 4000, .inl (upd f5 ((4 * n5) + 0) (f5 ((4 * k5) + 0))))), (vt, .inl (cI, 4, .inl v2)), (su, .inl (cZ, 1000, .inl u1)), (sq, .inl (cJ, 256, .inr (.inl q2))), (ch, .inl (cI, 8, .inl (nf c2))), (sh, .inl (cI, 4, .inl (nf s2))), (m0, .inr (7, [.int th, .int (nI zs), .int (nI rn), .ref rw, .int (nI kn), .int rk, .int (nI yn), .ref ry, .int (nI sp), .int lg, .ref ti, .int (1 : Int32), .int (nI n2), .ref po, .ref su, .ref sq, .ref ch, .ref vt, .ref sh]))] H := hP
                            have hD : va_D A [(rw, .inl (cI, 32, .inl wf)), (ry, .inl (cI, 256, .inl yf)), (po, .inl (cI, 4000, .inl (upd f5 ((4 * n5) + 0) (f5 ((4 * k5) + 0))))), (vt, .inl (cI, 4, .inl v2)), (su, .inl (cZ, 1000, .inl u1)), (sq, .inl (cJ, 256, .inr (.inl q2))), (ch, .inl (cI, 8, .inl (nf c2))), (sh, .inl (cI, 4, .inl (nf s2))), (m0, .inr (7, [.int th, .int (nI zs), .int (nI rn), .ref rw, .int (nI kn), .int rk, .int (nI yn), .ref ry, .int (nI sp), .int lg, .ref ti, .int (1 : Int32), .int (nI n2), .ref po, .ref su, .ref sq, .ref ch, .ref vt, .ref sh]))] := hD
                            refine lv_iinc (lv' := [(3, .int (1 : Int32)), (2, .int (nI k5)), (1, .int (nI n5)), (0, .ref m0)]) (k := 0) (v := (1 : Int32)) hx hb d_M_find_247 hl rfl (by decide) (by decide) rfl (fun ls hl => ?_)
                            refine lv_goto (tgt := 222) hx hb d_M_find_250 (by decide) ?_
                            refine lv_iload_n hx hb d_M_find_222 rfl (lv_at hl 0 rfl) ?_
                            refine lv_iconst (v := (4 : Int32)) hx hb d_M_find_223 (by decide) ?_
                            refine lv_icmp_ge (tgt := 253) hx hb d_M_find_224 (by decide) (fun h99 => absurd h99 (by decide)) (fun _ => ?_)
                            refine lv_aload_n hx hb d_M_find_227 rfl (lv_at hl 3 rfl) ?_
                            refine va_get (D := D) (ci := 7) (v := .ref po) (C := cn_M) (T := ft_M) (N := 19) hx hb hf_M (fun _ h => h) hown hK hP 8 rfl rfl 13 (by decide) (gw.at G hx0 mw_726 rfl _) (fun _ h9 => h9) rfl d_M_find_228 ?_
                            refine lv_iconst (v := (4 : Int32)) hx hb d_M_find_231 (by decide) ?_
                            refine lv_iload_n hx hb d_M_find_232 rfl (lv_at hl 2 rfl) ?_
                            refine lv_imul hx hb d_M_find_233 ?_
                            refine tp_i (y := nI (4 * n5)) (nI_mul 4 n5) ?_
                            refine lv_iload_n hx hb d_M_find_234 rfl (lv_at hl 0 rfl) ?_
                            refine lv_iadd hx hb d_M_find_235 ?_
                            refine tp_i (y := nI ((4 * n5) + 1)) (nI_add (4 * n5) 1) ?_
                            refine lv_aload_n hx hb d_M_find_236 rfl (lv_at hl 3 rfl) ?_
                            refine va_get (D := D) (ci := 7) (v := .ref po) (C := cn_M) (T := ft_M) (N := 19) hx hb hf_M (fun _ h => h) hown hK hP 8 rfl rfl 13 (by decide) (gw.at G hx0 mw_726 rfl _) (fun _ h9 => h9) rfl d_M_find_237 ?_
                            refine lv_iconst (v := (4 : Int32)) hx hb d_M_find_240 (by decide) ?_
                            refine lv_iload_n hx hb d_M_find_241 rfl (lv_at hl 1 rfl) ?_
                            refine lv_imul hx hb d_M_find_242 ?_
                            refine tp_i (y := nI (4 * k5)) (nI_mul 4 k5) ?_
                            refine lv_iload_n hx hb d_M_find_243 rfl (lv_at hl 0 rfl) ?_
                            refine lv_iadd hx hb d_M_find_244 ?_
                            refine tp_i (y := nI ((4 * k5) + 1)) (nI_add (4 * k5) 1) ?_
                            refine va_iald hx hb hK hP 2 0 rfl rfl (vp_in_nI (n := (4 * k5) + 1) (by omega) (by omega)) d_M_find_245 ?_
                            refine tp_i (y := (upd f5 ((4 * n5) + 0) (f5 ((4 * k5) + 0))) ((4 * k5) + 1)) (congrArg (upd f5 ((4 * n5) + 0) (f5 ((4 * k5) + 0))) (nI_clamp (n := (4 * k5) + 1) (by omega))) ?_
                            refine va_iast hx hb hK hP hD hS 2 0 rfl rfl (vp_in_nI (n := (4 * n5) + 1) (by omega) (by omega)) d_M_find_246 (fun H locs hP hD hS => ?_)
                            rw [nI_clamp (n := (4 * n5) + 1) (by omega)] at hP hD
                            have hP : va_P D kl [(rw, .inl (cI, 32, .inl wf)), (ry, .inl (cI, 256, .inl yf)), (po, .inl (cI, 4000, .inl (upd (upd f5 ((4 * n5) + 0) (f5 ((4 * k5) + 0))) ((4 * n5) + 1) ((upd f5 ((4 * n5) + 0) (f5 ((4 * k5) + 0))) ((4 * k5) + 1))))), (vt, .inl (cI, 4, .inl v2)), (su, .inl (cZ, 1000, .inl u1)), (sq, .inl (cJ, 256, .inr (.inl q2))), (ch, .inl (cI, 8, .inl (nf c2))), (sh, .inl (cI, 4, .inl (nf s2))), (m0, .inr (7, [.int th, .int (nI zs), .int (nI rn), .ref rw, .int (nI kn), .int rk, .int (nI yn), .ref ry, .int (nI sp), .int lg, .ref ti, .int (1 : Int32), .int (nI n2), .ref po, .ref su, .ref sq, .ref ch, .ref vt, .ref sh]))] H := hP
                            have hD : va_D A [(rw, .inl (cI, 32, .inl wf)), (ry, .inl (cI, 256, .inl yf)), (po, .inl (cI, 4000, .inl (upd (upd f5 ((4 * n5) + 0) (f5 ((4 * k5) + 0))) ((4 * n5) + 1) ((upd f5 ((4 * n5) + 0) (f5 ((4 * k5) + 0))) ((4 * k5) + 1))))), (vt, .inl (cI, 4, .inl v2)), (su, .inl (cZ, 1000, .inl u1)), (sq, .inl (cJ, 256, .inr (.inl q2))), (ch, .inl (cI, 8, .inl (nf c2))), (sh, .inl (cI, 4, .inl (nf s2))), (m0, .inr (7, [.int th, .int (nI zs), .int (nI rn), .ref rw, .int (nI kn), .int rk, .int (nI yn), .ref ry, .int (nI sp), .int lg, .ref ti, .int (1 : Int32), .int (nI n2), .ref po, .ref su, .ref sq, .ref ch, .ref vt, .ref sh]))] := hD
                            refine lv_iinc (lv' := [(3, .int (2 : Int32)), (2, .int (nI k5)), (1, .int (nI n5)), (0, .ref m0)]) (k := 0) (v := (2 : Int32)) hx hb d_M_find_247 hl rfl (by decide) (by decide) rfl (fun ls hl => ?_)
                            refine lv_goto (tgt := 222) hx hb d_M_find_250 (by decide) ?_
                            refine lv_iload_n hx hb d_M_find_222 rfl (lv_at hl 0 rfl) ?_
                            refine lv_iconst (v := (4 : Int32)) hx hb d_M_find_223 (by decide) ?_
                            refine lv_icmp_ge (tgt := 253) hx hb d_M_find_224 (by decide) (fun h99 => absurd h99 (by decide)) (fun _ => ?_)
                            refine lv_aload_n hx hb d_M_find_227 rfl (lv_at hl 3 rfl) ?_
                            refine va_get (D := D) (ci := 7) (v := .ref po) (C := cn_M) (T := ft_M) (N := 19) hx hb hf_M (fun _ h => h) hown hK hP 8 rfl rfl 13 (by decide) (gw.at G hx0 mw_726 rfl _) (fun _ h9 => h9) rfl d_M_find_228 ?_
                            refine lv_iconst (v := (4 : Int32)) hx hb d_M_find_231 (by decide) ?_
                            refine lv_iload_n hx hb d_M_find_232 rfl (lv_at hl 2 rfl) ?_
                            refine lv_imul hx hb d_M_find_233 ?_
                            refine tp_i (y := nI (4 * n5)) (nI_mul 4 n5) ?_
                            refine lv_iload_n hx hb d_M_find_234 rfl (lv_at hl 0 rfl) ?_
                            refine lv_iadd hx hb d_M_find_235 ?_
                            refine tp_i (y := nI ((4 * n5) + 2)) (nI_add (4 * n5) 2) ?_
                            refine lv_aload_n hx hb d_M_find_236 rfl (lv_at hl 3 rfl) ?_
                            refine va_get (D := D) (ci := 7) (v := .ref po) (C := cn_M) (T := ft_M) (N := 19) hx hb hf_M (fun _ h => h) hown hK hP 8 rfl rfl 13 (by decide) (gw.at G hx0 mw_726 rfl _) (fun _ h9 => h9) rfl d_M_find_237 ?_
                            refine lv_iconst (v := (4 : Int32)) hx hb d_M_find_240 (by decide) ?_
                            refine lv_iload_n hx hb d_M_find_241 rfl (lv_at hl 1 rfl) ?_
                            refine lv_imul hx hb d_M_find_242 ?_
                            refine tp_i (y := nI (4 * k5)) (nI_mul 4 k5) ?_
                            refine lv_iload_n hx hb d_M_find_243 rfl (lv_at hl 0 rfl) ?_
                            refine lv_iadd hx hb d_M_find_244 ?_
                            refine tp_i (y := nI ((4 * k5) + 2)) (nI_add (4 * k5) 2) ?_
                            refine va_iald hx hb hK hP 2 0 rfl rfl (vp_in_nI (n := (4 * k5) + 2) (by omega) (by omega)) d_M_find_245 ?_
                            refine tp_i (y := (upd (upd f5 ((4 * n5) + 0) (f5 ((4 * k5) + 0))) ((4 * n5) + 1) ((upd f5 ((4 * n5) + 0) (f5 ((4 * k5) + 0))) ((4 * k5) + 1))) ((4 * k5) + 2)) (congrArg (upd (upd f5 ((4 * n5) + 0) (f5 ((4 * k5) + 0))) ((4 * n5) + 1) ((upd f5 ((4 * n5) + 0) (f5 ((4 * k5) + 0))) ((4 * k5) + 1))) (nI_clamp (n := (4 * k5) + 2) (by omega))) ?_
                            refine va_iast hx hb hK hP hD hS 2 0 rfl rfl (vp_in_nI (n := (4 * n5) + 2) (by omega) (by omega)) d_M_find_246 (fun H locs hP hD hS => ?_)
                            rw [nI_clamp (n := (4 * n5) + 2) (by omega)] at hP hD
                            have hP : va_P D kl [(rw, .inl (cI, 32, .inl wf)), (ry, .inl (cI, 256, .inl yf)), (po, .inl (cI, 4000, .inl (upd (upd (upd f5 ((4 * n5) + 0) (f5 ((4 * k5) + 0))) ((4 * n5) + 1) ((upd f5 ((4 * n5) + 0) (f5 ((4 * k5) + 0))) ((4 * k5) + 1))) ((4 * n5) + 2) ((upd (upd f5 ((4 * n5) + 0) (f5 ((4 * k5) + 0))) ((4 * n5) + 1) ((upd f5 ((4 * n5) + 0) (f5 ((4 * k5) + 0))) ((4 * k5) + 1))) ((4 * k5) + 2))))), (vt, .inl (cI, 4, .inl v2)), (su, .inl (cZ, 1000, .inl u1)), (sq, .inl (cJ, 256, .inr (.inl q2))), (ch, .inl (cI, 8, .inl (nf c2))), (sh, .inl (cI, 4, .inl (nf s2))), (m0, .inr (7, [.int th, .int (nI zs), .int (nI rn), .ref rw, .int (nI kn), .int rk, .int (nI yn), .ref ry, .int (nI sp), .int lg, .ref ti, .int (1 : Int32), .int (nI n2), .ref po, .ref su, .ref sq, .ref ch, .ref vt, .ref sh]))] H := hP
                            have hD : va_D A [(rw, .inl (cI, 32, .inl wf)), (ry, .inl (cI, 256, .inl yf)), (po, .inl (cI, 4000, .inl (upd (upd (upd f5 ((4 * n5) + 0) (f5 ((4 * k5) + 0))) ((4 * n5) + 1) ((upd f5 ((4 * n5) + 0) (f5 ((4 * k5) + 0))) ((4 * k5) + 1))) ((4 * n5) + 2) ((upd (upd f5 ((4 * n5) + 0) (f5 ((4 * k5) + 0))) ((4 * n5) + 1) ((upd f5 ((4 * n5) + 0) (f5 ((4 * k5) + 0))) ((4 * k5) + 1))) ((4 * k5) + 2))))), (vt, .inl (cI, 4, .inl v2)), (su, .inl (cZ, 1000, .inl u1)), (sq, .inl (cJ, 256, .inr (.inl q2))), (ch, .inl (cI, 8, .inl (nf c2))), (sh, .inl (cI, 4, .inl (nf s2))), (m0, .inr (7, [.int th, .int (nI zs), .int (nI rn), .ref rw, .int (nI kn), .int rk, .int (nI yn), .ref ry, .int (nI sp), .int lg, .ref ti, .int (1 : Int32), .int (nI n2), .ref po, .ref su, .ref sq, .ref ch, .ref vt, .ref sh]))] := hD
                            refine lv_iinc (lv' := [(3, .int (3 : Int32)), (2, .int (nI k5)), (1, .int (nI n5)), (0, .ref m0)]) (k := 0) (v := (3 : Int32)) hx hb d_M_find_247 hl rfl (by decide) (by decide) rfl (fun ls hl => ?_)
                            refine lv_goto (tgt := 222) hx hb d_M_find_250 (by decide) ?_
                            refine lv_iload_n hx hb d_M_find_222 rfl (lv_at hl 0 rfl) ?_
                            refine lv_iconst (v := (4 : Int32)) hx hb d_M_find_223 (by decide) ?_
                            refine lv_icmp_ge (tgt := 253) hx hb d_M_find_224 (by decide) (fun h99 => absurd h99 (by decide)) (fun _ => ?_)
                            refine lv_aload_n hx hb d_M_find_227 rfl (lv_at hl 3 rfl) ?_
                            refine va_get (D := D) (ci := 7) (v := .ref po) (C := cn_M) (T := ft_M) (N := 19) hx hb hf_M (fun _ h => h) hown hK hP 8 rfl rfl 13 (by decide) (gw.at G hx0 mw_726 rfl _) (fun _ h9 => h9) rfl d_M_find_228 ?_
                            refine lv_iconst (v := (4 : Int32)) hx hb d_M_find_231 (by decide) ?_
                            refine lv_iload_n hx hb d_M_find_232 rfl (lv_at hl 2 rfl) ?_
                            refine lv_imul hx hb d_M_find_233 ?_
                            refine tp_i (y := nI (4 * n5)) (nI_mul 4 n5) ?_
                            refine lv_iload_n hx hb d_M_find_234 rfl (lv_at hl 0 rfl) ?_
                            refine lv_iadd hx hb d_M_find_235 ?_
                            refine tp_i (y := nI ((4 * n5) + 3)) (nI_add (4 * n5) 3) ?_
                            refine lv_aload_n hx hb d_M_find_236 rfl (lv_at hl 3 rfl) ?_
                            refine va_get (D := D) (ci := 7) (v := .ref po) (C := cn_M) (T := ft_M) (N := 19) hx hb hf_M (fun _ h => h) hown hK hP 8 rfl rfl 13 (by decide) (gw.at G hx0 mw_726 rfl _) (fun _ h9 => h9) rfl d_M_find_237 ?_
                            refine lv_iconst (v := (4 : Int32)) hx hb d_M_find_240 (by decide) ?_
                            refine lv_iload_n hx hb d_M_find_241 rfl (lv_at hl 1 rfl) ?_
                            refine lv_imul hx hb d_M_find_242 ?_
                            refine tp_i (y := nI (4 * k5)) (nI_mul 4 k5) ?_
                            refine lv_iload_n hx hb d_M_find_243 rfl (lv_at hl 0 rfl) ?_
                            refine lv_iadd hx hb d_M_find_244 ?_
                            refine tp_i (y := nI ((4 * k5) + 3)) (nI_add (4 * k5) 3) ?_
                            refine va_iald hx hb hK hP 2 0 rfl rfl (vp_in_nI (n := (4 * k5) + 3) (by omega) (by omega)) d_M_find_245 ?_
                            refine tp_i (y := (upd (upd (upd f5 ((4 * n5) + 0) (f5 ((4 * k5) + 0))) ((4 * n5) + 1) ((upd f5 ((4 * n5) + 0) (f5 ((4 * k5) + 0))) ((4 * k5) + 1))) ((4 * n5) + 2) ((upd (upd f5 ((4 * n5) + 0) (f5 ((4 * k5) + 0))) ((4 * n5) + 1) ((upd f5 ((4 * n5) + 0) (f5 ((4 * k5) + 0))) ((4 * k5) + 1))) ((4 * k5) + 2))) ((4 * k5) + 3)) (congrArg (upd (upd (upd f5 ((4 * n5) + 0) (f5 ((4 * k5) + 0))) ((4 * n5) + 1) ((upd f5 ((4 * n5) + 0) (f5 ((4 * k5) + 0))) ((4 * k5) + 1))) ((4 * n5) + 2) ((upd (upd f5 ((4 * n5) + 0) (f5 ((4 * k5) + 0))) ((4 * n5) + 1) ((upd f5 ((4 * n5) + 0) (f5 ((4 * k5) + 0))) ((4 * k5) + 1))) ((4 * k5) + 2))) (nI_clamp (n := (4 * k5) + 3) (by omega))) ?_
                            refine va_iast hx hb hK hP hD hS 2 0 rfl rfl (vp_in_nI (n := (4 * n5) + 3) (by omega) (by omega)) d_M_find_246 (fun H locs hP hD hS => ?_)
                            rw [nI_clamp (n := (4 * n5) + 3) (by omega)] at hP hD
                            have hP : va_P D kl [(rw, .inl (cI, 32, .inl wf)), (ry, .inl (cI, 256, .inl yf)), (po, .inl (cI, 4000, .inl (upd (upd (upd (upd f5 ((4 * n5) + 0) (f5 ((4 * k5) + 0))) ((4 * n5) + 1) ((upd f5 ((4 * n5) + 0) (f5 ((4 * k5) + 0))) ((4 * k5) + 1))) ((4 * n5) + 2) ((upd (upd f5 ((4 * n5) + 0) (f5 ((4 * k5) + 0))) ((4 * n5) + 1) ((upd f5 ((4 * n5) + 0) (f5 ((4 * k5) + 0))) ((4 * k5) + 1))) ((4 * k5) + 2))) ((4 * n5) + 3) ((upd (upd (upd f5 ((4 * n5) + 0) (f5 ((4 * k5) + 0))) ((4 * n5) + 1) ((upd f5 ((4 * n5) + 0) (f5 ((4 * k5) + 0))) ((4 * k5) + 1))) ((4 * n5) + 2) ((upd (upd f5 ((4 * n5) + 0) (f5 ((4 * k5) + 0))) ((4 * n5) + 1) ((upd f5 ((4 * n5) + 0) (f5 ((4 * k5) + 0))) ((4 * k5) + 1))) ((4 * k5) + 2))) ((4 * k5) + 3))))), (vt, .inl (cI, 4, .inl v2)), (su, .inl (cZ, 1000, .inl u1)), (sq, .inl (cJ, 256, .inr (.inl q2))), (ch, .inl (cI, 8, .inl (nf c2))), (sh, .inl (cI, 4, .inl (nf s2))), (m0, .inr (7, [.int th, .int (nI zs), .int (nI rn), .ref rw, .int (nI kn), .int rk, .int (nI yn), .ref ry, .int (nI sp), .int lg, .ref ti, .int (1 : Int32), .int (nI n2), .ref po, .ref su, .ref sq, .ref ch, .ref vt, .ref sh]))] H := hP
                            have hD : va_D A [(rw, .inl (cI, 32, .inl wf)), (ry, .inl (cI, 256, .inl yf)), (po, .inl (cI, 4000, .inl (upd (upd (upd (upd f5 ((4 * n5) + 0) (f5 ((4 * k5) + 0))) ((4 * n5) + 1) ((upd f5 ((4 * n5) + 0) (f5 ((4 * k5) + 0))) ((4 * k5) + 1))) ((4 * n5) + 2) ((upd (upd f5 ((4 * n5) + 0) (f5 ((4 * k5) + 0))) ((4 * n5) + 1) ((upd f5 ((4 * n5) + 0) (f5 ((4 * k5) + 0))) ((4 * k5) + 1))) ((4 * k5) + 2))) ((4 * n5) + 3) ((upd (upd (upd f5 ((4 * n5) + 0) (f5 ((4 * k5) + 0))) ((4 * n5) + 1) ((upd f5 ((4 * n5) + 0) (f5 ((4 * k5) + 0))) ((4 * k5) + 1))) ((4 * n5) + 2) ((upd (upd f5 ((4 * n5) + 0) (f5 ((4 * k5) + 0))) ((4 * n5) + 1) ((upd f5 ((4 * n5) + 0) (f5 ((4 * k5) + 0))) ((4 * k5) + 1))) ((4 * k5) + 2))) ((4 * k5) + 3))))), (vt, .inl (cI, 4, .inl v2)), (su, .inl (cZ, 1000, .inl u1)), (sq, .inl (cJ, 256, .inr (.inl q2))), (ch, .inl (cI, 8, .inl (nf c2))), (sh, .inl (cI, 4, .inl (nf s2))), (m0, .inr (7, [.int th, .int (nI zs), .int (nI rn), .ref rw, .int (nI kn), .int rk, .int (nI yn), .ref ry, .int (nI sp), .int lg, .ref ti, .int (1 : Int32), .int (nI n2), .ref po, .ref su, .ref sq, .ref ch, .ref vt, .ref sh]))] := hD
                            refine lv_iinc (lv' := [(3, .int (4 : Int32)), (2, .int (nI k5)), (1, .int (nI n5)), (0, .ref m0)]) (k := 0) (v := (4 : Int32)) hx hb d_M_find_247 hl rfl (by decide) (by decide) rfl (fun ls hl => ?_)
                            refine lv_goto (tgt := 222) hx hb d_M_find_250 (by decide) ?_
                            refine lv_iload_n hx hb d_M_find_222 rfl (lv_at hl 0 rfl) ?_
                            refine lv_iconst (v := (4 : Int32)) hx hb d_M_find_223 (by decide) ?_
                            refine lv_icmp_ge (tgt := 253) hx hb d_M_find_224 (by decide) (fun _ => ?_) (fun h99 => absurd h99 (by decide))
                            refine lv_iinc (lv' := [(1, .int (nI (n5 + 1))), (3, .int (4 : Int32)), (2, .int (nI k5)), (0, .ref m0)]) (k := 2) (v := nI (n5 + 1)) hx hb d_M_find_253 hl rfl (nI_add n5 1) (by decide) rfl (fun ls hl => ?_)
                            refine lv_iinc (lv' := [(2, .int (nI (k5 + 1))), (1, .int (nI (n5 + 1))), (3, .int (4 : Int32)), (0, .ref m0)]) (k := 2) (v := nI (k5 + 1)) hx hb d_M_find_256 hl rfl (nI_add k5 1) (by decide) rfl (fun ls hl => ?_)
                            refine lv_goto (tgt := 203) hx hb d_M_find_259 (by decide) ?_
                            exact ih_203 _ (by omega) (k5 + 1) (n5 + 1) (upd (upd (upd (upd f5 ((4 * n5) + 0) (f5 ((4 * k5) + 0))) ((4 * n5) + 1) ((upd f5 ((4 * n5) + 0) (f5 ((4 * k5) + 0))) ((4 * k5) + 1))) ((4 * n5) + 2) ((upd (upd f5 ((4 * n5) + 0) (f5 ((4 * k5) + 0))) ((4 * n5) + 1) ((upd f5 ((4 * n5) + 0) (f5 ((4 * k5) + 0))) ((4 * k5) + 1))) ((4 * k5) + 2))) ((4 * n5) + 3) ((upd (upd (upd f5 ((4 * n5) + 0) (f5 ((4 * k5) + 0))) ((4 * n5) + 1) ((upd f5 ((4 * n5) + 0) (f5 ((4 * k5) + 0))) ((4 * k5) + 1))) ((4 * n5) + 2) ((upd (upd f5 ((4 * n5) + 0) (f5 ((4 * k5) + 0))) ((4 * n5) + 1) ((upd f5 ((4 * n5) + 0) (f5 ((4 * k5) + 0))) ((4 * k5) + 1))) ((4 * k5) + 2))) ((4 * k5) + 3))) ls H locs rfl (cmq_n hcm ((hin4 k5 (by omega)).elim (fun z9 => absurd z9.1 (by rw [h_5]; decide)) (fun z9 => z9.2))) (by omega) (by omega) (lv_sub hl [0, 1, 3] rfl) (hP.sub [0, 1, 2, 3, 4, 5, 6, 7, 8] rfl) (hD.sub [0, 1, 2, 3, 4, 5, 6, 7, 8] (by decide) rfl) hS
                    exact lp_203 _ 0 0 f2 ls H locs rfl rfl (Nat.zero_le _) (Nat.le_refl _) (lv_sub hl [0, 1, 2] rfl) (hP.sub [0, 1, 2, 3, 4, 5, 6, 7, 8] rfl) (hD.sub [0, 1, 2, 3, 4, 5, 6, 7, 8] (by decide) rfl) hS
                  · have h_3 : ¬ (n2 ≤ k4) := fun z99 => h_3 ((nI_leI (a := n2) (b := k4) (by omega) (by omega)).mpr z99)
                    refine lv_aload_n hx hb d_M_find_136 rfl (lv_at hl 1 rfl) ?_
                    refine va_get (D := D) (ci := 7) (v := .ref su) (C := cn_M) (T := ft_M) (N := 19) hx hb hf_M (fun _ h => h) hown hK hP 8 rfl rfl 14 (by decide) (gw.at G hx0 mw_727 rfl _) (fun _ h9 => h9) rfl d_M_find_137 ?_
                    refine lv_iload_n hx hb d_M_find_140 rfl (lv_at hl 0 rfl) ?_
                    refine lv_iconst (v := (0 : Int32)) hx hb d_M_find_141 (by decide) ?_
                    refine va_zast hx hb hK hP hD hS 4 2 rfl rfl (vp_in_nI (n := k4) (by omega) (by omega)) d_M_find_142 (fun H locs hP hD hS => ?_)
                    rw [nI_clamp (n := k4) (by omega)] at hP hD
                    have hP : va_P D kl [(rw, .inl (cI, 32, .inl wf)), (ry, .inl (cI, 256, .inl yf)), (po, .inl (cI, 4000, .inl f2)), (vt, .inl (cI, 4, .inl v2)), (su, .inl (cZ, 1000, .inl (upd u1 k4 (0 : Int32)))), (sq, .inl (cJ, 256, .inr (.inl q2))), (ch, .inl (cI, 8, .inl (nf c2))), (sh, .inl (cI, 4, .inl (nf s2))), (m0, .inr (7, [.int th, .int (nI zs), .int (nI rn), .ref rw, .int (nI kn), .int rk, .int (nI yn), .ref ry, .int (nI sp), .int lg, .ref ti, .int (1 : Int32), .int (nI n2), .ref po, .ref su, .ref sq, .ref ch, .ref vt, .ref sh]))] H := hP
                    have hD : va_D A [(rw, .inl (cI, 32, .inl wf)), (ry, .inl (cI, 256, .inl yf)), (po, .inl (cI, 4000, .inl f2)), (vt, .inl (cI, 4, .inl v2)), (su, .inl (cZ, 1000, .inl (upd u1 k4 (0 : Int32)))), (sq, .inl (cJ, 256, .inr (.inl q2))), (ch, .inl (cI, 8, .inl (nf c2))), (sh, .inl (cI, 4, .inl (nf s2))), (m0, .inr (7, [.int th, .int (nI zs), .int (nI rn), .ref rw, .int (nI kn), .int rk, .int (nI yn), .ref ry, .int (nI sp), .int lg, .ref ti, .int (1 : Int32), .int (nI n2), .ref po, .ref su, .ref sq, .ref ch, .ref vt, .ref sh]))] := hD
                    refine lv_iconst (v := (0 : Int32)) hx hb d_M_find_143 (by decide) ?_
                    refine lv_istore_n (lv' := [(2, .int (0 : Int32)), (1, .int (nI k4)), (0, .ref m0)]) hx hb d_M_find_144 rfl hl (by decide) rfl (fun ls hl => ?_)
                    have lp_145 : ∀ (n9 : Nat) (j4 : Nat) (u2 : Nat → Int32) (ls : Array Slot) (H : Heap) (locs : List Loc), n2 - j4 = n9 → (j4 ≤ n2) → (∀ q9, ¬ q9 = k4 → u2 q9 = u1 q9) → ((u2 k4 = 0 ∧ ∀ q9, q9 < j4 → ¬ (¬ q9 = k4 ∧ ∀ r, r < rn → ¬ prm wf r f2 (4 * k4) < prm wf r f2 (4 * q9))) ∨ (u2 k4 = 1 ∧ smd wf f2 rn n2 k4)) → lv_has ls 4 [(2, .int (nI j4)), (1, .int (nI k4)), (0, .ref m0)] → va_P D kl [(rw, .inl (cI, 32, .inl wf)), (ry, .inl (cI, 256, .inl yf)), (po, .inl (cI, 4000, .inl f2)), (vt, .inl (cI, 4, .inl v2)), (su, .inl (cZ, 1000, .inl u2)), (sq, .inl (cJ, 256, .inr (.inl q2))), (ch, .inl (cI, 8, .inl (nf c2))), (sh, .inl (cI, 4, .inl (nf s2))), (m0, .inr (7, [.int th, .int (nI zs), .int (nI rn), .ref rw, .int (nI kn), .int rk, .int (nI yn), .ref ry, .int (nI sp), .int lg, .ref ti, .int (1 : Int32), .int (nI n2), .ref po, .ref su, .ref sq, .ref ch, .ref vt, .ref sh]))] H → va_D A [(rw, .inl (cI, 32, .inl wf)), (ry, .inl (cI, 256, .inl yf)), (po, .inl (cI, 4000, .inl f2)), (vt, .inl (cI, 4, .inl v2)), (su, .inl (cZ, 1000, .inl u2)), (sq, .inl (cJ, 256, .inr (.inl q2))), (ch, .inl (cI, 8, .inl (nf c2))), (sh, .inl (cI, 4, .inl (nf s2))), (m0, .inr (7, [.int th, .int (nI zs), .int (nI rn), .ref rw, .int (nI kn), .int rk, .int (nI yn), .ref ry, .int (nI sp), .int lg, .ref ti, .int (1 : Int32), .int (nI n2), .ref po, .ref su, .ref sq, .ref ch, .ref vt, .ref sh]))] → va_S A s.heap H locs → W p l e ({ frames := 3, cells := 0, slots := 0, locals := 77 } : Room) s m ([.ref m0] : List Value).toArray below meth c H locs 0 0 Q (F0 m 145 ls []) := by
                      intro n9
                      induction n9 using Nat.strongRecOn with
                      | ind n9 ih_145 =>
                        intro j4 u2 ls H locs hm_145 hj4 hoth hx4 hl hP hD hS
                        refine lv_iload_n hx hb d_M_find_145 rfl (lv_at hl 0 rfl) ?_
                        refine lv_aload_n hx hb d_M_find_146 rfl (lv_at hl 2 rfl) ?_
                        refine va_get (D := D) (ci := 7) (v := .int (nI n2)) (C := cn_M) (T := ft_M) (N := 19) hx hb hf_M (fun _ h => h) hown hK hP 8 rfl rfl 12 (by decide) (gw.at G hx0 mw_725 rfl _) (fun _ h9 => h9) rfl d_M_find_147 ?_
                        refine lv_icmp_ge (tgt := 193) hx hb d_M_find_150 (by decide) (fun h_6 => ?_) (fun h_6 => ?_)
                        · have h_6 : n2 ≤ j4 := (nI_leI (a := n2) (b := j4) (by omega) (by omega)).mp h_6
                          have hk4s : (u2 k4 = 1 ∧ smd wf f2 rn n2 k4) ∨ (u2 k4 = 0 ∧ ¬ smd wf f2 rn n2 k4) := hx4.elim (fun z9 => Or.inr ⟨z9.1, fun z8 => by obtain ⟨j8, z7, z6, z5⟩ := z8; exact z9.2 j8 (by omega) ⟨z6, z5⟩⟩) (fun z9 => Or.inl z9)
                          refine lv_iinc (lv' := [(1, .int (nI (k4 + 1))), (2, .int (nI j4)), (0, .ref m0)]) (k := 1) (v := nI (k4 + 1)) hx hb d_M_find_193 hl rfl (nI_add k4 1) (by decide) rfl (fun ls hl => ?_)
                          refine lv_goto (tgt := 128) hx hb d_M_find_196 (by decide) ?_
                          exact ih_128 _ (by omega) (k4 + 1) u2 ls H locs rfl (by omega) (fun q9 hq9 => (Nat.lt_succ_iff_lt_or_eq.mp hq9).elim (fun z9 => by rw [hoth q9 (by omega)]; exact hin4 q9 z9) (fun e9 => by rw [e9]; exact hk4s)) (lv_sub hl [0, 2] rfl) (hP.sub [0, 1, 2, 3, 4, 5, 6, 7, 8] rfl) (hD.sub [0, 1, 2, 3, 4, 5, 6, 7, 8] (by decide) rfl) hS
                        · have h_6 : ¬ (n2 ≤ j4) := fun z99 => h_6 ((nI_leI (a := n2) (b := j4) (by omega) (by omega)).mpr z99)
                          refine lv_aload_n hx hb d_M_find_153 rfl (lv_at hl 2 rfl) ?_
                          refine va_get (D := D) (ci := 7) (v := .ref su) (C := cn_M) (T := ft_M) (N := 19) hx hb hf_M (fun _ h => h) hown hK hP 8 rfl rfl 14 (by decide) (gw.at G hx0 mw_727 rfl _) (fun _ h9 => h9) rfl d_M_find_154 ?_
                          refine lv_iload_n hx hb d_M_find_157 rfl (lv_at hl 1 rfl) ?_
                          refine va_zald hx hb hK hP 4 2 rfl rfl (vp_in_nI (n := k4) (by omega) (by omega)) d_M_find_158 ?_
                          refine tp_i (y := u2 k4) (congrArg u2 (nI_clamp (n := k4) (by omega))) ?_
                          refine lv_if_ne (tgt := 193) hx hb d_M_find_159 (by decide) (fun h_7 => ?_) (fun h_7 => ?_)
                          · have hk4s : (u2 k4 = 1 ∧ smd wf f2 rn n2 k4) ∨ (u2 k4 = 0 ∧ ¬ smd wf f2 rn n2 k4) := hx4.elim (fun z9 => absurd z9.1 h_7) (fun z9 => Or.inl z9)
                            refine lv_iinc (lv' := [(1, .int (nI (k4 + 1))), (2, .int (nI j4)), (0, .ref m0)]) (k := 1) (v := nI (k4 + 1)) hx hb d_M_find_193 hl rfl (nI_add k4 1) (by decide) rfl (fun ls hl => ?_)
                            refine lv_goto (tgt := 128) hx hb d_M_find_196 (by decide) ?_
                            exact ih_128 _ (by omega) (k4 + 1) u2 ls H locs rfl (by omega) (fun q9 hq9 => (Nat.lt_succ_iff_lt_or_eq.mp hq9).elim (fun z9 => by rw [hoth q9 (by omega)]; exact hin4 q9 z9) (fun e9 => by rw [e9]; exact hk4s)) (lv_sub hl [0, 2] rfl) (hP.sub [0, 1, 2, 3, 4, 5, 6, 7, 8] rfl) (hD.sub [0, 1, 2, 3, 4, 5, 6, 7, 8] (by decide) rfl) hS
                          · refine lv_aload_n hx hb d_M_find_162 rfl (lv_at hl 2 rfl) ?_
                            refine va_get (D := D) (ci := 7) (v := .ref su) (C := cn_M) (T := ft_M) (N := 19) hx hb hf_M (fun _ h => h) hown hK hP 8 rfl rfl 14 (by decide) (gw.at G hx0 mw_727 rfl _) (fun _ h9 => h9) rfl d_M_find_163 ?_
                            refine lv_iload_n hx hb d_M_find_166 rfl (lv_at hl 1 rfl) ?_
                            refine lv_iload_n hx hb d_M_find_167 rfl (lv_at hl 0 rfl) ?_
                            refine lv_iload_n hx hb d_M_find_168 rfl (lv_at hl 1 rfl) ?_
                            refine lv_icmp_eq (tgt := 185) hx hb d_M_find_169 (by decide) (fun h_8 => ?_) (fun h_8 => ?_)
                            · have h_8 : j4 = k4 := (nI_eq (a := j4) (b := k4) (by omega) (by omega)).mp h_8
                              refine lv_iconst (v := (0 : Int32)) hx hb d_M_find_185 (by decide) ?_
                              refine va_zast hx hb hK hP hD hS 4 2 rfl rfl (vp_in_nI (n := k4) (by omega) (by omega)) d_M_find_186 (fun H locs hP hD hS => ?_)
                              rw [nI_clamp (n := k4) (by omega)] at hP hD
                              have hP : va_P D kl [(rw, .inl (cI, 32, .inl wf)), (ry, .inl (cI, 256, .inl yf)), (po, .inl (cI, 4000, .inl f2)), (vt, .inl (cI, 4, .inl v2)), (su, .inl (cZ, 1000, .inl (upd u2 k4 (0 : Int32)))), (sq, .inl (cJ, 256, .inr (.inl q2))), (ch, .inl (cI, 8, .inl (nf c2))), (sh, .inl (cI, 4, .inl (nf s2))), (m0, .inr (7, [.int th, .int (nI zs), .int (nI rn), .ref rw, .int (nI kn), .int rk, .int (nI yn), .ref ry, .int (nI sp), .int lg, .ref ti, .int (1 : Int32), .int (nI n2), .ref po, .ref su, .ref sq, .ref ch, .ref vt, .ref sh]))] H := hP
                              have hD : va_D A [(rw, .inl (cI, 32, .inl wf)), (ry, .inl (cI, 256, .inl yf)), (po, .inl (cI, 4000, .inl f2)), (vt, .inl (cI, 4, .inl v2)), (su, .inl (cZ, 1000, .inl (upd u2 k4 (0 : Int32)))), (sq, .inl (cJ, 256, .inr (.inl q2))), (ch, .inl (cI, 8, .inl (nf c2))), (sh, .inl (cI, 4, .inl (nf s2))), (m0, .inr (7, [.int th, .int (nI zs), .int (nI rn), .ref rw, .int (nI kn), .int rk, .int (nI yn), .ref ry, .int (nI sp), .int lg, .ref ti, .int (1 : Int32), .int (nI n2), .ref po, .ref su, .ref sq, .ref ch, .ref vt, .ref sh]))] := hD
                              refine lv_iinc (lv' := [(2, .int (nI (j4 + 1))), (1, .int (nI k4)), (0, .ref m0)]) (k := 0) (v := nI (j4 + 1)) hx hb d_M_find_187 hl rfl (nI_add j4 1) (by decide) rfl (fun ls hl => ?_)
                              refine lv_goto (tgt := 145) hx hb d_M_find_190 (by decide) ?_
                              exact ih_145 _ (by omega) (j4 + 1) (upd u2 k4 (0 : Int32)) ls H locs rfl (by omega) (fun q9 hq9 => by rw [updI_ne hq9]; exact hoth q9 hq9) (Or.inl ⟨updI_eq, fun q9 hq9 z7 => (Nat.lt_succ_iff_lt_or_eq.mp hq9).elim (fun z8 => (hx4.elim id (fun z9 => absurd z9.1 (by rw [h_7]; decide))).2 q9 z8 z7) (fun e9 => by rw [e9] at z7; exact absurd h_8 z7.1)⟩) (lv_sub hl [0, 1, 2] rfl) (hP.sub [0, 1, 2, 3, 4, 5, 6, 7, 8] rfl) (hD.sub [0, 1, 2, 3, 4, 5, 6, 7, 8] (by decide) rfl) hS
                            · have h_8 : ¬ (j4 = k4) := fun z99 => h_8 ((nI_eq (a := j4) (b := k4) (by omega) (by omega)).mpr z99)
                              refine lv_aload_n hx hb d_M_find_172 rfl (lv_at hl 2 rfl) ?_
                              refine lv_iload_n hx hb d_M_find_173 rfl (lv_at hl 1 rfl) ?_
                              refine lv_iload_n hx hb d_M_find_174 rfl (lv_at hl 0 rfl) ?_
                              by_cases h_9 : ∀ r, r < rn → ¬ prm wf r f2 (4 * k4) < prm wf r f2 (4 * j4)
                              · refine cx_call (D := D) (cl := kl) (ws := _) (wc := [(m0, .inr (7, [.int th, .int (nI zs), .int (nI rn), .ref rw, .int (nI kn), .int rk, .int (nI yn), .ref ry, .int (nI sp), .int lg, .ref ti, .int (1 : Int32), .int (nI n2), .ref po, .ref su, .ref sq, .ref ch, .ref vt, .ref sh])), (rw, .inl (cI, 32, .inl wf)), (po, .inl (cI, 4000, .inl f2))]) (wr := [(ry, .inl (cI, 256, .inl yf)), (vt, .inl (cI, 4, .inl v2)), (su, .inl (cZ, 1000, .inl u2)), (sq, .inl (cJ, 256, .inr (.inl q2))), (ch, .inl (cI, 8, .inl (nf c2))), (sh, .inl (cI, 4, .inl (nf s2)))]) (tx_runV (C := cn_M) (b := m0) (As := [.int (nI k4), .int (nI j4)]) (rest := [.int (nI k4), .ref su]) hx hb hml hown (c_M_less_y E H.size m0 rw ry ti po su sq ch vt sh th (nI zs) (nI kn) rk (nI yn) (nI sp) lg (1 : Int32) (nI n2) rn wf f2 k4 j4 hr8 (by omega) (by omega) h_9) (cx_C (b0 := b0) G hx0 mw_921 mw_9 ny_M_less (by decide)) (gw.at G hx0 mw_918 rfl _) (gw.at G hx0 mw_920 rfl _) (gw.at G hx0 ms_M_less rfl _) ⟨cx_blind, va_recv hK hP (q0 := 8) (ci := 7) (q := (cn_M, ft_M, 19)) rfl rfl, (cx_pre (s := s) hx0 hP hD hS hA0 [8, 0, 2] rfl rfl (by decide))⟩ rfl rfl hl.1 rfl (lv_room (Nat.le_of_ble_eq_true rfl)) d_M_find_175 ⟨by decide, by decide⟩) hP hD hS hA [8, 0, 2] [1, 3, 4, 5, 6, 7] rfl rfl (by decide) (by decide) (fun v t w1 H locs ht hW9 hp hP hD hS => ?_) (fun x t w1 H locs ht hW9 hp hP hD hS => by obtain ⟨h9, -⟩ := hp; cases h9)
                                obtain ⟨h9, rfl⟩ := hp
                                cases h9
                                refine W.eq (g2 := F0 m 178 ls [.int (1 : Int32), .int (nI k4), .ref su]) rfl ?_
                                refine W.widen (k := 0) (n := 0) (by decide) (by decide) ?_
                                have hP : va_P D kl [(ry, .inl (cI, 256, .inl yf)), (vt, .inl (cI, 4, .inl v2)), (su, .inl (cZ, 1000, .inl u2)), (sq, .inl (cJ, 256, .inr (.inl q2))), (ch, .inl (cI, 8, .inl (nf c2))), (sh, .inl (cI, 4, .inl (nf s2))), (m0, .inr (7, [.int th, .int (nI zs), .int (nI rn), .ref rw, .int (nI kn), .int rk, .int (nI yn), .ref ry, .int (nI sp), .int lg, .ref ti, .int (1 : Int32), .int (nI n2), .ref po, .ref su, .ref sq, .ref ch, .ref vt, .ref sh])), (rw, .inl (cI, 32, .inl wf)), (po, .inl (cI, 4000, .inl f2))] H := hP
                                have hD : va_D A [(ry, .inl (cI, 256, .inl yf)), (vt, .inl (cI, 4, .inl v2)), (su, .inl (cZ, 1000, .inl u2)), (sq, .inl (cJ, 256, .inr (.inl q2))), (ch, .inl (cI, 8, .inl (nf c2))), (sh, .inl (cI, 4, .inl (nf s2))), (m0, .inr (7, [.int th, .int (nI zs), .int (nI rn), .ref rw, .int (nI kn), .int rk, .int (nI yn), .ref ry, .int (nI sp), .int lg, .ref ti, .int (1 : Int32), .int (nI n2), .ref po, .ref su, .ref sq, .ref ch, .ref vt, .ref sh])), (rw, .inl (cI, 32, .inl wf)), (po, .inl (cI, 4000, .inl f2))] := hD
                                refine lv_if_eq (tgt := 185) hx hb d_M_find_178 (by decide) (fun h99 => absurd h99 (by decide)) (fun _ => ?_)
                                refine lv_iconst (v := (1 : Int32)) hx hb d_M_find_181 (by decide) ?_
                                refine lv_goto (tgt := 186) hx hb d_M_find_182 (by decide) ?_
                                refine va_zast hx hb hK hP hD hS 2 2 rfl rfl (vp_in_nI (n := k4) (by omega) (by omega)) d_M_find_186 (fun H locs hP hD hS => ?_)
                                rw [nI_clamp (n := k4) (by omega)] at hP hD
                                have hP : va_P D kl [(ry, .inl (cI, 256, .inl yf)), (vt, .inl (cI, 4, .inl v2)), (su, .inl (cZ, 1000, .inl (upd u2 k4 (1 : Int32)))), (sq, .inl (cJ, 256, .inr (.inl q2))), (ch, .inl (cI, 8, .inl (nf c2))), (sh, .inl (cI, 4, .inl (nf s2))), (m0, .inr (7, [.int th, .int (nI zs), .int (nI rn), .ref rw, .int (nI kn), .int rk, .int (nI yn), .ref ry, .int (nI sp), .int lg, .ref ti, .int (1 : Int32), .int (nI n2), .ref po, .ref su, .ref sq, .ref ch, .ref vt, .ref sh])), (rw, .inl (cI, 32, .inl wf)), (po, .inl (cI, 4000, .inl f2))] H := hP
                                have hD : va_D A [(ry, .inl (cI, 256, .inl yf)), (vt, .inl (cI, 4, .inl v2)), (su, .inl (cZ, 1000, .inl (upd u2 k4 (1 : Int32)))), (sq, .inl (cJ, 256, .inr (.inl q2))), (ch, .inl (cI, 8, .inl (nf c2))), (sh, .inl (cI, 4, .inl (nf s2))), (m0, .inr (7, [.int th, .int (nI zs), .int (nI rn), .ref rw, .int (nI kn), .int rk, .int (nI yn), .ref ry, .int (nI sp), .int lg, .ref ti, .int (1 : Int32), .int (nI n2), .ref po, .ref su, .ref sq, .ref ch, .ref vt, .ref sh])), (rw, .inl (cI, 32, .inl wf)), (po, .inl (cI, 4000, .inl f2))] := hD
                                refine lv_iinc (lv' := [(2, .int (nI (j4 + 1))), (1, .int (nI k4)), (0, .ref m0)]) (k := 0) (v := nI (j4 + 1)) hx hb d_M_find_187 hl rfl (nI_add j4 1) (by decide) rfl (fun ls hl => ?_)
                                refine lv_goto (tgt := 145) hx hb d_M_find_190 (by decide) ?_
                                exact ih_145 _ (by omega) (j4 + 1) (upd u2 k4 (1 : Int32)) ls H locs rfl (by omega) (fun q9 hq9 => by rw [updI_ne hq9]; exact hoth q9 hq9) (Or.inr ⟨updI_eq, j4, by omega, h_8, h_9⟩) (lv_sub hl [0, 1, 2] rfl) (hP.sub [7, 0, 8, 1, 2, 3, 4, 5, 6] rfl) (hD.sub [7, 0, 8, 1, 2, 3, 4, 5, 6] (by decide) rfl) hS
                              · refine cx_call (D := D) (cl := kl) (ws := _) (wc := [(m0, .inr (7, [.int th, .int (nI zs), .int (nI rn), .ref rw, .int (nI kn), .int rk, .int (nI yn), .ref ry, .int (nI sp), .int lg, .ref ti, .int (1 : Int32), .int (nI n2), .ref po, .ref su, .ref sq, .ref ch, .ref vt, .ref sh])), (rw, .inl (cI, 32, .inl wf)), (po, .inl (cI, 4000, .inl f2))]) (wr := [(ry, .inl (cI, 256, .inl yf)), (vt, .inl (cI, 4, .inl v2)), (su, .inl (cZ, 1000, .inl u2)), (sq, .inl (cJ, 256, .inr (.inl q2))), (ch, .inl (cI, 8, .inl (nf c2))), (sh, .inl (cI, 4, .inl (nf s2)))]) (tx_runV (C := cn_M) (b := m0) (As := [.int (nI k4), .int (nI j4)]) (rest := [.int (nI k4), .ref su]) hx hb hml hown (c_M_less_n E H.size m0 rw ry ti po su sq ch vt sh th (nI zs) (nI kn) rk (nI yn) (nI sp) lg (1 : Int32) (nI n2) rn wf f2 k4 j4 hr8 (by omega) (by omega) h_9) (cx_C (b0 := b0) G hx0 mw_921 mw_9 ny_M_less (by decide)) (gw.at G hx0 mw_918 rfl _) (gw.at G hx0 mw_920 rfl _) (gw.at G hx0 ms_M_less rfl _) ⟨cx_blind, va_recv hK hP (q0 := 8) (ci := 7) (q := (cn_M, ft_M, 19)) rfl rfl, (cx_pre (s := s) hx0 hP hD hS hA0 [8, 0, 2] rfl rfl (by decide))⟩ rfl rfl hl.1 rfl (lv_room (Nat.le_of_ble_eq_true rfl)) d_M_find_175 ⟨by decide, by decide⟩) hP hD hS hA [8, 0, 2] [1, 3, 4, 5, 6, 7] rfl rfl (by decide) (by decide) (fun v t w1 H locs ht hW9 hp hP hD hS => ?_) (fun x t w1 H locs ht hW9 hp hP hD hS => by obtain ⟨h9, -⟩ := hp; cases h9)
                                obtain ⟨h9, rfl⟩ := hp
                                cases h9
                                refine W.eq (g2 := F0 m 178 ls [.int (0 : Int32), .int (nI k4), .ref su]) rfl ?_
                                refine W.widen (k := 0) (n := 0) (by decide) (by decide) ?_
                                have hP : va_P D kl [(ry, .inl (cI, 256, .inl yf)), (vt, .inl (cI, 4, .inl v2)), (su, .inl (cZ, 1000, .inl u2)), (sq, .inl (cJ, 256, .inr (.inl q2))), (ch, .inl (cI, 8, .inl (nf c2))), (sh, .inl (cI, 4, .inl (nf s2))), (m0, .inr (7, [.int th, .int (nI zs), .int (nI rn), .ref rw, .int (nI kn), .int rk, .int (nI yn), .ref ry, .int (nI sp), .int lg, .ref ti, .int (1 : Int32), .int (nI n2), .ref po, .ref su, .ref sq, .ref ch, .ref vt, .ref sh])), (rw, .inl (cI, 32, .inl wf)), (po, .inl (cI, 4000, .inl f2))] H := hP
                                have hD : va_D A [(ry, .inl (cI, 256, .inl yf)), (vt, .inl (cI, 4, .inl v2)), (su, .inl (cZ, 1000, .inl u2)), (sq, .inl (cJ, 256, .inr (.inl q2))), (ch, .inl (cI, 8, .inl (nf c2))), (sh, .inl (cI, 4, .inl (nf s2))), (m0, .inr (7, [.int th, .int (nI zs), .int (nI rn), .ref rw, .int (nI kn), .int rk, .int (nI yn), .ref ry, .int (nI sp), .int lg, .ref ti, .int (1 : Int32), .int (nI n2), .ref po, .ref su, .ref sq, .ref ch, .ref vt, .ref sh])), (rw, .inl (cI, 32, .inl wf)), (po, .inl (cI, 4000, .inl f2))] := hD
                                refine lv_if_eq (tgt := 185) hx hb d_M_find_178 (by decide) (fun _ => ?_) (fun h99 => absurd h99 (by decide))
                                refine lv_iconst (v := (0 : Int32)) hx hb d_M_find_185 (by decide) ?_
                                refine va_zast hx hb hK hP hD hS 2 2 rfl rfl (vp_in_nI (n := k4) (by omega) (by omega)) d_M_find_186 (fun H locs hP hD hS => ?_)
                                rw [nI_clamp (n := k4) (by omega)] at hP hD
                                have hP : va_P D kl [(ry, .inl (cI, 256, .inl yf)), (vt, .inl (cI, 4, .inl v2)), (su, .inl (cZ, 1000, .inl (upd u2 k4 (0 : Int32)))), (sq, .inl (cJ, 256, .inr (.inl q2))), (ch, .inl (cI, 8, .inl (nf c2))), (sh, .inl (cI, 4, .inl (nf s2))), (m0, .inr (7, [.int th, .int (nI zs), .int (nI rn), .ref rw, .int (nI kn), .int rk, .int (nI yn), .ref ry, .int (nI sp), .int lg, .ref ti, .int (1 : Int32), .int (nI n2), .ref po, .ref su, .ref sq, .ref ch, .ref vt, .ref sh])), (rw, .inl (cI, 32, .inl wf)), (po, .inl (cI, 4000, .inl f2))] H := hP
                                have hD : va_D A [(ry, .inl (cI, 256, .inl yf)), (vt, .inl (cI, 4, .inl v2)), (su, .inl (cZ, 1000, .inl (upd u2 k4 (0 : Int32)))), (sq, .inl (cJ, 256, .inr (.inl q2))), (ch, .inl (cI, 8, .inl (nf c2))), (sh, .inl (cI, 4, .inl (nf s2))), (m0, .inr (7, [.int th, .int (nI zs), .int (nI rn), .ref rw, .int (nI kn), .int rk, .int (nI yn), .ref ry, .int (nI sp), .int lg, .ref ti, .int (1 : Int32), .int (nI n2), .ref po, .ref su, .ref sq, .ref ch, .ref vt, .ref sh])), (rw, .inl (cI, 32, .inl wf)), (po, .inl (cI, 4000, .inl f2))] := hD
                                refine lv_iinc (lv' := [(2, .int (nI (j4 + 1))), (1, .int (nI k4)), (0, .ref m0)]) (k := 0) (v := nI (j4 + 1)) hx hb d_M_find_187 hl rfl (nI_add j4 1) (by decide) rfl (fun ls hl => ?_)
                                refine lv_goto (tgt := 145) hx hb d_M_find_190 (by decide) ?_
                                exact ih_145 _ (by omega) (j4 + 1) (upd u2 k4 (0 : Int32)) ls H locs rfl (by omega) (fun q9 hq9 => by rw [updI_ne hq9]; exact hoth q9 hq9) (Or.inl ⟨updI_eq, fun q9 hq9 z7 => (Nat.lt_succ_iff_lt_or_eq.mp hq9).elim (fun z8 => (hx4.elim id (fun z9 => absurd z9.1 (by rw [h_7]; decide))).2 q9 z8 z7) (fun e9 => by rw [e9] at z7; exact absurd z7.2 h_9)⟩) (lv_sub hl [0, 1, 2] rfl) (hP.sub [7, 0, 8, 1, 2, 3, 4, 5, 6] rfl) (hD.sub [7, 0, 8, 1, 2, 3, 4, 5, 6] (by decide) rfl) hS
                    exact lp_145 _ 0 (upd u1 k4 (0 : Int32)) ls H locs rfl (Nat.zero_le _) (fun q9 hq9 => updI_ne hq9) (Or.inl ⟨updI_eq, fun q9 hq9 => absurd hq9 (Nat.not_lt_zero q9)⟩) (lv_sub hl [0, 1, 2] rfl) (hP.sub [0, 1, 2, 3, 4, 5, 6, 7, 8] rfl) (hD.sub [0, 1, 2, 3, 4, 5, 6, 7, 8] (by decide) rfl) hS
              exact lp_128 _ 0 sf ls H locs rfl (Nat.zero_le _) (fun q9 hq9 => absurd hq9 (Nat.not_lt_zero q9)) (lv_sub hl [0, 1] rfl) (hP.sub [0, 1, 2, 3, 4, 5, 6, 7, 8] rfl) (hD.sub [0, 1, 2, 3, 4, 5, 6, 7, 8] (by decide) rfl) hS
            · have h_2 : ¬ ((2 ^ yn) ≤ (1 + m2)) := fun z99 => h_2 ((nI_leI (a := 2 ^ yn) (b := 1 + m2) (by omega) (by omega)).mpr z99)
              refine lv_iload_n hx hb d_M_find_96 rfl (lv_at hl 0 rfl) ?_
              refine cx_call (D := D) (cl := kl) (ws := _) (wc := []) (wr := [(rw, .inl (cI, 32, .inl wf)), (ry, .inl (cI, 256, .inl yf)), (po, .inl (cI, 4000, .inl f2)), (vt, .inl (cI, 4, .inl v2)), (su, .inl (cZ, 1000, .inl sf)), (sq, .inl (cJ, 256, .inr (.inl q2))), (ch, .inl (cI, 8, .inl (nf c2))), (sh, .inl (cI, 4, .inl (nf s2))), (m0, .inr (7, [.int th, .int (nI zs), .int (nI rn), .ref rw, .int (nI kn), .int rk, .int (nI yn), .ref ry, .int (nI sp), .int lg, .ref ti, .int (1 : Int32), .int (nI n2), .ref po, .ref su, .ref sq, .ref ch, .ref vt, .ref sh]))]) (tx_runS (As := [.int (nI (1 + m2))]) (rest := []) hx hb hml hown (c_M_many E H.size (1 + m2) (by omega)) (cx_C (b0 := b0) G hx0 mw_820 mw_9 ny_M_many (by decide)) (gw.at G hx0 mw_818 rfl _) (gw.at G hx0 mw_819 rfl _) (gw.at G hx0 mw_9 rfl _) ⟨cx_blind, (cx_pre (s := s) hx0 hP hD hS hA0 [] rfl rfl (by decide))⟩ rfl rfl hl.1 rfl (lv_room (Nat.le_of_ble_eq_true rfl)) d_M_find_97 ⟨by decide, by decide⟩) hP hD hS hA [] [0, 1, 2, 3, 4, 5, 6, 7, 8] rfl rfl (by decide) (by decide) (fun v t w1 H locs ht hW9 hp hP hD hS => ?_) (fun x t w1 H locs ht hW9 hp hP hD hS => by obtain ⟨h9, -⟩ := hp; cases h9)
              obtain ⟨h9, f_10, rfl⟩ := hp
              cases h9
              refine W.eq (g2 := F0 m 100 ls [.int (nI (mny (1 + m2) 16))]) rfl ?_
              refine W.widen (k := 0) (n := 0) (by decide) (by decide) ?_
              have hP : va_P D kl [(rw, .inl (cI, 32, .inl wf)), (ry, .inl (cI, 256, .inl yf)), (po, .inl (cI, 4000, .inl f2)), (vt, .inl (cI, 4, .inl v2)), (su, .inl (cZ, 1000, .inl sf)), (sq, .inl (cJ, 256, .inr (.inl q2))), (ch, .inl (cI, 8, .inl (nf c2))), (sh, .inl (cI, 4, .inl (nf s2))), (m0, .inr (7, [.int th, .int (nI zs), .int (nI rn), .ref rw, .int (nI kn), .int rk, .int (nI yn), .ref ry, .int (nI sp), .int lg, .ref ti, .int (1 : Int32), .int (nI n2), .ref po, .ref su, .ref sq, .ref ch, .ref vt, .ref sh]))] H := hP
              have hD : va_D A [(rw, .inl (cI, 32, .inl wf)), (ry, .inl (cI, 256, .inl yf)), (po, .inl (cI, 4000, .inl f2)), (vt, .inl (cI, 4, .inl v2)), (su, .inl (cZ, 1000, .inl sf)), (sq, .inl (cJ, 256, .inr (.inl q2))), (ch, .inl (cI, 8, .inl (nf c2))), (sh, .inl (cI, 4, .inl (nf s2))), (m0, .inr (7, [.int th, .int (nI zs), .int (nI rn), .ref rw, .int (nI kn), .int rk, .int (nI yn), .ref ry, .int (nI sp), .int lg, .ref ti, .int (1 : Int32), .int (nI n2), .ref po, .ref su, .ref sq, .ref ch, .ref vt, .ref sh]))] := hD
              refine lv_aload_n hx hb d_M_find_100 rfl (lv_at hl 1 rfl) ?_
              refine va_get (D := D) (ci := 7) (v := .int (nI sp)) (C := cn_M) (T := ft_M) (N := 19) hx hb hf_M (fun _ h => h) hown hK hP 8 rfl rfl 8 (by decide) (gw.at G hx0 mw_721 rfl _) (fun _ h9 => h9) rfl d_M_find_101 ?_
              refine lv_icmp_ne (tgt := 120) hx hb d_M_find_104 (by decide) (fun h_11 => ?_) (fun h_11 => ?_)
              · have h_11 : ¬ ((mny (1 + m2) 16) = sp) := fun z99 => h_11 ((nI_eq (a := mny (1 + m2) 16) (b := sp) (by omega) (by omega)).mpr z99)
                refine lv_iinc (lv' := [(1, .int (nI ((1 + m2) + 1))), (0, .ref m0)]) (k := 0) (v := nI ((1 + m2) + 1)) hx hb d_M_find_120 hl rfl (nI_add (1 + m2) 1) (by decide) rfl (fun ls hl => ?_)
                refine lv_goto (tgt := 86) hx hb d_M_find_123 (by decide) ?_
                exact ih_86 _ (by omega) (m2 + 1) n2 f2 v2 s2 c2 q2 ls H locs rfl (fps_n hfs h_11) (by omega) hn2 hs2 hc2 (lv_sub hl [0, 1] rfl) (hP.sub [0, 1, 2, 3, 4, 5, 6, 7, 8] rfl) (hD.sub [0, 1, 2, 3, 4, 5, 6, 7, 8] (by decide) rfl) hS
              · have h_11 : (mny (1 + m2) 16) = sp := (nI_eq (a := mny (1 + m2) 16) (b := sp) (by omega) (by omega)).mp h_11
                refine lv_aload_n hx hb d_M_find_107 rfl (lv_at hl 1 rfl) ?_
                refine lv_iload_n hx hb d_M_find_108 rfl (lv_at hl 0 rfl) ?_
                refine cx_call (D := D) (cl := kl) (ws := _) (wc := [(m0, .inr (7, [.int th, .int (nI zs), .int (nI rn), .ref rw, .int (nI kn), .int rk, .int (nI yn), .ref ry, .int (nI sp), .int lg, .ref ti, .int (1 : Int32), .int (nI n2), .ref po, .ref su, .ref sq, .ref ch, .ref vt, .ref sh])), (ch, .inl (cI, 8, .inl (nf c2)))]) (wr := [(rw, .inl (cI, 32, .inl wf)), (ry, .inl (cI, 256, .inl yf)), (po, .inl (cI, 4000, .inl f2)), (vt, .inl (cI, 4, .inl v2)), (su, .inl (cZ, 1000, .inl sf)), (sq, .inl (cJ, 256, .inr (.inl q2))), (sh, .inl (cI, 4, .inl (nf s2)))]) (tx_runV (C := cn_M) (b := m0) (As := [.int (nI (1 + m2))]) (rest := []) hx hb hml hown (c_M_choose E H.size m0 rw ry ti po su sq ch vt sh th (nI zs) (nI rn) (nI kn) rk (nI sp) lg (1 : Int32) (nI n2) yn c2 (1 + m2) hyn hc2 (by omega)) (cx_C (b0 := b0) G hx0 mw_860 mw_9 ny_M_choose (by decide)) (gw.at G hx0 mw_857 rfl _) (gw.at G hx0 mw_859 rfl _) (gw.at G hx0 ms_M_choose rfl _) ⟨cx_blind, va_recv hK hP (q0 := 8) (ci := 7) (q := (cn_M, ft_M, 19)) rfl rfl, (cx_pre (s := s) hx0 hP hD hS hA0 [8, 6] rfl rfl (by decide))⟩ rfl rfl hl.1 rfl (lv_room (Nat.le_of_ble_eq_true rfl)) d_M_find_109 ⟨by decide, by decide⟩) hP hD hS hA [8, 6] [0, 1, 2, 3, 4, 5, 7] rfl rfl (by decide) (by decide) (fun v t w1 H locs ht hW9 hp hP hD hS => ?_) (fun x t w1 H locs ht hW9 hp hP hD hS => by obtain ⟨_, _, h9, -⟩ := hp; cases h9)
                obtain ⟨n2_12, c2_13, h9, f_14, f_15, rfl⟩ := hp
                cases h9
                refine W.eq (g2 := F0 m 112 ls []) rfl ?_
                refine W.widen (k := 0) (n := 0) (by decide) (by decide) ?_
                have hP : va_P D kl [(rw, .inl (cI, 32, .inl wf)), (ry, .inl (cI, 256, .inl yf)), (po, .inl (cI, 4000, .inl f2)), (vt, .inl (cI, 4, .inl v2)), (su, .inl (cZ, 1000, .inl sf)), (sq, .inl (cJ, 256, .inr (.inl q2))), (sh, .inl (cI, 4, .inl (nf s2))), (m0, .inr (7, [.int th, .int (nI zs), .int (nI rn), .ref rw, .int (nI kn), .int rk, .int (nI yn), .ref ry, .int (nI sp), .int lg, .ref ti, .int (1 : Int32), .int (nI n2), .ref po, .ref su, .ref sq, .ref ch, .ref vt, .ref sh])), (ch, .inl (cI, 8, .inl (nf c2_13)))] H := hP
                have hD : va_D A [(rw, .inl (cI, 32, .inl wf)), (ry, .inl (cI, 256, .inl yf)), (po, .inl (cI, 4000, .inl f2)), (vt, .inl (cI, 4, .inl v2)), (su, .inl (cZ, 1000, .inl sf)), (sq, .inl (cJ, 256, .inr (.inl q2))), (sh, .inl (cI, 4, .inl (nf s2))), (m0, .inr (7, [.int th, .int (nI zs), .int (nI rn), .ref rw, .int (nI kn), .int rk, .int (nI yn), .ref ry, .int (nI sp), .int lg, .ref ti, .int (1 : Int32), .int (nI n2), .ref po, .ref su, .ref sq, .ref ch, .ref vt, .ref sh])), (ch, .inl (cI, 8, .inl (nf c2_13)))] := hD
                refine lv_aload_n hx hb d_M_find_112 rfl (lv_at hl 1 rfl) ?_
                refine lv_aload_n hx hb d_M_find_113 rfl (lv_at hl 1 rfl) ?_
                refine cx_call (D := D) (cl := kl) (ws := _) (wc := [(m0, .inr (7, [.int th, .int (nI zs), .int (nI rn), .ref rw, .int (nI kn), .int rk, .int (nI yn), .ref ry, .int (nI sp), .int lg, .ref ti, .int (1 : Int32), .int (nI n2), .ref po, .ref su, .ref sq, .ref ch, .ref vt, .ref sh])), (ry, .inl (cI, 256, .inl yf)), (ch, .inl (cI, 8, .inl (nf c2_13))), (sq, .inl (cJ, 256, .inr (.inl q2)))]) (wr := [(rw, .inl (cI, 32, .inl wf)), (po, .inl (cI, 4000, .inl f2)), (vt, .inl (cI, 4, .inl v2)), (su, .inl (cZ, 1000, .inl sf)), (sh, .inl (cI, 4, .inl (nf s2)))]) (tx_runV (C := cn_M) (b := m0) (As := []) (rest := [.ref m0]) hx hb hml hown (c_M_index E H.size m0 rw ry ti po su sq ch vt sh th (nI rn) (nI kn) rk (nI yn) lg (1 : Int32) (nI n2) zs sp yf c2_13 q2 hz4 hs4 f_15) (cx_C (b0 := b0) G hx0 mw_864 mw_9 ny_M_index (by decide)) (gw.at G hx0 mw_861 rfl _) (gw.at G hx0 mw_863 rfl _) (gw.at G hx0 ms_M_index rfl _) ⟨cx_blind, va_recv hK hP (q0 := 7) (ci := 7) (q := (cn_M, ft_M, 19)) rfl rfl, (cx_pre (s := s) hx0 hP hD hS hA0 [7, 1, 8, 5] rfl rfl (by decide))⟩ rfl rfl hl.1 rfl (lv_room (Nat.le_of_ble_eq_true rfl)) d_M_find_114 ⟨by decide, by decide⟩) hP hD hS hA [7, 1, 8, 5] [0, 2, 3, 4, 6] rfl rfl (by decide) (by decide) (fun v t w1 H locs ht hW9 hp hP hD hS => ?_) (fun x t w1 H locs ht hW9 hp hP hD hS => by obtain ⟨_, _, h9, -⟩ := hp; cases h9)
                obtain ⟨v_16, q2_17, h9, f_18, rfl⟩ := hp
                cases h9
                refine W.eq (g2 := F0 m 117 ls [.long v_16, .ref m0]) rfl ?_
                refine W.widen (k := 0) (n := 0) (by decide) (by decide) ?_
                have hP : va_P D kl [(rw, .inl (cI, 32, .inl wf)), (po, .inl (cI, 4000, .inl f2)), (vt, .inl (cI, 4, .inl v2)), (su, .inl (cZ, 1000, .inl sf)), (sh, .inl (cI, 4, .inl (nf s2))), (m0, .inr (7, [.int th, .int (nI zs), .int (nI rn), .ref rw, .int (nI kn), .int rk, .int (nI yn), .ref ry, .int (nI sp), .int lg, .ref ti, .int (1 : Int32), .int (nI n2), .ref po, .ref su, .ref sq, .ref ch, .ref vt, .ref sh])), (ry, .inl (cI, 256, .inl yf)), (ch, .inl (cI, 8, .inl (nf c2_13))), (sq, .inl (cJ, 256, .inr (.inl q2_17)))] H := hP
                have hD : va_D A [(rw, .inl (cI, 32, .inl wf)), (po, .inl (cI, 4000, .inl f2)), (vt, .inl (cI, 4, .inl v2)), (su, .inl (cZ, 1000, .inl sf)), (sh, .inl (cI, 4, .inl (nf s2))), (m0, .inr (7, [.int th, .int (nI zs), .int (nI rn), .ref rw, .int (nI kn), .int rk, .int (nI yn), .ref ry, .int (nI sp), .int lg, .ref ti, .int (1 : Int32), .int (nI n2), .ref po, .ref su, .ref sq, .ref ch, .ref vt, .ref sh])), (ry, .inl (cI, 256, .inl yf)), (ch, .inl (cI, 8, .inl (nf c2_13))), (sq, .inl (cJ, 256, .inr (.inl q2_17)))] := hD
                have hb9 := hbx (1 + m2) c2 q2 (by omega) h_11 hc2
                rw [f_14] at hb9
                rw [f_18] at hb9
                have hb8 := hb9.1
                have hb7 := hb9.2
                refine cx_call (D := D) (cl := kl) (ws := _) (wc := [(m0, .inr (7, [.int th, .int (nI zs), .int (nI rn), .ref rw, .int (nI kn), .int rk, .int (nI yn), .ref ry, .int (nI sp), .int lg, .ref ti, .int (1 : Int32), .int (nI n2), .ref po, .ref su, .ref sq, .ref ch, .ref vt, .ref sh])), (ry, .inl (cI, 256, .inl yf)), (ch, .inl (cI, 8, .inl (nf c2_13))), (po, .inl (cI, 4000, .inl f2)), (vt, .inl (cI, 4, .inl v2)), (sh, .inl (cI, 4, .inl (nf s2)))]) (wr := [(rw, .inl (cI, 32, .inl wf)), (su, .inl (cZ, 1000, .inl sf)), (sq, .inl (cJ, 256, .inr (.inl q2_17)))]) (tx_runV (C := cn_M) (b := m0) (As := [.long v_16]) (rest := []) hx hb hml hown (c_M_box E H.size m0 rw ry ti po su sq ch vt sh th (nI zs) (nI rn) (nI kn) rk (nI yn) lg (1 : Int32) sp n2 yf c2_13 f2 v2 s2 v_16 (ixn v_16) hb7 hb8 hs4 hn2 f_15 hs2) (cx_C (b0 := b0) G hx0 mw_917 mw_9 ny_M_box (by decide)) (gw.at G hx0 mw_914 rfl _) (gw.at G hx0 mw_916 rfl _) (gw.at G hx0 ms_M_box rfl _) ⟨cx_blind, va_recv hK hP (q0 := 5) (ci := 7) (q := (cn_M, ft_M, 19)) rfl rfl, (cx_pre (s := s) hx0 hP hD hS hA0 [5, 6, 7, 1, 2, 4] rfl rfl (by decide))⟩ rfl rfl hl.1 rfl (lv_room (Nat.le_of_ble_eq_true rfl)) d_M_find_117 ⟨by decide, by decide⟩) hP hD hS hA [5, 6, 7, 1, 2, 4] [0, 3, 8] rfl rfl (by decide) (by decide) (fun v t w1 H locs ht hW9 hp hP hD hS => ?_) (fun x t w1 H locs ht hW9 hp hP hD hS => by obtain ⟨_, _, _, _, h9, -⟩ := hp; cases h9)
                obtain ⟨p9_19, f9_20, v9_21, s9_22, h9, f_23, f_24, f_25, rfl⟩ := hp
                cases h9
                refine W.eq (g2 := F0 m 120 ls []) rfl ?_
                refine W.widen (k := 0) (n := 0) (by decide) (by decide) ?_
                have hP : va_P D kl [(rw, .inl (cI, 32, .inl wf)), (su, .inl (cZ, 1000, .inl sf)), (sq, .inl (cJ, 256, .inr (.inl q2_17))), (m0, .inr (7, [.int th, .int (nI zs), .int (nI rn), .ref rw, .int (nI kn), .int rk, .int (nI yn), .ref ry, .int (nI sp), .int lg, .ref ti, .int (1 : Int32), .int (nI p9_19), .ref po, .ref su, .ref sq, .ref ch, .ref vt, .ref sh])), (ry, .inl (cI, 256, .inl yf)), (ch, .inl (cI, 8, .inl (nf c2_13))), (po, .inl (cI, 4000, .inl f9_20)), (vt, .inl (cI, 4, .inl v9_21)), (sh, .inl (cI, 4, .inl (nf s9_22)))] H := hP
                have hD : va_D A [(rw, .inl (cI, 32, .inl wf)), (su, .inl (cZ, 1000, .inl sf)), (sq, .inl (cJ, 256, .inr (.inl q2_17))), (m0, .inr (7, [.int th, .int (nI zs), .int (nI rn), .ref rw, .int (nI kn), .int rk, .int (nI yn), .ref ry, .int (nI sp), .int lg, .ref ti, .int (1 : Int32), .int (nI p9_19), .ref po, .ref su, .ref sq, .ref ch, .ref vt, .ref sh])), (ry, .inl (cI, 256, .inl yf)), (ch, .inl (cI, 8, .inl (nf c2_13))), (po, .inl (cI, 4000, .inl f9_20)), (vt, .inl (cI, 4, .inl v9_21)), (sh, .inl (cI, 4, .inl (nf s9_22)))] := hD
                refine lv_iinc (lv' := [(1, .int (nI ((1 + m2) + 1))), (0, .ref m0)]) (k := 0) (v := nI ((1 + m2) + 1)) hx hb d_M_find_120 hl rfl (nI_add (1 + m2) 1) (by decide) rfl (fun ls hl => ?_)
                refine lv_goto (tgt := 86) hx hb d_M_find_123 (by decide) ?_
                exact ih_86 _ (by omega) (m2 + 1) p9_19 f9_20 v9_21 s9_22 c2_13 q2_17 ls H locs rfl (fps_y hfs h_11 f_14 f_18 f_23) (by omega) f_24 f_25 f_15 (lv_sub hl [0, 1] rfl) (hP.sub [0, 4, 6, 7, 1, 2, 5, 8, 3] rfl) (hD.sub [0, 4, 6, 7, 1, 2, 5, 8, 3] (by decide) rfl) hS
        exact lp_86 _ 0 n1 f1 v1 sk ck qf ls H locs rfl rfl (Nat.zero_le _) hn1 hsk hck (lv_sub hl [0, 1] rfl) (hP.sub [0, 1, 2, 3, 4, 5, 6, 7, 8] rfl) (hD.sub [0, 1, 2, 3, 4, 5, 6, 7, 8] (by decide) rfl) hS
      · have h_1 : ¬ (yn ≤ k) := fun z99 => h_1 ((nI_leI (a := yn) (b := k) (by omega) (by omega)).mpr z99)
        refine lv_aload_n hx hb d_M_find_32 rfl (lv_at hl 1 rfl) ?_
        refine lv_aload_n hx hb d_M_find_33 rfl (lv_at hl 1 rfl) ?_
        refine va_get (D := D) (ci := 7) (v := .ref ry) (C := cn_M) (T := ft_M) (N := 19) hx hb hf_M (fun _ h => h) hown hK hP 8 rfl rfl 7 (by decide) (gw.at G hx0 mw_720 rfl _) (fun _ h9 => h9) rfl d_M_find_34 ?_
        refine lv_iconst (v := (4 : Int32)) hx hb d_M_find_37 (by decide) ?_
        refine lv_iload_n hx hb d_M_find_38 rfl (lv_at hl 0 rfl) ?_
        refine lv_imul hx hb d_M_find_39 ?_
        refine tp_i (y := nI (4 * k)) (nI_mul 4 k) ?_
        refine va_iald hx hb hK hP 1 0 rfl rfl (vp_in_nI (n := 4 * k) (by omega) (by omega)) d_M_find_40 ?_
        refine tp_i (y := yf (4 * k)) (congrArg yf (nI_clamp (n := 4 * k) (by omega))) ?_
        refine lv_aload_n hx hb d_M_find_41 rfl (lv_at hl 1 rfl) ?_
        refine va_get (D := D) (ci := 7) (v := .ref ry) (C := cn_M) (T := ft_M) (N := 19) hx hb hf_M (fun _ h => h) hown hK hP 8 rfl rfl 7 (by decide) (gw.at G hx0 mw_720 rfl _) (fun _ h9 => h9) rfl d_M_find_42 ?_
        refine lv_iconst (v := (4 : Int32)) hx hb d_M_find_45 (by decide) ?_
        refine lv_iload_n hx hb d_M_find_46 rfl (lv_at hl 0 rfl) ?_
        refine lv_imul hx hb d_M_find_47 ?_
        refine tp_i (y := nI (4 * k)) (nI_mul 4 k) ?_
        refine lv_iconst (v := (1 : Int32)) hx hb d_M_find_48 (by decide) ?_
        refine lv_iadd hx hb d_M_find_49 ?_
        refine tp_i (y := nI ((4 * k) + 1)) (nI_add (4 * k) 1) ?_
        refine va_iald hx hb hK hP 1 0 rfl rfl (vp_in_nI (n := (4 * k) + 1) (by omega) (by omega)) d_M_find_50 ?_
        refine tp_i (y := yf ((4 * k) + 1)) (congrArg yf (nI_clamp (n := (4 * k) + 1) (by omega))) ?_
        refine lv_aload_n hx hb d_M_find_51 rfl (lv_at hl 1 rfl) ?_
        refine va_get (D := D) (ci := 7) (v := .ref ry) (C := cn_M) (T := ft_M) (N := 19) hx hb hf_M (fun _ h => h) hown hK hP 8 rfl rfl 7 (by decide) (gw.at G hx0 mw_720 rfl _) (fun _ h9 => h9) rfl d_M_find_52 ?_
        refine lv_iconst (v := (4 : Int32)) hx hb d_M_find_55 (by decide) ?_
        refine lv_iload_n hx hb d_M_find_56 rfl (lv_at hl 0 rfl) ?_
        refine lv_imul hx hb d_M_find_57 ?_
        refine tp_i (y := nI (4 * k)) (nI_mul 4 k) ?_
        refine lv_iconst (v := (2 : Int32)) hx hb d_M_find_58 (by decide) ?_
        refine lv_iadd hx hb d_M_find_59 ?_
        refine tp_i (y := nI ((4 * k) + 2)) (nI_add (4 * k) 2) ?_
        refine va_iald hx hb hK hP 1 0 rfl rfl (vp_in_nI (n := (4 * k) + 2) (by omega) (by omega)) d_M_find_60 ?_
        refine tp_i (y := yf ((4 * k) + 2)) (congrArg yf (nI_clamp (n := (4 * k) + 2) (by omega))) ?_
        refine lv_aload_n hx hb d_M_find_61 rfl (lv_at hl 1 rfl) ?_
        refine va_get (D := D) (ci := 7) (v := .ref ry) (C := cn_M) (T := ft_M) (N := 19) hx hb hf_M (fun _ h => h) hown hK hP 8 rfl rfl 7 (by decide) (gw.at G hx0 mw_720 rfl _) (fun _ h9 => h9) rfl d_M_find_62 ?_
        refine lv_iconst (v := (4 : Int32)) hx hb d_M_find_65 (by decide) ?_
        refine lv_iload_n hx hb d_M_find_66 rfl (lv_at hl 0 rfl) ?_
        refine lv_imul hx hb d_M_find_67 ?_
        refine tp_i (y := nI (4 * k)) (nI_mul 4 k) ?_
        refine lv_iconst (v := (3 : Int32)) hx hb d_M_find_68 (by decide) ?_
        refine lv_iadd hx hb d_M_find_69 ?_
        refine tp_i (y := nI ((4 * k) + 3)) (nI_add (4 * k) 3) ?_
        refine va_iald hx hb hK hP 1 0 rfl rfl (vp_in_nI (n := (4 * k) + 3) (by omega) (by omega)) d_M_find_70 ?_
        refine tp_i (y := yf ((4 * k) + 3)) (congrArg yf (nI_clamp (n := (4 * k) + 3) (by omega))) ?_
        refine cx_call (D := D) (cl := kl) (ws := _) (wc := [(m0, .inr (7, [.int th, .int (nI zs), .int (nI rn), .ref rw, .int (nI kn), .int rk, .int (nI yn), .ref ry, .int (nI sp), .int lg, .ref ti, .int (1 : Int32), .int (nI n1), .ref po, .ref su, .ref sq, .ref ch, .ref vt, .ref sh])), (vt, .inl (cI, 4, .inl v1))]) (wr := [(rw, .inl (cI, 32, .inl wf)), (ry, .inl (cI, 256, .inl yf)), (po, .inl (cI, 4000, .inl f1)), (su, .inl (cZ, 1000, .inl sf)), (sq, .inl (cJ, 256, .inr (.inl qf))), (ch, .inl (cI, 8, .inl (nf ck))), (sh, .inl (cI, 4, .inl (nf sk)))]) (tx_runV (C := cn_M) (b := m0) (As := [.int (yf (4 * k)), .int (yf ((4 * k) + 1)), .int (yf ((4 * k) + 2)), .int (yf ((4 * k) + 3))]) (rest := []) hx hb hml hown (c_M_set E H.size m0 rw ry ti po su sq ch vt sh th (nI zs) (nI rn) (nI kn) rk (nI yn) (nI sp) lg (1 : Int32) (nI n1) (yf (4 * k)) (yf ((4 * k) + 1)) (yf ((4 * k) + 2)) (yf ((4 * k) + 3)) v1 ) (cx_C (b0 := b0) G hx0 mw_783 mw_9 ny_M_set (by decide)) (gw.at G hx0 mw_780 rfl _) (gw.at G hx0 mw_782 rfl _) (gw.at G hx0 ms_M_set rfl _) ⟨cx_blind, va_recv hK hP (q0 := 8) (ci := 7) (q := (cn_M, ft_M, 19)) rfl rfl, (cx_pre (s := s) hx0 hP hD hS hA0 [8, 3] rfl rfl (by decide))⟩ rfl rfl hl.1 rfl (lv_room (Nat.le_of_ble_eq_true rfl)) d_M_find_71 ⟨by decide, by decide⟩) hP hD hS hA [8, 3] [0, 1, 2, 4, 5, 6, 7] rfl rfl (by decide) (by decide) (fun v t w1 H locs ht hW9 hp hP hD hS => ?_) (fun x t w1 H locs ht hW9 hp hP hD hS => by obtain ⟨h9, -⟩ := hp; cases h9)
        obtain ⟨h9, rfl⟩ := hp
        cases h9
        refine W.eq (g2 := F0 m 74 ls []) rfl ?_
        refine W.widen (k := 0) (n := 0) (by decide) (by decide) ?_
        have hP : va_P D kl [(rw, .inl (cI, 32, .inl wf)), (ry, .inl (cI, 256, .inl yf)), (po, .inl (cI, 4000, .inl f1)), (su, .inl (cZ, 1000, .inl sf)), (sq, .inl (cJ, 256, .inr (.inl qf))), (ch, .inl (cI, 8, .inl (nf ck))), (sh, .inl (cI, 4, .inl (nf sk))), (m0, .inr (7, [.int th, .int (nI zs), .int (nI rn), .ref rw, .int (nI kn), .int rk, .int (nI yn), .ref ry, .int (nI sp), .int lg, .ref ti, .int (1 : Int32), .int (nI n1), .ref po, .ref su, .ref sq, .ref ch, .ref vt, .ref sh])), (vt, .inl (cI, 4, .inl (upd (upd (upd (upd v1 0 (yf (4 * k))) 1 (yf ((4 * k) + 1))) 2 (tk_c (nI zs) (yf ((4 * k) + 2)))) 3 (tk_d (nI zs) (yf ((4 * k) + 3))))))] H := hP
        have hD : va_D A [(rw, .inl (cI, 32, .inl wf)), (ry, .inl (cI, 256, .inl yf)), (po, .inl (cI, 4000, .inl f1)), (su, .inl (cZ, 1000, .inl sf)), (sq, .inl (cJ, 256, .inr (.inl qf))), (ch, .inl (cI, 8, .inl (nf ck))), (sh, .inl (cI, 4, .inl (nf sk))), (m0, .inr (7, [.int th, .int (nI zs), .int (nI rn), .ref rw, .int (nI kn), .int rk, .int (nI yn), .ref ry, .int (nI sp), .int lg, .ref ti, .int (1 : Int32), .int (nI n1), .ref po, .ref su, .ref sq, .ref ch, .ref vt, .ref sh])), (vt, .inl (cI, 4, .inl (upd (upd (upd (upd v1 0 (yf (4 * k))) 1 (yf ((4 * k) + 1))) 2 (tk_c (nI zs) (yf ((4 * k) + 2)))) 3 (tk_d (nI zs) (yf ((4 * k) + 3))))))] := hD
        rw [show upd (upd (upd (upd v1 0 (yf (4 * k))) 1 (yf ((4 * k) + 1))) 2 (tk_c (nI zs) (yf ((4 * k) + 2)))) 3 (tk_d (nI zs) (yf ((4 * k) + 3))) = vst (nI zs) v1 (yf (4 * k)) (yf (4 * k + 1)) (yf (4 * k + 2)) (yf (4 * k + 3)) from rfl] at hP hD
        have hP : va_P D kl [(rw, .inl (cI, 32, .inl wf)), (ry, .inl (cI, 256, .inl yf)), (po, .inl (cI, 4000, .inl f1)), (su, .inl (cZ, 1000, .inl sf)), (sq, .inl (cJ, 256, .inr (.inl qf))), (ch, .inl (cI, 8, .inl (nf ck))), (sh, .inl (cI, 4, .inl (nf sk))), (m0, .inr (7, [.int th, .int (nI zs), .int (nI rn), .ref rw, .int (nI kn), .int rk, .int (nI yn), .ref ry, .int (nI sp), .int lg, .ref ti, .int (1 : Int32), .int (nI n1), .ref po, .ref su, .ref sq, .ref ch, .ref vt, .ref sh])), (vt, .inl (cI, 4, .inl (vst (nI zs) v1 (yf (4 * k)) (yf (4 * k + 1)) (yf (4 * k + 2)) (yf (4 * k + 3)))))] H := hP
        have hD : va_D A [(rw, .inl (cI, 32, .inl wf)), (ry, .inl (cI, 256, .inl yf)), (po, .inl (cI, 4000, .inl f1)), (su, .inl (cZ, 1000, .inl sf)), (sq, .inl (cJ, 256, .inr (.inl qf))), (ch, .inl (cI, 8, .inl (nf ck))), (sh, .inl (cI, 4, .inl (nf sk))), (m0, .inr (7, [.int th, .int (nI zs), .int (nI rn), .ref rw, .int (nI kn), .int rk, .int (nI yn), .ref ry, .int (nI sp), .int lg, .ref ti, .int (1 : Int32), .int (nI n1), .ref po, .ref su, .ref sq, .ref ch, .ref vt, .ref sh])), (vt, .inl (cI, 4, .inl (vst (nI zs) v1 (yf (4 * k)) (yf (4 * k + 1)) (yf (4 * k + 2)) (yf (4 * k + 3)))))] := hD
        refine lv_aload_n hx hb d_M_find_74 rfl (lv_at hl 1 rfl) ?_
        refine cx_call (D := D) (cl := kl) (ws := _) (wc := [(m0, .inr (7, [.int th, .int (nI zs), .int (nI rn), .ref rw, .int (nI kn), .int rk, .int (nI yn), .ref ry, .int (nI sp), .int lg, .ref ti, .int (1 : Int32), .int (nI n1), .ref po, .ref su, .ref sq, .ref ch, .ref vt, .ref sh])), (vt, .inl (cI, 4, .inl (vst (nI zs) v1 (yf (4 * k)) (yf (4 * k + 1)) (yf (4 * k + 2)) (yf (4 * k + 3))))), (po, .inl (cI, 4000, .inl f1))]) (wr := [(rw, .inl (cI, 32, .inl wf)), (ry, .inl (cI, 256, .inl yf)), (su, .inl (cZ, 1000, .inl sf)), (sq, .inl (cJ, 256, .inr (.inl qf))), (ch, .inl (cI, 8, .inl (nf ck))), (sh, .inl (cI, 4, .inl (nf sk)))]) (tx_runV (C := cn_M) (b := m0) (As := []) (rest := []) hx hb hml hown (c_M_keepPoint E H.size m0 rw ry ti po su sq ch vt sh th (nI zs) (nI rn) (nI kn) rk (nI yn) (nI sp) lg (1 : Int32) n1 (vst (nI zs) v1 (yf (4 * k)) (yf (4 * k + 1)) (yf (4 * k + 2)) (yf (4 * k + 3))) f1 hn1) (cx_C (b0 := b0) G hx0 mw_913 mw_9 ny_M_keepPoint (by decide)) (gw.at G hx0 mw_910 rfl _) (gw.at G hx0 mw_912 rfl _) (gw.at G hx0 ms_M_keepPoint rfl _) ⟨cx_blind, va_recv hK hP (q0 := 7) (ci := 7) (q := (cn_M, ft_M, 19)) rfl rfl, (cx_pre (s := s) hx0 hP hD hS hA0 [7, 8, 2] rfl rfl (by decide))⟩ rfl rfl hl.1 rfl (lv_room (Nat.le_of_ble_eq_true rfl)) d_M_find_75 ⟨by decide, by decide⟩) hP hD hS hA [7, 8, 2] [0, 1, 3, 4, 5, 6] rfl rfl (by decide) (by decide) (fun v t w1 H locs ht hW9 hp hP hD hS => ?_) (fun x t w1 H locs ht hW9 hp hP hD hS => by obtain ⟨_, _, h9, -⟩ := hp; cases h9)
        obtain ⟨n2_26, f2_27, h9, f_28, f_29, f_30, f_31, rfl⟩ := hp
        cases h9
        refine W.eq (g2 := F0 m 78 ls []) rfl ?_
        refine W.widen (k := 0) (n := 0) (by decide) (by decide) ?_
        have hP : va_P D kl [(rw, .inl (cI, 32, .inl wf)), (ry, .inl (cI, 256, .inl yf)), (su, .inl (cZ, 1000, .inl sf)), (sq, .inl (cJ, 256, .inr (.inl qf))), (ch, .inl (cI, 8, .inl (nf ck))), (sh, .inl (cI, 4, .inl (nf sk))), (m0, .inr (7, [.int th, .int (nI zs), .int (nI rn), .ref rw, .int (nI kn), .int rk, .int (nI yn), .ref ry, .int (nI sp), .int lg, .ref ti, .int (1 : Int32), .int (nI n2_26), .ref po, .ref su, .ref sq, .ref ch, .ref vt, .ref sh])), (vt, .inl (cI, 4, .inl (vst (nI zs) v1 (yf (4 * k)) (yf (4 * k + 1)) (yf (4 * k + 2)) (yf (4 * k + 3))))), (po, .inl (cI, 4000, .inl f2_27))] H := hP
        have hD : va_D A [(rw, .inl (cI, 32, .inl wf)), (ry, .inl (cI, 256, .inl yf)), (su, .inl (cZ, 1000, .inl sf)), (sq, .inl (cJ, 256, .inr (.inl qf))), (ch, .inl (cI, 8, .inl (nf ck))), (sh, .inl (cI, 4, .inl (nf sk))), (m0, .inr (7, [.int th, .int (nI zs), .int (nI rn), .ref rw, .int (nI kn), .int rk, .int (nI yn), .ref ry, .int (nI sp), .int lg, .ref ti, .int (1 : Int32), .int (nI n2_26), .ref po, .ref su, .ref sq, .ref ch, .ref vt, .ref sh])), (vt, .inl (cI, 4, .inl (vst (nI zs) v1 (yf (4 * k)) (yf (4 * k + 1)) (yf (4 * k + 2)) (yf (4 * k + 3))))), (po, .inl (cI, 4000, .inl f2_27))] := hD
        refine lv_iinc (lv' := [(1, .int (nI (k + 1))), (0, .ref m0)]) (k := 0) (v := nI (k + 1)) hx hb d_M_find_78 hl rfl (nI_add k 1) (by decide) rfl (fun ls hl => ?_)
        refine lv_goto (tgt := 24) hx hb d_M_find_81 (by decide) ?_
        exact ih_24 _ (by omega) (k + 1) n2_26 f2_27 (vst (nI zs) v1 (yf (4 * k)) (yf (4 * k + 1)) (yf (4 * k + 2)) (yf (4 * k + 3))) ls H locs rfl (fpr_s hfp f_28 f_29) (by omega) f_30 (lv_sub hl [0, 1] rfl) (hP.sub [0, 1, 8, 7, 2, 3, 4, 5, 6] rfl) (hD.sub [0, 1, 8, 7, 2, 3, 4, 5, 6] (by decide) rfl) hS
  exact lp_24 _ 0 0 pf vf ls H locs rfl rfl (Nat.zero_le _) (Nat.zero_le _) (lv_sub hl [0, 1] rfl) (hP.sub [0, 1, 2, 3, 4, 5, 6, 7, 8] rfl) (hD.sub [0, 1, 2, 3, 4, 5, 6, 7, 8] (by decide) rfl) hS

