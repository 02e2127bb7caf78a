/-! ===== own rows, laid by wip/tools/g40.py: the reference, across, index ===== -/
/-- the vector stands in a list already -/
def kyP (n : Nat) (f g : Nat → Int32) : Prop := kpl f g n 0 < n ∧ cmp4 f (4 * (kpl f g n 0)) g = 0
noncomputable def kyN (n : Nat) (f g : Nat → Int32) : Nat := @ite _ (kyP n f g) (Classical.propDecidable _) n (n + 1)
noncomputable def kyF (n : Nat) (f g : Nat → Int32) : Nat → Int32 := @ite _ (kyP n f g) (Classical.propDecidable _) f (kpF n (kpl f g n 0) f g)
theorem kyN_y {n : Nat} {f g : Nat → Int32} (h : kyP n f g) : kyN n f g = n := @if_pos _ (Classical.propDecidable _) h _ _ _
theorem kyN_n {n : Nat} {f g : Nat → Int32} (h : ¬ kyP n f g) : kyN n f g = n + 1 := @if_neg _ (Classical.propDecidable _) h _ _ _
theorem kyF_y {n : Nat} {f g : Nat → Int32} (h : kyP n f g) : kyF n f g = f := @if_pos _ (Classical.propDecidable _) h _ _ _
theorem kyF_n {n : Nat} {f g : Nat → Int32} (h : ¬ kyP n f g) : kyF n f g = kpF n (kpl f g n 0) f g := @if_neg _ (Classical.propDecidable _) h _ _ _
theorem kyN_le {n : Nat} {f g : Nat → Int32} : kyN n f g ≤ n + 1 := by
  by_cases h : kyP n f g
  · rw [kyN_y h]; omega
  · rw [kyN_n h]; omega
/-- the four determinants across a set of rows -/
def mn4 (wf : Nat → Int32) (rn zs x : Nat) (q : Nat → Int64) : (Int64 × Int64 × Int64 × Int64) × (Nat → Int64) :=
  let a := mnr wf rn zs x 0 q
  let b := mnr wf rn zs x 1 a.2
  let c := if zs ≤ 2 then ((0 : Int64), b.2) else mnr wf rn zs x 2 b.2
  let d := if zs ≤ 3 then ((0 : Int64), c.2) else mnr wf rn zs x 3 c.2
  ((a.1, b.1, c.1, d.1), d.2)
theorem mn4_2 {wf : Nat → Int32} {rn zs x : Nat} {q q0 q1 : Nat → Int64} {v0 v1 : Int64} (h0 : mnr wf rn zs x 0 q = (v0, q0)) (h1 : mnr wf rn zs x 1 q0 = (v1, q1)) (hz : zs ≤ 2) : mn4 wf rn zs x q = ((v0, v1, 0, 0), q1) := by
  simp only [mn4, h0, h1, if_pos hz, if_pos (show zs ≤ 3 by omega)]
theorem mn4_3 {wf : Nat → Int32} {rn zs x : Nat} {q q0 q1 q2 : Nat → Int64} {v0 v1 v2 : Int64} (h0 : mnr wf rn zs x 0 q = (v0, q0)) (h1 : mnr wf rn zs x 1 q0 = (v1, q1)) (h2 : mnr wf rn zs x 2 q1 = (v2, q2)) (hz : ¬ zs ≤ 2) (hz3 : zs ≤ 3) : mn4 wf rn zs x q = ((v0, v1, v2, 0), q2) := by
  simp only [mn4, h0, h1, if_neg hz, h2, if_pos hz3]
theorem mn4_4 {wf : Nat → Int32} {rn zs x : Nat} {q q0 q1 q2 q3 : Nat → Int64} {v0 v1 v2 v3 : Int64} (h0 : mnr wf rn zs x 0 q = (v0, q0)) (h1 : mnr wf rn zs x 1 q0 = (v1, q1)) (h2 : mnr wf rn zs x 2 q1 = (v2, q2)) (h3 : mnr wf rn zs x 3 q2 = (v3, q3)) (hz : ¬ zs ≤ 2) (hz3 : ¬ zs ≤ 3) : mn4 wf rn zs x q = ((v0, v1, v2, v3), q3) := by
  simp only [mn4, h0, h1, if_neg hz, h2, if_neg hz3, h3]
/-- the vector in the direction of the four determinants -/
def vcs (zs : Nat) (vf : Nat → Int32) (s g : Int64) (v : Int64 × Int64 × Int64 × Int64) : Nat → Int32 := upd (upd (upd (upd vf 0 (s * v.1 / g).toInt32) 1 (s * v.2.1 / g).toInt32) 2 (tk_c (nI zs) (s * v.2.2.1 / g).toInt32)) 3 (tk_d (nI zs) (s * v.2.2.2 / g).toInt32)
def hld (wf : Nat → Int32) (rn : Nat) (g : Nat → Int32) (a : Nat) : Prop := ∀ k, k < rn → ¬ prm wf k g a < 0
noncomputable def ast (wf : Nat → Int32) (rn zs : Nat) (s g : Int64) (v : Int64 × Int64 × Int64 × Int64) (p : Nat × (Nat → Int32) × (Nat → Int32)) : Nat × (Nat → Int32) × (Nat → Int32) :=
  @ite _ (hld wf rn (vcs zs p.2.2 s g v) 0) (Classical.propDecidable _) (kyN p.1 p.2.1 (vcs zs p.2.2 s g v), kyF p.1 p.2.1 (vcs zs p.2.2 s g v), vcs zs p.2.2 s g v) (p.1, p.2.1, vcs zs p.2.2 s g v)
theorem ast_y {wf : Nat → Int32} {rn zs n n2 : Nat} {s g : Int64} {v : Int64 × Int64 × Int64 × Int64} {f w f2 : Nat → Int32} (h : hld wf rn (vcs zs w s g v) 0) (hn : kyN n f (vcs zs w s g v) = n2) (hf : kyF n f (vcs zs w s g v) = f2) : ast wf rn zs s g v (n, f, w) = (n2, f2, vcs zs w s g v) := by
  unfold ast
  rw [@if_pos _ (Classical.propDecidable _) h, hn, hf]
theorem ast_n {wf : Nat → Int32} {rn zs n : Nat} {s g : Int64} {v : Int64 × Int64 × Int64 × Int64} {f w : Nat → Int32} (h : ¬ hld wf rn (vcs zs w s g v) 0) : ast wf rn zs s g v (n, f, w) = (n, f, vcs zs w s g v) := by
  unfold ast
  rw [@if_neg _ (Classical.propDecidable _) h]
noncomputable def gc4 (v : Int64 × Int64 × Int64 × Int64) : Int64 := gcv (gcv v.1 v.2.1) (gcv v.2.2.1 v.2.2.2)
noncomputable def acr (wf : Nat → Int32) (rn zs : Nat) (v : Int64 × Int64 × Int64 × Int64) (p : Nat × (Nat → Int32) × (Nat → Int32)) : Nat × (Nat → Int32) × (Nat → Int32) :=
  if 0 < gc4 v then ast wf rn zs 1 (gc4 v) v (ast wf rn zs (-1) (gc4 v) v p) else p
theorem acr_y {wf : Nat → Int32} {rn zs : Nat} {v : Int64 × Int64 × Int64 × Int64} {p p1 p2 : Nat × (Nat → Int32) × (Nat → Int32)} (hg : 0 < gc4 v) (h1 : ast wf rn zs (-1) (gc4 v) v p = p1) (h2 : ast wf rn zs 1 (gc4 v) v p1 = p2) : acr wf rn zs v p = p2 := by
  unfold acr; rw [if_pos hg, h1, h2]
theorem acr_n {wf : Nat → Int32} {rn zs : Nat} {v : Int64 × Int64 × Int64 × Int64} {p : Nat × (Nat → Int32) × (Nat → Int32)} (hg : ¬ 0 < gc4 v) : acr wf rn zs v p = p := by
  unfold acr; rw [if_neg hg]
/-- INDEX of the chosen rays: over the first k sets of coordinates -/
noncomputable def ixf (yf : Nat → Int32) (ck : Nat → Nat) (sp zs : Nat) : Nat → Int64 × (Nat → Int64) → Int64 × (Nat → Int64)
  | 0, p => p
  | k + 1, p => if mny k 16 = sp ∧ k < 2 ^ zs then (gcv (ixf yf ck sp zs k p).1 (dtm yf ck sp k (ixf yf ck sp zs k p).2).1, (dtm yf ck sp k (ixf yf ck sp zs k p).2).2) else ixf yf ck sp zs k p
theorem ixf_y {yf : Nat → Int32} {ck : Nat → Nat} {sp zs k : Nat} {p : Int64 × (Nat → Int64)} {g v : Int64} {q q2 : Nat → Int64} (h : ixf yf ck sp zs k p = (g, q)) (h1 : mny k 16 = sp) (h2 : k < 2 ^ zs) (hd : dtm yf ck sp k q = (v, q2)) : ixf yf ck sp zs (k + 1) p = (gcv g v, q2) := by
  show (if mny k 16 = sp ∧ k < 2 ^ zs then _ else _) = _
  rw [if_pos ⟨h1, h2⟩, h]
  simp only [hd]
theorem ixf_n {yf : Nat → Int32} {ck : Nat → Nat} {sp zs k : Nat} {p r : Int64 × (Nat → Int64)} (h : ixf yf ck sp zs k p = r) (h1 : ¬ (mny k 16 = sp ∧ k < 2 ^ zs)) : ixf yf ck sp zs (k + 1) p = r := by
  show (if mny k 16 = sp ∧ k < 2 ^ zs then _ else _) = _
  rw [if_neg h1, h]
/-- the largest INDEX of the first m sets of rays from set 1 on -/
noncomputable def ixd (yf : Nat → Int32) (yn sp zs : Nat) : Nat → Int64 × (Nat → Nat) × (Nat → Int64) → Int64 × (Nat → Nat) × (Nat → Int64)
  | 0, p => p
  | m + 1, p => if mny (1 + m) 16 = sp then
      (if (ixd yf yn sp zs m p).1 < (ixf yf (chs (1 + m) yn (0, (ixd yf yn sp zs m p).2.1)).2 sp zs 16 (0, (ixd yf yn sp zs m p).2.2)).1 then (ixf yf (chs (1 + m) yn (0, (ixd yf yn sp zs m p).2.1)).2 sp zs 16 (0, (ixd yf yn sp zs m p).2.2)).1 else (ixd yf yn sp zs m p).1,
        (chs (1 + m) yn (0, (ixd yf yn sp zs m p).2.1)).2, (ixf yf (chs (1 + m) yn (0, (ixd yf yn sp zs m p).2.1)).2 sp zs 16 (0, (ixd yf yn sp zs m p).2.2)).2)
    else ixd yf yn sp zs m p
theorem ixd_n {yf : Nat → Int32} {yn sp zs m : Nat} {p r : Int64 × (Nat → Nat) × (Nat → Int64)} (h : ixd yf yn sp zs m p = r) (h1 : ¬ mny (1 + m) 16 = sp) : ixd yf yn sp zs (m + 1) p = r := by
  show (if mny (1 + m) 16 = sp then _ else _) = _
  rw [if_neg h1, h]
theorem ixd_y {yf : Nat → Int32} {yn sp zs m n2 : Nat} {p : Int64 × (Nat → Nat) × (Nat → Int64)} {g i : Int64} {ck c2 : Nat → Nat} {q q2 : Nat → Int64} (h : ixd yf yn sp zs m p = (g, ck, q)) (h1 : mny (1 + m) 16 = sp) (hc : chs (1 + m) yn (0, ck) = (n2, c2)) (hi : ixf yf c2 sp zs 16 (0, q) = (i, q2)) : ixd yf yn sp zs (m + 1) p = (if g < i then i else g, c2, q2) := by
  show (if mny (1 + m) 16 = sp then _ else _) = _
  rw [if_pos h1, h]
  simp only [hc, hi]
theorem c_M_keepRay {l : Launch} {s0 : State} {b0 : Addr} {D : va_G} {cI cJ cZ : ClassId} {tC tS : Nat} (E : gE l s0 b0 D cI cJ cZ tC tS) (sz : Nat) (m0 : Nat) (rw : Nat) (ry : Nat) (ti : Nat) (po : Nat) (su : Nat) (sq : Nat) (ch : Nat) (vt : Nat) (sh : Nat) (th : Int32) (zz : Int32) (rn : Int32) (kn : Int32) (rk : Int32) (sp : Int32) (lg : Int32) (fo : Int32) (pt : Int32) (n : Nat) (vf : Nat → Int32) (yf : Nat → Int32) (hn : n ≤ 63) : cx_M l s0 D kl y_M_keepRay b_M_keepRay 3 none ({ frames := 1, cells := 0, slots := 0, locals := 23 } : Room) 0 0 [.ref m0] [(m0, .inr (7, [.int th, .int zz, .int rn, .ref rw, .int kn, .int rk, .int (nI n), .ref ry, .int sp, .int lg, .ref ti, .int fo, .int pt, .ref po, .ref su, .ref sq, .ref ch, .ref vt, .ref sh])), (vt, .inl (cI, 4, .inl vf)), (ry, .inl (cI, 256, .inl yf))] sz (fun o9 _ w9 => ∃ (n2 : Nat) (f2 : Nat → Int32), o9 = .returned none ∧ kyN n yf vf = n2 ∧ kyF n yf vf = f2 ∧ n2 ≤ n + 1 ∧ w9 = [(m0, .inr (7, [.int th, .int zz, .int rn, .ref rw, .int kn, .int rk, .int (nI n2), .ref ry, .int sp, .int lg, .ref ti, .int fo, .int pt, .ref po, .ref su, .ref sq, .ref ch, .ref vt, .ref sh])), (vt, .inl (cI, 4, .inl vf)), (ry, .inl (cI, 256, .inl f2))]) := by
  by_cases hc : kyP n yf vf
  · exact cx_mono (c_M_keepRay_y E sz m0 rw ry ti po su sq ch vt sh th zz rn kn rk sp lg fo pt n vf yf (by omega) hc) (fun o9 t9 w9 h => by obtain ⟨h9, hw⟩ := h; exact ⟨n, yf, h9, kyN_y hc, kyF_y hc, by omega, hw⟩)
  · exact cx_mono (c_M_keepRay_n E sz m0 rw ry ti po su sq ch vt sh th zz rn kn rk sp lg fo pt n vf yf hn hc) (fun o9 t9 w9 h => by obtain ⟨h9, hw⟩ := h; exact ⟨n + 1, _, h9, kyN_n hc, kyF_n hc, by omega, hw⟩)

set_option maxHeartbeats 4000000 in
set_option maxRecDepth 100000 in
theorem c_M_across {l : Launch} {s0 : State} {b0 : Addr} {D : va_G} {cI cJ cZ : ClassId} {tC tS : Nat} (E : gE l s0 b0 D cI cJ cZ tC tS) (sz : Nat) (m0 : Nat) (rw : Nat) (ry : Nat) (ti : Nat) (po : Nat) (su : Nat) (sq : Nat) (ch : Nat) (vt : Nat) (sh : Nat) (th : Int32) (kn : Int32) (rk : Int32) (sp : Int32) (lg : Int32) (fo : Int32) (pt : Int32) (zs : Nat) (rn : Nat) (yn : Nat) (wf : Nat → Int32) (yf : Nat → Int32) (vf : Nat → Int32) (qf : Nat → Int64) (x : Nat) (hz2 : 2 ≤ zs) (hz4 : zs ≤ 4) (hr8 : rn ≤ 8) (hyn : yn ≤ 62) (hx8 : x < 2 ^ 31) : cx_M l s0 D kl y_M_across b_M_across 13 none ({ frames := 2, cells := 0, slots := 0, locals := 54 } : Room) 0 0 [.ref m0, .int (nI x)] [(m0, .inr (7, [.int th, .int (nI zs), .int (nI rn), .ref rw, .int kn, .int rk, .int (nI yn), .ref ry, .int sp, .int lg, .ref ti, .int fo, .int pt, .ref po, .ref su, .ref sq, .ref ch, .ref vt, .ref sh])), (rw, .inl (cI, 32, .inl wf)), (ry, .inl (cI, 256, .inl yf)), (vt, .inl (cI, 4, .inl vf)), (sq, .inl (cJ, 256, .inr (.inl qf)))] sz (fun o9 _ w9 => ∃ (v8 : Int64 × Int64 × Int64 × Int64) (n9 : Nat) (f9 : Nat → Int32) (w8 : Nat → Int32) (q9 : Nat → Int64), o9 = .returned none ∧ mn4 wf rn zs x qf = (v8, q9) ∧ acr wf rn zs v8 (yn, yf, vf) = (n9, f9, w8) ∧ n9 ≤ yn + 2 ∧ w9 = [(m0, .inr (7, [.int th, .int (nI zs), .int (nI rn), .ref rw, .int kn, .int rk, .int (nI n9), .ref ry, .int sp, .int lg, .ref ti, .int fo, .int pt, .ref po, .ref su, .ref sq, .ref ch, .ref vt, .ref sh])), (rw, .inl (cI, 32, .inl wf)), (ry, .inl (cI, 256, .inl f9)), (vt, .inl (cI, 4, .inl w8)), (sq, .inl (cJ, 256, .inr (.inl q9)))]) := by
  refine tx_ofW (cc := b_M_across) (maxL := 13) (ret := none) (by decide) rfl ?_
  intro p e s m args below meth c s₁ B hml hT hv
  obtain ⟨rfl, hsz, hP, hD0, hx0⟩ := hv
  have hx := B.exec
  have hb := B.bytes
  have hr := B.returns
  have G := E.2.1
  have hown : s.vm.findClass cn_M = some m.cls := findClass_of_methodNamed B.named
  have hlocks := B.notSynchronized
  have hK := va_K.moved hx0.1.alike E.2.2.1
  have hf_M : ∀ w99 ∈ u_ws cn_M ft_M 19, w99.before ([.ref m0, .int (nI x)] : List Value).toArray s = true := fun w99 h99 => gw.at G hx0 (fw_M w99 h99) (fo_M w99 h99) _
  subst hsz
  have hA0 := cx_new hD0 hx0.2.1
  have hD := hD0.self (sz := s.heap.size)
  generalize hAe : va_A [(m0, .inr (7, [.int th, .int (nI zs), .int (nI rn), .ref rw, .int kn, .int rk, .int (nI yn), .ref ry, .int sp, .int lg, .ref ti, .int fo, .int pt, .ref po, .ref su, .ref sq, .ref ch, .ref vt, .ref sh])), (rw, .inl (cI, 32, .inl wf)), (ry, .inl (cI, 256, .inl yf)), (vt, .inl (cI, 4, .inl vf)), (sq, .inl (cJ, 256, .inr (.inl qf)))] s.heap.size = A at hD hA0 ⊢
  have hA : ∀ q : Nat, s.heap.size ≤ q → A q := fun q h => by rw [← hAe]; exact Or.inr h
  have hS : va_S A s.heap s.heap [] := va_S.rf
  have hl := lv_entry ([.ref m0, .int (nI x)]) (n := 13) (Nat.le_of_ble_eq_true rfl)
  rw [lg_entry_eq]
  generalize (lg_sl ([.ref m0, .int (nI x)]) ++ List.replicate (13 - (lg_sl ([.ref m0, .int (nI x)])).length) Slot.unset).toArray = ls at hl ⊢
  have hl : lv_has ls 13 [(0, .ref m0), (1, .int (nI x))] := hl
  have hP : va_P D kl [(m0, .inr (7, [.int th, .int (nI zs), .int (nI rn), .ref rw, .int kn, .int rk, .int (nI yn), .ref ry, .int sp, .int lg, .ref ti, .int fo, .int pt, .ref po, .ref su, .ref sq, .ref ch, .ref vt, .ref sh])), (rw, .inl (cI, 32, .inl wf)), (ry, .inl (cI, 256, .inl yf)), (vt, .inl (cI, 4, .inl vf)), (sq, .inl (cJ, 256, .inr (.inl qf)))] s.heap := hP
  have hml : c.maxLocals = 13 := hml
  refine lv_lconst (v := (0 : Int64)) hx hb d_M_across_0 (by decide) ?_
  refine lv_lstore_n (lv' := [(2, .long (0 : Int64)), (0, .ref m0), (1, .int (nI x))]) hx hb d_M_across_1 rfl hl (by decide) rfl (fun ls hl => ?_)
  refine lv_aload_n hx hb d_M_across_2 rfl (lv_at hl 1 rfl) ?_
  refine lv_iload_n hx hb d_M_across_3 rfl (lv_at hl 2 rfl) ?_
  refine lv_iconst (v := (0 : Int32)) hx hb d_M_across_4 (by decide) ?_
  refine cx_call (D := D) (cl := kl) (ws := _) (wc := [(m0, .inr (7, [.int th, .int (nI zs), .int (nI rn), .ref rw, .int kn, .int rk, .int (nI yn), .ref ry, .int sp, .int lg, .ref ti, .int fo, .int pt, .ref po, .ref su, .ref sq, .ref ch, .ref vt, .ref sh])), (rw, .inl (cI, 32, .inl wf)), (sq, .inl (cJ, 256, .inr (.inl qf)))]) (wr := [(ry, .inl (cI, 256, .inl yf)), (vt, .inl (cI, 4, .inl vf))]) (tx_runV (C := cn_M) (b := m0) (As := [.int (nI x), .int (0 : Int32)]) (rest := []) hx hb hml hown (c_M_minor0 E s.heap.size m0 rw ry ti po su sq ch vt sh th kn rk (nI yn) sp lg fo pt zs rn wf qf x hz2 hz4 hr8 hx8) (cx_C (b0 := b0) G hx0 mw_828 mw_9 ny_M_minor (by decide)) (gw.at G hx0 mw_825 rfl _) (gw.at G hx0 mw_827 rfl _) (gw.at G hx0 ms_M_minor rfl _) ⟨cx_blind, va_recv hK hP (q0 := 0) (ci := 7) (q := (cn_M, ft_M, 19)) rfl rfl, (cx_pre (s := s) hx0 hP hD hS hA0 [0, 1, 4] rfl rfl (by decide))⟩ rfl rfl hl.1 rfl (lv_room (Nat.le_of_ble_eq_true rfl)) d_M_across_5 ⟨by decide, by decide⟩) hP hD hS hA [0, 1, 4] [2, 3] rfl rfl (by decide) (by decide) (fun v t w1 H locs ht hW9 hp hP hD hS => ?_) (fun x t w1 H locs ht hW9 hp hP hD hS => by obtain ⟨_, _, h9, -⟩ := hp; cases h9)
  obtain ⟨v_1, q2_2, h9, f_3, rfl⟩ := hp
  cases h9
  refine W.eq (g2 := F0 m 8 ls [.long v_1]) rfl ?_
  refine W.widen (k := 0) (n := 0) (by decide) (by decide) ?_
  have hP : va_P D kl [(ry, .inl (cI, 256, .inl yf)), (vt, .inl (cI, 4, .inl vf)), (m0, .inr (7, [.int th, .int (nI zs), .int (nI rn), .ref rw, .int kn, .int rk, .int (nI yn), .ref ry, .int sp, .int lg, .ref ti, .int fo, .int pt, .ref po, .ref su, .ref sq, .ref ch, .ref vt, .ref sh])), (rw, .inl (cI, 32, .inl wf)), (sq, .inl (cJ, 256, .inr (.inl q2_2)))] H := hP
  have hD : va_D A [(ry, .inl (cI, 256, .inl yf)), (vt, .inl (cI, 4, .inl vf)), (m0, .inr (7, [.int th, .int (nI zs), .int (nI rn), .ref rw, .int kn, .int rk, .int (nI yn), .ref ry, .int sp, .int lg, .ref ti, .int fo, .int pt, .ref po, .ref su, .ref sq, .ref ch, .ref vt, .ref sh])), (rw, .inl (cI, 32, .inl wf)), (sq, .inl (cJ, 256, .inr (.inl q2_2)))] := hD
  refine lv_lstore (lv' := [(4, .long v_1), (2, .long (0 : Int64)), (0, .ref m0), (1, .int (nI x))]) hx hb d_M_across_8 hl (by decide) rfl (fun ls hl => ?_)
  refine lv_aload_n hx hb d_M_across_10 rfl (lv_at hl 2 rfl) ?_
  refine lv_iload_n hx hb d_M_across_11 rfl (lv_at hl 3 rfl) ?_
  refine lv_iconst (v := (1 : Int32)) hx hb d_M_across_12 (by decide) ?_
  refine cx_call (D := D) (cl := kl) (ws := _) (wc := [(m0, .inr (7, [.int th, .int (nI zs), .int (nI rn), .ref rw, .int kn, .int rk, .int (nI yn), .ref ry, .int sp, .int lg, .ref ti, .int fo, .int pt, .ref po, .ref su, .ref sq, .ref ch, .ref vt, .ref sh])), (rw, .inl (cI, 32, .inl wf)), (sq, .inl (cJ, 256, .inr (.inl q2_2)))]) (wr := [(ry, .inl (cI, 256, .inl yf)), (vt, .inl (cI, 4, .inl vf))]) (tx_runV (C := cn_M) (b := m0) (As := [.int (nI x), .int (1 : Int32)]) (rest := []) hx hb hml hown (c_M_minor1 E H.size m0 rw ry ti po su sq ch vt sh th kn rk (nI yn) sp lg fo pt zs rn wf q2_2 x hz2 hz4 hr8 hx8) (cx_C (b0 := b0) G hx0 mw_828 mw_9 ny_M_minor (by decide)) (gw.at G hx0 mw_825 rfl _) (gw.at G hx0 mw_827 rfl _) (gw.at G hx0 ms_M_minor rfl _) ⟨cx_blind, va_recv hK hP (q0 := 2) (ci := 7) (q := (cn_M, ft_M, 19)) rfl rfl, (cx_pre (s := s) hx0 hP hD hS hA0 [2, 3, 4] rfl rfl (by decide))⟩ rfl rfl hl.1 rfl (lv_room (Nat.le_of_ble_eq_true rfl)) d_M_across_13 ⟨by decide, by decide⟩) hP hD hS hA [2, 3, 4] [0, 1] rfl rfl (by decide) (by decide) (fun v t w1 H locs ht hW9 hp hP hD hS => ?_) (fun x t w1 H locs ht hW9 hp hP hD hS => by obtain ⟨_, _, h9, -⟩ := hp; cases h9)
  obtain ⟨v_4, q2_5, h9, f_6, rfl⟩ := hp
  cases h9
  refine W.eq (g2 := F0 m 16 ls [.long v_4]) rfl ?_
  refine W.widen (k := 0) (n := 0) (by decide) (by decide) ?_
  have hP : va_P D kl [(ry, .inl (cI, 256, .inl yf)), (vt, .inl (cI, 4, .inl vf)), (m0, .inr (7, [.int th, .int (nI zs), .int (nI rn), .ref rw, .int kn, .int rk, .int (nI yn), .ref ry, .int sp, .int lg, .ref ti, .int fo, .int pt, .ref po, .ref su, .ref sq, .ref ch, .ref vt, .ref sh])), (rw, .inl (cI, 32, .inl wf)), (sq, .inl (cJ, 256, .inr (.inl q2_5)))] H := hP
  have hD : va_D A [(ry, .inl (cI, 256, .inl yf)), (vt, .inl (cI, 4, .inl vf)), (m0, .inr (7, [.int th, .int (nI zs), .int (nI rn), .ref rw, .int kn, .int rk, .int (nI yn), .ref ry, .int sp, .int lg, .ref ti, .int fo, .int pt, .ref po, .ref su, .ref sq, .ref ch, .ref vt, .ref sh])), (rw, .inl (cI, 32, .inl wf)), (sq, .inl (cJ, 256, .inr (.inl q2_5)))] := hD
  refine lv_lstore (lv' := [(6, .long v_4), (4, .long v_1), (2, .long (0 : Int64)), (0, .ref m0), (1, .int (nI x))]) hx hb d_M_across_16 hl (by decide) rfl (fun ls hl => ?_)
  refine lv_aload_n hx hb d_M_across_18 rfl (lv_at hl 3 rfl) ?_
  refine va_get (D := D) (ci := 7) (v := .int (nI zs)) (C := cn_M) (T := ft_M) (N := 19) hx hb hf_M (fun _ h => h) hown hK hP 2 rfl rfl 1 (by decide) (gw.at G hx0 mw_714 rfl _) (fun _ h9 => h9) rfl d_M_across_19 ?_
  refine lv_iconst (v := (2 : Int32)) hx hb d_M_across_22 (by decide) ?_
  refine lv_icmp_le (tgt := 35) hx hb d_M_across_23 (by decide) (fun h_7 => ?_) (fun h_7 => ?_)
  · have h_7 : zs ≤ 2 := (nI_leI (a := zs) (b := 2) (by omega) (by omega)).mp h_7
    refine lv_lconst (v := (0 : Int64)) hx hb d_M_across_35 (by decide) ?_
    refine lv_lstore (lv' := [(8, .long (0 : Int64)), (6, .long v_4), (4, .long v_1), (2, .long (0 : Int64)), (0, .ref m0), (1, .int (nI x))]) hx hb d_M_across_36 hl (by decide) rfl (fun ls hl => ?_)
    refine lv_aload_n hx hb d_M_across_38 rfl (lv_at hl 4 rfl) ?_
    refine va_get (D := D) (ci := 7) (v := .int (nI zs)) (C := cn_M) (T := ft_M) (N := 19) hx hb hf_M (fun _ h => h) hown hK hP 2 rfl rfl 1 (by decide) (gw.at G hx0 mw_714 rfl _) (fun _ h9 => h9) rfl d_M_across_39 ?_
    refine lv_iconst (v := (3 : Int32)) hx hb d_M_across_42 (by decide) ?_
    refine lv_icmp_le (tgt := 55) hx hb d_M_across_43 (by decide) (fun _ => ?_) (fun h99 => absurd h99 (not_not_intro ((nI_leI (a := zs) (b := 3) (by omega) (by omega)).mpr (by omega))))
    refine lv_lconst (v := (0 : Int64)) hx hb d_M_across_55 (by decide) ?_
    refine lv_lstore (lv' := [(10, .long (0 : Int64)), (8, .long (0 : Int64)), (6, .long v_4), (4, .long v_1), (2, .long (0 : Int64)), (0, .ref m0), (1, .int (nI x))]) hx hb d_M_across_56 hl (by decide) rfl (fun ls hl => ?_)
    refine lv_lload hx hb d_M_across_58 (lv_at hl 3 rfl) ?_
    refine lv_lload hx hb d_M_across_60 (lv_at hl 2 rfl) ?_
    refine cx_call (D := D) (cl := kl) (ws := _) (wc := []) (wr := [(ry, .inl (cI, 256, .inl yf)), (vt, .inl (cI, 4, .inl vf)), (m0, .inr (7, [.int th, .int (nI zs), .int (nI rn), .ref rw, .int kn, .int rk, .int (nI yn), .ref ry, .int sp, .int lg, .ref ti, .int fo, .int pt, .ref po, .ref su, .ref sq, .ref ch, .ref vt, .ref sh])), (rw, .inl (cI, 32, .inl wf)), (sq, .inl (cJ, 256, .inr (.inl q2_5)))]) (tx_runS (As := [.long v_1, .long v_4]) (rest := []) hx hb hml hown (c_M_gcd E H.size v_1 v_4 ) (cx_C (b0 := b0) G hx0 mw_817 mw_9 ny_M_gcd (by decide)) (gw.at G hx0 mw_815 rfl _) (gw.at G hx0 mw_816 rfl _) (gw.at G hx0 mw_9 rfl _) ⟨cx_blind, (cx_pre (s := s) hx0 hP hD hS hA0 [] rfl rfl (by decide))⟩ rfl rfl hl.1 rfl (lv_room (Nat.le_of_ble_eq_true rfl)) d_M_across_62 ⟨by decide, by decide⟩) hP hD hS hA [] [0, 1, 2, 3, 4] rfl rfl (by decide) (by decide) (fun v t w1 H locs ht hW9 hp hP hD hS => ?_) (fun x t w1 H locs ht hW9 hp hP hD hS => by obtain ⟨h9, -⟩ := hp; cases h9)
    obtain ⟨h9, rfl⟩ := hp
    cases h9
    refine W.eq (g2 := F0 m 65 ls [.long (gcv v_1 v_4)]) rfl ?_
    refine W.widen (k := 0) (n := 0) (by decide) (by decide) ?_
    have hP : va_P D kl [(ry, .inl (cI, 256, .inl yf)), (vt, .inl (cI, 4, .inl vf)), (m0, .inr (7, [.int th, .int (nI zs), .int (nI rn), .ref rw, .int kn, .int rk, .int (nI yn), .ref ry, .int sp, .int lg, .ref ti, .int fo, .int pt, .ref po, .ref su, .ref sq, .ref ch, .ref vt, .ref sh])), (rw, .inl (cI, 32, .inl wf)), (sq, .inl (cJ, 256, .inr (.inl q2_5)))] H := hP
    have hD : va_D A [(ry, .inl (cI, 256, .inl yf)), (vt, .inl (cI, 4, .inl vf)), (m0, .inr (7, [.int th, .int (nI zs), .int (nI rn), .ref rw, .int kn, .int rk, .int (nI yn), .ref ry, .int sp, .int lg, .ref ti, .int fo, .int pt, .ref po, .ref su, .ref sq, .ref ch, .ref vt, .ref sh])), (rw, .inl (cI, 32, .inl wf)), (sq, .inl (cJ, 256, .inr (.inl q2_5)))] := hD
    refine lv_lload hx hb d_M_across_65 (lv_at hl 1 rfl) ?_
    refine lv_lload hx hb d_M_across_67 (lv_at hl 0 rfl) ?_
    refine cx_call (D := D) (cl := kl) (ws := _) (wc := []) (wr := [(ry, .inl (cI, 256, .inl yf)), (vt, .inl (cI, 4, .inl vf)), (m0, .inr (7, [.int th, .int (nI zs), .int (nI rn), .ref rw, .int kn, .int rk, .int (nI yn), .ref ry, .int sp, .int lg, .ref ti, .int fo, .int pt, .ref po, .ref su, .ref sq, .ref ch, .ref vt, .ref sh])), (rw, .inl (cI, 32, .inl wf)), (sq, .inl (cJ, 256, .inr (.inl q2_5)))]) (tx_runS (As := [.long (0 : Int64), .long (0 : Int64)]) (rest := [.long (gcv v_1 v_4)]) hx hb hml hown (c_M_gcd E H.size (0 : Int64) (0 : Int64) ) (cx_C (b0 := b0) G hx0 mw_817 mw_9 ny_M_gcd (by decide)) (gw.at G hx0 mw_815 rfl _) (gw.at G hx0 mw_816 rfl _) (gw.at G hx0 mw_9 rfl _) ⟨cx_blind, (cx_pre (s := s) hx0 hP hD hS hA0 [] rfl rfl (by decide))⟩ rfl rfl hl.1 rfl (lv_room (Nat.le_of_ble_eq_true rfl)) d_M_across_69 ⟨by decide, by decide⟩) hP hD hS hA [] [0, 1, 2, 3, 4] rfl rfl (by decide) (by decide) (fun v t w1 H locs ht hW9 hp hP hD hS => ?_) (fun x t w1 H locs ht hW9 hp hP hD hS => by obtain ⟨h9, -⟩ := hp; cases h9)
    obtain ⟨h9, rfl⟩ := hp
    cases h9
    refine W.eq (g2 := F0 m 72 ls [.long (gcv (0 : Int64) (0 : Int64)), .long (gcv v_1 v_4)]) rfl ?_
    refine W.widen (k := 0) (n := 0) (by decide) (by decide) ?_
    have hP : va_P D kl [(ry, .inl (cI, 256, .inl yf)), (vt, .inl (cI, 4, .inl vf)), (m0, .inr (7, [.int th, .int (nI zs), .int (nI rn), .ref rw, .int kn, .int rk, .int (nI yn), .ref ry, .int sp, .int lg, .ref ti, .int fo, .int pt, .ref po, .ref su, .ref sq, .ref ch, .ref vt, .ref sh])), (rw, .inl (cI, 32, .inl wf)), (sq, .inl (cJ, 256, .inr (.inl q2_5)))] H := hP
    have hD : va_D A [(ry, .inl (cI, 256, .inl yf)), (vt, .inl (cI, 4, .inl vf)), (m0, .inr (7, [.int th, .int (nI zs), .int (nI rn), .ref rw, .int kn, .int rk, .int (nI yn), .ref ry, .int sp, .int lg, .ref ti, .int fo, .int pt, .ref po, .ref su, .ref sq, .ref ch, .ref vt, .ref sh])), (rw, .inl (cI, 32, .inl wf)), (sq, .inl (cJ, 256, .inr (.inl q2_5)))] := hD
    refine cx_call (D := D) (cl := kl) (ws := _) (wc := []) (wr := [(ry, .inl (cI, 256, .inl yf)), (vt, .inl (cI, 4, .inl vf)), (m0, .inr (7, [.int th, .int (nI zs), .int (nI rn), .ref rw, .int kn, .int rk, .int (nI yn), .ref ry, .int sp, .int lg, .ref ti, .int fo, .int pt, .ref po, .ref su, .ref sq, .ref ch, .ref vt, .ref sh])), (rw, .inl (cI, 32, .inl wf)), (sq, .inl (cJ, 256, .inr (.inl q2_5)))]) (tx_runS (As := [.long (gcv v_1 v_4), .long (gcv (0 : Int64) (0 : Int64))]) (rest := []) hx hb hml hown (c_M_gcd E H.size (gcv v_1 v_4) (gcv (0 : Int64) (0 : Int64)) ) (cx_C (b0 := b0) G hx0 mw_817 mw_9 ny_M_gcd (by decide)) (gw.at G hx0 mw_815 rfl _) (gw.at G hx0 mw_816 rfl _) (gw.at G hx0 mw_9 rfl _) ⟨cx_blind, (cx_pre (s := s) hx0 hP hD hS hA0 [] rfl rfl (by decide))⟩ rfl rfl hl.1 rfl (lv_room (Nat.le_of_ble_eq_true rfl)) d_M_across_72 ⟨by decide, by decide⟩) hP hD hS hA [] [0, 1, 2, 3, 4] rfl rfl (by decide) (by decide) (fun v t w1 H locs ht hW9 hp hP hD hS => ?_) (fun x t w1 H locs ht hW9 hp hP hD hS => by obtain ⟨h9, -⟩ := hp; cases h9)
    obtain ⟨h9, rfl⟩ := hp
    cases h9
    refine W.eq (g2 := F0 m 75 ls [.long (gcv (gcv v_1 v_4) (gcv (0 : Int64) (0 : Int64)))]) rfl ?_
    refine W.widen (k := 0) (n := 0) (by decide) (by decide) ?_
    have hP : va_P D kl [(ry, .inl (cI, 256, .inl yf)), (vt, .inl (cI, 4, .inl vf)), (m0, .inr (7, [.int th, .int (nI zs), .int (nI rn), .ref rw, .int kn, .int rk, .int (nI yn), .ref ry, .int sp, .int lg, .ref ti, .int fo, .int pt, .ref po, .ref su, .ref sq, .ref ch, .ref vt, .ref sh])), (rw, .inl (cI, 32, .inl wf)), (sq, .inl (cJ, 256, .inr (.inl q2_5)))] H := hP
    have hD : va_D A [(ry, .inl (cI, 256, .inl yf)), (vt, .inl (cI, 4, .inl vf)), (m0, .inr (7, [.int th, .int (nI zs), .int (nI rn), .ref rw, .int kn, .int rk, .int (nI yn), .ref ry, .int sp, .int lg, .ref ti, .int fo, .int pt, .ref po, .ref su, .ref sq, .ref ch, .ref vt, .ref sh])), (rw, .inl (cI, 32, .inl wf)), (sq, .inl (cJ, 256, .inr (.inl q2_5)))] := hD
    refine lv_lstore_n (lv' := [(2, .long (gcv (gcv v_1 v_4) (gcv (0 : Int64) (0 : Int64)))), (10, .long (0 : Int64)), (8, .long (0 : Int64)), (6, .long v_4), (4, .long v_1), (0, .ref m0), (1, .int (nI x))]) hx hb d_M_across_75 rfl hl (by decide) rfl (fun ls hl => ?_)
    refine lv_iconst (v := (-1 : Int32)) hx hb d_M_across_76 (by decide) ?_
    refine lv_istore (lv' := [(12, .int (-1 : Int32)), (2, .long (gcv (gcv v_1 v_4) (gcv (0 : Int64) (0 : Int64)))), (10, .long (0 : Int64)), (8, .long (0 : Int64)), (6, .long v_4), (4, .long v_1), (0, .ref m0), (1, .int (nI x))]) hx hb d_M_across_77 hl (by decide) rfl (fun ls hl => ?_)
    refine lv_iload hx hb d_M_across_79 (lv_at hl 0 rfl) ?_
    refine lv_iconst (v := (2 : Int32)) hx hb d_M_across_81 (by decide) ?_
    refine lv_icmp_ge (tgt := 153) hx hb d_M_across_82 (by decide) (fun h99 => absurd h99 (by decide)) (fun _ => ?_)
    refine lv_lload_n hx hb d_M_across_85 rfl (lv_at hl 1 rfl) ?_
    refine lv_lconst (v := (0 : Int64)) hx hb d_M_across_86 (by decide) ?_
    refine W.lcmp hx hb d_M_across_87 ?_
    refine lv_if_le (tgt := 153) hx hb d_M_across_88 (by decide) (fun h_8 => ?_) (fun h_8 => ?_)
    · exact tx_mono (fun _ h => tx_Z.of h) (W.vret hx hb hr (fun t ht hW => ⟨⟨[(m0, .inr (7, [.int th, .int (nI zs), .int (nI rn), .ref rw, .int kn, .int rk, .int (nI yn), .ref ry, .int sp, .int lg, .ref ti, .int fo, .int pt, .ref po, .ref su, .ref sq, .ref ch, .ref vt, .ref sh])), (rw, .inl (cI, 32, .inl wf)), (ry, .inl (cI, 256, .inl yf)), (vt, .inl (cI, 4, .inl vf)), (sq, .inl (cJ, 256, .inr (.inl q2_5)))], ⟨(v_1, v_4, (0 : Int64), (0 : Int64)), yn, yf, vf, q2_5, rfl, mn4_2 f_3 f_6 h_7, acr_n (fun z9 => absurd h_8 (Int32.not_le.mpr ((lg_cmp_gt _ _).mpr z9))), by omega, rfl⟩, by rw [ht]; exact hP.sub [2, 3, 0, 1, 4] rfl, hD.sub [2, 3, 0, 1, 4] (by decide) rfl⟩, hS.F ht⟩) hS.2.2 d_M_across_153)
    · refine lv_aload_n hx hb d_M_across_91 rfl (lv_at hl 6 rfl) ?_
      refine lv_iload hx hb d_M_across_92 (lv_at hl 0 rfl) ?_
      refine lv_i2l (v := (-1 : Int64)) hx hb d_M_across_94 (by decide) ?_
      refine lv_lload hx hb d_M_across_95 (lv_at hl 5 rfl) ?_
      refine lv_lmul hx hb d_M_across_97 ?_
      refine lv_lload_n hx hb d_M_across_98 rfl (lv_at hl 1 rfl) ?_
      refine lv_ldiv hx hb d_M_across_99 (fun z9 => by have z8 := h_8; rw [z9] at z8; exact z8 (by decide)) ?_
      refine lv_l2i (v := (((-1 : Int64) * v_1) / (gcv (gcv v_1 v_4) (gcv (0 : Int64) (0 : Int64)))).toInt32) hx hb d_M_across_100 rfl ?_
      refine lv_iload hx hb d_M_across_101 (lv_at hl 0 rfl) ?_
      refine lv_i2l (v := (-1 : Int64)) hx hb d_M_across_103 (by decide) ?_
      refine lv_lload hx hb d_M_across_104 (lv_at hl 4 rfl) ?_
      refine lv_lmul hx hb d_M_across_106 ?_
      refine lv_lload_n hx hb d_M_across_107 rfl (lv_at hl 1 rfl) ?_
      refine lv_ldiv hx hb d_M_across_108 (fun z9 => by have z8 := h_8; rw [z9] at z8; exact z8 (by decide)) ?_
      refine lv_l2i (v := (((-1 : Int64) * v_4) / (gcv (gcv v_1 v_4) (gcv (0 : Int64) (0 : Int64)))).toInt32) hx hb d_M_across_109 rfl ?_
      refine lv_iload hx hb d_M_across_110 (lv_at hl 0 rfl) ?_
      refine lv_i2l (v := (-1 : Int64)) hx hb d_M_across_112 (by decide) ?_
      refine lv_lload hx hb d_M_across_113 (lv_at hl 3 rfl) ?_
      refine lv_lmul hx hb d_M_across_115 ?_
      refine tp_l (y := (0 : Int64)) (by decide) ?_
      refine lv_lload_n hx hb d_M_across_116 rfl (lv_at hl 1 rfl) ?_
      refine lv_ldiv hx hb d_M_across_117 (fun z9 => by have z8 := h_8; rw [z9] at z8; exact z8 (by decide)) ?_
      refine lv_l2i (v := ((0 : Int64) / (gcv (gcv v_1 v_4) (gcv (0 : Int64) (0 : Int64)))).toInt32) hx hb d_M_across_118 rfl ?_
      refine lv_iload hx hb d_M_across_119 (lv_at hl 0 rfl) ?_
      refine lv_i2l (v := (-1 : Int64)) hx hb d_M_across_121 (by decide) ?_
      refine lv_lload hx hb d_M_across_122 (lv_at hl 2 rfl) ?_
      refine lv_lmul hx hb d_M_across_124 ?_
      refine tp_l (y := (0 : Int64)) (by decide) ?_
      refine lv_lload_n hx hb d_M_across_125 rfl (lv_at hl 1 rfl) ?_
      refine lv_ldiv hx hb d_M_across_126 (fun z9 => by have z8 := h_8; rw [z9] at z8; exact z8 (by decide)) ?_
      refine lv_l2i (v := ((0 : Int64) / (gcv (gcv v_1 v_4) (gcv (0 : Int64) (0 : Int64)))).toInt32) hx hb d_M_across_127 rfl ?_
      refine cx_call (D := D) (cl := kl) (ws := _) (wc := [(m0, .inr (7, [.int th, .int (nI zs), .int (nI rn), .ref rw, .int kn, .int rk, .int (nI yn), .ref ry, .int sp, .int lg, .ref ti, .int fo, .int pt, .ref po, .ref su, .ref sq, .ref ch, .ref vt, .ref sh])), (vt, .inl (cI, 4, .inl vf))]) (wr := [(ry, .inl (cI, 256, .inl yf)), (rw, .inl (cI, 32, .inl wf)), (sq, .inl (cJ, 256, .inr (.inl q2_5)))]) (tx_runV (C := cn_M) (b := m0) (As := [.int ((((-1 : Int64) * v_1) / (gcv (gcv v_1 v_4) (gcv (0 : Int64) (0 : Int64)))).toInt32), .int ((((-1 : Int64) * v_4) / (gcv (gcv v_1 v_4) (gcv (0 : Int64) (0 : Int64)))).toInt32), .int (((0 : Int64) / (gcv (gcv v_1 v_4) (gcv (0 : Int64) (0 : Int64)))).toInt32), .int (((0 : Int64) / (gcv (gcv v_1 v_4) (gcv (0 : Int64) (0 : Int64)))).toInt32)]) (rest := []) hx hb hml hown (c_M_set E H.size m0 rw ry ti po su sq ch vt sh th (nI zs) (nI rn) kn rk (nI yn) sp lg fo pt ((((-1 : Int64) * v_1) / (gcv (gcv v_1 v_4) (gcv (0 : Int64) (0 : Int64)))).toInt32) ((((-1 : Int64) * v_4) / (gcv (gcv v_1 v_4) (gcv (0 : Int64) (0 : Int64)))).toInt32) (((0 : Int64) / (gcv (gcv v_1 v_4) (gcv (0 : Int64) (0 : Int64)))).toInt32) (((0 : Int64) / (gcv (gcv v_1 v_4) (gcv (0 : Int64) (0 : Int64)))).toInt32) vf ) (cx_C (b0 := b0) G hx0 mw_783 mw_9 ny_M_set (by decide)) (gw.at G hx0 mw_780 rfl _) (gw.at G hx0 mw_782 rfl _) (gw.at G hx0 ms_M_set rfl _) ⟨cx_blind, va_recv hK hP (q0 := 2) (ci := 7) (q := (cn_M, ft_M, 19)) rfl rfl, (cx_pre (s := s) hx0 hP hD hS hA0 [2, 1] rfl rfl (by decide))⟩ rfl rfl hl.1 rfl (lv_room (Nat.le_of_ble_eq_true rfl)) d_M_across_128 ⟨by decide, by decide⟩) hP hD hS hA [2, 1] [0, 3, 4] rfl rfl (by decide) (by decide) (fun v t w1 H locs ht hW9 hp hP hD hS => ?_) (fun x t w1 H locs ht hW9 hp hP hD hS => by obtain ⟨h9, -⟩ := hp; cases h9)
      obtain ⟨h9, rfl⟩ := hp
      cases h9
      refine W.eq (g2 := F0 m 131 ls []) rfl ?_
      refine W.widen (k := 0) (n := 0) (by decide) (by decide) ?_
      have hP : va_P D kl [(ry, .inl (cI, 256, .inl yf)), (rw, .inl (cI, 32, .inl wf)), (sq, .inl (cJ, 256, .inr (.inl q2_5))), (m0, .inr (7, [.int th, .int (nI zs), .int (nI rn), .ref rw, .int kn, .int rk, .int (nI yn), .ref ry, .int sp, .int lg, .ref ti, .int fo, .int pt, .ref po, .ref su, .ref sq, .ref ch, .ref vt, .ref sh])), (vt, .inl (cI, 4, .inl (upd (upd (upd (upd vf 0 ((((-1 : Int64) * v_1) / (gcv (gcv v_1 v_4) (gcv (0 : Int64) (0 : Int64)))).toInt32)) 1 ((((-1 : Int64) * v_4) / (gcv (gcv v_1 v_4) (gcv (0 : Int64) (0 : Int64)))).toInt32)) 2 (tk_c (nI zs) (((0 : Int64) / (gcv (gcv v_1 v_4) (gcv (0 : Int64) (0 : Int64)))).toInt32))) 3 (tk_d (nI zs) (((0 : Int64) / (gcv (gcv v_1 v_4) (gcv (0 : Int64) (0 : Int64)))).toInt32)))))] H := hP
      have hD : va_D A [(ry, .inl (cI, 256, .inl yf)), (rw, .inl (cI, 32, .inl wf)), (sq, .inl (cJ, 256, .inr (.inl q2_5))), (m0, .inr (7, [.int th, .int (nI zs), .int (nI rn), .ref rw, .int kn, .int rk, .int (nI yn), .ref ry, .int sp, .int lg, .ref ti, .int fo, .int pt, .ref po, .ref su, .ref sq, .ref ch, .ref vt, .ref sh])), (vt, .inl (cI, 4, .inl (upd (upd (upd (upd vf 0 ((((-1 : Int64) * v_1) / (gcv (gcv v_1 v_4) (gcv (0 : Int64) (0 : Int64)))).toInt32)) 1 ((((-1 : Int64) * v_4) / (gcv (gcv v_1 v_4) (gcv (0 : Int64) (0 : Int64)))).toInt32)) 2 (tk_c (nI zs) (((0 : Int64) / (gcv (gcv v_1 v_4) (gcv (0 : Int64) (0 : Int64)))).toInt32))) 3 (tk_d (nI zs) (((0 : Int64) / (gcv (gcv v_1 v_4) (gcv (0 : Int64) (0 : Int64)))).toInt32)))))] := hD
      obtain ⟨w_9, hw_9⟩ : ∃ z9 : Nat → Int32, z9 = vcs zs vf (-1 : Int64) (gc4 (v_1, v_4, (0 : Int64), (0 : Int64))) (v_1, v_4, (0 : Int64), (0 : Int64)) := ⟨_, rfl⟩
      rw [show upd (upd (upd (upd vf 0 ((((-1 : Int64) * v_1) / (gcv (gcv v_1 v_4) (gcv (0 : Int64) (0 : Int64)))).toInt32)) 1 ((((-1 : Int64) * v_4) / (gcv (gcv v_1 v_4) (gcv (0 : Int64) (0 : Int64)))).toInt32)) 2 (tk_c (nI zs) (((0 : Int64) / (gcv (gcv v_1 v_4) (gcv (0 : Int64) (0 : Int64)))).toInt32))) 3 (tk_d (nI zs) (((0 : Int64) / (gcv (gcv v_1 v_4) (gcv (0 : Int64) (0 : Int64)))).toInt32)) = w_9 from hw_9.symm] at hP hD
      have hP : va_P D kl [(ry, .inl (cI, 256, .inl yf)), (rw, .inl (cI, 32, .inl wf)), (sq, .inl (cJ, 256, .inr (.inl q2_5))), (m0, .inr (7, [.int th, .int (nI zs), .int (nI rn), .ref rw, .int kn, .int rk, .int (nI yn), .ref ry, .int sp, .int lg, .ref ti, .int fo, .int pt, .ref po, .ref su, .ref sq, .ref ch, .ref vt, .ref sh])), (vt, .inl (cI, 4, .inl w_9))] H := hP
      have hD : va_D A [(ry, .inl (cI, 256, .inl yf)), (rw, .inl (cI, 32, .inl wf)), (sq, .inl (cJ, 256, .inr (.inl q2_5))), (m0, .inr (7, [.int th, .int (nI zs), .int (nI rn), .ref rw, .int kn, .int rk, .int (nI yn), .ref ry, .int sp, .int lg, .ref ti, .int fo, .int pt, .ref po, .ref su, .ref sq, .ref ch, .ref vt, .ref sh])), (vt, .inl (cI, 4, .inl w_9))] := hD
      refine lv_aload_n hx hb d_M_across_131 rfl (lv_at hl 6 rfl) ?_
      refine lv_aload_n hx hb d_M_across_132 rfl (lv_at hl 6 rfl) ?_
      refine va_get (D := D) (ci := 7) (v := .ref vt) (C := cn_M) (T := ft_M) (N := 19) hx hb hf_M (fun _ h => h) hown hK hP 3 rfl rfl 17 (by decide) (gw.at G hx0 mw_730 rfl _) (fun _ h9 => h9) rfl d_M_across_133 ?_
      refine lv_iconst (v := (0 : Int32)) hx hb d_M_across_136 (by decide) ?_
      by_cases h_10 : hld wf rn (w_9) 0
      · refine cx_call (D := D) (cl := kl) (ws := _) (wc := [(m0, .inr (7, [.int th, .int (nI zs), .int (nI rn), .ref rw, .int kn, .int rk, .int (nI yn), .ref ry, .int sp, .int lg, .ref ti, .int fo, .int pt, .ref po, .ref su, .ref sq, .ref ch, .ref vt, .ref sh])), (rw, .inl (cI, 32, .inl wf)), (vt, .inl (cI, 4, .inl w_9))]) (wr := [(ry, .inl (cI, 256, .inl yf)), (sq, .inl (cJ, 256, .inr (.inl q2_5)))]) (tx_runV (C := cn_M) (b := m0) (As := [.ref vt, .int (0 : Int32)]) (rest := []) hx hb hml hown (c_M_holdsAt_y E H.size m0 rw ry ti po su sq ch vt sh th (nI zs) kn rk (nI yn) sp lg fo pt rn wf vt 4 w_9 0 hr8 (by decide) (by decide) h_10) (cx_C (b0 := b0) G hx0 mw_836 mw_9 ny_M_holdsAt (by decide)) (gw.at G hx0 mw_833 rfl _) (gw.at G hx0 mw_835 rfl _) (gw.at G hx0 ms_M_holdsAt rfl _) ⟨cx_blind, va_recv hK hP (q0 := 3) (ci := 7) (q := (cn_M, ft_M, 19)) rfl rfl, (cx_pre (s := s) hx0 hP hD hS hA0 [3, 1, 4] rfl rfl (by decide))⟩ rfl rfl hl.1 rfl (lv_room (Nat.le_of_ble_eq_true rfl)) d_M_across_137 ⟨by decide, by decide⟩) hP hD hS hA [3, 1, 4] [0, 2] rfl rfl (by decide) (by decide) (fun v t w1 H locs ht hW9 hp hP hD hS => ?_) (fun x t w1 H locs ht hW9 hp hP hD hS => by obtain ⟨h9, -⟩ := hp; cases h9)
        obtain ⟨h9, rfl⟩ := hp
        cases h9
        refine W.eq (g2 := F0 m 140 ls [.int (1 : Int32)]) rfl ?_
        refine W.widen (k := 0) (n := 0) (by decide) (by decide) ?_
        have hP : va_P D kl [(ry, .inl (cI, 256, .inl yf)), (sq, .inl (cJ, 256, .inr (.inl q2_5))), (m0, .inr (7, [.int th, .int (nI zs), .int (nI rn), .ref rw, .int kn, .int rk, .int (nI yn), .ref ry, .int sp, .int lg, .ref ti, .int fo, .int pt, .ref po, .ref su, .ref sq, .ref ch, .ref vt, .ref sh])), (rw, .inl (cI, 32, .inl wf)), (vt, .inl (cI, 4, .inl w_9))] H := hP
        have hD : va_D A [(ry, .inl (cI, 256, .inl yf)), (sq, .inl (cJ, 256, .inr (.inl q2_5))), (m0, .inr (7, [.int th, .int (nI zs), .int (nI rn), .ref rw, .int kn, .int rk, .int (nI yn), .ref ry, .int sp, .int lg, .ref ti, .int fo, .int pt, .ref po, .ref su, .ref sq, .ref ch, .ref vt, .ref sh])), (rw, .inl (cI, 32, .inl wf)), (vt, .inl (cI, 4, .inl w_9))] := hD
        refine lv_if_eq (tgt := 147) hx hb d_M_across_140 (by decide) (fun h99 => absurd h99 (by decide)) (fun _ => ?_)
        refine lv_aload_n hx hb d_M_across_143 rfl (lv_at hl 6 rfl) ?_
        refine cx_call (D := D) (cl := kl) (ws := _) (wc := [(m0, .inr (7, [.int th, .int (nI zs), .int (nI rn), .ref rw, .int kn, .int rk, .int (nI yn), .ref ry, .int sp, .int lg, .ref ti, .int fo, .int pt, .ref po, .ref su, .ref sq, .ref ch, .ref vt, .ref sh])), (vt, .inl (cI, 4, .inl w_9)), (ry, .inl (cI, 256, .inl yf))]) (wr := [(sq, .inl (cJ, 256, .inr (.inl q2_5))), (rw, .inl (cI, 32, .inl wf))]) (tx_runV (C := cn_M) (b := m0) (As := []) (rest := []) hx hb hml hown (c_M_keepRay E H.size m0 rw ry ti po su sq ch vt sh th (nI zs) (nI rn) kn rk sp lg fo pt yn w_9 yf (by omega)) (cx_C (b0 := b0) G hx0 mw_844 mw_9 ny_M_keepRay (by decide)) (gw.at G hx0 mw_841 rfl _) (gw.at G hx0 mw_843 rfl _) (gw.at G hx0 ms_M_keepRay rfl _) ⟨cx_blind, va_recv hK hP (q0 := 2) (ci := 7) (q := (cn_M, ft_M, 19)) rfl rfl, (cx_pre (s := s) hx0 hP hD hS hA0 [2, 4, 0] rfl rfl (by decide))⟩ rfl rfl hl.1 rfl (lv_room (Nat.le_of_ble_eq_true rfl)) d_M_across_144 ⟨by decide, by decide⟩) hP hD hS hA [2, 4, 0] [1, 3] rfl rfl (by decide) (by decide) (fun v t w1 H locs ht hW9 hp hP hD hS => ?_) (fun x t w1 H locs ht hW9 hp hP hD hS => by obtain ⟨_, _, h9, -⟩ := hp; cases h9)
        obtain ⟨n2_11, f2_12, h9, f_13, f_14, f_15, rfl⟩ := hp
        cases h9
        refine W.eq (g2 := F0 m 147 ls []) rfl ?_
        refine W.widen (k := 0) (n := 0) (by decide) (by decide) ?_
        have hP : va_P D kl [(sq, .inl (cJ, 256, .inr (.inl q2_5))), (rw, .inl (cI, 32, .inl wf)), (m0, .inr (7, [.int th, .int (nI zs), .int (nI rn), .ref rw, .int kn, .int rk, .int (nI n2_11), .ref ry, .int sp, .int lg, .ref ti, .int fo, .int pt, .ref po, .ref su, .ref sq, .ref ch, .ref vt, .ref sh])), (vt, .inl (cI, 4, .inl w_9)), (ry, .inl (cI, 256, .inl f2_12))] H := hP
        have hD : va_D A [(sq, .inl (cJ, 256, .inr (.inl q2_5))), (rw, .inl (cI, 32, .inl wf)), (m0, .inr (7, [.int th, .int (nI zs), .int (nI rn), .ref rw, .int kn, .int rk, .int (nI n2_11), .ref ry, .int sp, .int lg, .ref ti, .int fo, .int pt, .ref po, .ref su, .ref sq, .ref ch, .ref vt, .ref sh])), (vt, .inl (cI, 4, .inl w_9)), (ry, .inl (cI, 256, .inl f2_12))] := hD
        refine lv_iinc (lv' := [(12, .int (1 : Int32)), (2, .long (gcv (gcv v_1 v_4) (gcv (0 : Int64) (0 : Int64)))), (10, .long (0 : Int64)), (8, .long (0 : Int64)), (6, .long v_4), (4, .long v_1), (0, .ref m0), (1, .int (nI x))]) (k := 0) (v := (1 : Int32)) hx hb d_M_across_147 hl rfl (by decide) (by decide) rfl (fun ls hl => ?_)
        refine lv_goto (tgt := 79) hx hb d_M_across_150 (by decide) ?_
        refine lv_iload hx hb d_M_across_79 (lv_at hl 0 rfl) ?_
        refine lv_iconst (v := (2 : Int32)) hx hb d_M_across_81 (by decide) ?_
        refine lv_icmp_ge (tgt := 153) hx hb d_M_across_82 (by decide) (fun h99 => absurd h99 (by decide)) (fun _ => ?_)
        refine lv_lload_n hx hb d_M_across_85 rfl (lv_at hl 1 rfl) ?_
        refine lv_lconst (v := (0 : Int64)) hx hb d_M_across_86 (by decide) ?_
        refine W.lcmp hx hb d_M_across_87 ?_
        refine lv_if_le (tgt := 153) hx hb d_M_across_88 (by decide) (fun h99 => absurd h99 (by first | assumption | exact Int32.not_le.mpr (by assumption) | exact Int32.not_lt.mpr (by assumption) | exact Int32.not_le.mp (by assumption) | exact Int32.not_lt.mp (by assumption))) (fun _ => ?_)
        refine lv_aload_n hx hb d_M_across_91 rfl (lv_at hl 6 rfl) ?_
        refine lv_iload hx hb d_M_across_92 (lv_at hl 0 rfl) ?_
        refine lv_i2l (v := (1 : Int64)) hx hb d_M_across_94 (by decide) ?_
        refine lv_lload hx hb d_M_across_95 (lv_at hl 5 rfl) ?_
        refine lv_lmul hx hb d_M_across_97 ?_
        refine lv_lload_n hx hb d_M_across_98 rfl (lv_at hl 1 rfl) ?_
        refine lv_ldiv hx hb d_M_across_99 (fun z9 => by have z8 := h_8; rw [z9] at z8; exact z8 (by decide)) ?_
        refine lv_l2i (v := (((1 : Int64) * v_1) / (gcv (gcv v_1 v_4) (gcv (0 : Int64) (0 : Int64)))).toInt32) hx hb d_M_across_100 rfl ?_
        refine lv_iload hx hb d_M_across_101 (lv_at hl 0 rfl) ?_
        refine lv_i2l (v := (1 : Int64)) hx hb d_M_across_103 (by decide) ?_
        refine lv_lload hx hb d_M_across_104 (lv_at hl 4 rfl) ?_
        refine lv_lmul hx hb d_M_across_106 ?_
        refine lv_lload_n hx hb d_M_across_107 rfl (lv_at hl 1 rfl) ?_
        refine lv_ldiv hx hb d_M_across_108 (fun z9 => by have z8 := h_8; rw [z9] at z8; exact z8 (by decide)) ?_
        refine lv_l2i (v := (((1 : Int64) * v_4) / (gcv (gcv v_1 v_4) (gcv (0 : Int64) (0 : Int64)))).toInt32) hx hb d_M_across_109 rfl ?_
        refine lv_iload hx hb d_M_across_110 (lv_at hl 0 rfl) ?_
        refine lv_i2l (v := (1 : Int64)) hx hb d_M_across_112 (by decide) ?_
        refine lv_lload hx hb d_M_across_113 (lv_at hl 3 rfl) ?_
        refine lv_lmul hx hb d_M_across_115 ?_
        refine tp_l (y := (0 : Int64)) (by decide) ?_
        refine lv_lload_n hx hb d_M_across_116 rfl (lv_at hl 1 rfl) ?_
        refine lv_ldiv hx hb d_M_across_117 (fun z9 => by have z8 := h_8; rw [z9] at z8; exact z8 (by decide)) ?_
        refine lv_l2i (v := ((0 : Int64) / (gcv (gcv v_1 v_4) (gcv (0 : Int64) (0 : Int64)))).toInt32) hx hb d_M_across_118 rfl ?_
        refine lv_iload hx hb d_M_across_119 (lv_at hl 0 rfl) ?_
        refine lv_i2l (v := (1 : Int64)) hx hb d_M_across_121 (by decide) ?_
        refine lv_lload hx hb d_M_across_122 (lv_at hl 2 rfl) ?_
        refine lv_lmul hx hb d_M_across_124 ?_
        refine tp_l (y := (0 : Int64)) (by decide) ?_
        refine lv_lload_n hx hb d_M_across_125 rfl (lv_at hl 1 rfl) ?_
        refine lv_ldiv hx hb d_M_across_126 (fun z9 => by have z8 := h_8; rw [z9] at z8; exact z8 (by decide)) ?_
        refine lv_l2i (v := ((0 : Int64) / (gcv (gcv v_1 v_4) (gcv (0 : Int64) (0 : Int64)))).toInt32) hx hb d_M_across_127 rfl ?_
        refine cx_call (D := D) (cl := kl) (ws := _) (wc := [(m0, .inr (7, [.int th, .int (nI zs), .int (nI rn), .ref rw, .int kn, .int rk, .int (nI n2_11), .ref ry, .int sp, .int lg, .ref ti, .int fo, .int pt, .ref po, .ref su, .ref sq, .ref ch, .ref vt, .ref sh])), (vt, .inl (cI, 4, .inl w_9))]) (wr := [(sq, .inl (cJ, 256, .inr (.inl q2_5))), (rw, .inl (cI, 32, .inl wf)), (ry, .inl (cI, 256, .inl f2_12))]) (tx_runV (C := cn_M) (b := m0) (As := [.int ((((1 : Int64) * v_1) / (gcv (gcv v_1 v_4) (gcv (0 : Int64) (0 : Int64)))).toInt32), .int ((((1 : Int64) * v_4) / (gcv (gcv v_1 v_4) (gcv (0 : Int64) (0 : Int64)))).toInt32), .int (((0 : Int64) / (gcv (gcv v_1 v_4) (gcv (0 : Int64) (0 : Int64)))).toInt32), .int (((0 : Int64) / (gcv (gcv v_1 v_4) (gcv (0 : Int64) (0 : Int64)))).toInt32)]) (rest := []) hx hb hml hown (c_M_set E H.size m0 rw ry ti po su sq ch vt sh th (nI zs) (nI rn) kn rk (nI n2_11) sp lg fo pt ((((1 : Int64) * v_1) / (gcv (gcv v_1 v_4) (gcv (0 : Int64) (0 : Int64)))).toInt32) ((((1 : Int64) * v_4) / (gcv (gcv v_1 v_4) (gcv (0 : Int64) (0 : Int64)))).toInt32) (((0 : Int64) / (gcv (gcv v_1 v_4) (gcv (0 : Int64) (0 : Int64)))).toInt32) (((0 : Int64) / (gcv (gcv v_1 v_4) (gcv (0 : Int64) (0 : Int64)))).toInt32) w_9 ) (cx_C (b0 := b0) G hx0 mw_783 mw_9 ny_M_set (by decide)) (gw.at G hx0 mw_780 rfl _) (gw.at G hx0 mw_782 rfl _) (gw.at G hx0 ms_M_set rfl _) ⟨cx_blind, va_recv hK hP (q0 := 2) (ci := 7) (q := (cn_M, ft_M, 19)) rfl rfl, (cx_pre (s := s) hx0 hP hD hS hA0 [2, 3] rfl rfl (by decide))⟩ rfl rfl hl.1 rfl (lv_room (Nat.le_of_ble_eq_true rfl)) d_M_across_128 ⟨by decide, by decide⟩) hP hD hS hA [2, 3] [0, 1, 4] rfl rfl (by decide) (by decide) (fun v t w1 H locs ht hW9 hp hP hD hS => ?_) (fun x t w1 H locs ht hW9 hp hP hD hS => by obtain ⟨h9, -⟩ := hp; cases h9)
        obtain ⟨h9, rfl⟩ := hp
        cases h9
        refine W.eq (g2 := F0 m 131 ls []) rfl ?_
        refine W.widen (k := 0) (n := 0) (by decide) (by decide) ?_
        have hP : va_P D kl [(sq, .inl (cJ, 256, .inr (.inl q2_5))), (rw, .inl (cI, 32, .inl wf)), (ry, .inl (cI, 256, .inl f2_12)), (m0, .inr (7, [.int th, .int (nI zs), .int (nI rn), .ref rw, .int kn, .int rk, .int (nI n2_11), .ref ry, .int sp, .int lg, .ref ti, .int fo, .int pt, .ref po, .ref su, .ref sq, .ref ch, .ref vt, .ref sh])), (vt, .inl (cI, 4, .inl (upd (upd (upd (upd w_9 0 ((((1 : Int64) * v_1) / (gcv (gcv v_1 v_4) (gcv (0 : Int64) (0 : Int64)))).toInt32)) 1 ((((1 : Int64) * v_4) / (gcv (gcv v_1 v_4) (gcv (0 : Int64) (0 : Int64)))).toInt32)) 2 (tk_c (nI zs) (((0 : Int64) / (gcv (gcv v_1 v_4) (gcv (0 : Int64) (0 : Int64)))).toInt32))) 3 (tk_d (nI zs) (((0 : Int64) / (gcv (gcv v_1 v_4) (gcv (0 : Int64) (0 : Int64)))).toInt32)))))] H := hP
        have hD : va_D A [(sq, .inl (cJ, 256, .inr (.inl q2_5))), (rw, .inl (cI, 32, .inl wf)), (ry, .inl (cI, 256, .inl f2_12)), (m0, .inr (7, [.int th, .int (nI zs), .int (nI rn), .ref rw, .int kn, .int rk, .int (nI n2_11), .ref ry, .int sp, .int lg, .ref ti, .int fo, .int pt, .ref po, .ref su, .ref sq, .ref ch, .ref vt, .ref sh])), (vt, .inl (cI, 4, .inl (upd (upd (upd (upd w_9 0 ((((1 : Int64) * v_1) / (gcv (gcv v_1 v_4) (gcv (0 : Int64) (0 : Int64)))).toInt32)) 1 ((((1 : Int64) * v_4) / (gcv (gcv v_1 v_4) (gcv (0 : Int64) (0 : Int64)))).toInt32)) 2 (tk_c (nI zs) (((0 : Int64) / (gcv (gcv v_1 v_4) (gcv (0 : Int64) (0 : Int64)))).toInt32))) 3 (tk_d (nI zs) (((0 : Int64) / (gcv (gcv v_1 v_4) (gcv (0 : Int64) (0 : Int64)))).toInt32)))))] := hD
        obtain ⟨w_16, hw_16⟩ : ∃ z9 : Nat → Int32, z9 = vcs zs w_9 (1 : Int64) (gc4 (v_1, v_4, (0 : Int64), (0 : Int64))) (v_1, v_4, (0 : Int64), (0 : Int64)) := ⟨_, rfl⟩
        rw [show upd (upd (upd (upd w_9 0 ((((1 : Int64) * v_1) / (gcv (gcv v_1 v_4) (gcv (0 : Int64) (0 : Int64)))).toInt32)) 1 ((((1 : Int64) * v_4) / (gcv (gcv v_1 v_4) (gcv (0 : Int64) (0 : Int64)))).toInt32)) 2 (tk_c (nI zs) (((0 : Int64) / (gcv (gcv v_1 v_4) (gcv (0 : Int64) (0 : Int64)))).toInt32))) 3 (tk_d (nI zs) (((0 : Int64) / (gcv (gcv v_1 v_4) (gcv (0 : Int64) (0 : Int64)))).toInt32)) = w_16 from hw_16.symm] at hP hD
        have hP : va_P D kl [(sq, .inl (cJ, 256, .inr (.inl q2_5))), (rw, .inl (cI, 32, .inl wf)), (ry, .inl (cI, 256, .inl f2_12)), (m0, .inr (7, [.int th, .int (nI zs), .int (nI rn), .ref rw, .int kn, .int rk, .int (nI n2_11), .ref ry, .int sp, .int lg, .ref ti, .int fo, .int pt, .ref po, .ref su, .ref sq, .ref ch, .ref vt, .ref sh])), (vt, .inl (cI, 4, .inl w_16))] H := hP
        have hD : va_D A [(sq, .inl (cJ, 256, .inr (.inl q2_5))), (rw, .inl (cI, 32, .inl wf)), (ry, .inl (cI, 256, .inl f2_12)), (m0, .inr (7, [.int th, .int (nI zs), .int (nI rn), .ref rw, .int kn, .int rk, .int (nI n2_11), .ref ry, .int sp, .int lg, .ref ti, .int fo, .int pt, .ref po, .ref su, .ref sq, .ref ch, .ref vt, .ref sh])), (vt, .inl (cI, 4, .inl w_16))] := hD
        refine lv_aload_n hx hb d_M_across_131 rfl (lv_at hl 6 rfl) ?_
        refine lv_aload_n hx hb d_M_across_132 rfl (lv_at hl 6 rfl) ?_
        refine va_get (D := D) (ci := 7) (v := .ref vt) (C := cn_M) (T := ft_M) (N := 19) hx hb hf_M (fun _ h => h) hown hK hP 3 rfl rfl 17 (by decide) (gw.at G hx0 mw_730 rfl _) (fun _ h9 => h9) rfl d_M_across_133 ?_
        refine lv_iconst (v := (0 : Int32)) hx hb d_M_across_136 (by decide) ?_
        by_cases h_17 : hld wf rn (w_16) 0
        · refine cx_call (D := D) (cl := kl) (ws := _) (wc := [(m0, .inr (7, [.int th, .int (nI zs), .int (nI rn), .ref rw, .int kn, .int rk, .int (nI n2_11), .ref ry, .int sp, .int lg, .ref ti, .int fo, .int pt, .ref po, .ref su, .ref sq, .ref ch, .ref vt, .ref sh])), (rw, .inl (cI, 32, .inl wf)), (vt, .inl (cI, 4, .inl w_16))]) (wr := [(sq, .inl (cJ, 256, .inr (.inl q2_5))), (ry, .inl (cI, 256, .inl f2_12))]) (tx_runV (C := cn_M) (b := m0) (As := [.ref vt, .int (0 : Int32)]) (rest := []) hx hb hml hown (c_M_holdsAt_y E H.size m0 rw ry ti po su sq ch vt sh th (nI zs) kn rk (nI n2_11) sp lg fo pt rn wf vt 4 w_16 0 hr8 (by decide) (by decide) h_17) (cx_C (b0 := b0) G hx0 mw_836 mw_9 ny_M_holdsAt (by decide)) (gw.at G hx0 mw_833 rfl _) (gw.at G hx0 mw_835 rfl _) (gw.at G hx0 ms_M_holdsAt rfl _) ⟨cx_blind, va_recv hK hP (q0 := 3) (ci := 7) (q := (cn_M, ft_M, 19)) rfl rfl, (cx_pre (s := s) hx0 hP hD hS hA0 [3, 1, 4] rfl rfl (by decide))⟩ rfl rfl hl.1 rfl (lv_room (Nat.le_of_ble_eq_true rfl)) d_M_across_137 ⟨by decide, by decide⟩) hP hD hS hA [3, 1, 4] [0, 2] rfl rfl (by decide) (by decide) (fun v t w1 H locs ht hW9 hp hP hD hS => ?_) (fun x t w1 H locs ht hW9 hp hP hD hS => by obtain ⟨h9, -⟩ := hp; cases h9)
          obtain ⟨h9, rfl⟩ := hp
          cases h9
          refine W.eq (g2 := F0 m 140 ls [.int (1 : Int32)]) rfl ?_
          refine W.widen (k := 0) (n := 0) (by decide) (by decide) ?_
          have hP : va_P D kl [(sq, .inl (cJ, 256, .inr (.inl q2_5))), (ry, .inl (cI, 256, .inl f2_12)), (m0, .inr (7, [.int th, .int (nI zs), .int (nI rn), .ref rw, .int kn, .int rk, .int (nI n2_11), .ref ry, .int sp, .int lg, .ref ti, .int fo, .int pt, .ref po, .ref su, .ref sq, .ref ch, .ref vt, .ref sh])), (rw, .inl (cI, 32, .inl wf)), (vt, .inl (cI, 4, .inl w_16))] H := hP
          have hD : va_D A [(sq, .inl (cJ, 256, .inr (.inl q2_5))), (ry, .inl (cI, 256, .inl f2_12)), (m0, .inr (7, [.int th, .int (nI zs), .int (nI rn), .ref rw, .int kn, .int rk, .int (nI n2_11), .ref ry, .int sp, .int lg, .ref ti, .int fo, .int pt, .ref po, .ref su, .ref sq, .ref ch, .ref vt, .ref sh])), (rw, .inl (cI, 32, .inl wf)), (vt, .inl (cI, 4, .inl w_16))] := hD
          refine lv_if_eq (tgt := 147) hx hb d_M_across_140 (by decide) (fun h99 => absurd h99 (by decide)) (fun _ => ?_)
          refine lv_aload_n hx hb d_M_across_143 rfl (lv_at hl 6 rfl) ?_
          refine cx_call (D := D) (cl := kl) (ws := _) (wc := [(m0, .inr (7, [.int th, .int (nI zs), .int (nI rn), .ref rw, .int kn, .int rk, .int (nI n2_11), .ref ry, .int sp, .int lg, .ref ti, .int fo, .int pt, .ref po, .ref su, .ref sq, .ref ch, .ref vt, .ref sh])), (vt, .inl (cI, 4, .inl w_16)), (ry, .inl (cI, 256, .inl f2_12))]) (wr := [(sq, .inl (cJ, 256, .inr (.inl q2_5))), (rw, .inl (cI, 32, .inl wf))]) (tx_runV (C := cn_M) (b := m0) (As := []) (rest := []) hx hb hml hown (c_M_keepRay E H.size m0 rw ry ti po su sq ch vt sh th (nI zs) (nI rn) kn rk sp lg fo pt n2_11 w_16 f2_12 (by omega)) (cx_C (b0 := b0) G hx0 mw_844 mw_9 ny_M_keepRay (by decide)) (gw.at G hx0 mw_841 rfl _) (gw.at G hx0 mw_843 rfl _) (gw.at G hx0 ms_M_keepRay rfl _) ⟨cx_blind, va_recv hK hP (q0 := 2) (ci := 7) (q := (cn_M, ft_M, 19)) rfl rfl, (cx_pre (s := s) hx0 hP hD hS hA0 [2, 4, 1] rfl rfl (by decide))⟩ rfl rfl hl.1 rfl (lv_room (Nat.le_of_ble_eq_true rfl)) d_M_across_144 ⟨by decide, by decide⟩) hP hD hS hA [2, 4, 1] [0, 3] rfl rfl (by decide) (by decide) (fun v t w1 H locs ht hW9 hp hP hD hS => ?_) (fun x t w1 H locs ht hW9 hp hP hD hS => by obtain ⟨_, _, h9, -⟩ := hp; cases h9)
          obtain ⟨n2_18, f2_19, h9, f_20, f_21, f_22, rfl⟩ := hp
          cases h9
          refine W.eq (g2 := F0 m 147 ls []) rfl ?_
          refine W.widen (k := 0) (n := 0) (by decide) (by decide) ?_
          have hP : va_P D kl [(sq, .inl (cJ, 256, .inr (.inl q2_5))), (rw, .inl (cI, 32, .inl wf)), (m0, .inr (7, [.int th, .int (nI zs), .int (nI rn), .ref rw, .int kn, .int rk, .int (nI n2_18), .ref ry, .int sp, .int lg, .ref ti, .int fo, .int pt, .ref po, .ref su, .ref sq, .ref ch, .ref vt, .ref sh])), (vt, .inl (cI, 4, .inl w_16)), (ry, .inl (cI, 256, .inl f2_19))] H := hP
          have hD : va_D A [(sq, .inl (cJ, 256, .inr (.inl q2_5))), (rw, .inl (cI, 32, .inl wf)), (m0, .inr (7, [.int th, .int (nI zs), .int (nI rn), .ref rw, .int kn, .int rk, .int (nI n2_18), .ref ry, .int sp, .int lg, .ref ti, .int fo, .int pt, .ref po, .ref su, .ref sq, .ref ch, .ref vt, .ref sh])), (vt, .inl (cI, 4, .inl w_16)), (ry, .inl (cI, 256, .inl f2_19))] := hD
          refine lv_iinc (lv' := [(12, .int (3 : Int32)), (2, .long (gcv (gcv v_1 v_4) (gcv (0 : Int64) (0 : Int64)))), (10, .long (0 : Int64)), (8, .long (0 : Int64)), (6, .long v_4), (4, .long v_1), (0, .ref m0), (1, .int (nI x))]) (k := 0) (v := (3 : Int32)) hx hb d_M_across_147 hl rfl (by decide) (by decide) rfl (fun ls hl => ?_)
          refine lv_goto (tgt := 79) hx hb d_M_across_150 (by decide) ?_
          refine lv_iload hx hb d_M_across_79 (lv_at hl 0 rfl) ?_
          refine lv_iconst (v := (2 : Int32)) hx hb d_M_across_81 (by decide) ?_
          refine lv_icmp_ge (tgt := 153) hx hb d_M_across_82 (by decide) (fun _ => ?_) (fun h99 => absurd h99 (by decide))
          exact tx_mono (fun _ h => tx_Z.of h) (W.vret hx hb hr (fun t ht hW => ⟨⟨[(m0, .inr (7, [.int th, .int (nI zs), .int (nI rn), .ref rw, .int kn, .int rk, .int (nI n2_18), .ref ry, .int sp, .int lg, .ref ti, .int fo, .int pt, .ref po, .ref su, .ref sq, .ref ch, .ref vt, .ref sh])), (rw, .inl (cI, 32, .inl wf)), (ry, .inl (cI, 256, .inl f2_19)), (vt, .inl (cI, 4, .inl w_16)), (sq, .inl (cJ, 256, .inr (.inl q2_5)))], ⟨(v_1, v_4, (0 : Int64), (0 : Int64)), n2_18, f2_19, w_16, q2_5, rfl, mn4_2 f_3 f_6 h_7, acr_y ((lg_cmp_gt _ _).mp (Int32.not_le.mp h_8)) (hw_9 ▸ ast_y (hw_9 ▸ h_10) (hw_9 ▸ f_13) (hw_9 ▸ f_14)) (hw_16 ▸ ast_y (hw_16 ▸ h_17) (hw_16 ▸ f_20) (hw_16 ▸ f_21)), by omega, rfl⟩, by rw [ht]; exact hP.sub [2, 1, 4, 3, 0] rfl, hD.sub [2, 1, 4, 3, 0] (by decide) rfl⟩, hS.F ht⟩) hS.2.2 d_M_across_153)
        · refine cx_call (D := D) (cl := kl) (ws := _) (wc := [(m0, .inr (7, [.int th, .int (nI zs), .int (nI rn), .ref rw, .int kn, .int rk, .int (nI n2_11), .ref ry, .int sp, .int lg, .ref ti, .int fo, .int pt, .ref po, .ref su, .ref sq, .ref ch, .ref vt, .ref sh])), (rw, .inl (cI, 32, .inl wf)), (vt, .inl (cI, 4, .inl w_16))]) (wr := [(sq, .inl (cJ, 256, .inr (.inl q2_5))), (ry, .inl (cI, 256, .inl f2_12))]) (tx_runV (C := cn_M) (b := m0) (As := [.ref vt, .int (0 : Int32)]) (rest := []) hx hb hml hown (c_M_holdsAt_n E H.size m0 rw ry ti po su sq ch vt sh th (nI zs) kn rk (nI n2_11) sp lg fo pt rn wf vt 4 w_16 0 hr8 (by decide) (by decide) h_17) (cx_C (b0 := b0) G hx0 mw_836 mw_9 ny_M_holdsAt (by decide)) (gw.at G hx0 mw_833 rfl _) (gw.at G hx0 mw_835 rfl _) (gw.at G hx0 ms_M_holdsAt rfl _) ⟨cx_blind, va_recv hK hP (q0 := 3) (ci := 7) (q := (cn_M, ft_M, 19)) rfl rfl, (cx_pre (s := s) hx0 hP hD hS hA0 [3, 1, 4] rfl rfl (by decide))⟩ rfl rfl hl.1 rfl (lv_room (Nat.le_of_ble_eq_true rfl)) d_M_across_137 ⟨by decide, by decide⟩) hP hD hS hA [3, 1, 4] [0, 2] rfl rfl (by decide) (by decide) (fun v t w1 H locs ht hW9 hp hP hD hS => ?_) (fun x t w1 H locs ht hW9 hp hP hD hS => by obtain ⟨h9, -⟩ := hp; cases h9)
          obtain ⟨h9, rfl⟩ := hp
          cases h9
          refine W.eq (g2 := F0 m 140 ls [.int (0 : Int32)]) rfl ?_
          refine W.widen (k := 0) (n := 0) (by decide) (by decide) ?_
          have hP : va_P D kl [(sq, .inl (cJ, 256, .inr (.inl q2_5))), (ry, .inl (cI, 256, .inl f2_12)), (m0, .inr (7, [.int th, .int (nI zs), .int (nI rn), .ref rw, .int kn, .int rk, .int (nI n2_11), .ref ry, .int sp, .int lg, .ref ti, .int fo, .int pt, .ref po, .ref su, .ref sq, .ref ch, .ref vt, .ref sh])), (rw, .inl (cI, 32, .inl wf)), (vt, .inl (cI, 4, .inl w_16))] H := hP
          have hD : va_D A [(sq, .inl (cJ, 256, .inr (.inl q2_5))), (ry, .inl (cI, 256, .inl f2_12)), (m0, .inr (7, [.int th, .int (nI zs), .int (nI rn), .ref rw, .int kn, .int rk, .int (nI n2_11), .ref ry, .int sp, .int lg, .ref ti, .int fo, .int pt, .ref po, .ref su, .ref sq, .ref ch, .ref vt, .ref sh])), (rw, .inl (cI, 32, .inl wf)), (vt, .inl (cI, 4, .inl w_16))] := hD
          refine lv_if_eq (tgt := 147) hx hb d_M_across_140 (by decide) (fun _ => ?_) (fun h99 => absurd h99 (by decide))
          refine lv_iinc (lv' := [(12, .int (3 : Int32)), (2, .long (gcv (gcv v_1 v_4) (gcv (0 : Int64) (0 : Int64)))), (10, .long (0 : Int64)), (8, .long (0 : Int64)), (6, .long v_4), (4, .long v_1), (0, .ref m0), (1, .int (nI x))]) (k := 0) (v := (3 : Int32)) hx hb d_M_across_147 hl rfl (by decide) (by decide) rfl (fun ls hl => ?_)
          refine lv_goto (tgt := 79) hx hb d_M_across_150 (by decide) ?_
          refine lv_iload hx hb d_M_across_79 (lv_at hl 0 rfl) ?_
          refine lv_iconst (v := (2 : Int32)) hx hb d_M_across_81 (by decide) ?_
          refine lv_icmp_ge (tgt := 153) hx hb d_M_across_82 (by decide) (fun _ => ?_) (fun h99 => absurd h99 (by decide))
          exact tx_mono (fun _ h => tx_Z.of h) (W.vret hx hb hr (fun t ht hW => ⟨⟨[(m0, .inr (7, [.int th, .int (nI zs), .int (nI rn), .ref rw, .int kn, .int rk, .int (nI n2_11), .ref ry, .int sp, .int lg, .ref ti, .int fo, .int pt, .ref po, .ref su, .ref sq, .ref ch, .ref vt, .ref sh])), (rw, .inl (cI, 32, .inl wf)), (ry, .inl (cI, 256, .inl f2_12)), (vt, .inl (cI, 4, .inl w_16)), (sq, .inl (cJ, 256, .inr (.inl q2_5)))], ⟨(v_1, v_4, (0 : Int64), (0 : Int64)), n2_11, f2_12, w_16, q2_5, rfl, mn4_2 f_3 f_6 h_7, acr_y ((lg_cmp_gt _ _).mp (Int32.not_le.mp h_8)) (hw_9 ▸ ast_y (hw_9 ▸ h_10) (hw_9 ▸ f_13) (hw_9 ▸ f_14)) (hw_16 ▸ ast_n (hw_16 ▸ h_17)), by omega, rfl⟩, by rw [ht]; exact hP.sub [2, 3, 1, 4, 0] rfl, hD.sub [2, 3, 1, 4, 0] (by decide) rfl⟩, hS.F ht⟩) hS.2.2 d_M_across_153)
      · refine cx_call (D := D) (cl := kl) (ws := _) (wc := [(m0, .inr (7, [.int th, .int (nI zs), .int (nI rn), .ref rw, .int kn, .int rk, .int (nI yn), .ref ry, .int sp, .int lg, .ref ti, .int fo, .int pt, .ref po, .ref su, .ref sq, .ref ch, .ref vt, .ref sh])), (rw, .inl (cI, 32, .inl wf)), (vt, .inl (cI, 4, .inl w_9))]) (wr := [(ry, .inl (cI, 256, .inl yf)), (sq, .inl (cJ, 256, .inr (.inl q2_5)))]) (tx_runV (C := cn_M) (b := m0) (As := [.ref vt, .int (0 : Int32)]) (rest := []) hx hb hml hown (c_M_holdsAt_n E H.size m0 rw ry ti po su sq ch vt sh th (nI zs) kn rk (nI yn) sp lg fo pt rn wf vt 4 w_9 0 hr8 (by decide) (by decide) h_10) (cx_C (b0 := b0) G hx0 mw_836 mw_9 ny_M_holdsAt (by decide)) (gw.at G hx0 mw_833 rfl _) (gw.at G hx0 mw_835 rfl _) (gw.at G hx0 ms_M_holdsAt rfl _) ⟨cx_blind, va_recv hK hP (q0 := 3) (ci := 7) (q := (cn_M, ft_M, 19)) rfl rfl, (cx_pre (s := s) hx0 hP hD hS hA0 [3, 1, 4] rfl rfl (by decide))⟩ rfl rfl hl.1 rfl (lv_room (Nat.le_of_ble_eq_true rfl)) d_M_across_137 ⟨by decide, by decide⟩) hP hD hS hA [3, 1, 4] [0, 2] rfl rfl (by decide) (by decide) (fun v t w1 H locs ht hW9 hp hP hD hS => ?_) (fun x t w1 H locs ht hW9 hp hP hD hS => by obtain ⟨h9, -⟩ := hp; cases h9)
        obtain ⟨h9, rfl⟩ := hp
        cases h9
        refine W.eq (g2 := F0 m 140 ls [.int (0 : Int32)]) rfl ?_
        refine W.widen (k := 0) (n := 0) (by decide) (by decide) ?_
        have hP : va_P D kl [(ry, .inl (cI, 256, .inl yf)), (sq, .inl (cJ, 256, .inr (.inl q2_5))), (m0, .inr (7, [.int th, .int (nI zs), .int (nI rn), .ref rw, .int kn, .int rk, .int (nI yn), .ref ry, .int sp, .int lg, .ref ti, .int fo, .int pt, .ref po, .ref su, .ref sq, .ref ch, .ref vt, .ref sh])), (rw, .inl (cI, 32, .inl wf)), (vt, .inl (cI, 4, .inl w_9))] H := hP
        have hD : va_D A [(ry, .inl (cI, 256, .inl yf)), (sq, .inl (cJ, 256, .inr (.inl q2_5))), (m0, .inr (7, [.int th, .int (nI zs), .int (nI rn), .ref rw, .int kn, .int rk, .int (nI yn), .ref ry, .int sp, .int lg, .ref ti, .int fo, .int pt, .ref po, .ref su, .ref sq, .ref ch, .ref vt, .ref sh])), (rw, .inl (cI, 32, .inl wf)), (vt, .inl (cI, 4, .inl w_9))] := hD
        refine lv_if_eq (tgt := 147) hx hb d_M_across_140 (by decide) (fun _ => ?_) (fun h99 => absurd h99 (by decide))
        refine lv_iinc (lv' := [(12, .int (1 : Int32)), (2, .long (gcv (gcv v_1 v_4) (gcv (0 : Int64) (0 : Int64)))), (10, .long (0 : Int64)), (8, .long (0 : Int64)), (6, .long v_4), (4, .long v_1), (0, .ref m0), (1, .int (nI x))]) (k := 0) (v := (1 : Int32)) hx hb d_M_across_147 hl rfl (by decide) (by decide) rfl (fun ls hl => ?_)
        refine lv_goto (tgt := 79) hx hb d_M_across_150 (by decide) ?_
        refine lv_iload hx hb d_M_across_79 (lv_at hl 0 rfl) ?_
        refine lv_iconst (v := (2 : Int32)) hx hb d_M_across_81 (by decide) ?_
        refine lv_icmp_ge (tgt := 153) hx hb d_M_across_82 (by decide) (fun h99 => absurd h99 (by decide)) (fun _ => ?_)
        refine lv_lload_n hx hb d_M_across_85 rfl (lv_at hl 1 rfl) ?_
        refine lv_lconst (v := (0 : Int64)) hx hb d_M_across_86 (by decide) ?_
        refine W.lcmp hx hb d_M_across_87 ?_
        refine lv_if_le (tgt := 153) hx hb d_M_across_88 (by decide) (fun h99 => absurd h99 (by first | assumption | exact Int32.not_le.mpr (by assumption) | exact Int32.not_lt.mpr (by assumption) | exact Int32.not_le.mp (by assumption) | exact Int32.not_lt.mp (by assumption))) (fun _ => ?_)
        refine lv_aload_n hx hb d_M_across_91 rfl (lv_at hl 6 rfl) ?_
        refine lv_iload hx hb d_M_across_92 (lv_at hl 0 rfl) ?_
        refine lv_i2l (v := (1 : Int64)) hx hb d_M_across_94 (by decide) ?_
        refine lv_lload hx hb d_M_across_95 (lv_at hl 5 rfl) ?_
        refine lv_lmul hx hb d_M_across_97 ?_
        refine lv_lload_n hx hb d_M_across_98 rfl (lv_at hl 1 rfl) ?_
        refine lv_ldiv hx hb d_M_across_99 (fun z9 => by have z8 := h_8; rw [z9] at z8; exact z8 (by decide)) ?_
        refine lv_l2i (v := (((1 : Int64) * v_1) / (gcv (gcv v_1 v_4) (gcv (0 : Int64) (0 : Int64)))).toInt32) hx hb d_M_across_100 rfl ?_
        refine lv_iload hx hb d_M_across_101 (lv_at hl 0 rfl) ?_
        refine lv_i2l (v := (1 : Int64)) hx hb d_M_across_103 (by decide) ?_
        refine lv_lload hx hb d_M_across_104 (lv_at hl 4 rfl) ?_
        refine lv_lmul hx hb d_M_across_106 ?_
        refine lv_lload_n hx hb d_M_across_107 rfl (lv_at hl 1 rfl) ?_
        refine lv_ldiv hx hb d_M_across_108 (fun z9 => by have z8 := h_8; rw [z9] at z8; exact z8 (by decide)) ?_
        refine lv_l2i (v := (((1 : Int64) * v_4) / (gcv (gcv v_1 v_4) (gcv (0 : Int64) (0 : Int64)))).toInt32) hx hb d_M_across_109 rfl ?_
        refine lv_iload hx hb d_M_across_110 (lv_at hl 0 rfl) ?_
        refine lv_i2l (v := (1 : Int64)) hx hb d_M_across_112 (by decide) ?_
        refine lv_lload hx hb d_M_across_113 (lv_at hl 3 rfl) ?_
        refine lv_lmul hx hb d_M_across_115 ?_
        refine tp_l (y := (0 : Int64)) (by decide) ?_
        refine lv_lload_n hx hb d_M_across_116 rfl (lv_at hl 1 rfl) ?_
        refine lv_ldiv hx hb d_M_across_117 (fun z9 => by have z8 := h_8; rw [z9] at z8; exact z8 (by decide)) ?_
        refine lv_l2i (v := ((0 : Int64) / (gcv (gcv v_1 v_4) (gcv (0 : Int64) (0 : Int64)))).toInt32) hx hb d_M_across_118 rfl ?_
        refine lv_iload hx hb d_M_across_119 (lv_at hl 0 rfl) ?_
        refine lv_i2l (v := (1 : Int64)) hx hb d_M_across_121 (by decide) ?_
        refine lv_lload hx hb d_M_across_122 (lv_at hl 2 rfl) ?_
        refine lv_lmul hx hb d_M_across_124 ?_
        refine tp_l (y := (0 : Int64)) (by decide) ?_
        refine lv_lload_n hx hb d_M_across_125 rfl (lv_at hl 1 rfl) ?_
        refine lv_ldiv hx hb d_M_across_126 (fun z9 => by have z8 := h_8; rw [z9] at z8; exact z8 (by decide)) ?_
        refine lv_l2i (v := ((0 : Int64) / (gcv (gcv v_1 v_4) (gcv (0 : Int64) (0 : Int64)))).toInt32) hx hb d_M_across_127 rfl ?_
        refine cx_call (D := D) (cl := kl) (ws := _) (wc := [(m0, .inr (7, [.int th, .int (nI zs), .int (nI rn), .ref rw, .int kn, .int rk, .int (nI yn), .ref ry, .int sp, .int lg, .ref ti, .int fo, .int pt, .ref po, .ref su, .ref sq, .ref ch, .ref vt, .ref sh])), (vt, .inl (cI, 4, .inl w_9))]) (wr := [(ry, .inl (cI, 256, .inl yf)), (sq, .inl (cJ, 256, .inr (.inl q2_5))), (rw, .inl (cI, 32, .inl wf))]) (tx_runV (C := cn_M) (b := m0) (As := [.int ((((1 : Int64) * v_1) / (gcv (gcv v_1 v_4) (gcv (0 : Int64) (0 : Int64)))).toInt32), .int ((((1 : Int64) * v_4) / (gcv (gcv v_1 v_4) (gcv (0 : Int64) (0 : Int64)))).toInt32), .int (((0 : Int64) / (gcv (gcv v_1 v_4) (gcv (0 : Int64) (0 : Int64)))).toInt32), .int (((0 : Int64) / (gcv (gcv v_1 v_4) (gcv (0 : Int64) (0 : Int64)))).toInt32)]) (rest := []) hx hb hml hown (c_M_set E H.size m0 rw ry ti po su sq ch vt sh th (nI zs) (nI rn) kn rk (nI yn) sp lg fo pt ((((1 : Int64) * v_1) / (gcv (gcv v_1 v_4) (gcv (0 : Int64) (0 : Int64)))).toInt32) ((((1 : Int64) * v_4) / (gcv (gcv v_1 v_4) (gcv (0 : Int64) (0 : Int64)))).toInt32) (((0 : Int64) / (gcv (gcv v_1 v_4) (gcv (0 : Int64) (0 : Int64)))).toInt32) (((0 : Int64) / (gcv (gcv v_1 v_4) (gcv (0 : Int64) (0 : Int64)))).toInt32) w_9 ) (cx_C (b0 := b0) G hx0 mw_783 mw_9 ny_M_set (by decide)) (gw.at G hx0 mw_780 rfl _) (gw.at G hx0 mw_782 rfl _) (gw.at G hx0 ms_M_set rfl _) ⟨cx_blind, va_recv hK hP (q0 := 2) (ci := 7) (q := (cn_M, ft_M, 19)) rfl rfl, (cx_pre (s := s) hx0 hP hD hS hA0 [2, 4] rfl rfl (by decide))⟩ rfl rfl hl.1 rfl (lv_room (Nat.le_of_ble_eq_true rfl)) d_M_across_128 ⟨by decide, by decide⟩) hP hD hS hA [2, 4] [0, 1, 3] rfl rfl (by decide) (by decide) (fun v t w1 H locs ht hW9 hp hP hD hS => ?_) (fun x t w1 H locs ht hW9 hp hP hD hS => by obtain ⟨h9, -⟩ := hp; cases h9)
        obtain ⟨h9, rfl⟩ := hp
        cases h9
        refine W.eq (g2 := F0 m 131 ls []) rfl ?_
        refine W.widen (k := 0) (n := 0) (by decide) (by decide) ?_
        have hP : va_P D kl [(ry, .inl (cI, 256, .inl yf)), (sq, .inl (cJ, 256, .inr (.inl q2_5))), (rw, .inl (cI, 32, .inl wf)), (m0, .inr (7, [.int th, .int (nI zs), .int (nI rn), .ref rw, .int kn, .int rk, .int (nI yn), .ref ry, .int sp, .int lg, .ref ti, .int fo, .int pt, .ref po, .ref su, .ref sq, .ref ch, .ref vt, .ref sh])), (vt, .inl (cI, 4, .inl (upd (upd (upd (upd w_9 0 ((((1 : Int64) * v_1) / (gcv (gcv v_1 v_4) (gcv (0 : Int64) (0 : Int64)))).toInt32)) 1 ((((1 : Int64) * v_4) / (gcv (gcv v_1 v_4) (gcv (0 : Int64) (0 : Int64)))).toInt32)) 2 (tk_c (nI zs) (((0 : Int64) / (gcv (gcv v_1 v_4) (gcv (0 : Int64) (0 : Int64)))).toInt32))) 3 (tk_d (nI zs) (((0 : Int64) / (gcv (gcv v_1 v_4) (gcv (0 : Int64) (0 : Int64)))).toInt32)))))] H := hP
        have hD : va_D A [(ry, .inl (cI, 256, .inl yf)), (sq, .inl (cJ, 256, .inr (.inl q2_5))), (rw, .inl (cI, 32, .inl wf)), (m0, .inr (7, [.int th, .int (nI zs), .int (nI rn), .ref rw, .int kn, .int rk, .int (nI yn), .ref ry, .int sp, .int lg, .ref ti, .int fo, .int pt, .ref po, .ref su, .ref sq, .ref ch, .ref vt, .ref sh])), (vt, .inl (cI, 4, .inl (upd (upd (upd (upd w_9 0 ((((1 : Int64) * v_1) / (gcv (gcv v_1 v_4) (gcv (0 : Int64) (0 : Int64)))).toInt32)) 1 ((((1 : Int64) * v_4) / (gcv (gcv v_1 v_4) (gcv (0 : Int64) (0 : Int64)))).toInt32)) 2 (tk_c (nI zs) (((0 : Int64) / (gcv (gcv v_1 v_4) (gcv (0 : Int64) (0 : Int64)))).toInt32))) 3 (tk_d (nI zs) (((0 : Int64) / (gcv (gcv v_1 v_4) (gcv (0 : Int64) (0 : Int64)))).toInt32)))))] := hD
        obtain ⟨w_23, hw_23⟩ : ∃ z9 : Nat → Int32, z9 = vcs zs w_9 (1 : Int64) (gc4 (v_1, v_4, (0 : Int64), (0 : Int64))) (v_1, v_4, (0 : Int64), (0 : Int64)) := ⟨_, rfl⟩
        rw [show upd (upd (upd (upd w_9 0 ((((1 : Int64) * v_1) / (gcv (gcv v_1 v_4) (gcv (0 : Int64) (0 : Int64)))).toInt32)) 1 ((((1 : Int64) * v_4) / (gcv (gcv v_1 v_4) (gcv (0 : Int64) (0 : Int64)))).toInt32)) 2 (tk_c (nI zs) (((0 : Int64) / (gcv (gcv v_1 v_4) (gcv (0 : Int64) (0 : Int64)))).toInt32))) 3 (tk_d (nI zs) (((0 : Int64) / (gcv (gcv v_1 v_4) (gcv (0 : Int64) (0 : Int64)))).toInt32)) = w_23 from hw_23.symm] at hP hD
        have hP : va_P D kl [(ry, .inl (cI, 256, .inl yf)), (sq, .inl (cJ, 256, .inr (.inl q2_5))), (rw, .inl (cI, 32, .inl wf)), (m0, .inr (7, [.int th, .int (nI zs), .int (nI rn), .ref rw, .int kn, .int rk, .int (nI yn), .ref ry, .int sp, .int lg, .ref ti, .int fo, .int pt, .ref po, .ref su, .ref sq, .ref ch, .ref vt, .ref sh])), (vt, .inl (cI, 4, .inl w_23))] H := hP
        have hD : va_D A [(ry, .inl (cI, 256, .inl yf)), (sq, .inl (cJ, 256, .inr (.inl q2_5))), (rw, .inl (cI, 32, .inl wf)), (m0, .inr (7, [.int th, .int (nI zs), .int (nI rn), .ref rw, .int kn, .int rk, .int (nI yn), .ref ry, .int sp, .int lg, .ref ti, .int fo, .int pt, .ref po, .ref su, .ref sq, .ref ch, .ref vt, .ref sh])), (vt, .inl (cI, 4, .inl w_23))] := hD
        refine lv_aload_n hx hb d_M_across_131 rfl (lv_at hl 6 rfl) ?_
        refine lv_aload_n hx hb d_M_across_132 rfl (lv_at hl 6 rfl) ?_
        refine va_get (D := D) (ci := 7) (v := .ref vt) (C := cn_M) (T := ft_M) (N := 19) hx hb hf_M (fun _ h => h) hown hK hP 3 rfl rfl 17 (by decide) (gw.at G hx0 mw_730 rfl _) (fun _ h9 => h9) rfl d_M_across_133 ?_
        refine lv_iconst (v := (0 : Int32)) hx hb d_M_across_136 (by decide) ?_
        by_cases h_24 : hld wf rn (w_23) 0
        · refine cx_call (D := D) (cl := kl) (ws := _) (wc := [(m0, .inr (7, [.int th, .int (nI zs), .int (nI rn), .ref rw, .int kn, .int rk, .int (nI yn), .ref ry, .int sp, .int lg, .ref ti, .int fo, .int pt, .ref po, .ref su, .ref sq, .ref ch, .ref vt, .ref sh])), (rw, .inl (cI, 32, .inl wf)), (vt, .inl (cI, 4, .inl w_23))]) (wr := [(ry, .inl (cI, 256, .inl yf)), (sq, .inl (cJ, 256, .inr (.inl q2_5)))]) (tx_runV (C := cn_M) (b := m0) (As := [.ref vt, .int (0 : Int32)]) (rest := []) hx hb hml hown (c_M_holdsAt_y E H.size m0 rw ry ti po su sq ch vt sh th (nI zs) kn rk (nI yn) sp lg fo pt rn wf vt 4 w_23 0 hr8 (by decide) (by decide) h_24) (cx_C (b0 := b0) G hx0 mw_836 mw_9 ny_M_holdsAt (by decide)) (gw.at G hx0 mw_833 rfl _) (gw.at G hx0 mw_835 rfl _) (gw.at G hx0 ms_M_holdsAt rfl _) ⟨cx_blind, va_recv hK hP (q0 := 3) (ci := 7) (q := (cn_M, ft_M, 19)) rfl rfl, (cx_pre (s := s) hx0 hP hD hS hA0 [3, 2, 4] rfl rfl (by decide))⟩ rfl rfl hl.1 rfl (lv_room (Nat.le_of_ble_eq_true rfl)) d_M_across_137 ⟨by decide, by decide⟩) hP hD hS hA [3, 2, 4] [0, 1] rfl rfl (by decide) (by decide) (fun v t w1 H locs ht hW9 hp hP hD hS => ?_) (fun x t w1 H locs ht hW9 hp hP hD hS => by obtain ⟨h9, -⟩ := hp; cases h9)
          obtain ⟨h9, rfl⟩ := hp
          cases h9
          refine W.eq (g2 := F0 m 140 ls [.int (1 : Int32)]) rfl ?_
          refine W.widen (k := 0) (n := 0) (by decide) (by decide) ?_
          have hP : va_P D kl [(ry, .inl (cI, 256, .inl yf)), (sq, .inl (cJ, 256, .inr (.inl q2_5))), (m0, .inr (7, [.int th, .int (nI zs), .int (nI rn), .ref rw, .int kn, .int rk, .int (nI yn), .ref ry, .int sp, .int lg, .ref ti, .int fo, .int pt, .ref po, .ref su, .ref sq, .ref ch, .ref vt, .ref sh])), (rw, .inl (cI, 32, .inl wf)), (vt, .inl (cI, 4, .inl w_23))] H := hP
          have hD : va_D A [(ry, .inl (cI, 256, .inl yf)), (sq, .inl (cJ, 256, .inr (.inl q2_5))), (m0, .inr (7, [.int th, .int (nI zs), .int (nI rn), .ref rw, .int kn, .int rk, .int (nI yn), .ref ry, .int sp, .int lg, .ref ti, .int fo, .int pt, .ref po, .ref su, .ref sq, .ref ch, .ref vt, .ref sh])), (rw, .inl (cI, 32, .inl wf)), (vt, .inl (cI, 4, .inl w_23))] := hD
          refine lv_if_eq (tgt := 147) hx hb d_M_across_140 (by decide) (fun h99 => absurd h99 (by decide)) (fun _ => ?_)
          refine lv_aload_n hx hb d_M_across_143 rfl (lv_at hl 6 rfl) ?_
          refine cx_call (D := D) (cl := kl) (ws := _) (wc := [(m0, .inr (7, [.int th, .int (nI zs), .int (nI rn), .ref rw, .int kn, .int rk, .int (nI yn), .ref ry, .int sp, .int lg, .ref ti, .int fo, .int pt, .ref po, .ref su, .ref sq, .ref ch, .ref vt, .ref sh])), (vt, .inl (cI, 4, .inl w_23)), (ry, .inl (cI, 256, .inl yf))]) (wr := [(sq, .inl (cJ, 256, .inr (.inl q2_5))), (rw, .inl (cI, 32, .inl wf))]) (tx_runV (C := cn_M) (b := m0) (As := []) (rest := []) hx hb hml hown (c_M_keepRay E H.size m0 rw ry ti po su sq ch vt sh th (nI zs) (nI rn) kn rk sp lg fo pt yn w_23 yf (by omega)) (cx_C (b0 := b0) G hx0 mw_844 mw_9 ny_M_keepRay (by decide)) (gw.at G hx0 mw_841 rfl _) (gw.at G hx0 mw_843 rfl _) (gw.at G hx0 ms_M_keepRay rfl _) ⟨cx_blind, va_recv hK hP (q0 := 2) (ci := 7) (q := (cn_M, ft_M, 19)) rfl rfl, (cx_pre (s := s) hx0 hP hD hS hA0 [2, 4, 0] rfl rfl (by decide))⟩ rfl rfl hl.1 rfl (lv_room (Nat.le_of_ble_eq_true rfl)) d_M_across_144 ⟨by decide, by decide⟩) hP hD hS hA [2, 4, 0] [1, 3] rfl rfl (by decide) (by decide) (fun v t w1 H locs ht hW9 hp hP hD hS => ?_) (fun x t w1 H locs ht hW9 hp hP hD hS => by obtain ⟨_, _, h9, -⟩ := hp; cases h9)
          obtain ⟨n2_25, f2_26, h9, f_27, f_28, f_29, rfl⟩ := hp
          cases h9
          refine W.eq (g2 := F0 m 147 ls []) rfl ?_
          refine W.widen (k := 0) (n := 0) (by decide) (by decide) ?_
          have hP : va_P D kl [(sq, .inl (cJ, 256, .inr (.inl q2_5))), (rw, .inl (cI, 32, .inl wf)), (m0, .inr (7, [.int th, .int (nI zs), .int (nI rn), .ref rw, .int kn, .int rk, .int (nI n2_25), .ref ry, .int sp, .int lg, .ref ti, .int fo, .int pt, .ref po, .ref su, .ref sq, .ref ch, .ref vt, .ref sh])), (vt, .inl (cI, 4, .inl w_23)), (ry, .inl (cI, 256, .inl f2_26))] H := hP
          have hD : va_D A [(sq, .inl (cJ, 256, .inr (.inl q2_5))), (rw, .inl (cI, 32, .inl wf)), (m0, .inr (7, [.int th, .int (nI zs), .int (nI rn), .ref rw, .int kn, .int rk, .int (nI n2_25), .ref ry, .int sp, .int lg, .ref ti, .int fo, .int pt, .ref po, .ref su, .ref sq, .ref ch, .ref vt, .ref sh])), (vt, .inl (cI, 4, .inl w_23)), (ry, .inl (cI, 256, .inl f2_26))] := hD
          refine lv_iinc (lv' := [(12, .int (3 : Int32)), (2, .long (gcv (gcv v_1 v_4) (gcv (0 : Int64) (0 : Int64)))), (10, .long (0 : Int64)), (8, .long (0 : Int64)), (6, .long v_4), (4, .long v_1), (0, .ref m0), (1, .int (nI x))]) (k := 0) (v := (3 : Int32)) hx hb d_M_across_147 hl rfl (by decide) (by decide) rfl (fun ls hl => ?_)
          refine lv_goto (tgt := 79) hx hb d_M_across_150 (by decide) ?_
          refine lv_iload hx hb d_M_across_79 (lv_at hl 0 rfl) ?_
          refine lv_iconst (v := (2 : Int32)) hx hb d_M_across_81 (by decide) ?_
          refine lv_icmp_ge (tgt := 153) hx hb d_M_across_82 (by decide) (fun _ => ?_) (fun h99 => absurd h99 (by decide))
          exact tx_mono (fun _ h => tx_Z.of h) (W.vret hx hb hr (fun t ht hW => ⟨⟨[(m0, .inr (7, [.int th, .int (nI zs), .int (nI rn), .ref rw, .int kn, .int rk, .int (nI n2_25), .ref ry, .int sp, .int lg, .ref ti, .int fo, .int pt, .ref po, .ref su, .ref sq, .ref ch, .ref vt, .ref sh])), (rw, .inl (cI, 32, .inl wf)), (ry, .inl (cI, 256, .inl f2_26)), (vt, .inl (cI, 4, .inl w_23)), (sq, .inl (cJ, 256, .inr (.inl q2_5)))], ⟨(v_1, v_4, (0 : Int64), (0 : Int64)), n2_25, f2_26, w_23, q2_5, rfl, mn4_2 f_3 f_6 h_7, acr_y ((lg_cmp_gt _ _).mp (Int32.not_le.mp h_8)) (hw_9 ▸ ast_n (hw_9 ▸ h_10)) (hw_23 ▸ ast_y (hw_23 ▸ h_24) (hw_23 ▸ f_27) (hw_23 ▸ f_28)), by omega, rfl⟩, by rw [ht]; exact hP.sub [2, 1, 4, 3, 0] rfl, hD.sub [2, 1, 4, 3, 0] (by decide) rfl⟩, hS.F ht⟩) hS.2.2 d_M_across_153)
        · refine cx_call (D := D) (cl := kl) (ws := _) (wc := [(m0, .inr (7, [.int th, .int (nI zs), .int (nI rn), .ref rw, .int kn, .int rk, .int (nI yn), .ref ry, .int sp, .int lg, .ref ti, .int fo, .int pt, .ref po, .ref su, .ref sq, .ref ch, .ref vt, .ref sh])), (rw, .inl (cI, 32, .inl wf)), (vt, .inl (cI, 4, .inl w_23))]) (wr := [(ry, .inl (cI, 256, .inl yf)), (sq, .inl (cJ, 256, .inr (.inl q2_5)))]) (tx_runV (C := cn_M) (b := m0) (As := [.ref vt, .int (0 : Int32)]) (rest := []) hx hb hml hown (c_M_holdsAt_n E H.size m0 rw ry ti po su sq ch vt sh th (nI zs) kn rk (nI yn) sp lg fo pt rn wf vt 4 w_23 0 hr8 (by decide) (by decide) h_24) (cx_C (b0 := b0) G hx0 mw_836 mw_9 ny_M_holdsAt (by decide)) (gw.at G hx0 mw_833 rfl _) (gw.at G hx0 mw_835 rfl _) (gw.at G hx0 ms_M_holdsAt rfl _) ⟨cx_blind, va_recv hK hP (q0 := 3) (ci := 7) (q := (cn_M, ft_M, 19)) rfl rfl, (cx_pre (s := s) hx0 hP hD hS hA0 [3, 2, 4] rfl rfl (by decide))⟩ rfl rfl hl.1 rfl (lv_room (Nat.le_of_ble_eq_true rfl)) d_M_across_137 ⟨by decide, by decide⟩) hP hD hS hA [3, 2, 4] [0, 1] rfl rfl (by decide) (by decide) (fun v t w1 H locs ht hW9 hp hP hD hS => ?_) (fun x t w1 H locs ht hW9 hp hP hD hS => by obtain ⟨h9, -⟩ := hp; cases h9)
          obtain ⟨h9, rfl⟩ := hp
          cases h9
          refine W.eq (g2 := F0 m 140 ls [.int (0 : Int32)]) rfl ?_
          refine W.widen (k := 0) (n := 0) (by decide) (by decide) ?_
          have hP : va_P D kl [(ry, .inl (cI, 256, .inl yf)), (sq, .inl (cJ, 256, .inr (.inl q2_5))), (m0, .inr (7, [.int th, .int (nI zs), .int (nI rn), .ref rw, .int kn, .int rk, .int (nI yn), .ref ry, .int sp, .int lg, .ref ti, .int fo, .int pt, .ref po, .ref su, .ref sq, .ref ch, .ref vt, .ref sh])), (rw, .inl (cI, 32, .inl wf)), (vt, .inl (cI, 4, .inl w_23))] H := hP
          have hD : va_D A [(ry, .inl (cI, 256, .inl yf)), (sq, .inl (cJ, 256, .inr (.inl q2_5))), (m0, .inr (7, [.int th, .int (nI zs), .int (nI rn), .ref rw, .int kn, .int rk, .int (nI yn), .ref ry, .int sp, .int lg, .ref ti, .int fo, .int pt, .ref po, .ref su, .ref sq, .ref ch, .ref vt, .ref sh])), (rw, .inl (cI, 32, .inl wf)), (vt, .inl (cI, 4, .inl w_23))] := hD
          refine lv_if_eq (tgt := 147) hx hb d_M_across_140 (by decide) (fun _ => ?_) (fun h99 => absurd h99 (by decide))
          refine lv_iinc (lv' := [(12, .int (3 : Int32)), (2, .long (gcv (gcv v_1 v_4) (gcv (0 : Int64) (0 : Int64)))), (10, .long (0 : Int64)), (8, .long (0 : Int64)), (6, .long v_4), (4, .long v_1), (0, .ref m0), (1, .int (nI x))]) (k := 0) (v := (3 : Int32)) hx hb d_M_across_147 hl rfl (by decide) (by decide) rfl (fun ls hl => ?_)
          refine lv_goto (tgt := 79) hx hb d_M_across_150 (by decide) ?_
          refine lv_iload hx hb d_M_across_79 (lv_at hl 0 rfl) ?_
          refine lv_iconst (v := (2 : Int32)) hx hb d_M_across_81 (by decide) ?_
          refine lv_icmp_ge (tgt := 153) hx hb d_M_across_82 (by decide) (fun _ => ?_) (fun h99 => absurd h99 (by decide))
          exact tx_mono (fun _ h => tx_Z.of h) (W.vret hx hb hr (fun t ht hW => ⟨⟨[(m0, .inr (7, [.int th, .int (nI zs), .int (nI rn), .ref rw, .int kn, .int rk, .int (nI yn), .ref ry, .int sp, .int lg, .ref ti, .int fo, .int pt, .ref po, .ref su, .ref sq, .ref ch, .ref vt, .ref sh])), (rw, .inl (cI, 32, .inl wf)), (ry, .inl (cI, 256, .inl yf)), (vt, .inl (cI, 4, .inl w_23)), (sq, .inl (cJ, 256, .inr (.inl q2_5)))], ⟨(v_1, v_4, (0 : Int64), (0 : Int64)), yn, yf, w_23, q2_5, rfl, mn4_2 f_3 f_6 h_7, acr_y ((lg_cmp_gt _ _).mp (Int32.not_le.mp h_8)) (hw_9 ▸ ast_n (hw_9 ▸ h_10)) (hw_23 ▸ ast_n (hw_23 ▸ h_24)), by omega, rfl⟩, by rw [ht]; exact hP.sub [2, 3, 0, 4, 1] rfl, hD.sub [2, 3, 0, 4, 1] (by decide) rfl⟩, hS.F ht⟩) hS.2.2 d_M_across_153)
  · have h_7 : ¬ (zs ≤ 2) := fun z99 => h_7 ((nI_leI (a := zs) (b := 2) (by omega) (by omega)).mpr z99)
    refine lv_aload_n hx hb d_M_across_26 rfl (lv_at hl 3 rfl) ?_
    refine lv_iload_n hx hb d_M_across_27 rfl (lv_at hl 4 rfl) ?_
    refine lv_iconst (v := (2 : Int32)) hx hb d_M_across_28 (by decide) ?_
    refine cx_call (D := D) (cl := kl) (ws := _) (wc := [(m0, .inr (7, [.int th, .int (nI zs), .int (nI rn), .ref rw, .int kn, .int rk, .int (nI yn), .ref ry, .int sp, .int lg, .ref ti, .int fo, .int pt, .ref po, .ref su, .ref sq, .ref ch, .ref vt, .ref sh])), (rw, .inl (cI, 32, .inl wf)), (sq, .inl (cJ, 256, .inr (.inl q2_5)))]) (wr := [(ry, .inl (cI, 256, .inl yf)), (vt, .inl (cI, 4, .inl vf))]) (tx_runV (C := cn_M) (b := m0) (As := [.int (nI x), .int (2 : Int32)]) (rest := []) hx hb hml hown (c_M_minor2 E H.size m0 rw ry ti po su sq ch vt sh th kn rk (nI yn) sp lg fo pt zs rn wf q2_5 x hz2 hz4 hr8 hx8) (cx_C (b0 := b0) G hx0 mw_828 mw_9 ny_M_minor (by decide)) (gw.at G hx0 mw_825 rfl _) (gw.at G hx0 mw_827 rfl _) (gw.at G hx0 ms_M_minor rfl _) ⟨cx_blind, va_recv hK hP (q0 := 2) (ci := 7) (q := (cn_M, ft_M, 19)) rfl rfl, (cx_pre (s := s) hx0 hP hD hS hA0 [2, 3, 4] rfl rfl (by decide))⟩ rfl rfl hl.1 rfl (lv_room (Nat.le_of_ble_eq_true rfl)) d_M_across_29 ⟨by decide, by decide⟩) hP hD hS hA [2, 3, 4] [0, 1] rfl rfl (by decide) (by decide) (fun v t w1 H locs ht hW9 hp hP hD hS => ?_) (fun x t w1 H locs ht hW9 hp hP hD hS => by obtain ⟨_, _, h9, -⟩ := hp; cases h9)
    obtain ⟨v_30, q2_31, h9, f_32, rfl⟩ := hp
    cases h9
    refine W.eq (g2 := F0 m 32 ls [.long v_30]) rfl ?_
    refine W.widen (k := 0) (n := 0) (by decide) (by decide) ?_
    have hP : va_P D kl [(ry, .inl (cI, 256, .inl yf)), (vt, .inl (cI, 4, .inl vf)), (m0, .inr (7, [.int th, .int (nI zs), .int (nI rn), .ref rw, .int kn, .int rk, .int (nI yn), .ref ry, .int sp, .int lg, .ref ti, .int fo, .int pt, .ref po, .ref su, .ref sq, .ref ch, .ref vt, .ref sh])), (rw, .inl (cI, 32, .inl wf)), (sq, .inl (cJ, 256, .inr (.inl q2_31)))] H := hP
    have hD : va_D A [(ry, .inl (cI, 256, .inl yf)), (vt, .inl (cI, 4, .inl vf)), (m0, .inr (7, [.int th, .int (nI zs), .int (nI rn), .ref rw, .int kn, .int rk, .int (nI yn), .ref ry, .int sp, .int lg, .ref ti, .int fo, .int pt, .ref po, .ref su, .ref sq, .ref ch, .ref vt, .ref sh])), (rw, .inl (cI, 32, .inl wf)), (sq, .inl (cJ, 256, .inr (.inl q2_31)))] := hD
    refine lv_goto (tgt := 36) hx hb d_M_across_32 (by decide) ?_
    refine lv_lstore (lv' := [(8, .long v_30), (6, .long v_4), (4, .long v_1), (2, .long (0 : Int64)), (0, .ref m0), (1, .int (nI x))]) hx hb d_M_across_36 hl (by decide) rfl (fun ls hl => ?_)
    refine lv_aload_n hx hb d_M_across_38 rfl (lv_at hl 4 rfl) ?_
    refine va_get (D := D) (ci := 7) (v := .int (nI zs)) (C := cn_M) (T := ft_M) (N := 19) hx hb hf_M (fun _ h => h) hown hK hP 2 rfl rfl 1 (by decide) (gw.at G hx0 mw_714 rfl _) (fun _ h9 => h9) rfl d_M_across_39 ?_
    refine lv_iconst (v := (3 : Int32)) hx hb d_M_across_42 (by decide) ?_
    refine lv_icmp_le (tgt := 55) hx hb d_M_across_43 (by decide) (fun h_33 => ?_) (fun h_33 => ?_)
    · have h_33 : zs ≤ 3 := (nI_leI (a := zs) (b := 3) (by omega) (by omega)).mp h_33
      refine lv_lconst (v := (0 : Int64)) hx hb d_M_across_55 (by decide) ?_
      refine lv_lstore (lv' := [(10, .long (0 : Int64)), (8, .long v_30), (6, .long v_4), (4, .long v_1), (2, .long (0 : Int64)), (0, .ref m0), (1, .int (nI x))]) hx hb d_M_across_56 hl (by decide) rfl (fun ls hl => ?_)
      refine lv_lload hx hb d_M_across_58 (lv_at hl 3 rfl) ?_
      refine lv_lload hx hb d_M_across_60 (lv_at hl 2 rfl) ?_
      refine cx_call (D := D) (cl := kl) (ws := _) (wc := []) (wr := [(ry, .inl (cI, 256, .inl yf)), (vt, .inl (cI, 4, .inl vf)), (m0, .inr (7, [.int th, .int (nI zs), .int (nI rn), .ref rw, .int kn, .int rk, .int (nI yn), .ref ry, .int sp, .int lg, .ref ti, .int fo, .int pt, .ref po, .ref su, .ref sq, .ref ch, .ref vt, .ref sh])), (rw, .inl (cI, 32, .inl wf)), (sq, .inl (cJ, 256, .inr (.inl q2_31)))]) (tx_runS (As := [.long v_1, .long v_4]) (rest := []) hx hb hml hown (c_M_gcd E H.size v_1 v_4 ) (cx_C (b0 := b0) G hx0 mw_817 mw_9 ny_M_gcd (by decide)) (gw.at G hx0 mw_815 rfl _) (gw.at G hx0 mw_816 rfl _) (gw.at G hx0 mw_9 rfl _) ⟨cx_blind, (cx_pre (s := s) hx0 hP hD hS hA0 [] rfl rfl (by decide))⟩ rfl rfl hl.1 rfl (lv_room (Nat.le_of_ble_eq_true rfl)) d_M_across_62 ⟨by decide, by decide⟩) hP hD hS hA [] [0, 1, 2, 3, 4] rfl rfl (by decide) (by decide) (fun v t w1 H locs ht hW9 hp hP hD hS => ?_) (fun x t w1 H locs ht hW9 hp hP hD hS => by obtain ⟨h9, -⟩ := hp; cases h9)
      obtain ⟨h9, rfl⟩ := hp
      cases h9
      refine W.eq (g2 := F0 m 65 ls [.long (gcv v_1 v_4)]) rfl ?_
      refine W.widen (k := 0) (n := 0) (by decide) (by decide) ?_
      have hP : va_P D kl [(ry, .inl (cI, 256, .inl yf)), (vt, .inl (cI, 4, .inl vf)), (m0, .inr (7, [.int th, .int (nI zs), .int (nI rn), .ref rw, .int kn, .int rk, .int (nI yn), .ref ry, .int sp, .int lg, .ref ti, .int fo, .int pt, .ref po, .ref su, .ref sq, .ref ch, .ref vt, .ref sh])), (rw, .inl (cI, 32, .inl wf)), (sq, .inl (cJ, 256, .inr (.inl q2_31)))] H := hP
      have hD : va_D A [(ry, .inl (cI, 256, .inl yf)), (vt, .inl (cI, 4, .inl vf)), (m0, .inr (7, [.int th, .int (nI zs), .int (nI rn), .ref rw, .int kn, .int rk, .int (nI yn), .ref ry, .int sp, .int lg, .ref ti, .int fo, .int pt, .ref po, .ref su, .ref sq, .ref ch, .ref vt, .ref sh])), (rw, .inl (cI, 32, .inl wf)), (sq, .inl (cJ, 256, .inr (.inl q2_31)))] := hD
      refine lv_lload hx hb d_M_across_65 (lv_at hl 1 rfl) ?_
      refine lv_lload hx hb d_M_across_67 (lv_at hl 0 rfl) ?_
      refine cx_call (D := D) (cl := kl) (ws := _) (wc := []) (wr := [(ry, .inl (cI, 256, .inl yf)), (vt, .inl (cI, 4, .inl vf)), (m0, .inr (7, [.int th, .int (nI zs), .int (nI rn), .ref rw, .int kn, .int rk, .int (nI yn), .ref ry, .int sp, .int lg, .ref ti, .int fo, .int pt, .ref po, .ref su, .ref sq, .ref ch, .ref vt, .ref sh])), (rw, .inl (cI, 32, .inl wf)), (sq, .inl (cJ, 256, .inr (.inl q2_31)))]) (tx_runS (As := [.long v_30, .long (0 : Int64)]) (rest := [.long (gcv v_1 v_4)]) hx hb hml hown (c_M_gcd E H.size v_30 (0 : Int64) ) (cx_C (b0 := b0) G hx0 mw_817 mw_9 ny_M_gcd (by decide)) (gw.at G hx0 mw_815 rfl _) (gw.at G hx0 mw_816 rfl _) (gw.at G hx0 mw_9 rfl _) ⟨cx_blind, (cx_pre (s := s) hx0 hP hD hS hA0 [] rfl rfl (by decide))⟩ rfl rfl hl.1 rfl (lv_room (Nat.le_of_ble_eq_true rfl)) d_M_across_69 ⟨by decide, by decide⟩) hP hD hS hA [] [0, 1, 2, 3, 4] rfl rfl (by decide) (by decide) (fun v t w1 H locs ht hW9 hp hP hD hS => ?_) (fun x t w1 H locs ht hW9 hp hP hD hS => by obtain ⟨h9, -⟩ := hp; cases h9)
      obtain ⟨h9, rfl⟩ := hp
      cases h9
      refine W.eq (g2 := F0 m 72 ls [.long (gcv v_30 (0 : Int64)), .long (gcv v_1 v_4)]) rfl ?_
      refine W.widen (k := 0) (n := 0) (by decide) (by decide) ?_
      have hP : va_P D kl [(ry, .inl (cI, 256, .inl yf)), (vt, .inl (cI, 4, .inl vf)), (m0, .inr (7, [.int th, .int (nI zs), .int (nI rn), .ref rw, .int kn, .int rk, .int (nI yn), .ref ry, .int sp, .int lg, .ref ti, .int fo, .int pt, .ref po, .ref su, .ref sq, .ref ch, .ref vt, .ref sh])), (rw, .inl (cI, 32, .inl wf)), (sq, .inl (cJ, 256, .inr (.inl q2_31)))] H := hP
      have hD : va_D A [(ry, .inl (cI, 256, .inl yf)), (vt, .inl (cI, 4, .inl vf)), (m0, .inr (7, [.int th, .int (nI zs), .int (nI rn), .ref rw, .int kn, .int rk, .int (nI yn), .ref ry, .int sp, .int lg, .ref ti, .int fo, .int pt, .ref po, .ref su, .ref sq, .ref ch, .ref vt, .ref sh])), (rw, .inl (cI, 32, .inl wf)), (sq, .inl (cJ, 256, .inr (.inl q2_31)))] := hD
      refine cx_call (D := D) (cl := kl) (ws := _) (wc := []) (wr := [(ry, .inl (cI, 256, .inl yf)), (vt, .inl (cI, 4, .inl vf)), (m0, .inr (7, [.int th, .int (nI zs), .int (nI rn), .ref rw, .int kn, .int rk, .int (nI yn), .ref ry, .int sp, .int lg, .ref ti, .int fo, .int pt, .ref po, .ref su, .ref sq, .ref ch, .ref vt, .ref sh])), (rw, .inl (cI, 32, .inl wf)), (sq, .inl (cJ, 256, .inr (.inl q2_31)))]) (tx_runS (As := [.long (gcv v_1 v_4), .long (gcv v_30 (0 : Int64))]) (rest := []) hx hb hml hown (c_M_gcd E H.size (gcv v_1 v_4) (gcv v_30 (0 : Int64)) ) (cx_C (b0 := b0) G hx0 mw_817 mw_9 ny_M_gcd (by decide)) (gw.at G hx0 mw_815 rfl _) (gw.at G hx0 mw_816 rfl _) (gw.at G hx0 mw_9 rfl _) ⟨cx_blind, (cx_pre (s := s) hx0 hP hD hS hA0 [] rfl rfl (by decide))⟩ rfl rfl hl.1 rfl (lv_room (Nat.le_of_ble_eq_true rfl)) d_M_across_72 ⟨by decide, by decide⟩) hP hD hS hA [] [0, 1, 2, 3, 4] rfl rfl (by decide) (by decide) (fun v t w1 H locs ht hW9 hp hP hD hS => ?_) (fun x t w1 H locs ht hW9 hp hP hD hS => by obtain ⟨h9, -⟩ := hp; cases h9)
      obtain ⟨h9, rfl⟩ := hp
      cases h9
      refine W.eq (g2 := F0 m 75 ls [.long (gcv (gcv v_1 v_4) (gcv v_30 (0 : Int64)))]) rfl ?_
      refine W.widen (k := 0) (n := 0) (by decide) (by decide) ?_
      have hP : va_P D kl [(ry, .inl (cI, 256, .inl yf)), (vt, .inl (cI, 4, .inl vf)), (m0, .inr (7, [.int th, .int (nI zs), .int (nI rn), .ref rw, .int kn, .int rk, .int (nI yn), .ref ry, .int sp, .int lg, .ref ti, .int fo, .int pt, .ref po, .ref su, .ref sq, .ref ch, .ref vt, .ref sh])), (rw, .inl (cI, 32, .inl wf)), (sq, .inl (cJ, 256, .inr (.inl q2_31)))] H := hP
      have hD : va_D A [(ry, .inl (cI, 256, .inl yf)), (vt, .inl (cI, 4, .inl vf)), (m0, .inr (7, [.int th, .int (nI zs), .int (nI rn), .ref rw, .int kn, .int rk, .int (nI yn), .ref ry, .int sp, .int lg, .ref ti, .int fo, .int pt, .ref po, .ref su, .ref sq, .ref ch, .ref vt, .ref sh])), (rw, .inl (cI, 32, .inl wf)), (sq, .inl (cJ, 256, .inr (.inl q2_31)))] := hD
      refine lv_lstore_n (lv' := [(2, .long (gcv (gcv v_1 v_4) (gcv v_30 (0 : Int64)))), (10, .long (0 : Int64)), (8, .long v_30), (6, .long v_4), (4, .long v_1), (0, .ref m0), (1, .int (nI x))]) hx hb d_M_across_75 rfl hl (by decide) rfl (fun ls hl => ?_)
      refine lv_iconst (v := (-1 : Int32)) hx hb d_M_across_76 (by decide) ?_
      refine lv_istore (lv' := [(12, .int (-1 : Int32)), (2, .long (gcv (gcv v_1 v_4) (gcv v_30 (0 : Int64)))), (10, .long (0 : Int64)), (8, .long v_30), (6, .long v_4), (4, .long v_1), (0, .ref m0), (1, .int (nI x))]) hx hb d_M_across_77 hl (by decide) rfl (fun ls hl => ?_)
      refine lv_iload hx hb d_M_across_79 (lv_at hl 0 rfl) ?_
      refine lv_iconst (v := (2 : Int32)) hx hb d_M_across_81 (by decide) ?_
      refine lv_icmp_ge (tgt := 153) hx hb d_M_across_82 (by decide) (fun h99 => absurd h99 (by decide)) (fun _ => ?_)
      refine lv_lload_n hx hb d_M_across_85 rfl (lv_at hl 1 rfl) ?_
      refine lv_lconst (v := (0 : Int64)) hx hb d_M_across_86 (by decide) ?_
      refine W.lcmp hx hb d_M_across_87 ?_
      refine lv_if_le (tgt := 153) hx hb d_M_across_88 (by decide) (fun h_34 => ?_) (fun h_34 => ?_)
      · exact tx_mono (fun _ h => tx_Z.of h) (W.vret hx hb hr (fun t ht hW => ⟨⟨[(m0, .inr (7, [.int th, .int (nI zs), .int (nI rn), .ref rw, .int kn, .int rk, .int (nI yn), .ref ry, .int sp, .int lg, .ref ti, .int fo, .int pt, .ref po, .ref su, .ref sq, .ref ch, .ref vt, .ref sh])), (rw, .inl (cI, 32, .inl wf)), (ry, .inl (cI, 256, .inl yf)), (vt, .inl (cI, 4, .inl vf)), (sq, .inl (cJ, 256, .inr (.inl q2_31)))], ⟨(v_1, v_4, v_30, (0 : Int64)), yn, yf, vf, q2_31, rfl, mn4_3 f_3 f_6 f_32 h_7 h_33, acr_n (fun z9 => absurd h_34 (Int32.not_le.mpr ((lg_cmp_gt _ _).mpr z9))), by omega, rfl⟩, by rw [ht]; exact hP.sub [2, 3, 0, 1, 4] rfl, hD.sub [2, 3, 0, 1, 4] (by decide) rfl⟩, hS.F ht⟩) hS.2.2 d_M_across_153)
      · refine lv_aload_n hx hb d_M_across_91 rfl (lv_at hl 6 rfl) ?_
        refine lv_iload hx hb d_M_across_92 (lv_at hl 0 rfl) ?_
        refine lv_i2l (v := (-1 : Int64)) hx hb d_M_across_94 (by decide) ?_
        refine lv_lload hx hb d_M_across_95 (lv_at hl 5 rfl) ?_
        refine lv_lmul hx hb d_M_across_97 ?_
        refine lv_lload_n hx hb d_M_across_98 rfl (lv_at hl 1 rfl) ?_
        refine lv_ldiv hx hb d_M_across_99 (fun z9 => by have z8 := h_34; rw [z9] at z8; exact z8 (by decide)) ?_
        refine lv_l2i (v := (((-1 : Int64) * v_1) / (gcv (gcv v_1 v_4) (gcv v_30 (0 : Int64)))).toInt32) hx hb d_M_across_100 rfl ?_
        refine lv_iload hx hb d_M_across_101 (lv_at hl 0 rfl) ?_
        refine lv_i2l (v := (-1 : Int64)) hx hb d_M_across_103 (by decide) ?_
        refine lv_lload hx hb d_M_across_104 (lv_at hl 4 rfl) ?_
        refine lv_lmul hx hb d_M_across_106 ?_
        refine lv_lload_n hx hb d_M_across_107 rfl (lv_at hl 1 rfl) ?_
        refine lv_ldiv hx hb d_M_across_108 (fun z9 => by have z8 := h_34; rw [z9] at z8; exact z8 (by decide)) ?_
        refine lv_l2i (v := (((-1 : Int64) * v_4) / (gcv (gcv v_1 v_4) (gcv v_30 (0 : Int64)))).toInt32) hx hb d_M_across_109 rfl ?_
        refine lv_iload hx hb d_M_across_110 (lv_at hl 0 rfl) ?_
        refine lv_i2l (v := (-1 : Int64)) hx hb d_M_across_112 (by decide) ?_
        refine lv_lload hx hb d_M_across_113 (lv_at hl 3 rfl) ?_
        refine lv_lmul hx hb d_M_across_115 ?_
        refine lv_lload_n hx hb d_M_across_116 rfl (lv_at hl 1 rfl) ?_
        refine lv_ldiv hx hb d_M_across_117 (fun z9 => by have z8 := h_34; rw [z9] at z8; exact z8 (by decide)) ?_
        refine lv_l2i (v := (((-1 : Int64) * v_30) / (gcv (gcv v_1 v_4) (gcv v_30 (0 : Int64)))).toInt32) hx hb d_M_across_118 rfl ?_
        refine lv_iload hx hb d_M_across_119 (lv_at hl 0 rfl) ?_
        refine lv_i2l (v := (-1 : Int64)) hx hb d_M_across_121 (by decide) ?_
        refine lv_lload hx hb d_M_across_122 (lv_at hl 2 rfl) ?_
        refine lv_lmul hx hb d_M_across_124 ?_
        refine tp_l (y := (0 : Int64)) (by decide) ?_
        refine lv_lload_n hx hb d_M_across_125 rfl (lv_at hl 1 rfl) ?_
        refine lv_ldiv hx hb d_M_across_126 (fun z9 => by have z8 := h_34; rw [z9] at z8; exact z8 (by decide)) ?_
        refine lv_l2i (v := ((0 : Int64) / (gcv (gcv v_1 v_4) (gcv v_30 (0 : Int64)))).toInt32) hx hb d_M_across_127 rfl ?_
        refine cx_call (D := D) (cl := kl) (ws := _) (wc := [(m0, .inr (7, [.int th, .int (nI zs), .int (nI rn), .ref rw, .int kn, .int rk, .int (nI yn), .ref ry, .int sp, .int lg, .ref ti, .int fo, .int pt, .ref po, .ref su, .ref sq, .ref ch, .ref vt, .ref sh])), (vt, .inl (cI, 4, .inl vf))]) (wr := [(ry, .inl (cI, 256, .inl yf)), (rw, .inl (cI, 32, .inl wf)), (sq, .inl (cJ, 256, .inr (.inl q2_31)))]) (tx_runV (C := cn_M) (b := m0) (As := [.int ((((-1 : Int64) * v_1) / (gcv (gcv v_1 v_4) (gcv v_30 (0 : Int64)))).toInt32), .int ((((-1 : Int64) * v_4) / (gcv (gcv v_1 v_4) (gcv v_30 (0 : Int64)))).toInt32), .int ((((-1 : Int64) * v_30) / (gcv (gcv v_1 v_4) (gcv v_30 (0 : Int64)))).toInt32), .int (((0 : Int64) / (gcv (gcv v_1 v_4) (gcv v_30 (0 : Int64)))).toInt32)]) (rest := []) hx hb hml hown (c_M_set E H.size m0 rw ry ti po su sq ch vt sh th (nI zs) (nI rn) kn rk (nI yn) sp lg fo pt ((((-1 : Int64) * v_1) / (gcv (gcv v_1 v_4) (gcv v_30 (0 : Int64)))).toInt32) ((((-1 : Int64) * v_4) / (gcv (gcv v_1 v_4) (gcv v_30 (0 : Int64)))).toInt32) ((((-1 : Int64) * v_30) / (gcv (gcv v_1 v_4) (gcv v_30 (0 : Int64)))).toInt32) (((0 : Int64) / (gcv (gcv v_1 v_4) (gcv v_30 (0 : Int64)))).toInt32) vf ) (cx_C (b0 := b0) G hx0 mw_783 mw_9 ny_M_set (by decide)) (gw.at G hx0 mw_780 rfl _) (gw.at G hx0 mw_782 rfl _) (gw.at G hx0 ms_M_set rfl _) ⟨cx_blind, va_recv hK hP (q0 := 2) (ci := 7) (q := (cn_M, ft_M, 19)) rfl rfl, (cx_pre (s := s) hx0 hP hD hS hA0 [2, 1] rfl rfl (by decide))⟩ rfl rfl hl.1 rfl (lv_room (Nat.le_of_ble_eq_true rfl)) d_M_across_128 ⟨by decide, by decide⟩) hP hD hS hA [2, 1] [0, 3, 4] rfl rfl (by decide) (by decide) (fun v t w1 H locs ht hW9 hp hP hD hS => ?_) (fun x t w1 H locs ht hW9 hp hP hD hS => by obtain ⟨h9, -⟩ := hp; cases h9)
        obtain ⟨h9, rfl⟩ := hp
        cases h9
        refine W.eq (g2 := F0 m 131 ls []) rfl ?_
        refine W.widen (k := 0) (n := 0) (by decide) (by decide) ?_
        have hP : va_P D kl [(ry, .inl (cI, 256, .inl yf)), (rw, .inl (cI, 32, .inl wf)), (sq, .inl (cJ, 256, .inr (.inl q2_31))), (m0, .inr (7, [.int th, .int (nI zs), .int (nI rn), .ref rw, .int kn, .int rk, .int (nI yn), .ref ry, .int sp, .int lg, .ref ti, .int fo, .int pt, .ref po, .ref su, .ref sq, .ref ch, .ref vt, .ref sh])), (vt, .inl (cI, 4, .inl (upd (upd (upd (upd vf 0 ((((-1 : Int64) * v_1) / (gcv (gcv v_1 v_4) (gcv v_30 (0 : Int64)))).toInt32)) 1 ((((-1 : Int64) * v_4) / (gcv (gcv v_1 v_4) (gcv v_30 (0 : Int64)))).toInt32)) 2 (tk_c (nI zs) ((((-1 : Int64) * v_30) / (gcv (gcv v_1 v_4) (gcv v_30 (0 : Int64)))).toInt32))) 3 (tk_d (nI zs) (((0 : Int64) / (gcv (gcv v_1 v_4) (gcv v_30 (0 : Int64)))).toInt32)))))] H := hP
        have hD : va_D A [(ry, .inl (cI, 256, .inl yf)), (rw, .inl (cI, 32, .inl wf)), (sq, .inl (cJ, 256, .inr (.inl q2_31))), (m0, .inr (7, [.int th, .int (nI zs), .int (nI rn), .ref rw, .int kn, .int rk, .int (nI yn), .ref ry, .int sp, .int lg, .ref ti, .int fo, .int pt, .ref po, .ref su, .ref sq, .ref ch, .ref vt, .ref sh])), (vt, .inl (cI, 4, .inl (upd (upd (upd (upd vf 0 ((((-1 : Int64) * v_1) / (gcv (gcv v_1 v_4) (gcv v_30 (0 : Int64)))).toInt32)) 1 ((((-1 : Int64) * v_4) / (gcv (gcv v_1 v_4) (gcv v_30 (0 : Int64)))).toInt32)) 2 (tk_c (nI zs) ((((-1 : Int64) * v_30) / (gcv (gcv v_1 v_4) (gcv v_30 (0 : Int64)))).toInt32))) 3 (tk_d (nI zs) (((0 : Int64) / (gcv (gcv v_1 v_4) (gcv v_30 (0 : Int64)))).toInt32)))))] := hD
        obtain ⟨w_35, hw_35⟩ : ∃ z9 : Nat → Int32, z9 = vcs zs vf (-1 : Int64) (gc4 (v_1, v_4, v_30, (0 : Int64))) (v_1, v_4, v_30, (0 : Int64)) := ⟨_, rfl⟩
        rw [show upd (upd (upd (upd vf 0 ((((-1 : Int64) * v_1) / (gcv (gcv v_1 v_4) (gcv v_30 (0 : Int64)))).toInt32)) 1 ((((-1 : Int64) * v_4) / (gcv (gcv v_1 v_4) (gcv v_30 (0 : Int64)))).toInt32)) 2 (tk_c (nI zs) ((((-1 : Int64) * v_30) / (gcv (gcv v_1 v_4) (gcv v_30 (0 : Int64)))).toInt32))) 3 (tk_d (nI zs) (((0 : Int64) / (gcv (gcv v_1 v_4) (gcv v_30 (0 : Int64)))).toInt32)) = w_35 from hw_35.symm] at hP hD
        have hP : va_P D kl [(ry, .inl (cI, 256, .inl yf)), (rw, .inl (cI, 32, .inl wf)), (sq, .inl (cJ, 256, .inr (.inl q2_31))), (m0, .inr (7, [.int th, .int (nI zs), .int (nI rn), .ref rw, .int kn, .int rk, .int (nI yn), .ref ry, .int sp, .int lg, .ref ti, .int fo, .int pt, .ref po, .ref su, .ref sq, .ref ch, .ref vt, .ref sh])), (vt, .inl (cI, 4, .inl w_35))] H := hP
        have hD : va_D A [(ry, .inl (cI, 256, .inl yf)), (rw, .inl (cI, 32, .inl wf)), (sq, .inl (cJ, 256, .inr (.inl q2_31))), (m0, .inr (7, [.int th, .int (nI zs), .int (nI rn), .ref rw, .int kn, .int rk, .int (nI yn), .ref ry, .int sp, .int lg, .ref ti, .int fo, .int pt, .ref po, .ref su, .ref sq, .ref ch, .ref vt, .ref sh])), (vt, .inl (cI, 4, .inl w_35))] := hD
        refine lv_aload_n hx hb d_M_across_131 rfl (lv_at hl 6 rfl) ?_
        refine lv_aload_n hx hb d_M_across_132 rfl (lv_at hl 6 rfl) ?_
        refine va_get (D := D) (ci := 7) (v := .ref vt) (C := cn_M) (T := ft_M) (N := 19) hx hb hf_M (fun _ h => h) hown hK hP 3 rfl rfl 17 (by decide) (gw.at G hx0 mw_730 rfl _) (fun _ h9 => h9) rfl d_M_across_133 ?_
        refine lv_iconst (v := (0 : Int32)) hx hb d_M_across_136 (by decide) ?_
        by_cases h_36 : hld wf rn (w_35) 0
        · refine cx_call (D := D) (cl := kl) (ws := _) (wc := [(m0, .inr (7, [.int th, .int (nI zs), .int (nI rn), .ref rw, .int kn, .int rk, .int (nI yn), .ref ry, .int sp, .int lg, .ref ti, .int fo, .int pt, .ref po, .ref su, .ref sq, .ref ch, .ref vt, .ref sh])), (rw, .inl (cI, 32, .inl wf)), (vt, .inl (cI, 4, .inl w_35))]) (wr := [(ry, .inl (cI, 256, .inl yf)), (sq, .inl (cJ, 256, .inr (.inl q2_31)))]) (tx_runV (C := cn_M) (b := m0) (As := [.ref vt, .int (0 : Int32)]) (rest := []) hx hb hml hown (c_M_holdsAt_y E H.size m0 rw ry ti po su sq ch vt sh th (nI zs) kn rk (nI yn) sp lg fo pt rn wf vt 4 w_35 0 hr8 (by decide) (by decide) h_36) (cx_C (b0 := b0) G hx0 mw_836 mw_9 ny_M_holdsAt (by decide)) (gw.at G hx0 mw_833 rfl _) (gw.at G hx0 mw_835 rfl _) (gw.at G hx0 ms_M_holdsAt rfl _) ⟨cx_blind, va_recv hK hP (q0 := 3) (ci := 7) (q := (cn_M, ft_M, 19)) rfl rfl, (cx_pre (s := s) hx0 hP hD hS hA0 [3, 1, 4] rfl rfl (by decide))⟩ rfl rfl hl.1 rfl (lv_room (Nat.le_of_ble_eq_true rfl)) d_M_across_137 ⟨by decide, by decide⟩) hP hD hS hA [3, 1, 4] [0, 2] rfl rfl (by decide) (by decide) (fun v t w1 H locs ht hW9 hp hP hD hS => ?_) (fun x t w1 H locs ht hW9 hp hP hD hS => by obtain ⟨h9, -⟩ := hp; cases h9)
          obtain ⟨h9, rfl⟩ := hp
          cases h9
          refine W.eq (g2 := F0 m 140 ls [.int (1 : Int32)]) rfl ?_
          refine W.widen (k := 0) (n := 0) (by decide) (by decide) ?_
          have hP : va_P D kl [(ry, .inl (cI, 256, .inl yf)), (sq, .inl (cJ, 256, .inr (.inl q2_31))), (m0, .inr (7, [.int th, .int (nI zs), .int (nI rn), .ref rw, .int kn, .int rk, .int (nI yn), .ref ry, .int sp, .int lg, .ref ti, .int fo, .int pt, .ref po, .ref su, .ref sq, .ref ch, .ref vt, .ref sh])), (rw, .inl (cI, 32, .inl wf)), (vt, .inl (cI, 4, .inl w_35))] H := hP
          have hD : va_D A [(ry, .inl (cI, 256, .inl yf)), (sq, .inl (cJ, 256, .inr (.inl q2_31))), (m0, .inr (7, [.int th, .int (nI zs), .int (nI rn), .ref rw, .int kn, .int rk, .int (nI yn), .ref ry, .int sp, .int lg, .ref ti, .int fo, .int pt, .ref po, .ref su, .ref sq, .ref ch, .ref vt, .ref sh])), (rw, .inl (cI, 32, .inl wf)), (vt, .inl (cI, 4, .inl w_35))] := hD
          refine lv_if_eq (tgt := 147) hx hb d_M_across_140 (by decide) (fun h99 => absurd h99 (by decide)) (fun _ => ?_)
          refine lv_aload_n hx hb d_M_across_143 rfl (lv_at hl 6 rfl) ?_
          refine cx_call (D := D) (cl := kl) (ws := _) (wc := [(m0, .inr (7, [.int th, .int (nI zs), .int (nI rn), .ref rw, .int kn, .int rk, .int (nI yn), .ref ry, .int sp, .int lg, .ref ti, .int fo, .int pt, .ref po, .ref su, .ref sq, .ref ch, .ref vt, .ref sh])), (vt, .inl (cI, 4, .inl w_35)), (ry, .inl (cI, 256, .inl yf))]) (wr := [(sq, .inl (cJ, 256, .inr (.inl q2_31))), (rw, .inl (cI, 32, .inl wf))]) (tx_runV (C := cn_M) (b := m0) (As := []) (rest := []) hx hb hml hown (c_M_keepRay E H.size m0 rw ry ti po su sq ch vt sh th (nI zs) (nI rn) kn rk sp lg fo pt yn w_35 yf (by omega)) (cx_C (b0 := b0) G hx0 mw_844 mw_9 ny_M_keepRay (by decide)) (gw.at G hx0 mw_841 rfl _) (gw.at G hx0 mw_843 rfl _) (gw.at G hx0 ms_M_keepRay rfl _) ⟨cx_blind, va_recv hK hP (q0 := 2) (ci := 7) (q := (cn_M, ft_M, 19)) rfl rfl, (cx_pre (s := s) hx0 hP hD hS hA0 [2, 4, 0] rfl rfl (by decide))⟩ rfl rfl hl.1 rfl (lv_room (Nat.le_of_ble_eq_true rfl)) d_M_across_144 ⟨by decide, by decide⟩) hP hD hS hA [2, 4, 0] [1, 3] rfl rfl (by decide) (by decide) (fun v t w1 H locs ht hW9 hp hP hD hS => ?_) (fun x t w1 H locs ht hW9 hp hP hD hS => by obtain ⟨_, _, h9, -⟩ := hp; cases h9)
          obtain ⟨n2_37, f2_38, h9, f_39, f_40, f_41, rfl⟩ := hp
          cases h9
          refine W.eq (g2 := F0 m 147 ls []) rfl ?_
          refine W.widen (k := 0) (n := 0) (by decide) (by decide) ?_
          have hP : va_P D kl [(sq, .inl (cJ, 256, .inr (.inl q2_31))), (rw, .inl (cI, 32, .inl wf)), (m0, .inr (7, [.int th, .int (nI zs), .int (nI rn), .ref rw, .int kn, .int rk, .int (nI n2_37), .ref ry, .int sp, .int lg, .ref ti, .int fo, .int pt, .ref po, .ref su, .ref sq, .ref ch, .ref vt, .ref sh])), (vt, .inl (cI, 4, .inl w_35)), (ry, .inl (cI, 256, .inl f2_38))] H := hP
          have hD : va_D A [(sq, .inl (cJ, 256, .inr (.inl q2_31))), (rw, .inl (cI, 32, .inl wf)), (m0, .inr (7, [.int th, .int (nI zs), .int (nI rn), .ref rw, .int kn, .int rk, .int (nI n2_37), .ref ry, .int sp, .int lg, .ref ti, .int fo, .int pt, .ref po, .ref su, .ref sq, .ref ch, .ref vt, .ref sh])), (vt, .inl (cI, 4, .inl w_35)), (ry, .inl (cI, 256, .inl f2_38))] := hD
          refine lv_iinc (lv' := [(12, .int (1 : Int32)), (2, .long (gcv (gcv v_1 v_4) (gcv v_30 (0 : Int64)))), (10, .long (0 : Int64)), (8, .long v_30), (6, .long v_4), (4, .long v_1), (0, .ref m0), (1, .int (nI x))]) (k := 0) (v := (1 : Int32)) hx hb d_M_across_147 hl rfl (by decide) (by decide) rfl (fun ls hl => ?_)
          refine lv_goto (tgt := 79) hx hb d_M_across_150 (by decide) ?_
          refine lv_iload hx hb d_M_across_79 (lv_at hl 0 rfl) ?_
          refine lv_iconst (v := (2 : Int32)) hx hb d_M_across_81 (by decide) ?_
          refine lv_icmp_ge (tgt := 153) hx hb d_M_across_82 (by decide) (fun h99 => absurd h99 (by decide)) (fun _ => ?_)
          refine lv_lload_n hx hb d_M_across_85 rfl (lv_at hl 1 rfl) ?_
          refine lv_lconst (v := (0 : Int64)) hx hb d_M_across_86 (by decide) ?_
          refine W.lcmp hx hb d_M_across_87 ?_
          refine lv_if_le (tgt := 153) hx hb d_M_across_88 (by decide) (fun h99 => absurd h99 (by first | assumption | exact Int32.not_le.mpr (by assumption) | exact Int32.not_lt.mpr (by assumption) | exact Int32.not_le.mp (by assumption) | exact Int32.not_lt.mp (by assumption))) (fun _ => ?_)
          refine lv_aload_n hx hb d_M_across_91 rfl (lv_at hl 6 rfl) ?_
          refine lv_iload hx hb d_M_across_92 (lv_at hl 0 rfl) ?_
          refine lv_i2l (v := (1 : Int64)) hx hb d_M_across_94 (by decide) ?_
          refine lv_lload hx hb d_M_across_95 (lv_at hl 5 rfl) ?_
          refine lv_lmul hx hb d_M_across_97 ?_
          refine lv_lload_n hx hb d_M_across_98 rfl (lv_at hl 1 rfl) ?_
          refine lv_ldiv hx hb d_M_across_99 (fun z9 => by have z8 := h_34; rw [z9] at z8; exact z8 (by decide)) ?_
          refine lv_l2i (v := (((1 : Int64) * v_1) / (gcv (gcv v_1 v_4) (gcv v_30 (0 : Int64)))).toInt32) hx hb d_M_across_100 rfl ?_
          refine lv_iload hx hb d_M_across_101 (lv_at hl 0 rfl) ?_
          refine lv_i2l (v := (1 : Int64)) hx hb d_M_across_103 (by decide) ?_
          refine lv_lload hx hb d_M_across_104 (lv_at hl 4 rfl) ?_
          refine lv_lmul hx hb d_M_across_106 ?_
          refine lv_lload_n hx hb d_M_across_107 rfl (lv_at hl 1 rfl) ?_
          refine lv_ldiv hx hb d_M_across_108 (fun z9 => by have z8 := h_34; rw [z9] at z8; exact z8 (by decide)) ?_
          refine lv_l2i (v := (((1 : Int64) * v_4) / (gcv (gcv v_1 v_4) (gcv v_30 (0 : Int64)))).toInt32) hx hb d_M_across_109 rfl ?_
          refine lv_iload hx hb d_M_across_110 (lv_at hl 0 rfl) ?_
          refine lv_i2l (v := (1 : Int64)) hx hb d_M_across_112 (by decide) ?_
          refine lv_lload hx hb d_M_across_113 (lv_at hl 3 rfl) ?_
          refine lv_lmul hx hb d_M_across_115 ?_
          refine lv_lload_n hx hb d_M_across_116 rfl (lv_at hl 1 rfl) ?_
          refine lv_ldiv hx hb d_M_across_117 (fun z9 => by have z8 := h_34; rw [z9] at z8; exact z8 (by decide)) ?_
          refine lv_l2i (v := (((1 : Int64) * v_30) / (gcv (gcv v_1 v_4) (gcv v_30 (0 : Int64)))).toInt32) hx hb d_M_across_118 rfl ?_
          refine lv_iload hx hb d_M_across_119 (lv_at hl 0 rfl) ?_
          refine lv_i2l (v := (1 : Int64)) hx hb d_M_across_121 (by decide) ?_
          refine lv_lload hx hb d_M_across_122 (lv_at hl 2 rfl) ?_
          refine lv_lmul hx hb d_M_across_124 ?_
          refine tp_l (y := (0 : Int64)) (by decide) ?_
          refine lv_lload_n hx hb d_M_across_125 rfl (lv_at hl 1 rfl) ?_
          refine lv_ldiv hx hb d_M_across_126 (fun z9 => by have z8 := h_34; rw [z9] at z8; exact z8 (by decide)) ?_
          refine lv_l2i (v := ((0 : Int64) / (gcv (gcv v_1 v_4) (gcv v_30 (0 : Int64)))).toInt32) hx hb d_M_across_127 rfl ?_
          refine cx_call (D := D) (cl := kl) (ws := _) (wc := [(m0, .inr (7, [.int th, .int (nI zs), .int (nI rn), .ref rw, .int kn, .int rk, .int (nI n2_37), .ref ry, .int sp, .int lg, .ref ti, .int fo, .int pt, .ref po, .ref su, .ref sq, .ref ch, .ref vt, .ref sh])), (vt, .inl (cI, 4, .inl w_35))]) (wr := [(sq, .inl (cJ, 256, .inr (.inl q2_31))), (rw, .inl (cI, 32, .inl wf)), (ry, .inl (cI, 256, .inl f2_38))]) (tx_runV (C := cn_M) (b := m0) (As := [.int ((((1 : Int64) * v_1) / (gcv (gcv v_1 v_4) (gcv v_30 (0 : Int64)))).toInt32), .int ((((1 : Int64) * v_4) / (gcv (gcv v_1 v_4) (gcv v_30 (0 : Int64)))).toInt32), .int ((((1 : Int64) * v_30) / (gcv (gcv v_1 v_4) (gcv v_30 (0 : Int64)))).toInt32), .int (((0 : Int64) / (gcv (gcv v_1 v_4) (gcv v_30 (0 : Int64)))).toInt32)]) (rest := []) hx hb hml hown (c_M_set E H.size m0 rw ry ti po su sq ch vt sh th (nI zs) (nI rn) kn rk (nI n2_37) sp lg fo pt ((((1 : Int64) * v_1) / (gcv (gcv v_1 v_4) (gcv v_30 (0 : Int64)))).toInt32) ((((1 : Int64) * v_4) / (gcv (gcv v_1 v_4) (gcv v_30 (0 : Int64)))).toInt32) ((((1 : Int64) * v_30) / (gcv (gcv v_1 v_4) (gcv v_30 (0 : Int64)))).toInt32) (((0 : Int64) / (gcv (gcv v_1 v_4) (gcv v_30 (0 : Int64)))).toInt32) w_35 ) (cx_C (b0 := b0) G hx0 mw_783 mw_9 ny_M_set (by decide)) (gw.at G hx0 mw_780 rfl _) (gw.at G hx0 mw_782 rfl _) (gw.at G hx0 ms_M_set rfl _) ⟨cx_blind, va_recv hK hP (q0 := 2) (ci := 7) (q := (cn_M, ft_M, 19)) rfl rfl, (cx_pre (s := s) hx0 hP hD hS hA0 [2, 3] rfl rfl (by decide))⟩ rfl rfl hl.1 rfl (lv_room (Nat.le_of_ble_eq_true rfl)) d_M_across_128 ⟨by decide, by decide⟩) hP hD hS hA [2, 3] [0, 1, 4] rfl rfl (by decide) (by decide) (fun v t w1 H locs ht hW9 hp hP hD hS => ?_) (fun x t w1 H locs ht hW9 hp hP hD hS => by obtain ⟨h9, -⟩ := hp; cases h9)
          obtain ⟨h9, rfl⟩ := hp
          cases h9
          refine W.eq (g2 := F0 m 131 ls []) rfl ?_
          refine W.widen (k := 0) (n := 0) (by decide) (by decide) ?_
          have hP : va_P D kl [(sq, .inl (cJ, 256, .inr (.inl q2_31))), (rw, .inl (cI, 32, .inl wf)), (ry, .inl (cI, 256, .inl f2_38)), (m0, .inr (7, [.int th, .int (nI zs), .int (nI rn), .ref rw, .int kn, .int rk, .int (nI n2_37), .ref ry, .int sp, .int lg, .ref ti, .int fo, .int pt, .ref po, .ref su, .ref sq, .ref ch, .ref vt, .ref sh])), (vt, .inl (cI, 4, .inl (upd (upd (upd (upd w_35 0 ((((1 : Int64) * v_1) / (gcv (gcv v_1 v_4) (gcv v_30 (0 : Int64)))).toInt32)) 1 ((((1 : Int64) * v_4) / (gcv (gcv v_1 v_4) (gcv v_30 (0 : Int64)))).toInt32)) 2 (tk_c (nI zs) ((((1 : Int64) * v_30) / (gcv (gcv v_1 v_4) (gcv v_30 (0 : Int64)))).toInt32))) 3 (tk_d (nI zs) (((0 : Int64) / (gcv (gcv v_1 v_4) (gcv v_30 (0 : Int64)))).toInt32)))))] H := hP
          have hD : va_D A [(sq, .inl (cJ, 256, .inr (.inl q2_31))), (rw, .inl (cI, 32, .inl wf)), (ry, .inl (cI, 256, .inl f2_38)), (m0, .inr (7, [.int th, .int (nI zs), .int (nI rn), .ref rw, .int kn, .int rk, .int (nI n2_37), .ref ry, .int sp, .int lg, .ref ti, .int fo, .int pt, .ref po, .ref su, .ref sq, .ref ch, .ref vt, .ref sh])), (vt, .inl (cI, 4, .inl (upd (upd (upd (upd w_35 0 ((((1 : Int64) * v_1) / (gcv (gcv v_1 v_4) (gcv v_30 (0 : Int64)))).toInt32)) 1 ((((1 : Int64) * v_4) / (gcv (gcv v_1 v_4) (gcv v_30 (0 : Int64)))).toInt32)) 2 (tk_c (nI zs) ((((1 : Int64) * v_30) / (gcv (gcv v_1 v_4) (gcv v_30 (0 : Int64)))).toInt32))) 3 (tk_d (nI zs) (((0 : Int64) / (gcv (gcv v_1 v_4) (gcv v_30 (0 : Int64)))).toInt32)))))] := hD
          obtain ⟨w_42, hw_42⟩ : ∃ z9 : Nat → Int32, z9 = vcs zs w_35 (1 : Int64) (gc4 (v_1, v_4, v_30, (0 : Int64))) (v_1, v_4, v_30, (0 : Int64)) := ⟨_, rfl⟩
          rw [show upd (upd (upd (upd w_35 0 ((((1 : Int64) * v_1) / (gcv (gcv v_1 v_4) (gcv v_30 (0 : Int64)))).toInt32)) 1 ((((1 : Int64) * v_4) / (gcv (gcv v_1 v_4) (gcv v_30 (0 : Int64)))).toInt32)) 2 (tk_c (nI zs) ((((1 : Int64) * v_30) / (gcv (gcv v_1 v_4) (gcv v_30 (0 : Int64)))).toInt32))) 3 (tk_d (nI zs) (((0 : Int64) / (gcv (gcv v_1 v_4) (gcv v_30 (0 : Int64)))).toInt32)) = w_42 from hw_42.symm] at hP hD
          have hP : va_P D kl [(sq, .inl (cJ, 256, .inr (.inl q2_31))), (rw, .inl (cI, 32, .inl wf)), (ry, .inl (cI, 256, .inl f2_38)), (m0, .inr (7, [.int th, .int (nI zs), .int (nI rn), .ref rw, .int kn, .int rk, .int (nI n2_37), .ref ry, .int sp, .int lg, .ref ti, .int fo, .int pt, .ref po, .ref su, .ref sq, .ref ch, .ref vt, .ref sh])), (vt, .inl (cI, 4, .inl w_42))] H := hP
          have hD : va_D A [(sq, .inl (cJ, 256, .inr (.inl q2_31))), (rw, .inl (cI, 32, .inl wf)), (ry, .inl (cI, 256, .inl f2_38)), (m0, .inr (7, [.int th, .int (nI zs), .int (nI rn), .ref rw, .int kn, .int rk, .int (nI n2_37), .ref ry, .int sp, .int lg, .ref ti, .int fo, .int pt, .ref po, .ref su, .ref sq, .ref ch, .ref vt, .ref sh])), (vt, .inl (cI, 4, .inl w_42))] := hD
          refine lv_aload_n hx hb d_M_across_131 rfl (lv_at hl 6 rfl) ?_
          refine lv_aload_n hx hb d_M_across_132 rfl (lv_at hl 6 rfl) ?_
          refine va_get (D := D) (ci := 7) (v := .ref vt) (C := cn_M) (T := ft_M) (N := 19) hx hb hf_M (fun _ h => h) hown hK hP 3 rfl rfl 17 (by decide) (gw.at G hx0 mw_730 rfl _) (fun _ h9 => h9) rfl d_M_across_133 ?_
          refine lv_iconst (v := (0 : Int32)) hx hb d_M_across_136 (by decide) ?_
          by_cases h_43 : hld wf rn (w_42) 0
          · refine cx_call (D := D) (cl := kl) (ws := _) (wc := [(m0, .inr (7, [.int th, .int (nI zs), .int (nI rn), .ref rw, .int kn, .int rk, .int (nI n2_37), .ref ry, .int sp, .int lg, .ref ti, .int fo, .int pt, .ref po, .ref su, .ref sq, .ref ch, .ref vt, .ref sh])), (rw, .inl (cI, 32, .inl wf)), (vt, .inl (cI, 4, .inl w_42))]) (wr := [(sq, .inl (cJ, 256, .inr (.inl q2_31))), (ry, .inl (cI, 256, .inl f2_38))]) (tx_runV (C := cn_M) (b := m0) (As := [.ref vt, .int (0 : Int32)]) (rest := []) hx hb hml hown (c_M_holdsAt_y E H.size m0 rw ry ti po su sq ch vt sh th (nI zs) kn rk (nI n2_37) sp lg fo pt rn wf vt 4 w_42 0 hr8 (by decide) (by decide) h_43) (cx_C (b0 := b0) G hx0 mw_836 mw_9 ny_M_holdsAt (by decide)) (gw.at G hx0 mw_833 rfl _) (gw.at G hx0 mw_835 rfl _) (gw.at G hx0 ms_M_holdsAt rfl _) ⟨cx_blind, va_recv hK hP (q0 := 3) (ci := 7) (q := (cn_M, ft_M, 19)) rfl rfl, (cx_pre (s := s) hx0 hP hD hS hA0 [3, 1, 4] rfl rfl (by decide))⟩ rfl rfl hl.1 rfl (lv_room (Nat.le_of_ble_eq_true rfl)) d_M_across_137 ⟨by decide, by decide⟩) hP hD hS hA [3, 1, 4] [0, 2] rfl rfl (by decide) (by decide) (fun v t w1 H locs ht hW9 hp hP hD hS => ?_) (fun x t w1 H locs ht hW9 hp hP hD hS => by obtain ⟨h9, -⟩ := hp; cases h9)
            obtain ⟨h9, rfl⟩ := hp
            cases h9
            refine W.eq (g2 := F0 m 140 ls [.int (1 : Int32)]) rfl ?_
            refine W.widen (k := 0) (n := 0) (by decide) (by decide) ?_
            have hP : va_P D kl [(sq, .inl (cJ, 256, .inr (.inl q2_31))), (ry, .inl (cI, 256, .inl f2_38)), (m0, .inr (7, [.int th, .int (nI zs), .int (nI rn), .ref rw, .int kn, .int rk, .int (nI n2_37), .ref ry, .int sp, .int lg, .ref ti, .int fo, .int pt, .ref po, .ref su, .ref sq, .ref ch, .ref vt, .ref sh])), (rw, .inl (cI, 32, .inl wf)), (vt, .inl (cI, 4, .inl w_42))] H := hP
            have hD : va_D A [(sq, .inl (cJ, 256, .inr (.inl q2_31))), (ry, .inl (cI, 256, .inl f2_38)), (m0, .inr (7, [.int th, .int (nI zs), .int (nI rn), .ref rw, .int kn, .int rk, .int (nI n2_37), .ref ry, .int sp, .int lg, .ref ti, .int fo, .int pt, .ref po, .ref su, .ref sq, .ref ch, .ref vt, .ref sh])), (rw, .inl (cI, 32, .inl wf)), (vt, .inl (cI, 4, .inl w_42))] := hD
            refine lv_if_eq (tgt := 147) hx hb d_M_across_140 (by decide) (fun h99 => absurd h99 (by decide)) (fun _ => ?_)
            refine lv_aload_n hx hb d_M_across_143 rfl (lv_at hl 6 rfl) ?_
            refine cx_call (D := D) (cl := kl) (ws := _) (wc := [(m0, .inr (7, [.int th, .int (nI zs), .int (nI rn), .ref rw, .int kn, .int rk, .int (nI n2_37), .ref ry, .int sp, .int lg, .ref ti, .int fo, .int pt, .ref po, .ref su, .ref sq, .ref ch, .ref vt, .ref sh])), (vt, .inl (cI, 4, .inl w_42)), (ry, .inl (cI, 256, .inl f2_38))]) (wr := [(sq, .inl (cJ, 256, .inr (.inl q2_31))), (rw, .inl (cI, 32, .inl wf))]) (tx_runV (C := cn_M) (b := m0) (As := []) (rest := []) hx hb hml hown (c_M_keepRay E H.size m0 rw ry ti po su sq ch vt sh th (nI zs) (nI rn) kn rk sp lg fo pt n2_37 w_42 f2_38 (by omega)) (cx_C (b0 := b0) G hx0 mw_844 mw_9 ny_M_keepRay (by decide)) (gw.at G hx0 mw_841 rfl _) (gw.at G hx0 mw_843 rfl _) (gw.at G hx0 ms_M_keepRay rfl _) ⟨cx_blind, va_recv hK hP (q0 := 2) (ci := 7) (q := (cn_M, ft_M, 19)) rfl rfl, (cx_pre (s := s) hx0 hP hD hS hA0 [2, 4, 1] rfl rfl (by decide))⟩ rfl rfl hl.1 rfl (lv_room (Nat.le_of_ble_eq_true rfl)) d_M_across_144 ⟨by decide, by decide⟩) hP hD hS hA [2, 4, 1] [0, 3] rfl rfl (by decide) (by decide) (fun v t w1 H locs ht hW9 hp hP hD hS => ?_) (fun x t w1 H locs ht hW9 hp hP hD hS => by obtain ⟨_, _, h9, -⟩ := hp; cases h9)
            obtain ⟨n2_44, f2_45, h9, f_46, f_47, f_48, rfl⟩ := hp
            cases h9
            refine W.eq (g2 := F0 m 147 ls []) rfl ?_
            refine W.widen (k := 0) (n := 0) (by decide) (by decide) ?_
            have hP : va_P D kl [(sq, .inl (cJ, 256, .inr (.inl q2_31))), (rw, .inl (cI, 32, .inl wf)), (m0, .inr (7, [.int th, .int (nI zs), .int (nI rn), .ref rw, .int kn, .int rk, .int (nI n2_44), .ref ry, .int sp, .int lg, .ref ti, .int fo, .int pt, .ref po, .ref su, .ref sq, .ref ch, .ref vt, .ref sh])), (vt, .inl (cI, 4, .inl w_42)), (ry, .inl (cI, 256, .inl f2_45))] H := hP
            have hD : va_D A [(sq, .inl (cJ, 256, .inr (.inl q2_31))), (rw, .inl (cI, 32, .inl wf)), (m0, .inr (7, [.int th, .int (nI zs), .int (nI rn), .ref rw, .int kn, .int rk, .int (nI n2_44), .ref ry, .int sp, .int lg, .ref ti, .int fo, .int pt, .ref po, .ref su, .ref sq, .ref ch, .ref vt, .ref sh])), (vt, .inl (cI, 4, .inl w_42)), (ry, .inl (cI, 256, .inl f2_45))] := hD
            refine lv_iinc (lv' := [(12, .int (3 : Int32)), (2, .long (gcv (gcv v_1 v_4) (gcv v_30 (0 : Int64)))), (10, .long (0 : Int64)), (8, .long v_30), (6, .long v_4), (4, .long v_1), (0, .ref m0), (1, .int (nI x))]) (k := 0) (v := (3 : Int32)) hx hb d_M_across_147 hl rfl (by decide) (by decide) rfl (fun ls hl => ?_)
            refine lv_goto (tgt := 79) hx hb d_M_across_150 (by decide) ?_
            refine lv_iload hx hb d_M_across_79 (lv_at hl 0 rfl) ?_
            refine lv_iconst (v := (2 : Int32)) hx hb d_M_across_81 (by decide) ?_
            refine lv_icmp_ge (tgt := 153) hx hb d_M_across_82 (by decide) (fun _ => ?_) (fun h99 => absurd h99 (by decide))
            exact tx_mono (fun _ h => tx_Z.of h) (W.vret hx hb hr (fun t ht hW => ⟨⟨[(m0, .inr (7, [.int th, .int (nI zs), .int (nI rn), .ref rw, .int kn, .int rk, .int (nI n2_44), .ref ry, .int sp, .int lg, .ref ti, .int fo, .int pt, .ref po, .ref su, .ref sq, .ref ch, .ref vt, .ref sh])), (rw, .inl (cI, 32, .inl wf)), (ry, .inl (cI, 256, .inl f2_45)), (vt, .inl (cI, 4, .inl w_42)), (sq, .inl (cJ, 256, .inr (.inl q2_31)))], ⟨(v_1, v_4, v_30, (0 : Int64)), n2_44, f2_45, w_42, q2_31, rfl, mn4_3 f_3 f_6 f_32 h_7 h_33, acr_y ((lg_cmp_gt _ _).mp (Int32.not_le.mp h_34)) (hw_35 ▸ ast_y (hw_35 ▸ h_36) (hw_35 ▸ f_39) (hw_35 ▸ f_40)) (hw_42 ▸ ast_y (hw_42 ▸ h_43) (hw_42 ▸ f_46) (hw_42 ▸ f_47)), by omega, rfl⟩, by rw [ht]; exact hP.sub [2, 1, 4, 3, 0] rfl, hD.sub [2, 1, 4, 3, 0] (by decide) rfl⟩, hS.F ht⟩) hS.2.2 d_M_across_153)
          · refine cx_call (D := D) (cl := kl) (ws := _) (wc := [(m0, .inr (7, [.int th, .int (nI zs), .int (nI rn), .ref rw, .int kn, .int rk, .int (nI n2_37), .ref ry, .int sp, .int lg, .ref ti, .int fo, .int pt, .ref po, .ref su, .ref sq, .ref ch, .ref vt, .ref sh])), (rw, .inl (cI, 32, .inl wf)), (vt, .inl (cI, 4, .inl w_42))]) (wr := [(sq, .inl (cJ, 256, .inr (.inl q2_31))), (ry, .inl (cI, 256, .inl f2_38))]) (tx_runV (C := cn_M) (b := m0) (As := [.ref vt, .int (0 : Int32)]) (rest := []) hx hb hml hown (c_M_holdsAt_n E H.size m0 rw ry ti po su sq ch vt sh th (nI zs) kn rk (nI n2_37) sp lg fo pt rn wf vt 4 w_42 0 hr8 (by decide) (by decide) h_43) (cx_C (b0 := b0) G hx0 mw_836 mw_9 ny_M_holdsAt (by decide)) (gw.at G hx0 mw_833 rfl _) (gw.at G hx0 mw_835 rfl _) (gw.at G hx0 ms_M_holdsAt rfl _) ⟨cx_blind, va_recv hK hP (q0 := 3) (ci := 7) (q := (cn_M, ft_M, 19)) rfl rfl, (cx_pre (s := s) hx0 hP hD hS hA0 [3, 1, 4] rfl rfl (by decide))⟩ rfl rfl hl.1 rfl (lv_room (Nat.le_of_ble_eq_true rfl)) d_M_across_137 ⟨by decide, by decide⟩) hP hD hS hA [3, 1, 4] [0, 2] rfl rfl (by decide) (by decide) (fun v t w1 H locs ht hW9 hp hP hD hS => ?_) (fun x t w1 H locs ht hW9 hp hP hD hS => by obtain ⟨h9, -⟩ := hp; cases h9)
            obtain ⟨h9, rfl⟩ := hp
            cases h9
            refine W.eq (g2 := F0 m 140 ls [.int (0 : Int32)]) rfl ?_
            refine W.widen (k := 0) (n := 0) (by decide) (by decide) ?_
            have hP : va_P D kl [(sq, .inl (cJ, 256, .inr (.inl q2_31))), (ry, .inl (cI, 256, .inl f2_38)), (m0, .inr (7, [.int th, .int (nI zs), .int (nI rn), .ref rw, .int kn, .int rk, .int (nI n2_37), .ref ry, .int sp, .int lg, .ref ti, .int fo, .int pt, .ref po, .ref su, .ref sq, .ref ch, .ref vt, .ref sh])), (rw, .inl (cI, 32, .inl wf)), (vt, .inl (cI, 4, .inl w_42))] H := hP
            have hD : va_D A [(sq, .inl (cJ, 256, .inr (.inl q2_31))), (ry, .inl (cI, 256, .inl f2_38)), (m0, .inr (7, [.int th, .int (nI zs), .int (nI rn), .ref rw, .int kn, .int rk, .int (nI n2_37), .ref ry, .int sp, .int lg, .ref ti, .int fo, .int pt, .ref po, .ref su, .ref sq, .ref ch, .ref vt, .ref sh])), (rw, .inl (cI, 32, .inl wf)), (vt, .inl (cI, 4, .inl w_42))] := hD
            refine lv_if_eq (tgt := 147) hx hb d_M_across_140 (by decide) (fun _ => ?_) (fun h99 => absurd h99 (by decide))
            refine lv_iinc (lv' := [(12, .int (3 : Int32)), (2, .long (gcv (gcv v_1 v_4) (gcv v_30 (0 : Int64)))), (10, .long (0 : Int64)), (8, .long v_30), (6, .long v_4), (4, .long v_1), (0, .ref m0), (1, .int (nI x))]) (k := 0) (v := (3 : Int32)) hx hb d_M_across_147 hl rfl (by decide) (by decide) rfl (fun ls hl => ?_)
            refine lv_goto (tgt := 79) hx hb d_M_across_150 (by decide) ?_
            refine lv_iload hx hb d_M_across_79 (lv_at hl 0 rfl) ?_
            refine lv_iconst (v := (2 : Int32)) hx hb d_M_across_81 (by decide) ?_
            refine lv_icmp_ge (tgt := 153) hx hb d_M_across_82 (by decide) (fun _ => ?_) (fun h99 => absurd h99 (by decide))
            exact tx_mono (fun _ h => tx_Z.of h) (W.vret hx hb hr (fun t ht hW => ⟨⟨[(m0, .inr (7, [.int th, .int (nI zs), .int (nI rn), .ref rw, .int kn, .int rk, .int (nI n2_37), .ref ry, .int sp, .int lg, .ref ti, .int fo, .int pt, .ref po, .ref su, .ref sq, .ref ch, .ref vt, .ref sh])), (rw, .inl (cI, 32, .inl wf)), (ry, .inl (cI, 256, .inl f2_38)), (vt, .inl (cI, 4, .inl w_42)), (sq, .inl (cJ, 256, .inr (.inl q2_31)))], ⟨(v_1, v_4, v_30, (0 : Int64)), n2_37, f2_38, w_42, q2_31, rfl, mn4_3 f_3 f_6 f_32 h_7 h_33, acr_y ((lg_cmp_gt _ _).mp (Int32.not_le.mp h_34)) (hw_35 ▸ ast_y (hw_35 ▸ h_36) (hw_35 ▸ f_39) (hw_35 ▸ f_40)) (hw_42 ▸ ast_n (hw_42 ▸ h_43)), by omega, rfl⟩, by rw [ht]; exact hP.sub [2, 3, 1, 4, 0] rfl, hD.sub [2, 3, 1, 4, 0] (by decide) rfl⟩, hS.F ht⟩) hS.2.2 d_M_across_153)
        · refine cx_call (D := D) (cl := kl) (ws := _) (wc := [(m0, .inr (7, [.int th, .int (nI zs), .int (nI rn), .ref rw, .int kn, .int rk, .int (nI yn), .ref ry, .int sp, .int lg, .ref ti, .int fo, .int pt, .ref po, .ref su, .ref sq, .ref ch, .ref vt, .ref sh])), (rw, .inl (cI, 32, .inl wf)), (vt, .inl (cI, 4, .inl w_35))]) (wr := [(ry, .inl (cI, 256, .inl yf)), (sq, .inl (cJ, 256, .inr (.inl q2_31)))]) (tx_runV (C := cn_M) (b := m0) (As := [.ref vt, .int (0 : Int32)]) (rest := []) hx hb hml hown (c_M_holdsAt_n E H.size m0 rw ry ti po su sq ch vt sh th (nI zs) kn rk (nI yn) sp lg fo pt rn wf vt 4 w_35 0 hr8 (by decide) (by decide) h_36) (cx_C (b0 := b0) G hx0 mw_836 mw_9 ny_M_holdsAt (by decide)) (gw.at G hx0 mw_833 rfl _) (gw.at G hx0 mw_835 rfl _) (gw.at G hx0 ms_M_holdsAt rfl _) ⟨cx_blind, va_recv hK hP (q0 := 3) (ci := 7) (q := (cn_M, ft_M, 19)) rfl rfl, (cx_pre (s := s) hx0 hP hD hS hA0 [3, 1, 4] rfl rfl (by decide))⟩ rfl rfl hl.1 rfl (lv_room (Nat.le_of_ble_eq_true rfl)) d_M_across_137 ⟨by decide, by decide⟩) hP hD hS hA [3, 1, 4] [0, 2] rfl rfl (by decide) (by decide) (fun v t w1 H locs ht hW9 hp hP hD hS => ?_) (fun x t w1 H locs ht hW9 hp hP hD hS => by obtain ⟨h9, -⟩ := hp; cases h9)
          obtain ⟨h9, rfl⟩ := hp
          cases h9
          refine W.eq (g2 := F0 m 140 ls [.int (0 : Int32)]) rfl ?_
          refine W.widen (k := 0) (n := 0) (by decide) (by decide) ?_
          have hP : va_P D kl [(ry, .inl (cI, 256, .inl yf)), (sq, .inl (cJ, 256, .inr (.inl q2_31))), (m0, .inr (7, [.int th, .int (nI zs), .int (nI rn), .ref rw, .int kn, .int rk, .int (nI yn), .ref ry, .int sp, .int lg, .ref ti, .int fo, .int pt, .ref po, .ref su, .ref sq, .ref ch, .ref vt, .ref sh])), (rw, .inl (cI, 32, .inl wf)), (vt, .inl (cI, 4, .inl w_35))] H := hP
          have hD : va_D A [(ry, .inl (cI, 256, .inl yf)), (sq, .inl (cJ, 256, .inr (.inl q2_31))), (m0, .inr (7, [.int th, .int (nI zs), .int (nI rn), .ref rw, .int kn, .int rk, .int (nI yn), .ref ry, .int sp, .int lg, .ref ti, .int fo, .int pt, .ref po, .ref su, .ref sq, .ref ch, .ref vt, .ref sh])), (rw, .inl (cI, 32, .inl wf)), (vt, .inl (cI, 4, .inl w_35))] := hD
          refine lv_if_eq (tgt := 147) hx hb d_M_across_140 (by decide) (fun _ => ?_) (fun h99 => absurd h99 (by decide))
          refine lv_iinc (lv' := [(12, .int (1 : Int32)), (2, .long (gcv (gcv v_1 v_4) (gcv v_30 (0 : Int64)))), (10, .long (0 : Int64)), (8, .long v_30), (6, .long v_4), (4, .long v_1), (0, .ref m0), (1, .int (nI x))]) (k := 0) (v := (1 : Int32)) hx hb d_M_across_147 hl rfl (by decide) (by decide) rfl (fun ls hl => ?_)
          refine lv_goto (tgt := 79) hx hb d_M_across_150 (by decide) ?_
          refine lv_iload hx hb d_M_across_79 (lv_at hl 0 rfl) ?_
          refine lv_iconst (v := (2 : Int32)) hx hb d_M_across_81 (by decide) ?_
          refine lv_icmp_ge (tgt := 153) hx hb d_M_across_82 (by decide) (fun h99 => absurd h99 (by decide)) (fun _ => ?_)
          refine lv_lload_n hx hb d_M_across_85 rfl (lv_at hl 1 rfl) ?_
          refine lv_lconst (v := (0 : Int64)) hx hb d_M_across_86 (by decide) ?_
          refine W.lcmp hx hb d_M_across_87 ?_
          refine lv_if_le (tgt := 153) hx hb d_M_across_88 (by decide) (fun h99 => absurd h99 (by first | assumption | exact Int32.not_le.mpr (by assumption) | exact Int32.not_lt.mpr (by assumption) | exact Int32.not_le.mp (by assumption) | exact Int32.not_lt.mp (by assumption))) (fun _ => ?_)
          refine lv_aload_n hx hb d_M_across_91 rfl (lv_at hl 6 rfl) ?_
          refine lv_iload hx hb d_M_across_92 (lv_at hl 0 rfl) ?_
          refine lv_i2l (v := (1 : Int64)) hx hb d_M_across_94 (by decide) ?_
          refine lv_lload hx hb d_M_across_95 (lv_at hl 5 rfl) ?_
          refine lv_lmul hx hb d_M_across_97 ?_
          refine lv_lload_n hx hb d_M_across_98 rfl (lv_at hl 1 rfl) ?_
          refine lv_ldiv hx hb d_M_across_99 (fun z9 => by have z8 := h_34; rw [z9] at z8; exact z8 (by decide)) ?_
          refine lv_l2i (v := (((1 : Int64) * v_1) / (gcv (gcv v_1 v_4) (gcv v_30 (0 : Int64)))).toInt32) hx hb d_M_across_100 rfl ?_
          refine lv_iload hx hb d_M_across_101 (lv_at hl 0 rfl) ?_
          refine lv_i2l (v := (1 : Int64)) hx hb d_M_across_103 (by decide) ?_
          refine lv_lload hx hb d_M_across_104 (lv_at hl 4 rfl) ?_
          refine lv_lmul hx hb d_M_across_106 ?_
          refine lv_lload_n hx hb d_M_across_107 rfl (lv_at hl 1 rfl) ?_
          refine lv_ldiv hx hb d_M_across_108 (fun z9 => by have z8 := h_34; rw [z9] at z8; exact z8 (by decide)) ?_
          refine lv_l2i (v := (((1 : Int64) * v_4) / (gcv (gcv v_1 v_4) (gcv v_30 (0 : Int64)))).toInt32) hx hb d_M_across_109 rfl ?_
          refine lv_iload hx hb d_M_across_110 (lv_at hl 0 rfl) ?_
          refine lv_i2l (v := (1 : Int64)) hx hb d_M_across_112 (by decide) ?_
          refine lv_lload hx hb d_M_across_113 (lv_at hl 3 rfl) ?_
          refine lv_lmul hx hb d_M_across_115 ?_
          refine lv_lload_n hx hb d_M_across_116 rfl (lv_at hl 1 rfl) ?_
          refine lv_ldiv hx hb d_M_across_117 (fun z9 => by have z8 := h_34; rw [z9] at z8; exact z8 (by decide)) ?_
          refine lv_l2i (v := (((1 : Int64) * v_30) / (gcv (gcv v_1 v_4) (gcv v_30 (0 : Int64)))).toInt32) hx hb d_M_across_118 rfl ?_
          refine lv_iload hx hb d_M_across_119 (lv_at hl 0 rfl) ?_
          refine lv_i2l (v := (1 : Int64)) hx hb d_M_across_121 (by decide) ?_
          refine lv_lload hx hb d_M_across_122 (lv_at hl 2 rfl) ?_
          refine lv_lmul hx hb d_M_across_124 ?_
          refine tp_l (y := (0 : Int64)) (by decide) ?_
          refine lv_lload_n hx hb d_M_across_125 rfl (lv_at hl 1 rfl) ?_
          refine lv_ldiv hx hb d_M_across_126 (fun z9 => by have z8 := h_34; rw [z9] at z8; exact z8 (by decide)) ?_
          refine lv_l2i (v := ((0 : Int64) / (gcv (gcv v_1 v_4) (gcv v_30 (0 : Int64)))).toInt32) hx hb d_M_across_127 rfl ?_
          refine cx_call (D := D) (cl := kl) (ws := _) (wc := [(m0, .inr (7, [.int th, .int (nI zs), .int (nI rn), .ref rw, .int kn, .int rk, .int (nI yn), .ref ry, .int sp, .int lg, .ref ti, .int fo, .int pt, .ref po, .ref su, .ref sq, .ref ch, .ref vt, .ref sh])), (vt, .inl (cI, 4, .inl w_35))]) (wr := [(ry, .inl (cI, 256, .inl yf)), (sq, .inl (cJ, 256, .inr (.inl q2_31))), (rw, .inl (cI, 32, .inl wf))]) (tx_runV (C := cn_M) (b := m0) (As := [.int ((((1 : Int64) * v_1) / (gcv (gcv v_1 v_4) (gcv v_30 (0 : Int64)))).toInt32), .int ((((1 : Int64) * v_4) / (gcv (gcv v_1 v_4) (gcv v_30 (0 : Int64)))).toInt32), .int ((((1 : Int64) * v_30) / (gcv (gcv v_1 v_4) (gcv v_30 (0 : Int64)))).toInt32), .int (((0 : Int64) / (gcv (gcv v_1 v_4) (gcv v_30 (0 : Int64)))).toInt32)]) (rest := []) hx hb hml hown (c_M_set E H.size m0 rw ry ti po su sq ch vt sh th (nI zs) (nI rn) kn rk (nI yn) sp lg fo pt ((((1 : Int64) * v_1) / (gcv (gcv v_1 v_4) (gcv v_30 (0 : Int64)))).toInt32) ((((1 : Int64) * v_4) / (gcv (gcv v_1 v_4) (gcv v_30 (0 : Int64)))).toInt32) ((((1 : Int64) * v_30) / (gcv (gcv v_1 v_4) (gcv v_30 (0 : Int64)))).toInt32) (((0 : Int64) / (gcv (gcv v_1 v_4) (gcv v_30 (0 : Int64)))).toInt32) w_35 ) (cx_C (b0 := b0) G hx0 mw_783 mw_9 ny_M_set (by decide)) (gw.at G hx0 mw_780 rfl _) (gw.at G hx0 mw_782 rfl _) (gw.at G hx0 ms_M_set rfl _) ⟨cx_blind, va_recv hK hP (q0 := 2) (ci := 7) (q := (cn_M, ft_M, 19)) rfl rfl, (cx_pre (s := s) hx0 hP hD hS hA0 [2, 4] rfl rfl (by decide))⟩ rfl rfl hl.1 rfl (lv_room (Nat.le_of_ble_eq_true rfl)) d_M_across_128 ⟨by decide, by decide⟩) hP hD hS hA [2, 4] [0, 1, 3] rfl rfl (by decide) (by decide) (fun v t w1 H locs ht hW9 hp hP hD hS => ?_) (fun x t w1 H locs ht hW9 hp hP hD hS => by obtain ⟨h9, -⟩ := hp; cases h9)
          obtain ⟨h9, rfl⟩ := hp
          cases h9
          refine W.eq (g2 := F0 m 131 ls []) rfl ?_
          refine W.widen (k := 0) (n := 0) (by decide) (by decide) ?_
          have hP : va_P D kl [(ry, .inl (cI, 256, .inl yf)), (sq, .inl (cJ, 256, .inr (.inl q2_31))), (rw, .inl (cI, 32, .inl wf)), (m0, .inr (7, [.int th, .int (nI zs), .int (nI rn), .ref rw, .int kn, .int rk, .int (nI yn), .ref ry, .int sp, .int lg, .ref ti, .int fo, .int pt, .ref po, .ref su, .ref sq, .ref ch, .ref vt, .ref sh])), (vt, .inl (cI, 4, .inl (upd (upd (upd (upd w_35 0 ((((1 : Int64) * v_1) / (gcv (gcv v_1 v_4) (gcv v_30 (0 : Int64)))).toInt32)) 1 ((((1 : Int64) * v_4) / (gcv (gcv v_1 v_4) (gcv v_30 (0 : Int64)))).toInt32)) 2 (tk_c (nI zs) ((((1 : Int64) * v_30) / (gcv (gcv v_1 v_4) (gcv v_30 (0 : Int64)))).toInt32))) 3 (tk_d (nI zs) (((0 : Int64) / (gcv (gcv v_1 v_4) (gcv v_30 (0 : Int64)))).toInt32)))))] H := hP
          have hD : va_D A [(ry, .inl (cI, 256, .inl yf)), (sq, .inl (cJ, 256, .inr (.inl q2_31))), (rw, .inl (cI, 32, .inl wf)), (m0, .inr (7, [.int th, .int (nI zs), .int (nI rn), .ref rw, .int kn, .int rk, .int (nI yn), .ref ry, .int sp, .int lg, .ref ti, .int fo, .int pt, .ref po, .ref su, .ref sq, .ref ch, .ref vt, .ref sh])), (vt, .inl (cI, 4, .inl (upd (upd (upd (upd w_35 0 ((((1 : Int64) * v_1) / (gcv (gcv v_1 v_4) (gcv v_30 (0 : Int64)))).toInt32)) 1 ((((1 : Int64) * v_4) / (gcv (gcv v_1 v_4) (gcv v_30 (0 : Int64)))).toInt32)) 2 (tk_c (nI zs) ((((1 : Int64) * v_30) / (gcv (gcv v_1 v_4) (gcv v_30 (0 : Int64)))).toInt32))) 3 (tk_d (nI zs) (((0 : Int64) / (gcv (gcv v_1 v_4) (gcv v_30 (0 : Int64)))).toInt32)))))] := hD
          obtain ⟨w_49, hw_49⟩ : ∃ z9 : Nat → Int32, z9 = vcs zs w_35 (1 : Int64) (gc4 (v_1, v_4, v_30, (0 : Int64))) (v_1, v_4, v_30, (0 : Int64)) := ⟨_, rfl⟩
          rw [show upd (upd (upd (upd w_35 0 ((((1 : Int64) * v_1) / (gcv (gcv v_1 v_4) (gcv v_30 (0 : Int64)))).toInt32)) 1 ((((1 : Int64) * v_4) / (gcv (gcv v_1 v_4) (gcv v_30 (0 : Int64)))).toInt32)) 2 (tk_c (nI zs) ((((1 : Int64) * v_30) / (gcv (gcv v_1 v_4) (gcv v_30 (0 : Int64)))).toInt32))) 3 (tk_d (nI zs) (((0 : Int64) / (gcv (gcv v_1 v_4) (gcv v_30 (0 : Int64)))).toInt32)) = w_49 from hw_49.symm] at hP hD
          have hP : va_P D kl [(ry, .inl (cI, 256, .inl yf)), (sq, .inl (cJ, 256, .inr (.inl q2_31))), (rw, .inl (cI, 32, .inl wf)), (m0, .inr (7, [.int th, .int (nI zs), .int (nI rn), .ref rw, .int kn, .int rk, .int (nI yn), .ref ry, .int sp, .int lg, .ref ti, .int fo, .int pt, .ref po, .ref su, .ref sq, .ref ch, .ref vt, .ref sh])), (vt, .inl (cI, 4, .inl w_49))] H := hP
          have hD : va_D A [(ry, .inl (cI, 256, .inl yf)), (sq, .inl (cJ, 256, .inr (.inl q2_31))), (rw, .inl (cI, 32, .inl wf)), (m0, .inr (7, [.int th, .int (nI zs), .int (nI rn), .ref rw, .int kn, .int rk, .int (nI yn), .ref ry, .int sp, .int lg, .ref ti, .int fo, .int pt, .ref po, .ref su, .ref sq, .ref ch, .ref vt, .ref sh])), (vt, .inl (cI, 4, .inl w_49))] := hD
          refine lv_aload_n hx hb d_M_across_131 rfl (lv_at hl 6 rfl) ?_
          refine lv_aload_n hx hb d_M_across_132 rfl (lv_at hl 6 rfl) ?_
          refine va_get (D := D) (ci := 7) (v := .ref vt) (C := cn_M) (T := ft_M) (N := 19) hx hb hf_M (fun _ h => h) hown hK hP 3 rfl rfl 17 (by decide) (gw.at G hx0 mw_730 rfl _) (fun _ h9 => h9) rfl d_M_across_133 ?_
          refine lv_iconst (v := (0 : Int32)) hx hb d_M_across_136 (by decide) ?_
          by_cases h_50 : hld wf rn (w_49) 0
          · refine cx_call (D := D) (cl := kl) (ws := _) (wc := [(m0, .inr (7, [.int th, .int (nI zs), .int (nI rn), .ref rw, .int kn, .int rk, .int (nI yn), .ref ry, .int sp, .int lg, .ref ti, .int fo, .int pt, .ref po, .ref su, .ref sq, .ref ch, .ref vt, .ref sh])), (rw, .inl (cI, 32, .inl wf)), (vt, .inl (cI, 4, .inl w_49))]) (wr := [(ry, .inl (cI, 256, .inl yf)), (sq, .inl (cJ, 256, .inr (.inl q2_31)))]) (tx_runV (C := cn_M) (b := m0) (As := [.ref vt, .int (0 : Int32)]) (rest := []) hx hb hml hown (c_M_holdsAt_y E H.size m0 rw ry ti po su sq ch vt sh th (nI zs) kn rk (nI yn) sp lg fo pt rn wf vt 4 w_49 0 hr8 (by decide) (by decide) h_50) (cx_C (b0 := b0) G hx0 mw_836 mw_9 ny_M_holdsAt (by decide)) (gw.at G hx0 mw_833 rfl _) (gw.at G hx0 mw_835 rfl _) (gw.at G hx0 ms_M_holdsAt rfl _) ⟨cx_blind, va_recv hK hP (q0 := 3) (ci := 7) (q := (cn_M, ft_M, 19)) rfl rfl, (cx_pre (s := s) hx0 hP hD hS hA0 [3, 2, 4] rfl rfl (by decide))⟩ rfl rfl hl.1 rfl (lv_room (Nat.le_of_ble_eq_true rfl)) d_M_across_137 ⟨by decide, by decide⟩) hP hD hS hA [3, 2, 4] [0, 1] rfl rfl (by decide) (by decide) (fun v t w1 H locs ht hW9 hp hP hD hS => ?_) (fun x t w1 H locs ht hW9 hp hP hD hS => by obtain ⟨h9, -⟩ := hp; cases h9)
            obtain ⟨h9, rfl⟩ := hp
            cases h9
            refine W.eq (g2 := F0 m 140 ls [.int (1 : Int32)]) rfl ?_
            refine W.widen (k := 0) (n := 0) (by decide) (by decide) ?_
            have hP : va_P D kl [(ry, .inl (cI, 256, .inl yf)), (sq, .inl (cJ, 256, .inr (.inl q2_31))), (m0, .inr (7, [.int th, .int (nI zs), .int (nI rn), .ref rw, .int kn, .int rk, .int (nI yn), .ref ry, .int sp, .int lg, .ref ti, .int fo, .int pt, .ref po, .ref su, .ref sq, .ref ch, .ref vt, .ref sh])), (rw, .inl (cI, 32, .inl wf)), (vt, .inl (cI, 4, .inl w_49))] H := hP
            have hD : va_D A [(ry, .inl (cI, 256, .inl yf)), (sq, .inl (cJ, 256, .inr (.inl q2_31))), (m0, .inr (7, [.int th, .int (nI zs), .int (nI rn), .ref rw, .int kn, .int rk, .int (nI yn), .ref ry, .int sp, .int lg, .ref ti, .int fo, .int pt, .ref po, .ref su, .ref sq, .ref ch, .ref vt, .ref sh])), (rw, .inl (cI, 32, .inl wf)), (vt, .inl (cI, 4, .inl w_49))] := hD
            refine lv_if_eq (tgt := 147) hx hb d_M_across_140 (by decide) (fun h99 => absurd h99 (by decide)) (fun _ => ?_)
            refine lv_aload_n hx hb d_M_across_143 rfl (lv_at hl 6 rfl) ?_
            refine cx_call (D := D) (cl := kl) (ws := _) (wc := [(m0, .inr (7, [.int th, .int (nI zs), .int (nI rn), .ref rw, .int kn, .int rk, .int (nI yn), .ref ry, .int sp, .int lg, .ref ti, .int fo, .int pt, .ref po, .ref su, .ref sq, .ref ch, .ref vt, .ref sh])), (vt, .inl (cI, 4, .inl w_49)), (ry, .inl (cI, 256, .inl yf))]) (wr := [(sq, .inl (cJ, 256, .inr (.inl q2_31))), (rw, .inl (cI, 32, .inl wf))]) (tx_runV (C := cn_M) (b := m0) (As := []) (rest := []) hx hb hml hown (c_M_keepRay E H.size m0 rw ry ti po su sq ch vt sh th (nI zs) (nI rn) kn rk sp lg fo pt yn w_49 yf (by omega)) (cx_C (b0 := b0) G hx0 mw_844 mw_9 ny_M_keepRay (by decide)) (gw.at G hx0 mw_841 rfl _) (gw.at G hx0 mw_843 rfl _) (gw.at G hx0 ms_M_keepRay rfl _) ⟨cx_blind, va_recv hK hP (q0 := 2) (ci := 7) (q := (cn_M, ft_M, 19)) rfl rfl, (cx_pre (s := s) hx0 hP hD hS hA0 [2, 4, 0] rfl rfl (by decide))⟩ rfl rfl hl.1 rfl (lv_room (Nat.le_of_ble_eq_true rfl)) d_M_across_144 ⟨by decide, by decide⟩) hP hD hS hA [2, 4, 0] [1, 3] rfl rfl (by decide) (by decide) (fun v t w1 H locs ht hW9 hp hP hD hS => ?_) (fun x t w1 H locs ht hW9 hp hP hD hS => by obtain ⟨_, _, h9, -⟩ := hp; cases h9)
            obtain ⟨n2_51, f2_52, h9, f_53, f_54, f_55, rfl⟩ := hp
            cases h9
            refine W.eq (g2 := F0 m 147 ls []) rfl ?_
            refine W.widen (k := 0) (n := 0) (by decide) (by decide) ?_
            have hP : va_P D kl [(sq, .inl (cJ, 256, .inr (.inl q2_31))), (rw, .inl (cI, 32, .inl wf)), (m0, .inr (7, [.int th, .int (nI zs), .int (nI rn), .ref rw, .int kn, .int rk, .int (nI n2_51), .ref ry, .int sp, .int lg, .ref ti, .int fo, .int pt, .ref po, .ref su, .ref sq, .ref ch, .ref vt, .ref sh])), (vt, .inl (cI, 4, .inl w_49)), (ry, .inl (cI, 256, .inl f2_52))] H := hP
            have hD : va_D A [(sq, .inl (cJ, 256, .inr (.inl q2_31))), (rw, .inl (cI, 32, .inl wf)), (m0, .inr (7, [.int th, .int (nI zs), .int (nI rn), .ref rw, .int kn, .int rk, .int (nI n2_51), .ref ry, .int sp, .int lg, .ref ti, .int fo, .int pt, .ref po, .ref su, .ref sq, .ref ch, .ref vt, .ref sh])), (vt, .inl (cI, 4, .inl w_49)), (ry, .inl (cI, 256, .inl f2_52))] := hD
            refine lv_iinc (lv' := [(12, .int (3 : Int32)), (2, .long (gcv (gcv v_1 v_4) (gcv v_30 (0 : Int64)))), (10, .long (0 : Int64)), (8, .long v_30), (6, .long v_4), (4, .long v_1), (0, .ref m0), (1, .int (nI x))]) (k := 0) (v := (3 : Int32)) hx hb d_M_across_147 hl rfl (by decide) (by decide) rfl (fun ls hl => ?_)
            refine lv_goto (tgt := 79) hx hb d_M_across_150 (by decide) ?_
            refine lv_iload hx hb d_M_across_79 (lv_at hl 0 rfl) ?_
            refine lv_iconst (v := (2 : Int32)) hx hb d_M_across_81 (by decide) ?_
            refine lv_icmp_ge (tgt := 153) hx hb d_M_across_82 (by decide) (fun _ => ?_) (fun h99 => absurd h99 (by decide))
            exact tx_mono (fun _ h => tx_Z.of h) (W.vret hx hb hr (fun t ht hW => ⟨⟨[(m0, .inr (7, [.int th, .int (nI zs), .int (nI rn), .ref rw, .int kn, .int rk, .int (nI n2_51), .ref ry, .int sp, .int lg, .ref ti, .int fo, .int pt, .ref po, .ref su, .ref sq, .ref ch, .ref vt, .ref sh])), (rw, .inl (cI, 32, .inl wf)), (ry, .inl (cI, 256, .inl f2_52)), (vt, .inl (cI, 4, .inl w_49)), (sq, .inl (cJ, 256, .inr (.inl q2_31)))], ⟨(v_1, v_4, v_30, (0 : Int64)), n2_51, f2_52, w_49, q2_31, rfl, mn4_3 f_3 f_6 f_32 h_7 h_33, acr_y ((lg_cmp_gt _ _).mp (Int32.not_le.mp h_34)) (hw_35 ▸ ast_n (hw_35 ▸ h_36)) (hw_49 ▸ ast_y (hw_49 ▸ h_50) (hw_49 ▸ f_53) (hw_49 ▸ f_54)), by omega, rfl⟩, by rw [ht]; exact hP.sub [2, 1, 4, 3, 0] rfl, hD.sub [2, 1, 4, 3, 0] (by decide) rfl⟩, hS.F ht⟩) hS.2.2 d_M_across_153)
          · refine cx_call (D := D) (cl := kl) (ws := _) (wc := [(m0, .inr (7, [.int th, .int (nI zs), .int (nI rn), .ref rw, .int kn, .int rk, .int (nI yn), .ref ry, .int sp, .int lg, .ref ti, .int fo, .int pt, .ref po, .ref su, .ref sq, .ref ch, .ref vt, .ref sh])), (rw, .inl (cI, 32, .inl wf)), (vt, .inl (cI, 4, .inl w_49))]) (wr := [(ry, .inl (cI, 256, .inl yf)), (sq, .inl (cJ, 256, .inr (.inl q2_31)))]) (tx_runV (C := cn_M) (b := m0) (As := [.ref vt, .int (0 : Int32)]) (rest := []) hx hb hml hown (c_M_holdsAt_n E H.size m0 rw ry ti po su sq ch vt sh th (nI zs) kn rk (nI yn) sp lg fo pt rn wf vt 4 w_49 0 hr8 (by decide) (by decide) h_50) (cx_C (b0 := b0) G hx0 mw_836 mw_9 ny_M_holdsAt (by decide)) (gw.at G hx0 mw_833 rfl _) (gw.at G hx0 mw_835 rfl _) (gw.at G hx0 ms_M_holdsAt rfl _) ⟨cx_blind, va_recv hK hP (q0 := 3) (ci := 7) (q := (cn_M, ft_M, 19)) rfl rfl, (cx_pre (s := s) hx0 hP hD hS hA0 [3, 2, 4] rfl rfl (by decide))⟩ rfl rfl hl.1 rfl (lv_room (Nat.le_of_ble_eq_true rfl)) d_M_across_137 ⟨by decide, by decide⟩) hP hD hS hA [3, 2, 4] [0, 1] rfl rfl (by decide) (by decide) (fun v t w1 H locs ht hW9 hp hP hD hS => ?_) (fun x t w1 H locs ht hW9 hp hP hD hS => by obtain ⟨h9, -⟩ := hp; cases h9)
            obtain ⟨h9, rfl⟩ := hp
            cases h9
            refine W.eq (g2 := F0 m 140 ls [.int (0 : Int32)]) rfl ?_
            refine W.widen (k := 0) (n := 0) (by decide) (by decide) ?_
            have hP : va_P D kl [(ry, .inl (cI, 256, .inl yf)), (sq, .inl (cJ, 256, .inr (.inl q2_31))), (m0, .inr (7, [.int th, .int (nI zs), .int (nI rn), .ref rw, .int kn, .int rk, .int (nI yn), .ref ry, .int sp, .int lg, .ref ti, .int fo, .int pt, .ref po, .ref su, .ref sq, .ref ch, .ref vt, .ref sh])), (rw, .inl (cI, 32, .inl wf)), (vt, .inl (cI, 4, .inl w_49))] H := hP
            have hD : va_D A [(ry, .inl (cI, 256, .inl yf)), (sq, .inl (cJ, 256, .inr (.inl q2_31))), (m0, .inr (7, [.int th, .int (nI zs), .int (nI rn), .ref rw, .int kn, .int rk, .int (nI yn), .ref ry, .int sp, .int lg, .ref ti, .int fo, .int pt, .ref po, .ref su, .ref sq, .ref ch, .ref vt, .ref sh])), (rw, .inl (cI, 32, .inl wf)), (vt, .inl (cI, 4, .inl w_49))] := hD
            refine lv_if_eq (tgt := 147) hx hb d_M_across_140 (by decide) (fun _ => ?_) (fun h99 => absurd h99 (by decide))
            refine lv_iinc (lv' := [(12, .int (3 : Int32)), (2, .long (gcv (gcv v_1 v_4) (gcv v_30 (0 : Int64)))), (10, .long (0 : Int64)), (8, .long v_30), (6, .long v_4), (4, .long v_1), (0, .ref m0), (1, .int (nI x))]) (k := 0) (v := (3 : Int32)) hx hb d_M_across_147 hl rfl (by decide) (by decide) rfl (fun ls hl => ?_)
            refine lv_goto (tgt := 79) hx hb d_M_across_150 (by decide) ?_
            refine lv_iload hx hb d_M_across_79 (lv_at hl 0 rfl) ?_
            refine lv_iconst (v := (2 : Int32)) hx hb d_M_across_81 (by decide) ?_
            refine lv_icmp_ge (tgt := 153) hx hb d_M_across_82 (by decide) (fun _ => ?_) (fun h99 => absurd h99 (by decide))
            exact tx_mono (fun _ h => tx_Z.of h) (W.vret hx hb hr (fun t ht hW => ⟨⟨[(m0, .inr (7, [.int th, .int (nI zs), .int (nI rn), .ref rw, .int kn, .int rk, .int (nI yn), .ref ry, .int sp, .int lg, .ref ti, .int fo, .int pt, .ref po, .ref su, .ref sq, .ref ch, .ref vt, .ref sh])), (rw, .inl (cI, 32, .inl wf)), (ry, .inl (cI, 256, .inl yf)), (vt, .inl (cI, 4, .inl w_49)), (sq, .inl (cJ, 256, .inr (.inl q2_31)))], ⟨(v_1, v_4, v_30, (0 : Int64)), yn, yf, w_49, q2_31, rfl, mn4_3 f_3 f_6 f_32 h_7 h_33, acr_y ((lg_cmp_gt _ _).mp (Int32.not_le.mp h_34)) (hw_35 ▸ ast_n (hw_35 ▸ h_36)) (hw_49 ▸ ast_n (hw_49 ▸ h_50)), by omega, rfl⟩, by rw [ht]; exact hP.sub [2, 3, 0, 4, 1] rfl, hD.sub [2, 3, 0, 4, 1] (by decide) rfl⟩, hS.F ht⟩) hS.2.2 d_M_across_153)
    · have h_33 : ¬ (zs ≤ 3) := fun z99 => h_33 ((nI_leI (a := zs) (b := 3) (by omega) (by omega)).mpr z99)
      refine lv_aload_n hx hb d_M_across_46 rfl (lv_at hl 4 rfl) ?_
      refine lv_iload_n hx hb d_M_across_47 rfl (lv_at hl 5 rfl) ?_
      refine lv_iconst (v := (3 : Int32)) hx hb d_M_across_48 (by decide) ?_
      refine cx_call (D := D) (cl := kl) (ws := _) (wc := [(m0, .inr (7, [.int th, .int (nI zs), .int (nI rn), .ref rw, .int kn, .int rk, .int (nI yn), .ref ry, .int sp, .int lg, .ref ti, .int fo, .int pt, .ref po, .ref su, .ref sq, .ref ch, .ref vt, .ref sh])), (rw, .inl (cI, 32, .inl wf)), (sq, .inl (cJ, 256, .inr (.inl q2_31)))]) (wr := [(ry, .inl (cI, 256, .inl yf)), (vt, .inl (cI, 4, .inl vf))]) (tx_runV (C := cn_M) (b := m0) (As := [.int (nI x), .int (3 : Int32)]) (rest := []) hx hb hml hown (c_M_minor3 E H.size m0 rw ry ti po su sq ch vt sh th kn rk (nI yn) sp lg fo pt zs rn wf q2_31 x hz2 hz4 hr8 hx8) (cx_C (b0 := b0) G hx0 mw_828 mw_9 ny_M_minor (by decide)) (gw.at G hx0 mw_825 rfl _) (gw.at G hx0 mw_827 rfl _) (gw.at G hx0 ms_M_minor rfl _) ⟨cx_blind, va_recv hK hP (q0 := 2) (ci := 7) (q := (cn_M, ft_M, 19)) rfl rfl, (cx_pre (s := s) hx0 hP hD hS hA0 [2, 3, 4] rfl rfl (by decide))⟩ rfl rfl hl.1 rfl (lv_room (Nat.le_of_ble_eq_true rfl)) d_M_across_49 ⟨by decide, by decide⟩) hP hD hS hA [2, 3, 4] [0, 1] rfl rfl (by decide) (by decide) (fun v t w1 H locs ht hW9 hp hP hD hS => ?_) (fun x t w1 H locs ht hW9 hp hP hD hS => by obtain ⟨_, _, h9, -⟩ := hp; cases h9)
      obtain ⟨v_56, q2_57, h9, f_58, rfl⟩ := hp
      cases h9
      refine W.eq (g2 := F0 m 52 ls [.long v_56]) rfl ?_
      refine W.widen (k := 0) (n := 0) (by decide) (by decide) ?_
      have hP : va_P D kl [(ry, .inl (cI, 256, .inl yf)), (vt, .inl (cI, 4, .inl vf)), (m0, .inr (7, [.int th, .int (nI zs), .int (nI rn), .ref rw, .int kn, .int rk, .int (nI yn), .ref ry, .int sp, .int lg, .ref ti, .int fo, .int pt, .ref po, .ref su, .ref sq, .ref ch, .ref vt, .ref sh])), (rw, .inl (cI, 32, .inl wf)), (sq, .inl (cJ, 256, .inr (.inl q2_57)))] H := hP
      have hD : va_D A [(ry, .inl (cI, 256, .inl yf)), (vt, .inl (cI, 4, .inl vf)), (m0, .inr (7, [.int th, .int (nI zs), .int (nI rn), .ref rw, .int kn, .int rk, .int (nI yn), .ref ry, .int sp, .int lg, .ref ti, .int fo, .int pt, .ref po, .ref su, .ref sq, .ref ch, .ref vt, .ref sh])), (rw, .inl (cI, 32, .inl wf)), (sq, .inl (cJ, 256, .inr (.inl q2_57)))] := hD
      refine lv_goto (tgt := 56) hx hb d_M_across_52 (by decide) ?_
      refine lv_lstore (lv' := [(10, .long v_56), (8, .long v_30), (6, .long v_4), (4, .long v_1), (2, .long (0 : Int64)), (0, .ref m0), (1, .int (nI x))]) hx hb d_M_across_56 hl (by decide) rfl (fun ls hl => ?_)
      refine lv_lload hx hb d_M_across_58 (lv_at hl 3 rfl) ?_
      refine lv_lload hx hb d_M_across_60 (lv_at hl 2 rfl) ?_
      refine cx_call (D := D) (cl := kl) (ws := _) (wc := []) (wr := [(ry, .inl (cI, 256, .inl yf)), (vt, .inl (cI, 4, .inl vf)), (m0, .inr (7, [.int th, .int (nI zs), .int (nI rn), .ref rw, .int kn, .int rk, .int (nI yn), .ref ry, .int sp, .int lg, .ref ti, .int fo, .int pt, .ref po, .ref su, .ref sq, .ref ch, .ref vt, .ref sh])), (rw, .inl (cI, 32, .inl wf)), (sq, .inl (cJ, 256, .inr (.inl q2_57)))]) (tx_runS (As := [.long v_1, .long v_4]) (rest := []) hx hb hml hown (c_M_gcd E H.size v_1 v_4 ) (cx_C (b0 := b0) G hx0 mw_817 mw_9 ny_M_gcd (by decide)) (gw.at G hx0 mw_815 rfl _) (gw.at G hx0 mw_816 rfl _) (gw.at G hx0 mw_9 rfl _) ⟨cx_blind, (cx_pre (s := s) hx0 hP hD hS hA0 [] rfl rfl (by decide))⟩ rfl rfl hl.1 rfl (lv_room (Nat.le_of_ble_eq_true rfl)) d_M_across_62 ⟨by decide, by decide⟩) hP hD hS hA [] [0, 1, 2, 3, 4] rfl rfl (by decide) (by decide) (fun v t w1 H locs ht hW9 hp hP hD hS => ?_) (fun x t w1 H locs ht hW9 hp hP hD hS => by obtain ⟨h9, -⟩ := hp; cases h9)
      obtain ⟨h9, rfl⟩ := hp
      cases h9
      refine W.eq (g2 := F0 m 65 ls [.long (gcv v_1 v_4)]) rfl ?_
      refine W.widen (k := 0) (n := 0) (by decide) (by decide) ?_
      have hP : va_P D kl [(ry, .inl (cI, 256, .inl yf)), (vt, .inl (cI, 4, .inl vf)), (m0, .inr (7, [.int th, .int (nI zs), .int (nI rn), .ref rw, .int kn, .int rk, .int (nI yn), .ref ry, .int sp, .int lg, .ref ti, .int fo, .int pt, .ref po, .ref su, .ref sq, .ref ch, .ref vt, .ref sh])), (rw, .inl (cI, 32, .inl wf)), (sq, .inl (cJ, 256, .inr (.inl q2_57)))] H := hP
      have hD : va_D A [(ry, .inl (cI, 256, .inl yf)), (vt, .inl (cI, 4, .inl vf)), (m0, .inr (7, [.int th, .int (nI zs), .int (nI rn), .ref rw, .int kn, .int rk, .int (nI yn), .ref ry, .int sp, .int lg, .ref ti, .int fo, .int pt, .ref po, .ref su, .ref sq, .ref ch, .ref vt, .ref sh])), (rw, .inl (cI, 32, .inl wf)), (sq, .inl (cJ, 256, .inr (.inl q2_57)))] := hD
      refine lv_lload hx hb d_M_across_65 (lv_at hl 1 rfl) ?_
      refine lv_lload hx hb d_M_across_67 (lv_at hl 0 rfl) ?_
      refine cx_call (D := D) (cl := kl) (ws := _) (wc := []) (wr := [(ry, .inl (cI, 256, .inl yf)), (vt, .inl (cI, 4, .inl vf)), (m0, .inr (7, [.int th, .int (nI zs), .int (nI rn), .ref rw, .int kn, .int rk, .int (nI yn), .ref ry, .int sp, .int lg, .ref ti, .int fo, .int pt, .ref po, .ref su, .ref sq, .ref ch, .ref vt, .ref sh])), (rw, .inl (cI, 32, .inl wf)), (sq, .inl (cJ, 256, .inr (.inl q2_57)))]) (tx_runS (As := [.long v_30, .long v_56]) (rest := [.long (gcv v_1 v_4)]) hx hb hml hown (c_M_gcd E H.size v_30 v_56 ) (cx_C (b0 := b0) G hx0 mw_817 mw_9 ny_M_gcd (by decide)) (gw.at G hx0 mw_815 rfl _) (gw.at G hx0 mw_816 rfl _) (gw.at G hx0 mw_9 rfl _) ⟨cx_blind, (cx_pre (s := s) hx0 hP hD hS hA0 [] rfl rfl (by decide))⟩ rfl rfl hl.1 rfl (lv_room (Nat.le_of_ble_eq_true rfl)) d_M_across_69 ⟨by decide, by decide⟩) hP hD hS hA [] [0, 1, 2, 3, 4] rfl rfl (by decide) (by decide) (fun v t w1 H locs ht hW9 hp hP hD hS => ?_) (fun x t w1 H locs ht hW9 hp hP hD hS => by obtain ⟨h9, -⟩ := hp; cases h9)
      obtain ⟨h9, rfl⟩ := hp
      cases h9
      refine W.eq (g2 := F0 m 72 ls [.long (gcv v_30 v_56), .long (gcv v_1 v_4)]) rfl ?_
      refine W.widen (k := 0) (n := 0) (by decide) (by decide) ?_
      have hP : va_P D kl [(ry, .inl (cI, 256, .inl yf)), (vt, .inl (cI, 4, .inl vf)), (m0, .inr (7, [.int th, .int (nI zs), .int (nI rn), .ref rw, .int kn, .int rk, .int (nI yn), .ref ry, .int sp, .int lg, .ref ti, .int fo, .int pt, .ref po, .ref su, .ref sq, .ref ch, .ref vt, .ref sh])), (rw, .inl (cI, 32, .inl wf)), (sq, .inl (cJ, 256, .inr (.inl q2_57)))] H := hP
      have hD : va_D A [(ry, .inl (cI, 256, .inl yf)), (vt, .inl (cI, 4, .inl vf)), (m0, .inr (7, [.int th, .int (nI zs), .int (nI rn), .ref rw, .int kn, .int rk, .int (nI yn), .ref ry, .int sp, .int lg, .ref ti, .int fo, .int pt, .ref po, .ref su, .ref sq, .ref ch, .ref vt, .ref sh])), (rw, .inl (cI, 32, .inl wf)), (sq, .inl (cJ, 256, .inr (.inl q2_57)))] := hD
      refine cx_call (D := D) (cl := kl) (ws := _) (wc := []) (wr := [(ry, .inl (cI, 256, .inl yf)), (vt, .inl (cI, 4, .inl vf)), (m0, .inr (7, [.int th, .int (nI zs), .int (nI rn), .ref rw, .int kn, .int rk, .int (nI yn), .ref ry, .int sp, .int lg, .ref ti, .int fo, .int pt, .ref po, .ref su, .ref sq, .ref ch, .ref vt, .ref sh])), (rw, .inl (cI, 32, .inl wf)), (sq, .inl (cJ, 256, .inr (.inl q2_57)))]) (tx_runS (As := [.long (gcv v_1 v_4), .long (gcv v_30 v_56)]) (rest := []) hx hb hml hown (c_M_gcd E H.size (gcv v_1 v_4) (gcv v_30 v_56) ) (cx_C (b0 := b0) G hx0 mw_817 mw_9 ny_M_gcd (by decide)) (gw.at G hx0 mw_815 rfl _) (gw.at G hx0 mw_816 rfl _) (gw.at G hx0 mw_9 rfl _) ⟨cx_blind, (cx_pre (s := s) hx0 hP hD hS hA0 [] rfl rfl (by decide))⟩ rfl rfl hl.1 rfl (lv_room (Nat.le_of_ble_eq_true rfl)) d_M_across_72 ⟨by decide, by decide⟩) hP hD hS hA [] [0, 1, 2, 3, 4] rfl rfl (by decide) (by decide) (fun v t w1 H locs ht hW9 hp hP hD hS => ?_) (fun x t w1 H locs ht hW9 hp hP hD hS => by obtain ⟨h9, -⟩ := hp; cases h9)
      obtain ⟨h9, rfl⟩ := hp
      cases h9
      refine W.eq (g2 := F0 m 75 ls [.long (gcv (gcv v_1 v_4) (gcv v_30 v_56))]) rfl ?_
      refine W.widen (k := 0) (n := 0) (by decide) (by decide) ?_
      have hP : va_P D kl [(ry, .inl (cI, 256, .inl yf)), (vt, .inl (cI, 4, .inl vf)), (m0, .inr (7, [.int th, .int (nI zs), .int (nI rn), .ref rw, .int kn, .int rk, .int (nI yn), .ref ry, .int sp, .int lg, .ref ti, .int fo, .int pt, .ref po, .ref su, .ref sq, .ref ch, .ref vt, .ref sh])), (rw, .inl (cI, 32, .inl wf)), (sq, .inl (cJ, 256, .inr (.inl q2_57)))] H := hP
      have hD : va_D A [(ry, .inl (cI, 256, .inl yf)), (vt, .inl (cI, 4, .inl vf)), (m0, .inr (7, [.int th, .int (nI zs), .int (nI rn), .ref rw, .int kn, .int rk, .int (nI yn), .ref ry, .int sp, .int lg, .ref ti, .int fo, .int pt, .ref po, .ref su, .ref sq, .ref ch, .ref vt, .ref sh])), (rw, .inl (cI, 32, .inl wf)), (sq, .inl (cJ, 256, .inr (.inl q2_57)))] := hD
      refine lv_lstore_n (lv' := [(2, .long (gcv (gcv v_1 v_4) (gcv v_30 v_56))), (10, .long v_56), (8, .long v_30), (6, .long v_4), (4, .long v_1), (0, .ref m0), (1, .int (nI x))]) hx hb d_M_across_75 rfl hl (by decide) rfl (fun ls hl => ?_)
      refine lv_iconst (v := (-1 : Int32)) hx hb d_M_across_76 (by decide) ?_
      refine lv_istore (lv' := [(12, .int (-1 : Int32)), (2, .long (gcv (gcv v_1 v_4) (gcv v_30 v_56))), (10, .long v_56), (8, .long v_30), (6, .long v_4), (4, .long v_1), (0, .ref m0), (1, .int (nI x))]) hx hb d_M_across_77 hl (by decide) rfl (fun ls hl => ?_)
      refine lv_iload hx hb d_M_across_79 (lv_at hl 0 rfl) ?_
      refine lv_iconst (v := (2 : Int32)) hx hb d_M_across_81 (by decide) ?_
      refine lv_icmp_ge (tgt := 153) hx hb d_M_across_82 (by decide) (fun h99 => absurd h99 (by decide)) (fun _ => ?_)
      refine lv_lload_n hx hb d_M_across_85 rfl (lv_at hl 1 rfl) ?_
      refine lv_lconst (v := (0 : Int64)) hx hb d_M_across_86 (by decide) ?_
      refine W.lcmp hx hb d_M_across_87 ?_
      refine lv_if_le (tgt := 153) hx hb d_M_across_88 (by decide) (fun h_59 => ?_) (fun h_59 => ?_)
      · exact tx_mono (fun _ h => tx_Z.of h) (W.vret hx hb hr (fun t ht hW => ⟨⟨[(m0, .inr (7, [.int th, .int (nI zs), .int (nI rn), .ref rw, .int kn, .int rk, .int (nI yn), .ref ry, .int sp, .int lg, .ref ti, .int fo, .int pt, .ref po, .ref su, .ref sq, .ref ch, .ref vt, .ref sh])), (rw, .inl (cI, 32, .inl wf)), (ry, .inl (cI, 256, .inl yf)), (vt, .inl (cI, 4, .inl vf)), (sq, .inl (cJ, 256, .inr (.inl q2_57)))], ⟨(v_1, v_4, v_30, v_56), yn, yf, vf, q2_57, rfl, mn4_4 f_3 f_6 f_32 f_58 h_7 h_33, acr_n (fun z9 => absurd h_59 (Int32.not_le.mpr ((lg_cmp_gt _ _).mpr z9))), by omega, rfl⟩, by rw [ht]; exact hP.sub [2, 3, 0, 1, 4] rfl, hD.sub [2, 3, 0, 1, 4] (by decide) rfl⟩, hS.F ht⟩) hS.2.2 d_M_across_153)
      · refine lv_aload_n hx hb d_M_across_91 rfl (lv_at hl 6 rfl) ?_
        refine lv_iload hx hb d_M_across_92 (lv_at hl 0 rfl) ?_
        refine lv_i2l (v := (-1 : Int64)) hx hb d_M_across_94 (by decide) ?_
        refine lv_lload hx hb d_M_across_95 (lv_at hl 5 rfl) ?_
        refine lv_lmul hx hb d_M_across_97 ?_
        refine lv_lload_n hx hb d_M_across_98 rfl (lv_at hl 1 rfl) ?_
        refine lv_ldiv hx hb d_M_across_99 (fun z9 => by have z8 := h_59; rw [z9] at z8; exact z8 (by decide)) ?_
        refine lv_l2i (v := (((-1 : Int64) * v_1) / (gcv (gcv v_1 v_4) (gcv v_30 v_56))).toInt32) hx hb d_M_across_100 rfl ?_
        refine lv_iload hx hb d_M_across_101 (lv_at hl 0 rfl) ?_
        refine lv_i2l (v := (-1 : Int64)) hx hb d_M_across_103 (by decide) ?_
        refine lv_lload hx hb d_M_across_104 (lv_at hl 4 rfl) ?_
        refine lv_lmul hx hb d_M_across_106 ?_
        refine lv_lload_n hx hb d_M_across_107 rfl (lv_at hl 1 rfl) ?_
        refine lv_ldiv hx hb d_M_across_108 (fun z9 => by have z8 := h_59; rw [z9] at z8; exact z8 (by decide)) ?_
        refine lv_l2i (v := (((-1 : Int64) * v_4) / (gcv (gcv v_1 v_4) (gcv v_30 v_56))).toInt32) hx hb d_M_across_109 rfl ?_
        refine lv_iload hx hb d_M_across_110 (lv_at hl 0 rfl) ?_
        refine lv_i2l (v := (-1 : Int64)) hx hb d_M_across_112 (by decide) ?_
        refine lv_lload hx hb d_M_across_113 (lv_at hl 3 rfl) ?_
        refine lv_lmul hx hb d_M_across_115 ?_
        refine lv_lload_n hx hb d_M_across_116 rfl (lv_at hl 1 rfl) ?_
        refine lv_ldiv hx hb d_M_across_117 (fun z9 => by have z8 := h_59; rw [z9] at z8; exact z8 (by decide)) ?_
        refine lv_l2i (v := (((-1 : Int64) * v_30) / (gcv (gcv v_1 v_4) (gcv v_30 v_56))).toInt32) hx hb d_M_across_118 rfl ?_
        refine lv_iload hx hb d_M_across_119 (lv_at hl 0 rfl) ?_
        refine lv_i2l (v := (-1 : Int64)) hx hb d_M_across_121 (by decide) ?_
        refine lv_lload hx hb d_M_across_122 (lv_at hl 2 rfl) ?_
        refine lv_lmul hx hb d_M_across_124 ?_
        refine lv_lload_n hx hb d_M_across_125 rfl (lv_at hl 1 rfl) ?_
        refine lv_ldiv hx hb d_M_across_126 (fun z9 => by have z8 := h_59; rw [z9] at z8; exact z8 (by decide)) ?_
        refine lv_l2i (v := (((-1 : Int64) * v_56) / (gcv (gcv v_1 v_4) (gcv v_30 v_56))).toInt32) hx hb d_M_across_127 rfl ?_
        refine cx_call (D := D) (cl := kl) (ws := _) (wc := [(m0, .inr (7, [.int th, .int (nI zs), .int (nI rn), .ref rw, .int kn, .int rk, .int (nI yn), .ref ry, .int sp, .int lg, .ref ti, .int fo, .int pt, .ref po, .ref su, .ref sq, .ref ch, .ref vt, .ref sh])), (vt, .inl (cI, 4, .inl vf))]) (wr := [(ry, .inl (cI, 256, .inl yf)), (rw, .inl (cI, 32, .inl wf)), (sq, .inl (cJ, 256, .inr (.inl q2_57)))]) (tx_runV (C := cn_M) (b := m0) (As := [.int ((((-1 : Int64) * v_1) / (gcv (gcv v_1 v_4) (gcv v_30 v_56))).toInt32), .int ((((-1 : Int64) * v_4) / (gcv (gcv v_1 v_4) (gcv v_30 v_56))).toInt32), .int ((((-1 : Int64) * v_30) / (gcv (gcv v_1 v_4) (gcv v_30 v_56))).toInt32), .int ((((-1 : Int64) * v_56) / (gcv (gcv v_1 v_4) (gcv v_30 v_56))).toInt32)]) (rest := []) hx hb hml hown (c_M_set E H.size m0 rw ry ti po su sq ch vt sh th (nI zs) (nI rn) kn rk (nI yn) sp lg fo pt ((((-1 : Int64) * v_1) / (gcv (gcv v_1 v_4) (gcv v_30 v_56))).toInt32) ((((-1 : Int64) * v_4) / (gcv (gcv v_1 v_4) (gcv v_30 v_56))).toInt32) ((((-1 : Int64) * v_30) / (gcv (gcv v_1 v_4) (gcv v_30 v_56))).toInt32) ((((-1 : Int64) * v_56) / (gcv (gcv v_1 v_4) (gcv v_30 v_56))).toInt32) vf ) (cx_C (b0 := b0) G hx0 mw_783 mw_9 ny_M_set (by decide)) (gw.at G hx0 mw_780 rfl _) (gw.at G hx0 mw_782 rfl _) (gw.at G hx0 ms_M_set rfl _) ⟨cx_blind, va_recv hK hP (q0 := 2) (ci := 7) (q := (cn_M, ft_M, 19)) rfl rfl, (cx_pre (s := s) hx0 hP hD hS hA0 [2, 1] rfl rfl (by decide))⟩ rfl rfl hl.1 rfl (lv_room (Nat.le_of_ble_eq_true rfl)) d_M_across_128 ⟨by decide, by decide⟩) hP hD hS hA [2, 1] [0, 3, 4] rfl rfl (by decide) (by decide) (fun v t w1 H locs ht hW9 hp hP hD hS => ?_) (fun x t w1 H locs ht hW9 hp hP hD hS => by obtain ⟨h9, -⟩ := hp; cases h9)
        obtain ⟨h9, rfl⟩ := hp
        cases h9
        refine W.eq (g2 := F0 m 131 ls []) rfl ?_
        refine W.widen (k := 0) (n := 0) (by decide) (by decide) ?_
        have hP : va_P D kl [(ry, .inl (cI, 256, .inl yf)), (rw, .inl (cI, 32, .inl wf)), (sq, .inl (cJ, 256, .inr (.inl q2_57))), (m0, .inr (7, [.int th, .int (nI zs), .int (nI rn), .ref rw, .int kn, .int rk, .int (nI yn), .ref ry, .int sp, .int lg, .ref ti, .int fo, .int pt, .ref po, .ref su, .ref sq, .ref ch, .ref vt, .ref sh])), (vt, .inl (cI, 4, .inl (upd (upd (upd (upd vf 0 ((((-1 : Int64) * v_1) / (gcv (gcv v_1 v_4) (gcv v_30 v_56))).toInt32)) 1 ((((-1 : Int64) * v_4) / (gcv (gcv v_1 v_4) (gcv v_30 v_56))).toInt32)) 2 (tk_c (nI zs) ((((-1 : Int64) * v_30) / (gcv (gcv v_1 v_4) (gcv v_30 v_56))).toInt32))) 3 (tk_d (nI zs) ((((-1 : Int64) * v_56) / (gcv (gcv v_1 v_4) (gcv v_30 v_56))).toInt32)))))] H := hP
        have hD : va_D A [(ry, .inl (cI, 256, .inl yf)), (rw, .inl (cI, 32, .inl wf)), (sq, .inl (cJ, 256, .inr (.inl q2_57))), (m0, .inr (7, [.int th, .int (nI zs), .int (nI rn), .ref rw, .int kn, .int rk, .int (nI yn), .ref ry, .int sp, .int lg, .ref ti, .int fo, .int pt, .ref po, .ref su, .ref sq, .ref ch, .ref vt, .ref sh])), (vt, .inl (cI, 4, .inl (upd (upd (upd (upd vf 0 ((((-1 : Int64) * v_1) / (gcv (gcv v_1 v_4) (gcv v_30 v_56))).toInt32)) 1 ((((-1 : Int64) * v_4) / (gcv (gcv v_1 v_4) (gcv v_30 v_56))).toInt32)) 2 (tk_c (nI zs) ((((-1 : Int64) * v_30) / (gcv (gcv v_1 v_4) (gcv v_30 v_56))).toInt32))) 3 (tk_d (nI zs) ((((-1 : Int64) * v_56) / (gcv (gcv v_1 v_4) (gcv v_30 v_56))).toInt32)))))] := hD
        obtain ⟨w_60, hw_60⟩ : ∃ z9 : Nat → Int32, z9 = vcs zs vf (-1 : Int64) (gc4 (v_1, v_4, v_30, v_56)) (v_1, v_4, v_30, v_56) := ⟨_, rfl⟩
        rw [show upd (upd (upd (upd vf 0 ((((-1 : Int64) * v_1) / (gcv (gcv v_1 v_4) (gcv v_30 v_56))).toInt32)) 1 ((((-1 : Int64) * v_4) / (gcv (gcv v_1 v_4) (gcv v_30 v_56))).toInt32)) 2 (tk_c (nI zs) ((((-1 : Int64) * v_30) / (gcv (gcv v_1 v_4) (gcv v_30 v_56))).toInt32))) 3 (tk_d (nI zs) ((((-1 : Int64) * v_56) / (gcv (gcv v_1 v_4) (gcv v_30 v_56))).toInt32)) = w_60 from hw_60.symm] at hP hD
        have hP : va_P D kl [(ry, .inl (cI, 256, .inl yf)), (rw, .inl (cI, 32, .inl wf)), (sq, .inl (cJ, 256, .inr (.inl q2_57))), (m0, .inr (7, [.int th, .int (nI zs), .int (nI rn), .ref rw, .int kn, .int rk, .int (nI yn), .ref ry, .int sp, .int lg, .ref ti, .int fo, .int pt, .ref po, .ref su, .ref sq, .ref ch, .ref vt, .ref sh])), (vt, .inl (cI, 4, .inl w_60))] H := hP
        have hD : va_D A [(ry, .inl (cI, 256, .inl yf)), (rw, .inl (cI, 32, .inl wf)), (sq, .inl (cJ, 256, .inr (.inl q2_57))), (m0, .inr (7, [.int th, .int (nI zs), .int (nI rn), .ref rw, .int kn, .int rk, .int (nI yn), .ref ry, .int sp, .int lg, .ref ti, .int fo, .int pt, .ref po, .ref su, .ref sq, .ref ch, .ref vt, .ref sh])), (vt, .inl (cI, 4, .inl w_60))] := hD
        refine lv_aload_n hx hb d_M_across_131 rfl (lv_at hl 6 rfl) ?_
        refine lv_aload_n hx hb d_M_across_132 rfl (lv_at hl 6 rfl) ?_
        refine va_get (D := D) (ci := 7) (v := .ref vt) (C := cn_M) (T := ft_M) (N := 19) hx hb hf_M (fun _ h => h) hown hK hP 3 rfl rfl 17 (by decide) (gw.at G hx0 mw_730 rfl _) (fun _ h9 => h9) rfl d_M_across_133 ?_
        refine lv_iconst (v := (0 : Int32)) hx hb d_M_across_136 (by decide) ?_
        by_cases h_61 : hld wf rn (w_60) 0
        · refine cx_call (D := D) (cl := kl) (ws := _) (wc := [(m0, .inr (7, [.int th, .int (nI zs), .int (nI rn), .ref rw, .int kn, .int rk, .int (nI yn), .ref ry, .int sp, .int lg, .ref ti, .int fo, .int pt, .ref po, .ref su, .ref sq, .ref ch, .ref vt, .ref sh])), (rw, .inl (cI, 32, .inl wf)), (vt, .inl (cI, 4, .inl w_60))]) (wr := [(ry, .inl (cI, 256, .inl yf)), (sq, .inl (cJ, 256, .inr (.inl q2_57)))]) (tx_runV (C := cn_M) (b := m0) (As := [.ref vt, .int (0 : Int32)]) (rest := []) hx hb hml hown (c_M_holdsAt_y E H.size m0 rw ry ti po su sq ch vt sh th (nI zs) kn rk (nI yn) sp lg fo pt rn wf vt 4 w_60 0 hr8 (by decide) (by decide) h_61) (cx_C (b0 := b0) G hx0 mw_836 mw_9 ny_M_holdsAt (by decide)) (gw.at G hx0 mw_833 rfl _) (gw.at G hx0 mw_835 rfl _) (gw.at G hx0 ms_M_holdsAt rfl _) ⟨cx_blind, va_recv hK hP (q0 := 3) (ci := 7) (q := (cn_M, ft_M, 19)) rfl rfl, (cx_pre (s := s) hx0 hP hD hS hA0 [3, 1, 4] rfl rfl (by decide))⟩ rfl rfl hl.1 rfl (lv_room (Nat.le_of_ble_eq_true rfl)) d_M_across_137 ⟨by decide, by decide⟩) hP hD hS hA [3, 1, 4] [0, 2] rfl rfl (by decide) (by decide) (fun v t w1 H locs ht hW9 hp hP hD hS => ?_) (fun x t w1 H locs ht hW9 hp hP hD hS => by obtain ⟨h9, -⟩ := hp; cases h9)
          obtain ⟨h9, rfl⟩ := hp
          cases h9
          refine W.eq (g2 := F0 m 140 ls [.int (1 : Int32)]) rfl ?_
          refine W.widen (k := 0) (n := 0) (by decide) (by decide) ?_
          have hP : va_P D kl [(ry, .inl (cI, 256, .inl yf)), (sq, .inl (cJ, 256, .inr (.inl q2_57))), (m0, .inr (7, [.int th, .int (nI zs), .int (nI rn), .ref rw, .int kn, .int rk, .int (nI yn), .ref ry, .int sp, .int lg, .ref ti, .int fo, .int pt, .ref po, .ref su, .ref sq, .ref ch, .ref vt, .ref sh])), (rw, .inl (cI, 32, .inl wf)), (vt, .inl (cI, 4, .inl w_60))] H := hP
          have hD : va_D A [(ry, .inl (cI, 256, .inl yf)), (sq, .inl (cJ, 256, .inr (.inl q2_57))), (m0, .inr (7, [.int th, .int (nI zs), .int (nI rn), .ref rw, .int kn, .int rk, .int (nI yn), .ref ry, .int sp, .int lg, .ref ti, .int fo, .int pt, .ref po, .ref su, .ref sq, .ref ch, .ref vt, .ref sh])), (rw, .inl (cI, 32, .inl wf)), (vt, .inl (cI, 4, .inl w_60))] := hD
          refine lv_if_eq (tgt := 147) hx hb d_M_across_140 (by decide) (fun h99 => absurd h99 (by decide)) (fun _ => ?_)
          refine lv_aload_n hx hb d_M_across_143 rfl (lv_at hl 6 rfl) ?_
          refine cx_call (D := D) (cl := kl) (ws := _) (wc := [(m0, .inr (7, [.int th, .int (nI zs), .int (nI rn), .ref rw, .int kn, .int rk, .int (nI yn), .ref ry, .int sp, .int lg, .ref ti, .int fo, .int pt, .ref po, .ref su, .ref sq, .ref ch, .ref vt, .ref sh])), (vt, .inl (cI, 4, .inl w_60)), (ry, .inl (cI, 256, .inl yf))]) (wr := [(sq, .inl (cJ, 256, .inr (.inl q2_57))), (rw, .inl (cI, 32, .inl wf))]) (tx_runV (C := cn_M) (b := m0) (As := []) (rest := []) hx hb hml hown (c_M_keepRay E H.size m0 rw ry ti po su sq ch vt sh th (nI zs) (nI rn) kn rk sp lg fo pt yn w_60 yf (by omega)) (cx_C (b0 := b0) G hx0 mw_844 mw_9 ny_M_keepRay (by decide)) (gw.at G hx0 mw_841 rfl _) (gw.at G hx0 mw_843 rfl _) (gw.at G hx0 ms_M_keepRay rfl _) ⟨cx_blind, va_recv hK hP (q0 := 2) (ci := 7) (q := (cn_M, ft_M, 19)) rfl rfl, (cx_pre (s := s) hx0 hP hD hS hA0 [2, 4, 0] rfl rfl (by decide))⟩ rfl rfl hl.1 rfl (lv_room (Nat.le_of_ble_eq_true rfl)) d_M_across_144 ⟨by decide, by decide⟩) hP hD hS hA [2, 4, 0] [1, 3] rfl rfl (by decide) (by decide) (fun v t w1 H locs ht hW9 hp hP hD hS => ?_) (fun x t w1 H locs ht hW9 hp hP hD hS => by obtain ⟨_, _, h9, -⟩ := hp; cases h9)
          obtain ⟨n2_62, f2_63, h9, f_64, f_65, f_66, rfl⟩ := hp
          cases h9
          refine W.eq (g2 := F0 m 147 ls []) rfl ?_
          refine W.widen (k := 0) (n := 0) (by decide) (by decide) ?_
          have hP : va_P D kl [(sq, .inl (cJ, 256, .inr (.inl q2_57))), (rw, .inl (cI, 32, .inl wf)), (m0, .inr (7, [.int th, .int (nI zs), .int (nI rn), .ref rw, .int kn, .int rk, .int (nI n2_62), .ref ry, .int sp, .int lg, .ref ti, .int fo, .int pt, .ref po, .ref su, .ref sq, .ref ch, .ref vt, .ref sh])), (vt, .inl (cI, 4, .inl w_60)), (ry, .inl (cI, 256, .inl f2_63))] H := hP
          have hD : va_D A [(sq, .inl (cJ, 256, .inr (.inl q2_57))), (rw, .inl (cI, 32, .inl wf)), (m0, .inr (7, [.int th, .int (nI zs), .int (nI rn), .ref rw, .int kn, .int rk, .int (nI n2_62), .ref ry, .int sp, .int lg, .ref ti, .int fo, .int pt, .ref po, .ref su, .ref sq, .ref ch, .ref vt, .ref sh])), (vt, .inl (cI, 4, .inl w_60)), (ry, .inl (cI, 256, .inl f2_63))] := hD
          refine lv_iinc (lv' := [(12, .int (1 : Int32)), (2, .long (gcv (gcv v_1 v_4) (gcv v_30 v_56))), (10, .long v_56), (8, .long v_30), (6, .long v_4), (4, .long v_1), (0, .ref m0), (1, .int (nI x))]) (k := 0) (v := (1 : Int32)) hx hb d_M_across_147 hl rfl (by decide) (by decide) rfl (fun ls hl => ?_)
          refine lv_goto (tgt := 79) hx hb d_M_across_150 (by decide) ?_
          refine lv_iload hx hb d_M_across_79 (lv_at hl 0 rfl) ?_
          refine lv_iconst (v := (2 : Int32)) hx hb d_M_across_81 (by decide) ?_
          refine lv_icmp_ge (tgt := 153) hx hb d_M_across_82 (by decide) (fun h99 => absurd h99 (by decide)) (fun _ => ?_)
          refine lv_lload_n hx hb d_M_across_85 rfl (lv_at hl 1 rfl) ?_
          refine lv_lconst (v := (0 : Int64)) hx hb d_M_across_86 (by decide) ?_
          refine W.lcmp hx hb d_M_across_87 ?_
          refine lv_if_le (tgt := 153) hx hb d_M_across_88 (by decide) (fun h99 => absurd h99 (by first | assumption | exact Int32.not_le.mpr (by assumption) | exact Int32.not_lt.mpr (by assumption) | exact Int32.not_le.mp (by assumption) | exact Int32.not_lt.mp (by assumption))) (fun _ => ?_)
          refine lv_aload_n hx hb d_M_across_91 rfl (lv_at hl 6 rfl) ?_
          refine lv_iload hx hb d_M_across_92 (lv_at hl 0 rfl) ?_
          refine lv_i2l (v := (1 : Int64)) hx hb d_M_across_94 (by decide) ?_
          refine lv_lload hx hb d_M_across_95 (lv_at hl 5 rfl) ?_
          refine lv_lmul hx hb d_M_across_97 ?_
          refine lv_lload_n hx hb d_M_across_98 rfl (lv_at hl 1 rfl) ?_
          refine lv_ldiv hx hb d_M_across_99 (fun z9 => by have z8 := h_59; rw [z9] at z8; exact z8 (by decide)) ?_
          refine lv_l2i (v := (((1 : Int64) * v_1) / (gcv (gcv v_1 v_4) (gcv v_30 v_56))).toInt32) hx hb d_M_across_100 rfl ?_
          refine lv_iload hx hb d_M_across_101 (lv_at hl 0 rfl) ?_
          refine lv_i2l (v := (1 : Int64)) hx hb d_M_across_103 (by decide) ?_
          refine lv_lload hx hb d_M_across_104 (lv_at hl 4 rfl) ?_
          refine lv_lmul hx hb d_M_across_106 ?_
          refine lv_lload_n hx hb d_M_across_107 rfl (lv_at hl 1 rfl) ?_
          refine lv_ldiv hx hb d_M_across_108 (fun z9 => by have z8 := h_59; rw [z9] at z8; exact z8 (by decide)) ?_
          refine lv_l2i (v := (((1 : Int64) * v_4) / (gcv (gcv v_1 v_4) (gcv v_30 v_56))).toInt32) hx hb d_M_across_109 rfl ?_
          refine lv_iload hx hb d_M_across_110 (lv_at hl 0 rfl) ?_
          refine lv_i2l (v := (1 : Int64)) hx hb d_M_across_112 (by decide) ?_
          refine lv_lload hx hb d_M_across_113 (lv_at hl 3 rfl) ?_
          refine lv_lmul hx hb d_M_across_115 ?_
          refine lv_lload_n hx hb d_M_across_116 rfl (lv_at hl 1 rfl) ?_
          refine lv_ldiv hx hb d_M_across_117 (fun z9 => by have z8 := h_59; rw [z9] at z8; exact z8 (by decide)) ?_
          refine lv_l2i (v := (((1 : Int64) * v_30) / (gcv (gcv v_1 v_4) (gcv v_30 v_56))).toInt32) hx hb d_M_across_118 rfl ?_
          refine lv_iload hx hb d_M_across_119 (lv_at hl 0 rfl) ?_
          refine lv_i2l (v := (1 : Int64)) hx hb d_M_across_121 (by decide) ?_
          refine lv_lload hx hb d_M_across_122 (lv_at hl 2 rfl) ?_
          refine lv_lmul hx hb d_M_across_124 ?_
          refine lv_lload_n hx hb d_M_across_125 rfl (lv_at hl 1 rfl) ?_
          refine lv_ldiv hx hb d_M_across_126 (fun z9 => by have z8 := h_59; rw [z9] at z8; exact z8 (by decide)) ?_
          refine lv_l2i (v := (((1 : Int64) * v_56) / (gcv (gcv v_1 v_4) (gcv v_30 v_56))).toInt32) hx hb d_M_across_127 rfl ?_
          refine cx_call (D := D) (cl := kl) (ws := _) (wc := [(m0, .inr (7, [.int th, .int (nI zs), .int (nI rn), .ref rw, .int kn, .int rk, .int (nI n2_62), .ref ry, .int sp, .int lg, .ref ti, .int fo, .int pt, .ref po, .ref su, .ref sq, .ref ch, .ref vt, .ref sh])), (vt, .inl (cI, 4, .inl w_60))]) (wr := [(sq, .inl (cJ, 256, .inr (.inl q2_57))), (rw, .inl (cI, 32, .inl wf)), (ry, .inl (cI, 256, .inl f2_63))]) (tx_runV (C := cn_M) (b := m0) (As := [.int ((((1 : Int64) * v_1) / (gcv (gcv v_1 v_4) (gcv v_30 v_56))).toInt32), .int ((((1 : Int64) * v_4) / (gcv (gcv v_1 v_4) (gcv v_30 v_56))).toInt32), .int ((((1 : Int64) * v_30) / (gcv (gcv v_1 v_4) (gcv v_30 v_56))).toInt32), .int ((((1 : Int64) * v_56) / (gcv (gcv v_1 v_4) (gcv v_30 v_56))).toInt32)]) (rest := []) hx hb hml hown (c_M_set E H.size m0 rw ry ti po su sq ch vt sh th (nI zs) (nI rn) kn rk (nI n2_62) sp lg fo pt ((((1 : Int64) * v_1) / (gcv (gcv v_1 v_4) (gcv v_30 v_56))).toInt32) ((((1 : Int64) * v_4) / (gcv (gcv v_1 v_4) (gcv v_30 v_56))).toInt32) ((((1 : Int64) * v_30) / (gcv (gcv v_1 v_4) (gcv v_30 v_56))).toInt32) ((((1 : Int64) * v_56) / (gcv (gcv v_1 v_4) (gcv v_30 v_56))).toInt32) w_60 ) (cx_C (b0 := b0) G hx0 mw_783 mw_9 ny_M_set (by decide)) (gw.at G hx0 mw_780 rfl _) (gw.at G hx0 mw_782 rfl _) (gw.at G hx0 ms_M_set rfl _) ⟨cx_blind, va_recv hK hP (q0 := 2) (ci := 7) (q := (cn_M, ft_M, 19)) rfl rfl, (cx_pre (s := s) hx0 hP hD hS hA0 [2, 3] rfl rfl (by decide))⟩ rfl rfl hl.1 rfl (lv_room (Nat.le_of_ble_eq_true rfl)) d_M_across_128 ⟨by decide, by decide⟩) hP hD hS hA [2, 3] [0, 1, 4] rfl rfl (by decide) (by decide) (fun v t w1 H locs ht hW9 hp hP hD hS => ?_) (fun x t w1 H locs ht hW9 hp hP hD hS => by obtain ⟨h9, -⟩ := hp; cases h9)
          obtain ⟨h9, rfl⟩ := hp
          cases h9
          refine W.eq (g2 := F0 m 131 ls []) rfl ?_
          refine W.widen (k := 0) (n := 0) (by decide) (by decide) ?_
          have hP : va_P D kl [(sq, .inl (cJ, 256, .inr (.inl q2_57))), (rw, .inl (cI, 32, .inl wf)), (ry, .inl (cI, 256, .inl f2_63)), (m0, .inr (7, [.int th, .int (nI zs), .int (nI rn), .ref rw, .int kn, .int rk, .int (nI n2_62), .ref ry, .int sp, .int lg, .ref ti, .int fo, .int pt, .ref po, .ref su, .ref sq, .ref ch, .ref vt, .ref sh])), (vt, .inl (cI, 4, .inl (upd (upd (upd (upd w_60 0 ((((1 : Int64) * v_1) / (gcv (gcv v_1 v_4) (gcv v_30 v_56))).toInt32)) 1 ((((1 : Int64) * v_4) / (gcv (gcv v_1 v_4) (gcv v_30 v_56))).toInt32)) 2 (tk_c (nI zs) ((((1 : Int64) * v_30) / (gcv (gcv v_1 v_4) (gcv v_30 v_56))).toInt32))) 3 (tk_d (nI zs) ((((1 : Int64) * v_56) / (gcv (gcv v_1 v_4) (gcv v_30 v_56))).toInt32)))))] H := hP
          have hD : va_D A [(sq, .inl (cJ, 256, .inr (.inl q2_57))), (rw, .inl (cI, 32, .inl wf)), (ry, .inl (cI, 256, .inl f2_63)), (m0, .inr (7, [.int th, .int (nI zs), .int (nI rn), .ref rw, .int kn, .int rk, .int (nI n2_62), .ref ry, .int sp, .int lg, .ref ti, .int fo, .int pt, .ref po, .ref su, .ref sq, .ref ch, .ref vt, .ref sh])), (vt, .inl (cI, 4, .inl (upd (upd (upd (upd w_60 0 ((((1 : Int64) * v_1) / (gcv (gcv v_1 v_4) (gcv v_30 v_56))).toInt32)) 1 ((((1 : Int64) * v_4) / (gcv (gcv v_1 v_4) (gcv v_30 v_56))).toInt32)) 2 (tk_c (nI zs) ((((1 : Int64) * v_30) / (gcv (gcv v_1 v_4) (gcv v_30 v_56))).toInt32))) 3 (tk_d (nI zs) ((((1 : Int64) * v_56) / (gcv (gcv v_1 v_4) (gcv v_30 v_56))).toInt32)))))] := hD
          obtain ⟨w_67, hw_67⟩ : ∃ z9 : Nat → Int32, z9 = vcs zs w_60 (1 : Int64) (gc4 (v_1, v_4, v_30, v_56)) (v_1, v_4, v_30, v_56) := ⟨_, rfl⟩
          rw [show upd (upd (upd (upd w_60 0 ((((1 : Int64) * v_1) / (gcv (gcv v_1 v_4) (gcv v_30 v_56))).toInt32)) 1 ((((1 : Int64) * v_4) / (gcv (gcv v_1 v_4) (gcv v_30 v_56))).toInt32)) 2 (tk_c (nI zs) ((((1 : Int64) * v_30) / (gcv (gcv v_1 v_4) (gcv v_30 v_56))).toInt32))) 3 (tk_d (nI zs) ((((1 : Int64) * v_56) / (gcv (gcv v_1 v_4) (gcv v_30 v_56))).toInt32)) = w_67 from hw_67.symm] at hP hD
          have hP : va_P D kl [(sq, .inl (cJ, 256, .inr (.inl q2_57))), (rw, .inl (cI, 32, .inl wf)), (ry, .inl (cI, 256, .inl f2_63)), (m0, .inr (7, [.int th, .int (nI zs), .int (nI rn), .ref rw, .int kn, .int rk, .int (nI n2_62), .ref ry, .int sp, .int lg, .ref ti, .int fo, .int pt, .ref po, .ref su, .ref sq, .ref ch, .ref vt, .ref sh])), (vt, .inl (cI, 4, .inl w_67))] H := hP
          have hD : va_D A [(sq, .inl (cJ, 256, .inr (.inl q2_57))), (rw, .inl (cI, 32, .inl wf)), (ry, .inl (cI, 256, .inl f2_63)), (m0, .inr (7, [.int th, .int (nI zs), .int (nI rn), .ref rw, .int kn, .int rk, .int (nI n2_62), .ref ry, .int sp, .int lg, .ref ti, .int fo, .int pt, .ref po, .ref su, .ref sq, .ref ch, .ref vt, .ref sh])), (vt, .inl (cI, 4, .inl w_67))] := hD
          refine lv_aload_n hx hb d_M_across_131 rfl (lv_at hl 6 rfl) ?_
          refine lv_aload_n hx hb d_M_across_132 rfl (lv_at hl 6 rfl) ?_
          refine va_get (D := D) (ci := 7) (v := .ref vt) (C := cn_M) (T := ft_M) (N := 19) hx hb hf_M (fun _ h => h) hown hK hP 3 rfl rfl 17 (by decide) (gw.at G hx0 mw_730 rfl _) (fun _ h9 => h9) rfl d_M_across_133 ?_
          refine lv_iconst (v := (0 : Int32)) hx hb d_M_across_136 (by decide) ?_
          by_cases h_68 : hld wf rn (w_67) 0
          · refine cx_call (D := D) (cl := kl) (ws := _) (wc := [(m0, .inr (7, [.int th, .int (nI zs), .int (nI rn), .ref rw, .int kn, .int rk, .int (nI n2_62), .ref ry, .int sp, .int lg, .ref ti, .int fo, .int pt, .ref po, .ref su, .ref sq, .ref ch, .ref vt, .ref sh])), (rw, .inl (cI, 32, .inl wf)), (vt, .inl (cI, 4, .inl w_67))]) (wr := [(sq, .inl (cJ, 256, .inr (.inl q2_57))), (ry, .inl (cI, 256, .inl f2_63))]) (tx_runV (C := cn_M) (b := m0) (As := [.ref vt, .int (0 : Int32)]) (rest := []) hx hb hml hown (c_M_holdsAt_y E H.size m0 rw ry ti po su sq ch vt sh th (nI zs) kn rk (nI n2_62) sp lg fo pt rn wf vt 4 w_67 0 hr8 (by decide) (by decide) h_68) (cx_C (b0 := b0) G hx0 mw_836 mw_9 ny_M_holdsAt (by decide)) (gw.at G hx0 mw_833 rfl _) (gw.at G hx0 mw_835 rfl _) (gw.at G hx0 ms_M_holdsAt rfl _) ⟨cx_blind, va_recv hK hP (q0 := 3) (ci := 7) (q := (cn_M, ft_M, 19)) rfl rfl, (cx_pre (s := s) hx0 hP hD hS hA0 [3, 1, 4] rfl rfl (by decide))⟩ rfl rfl hl.1 rfl (lv_room (Nat.le_of_ble_eq_true rfl)) d_M_across_137 ⟨by decide, by decide⟩) hP hD hS hA [3, 1, 4] [0, 2] rfl rfl (by decide) (by decide) (fun v t w1 H locs ht hW9 hp hP hD hS => ?_) (fun x t w1 H locs ht hW9 hp hP hD hS => by obtain ⟨h9, -⟩ := hp; cases h9)
            obtain ⟨h9, rfl⟩ := hp
            cases h9
            refine W.eq (g2 := F0 m 140 ls [.int (1 : Int32)]) rfl ?_
            refine W.widen (k := 0) (n := 0) (by decide) (by decide) ?_
            have hP : va_P D kl [(sq, .inl (cJ, 256, .inr (.inl q2_57))), (ry, .inl (cI, 256, .inl f2_63)), (m0, .inr (7, [.int th, .int (nI zs), .int (nI rn), .ref rw, .int kn, .int rk, .int (nI n2_62), .ref ry, .int sp, .int lg, .ref ti, .int fo, .int pt, .ref po, .ref su, .ref sq, .ref ch, .ref vt, .ref sh])), (rw, .inl (cI, 32, .inl wf)), (vt, .inl (cI, 4, .inl w_67))] H := hP
            have hD : va_D A [(sq, .inl (cJ, 256, .inr (.inl q2_57))), (ry, .inl (cI, 256, .inl f2_63)), (m0, .inr (7, [.int th, .int (nI zs), .int (nI rn), .ref rw, .int kn, .int rk, .int (nI n2_62), .ref ry, .int sp, .int lg, .ref ti, .int fo, .int pt, .ref po, .ref su, .ref sq, .ref ch, .ref vt, .ref sh])), (rw, .inl (cI, 32, .inl wf)), (vt, .inl (cI, 4, .inl w_67))] := hD
            refine lv_if_eq (tgt := 147) hx hb d_M_across_140 (by decide) (fun h99 => absurd h99 (by decide)) (fun _ => ?_)
            refine lv_aload_n hx hb d_M_across_143 rfl (lv_at hl 6 rfl) ?_
            refine cx_call (D := D) (cl := kl) (ws := _) (wc := [(m0, .inr (7, [.int th, .int (nI zs), .int (nI rn), .ref rw, .int kn, .int rk, .int (nI n2_62), .ref ry, .int sp, .int lg, .ref ti, .int fo, .int pt, .ref po, .ref su, .ref sq, .ref ch, .ref vt, .ref sh])), (vt, .inl (cI, 4, .inl w_67)), (ry, .inl (cI, 256, .inl f2_63))]) (wr := [(sq, .inl (cJ, 256, .inr (.inl q2_57))), (rw, .inl (cI, 32, .inl wf))]) (tx_runV (C := cn_M) (b := m0) (As := []) (rest := []) hx hb hml hown (c_M_keepRay E H.size m0 rw ry ti po su sq ch vt sh th (nI zs) (nI rn) kn rk sp lg fo pt n2_62 w_67 f2_63 (by omega)) (cx_C (b0 := b0) G hx0 mw_844 mw_9 ny_M_keepRay (by decide)) (gw.at G hx0 mw_841 rfl _) (gw.at G hx0 mw_843 rfl _) (gw.at G hx0 ms_M_keepRay rfl _) ⟨cx_blind, va_recv hK hP (q0 := 2) (ci := 7) (q := (cn_M, ft_M, 19)) rfl rfl, (cx_pre (s := s) hx0 hP hD hS hA0 [2, 4, 1] rfl rfl (by decide))⟩ rfl rfl hl.1 rfl (lv_room (Nat.le_of_ble_eq_true rfl)) d_M_across_144 ⟨by decide, by decide⟩) hP hD hS hA [2, 4, 1] [0, 3] rfl rfl (by decide) (by decide) (fun v t w1 H locs ht hW9 hp hP hD hS => ?_) (fun x t w1 H locs ht hW9 hp hP hD hS => by obtain ⟨_, _, h9, -⟩ := hp; cases h9)
            obtain ⟨n2_69, f2_70, h9, f_71, f_72, f_73, rfl⟩ := hp
            cases h9
            refine W.eq (g2 := F0 m 147 ls []) rfl ?_
            refine W.widen (k := 0) (n := 0) (by decide) (by decide) ?_
            have hP : va_P D kl [(sq, .inl (cJ, 256, .inr (.inl q2_57))), (rw, .inl (cI, 32, .inl wf)), (m0, .inr (7, [.int th, .int (nI zs), .int (nI rn), .ref rw, .int kn, .int rk, .int (nI n2_69), .ref ry, .int sp, .int lg, .ref ti, .int fo, .int pt, .ref po, .ref su, .ref sq, .ref ch, .ref vt, .ref sh])), (vt, .inl (cI, 4, .inl w_67)), (ry, .inl (cI, 256, .inl f2_70))] H := hP
            have hD : va_D A [(sq, .inl (cJ, 256, .inr (.inl q2_57))), (rw, .inl (cI, 32, .inl wf)), (m0, .inr (7, [.int th, .int (nI zs), .int (nI rn), .ref rw, .int kn, .int rk, .int (nI n2_69), .ref ry, .int sp, .int lg, .ref ti, .int fo, .int pt, .ref po, .ref su, .ref sq, .ref ch, .ref vt, .ref sh])), (vt, .inl (cI, 4, .inl w_67)), (ry, .inl (cI, 256, .inl f2_70))] := hD
            refine lv_iinc (lv' := [(12, .int (3 : Int32)), (2, .long (gcv (gcv v_1 v_4) (gcv v_30 v_56))), (10, .long v_56), (8, .long v_30), (6, .long v_4), (4, .long v_1), (0, .ref m0), (1, .int (nI x))]) (k := 0) (v := (3 : Int32)) hx hb d_M_across_147 hl rfl (by decide) (by decide) rfl (fun ls hl => ?_)
            refine lv_goto (tgt := 79) hx hb d_M_across_150 (by decide) ?_
            refine lv_iload hx hb d_M_across_79 (lv_at hl 0 rfl) ?_
            refine lv_iconst (v := (2 : Int32)) hx hb d_M_across_81 (by decide) ?_
            refine lv_icmp_ge (tgt := 153) hx hb d_M_across_82 (by decide) (fun _ => ?_) (fun h99 => absurd h99 (by decide))
            exact tx_mono (fun _ h => tx_Z.of h) (W.vret hx hb hr (fun t ht hW => ⟨⟨[(m0, .inr (7, [.int th, .int (nI zs), .int (nI rn), .ref rw, .int kn, .int rk, .int (nI n2_69), .ref ry, .int sp, .int lg, .ref ti, .int fo, .int pt, .ref po, .ref su, .ref sq, .ref ch, .ref vt, .ref sh])), (rw, .inl (cI, 32, .inl wf)), (ry, .inl (cI, 256, .inl f2_70)), (vt, .inl (cI, 4, .inl w_67)), (sq, .inl (cJ, 256, .inr (.inl q2_57)))], ⟨(v_1, v_4, v_30, v_56), n2_69, f2_70, w_67, q2_57, rfl, mn4_4 f_3 f_6 f_32 f_58 h_7 h_33, acr_y ((lg_cmp_gt _ _).mp (Int32.not_le.mp h_59)) (hw_60 ▸ ast_y (hw_60 ▸ h_61) (hw_60 ▸ f_64) (hw_60 ▸ f_65)) (hw_67 ▸ ast_y (hw_67 ▸ h_68) (hw_67 ▸ f_71) (hw_67 ▸ f_72)), by omega, rfl⟩, by rw [ht]; exact hP.sub [2, 1, 4, 3, 0] rfl, hD.sub [2, 1, 4, 3, 0] (by decide) rfl⟩, hS.F ht⟩) hS.2.2 d_M_across_153)
          · refine cx_call (D := D) (cl := kl) (ws := _) (wc := [(m0, .inr (7, [.int th, .int (nI zs), .int (nI rn), .ref rw, .int kn, .int rk, .int (nI n2_62), .ref ry, .int sp, .int lg, .ref ti, .int fo, .int pt, .ref po, .ref su, .ref sq, .ref ch, .ref vt, .ref sh])), (rw, .inl (cI, 32, .inl wf)), (vt, .inl (cI, 4, .inl w_67))]) (wr := [(sq, .inl (cJ, 256, .inr (.inl q2_57))), (ry, .inl (cI, 256, .inl f2_63))]) (tx_runV (C := cn_M) (b := m0) (As := [.ref vt, .int (0 : Int32)]) (rest := []) hx hb hml hown (c_M_holdsAt_n E H.size m0 rw ry ti po su sq ch vt sh th (nI zs) kn rk (nI n2_62) sp lg fo pt rn wf vt 4 w_67 0 hr8 (by decide) (by decide) h_68) (cx_C (b0 := b0) G hx0 mw_836 mw_9 ny_M_holdsAt (by decide)) (gw.at G hx0 mw_833 rfl _) (gw.at G hx0 mw_835 rfl _) (gw.at G hx0 ms_M_holdsAt rfl _) ⟨cx_blind, va_recv hK hP (q0 := 3) (ci := 7) (q := (cn_M, ft_M, 19)) rfl rfl, (cx_pre (s := s) hx0 hP hD hS hA0 [3, 1, 4] rfl rfl (by decide))⟩ rfl rfl hl.1 rfl (lv_room (Nat.le_of_ble_eq_true rfl)) d_M_across_137 ⟨by decide, by decide⟩) hP hD hS hA [3, 1, 4] [0, 2] rfl rfl (by decide) (by decide) (fun v t w1 H locs ht hW9 hp hP hD hS => ?_) (fun x t w1 H locs ht hW9 hp hP hD hS => by obtain ⟨h9, -⟩ := hp; cases h9)
            obtain ⟨h9, rfl⟩ := hp
            cases h9
            refine W.eq (g2 := F0 m 140 ls [.int (0 : Int32)]) rfl ?_
            refine W.widen (k := 0) (n := 0) (by decide) (by decide) ?_
            have hP : va_P D kl [(sq, .inl (cJ, 256, .inr (.inl q2_57))), (ry, .inl (cI, 256, .inl f2_63)), (m0, .inr (7, [.int th, .int (nI zs), .int (nI rn), .ref rw, .int kn, .int rk, .int (nI n2_62), .ref ry, .int sp, .int lg, .ref ti, .int fo, .int pt, .ref po, .ref su, .ref sq, .ref ch, .ref vt, .ref sh])), (rw, .inl (cI, 32, .inl wf)), (vt, .inl (cI, 4, .inl w_67))] H := hP
            have hD : va_D A [(sq, .inl (cJ, 256, .inr (.inl q2_57))), (ry, .inl (cI, 256, .inl f2_63)), (m0, .inr (7, [.int th, .int (nI zs), .int (nI rn), .ref rw, .int kn, .int rk, .int (nI n2_62), .ref ry, .int sp, .int lg, .ref ti, .int fo, .int pt, .ref po, .ref su, .ref sq, .ref ch, .ref vt, .ref sh])), (rw, .inl (cI, 32, .inl wf)), (vt, .inl (cI, 4, .inl w_67))] := hD
            refine lv_if_eq (tgt := 147) hx hb d_M_across_140 (by decide) (fun _ => ?_) (fun h99 => absurd h99 (by decide))
            refine lv_iinc (lv' := [(12, .int (3 : Int32)), (2, .long (gcv (gcv v_1 v_4) (gcv v_30 v_56))), (10, .long v_56), (8, .long v_30), (6, .long v_4), (4, .long v_1), (0, .ref m0), (1, .int (nI x))]) (k := 0) (v := (3 : Int32)) hx hb d_M_across_147 hl rfl (by decide) (by decide) rfl (fun ls hl => ?_)
            refine lv_goto (tgt := 79) hx hb d_M_across_150 (by decide) ?_
            refine lv_iload hx hb d_M_across_79 (lv_at hl 0 rfl) ?_
            refine lv_iconst (v := (2 : Int32)) hx hb d_M_across_81 (by decide) ?_
            refine lv_icmp_ge (tgt := 153) hx hb d_M_across_82 (by decide) (fun _ => ?_) (fun h99 => absurd h99 (by decide))
            exact tx_mono (fun _ h => tx_Z.of h) (W.vret hx hb hr (fun t ht hW => ⟨⟨[(m0, .inr (7, [.int th, .int (nI zs), .int (nI rn), .ref rw, .int kn, .int rk, .int (nI n2_62), .ref ry, .int sp, .int lg, .ref ti, .int fo, .int pt, .ref po, .ref su, .ref sq, .ref ch, .ref vt, .ref sh])), (rw, .inl (cI, 32, .inl wf)), (ry, .inl (cI, 256, .inl f2_63)), (vt, .inl (cI, 4, .inl w_67)), (sq, .inl (cJ, 256, .inr (.inl q2_57)))], ⟨(v_1, v_4, v_30, v_56), n2_62, f2_63, w_67, q2_57, rfl, mn4_4 f_3 f_6 f_32 f_58 h_7 h_33, acr_y ((lg_cmp_gt _ _).mp (Int32.not_le.mp h_59)) (hw_60 ▸ ast_y (hw_60 ▸ h_61) (hw_60 ▸ f_64) (hw_60 ▸ f_65)) (hw_67 ▸ ast_n (hw_67 ▸ h_68)), by omega, rfl⟩, by rw [ht]; exact hP.sub [2, 3, 1, 4, 0] rfl, hD.sub [2, 3, 1, 4, 0] (by decide) rfl⟩, hS.F ht⟩) hS.2.2 d_M_across_153)
        · refine cx_call (D := D) (cl := kl) (ws := _) (wc := [(m0, .inr (7, [.int th, .int (nI zs), .int (nI rn), .ref rw, .int kn, .int rk, .int (nI yn), .ref ry, .int sp, .int lg, .ref ti, .int fo, .int pt, .ref po, .ref su, .ref sq, .ref ch, .ref vt, .ref sh])), (rw, .inl (cI, 32, .inl wf)), (vt, .inl (cI, 4, .inl w_60))]) (wr := [(ry, .inl (cI, 256, .inl yf)), (sq, .inl (cJ, 256, .inr (.inl q2_57)))]) (tx_runV (C := cn_M) (b := m0) (As := [.ref vt, .int (0 : Int32)]) (rest := []) hx hb hml hown (c_M_holdsAt_n E H.size m0 rw ry ti po su sq ch vt sh th (nI zs) kn rk (nI yn) sp lg fo pt rn wf vt 4 w_60 0 hr8 (by decide) (by decide) h_61) (cx_C (b0 := b0) G hx0 mw_836 mw_9 ny_M_holdsAt (by decide)) (gw.at G hx0 mw_833 rfl _) (gw.at G hx0 mw_835 rfl _) (gw.at G hx0 ms_M_holdsAt rfl _) ⟨cx_blind, va_recv hK hP (q0 := 3) (ci := 7) (q := (cn_M, ft_M, 19)) rfl rfl, (cx_pre (s := s) hx0 hP hD hS hA0 [3, 1, 4] rfl rfl (by decide))⟩ rfl rfl hl.1 rfl (lv_room (Nat.le_of_ble_eq_true rfl)) d_M_across_137 ⟨by decide, by decide⟩) hP hD hS hA [3, 1, 4] [0, 2] rfl rfl (by decide) (by decide) (fun v t w1 H locs ht hW9 hp hP hD hS => ?_) (fun x t w1 H locs ht hW9 hp hP hD hS => by obtain ⟨h9, -⟩ := hp; cases h9)
          obtain ⟨h9, rfl⟩ := hp
          cases h9
          refine W.eq (g2 := F0 m 140 ls [.int (0 : Int32)]) rfl ?_
          refine W.widen (k := 0) (n := 0) (by decide) (by decide) ?_
          have hP : va_P D kl [(ry, .inl (cI, 256, .inl yf)), (sq, .inl (cJ, 256, .inr (.inl q2_57))), (m0, .inr (7, [.int th, .int (nI zs), .int (nI rn), .ref rw, .int kn, .int rk, .int (nI yn), .ref ry, .int sp, .int lg, .ref ti, .int fo, .int pt, .ref po, .ref su, .ref sq, .ref ch, .ref vt, .ref sh])), (rw, .inl (cI, 32, .inl wf)), (vt, .inl (cI, 4, .inl w_60))] H := hP
          have hD : va_D A [(ry, .inl (cI, 256, .inl yf)), (sq, .inl (cJ, 256, .inr (.inl q2_57))), (m0, .inr (7, [.int th, .int (nI zs), .int (nI rn), .ref rw, .int kn, .int rk, .int (nI yn), .ref ry, .int sp, .int lg, .ref ti, .int fo, .int pt, .ref po, .ref su, .ref sq, .ref ch, .ref vt, .ref sh])), (rw, .inl (cI, 32, .inl wf)), (vt, .inl (cI, 4, .inl w_60))] := hD
          refine lv_if_eq (tgt := 147) hx hb d_M_across_140 (by decide) (fun _ => ?_) (fun h99 => absurd h99 (by decide))
          refine lv_iinc (lv' := [(12, .int (1 : Int32)), (2, .long (gcv (gcv v_1 v_4) (gcv v_30 v_56))), (10, .long v_56), (8, .long v_30), (6, .long v_4), (4, .long v_1), (0, .ref m0), (1, .int (nI x))]) (k := 0) (v := (1 : Int32)) hx hb d_M_across_147 hl rfl (by decide) (by decide) rfl (fun ls hl => ?_)
          refine lv_goto (tgt := 79) hx hb d_M_across_150 (by decide) ?_
          refine lv_iload hx hb d_M_across_79 (lv_at hl 0 rfl) ?_
          refine lv_iconst (v := (2 : Int32)) hx hb d_M_across_81 (by decide) ?_
          refine lv_icmp_ge (tgt := 153) hx hb d_M_across_82 (by decide) (fun h99 => absurd h99 (by decide)) (fun _ => ?_)
          refine lv_lload_n hx hb d_M_across_85 rfl (lv_at hl 1 rfl) ?_
          refine lv_lconst (v := (0 : Int64)) hx hb d_M_across_86 (by decide) ?_
          refine W.lcmp hx hb d_M_across_87 ?_
          refine lv_if_le (tgt := 153) hx hb d_M_across_88 (by decide) (fun h99 => absurd h99 (by first | assumption | exact Int32.not_le.mpr (by assumption) | exact Int32.not_lt.mpr (by assumption) | exact Int32.not_le.mp (by assumption) | exact Int32.not_lt.mp (by assumption))) (fun _ => ?_)
          refine lv_aload_n hx hb d_M_across_91 rfl (lv_at hl 6 rfl) ?_
          refine lv_iload hx hb d_M_across_92 (lv_at hl 0 rfl) ?_
          refine lv_i2l (v := (1 : Int64)) hx hb d_M_across_94 (by decide) ?_
          refine lv_lload hx hb d_M_across_95 (lv_at hl 5 rfl) ?_
          refine lv_lmul hx hb d_M_across_97 ?_
          refine lv_lload_n hx hb d_M_across_98 rfl (lv_at hl 1 rfl) ?_
          refine lv_ldiv hx hb d_M_across_99 (fun z9 => by have z8 := h_59; rw [z9] at z8; exact z8 (by decide)) ?_
          refine lv_l2i (v := (((1 : Int64) * v_1) / (gcv (gcv v_1 v_4) (gcv v_30 v_56))).toInt32) hx hb d_M_across_100 rfl ?_
          refine lv_iload hx hb d_M_across_101 (lv_at hl 0 rfl) ?_
          refine lv_i2l (v := (1 : Int64)) hx hb d_M_across_103 (by decide) ?_
          refine lv_lload hx hb d_M_across_104 (lv_at hl 4 rfl) ?_
          refine lv_lmul hx hb d_M_across_106 ?_
          refine lv_lload_n hx hb d_M_across_107 rfl (lv_at hl 1 rfl) ?_
          refine lv_ldiv hx hb d_M_across_108 (fun z9 => by have z8 := h_59; rw [z9] at z8; exact z8 (by decide)) ?_
          refine lv_l2i (v := (((1 : Int64) * v_4) / (gcv (gcv v_1 v_4) (gcv v_30 v_56))).toInt32) hx hb d_M_across_109 rfl ?_
          refine lv_iload hx hb d_M_across_110 (lv_at hl 0 rfl) ?_
          refine lv_i2l (v := (1 : Int64)) hx hb d_M_across_112 (by decide) ?_
          refine lv_lload hx hb d_M_across_113 (lv_at hl 3 rfl) ?_
          refine lv_lmul hx hb d_M_across_115 ?_
          refine lv_lload_n hx hb d_M_across_116 rfl (lv_at hl 1 rfl) ?_
          refine lv_ldiv hx hb d_M_across_117 (fun z9 => by have z8 := h_59; rw [z9] at z8; exact z8 (by decide)) ?_
          refine lv_l2i (v := (((1 : Int64) * v_30) / (gcv (gcv v_1 v_4) (gcv v_30 v_56))).toInt32) hx hb d_M_across_118 rfl ?_
          refine lv_iload hx hb d_M_across_119 (lv_at hl 0 rfl) ?_
          refine lv_i2l (v := (1 : Int64)) hx hb d_M_across_121 (by decide) ?_
          refine lv_lload hx hb d_M_across_122 (lv_at hl 2 rfl) ?_
          refine lv_lmul hx hb d_M_across_124 ?_
          refine lv_lload_n hx hb d_M_across_125 rfl (lv_at hl 1 rfl) ?_
          refine lv_ldiv hx hb d_M_across_126 (fun z9 => by have z8 := h_59; rw [z9] at z8; exact z8 (by decide)) ?_
          refine lv_l2i (v := (((1 : Int64) * v_56) / (gcv (gcv v_1 v_4) (gcv v_30 v_56))).toInt32) hx hb d_M_across_127 rfl ?_
          refine cx_call (D := D) (cl := kl) (ws := _) (wc := [(m0, .inr (7, [.int th, .int (nI zs), .int (nI rn), .ref rw, .int kn, .int rk, .int (nI yn), .ref ry, .int sp, .int lg, .ref ti, .int fo, .int pt, .ref po, .ref su, .ref sq, .ref ch, .ref vt, .ref sh])), (vt, .inl (cI, 4, .inl w_60))]) (wr := [(ry, .inl (cI, 256, .inl yf)), (sq, .inl (cJ, 256, .inr (.inl q2_57))), (rw, .inl (cI, 32, .inl wf))]) (tx_runV (C := cn_M) (b := m0) (As := [.int ((((1 : Int64) * v_1) / (gcv (gcv v_1 v_4) (gcv v_30 v_56))).toInt32), .int ((((1 : Int64) * v_4) / (gcv (gcv v_1 v_4) (gcv v_30 v_56))).toInt32), .int ((((1 : Int64) * v_30) / (gcv (gcv v_1 v_4) (gcv v_30 v_56))).toInt32), .int ((((1 : Int64) * v_56) / (gcv (gcv v_1 v_4) (gcv v_30 v_56))).toInt32)]) (rest := []) hx hb hml hown (c_M_set E H.size m0 rw ry ti po su sq ch vt sh th (nI zs) (nI rn) kn rk (nI yn) sp lg fo pt ((((1 : Int64) * v_1) / (gcv (gcv v_1 v_4) (gcv v_30 v_56))).toInt32) ((((1 : Int64) * v_4) / (gcv (gcv v_1 v_4) (gcv v_30 v_56))).toInt32) ((((1 : Int64) * v_30) / (gcv (gcv v_1 v_4) (gcv v_30 v_56))).toInt32) ((((1 : Int64) * v_56) / (gcv (gcv v_1 v_4) (gcv v_30 v_56))).toInt32) w_60 ) (cx_C (b0 := b0) G hx0 mw_783 mw_9 ny_M_set (by decide)) (gw.at G hx0 mw_780 rfl _) (gw.at G hx0 mw_782 rfl _) (gw.at G hx0 ms_M_set rfl _) ⟨cx_blind, va_recv hK hP (q0 := 2) (ci := 7) (q := (cn_M, ft_M, 19)) rfl rfl, (cx_pre (s := s) hx0 hP hD hS hA0 [2, 4] rfl rfl (by decide))⟩ rfl rfl hl.1 rfl (lv_room (Nat.le_of_ble_eq_true rfl)) d_M_across_128 ⟨by decide, by decide⟩) hP hD hS hA [2, 4] [0, 1, 3] rfl rfl (by decide) (by decide) (fun v t w1 H locs ht hW9 hp hP hD hS => ?_) (fun x t w1 H locs ht hW9 hp hP hD hS => by obtain ⟨h9, -⟩ := hp; cases h9)
          obtain ⟨h9, rfl⟩ := hp
          cases h9
          refine W.eq (g2 := F0 m 131 ls []) rfl ?_
          refine W.widen (k := 0) (n := 0) (by decide) (by decide) ?_
          have hP : va_P D kl [(ry, .inl (cI, 256, .inl yf)), (sq, .inl (cJ, 256, .inr (.inl q2_57))), (rw, .inl (cI, 32, .inl wf)), (m0, .inr (7, [.int th, .int (nI zs), .int (nI rn), .ref rw, .int kn, .int rk, .int (nI yn), .ref ry, .int sp, .int lg, .ref ti, .int fo, .int pt, .ref po, .ref su, .ref sq, .ref ch, .ref vt, .ref sh])), (vt, .inl (cI, 4, .inl (upd (upd (upd (upd w_60 0 ((((1 : Int64) * v_1) / (gcv (gcv v_1 v_4) (gcv v_30 v_56))).toInt32)) 1 ((((1 : Int64) * v_4) / (gcv (gcv v_1 v_4) (gcv v_30 v_56))).toInt32)) 2 (tk_c (nI zs) ((((1 : Int64) * v_30) / (gcv (gcv v_1 v_4) (gcv v_30 v_56))).toInt32))) 3 (tk_d (nI zs) ((((1 : Int64) * v_56) / (gcv (gcv v_1 v_4) (gcv v_30 v_56))).toInt32)))))] H := hP
          have hD : va_D A [(ry, .inl (cI, 256, .inl yf)), (sq, .inl (cJ, 256, .inr (.inl q2_57))), (rw, .inl (cI, 32, .inl wf)), (m0, .inr (7, [.int th, .int (nI zs), .int (nI rn), .ref rw, .int kn, .int rk, .int (nI yn), .ref ry, .int sp, .int lg, .ref ti, .int fo, .int pt, .ref po, .ref su, .ref sq, .ref ch, .ref vt, .ref sh])), (vt, .inl (cI, 4, .inl (upd (upd (upd (upd w_60 0 ((((1 : Int64) * v_1) / (gcv (gcv v_1 v_4) (gcv v_30 v_56))).toInt32)) 1 ((((1 : Int64) * v_4) / (gcv (gcv v_1 v_4) (gcv v_30 v_56))).toInt32)) 2 (tk_c (nI zs) ((((1 : Int64) * v_30) / (gcv (gcv v_1 v_4) (gcv v_30 v_56))).toInt32))) 3 (tk_d (nI zs) ((((1 : Int64) * v_56) / (gcv (gcv v_1 v_4) (gcv v_30 v_56))).toInt32)))))] := hD
          obtain ⟨w_74, hw_74⟩ : ∃ z9 : Nat → Int32, z9 = vcs zs w_60 (1 : Int64) (gc4 (v_1, v_4, v_30, v_56)) (v_1, v_4, v_30, v_56) := ⟨_, rfl⟩
          rw [show upd (upd (upd (upd w_60 0 ((((1 : Int64) * v_1) / (gcv (gcv v_1 v_4) (gcv v_30 v_56))).toInt32)) 1 ((((1 : Int64) * v_4) / (gcv (gcv v_1 v_4) (gcv v_30 v_56))).toInt32)) 2 (tk_c (nI zs) ((((1 : Int64) * v_30) / (gcv (gcv v_1 v_4) (gcv v_30 v_56))).toInt32))) 3 (tk_d (nI zs) ((((1 : Int64) * v_56) / (gcv (gcv v_1 v_4) (gcv v_30 v_56))).toInt32)) = w_74 from hw_74.symm] at hP hD
          have hP : va_P D kl [(ry, .inl (cI, 256, .inl yf)), (sq, .inl (cJ, 256, .inr (.inl q2_57))), (rw, .inl (cI, 32, .inl wf)), (m0, .inr (7, [.int th, .int (nI zs), .int (nI rn), .ref rw, .int kn, .int rk, .int (nI yn), .ref ry, .int sp, .int lg, .ref ti, .int fo, .int pt, .ref po, .ref su, .ref sq, .ref ch, .ref vt, .ref sh])), (vt, .inl (cI, 4, .inl w_74))] H := hP
          have hD : va_D A [(ry, .inl (cI, 256, .inl yf)), (sq, .inl (cJ, 256, .inr (.inl q2_57))), (rw, .inl (cI, 32, .inl wf)), (m0, .inr (7, [.int th, .int (nI zs), .int (nI rn), .ref rw, .int kn, .int rk, .int (nI yn), .ref ry, .int sp, .int lg, .ref ti, .int fo, .int pt, .ref po, .ref su, .ref sq, .ref ch, .ref vt, .ref sh])), (vt, .inl (cI, 4, .inl w_74))] := hD
          refine lv_aload_n hx hb d_M_across_131 rfl (lv_at hl 6 rfl) ?_
          refine lv_aload_n hx hb d_M_across_132 rfl (lv_at hl 6 rfl) ?_
          refine va_get (D := D) (ci := 7) (v := .ref vt) (C := cn_M) (T := ft_M) (N := 19) hx hb hf_M (fun _ h => h) hown hK hP 3 rfl rfl 17 (by decide) (gw.at G hx0 mw_730 rfl _) (fun _ h9 => h9) rfl d_M_across_133 ?_
          refine lv_iconst (v := (0 : Int32)) hx hb d_M_across_136 (by decide) ?_
          by_cases h_75 : hld wf rn (w_74) 0
          · refine cx_call (D := D) (cl := kl) (ws := _) (wc := [(m0, .inr (7, [.int th, .int (nI zs), .int (nI rn), .ref rw, .int kn, .int rk, .int (nI yn), .ref ry, .int sp, .int lg, .ref ti, .int fo, .int pt, .ref po, .ref su, .ref sq, .ref ch, .ref vt, .ref sh])), (rw, .inl (cI, 32, .inl wf)), (vt, .inl (cI, 4, .inl w_74))]) (wr := [(ry, .inl (cI, 256, .inl yf)), (sq, .inl (cJ, 256, .inr (.inl q2_57)))]) (tx_runV (C := cn_M) (b := m0) (As := [.ref vt, .int (0 : Int32)]) (rest := []) hx hb hml hown (c_M_holdsAt_y E H.size m0 rw ry ti po su sq ch vt sh th (nI zs) kn rk (nI yn) sp lg fo pt rn wf vt 4 w_74 0 hr8 (by decide) (by decide) h_75) (cx_C (b0 := b0) G hx0 mw_836 mw_9 ny_M_holdsAt (by decide)) (gw.at G hx0 mw_833 rfl _) (gw.at G hx0 mw_835 rfl _) (gw.at G hx0 ms_M_holdsAt rfl _) ⟨cx_blind, va_recv hK hP (q0 := 3) (ci := 7) (q := (cn_M, ft_M, 19)) rfl rfl, (cx_pre (s := s) hx0 hP hD hS hA0 [3, 2, 4] rfl rfl (by decide))⟩ rfl rfl hl.1 rfl (lv_room (Nat.le_of_ble_eq_true rfl)) d_M_across_137 ⟨by decide, by decide⟩) hP hD hS hA [3, 2, 4] [0, 1] rfl rfl (by decide) (by decide) (fun v t w1 H locs ht hW9 hp hP hD hS => ?_) (fun x t w1 H locs ht hW9 hp hP hD hS => by obtain ⟨h9, -⟩ := hp; cases h9)
            obtain ⟨h9, rfl⟩ := hp
            cases h9
            refine W.eq (g2 := F0 m 140 ls [.int (1 : Int32)]) rfl ?_
            refine W.widen (k := 0) (n := 0) (by decide) (by decide) ?_
            have hP : va_P D kl [(ry, .inl (cI, 256, .inl yf)), (sq, .inl (cJ, 256, .inr (.inl q2_57))), (m0, .inr (7, [.int th, .int (nI zs), .int (nI rn), .ref rw, .int kn, .int rk, .int (nI yn), .ref ry, .int sp, .int lg, .ref ti, .int fo, .int pt, .ref po, .ref su, .ref sq, .ref ch, .ref vt, .ref sh])), (rw, .inl (cI, 32, .inl wf)), (vt, .inl (cI, 4, .inl w_74))] H := hP
            have hD : va_D A [(ry, .inl (cI, 256, .inl yf)), (sq, .inl (cJ, 256, .inr (.inl q2_57))), (m0, .inr (7, [.int th, .int (nI zs), .int (nI rn), .ref rw, .int kn, .int rk, .int (nI yn), .ref ry, .int sp, .int lg, .ref ti, .int fo, .int pt, .ref po, .ref su, .ref sq, .ref ch, .ref vt, .ref sh])), (rw, .inl (cI, 32, .inl wf)), (vt, .inl (cI, 4, .inl w_74))] := hD
            refine lv_if_eq (tgt := 147) hx hb d_M_across_140 (by decide) (fun h99 => absurd h99 (by decide)) (fun _ => ?_)
            refine lv_aload_n hx hb d_M_across_143 rfl (lv_at hl 6 rfl) ?_
            refine cx_call (D := D) (cl := kl) (ws := _) (wc := [(m0, .inr (7, [.int th, .int (nI zs), .int (nI rn), .ref rw, .int kn, .int rk, .int (nI yn), .ref ry, .int sp, .int lg, .ref ti, .int fo, .int pt, .ref po, .ref su, .ref sq, .ref ch, .ref vt, .ref sh])), (vt, .inl (cI, 4, .inl w_74)), (ry, .inl (cI, 256, .inl yf))]) (wr := [(sq, .inl (cJ, 256, .inr (.inl q2_57))), (rw, .inl (cI, 32, .inl wf))]) (tx_runV (C := cn_M) (b := m0) (As := []) (rest := []) hx hb hml hown (c_M_keepRay E H.size m0 rw ry ti po su sq ch vt sh th (nI zs) (nI rn) kn rk sp lg fo pt yn w_74 yf (by omega)) (cx_C (b0 := b0) G hx0 mw_844 mw_9 ny_M_keepRay (by decide)) (gw.at G hx0 mw_841 rfl _) (gw.at G hx0 mw_843 rfl _) (gw.at G hx0 ms_M_keepRay rfl _) ⟨cx_blind, va_recv hK hP (q0 := 2) (ci := 7) (q := (cn_M, ft_M, 19)) rfl rfl, (cx_pre (s := s) hx0 hP hD hS hA0 [2, 4, 0] rfl rfl (by decide))⟩ rfl rfl hl.1 rfl (lv_room (Nat.le_of_ble_eq_true rfl)) d_M_across_144 ⟨by decide, by decide⟩) hP hD hS hA [2, 4, 0] [1, 3] rfl rfl (by decide) (by decide) (fun v t w1 H locs ht hW9 hp hP hD hS => ?_) (fun x t w1 H locs ht hW9 hp hP hD hS => by obtain ⟨_, _, h9, -⟩ := hp; cases h9)
            obtain ⟨n2_76, f2_77, h9, f_78, f_79, f_80, rfl⟩ := hp
            cases h9
            refine W.eq (g2 := F0 m 147 ls []) rfl ?_
            refine W.widen (k := 0) (n := 0) (by decide) (by decide) ?_
            have hP : va_P D kl [(sq, .inl (cJ, 256, .inr (.inl q2_57))), (rw, .inl (cI, 32, .inl wf)), (m0, .inr (7, [.int th, .int (nI zs), .int (nI rn), .ref rw, .int kn, .int rk, .int (nI n2_76), .ref ry, .int sp, .int lg, .ref ti, .int fo, .int pt, .ref po, .ref su, .ref sq, .ref ch, .ref vt, .ref sh])), (vt, .inl (cI, 4, .inl w_74)), (ry, .inl (cI, 256, .inl f2_77))] H := hP
            have hD : va_D A [(sq, .inl (cJ, 256, .inr (.inl q2_57))), (rw, .inl (cI, 32, .inl wf)), (m0, .inr (7, [.int th, .int (nI zs), .int (nI rn), .ref rw, .int kn, .int rk, .int (nI n2_76), .ref ry, .int sp, .int lg, .ref ti, .int fo, .int pt, .ref po, .ref su, .ref sq, .ref ch, .ref vt, .ref sh])), (vt, .inl (cI, 4, .inl w_74)), (ry, .inl (cI, 256, .inl f2_77))] := hD
            refine lv_iinc (lv' := [(12, .int (3 : Int32)), (2, .long (gcv (gcv v_1 v_4) (gcv v_30 v_56))), (10, .long v_56), (8, .long v_30), (6, .long v_4), (4, .long v_1), (0, .ref m0), (1, .int (nI x))]) (k := 0) (v := (3 : Int32)) hx hb d_M_across_147 hl rfl (by decide) (by decide) rfl (fun ls hl => ?_)
            refine lv_goto (tgt := 79) hx hb d_M_across_150 (by decide) ?_
            refine lv_iload hx hb d_M_across_79 (lv_at hl 0 rfl) ?_
            refine lv_iconst (v := (2 : Int32)) hx hb d_M_across_81 (by decide) ?_
            refine lv_icmp_ge (tgt := 153) hx hb d_M_across_82 (by decide) (fun _ => ?_) (fun h99 => absurd h99 (by decide))
            exact tx_mono (fun _ h => tx_Z.of h) (W.vret hx hb hr (fun t ht hW => ⟨⟨[(m0, .inr (7, [.int th, .int (nI zs), .int (nI rn), .ref rw, .int kn, .int rk, .int (nI n2_76), .ref ry, .int sp, .int lg, .ref ti, .int fo, .int pt, .ref po, .ref su, .ref sq, .ref ch, .ref vt, .ref sh])), (rw, .inl (cI, 32, .inl wf)), (ry, .inl (cI, 256, .inl f2_77)), (vt, .inl (cI, 4, .inl w_74)), (sq, .inl (cJ, 256, .inr (.inl q2_57)))], ⟨(v_1, v_4, v_30, v_56), n2_76, f2_77, w_74, q2_57, rfl, mn4_4 f_3 f_6 f_32 f_58 h_7 h_33, acr_y ((lg_cmp_gt _ _).mp (Int32.not_le.mp h_59)) (hw_60 ▸ ast_n (hw_60 ▸ h_61)) (hw_74 ▸ ast_y (hw_74 ▸ h_75) (hw_74 ▸ f_78) (hw_74 ▸ f_79)), by omega, rfl⟩, by rw [ht]; exact hP.sub [2, 1, 4, 3, 0] rfl, hD.sub [2, 1, 4, 3, 0] (by decide) rfl⟩, hS.F ht⟩) hS.2.2 d_M_across_153)
          · refine cx_call (D := D) (cl := kl) (ws := _) (wc := [(m0, .inr (7, [.int th, .int (nI zs), .int (nI rn), .ref rw, .int kn, .int rk, .int (nI yn), .ref ry, .int sp, .int lg, .ref ti, .int fo, .int pt, .ref po, .ref su, .ref sq, .ref ch, .ref vt, .ref sh])), (rw, .inl (cI, 32, .inl wf)), (vt, .inl (cI, 4, .inl w_74))]) (wr := [(ry, .inl (cI, 256, .inl yf)), (sq, .inl (cJ, 256, .inr (.inl q2_57)))]) (tx_runV (C := cn_M) (b := m0) (As := [.ref vt, .int (0 : Int32)]) (rest := []) hx hb hml hown (c_M_holdsAt_n E H.size m0 rw ry ti po su sq ch vt sh th (nI zs) kn rk (nI yn) sp lg fo pt rn wf vt 4 w_74 0 hr8 (by decide) (by decide) h_75) (cx_C (b0 := b0) G hx0 mw_836 mw_9 ny_M_holdsAt (by decide)) (gw.at G hx0 mw_833 rfl _) (gw.at G hx0 mw_835 rfl _) (gw.at G hx0 ms_M_holdsAt rfl _) ⟨cx_blind, va_recv hK hP (q0 := 3) (ci := 7) (q := (cn_M, ft_M, 19)) rfl rfl, (cx_pre (s := s) hx0 hP hD hS hA0 [3, 2, 4] rfl rfl (by decide))⟩ rfl rfl hl.1 rfl (lv_room (Nat.le_of_ble_eq_true rfl)) d_M_across_137 ⟨by decide, by decide⟩) hP hD hS hA [3, 2, 4] [0, 1] rfl rfl (by decide) (by decide) (fun v t w1 H locs ht hW9 hp hP hD hS => ?_) (fun x t w1 H locs ht hW9 hp hP hD hS => by obtain ⟨h9, -⟩ := hp; cases h9)
            obtain ⟨h9, rfl⟩ := hp
            cases h9
            refine W.eq (g2 := F0 m 140 ls [.int (0 : Int32)]) rfl ?_
            refine W.widen (k := 0) (n := 0) (by decide) (by decide) ?_
            have hP : va_P D kl [(ry, .inl (cI, 256, .inl yf)), (sq, .inl (cJ, 256, .inr (.inl q2_57))), (m0, .inr (7, [.int th, .int (nI zs), .int (nI rn), .ref rw, .int kn, .int rk, .int (nI yn), .ref ry, .int sp, .int lg, .ref ti, .int fo, .int pt, .ref po, .ref su, .ref sq, .ref ch, .ref vt, .ref sh])), (rw, .inl (cI, 32, .inl wf)), (vt, .inl (cI, 4, .inl w_74))] H := hP
            have hD : va_D A [(ry, .inl (cI, 256, .inl yf)), (sq, .inl (cJ, 256, .inr (.inl q2_57))), (m0, .inr (7, [.int th, .int (nI zs), .int (nI rn), .ref rw, .int kn, .int rk, .int (nI yn), .ref ry, .int sp, .int lg, .ref ti, .int fo, .int pt, .ref po, .ref su, .ref sq, .ref ch, .ref vt, .ref sh])), (rw, .inl (cI, 32, .inl wf)), (vt, .inl (cI, 4, .inl w_74))] := hD
            refine lv_if_eq (tgt := 147) hx hb d_M_across_140 (by decide) (fun _ => ?_) (fun h99 => absurd h99 (by decide))
            refine lv_iinc (lv' := [(12, .int (3 : Int32)), (2, .long (gcv (gcv v_1 v_4) (gcv v_30 v_56))), (10, .long v_56), (8, .long v_30), (6, .long v_4), (4, .long v_1), (0, .ref m0), (1, .int (nI x))]) (k := 0) (v := (3 : Int32)) hx hb d_M_across_147 hl rfl (by decide) (by decide) rfl (fun ls hl => ?_)
            refine lv_goto (tgt := 79) hx hb d_M_across_150 (by decide) ?_
            refine lv_iload hx hb d_M_across_79 (lv_at hl 0 rfl) ?_
            refine lv_iconst (v := (2 : Int32)) hx hb d_M_across_81 (by decide) ?_
            refine lv_icmp_ge (tgt := 153) hx hb d_M_across_82 (by decide) (fun _ => ?_) (fun h99 => absurd h99 (by decide))
            exact tx_mono (fun _ h => tx_Z.of h) (W.vret hx hb hr (fun t ht hW => ⟨⟨[(m0, .inr (7, [.int th, .int (nI zs), .int (nI rn), .ref rw, .int kn, .int rk, .int (nI yn), .ref ry, .int sp, .int lg, .ref ti, .int fo, .int pt, .ref po, .ref su, .ref sq, .ref ch, .ref vt, .ref sh])), (rw, .inl (cI, 32, .inl wf)), (ry, .inl (cI, 256, .inl yf)), (vt, .inl (cI, 4, .inl w_74)), (sq, .inl (cJ, 256, .inr (.inl q2_57)))], ⟨(v_1, v_4, v_30, v_56), yn, yf, w_74, q2_57, rfl, mn4_4 f_3 f_6 f_32 f_58 h_7 h_33, acr_y ((lg_cmp_gt _ _).mp (Int32.not_le.mp h_59)) (hw_60 ▸ ast_n (hw_60 ▸ h_61)) (hw_74 ▸ ast_n (hw_74 ▸ h_75)), by omega, rfl⟩, by rw [ht]; exact hP.sub [2, 3, 0, 4, 1] rfl, hD.sub [2, 3, 0, 4, 1] (by decide) rfl⟩, hS.F ht⟩) hS.2.2 d_M_across_153)

