/-! ===== own rows, laid by wip/tools/g39.py: the reference, what it puts into its square ===== -/
/-- coordinates of row r but for one, put into the square -/
def mf1 (wf : Nat → Int32) (r wo : Nat) : Nat → Nat × (Nat → Int64) → Nat × (Nat → Int64)
  | 0, p => p
  | i + 1, p => if i = wo then mf1 wf r wo i p else ((mf1 wf r wo i p).1 + 1, vp_updL (mf1 wf r wo i p).2 (mf1 wf r wo i p).1 (wf (4 * r + i)).toInt64)
theorem mf1_n {wf : Nat → Int32} {r wo i : Nat} {p q : Nat × (Nat → Int64)} (h : mf1 wf r wo i p = q) (e : i = wo) : mf1 wf r wo (i + 1) p = q := by
  show (if i = wo then _ else _) = _
  rw [if_pos e, h]
theorem mf1_y {wf : Nat → Int32} {r wo i a : Nat} {p : Nat × (Nat → Int64)} {f : Nat → Int64} (h : mf1 wf r wo i p = (a, f)) (e : ¬ i = wo) : mf1 wf r wo (i + 1) p = (a + 1, vp_updL f a (wf (4 * r + i)).toInt64) := by
  show (if i = wo then _ else _) = _
  rw [if_neg e, h]
def mf2 (wf : Nat → Int32) (x zs wo : Nat) : Nat → Nat × (Nat → Int64) → Nat × (Nat → Int64)
  | 0, p => p
  | r + 1, p => if (x / 2 ^ r) % 2 = 1 then mf1 wf r wo zs (mf2 wf x zs wo r p) else mf2 wf x zs wo r p
theorem mf2_y {wf : Nat → Int32} {x zs wo r : Nat} {p q t : Nat × (Nat → Int64)} (h : mf2 wf x zs wo r p = q) (e : (x / 2 ^ r) % 2 = 1) (h2 : mf1 wf r wo zs q = t) : mf2 wf x zs wo (r + 1) p = t := by
  show (if (x / 2 ^ r) % 2 = 1 then _ else _) = _
  rw [if_pos e, h, h2]
theorem mf2_n {wf : Nat → Int32} {x zs wo r : Nat} {p q : Nat × (Nat → Int64)} (h : mf2 wf x zs wo r p = q) (e : ¬ (x / 2 ^ r) % 2 = 1) : mf2 wf x zs wo (r + 1) p = q := by
  show (if (x / 2 ^ r) % 2 = 1 then _ else _) = _
  rw [if_neg e, h]
/-- the determinant of the chosen rows without a coordinate, with its sign; and the square -/
def mnr (wf : Nat → Int32) (rn zs x wo : Nat) (q : Nat → Int64) : Int64 × (Nat → Int64) :=
  (if wo % 2 = 0 then (wth (zs - 1) (zs - 1) 0 (mf2 wf x zs wo rn (0, q)).2 1 1).1 else -(wth (zs - 1) (zs - 1) 0 (mf2 wf x zs wo rn (0, q)).2 1 1).1, (wth (zs - 1) (zs - 1) 0 (mf2 wf x zs wo rn (0, q)).2 1 1).2)
-- determinants of rays
def dt1 (yf : Nat → Int32) (c y : Nat) : Nat → Nat × (Nat → Int64) → Nat × (Nat → Int64)
  | 0, p => p
  | i + 1, p => if (y / 2 ^ i) % 2 = 1 then ((dt1 yf c y i p).1 + 1, vp_updL (dt1 yf c y i p).2 (dt1 yf c y i p).1 (yf (4 * c + i)).toInt64) else dt1 yf c y i p
theorem dt1_y {yf : Nat → Int32} {c y i a : Nat} {p : Nat × (Nat → Int64)} {f : Nat → Int64} (h : dt1 yf c y i p = (a, f)) (e : (y / 2 ^ i) % 2 = 1) : dt1 yf c y (i + 1) p = (a + 1, vp_updL f a (yf (4 * c + i)).toInt64) := by
  show (if (y / 2 ^ i) % 2 = 1 then _ else _) = _
  rw [if_pos e, h]
theorem dt1_n {yf : Nat → Int32} {c y i : Nat} {p q : Nat × (Nat → Int64)} (h : dt1 yf c y i p = q) (e : ¬ (y / 2 ^ i) % 2 = 1) : dt1 yf c y (i + 1) p = q := by
  show (if (y / 2 ^ i) % 2 = 1 then _ else _) = _
  rw [if_neg e, h]
def dt2 (yf : Nat → Int32) (ck : Nat → Nat) (y : Nat) : Nat → Nat × (Nat → Int64) → Nat × (Nat → Int64)
  | 0, p => p
  | k + 1, p => dt1 yf (ck k) y 4 (dt2 yf ck y k p)
theorem dt2_s {yf : Nat → Int32} {ck : Nat → Nat} {y k : Nat} {p q t : Nat × (Nat → Int64)} (h : dt2 yf ck y k p = q) (h2 : dt1 yf (ck k) y 4 q = t) : dt2 yf ck y (k + 1) p = t := by
  show dt1 yf (ck k) y 4 (dt2 yf ck y k p) = _
  rw [h, h2]
def dtm (yf : Nat → Int32) (ck : Nat → Nat) (n y : Nat) (q : Nat → Int64) : Int64 × (Nat → Int64) := wth n n 0 (dt2 yf ck y n (0, q)).2 1 1
-- ranks of rays
def bitI (sx : Int32) (k : Nat) : Prop := (sx >>> (nI k &&& 31)) &&& (1 : Int32) = (1 : Int32)
noncomputable def dmf (yf : Nat → Int32) (sx : Int32) : Nat → Nat × (Nat → Int64) → Nat × (Nat → Int64)
  | 0, p => p
  | k + 1, p => @ite _ (bitI sx k) (Classical.propDecidable _) ((dmf yf sx k p).1 + 1, vp_updL (vp_updL (vp_updL (vp_updL (dmf yf sx k p).2 (4 * (dmf yf sx k p).1 + 0) (yf (4 * k + 0)).toInt64) (4 * (dmf yf sx k p).1 + 1) (yf (4 * k + 1)).toInt64) (4 * (dmf yf sx k p).1 + 2) (yf (4 * k + 2)).toInt64) (4 * (dmf yf sx k p).1 + 3) (yf (4 * k + 3)).toInt64) (dmf yf sx k p)
theorem dmf_y {yf : Nat → Int32} {sx : Int32} {k n : Nat} {p : Nat × (Nat → Int64)} {f : Nat → Int64} (h : dmf yf sx k p = (n, f)) (e : bitI sx k) : dmf yf sx (k + 1) p = (n + 1, vp_updL (vp_updL (vp_updL (vp_updL f (4 * n + 0) (yf (4 * k + 0)).toInt64) (4 * n + 1) (yf (4 * k + 1)).toInt64) (4 * n + 2) (yf (4 * k + 2)).toInt64) (4 * n + 3) (yf (4 * k + 3)).toInt64) := by
  show @ite _ (bitI sx k) (Classical.propDecidable _) _ _ = _
  rw [@if_pos _ (Classical.propDecidable _) e, h]
theorem dmf_n {yf : Nat → Int32} {sx : Int32} {k : Nat} {p q : Nat × (Nat → Int64)} (h : dmf yf sx k p = q) (e : ¬ bitI sx k) : dmf yf sx (k + 1) p = q := by
  show @ite _ (bitI sx k) (Classical.propDecidable _) _ _ = _
  rw [@if_neg _ (Classical.propDecidable _) e, h]
noncomputable def dmo (yf : Nat → Int32) (yn : Nat) (sx : Int32) (q : Nat → Int64) : Nat × (Nat → Int64) := rkf (dmf yf sx yn (0, q)).1 (dmf yf sx yn (0, q)).2 4
-- a choice of rays
def chs (x : Nat) : Nat → Nat × (Nat → Nat) → Nat × (Nat → Nat)
  | 0, p => p
  | k + 1, p => if (x / 2 ^ k) % 2 = 1 then ((chs x k p).1 + 1, updN (chs x k p).2 (chs x k p).1 k) else chs x k p
theorem chs_y {x k n : Nat} {p : Nat × (Nat → Nat)} {f : Nat → Nat} (h : chs x k p = (n, f)) (e : (x / 2 ^ k) % 2 = 1) : chs x (k + 1) p = (n + 1, updN f n k) := by
  show (if (x / 2 ^ k) % 2 = 1 then _ else _) = _
  rw [if_pos e, h]
theorem chs_n {x k : Nat} {p q : Nat × (Nat → Nat)} (h : chs x k p = q) (e : ¬ (x / 2 ^ k) % 2 = 1) : chs x (k + 1) p = q := by
  show (if (x / 2 ^ k) % 2 = 1 then _ else _) = _
  rw [if_neg e, h]
set_option maxHeartbeats 4000000 in
set_option maxRecDepth 100000 in
theorem c_M_minor0 {l : Launch} {s0 : State} {b0 : Addr} {D : va_G} {cI cJ cZ : ClassId} {tC tS : Nat} (E : gE l s0 b0 D cI cJ cZ tC tS) (sz : Nat) (m0 : Nat) (rw : Nat) (ry : Nat) (ti : Nat) (po : Nat) (su : Nat) (sq : Nat) (ch : Nat) (vt : Nat) (sh : Nat) (th : Int32) (kn : Int32) (rk : Int32) (y1 : Int32) (sp : Int32) (lg : Int32) (fo : Int32) (pt : Int32) (zs : Nat) (rn : Nat) (wf : Nat → Int32) (qf : Nat → Int64) (x : Nat) (hz2 : 2 ≤ zs) (hz4 : zs ≤ 4) (hr8 : rn ≤ 8) (hx8 : x < 2 ^ 31) : cx_M l s0 D kl y_M_minor b_M_minor 6 (some .long) ({ frames := 1, cells := 0, slots := 0, locals := 29 } : Room) 0 0 [.ref m0, .int (nI x), .int (0 : Int32)] [(m0, .inr (7, [.int th, .int (nI zs), .int (nI rn), .ref rw, .int kn, .int rk, .int y1, .ref ry, .int sp, .int lg, .ref ti, .int fo, .int pt, .ref po, .ref su, .ref sq, .ref ch, .ref vt, .ref sh])), (rw, .inl (cI, 32, .inl wf)), (sq, .inl (cJ, 256, .inr (.inl qf)))] sz (fun o9 _ w9 => ∃ (v : Int64) (q2 : Nat → Int64), o9 = .returned (some (.long v)) ∧ mnr wf rn zs x 0 qf = (v, q2) ∧ w9 = [(m0, .inr (7, [.int th, .int (nI zs), .int (nI rn), .ref rw, .int kn, .int rk, .int y1, .ref ry, .int sp, .int lg, .ref ti, .int fo, .int pt, .ref po, .ref su, .ref sq, .ref ch, .ref vt, .ref sh])), (rw, .inl (cI, 32, .inl wf)), (sq, .inl (cJ, 256, .inr (.inl q2)))]) := by
  refine tx_ofW (cc := b_M_minor) (maxL := 6) (ret := (some .long)) (by decide) rfl ?_
  intro p e s m args below meth c s₁ B hml hT hv
  obtain ⟨rfl, hsz, hP, hD0, hx0⟩ := hv
  have hx := B.exec
  have hb := B.bytes
  have hr := B.returns
  have G := E.2.1
  have hown : s.vm.findClass cn_M = some m.cls := findClass_of_methodNamed B.named
  have hlocks := B.notSynchronized
  have hK := va_K.moved hx0.1.alike E.2.2.1
  have hf_M : ∀ w99 ∈ u_ws cn_M ft_M 19, w99.before ([.ref m0, .int (nI x), .int (0 : Int32)] : List Value).toArray s = true := fun w99 h99 => gw.at G hx0 (fw_M w99 h99) (fo_M w99 h99) _
  subst hsz
  have hA0 := cx_new hD0 hx0.2.1
  have hD := hD0.self (sz := s.heap.size)
  generalize hAe : va_A [(m0, .inr (7, [.int th, .int (nI zs), .int (nI rn), .ref rw, .int kn, .int rk, .int y1, .ref ry, .int sp, .int lg, .ref ti, .int fo, .int pt, .ref po, .ref su, .ref sq, .ref ch, .ref vt, .ref sh])), (rw, .inl (cI, 32, .inl wf)), (sq, .inl (cJ, 256, .inr (.inl qf)))] s.heap.size = A at hD hA0 ⊢
  have hA : ∀ q : Nat, s.heap.size ≤ q → A q := fun q h => by rw [← hAe]; exact Or.inr h
  have hS : va_S A s.heap s.heap [] := va_S.rf
  have hl := lv_entry ([.ref m0, .int (nI x), .int (0 : Int32)]) (n := 6) (Nat.le_of_ble_eq_true rfl)
  rw [lg_entry_eq]
  generalize (lg_sl ([.ref m0, .int (nI x), .int (0 : Int32)]) ++ List.replicate (6 - (lg_sl ([.ref m0, .int (nI x), .int (0 : Int32)])).length) Slot.unset).toArray = ls at hl ⊢
  have hl : lv_has ls 6 [(0, .ref m0), (1, .int (nI x)), (2, .int (0 : Int32))] := hl
  have hP : va_P D kl [(m0, .inr (7, [.int th, .int (nI zs), .int (nI rn), .ref rw, .int kn, .int rk, .int y1, .ref ry, .int sp, .int lg, .ref ti, .int fo, .int pt, .ref po, .ref su, .ref sq, .ref ch, .ref vt, .ref sh])), (rw, .inl (cI, 32, .inl wf)), (sq, .inl (cJ, 256, .inr (.inl qf)))] s.heap := hP
  have hml : c.maxLocals = 6 := hml
  generalize hQe : tx_Z below (cx_Q D kl A (fun o9 _ w9 => ∃ (v : Int64) (q2 : Nat → Int64), o9 = .returned (some (.long v)) ∧ mnr wf rn zs x 0 qf = (v, q2) ∧ w9 = [(m0, .inr (7, [.int th, .int (nI zs), .int (nI rn), .ref rw, .int kn, .int rk, .int y1, .ref ry, .int sp, .int lg, .ref ti, .int fo, .int pt, .ref po, .ref su, .ref sq, .ref ch, .ref vt, .ref sh])), (rw, .inl (cI, 32, .inl wf)), (sq, .inl (cJ, 256, .inr (.inl q2)))])) ([.ref m0, .int (nI x), .int (0 : Int32)] : List Value).toArray s 0 0 A = Q
  refine lv_iconst (v := (0 : Int32)) hx hb d_M_minor_0 (by decide) ?_
  refine lv_istore_n (lv' := [(3, .int (0 : Int32)), (0, .ref m0), (1, .int (nI x)), (2, .int (0 : Int32))]) hx hb d_M_minor_1 rfl hl (by decide) rfl (fun ls hl => ?_)
  refine lv_iconst (v := (0 : Int32)) hx hb d_M_minor_2 (by decide) ?_
  refine lv_istore (lv' := [(4, .int (0 : Int32)), (3, .int (0 : Int32)), (0, .ref m0), (1, .int (nI x)), (2, .int (0 : Int32))]) hx hb d_M_minor_3 hl (by decide) rfl (fun ls hl => ?_)
  have lp_5 : ∀ (n9 : Nat) (r : Nat) (a1 : Nat) (f1 : Nat → Int64) (ls : Array Slot) (H : Heap) (locs : List Loc), rn - r = n9 → (mf2 wf x zs 0 r (0, qf) = (a1, f1)) → (r ≤ rn) → (a1 ≤ 4 * r) → lv_has ls 6 [(4, .int (nI r)), (3, .int (nI a1)), (0, .ref m0), (1, .int (nI x)), (2, .int (0 : Int32))] → va_P D kl [(m0, .inr (7, [.int th, .int (nI zs), .int (nI rn), .ref rw, .int kn, .int rk, .int y1, .ref ry, .int sp, .int lg, .ref ti, .int fo, .int pt, .ref po, .ref su, .ref sq, .ref ch, .ref vt, .ref sh])), (rw, .inl (cI, 32, .inl wf)), (sq, .inl (cJ, 256, .inr (.inl f1)))] H → va_D A [(m0, .inr (7, [.int th, .int (nI zs), .int (nI rn), .ref rw, .int kn, .int rk, .int y1, .ref ry, .int sp, .int lg, .ref ti, .int fo, .int pt, .ref po, .ref su, .ref sq, .ref ch, .ref vt, .ref sh])), (rw, .inl (cI, 32, .inl wf)), (sq, .inl (cJ, 256, .inr (.inl f1)))] → va_S A s.heap H locs → W p l e ({ frames := 1, cells := 0, slots := 0, locals := 29 } : Room) s m ([.ref m0, .int (nI x), .int (0 : Int32)] : List Value).toArray below meth c H locs 0 0 Q (F0 m 5 ls []) := by
    intro n9
    induction n9 using Nat.strongRecOn with
    | ind n9 ih_5 =>
      intro r a1 f1 ls H locs hm_5 hm2 hr9 ha1 hl hP hD hS
      refine lv_iload hx hb d_M_minor_5 (lv_at hl 0 rfl) ?_
      refine lv_aload_n hx hb d_M_minor_7 rfl (lv_at hl 2 rfl) ?_
      refine va_get (D := D) (ci := 7) (v := .int (nI rn)) (C := cn_M) (T := ft_M) (N := 19) hx hb hf_M (fun _ h => h) hown hK hP 0 rfl rfl 2 (by decide) (gw.at G hx0 mw_715 rfl _) (fun _ h9 => h9) rfl d_M_minor_8 ?_
      refine lv_icmp_ge (tgt := 76) hx hb d_M_minor_11 (by decide) (fun h_1 => ?_) (fun h_1 => ?_)
      · have h_1 : rn ≤ r := (nI_leI (a := rn) (b := r) (by omega) (by omega)).mp h_1
        have hrr : r = rn := by omega
        rw [hrr] at hm2
        refine lv_aload_n hx hb d_M_minor_76 rfl (lv_at hl 2 rfl) ?_
        refine lv_aload_n hx hb d_M_minor_77 rfl (lv_at hl 2 rfl) ?_
        refine va_get (D := D) (ci := 7) (v := .int (nI zs)) (C := cn_M) (T := ft_M) (N := 19) hx hb hf_M (fun _ h => h) hown hK hP 0 rfl rfl 1 (by decide) (gw.at G hx0 mw_714 rfl _) (fun _ h9 => h9) rfl d_M_minor_78 ?_
        refine lv_iconst (v := (1 : Int32)) hx hb d_M_minor_81 (by decide) ?_
        refine lv_isub hx hb d_M_minor_82 ?_
        refine tp_i (y := nI (zs - 1)) (nI_sub (a := zs) (b := 1) (by omega)) ?_
        refine cx_call (D := D) (cl := kl) (ws := _) (wc := [(m0, .inr (7, [.int th, .int (nI zs), .int (nI rn), .ref rw, .int kn, .int rk, .int y1, .ref ry, .int sp, .int lg, .ref ti, .int fo, .int pt, .ref po, .ref su, .ref sq, .ref ch, .ref vt, .ref sh])), (sq, .inl (cJ, 256, .inr (.inl f1)))]) (wr := [(rw, .inl (cI, 32, .inl wf))]) (tx_runV (C := cn_M) (b := m0) (As := [.int (nI (zs - 1))]) (rest := []) hx hb hml hown (c_M_worth E H.size m0 rw ry ti po su sq ch vt sh th (nI zs) (nI rn) kn rk y1 sp lg fo pt f1 (zs - 1) (by omega)) (cx_C (b0 := b0) G hx0 mw_832 mw_9 ny_M_worth (by decide)) (gw.at G hx0 mw_829 rfl _) (gw.at G hx0 mw_831 rfl _) (gw.at G hx0 ms_M_worth rfl _) ⟨cx_blind, va_recv hK hP (q0 := 0) (ci := 7) (q := (cn_M, ft_M, 19)) rfl rfl, (cx_pre (s := s) hx0 hP hD hS hA0 [0, 2] rfl rfl (by decide))⟩ rfl rfl hl.1 rfl (lv_room (Nat.le_of_ble_eq_true rfl)) d_M_minor_83 ⟨by decide, by decide⟩) hP hD hS hA [0, 2] [1] rfl rfl (by decide) (by decide) (fun v t w1 H locs ht hW9 hp hP hD hS => ?_) (fun x t w1 H locs ht hW9 hp hP hD hS => by obtain ⟨h9, -⟩ := hp; cases h9)
        obtain ⟨h9, rfl⟩ := hp
        cases h9
        refine W.eq (g2 := F0 m 86 ls [.long ((wth (zs - 1) (zs - 1) 0 f1 1 1).1)]) rfl ?_
        refine W.widen (k := 0) (n := 0) (by decide) (by decide) ?_
        have hP : va_P D kl [(rw, .inl (cI, 32, .inl wf)), (m0, .inr (7, [.int th, .int (nI zs), .int (nI rn), .ref rw, .int kn, .int rk, .int y1, .ref ry, .int sp, .int lg, .ref ti, .int fo, .int pt, .ref po, .ref su, .ref sq, .ref ch, .ref vt, .ref sh])), (sq, .inl (cJ, 256, .inr (.inl ((wth (zs - 1) (zs - 1) 0 f1 1 1).2))))] H := hP
        have hD : va_D A [(rw, .inl (cI, 32, .inl wf)), (m0, .inr (7, [.int th, .int (nI zs), .int (nI rn), .ref rw, .int kn, .int rk, .int y1, .ref ry, .int sp, .int lg, .ref ti, .int fo, .int pt, .ref po, .ref su, .ref sq, .ref ch, .ref vt, .ref sh])), (sq, .inl (cJ, 256, .inr (.inl ((wth (zs - 1) (zs - 1) 0 f1 1 1).2))))] := hD
        refine lv_lstore (lv' := [(4, .long ((wth (zs - 1) (zs - 1) 0 f1 1 1).1)), (3, .int (nI a1)), (0, .ref m0), (1, .int (nI x)), (2, .int (0 : Int32))]) hx hb d_M_minor_86 hl (by decide) rfl (fun ls hl => ?_)
        refine lv_iload_n hx hb d_M_minor_88 rfl (lv_at hl 4 rfl) ?_
        refine lv_iconst (v := (2 : Int32)) hx hb d_M_minor_89 (by decide) ?_
        refine lv_irem hx hb d_M_minor_90 (by decide) ?_
        refine tp_i (y := (0 : Int32)) (by decide) ?_
        refine lv_if_ne (tgt := 99) hx hb d_M_minor_91 (by decide) (fun h99 => absurd h99 (by decide)) (fun _ => ?_)
        refine lv_lload hx hb d_M_minor_94 (lv_at hl 0 rfl) ?_
        refine lv_goto (tgt := 102) hx hb d_M_minor_96 (by decide) ?_
        rw [← hQe]
        exact tx_mono (fun _ h => tx_Z.of h) (W.lret (v := (wth (zs - 1) (zs - 1) 0 f1 1 1).1) hx hb hr (fun t ht hW => ⟨⟨[(m0, .inr (7, [.int th, .int (nI zs), .int (nI rn), .ref rw, .int kn, .int rk, .int y1, .ref ry, .int sp, .int lg, .ref ti, .int fo, .int pt, .ref po, .ref su, .ref sq, .ref ch, .ref vt, .ref sh])), (rw, .inl (cI, 32, .inl wf)), (sq, .inl (cJ, 256, .inr (.inl ((wth (zs - 1) (zs - 1) 0 f1 1 1).2))))], ⟨((wth (zs - 1) (zs - 1) 0 f1 1 1).1), ((wth (zs - 1) (zs - 1) 0 f1 1 1).2), rfl, (by unfold mnr; rw [hm2]; rfl), rfl⟩, by rw [ht]; exact hP.sub [1, 0, 2] rfl, hD.sub [1, 0, 2] (by decide) rfl⟩, hS.F ht⟩) hS.2.2 d_M_minor_102)
      · have h_1 : ¬ (rn ≤ r) := fun z99 => h_1 ((nI_leI (a := rn) (b := r) (by omega) (by omega)).mpr z99)
        refine lv_iconst (v := (0 : Int32)) hx hb d_M_minor_14 (by decide) ?_
        refine lv_istore (lv' := [(5, .int (0 : Int32)), (4, .int (nI r)), (3, .int (nI a1)), (0, .ref m0), (1, .int (nI x)), (2, .int (0 : Int32))]) hx hb d_M_minor_15 hl (by decide) rfl (fun ls hl => ?_)
        have lp_17 : ∀ (n9 : Nat) (i : Nat) (a2 : Nat) (f2 : Nat → Int64) (ls : Array Slot) (H : Heap) (locs : List Loc), zs - i = n9 → (mf1 wf r 0 i (a1, f1) = (a2, f2)) → (i ≤ zs) → (a2 ≤ a1 + i) → (0 < i → (x / 2 ^ r) % 2 = 1) → lv_has ls 6 [(5, .int (nI i)), (4, .int (nI r)), (3, .int (nI a2)), (0, .ref m0), (1, .int (nI x)), (2, .int (0 : Int32))] → va_P D kl [(m0, .inr (7, [.int th, .int (nI zs), .int (nI rn), .ref rw, .int kn, .int rk, .int y1, .ref ry, .int sp, .int lg, .ref ti, .int fo, .int pt, .ref po, .ref su, .ref sq, .ref ch, .ref vt, .ref sh])), (rw, .inl (cI, 32, .inl wf)), (sq, .inl (cJ, 256, .inr (.inl f2)))] H → va_D A [(m0, .inr (7, [.int th, .int (nI zs), .int (nI rn), .ref rw, .int kn, .int rk, .int y1, .ref ry, .int sp, .int lg, .ref ti, .int fo, .int pt, .ref po, .ref su, .ref sq, .ref ch, .ref vt, .ref sh])), (rw, .inl (cI, 32, .inl wf)), (sq, .inl (cJ, 256, .inr (.inl f2)))] → va_S A s.heap H locs → W p l e ({ frames := 1, cells := 0, slots := 0, locals := 29 } : Room) s m ([.ref m0, .int (nI x), .int (0 : Int32)] : List Value).toArray below meth c H locs 0 0 Q (F0 m 17 ls []) := by
          intro n9
          induction n9 using Nat.strongRecOn with
          | ind n9 ih_17 =>
            intro i a2 f2 ls H locs hm_17 hm1 hi9 ha2 hib hl hP hD hS
            refine lv_iload hx hb d_M_minor_17 (lv_at hl 0 rfl) ?_
            refine lv_aload_n hx hb d_M_minor_19 rfl (lv_at hl 3 rfl) ?_
            refine va_get (D := D) (ci := 7) (v := .int (nI zs)) (C := cn_M) (T := ft_M) (N := 19) hx hb hf_M (fun _ h => h) hown hK hP 0 rfl rfl 1 (by decide) (gw.at G hx0 mw_714 rfl _) (fun _ h9 => h9) rfl d_M_minor_20 ?_
            refine lv_icmp_ge (tgt := 70) hx hb d_M_minor_23 (by decide) (fun h_2 => ?_) (fun h_2 => ?_)
            · have h_2 : zs ≤ i := (nI_leI (a := zs) (b := i) (by omega) (by omega)).mp h_2
              refine lv_iinc (lv' := [(4, .int (nI (r + 1))), (5, .int (nI i)), (3, .int (nI a2)), (0, .ref m0), (1, .int (nI x)), (2, .int (0 : Int32))]) (k := 1) (v := nI (r + 1)) hx hb d_M_minor_70 hl rfl (nI_add r 1) (by decide) rfl (fun ls hl => ?_)
              refine lv_goto (tgt := 5) hx hb d_M_minor_73 (by decide) ?_
              exact ih_5 _ (by omega) (r + 1) a2 f2 ls H locs rfl (mf2_y hm2 (hib (by omega)) ((show i = zs by omega) ▸ hm1)) (by omega) (by omega) (lv_sub hl [0, 2, 3, 4, 5] rfl) (hP.sub [0, 1, 2] rfl) (hD.sub [0, 1, 2] (by decide) rfl) hS
            · have h_2 : ¬ (zs ≤ i) := fun z99 => h_2 ((nI_leI (a := zs) (b := i) (by omega) (by omega)).mpr z99)
              refine lv_iload_n hx hb d_M_minor_26 rfl (lv_at hl 4 rfl) ?_
              refine lv_iload hx hb d_M_minor_27 (lv_at hl 1 rfl) ?_
              refine lv_ishr hx hb d_M_minor_29 ?_
              refine tp_i (y := nI (x / 2 ^ r)) (nI_shr (n := x) (p := r) (by omega) (by omega)) ?_
              refine lv_iconst (v := (1 : Int32)) hx hb d_M_minor_30 (by decide) ?_
              refine lv_iand hx hb d_M_minor_31 ?_
              refine tp_i (y := nI ((x / 2 ^ r) % 2)) (nI_and1 _) ?_
              refine lv_iconst (v := (1 : Int32)) hx hb d_M_minor_32 (by decide) ?_
              refine lv_icmp_ne (tgt := 70) hx hb d_M_minor_33 (by decide) (fun h_3 => ?_) (fun h_3 => ?_)
              · have h_3 : ¬ (((x / 2 ^ r) % 2) = 1) := fun z99 => h_3 ((nI_eq (a := (x / 2 ^ r) % 2) (b := 1) (by omega) (by omega)).mpr z99)
                refine lv_iinc (lv' := [(4, .int (nI (r + 1))), (5, .int (nI i)), (3, .int (nI a2)), (0, .ref m0), (1, .int (nI x)), (2, .int (0 : Int32))]) (k := 1) (v := nI (r + 1)) hx hb d_M_minor_70 hl rfl (nI_add r 1) (by decide) rfl (fun ls hl => ?_)
                refine lv_goto (tgt := 5) hx hb d_M_minor_73 (by decide) ?_
                exact ih_5 _ (by omega) (r + 1) a2 f2 ls H locs rfl (mf2_n (hm2.trans (by have z8 : i = 0 := Nat.eq_zero_of_not_pos (fun z9 => h_3 (hib z9)); have z7 := hm1; rw [z8] at z7; exact z7)) h_3) (by omega) (by omega) (lv_sub hl [0, 2, 3, 4, 5] rfl) (hP.sub [0, 1, 2] rfl) (hD.sub [0, 1, 2] (by decide) rfl) hS
              · have h_3 : ((x / 2 ^ r) % 2) = 1 := (nI_eq (a := (x / 2 ^ r) % 2) (b := 1) (by omega) (by omega)).mp h_3
                refine lv_iload hx hb d_M_minor_36 (lv_at hl 0 rfl) ?_
                refine lv_iload_n hx hb d_M_minor_38 rfl (lv_at hl 5 rfl) ?_
                refine lv_icmp_eq (tgt := 64) hx hb d_M_minor_39 (by decide) (fun h_4 => ?_) (fun h_4 => ?_)
                · have h_4 : i = 0 := (nI_eq (a := i) (b := 0) (by omega) (by omega)).mp h_4
                  refine lv_iinc (lv' := [(5, .int (nI (i + 1))), (4, .int (nI r)), (3, .int (nI a2)), (0, .ref m0), (1, .int (nI x)), (2, .int (0 : Int32))]) (k := 0) (v := nI (i + 1)) hx hb d_M_minor_64 hl rfl (nI_add i 1) (by decide) rfl (fun ls hl => ?_)
                  refine lv_goto (tgt := 17) hx hb d_M_minor_67 (by decide) ?_
                  exact ih_17 _ (by omega) (i + 1) a2 f2 ls H locs rfl (mf1_n hm1 h_4) (by omega) (by omega) (fun _ => h_3) (lv_sub hl [0, 1, 2, 3, 4, 5] rfl) (hP.sub [0, 1, 2] rfl) (hD.sub [0, 1, 2] (by decide) rfl) hS
                · have h_4 : ¬ (i = 0) := fun z99 => h_4 ((nI_eq (a := i) (b := 0) (by omega) (by omega)).mpr z99)
                  refine lv_aload_n hx hb d_M_minor_42 rfl (lv_at hl 3 rfl) ?_
                  refine va_get (D := D) (ci := 7) (v := .ref sq) (C := cn_M) (T := ft_M) (N := 19) hx hb hf_M (fun _ h => h) hown hK hP 0 rfl rfl 15 (by decide) (gw.at G hx0 mw_728 rfl _) (fun _ h9 => h9) rfl d_M_minor_43 ?_
                  refine lv_iload_n hx hb d_M_minor_46 rfl (lv_at hl 2 rfl) ?_
                  refine lv_aload_n hx hb d_M_minor_47 rfl (lv_at hl 3 rfl) ?_
                  refine va_get (D := D) (ci := 7) (v := .ref rw) (C := cn_M) (T := ft_M) (N := 19) hx hb hf_M (fun _ h => h) hown hK hP 0 rfl rfl 3 (by decide) (gw.at G hx0 mw_716 rfl _) (fun _ h9 => h9) rfl d_M_minor_48 ?_
                  refine lv_iconst (v := (4 : Int32)) hx hb d_M_minor_51 (by decide) ?_
                  refine lv_iload hx hb d_M_minor_52 (lv_at hl 1 rfl) ?_
                  refine lv_imul hx hb d_M_minor_54 ?_
                  refine tp_i (y := nI (4 * r)) (nI_mul 4 r) ?_
                  refine lv_iload hx hb d_M_minor_55 (lv_at hl 0 rfl) ?_
                  refine lv_iadd hx hb d_M_minor_57 ?_
                  refine tp_i (y := nI ((4 * r) + i)) (nI_add (4 * r) i) ?_
                  refine va_iald hx hb hK hP 1 0 rfl rfl (vp_in_nI (n := (4 * r) + i) (by omega) (by omega)) d_M_minor_58 ?_
                  refine tp_i (y := wf ((4 * r) + i)) (congrArg wf (nI_clamp (n := (4 * r) + i) (by omega))) ?_
                  refine lv_i2l (v := (wf ((4 * r) + i)).toInt64) hx hb d_M_minor_59 rfl ?_
                  refine va_last hx hb hK hP hD hS 2 1 rfl rfl (vp_in_nI (n := a2) (by omega) (by omega)) d_M_minor_60 (fun H locs hP hD hS => ?_)
                  rw [nI_clamp (n := a2) (by omega)] at hP hD
                  have hP : va_P D kl [(m0, .inr (7, [.int th, .int (nI zs), .int (nI rn), .ref rw, .int kn, .int rk, .int y1, .ref ry, .int sp, .int lg, .ref ti, .int fo, .int pt, .ref po, .ref su, .ref sq, .ref ch, .ref vt, .ref sh])), (rw, .inl (cI, 32, .inl wf)), (sq, .inl (cJ, 256, .inr (.inl (vp_updL f2 a2 ((wf ((4 * r) + i)).toInt64)))))] H := hP
                  have hD : va_D A [(m0, .inr (7, [.int th, .int (nI zs), .int (nI rn), .ref rw, .int kn, .int rk, .int y1, .ref ry, .int sp, .int lg, .ref ti, .int fo, .int pt, .ref po, .ref su, .ref sq, .ref ch, .ref vt, .ref sh])), (rw, .inl (cI, 32, .inl wf)), (sq, .inl (cJ, 256, .inr (.inl (vp_updL f2 a2 ((wf ((4 * r) + i)).toInt64)))))] := hD
                  refine lv_iinc (lv' := [(3, .int (nI (a2 + 1))), (5, .int (nI i)), (4, .int (nI r)), (0, .ref m0), (1, .int (nI x)), (2, .int (0 : Int32))]) (k := 2) (v := nI (a2 + 1)) hx hb d_M_minor_61 hl rfl (nI_add a2 1) (by decide) rfl (fun ls hl => ?_)
                  refine lv_iinc (lv' := [(5, .int (nI (i + 1))), (3, .int (nI (a2 + 1))), (4, .int (nI r)), (0, .ref m0), (1, .int (nI x)), (2, .int (0 : Int32))]) (k := 1) (v := nI (i + 1)) hx hb d_M_minor_64 hl rfl (nI_add i 1) (by decide) rfl (fun ls hl => ?_)
                  refine lv_goto (tgt := 17) hx hb d_M_minor_67 (by decide) ?_
                  exact ih_17 _ (by omega) (i + 1) (a2 + 1) (vp_updL f2 a2 ((wf ((4 * r) + i)).toInt64)) ls H locs rfl (mf1_y hm1 h_4) (by omega) (by omega) (fun _ => h_3) (lv_sub hl [0, 2, 1, 3, 4, 5] rfl) (hP.sub [0, 1, 2] rfl) (hD.sub [0, 1, 2] (by decide) rfl) hS
        exact lp_17 _ 0 a1 f1 ls H locs rfl rfl (Nat.zero_le _) (Nat.le_refl _) (fun z9 => absurd z9 (Nat.lt_irrefl 0)) (lv_sub hl [0, 1, 2, 3, 4, 5] rfl) (hP.sub [0, 1, 2] rfl) (hD.sub [0, 1, 2] (by decide) rfl) hS
  exact lp_5 _ 0 0 qf ls s.heap [] rfl rfl (Nat.zero_le _) (Nat.le_refl _) (lv_sub hl [0, 1, 2, 3, 4] rfl) (hP.sub [0, 1, 2] rfl) (hD.sub [0, 1, 2] (by decide) rfl) hS

set_option maxHeartbeats 4000000 in
set_option maxRecDepth 100000 in
theorem c_M_minor1 {l : Launch} {s0 : State} {b0 : Addr} {D : va_G} {cI cJ cZ : ClassId} {tC tS : Nat} (E : gE l s0 b0 D cI cJ cZ tC tS) (sz : Nat) (m0 : Nat) (rw : Nat) (ry : Nat) (ti : Nat) (po : Nat) (su : Nat) (sq : Nat) (ch : Nat) (vt : Nat) (sh : Nat) (th : Int32) (kn : Int32) (rk : Int32) (y1 : Int32) (sp : Int32) (lg : Int32) (fo : Int32) (pt : Int32) (zs : Nat) (rn : Nat) (wf : Nat → Int32) (qf : Nat → Int64) (x : Nat) (hz2 : 2 ≤ zs) (hz4 : zs ≤ 4) (hr8 : rn ≤ 8) (hx8 : x < 2 ^ 31) : cx_M l s0 D kl y_M_minor b_M_minor 6 (some .long) ({ frames := 1, cells := 0, slots := 0, locals := 29 } : Room) 0 0 [.ref m0, .int (nI x), .int (1 : Int32)] [(m0, .inr (7, [.int th, .int (nI zs), .int (nI rn), .ref rw, .int kn, .int rk, .int y1, .ref ry, .int sp, .int lg, .ref ti, .int fo, .int pt, .ref po, .ref su, .ref sq, .ref ch, .ref vt, .ref sh])), (rw, .inl (cI, 32, .inl wf)), (sq, .inl (cJ, 256, .inr (.inl qf)))] sz (fun o9 _ w9 => ∃ (v : Int64) (q2 : Nat → Int64), o9 = .returned (some (.long v)) ∧ mnr wf rn zs x 1 qf = (v, q2) ∧ w9 = [(m0, .inr (7, [.int th, .int (nI zs), .int (nI rn), .ref rw, .int kn, .int rk, .int y1, .ref ry, .int sp, .int lg, .ref ti, .int fo, .int pt, .ref po, .ref su, .ref sq, .ref ch, .ref vt, .ref sh])), (rw, .inl (cI, 32, .inl wf)), (sq, .inl (cJ, 256, .inr (.inl q2)))]) := by
  refine tx_ofW (cc := b_M_minor) (maxL := 6) (ret := (some .long)) (by decide) rfl ?_
  intro p e s m args below meth c s₁ B hml hT hv
  obtain ⟨rfl, hsz, hP, hD0, hx0⟩ := hv
  have hx := B.exec
  have hb := B.bytes
  have hr := B.returns
  have G := E.2.1
  have hown : s.vm.findClass cn_M = some m.cls := findClass_of_methodNamed B.named
  have hlocks := B.notSynchronized
  have hK := va_K.moved hx0.1.alike E.2.2.1
  have hf_M : ∀ w99 ∈ u_ws cn_M ft_M 19, w99.before ([.ref m0, .int (nI x), .int (1 : Int32)] : List Value).toArray s = true := fun w99 h99 => gw.at G hx0 (fw_M w99 h99) (fo_M w99 h99) _
  subst hsz
  have hA0 := cx_new hD0 hx0.2.1
  have hD := hD0.self (sz := s.heap.size)
  generalize hAe : va_A [(m0, .inr (7, [.int th, .int (nI zs), .int (nI rn), .ref rw, .int kn, .int rk, .int y1, .ref ry, .int sp, .int lg, .ref ti, .int fo, .int pt, .ref po, .ref su, .ref sq, .ref ch, .ref vt, .ref sh])), (rw, .inl (cI, 32, .inl wf)), (sq, .inl (cJ, 256, .inr (.inl qf)))] s.heap.size = A at hD hA0 ⊢
  have hA : ∀ q : Nat, s.heap.size ≤ q → A q := fun q h => by rw [← hAe]; exact Or.inr h
  have hS : va_S A s.heap s.heap [] := va_S.rf
  have hl := lv_entry ([.ref m0, .int (nI x), .int (1 : Int32)]) (n := 6) (Nat.le_of_ble_eq_true rfl)
  rw [lg_entry_eq]
  generalize (lg_sl ([.ref m0, .int (nI x), .int (1 : Int32)]) ++ List.replicate (6 - (lg_sl ([.ref m0, .int (nI x), .int (1 : Int32)])).length) Slot.unset).toArray = ls at hl ⊢
  have hl : lv_has ls 6 [(0, .ref m0), (1, .int (nI x)), (2, .int (1 : Int32))] := hl
  have hP : va_P D kl [(m0, .inr (7, [.int th, .int (nI zs), .int (nI rn), .ref rw, .int kn, .int rk, .int y1, .ref ry, .int sp, .int lg, .ref ti, .int fo, .int pt, .ref po, .ref su, .ref sq, .ref ch, .ref vt, .ref sh])), (rw, .inl (cI, 32, .inl wf)), (sq, .inl (cJ, 256, .inr (.inl qf)))] s.heap := hP
  have hml : c.maxLocals = 6 := hml
  generalize hQe : tx_Z below (cx_Q D kl A (fun o9 _ w9 => ∃ (v : Int64) (q2 : Nat → Int64), o9 = .returned (some (.long v)) ∧ mnr wf rn zs x 1 qf = (v, q2) ∧ w9 = [(m0, .inr (7, [.int th, .int (nI zs), .int (nI rn), .ref rw, .int kn, .int rk, .int y1, .ref ry, .int sp, .int lg, .ref ti, .int fo, .int pt, .ref po, .ref su, .ref sq, .ref ch, .ref vt, .ref sh])), (rw, .inl (cI, 32, .inl wf)), (sq, .inl (cJ, 256, .inr (.inl q2)))])) ([.ref m0, .int (nI x), .int (1 : Int32)] : List Value).toArray s 0 0 A = Q
  refine lv_iconst (v := (0 : Int32)) hx hb d_M_minor_0 (by decide) ?_
  refine lv_istore_n (lv' := [(3, .int (0 : Int32)), (0, .ref m0), (1, .int (nI x)), (2, .int (1 : Int32))]) hx hb d_M_minor_1 rfl hl (by decide) rfl (fun ls hl => ?_)
  refine lv_iconst (v := (0 : Int32)) hx hb d_M_minor_2 (by decide) ?_
  refine lv_istore (lv' := [(4, .int (0 : Int32)), (3, .int (0 : Int32)), (0, .ref m0), (1, .int (nI x)), (2, .int (1 : Int32))]) hx hb d_M_minor_3 hl (by decide) rfl (fun ls hl => ?_)
  have lp_5 : ∀ (n9 : Nat) (r : Nat) (a1 : Nat) (f1 : Nat → Int64) (ls : Array Slot) (H : Heap) (locs : List Loc), rn - r = n9 → (mf2 wf x zs 1 r (0, qf) = (a1, f1)) → (r ≤ rn) → (a1 ≤ 4 * r) → lv_has ls 6 [(4, .int (nI r)), (3, .int (nI a1)), (0, .ref m0), (1, .int (nI x)), (2, .int (1 : Int32))] → va_P D kl [(m0, .inr (7, [.int th, .int (nI zs), .int (nI rn), .ref rw, .int kn, .int rk, .int y1, .ref ry, .int sp, .int lg, .ref ti, .int fo, .int pt, .ref po, .ref su, .ref sq, .ref ch, .ref vt, .ref sh])), (rw, .inl (cI, 32, .inl wf)), (sq, .inl (cJ, 256, .inr (.inl f1)))] H → va_D A [(m0, .inr (7, [.int th, .int (nI zs), .int (nI rn), .ref rw, .int kn, .int rk, .int y1, .ref ry, .int sp, .int lg, .ref ti, .int fo, .int pt, .ref po, .ref su, .ref sq, .ref ch, .ref vt, .ref sh])), (rw, .inl (cI, 32, .inl wf)), (sq, .inl (cJ, 256, .inr (.inl f1)))] → va_S A s.heap H locs → W p l e ({ frames := 1, cells := 0, slots := 0, locals := 29 } : Room) s m ([.ref m0, .int (nI x), .int (1 : Int32)] : List Value).toArray below meth c H locs 0 0 Q (F0 m 5 ls []) := by
    intro n9
    induction n9 using Nat.strongRecOn with
    | ind n9 ih_5 =>
      intro r a1 f1 ls H locs hm_5 hm2 hr9 ha1 hl hP hD hS
      refine lv_iload hx hb d_M_minor_5 (lv_at hl 0 rfl) ?_
      refine lv_aload_n hx hb d_M_minor_7 rfl (lv_at hl 2 rfl) ?_
      refine va_get (D := D) (ci := 7) (v := .int (nI rn)) (C := cn_M) (T := ft_M) (N := 19) hx hb hf_M (fun _ h => h) hown hK hP 0 rfl rfl 2 (by decide) (gw.at G hx0 mw_715 rfl _) (fun _ h9 => h9) rfl d_M_minor_8 ?_
      refine lv_icmp_ge (tgt := 76) hx hb d_M_minor_11 (by decide) (fun h_1 => ?_) (fun h_1 => ?_)
      · have h_1 : rn ≤ r := (nI_leI (a := rn) (b := r) (by omega) (by omega)).mp h_1
        have hrr : r = rn := by omega
        rw [hrr] at hm2
        refine lv_aload_n hx hb d_M_minor_76 rfl (lv_at hl 2 rfl) ?_
        refine lv_aload_n hx hb d_M_minor_77 rfl (lv_at hl 2 rfl) ?_
        refine va_get (D := D) (ci := 7) (v := .int (nI zs)) (C := cn_M) (T := ft_M) (N := 19) hx hb hf_M (fun _ h => h) hown hK hP 0 rfl rfl 1 (by decide) (gw.at G hx0 mw_714 rfl _) (fun _ h9 => h9) rfl d_M_minor_78 ?_
        refine lv_iconst (v := (1 : Int32)) hx hb d_M_minor_81 (by decide) ?_
        refine lv_isub hx hb d_M_minor_82 ?_
        refine tp_i (y := nI (zs - 1)) (nI_sub (a := zs) (b := 1) (by omega)) ?_
        refine cx_call (D := D) (cl := kl) (ws := _) (wc := [(m0, .inr (7, [.int th, .int (nI zs), .int (nI rn), .ref rw, .int kn, .int rk, .int y1, .ref ry, .int sp, .int lg, .ref ti, .int fo, .int pt, .ref po, .ref su, .ref sq, .ref ch, .ref vt, .ref sh])), (sq, .inl (cJ, 256, .inr (.inl f1)))]) (wr := [(rw, .inl (cI, 32, .inl wf))]) (tx_runV (C := cn_M) (b := m0) (As := [.int (nI (zs - 1))]) (rest := []) hx hb hml hown (c_M_worth E H.size m0 rw ry ti po su sq ch vt sh th (nI zs) (nI rn) kn rk y1 sp lg fo pt f1 (zs - 1) (by omega)) (cx_C (b0 := b0) G hx0 mw_832 mw_9 ny_M_worth (by decide)) (gw.at G hx0 mw_829 rfl _) (gw.at G hx0 mw_831 rfl _) (gw.at G hx0 ms_M_worth rfl _) ⟨cx_blind, va_recv hK hP (q0 := 0) (ci := 7) (q := (cn_M, ft_M, 19)) rfl rfl, (cx_pre (s := s) hx0 hP hD hS hA0 [0, 2] rfl rfl (by decide))⟩ rfl rfl hl.1 rfl (lv_room (Nat.le_of_ble_eq_true rfl)) d_M_minor_83 ⟨by decide, by decide⟩) hP hD hS hA [0, 2] [1] rfl rfl (by decide) (by decide) (fun v t w1 H locs ht hW9 hp hP hD hS => ?_) (fun x t w1 H locs ht hW9 hp hP hD hS => by obtain ⟨h9, -⟩ := hp; cases h9)
        obtain ⟨h9, rfl⟩ := hp
        cases h9
        refine W.eq (g2 := F0 m 86 ls [.long ((wth (zs - 1) (zs - 1) 0 f1 1 1).1)]) rfl ?_
        refine W.widen (k := 0) (n := 0) (by decide) (by decide) ?_
        have hP : va_P D kl [(rw, .inl (cI, 32, .inl wf)), (m0, .inr (7, [.int th, .int (nI zs), .int (nI rn), .ref rw, .int kn, .int rk, .int y1, .ref ry, .int sp, .int lg, .ref ti, .int fo, .int pt, .ref po, .ref su, .ref sq, .ref ch, .ref vt, .ref sh])), (sq, .inl (cJ, 256, .inr (.inl ((wth (zs - 1) (zs - 1) 0 f1 1 1).2))))] H := hP
        have hD : va_D A [(rw, .inl (cI, 32, .inl wf)), (m0, .inr (7, [.int th, .int (nI zs), .int (nI rn), .ref rw, .int kn, .int rk, .int y1, .ref ry, .int sp, .int lg, .ref ti, .int fo, .int pt, .ref po, .ref su, .ref sq, .ref ch, .ref vt, .ref sh])), (sq, .inl (cJ, 256, .inr (.inl ((wth (zs - 1) (zs - 1) 0 f1 1 1).2))))] := hD
        refine lv_lstore (lv' := [(4, .long ((wth (zs - 1) (zs - 1) 0 f1 1 1).1)), (3, .int (nI a1)), (0, .ref m0), (1, .int (nI x)), (2, .int (1 : Int32))]) hx hb d_M_minor_86 hl (by decide) rfl (fun ls hl => ?_)
        refine lv_iload_n hx hb d_M_minor_88 rfl (lv_at hl 4 rfl) ?_
        refine lv_iconst (v := (2 : Int32)) hx hb d_M_minor_89 (by decide) ?_
        refine lv_irem hx hb d_M_minor_90 (by decide) ?_
        refine tp_i (y := (1 : Int32)) (by decide) ?_
        refine lv_if_ne (tgt := 99) hx hb d_M_minor_91 (by decide) (fun _ => ?_) (fun h99 => absurd h99 (by decide))
        refine lv_lload hx hb d_M_minor_99 (lv_at hl 0 rfl) ?_
        refine lv_lneg hx hb d_M_minor_101 ?_
        rw [← hQe]
        exact tx_mono (fun _ h => tx_Z.of h) (W.lret (v := -((wth (zs - 1) (zs - 1) 0 f1 1 1).1)) hx hb hr (fun t ht hW => ⟨⟨[(m0, .inr (7, [.int th, .int (nI zs), .int (nI rn), .ref rw, .int kn, .int rk, .int y1, .ref ry, .int sp, .int lg, .ref ti, .int fo, .int pt, .ref po, .ref su, .ref sq, .ref ch, .ref vt, .ref sh])), (rw, .inl (cI, 32, .inl wf)), (sq, .inl (cJ, 256, .inr (.inl ((wth (zs - 1) (zs - 1) 0 f1 1 1).2))))], ⟨(-((wth (zs - 1) (zs - 1) 0 f1 1 1).1)), ((wth (zs - 1) (zs - 1) 0 f1 1 1).2), rfl, (by unfold mnr; rw [hm2]; rfl), rfl⟩, by rw [ht]; exact hP.sub [1, 0, 2] rfl, hD.sub [1, 0, 2] (by decide) rfl⟩, hS.F ht⟩) hS.2.2 d_M_minor_102)
      · have h_1 : ¬ (rn ≤ r) := fun z99 => h_1 ((nI_leI (a := rn) (b := r) (by omega) (by omega)).mpr z99)
        refine lv_iconst (v := (0 : Int32)) hx hb d_M_minor_14 (by decide) ?_
        refine lv_istore (lv' := [(5, .int (0 : Int32)), (4, .int (nI r)), (3, .int (nI a1)), (0, .ref m0), (1, .int (nI x)), (2, .int (1 : Int32))]) hx hb d_M_minor_15 hl (by decide) rfl (fun ls hl => ?_)
        have lp_17 : ∀ (n9 : Nat) (i : Nat) (a2 : Nat) (f2 : Nat → Int64) (ls : Array Slot) (H : Heap) (locs : List Loc), zs - i = n9 → (mf1 wf r 1 i (a1, f1) = (a2, f2)) → (i ≤ zs) → (a2 ≤ a1 + i) → (0 < i → (x / 2 ^ r) % 2 = 1) → lv_has ls 6 [(5, .int (nI i)), (4, .int (nI r)), (3, .int (nI a2)), (0, .ref m0), (1, .int (nI x)), (2, .int (1 : Int32))] → va_P D kl [(m0, .inr (7, [.int th, .int (nI zs), .int (nI rn), .ref rw, .int kn, .int rk, .int y1, .ref ry, .int sp, .int lg, .ref ti, .int fo, .int pt, .ref po, .ref su, .ref sq, .ref ch, .ref vt, .ref sh])), (rw, .inl (cI, 32, .inl wf)), (sq, .inl (cJ, 256, .inr (.inl f2)))] H → va_D A [(m0, .inr (7, [.int th, .int (nI zs), .int (nI rn), .ref rw, .int kn, .int rk, .int y1, .ref ry, .int sp, .int lg, .ref ti, .int fo, .int pt, .ref po, .ref su, .ref sq, .ref ch, .ref vt, .ref sh])), (rw, .inl (cI, 32, .inl wf)), (sq, .inl (cJ, 256, .inr (.inl f2)))] → va_S A s.heap H locs → W p l e ({ frames := 1, cells := 0, slots := 0, locals := 29 } : Room) s m ([.ref m0, .int (nI x), .int (1 : Int32)] : List Value).toArray below meth c H locs 0 0 Q (F0 m 17 ls []) := by
          intro n9
          induction n9 using Nat.strongRecOn with
          | ind n9 ih_17 =>
            intro i a2 f2 ls H locs hm_17 hm1 hi9 ha2 hib hl hP hD hS
            refine lv_iload hx hb d_M_minor_17 (lv_at hl 0 rfl) ?_
            refine lv_aload_n hx hb d_M_minor_19 rfl (lv_at hl 3 rfl) ?_
            refine va_get (D := D) (ci := 7) (v := .int (nI zs)) (C := cn_M) (T := ft_M) (N := 19) hx hb hf_M (fun _ h => h) hown hK hP 0 rfl rfl 1 (by decide) (gw.at G hx0 mw_714 rfl _) (fun _ h9 => h9) rfl d_M_minor_20 ?_
            refine lv_icmp_ge (tgt := 70) hx hb d_M_minor_23 (by decide) (fun h_2 => ?_) (fun h_2 => ?_)
            · have h_2 : zs ≤ i := (nI_leI (a := zs) (b := i) (by omega) (by omega)).mp h_2
              refine lv_iinc (lv' := [(4, .int (nI (r + 1))), (5, .int (nI i)), (3, .int (nI a2)), (0, .ref m0), (1, .int (nI x)), (2, .int (1 : Int32))]) (k := 1) (v := nI (r + 1)) hx hb d_M_minor_70 hl rfl (nI_add r 1) (by decide) rfl (fun ls hl => ?_)
              refine lv_goto (tgt := 5) hx hb d_M_minor_73 (by decide) ?_
              exact ih_5 _ (by omega) (r + 1) a2 f2 ls H locs rfl (mf2_y hm2 (hib (by omega)) ((show i = zs by omega) ▸ hm1)) (by omega) (by omega) (lv_sub hl [0, 2, 3, 4, 5] rfl) (hP.sub [0, 1, 2] rfl) (hD.sub [0, 1, 2] (by decide) rfl) hS
            · have h_2 : ¬ (zs ≤ i) := fun z99 => h_2 ((nI_leI (a := zs) (b := i) (by omega) (by omega)).mpr z99)
              refine lv_iload_n hx hb d_M_minor_26 rfl (lv_at hl 4 rfl) ?_
              refine lv_iload hx hb d_M_minor_27 (lv_at hl 1 rfl) ?_
              refine lv_ishr hx hb d_M_minor_29 ?_
              refine tp_i (y := nI (x / 2 ^ r)) (nI_shr (n := x) (p := r) (by omega) (by omega)) ?_
              refine lv_iconst (v := (1 : Int32)) hx hb d_M_minor_30 (by decide) ?_
              refine lv_iand hx hb d_M_minor_31 ?_
              refine tp_i (y := nI ((x / 2 ^ r) % 2)) (nI_and1 _) ?_
              refine lv_iconst (v := (1 : Int32)) hx hb d_M_minor_32 (by decide) ?_
              refine lv_icmp_ne (tgt := 70) hx hb d_M_minor_33 (by decide) (fun h_3 => ?_) (fun h_3 => ?_)
              · have h_3 : ¬ (((x / 2 ^ r) % 2) = 1) := fun z99 => h_3 ((nI_eq (a := (x / 2 ^ r) % 2) (b := 1) (by omega) (by omega)).mpr z99)
                refine lv_iinc (lv' := [(4, .int (nI (r + 1))), (5, .int (nI i)), (3, .int (nI a2)), (0, .ref m0), (1, .int (nI x)), (2, .int (1 : Int32))]) (k := 1) (v := nI (r + 1)) hx hb d_M_minor_70 hl rfl (nI_add r 1) (by decide) rfl (fun ls hl => ?_)
                refine lv_goto (tgt := 5) hx hb d_M_minor_73 (by decide) ?_
                exact ih_5 _ (by omega) (r + 1) a2 f2 ls H locs rfl (mf2_n (hm2.trans (by have z8 : i = 0 := Nat.eq_zero_of_not_pos (fun z9 => h_3 (hib z9)); have z7 := hm1; rw [z8] at z7; exact z7)) h_3) (by omega) (by omega) (lv_sub hl [0, 2, 3, 4, 5] rfl) (hP.sub [0, 1, 2] rfl) (hD.sub [0, 1, 2] (by decide) rfl) hS
              · have h_3 : ((x / 2 ^ r) % 2) = 1 := (nI_eq (a := (x / 2 ^ r) % 2) (b := 1) (by omega) (by omega)).mp h_3
                refine lv_iload hx hb d_M_minor_36 (lv_at hl 0 rfl) ?_
                refine lv_iload_n hx hb d_M_minor_38 rfl (lv_at hl 5 rfl) ?_
                refine lv_icmp_eq (tgt := 64) hx hb d_M_minor_39 (by decide) (fun h_4 => ?_) (fun h_4 => ?_)
                · have h_4 : i = 1 := (nI_eq (a := i) (b := 1) (by omega) (by omega)).mp h_4
                  refine lv_iinc (lv' := [(5, .int (nI (i + 1))), (4, .int (nI r)), (3, .int (nI a2)), (0, .ref m0), (1, .int (nI x)), (2, .int (1 : Int32))]) (k := 0) (v := nI (i + 1)) hx hb d_M_minor_64 hl rfl (nI_add i 1) (by decide) rfl (fun ls hl => ?_)
                  refine lv_goto (tgt := 17) hx hb d_M_minor_67 (by decide) ?_
                  exact ih_17 _ (by omega) (i + 1) a2 f2 ls H locs rfl (mf1_n hm1 h_4) (by omega) (by omega) (fun _ => h_3) (lv_sub hl [0, 1, 2, 3, 4, 5] rfl) (hP.sub [0, 1, 2] rfl) (hD.sub [0, 1, 2] (by decide) rfl) hS
                · have h_4 : ¬ (i = 1) := fun z99 => h_4 ((nI_eq (a := i) (b := 1) (by omega) (by omega)).mpr z99)
                  refine lv_aload_n hx hb d_M_minor_42 rfl (lv_at hl 3 rfl) ?_
                  refine va_get (D := D) (ci := 7) (v := .ref sq) (C := cn_M) (T := ft_M) (N := 19) hx hb hf_M (fun _ h => h) hown hK hP 0 rfl rfl 15 (by decide) (gw.at G hx0 mw_728 rfl _) (fun _ h9 => h9) rfl d_M_minor_43 ?_
                  refine lv_iload_n hx hb d_M_minor_46 rfl (lv_at hl 2 rfl) ?_
                  refine lv_aload_n hx hb d_M_minor_47 rfl (lv_at hl 3 rfl) ?_
                  refine va_get (D := D) (ci := 7) (v := .ref rw) (C := cn_M) (T := ft_M) (N := 19) hx hb hf_M (fun _ h => h) hown hK hP 0 rfl rfl 3 (by decide) (gw.at G hx0 mw_716 rfl _) (fun _ h9 => h9) rfl d_M_minor_48 ?_
                  refine lv_iconst (v := (4 : Int32)) hx hb d_M_minor_51 (by decide) ?_
                  refine lv_iload hx hb d_M_minor_52 (lv_at hl 1 rfl) ?_
                  refine lv_imul hx hb d_M_minor_54 ?_
                  refine tp_i (y := nI (4 * r)) (nI_mul 4 r) ?_
                  refine lv_iload hx hb d_M_minor_55 (lv_at hl 0 rfl) ?_
                  refine lv_iadd hx hb d_M_minor_57 ?_
                  refine tp_i (y := nI ((4 * r) + i)) (nI_add (4 * r) i) ?_
                  refine va_iald hx hb hK hP 1 0 rfl rfl (vp_in_nI (n := (4 * r) + i) (by omega) (by omega)) d_M_minor_58 ?_
                  refine tp_i (y := wf ((4 * r) + i)) (congrArg wf (nI_clamp (n := (4 * r) + i) (by omega))) ?_
                  refine lv_i2l (v := (wf ((4 * r) + i)).toInt64) hx hb d_M_minor_59 rfl ?_
                  refine va_last hx hb hK hP hD hS 2 1 rfl rfl (vp_in_nI (n := a2) (by omega) (by omega)) d_M_minor_60 (fun H locs hP hD hS => ?_)
                  rw [nI_clamp (n := a2) (by omega)] at hP hD
                  have hP : va_P D kl [(m0, .inr (7, [.int th, .int (nI zs), .int (nI rn), .ref rw, .int kn, .int rk, .int y1, .ref ry, .int sp, .int lg, .ref ti, .int fo, .int pt, .ref po, .ref su, .ref sq, .ref ch, .ref vt, .ref sh])), (rw, .inl (cI, 32, .inl wf)), (sq, .inl (cJ, 256, .inr (.inl (vp_updL f2 a2 ((wf ((4 * r) + i)).toInt64)))))] H := hP
                  have hD : va_D A [(m0, .inr (7, [.int th, .int (nI zs), .int (nI rn), .ref rw, .int kn, .int rk, .int y1, .ref ry, .int sp, .int lg, .ref ti, .int fo, .int pt, .ref po, .ref su, .ref sq, .ref ch, .ref vt, .ref sh])), (rw, .inl (cI, 32, .inl wf)), (sq, .inl (cJ, 256, .inr (.inl (vp_updL f2 a2 ((wf ((4 * r) + i)).toInt64)))))] := hD
                  refine lv_iinc (lv' := [(3, .int (nI (a2 + 1))), (5, .int (nI i)), (4, .int (nI r)), (0, .ref m0), (1, .int (nI x)), (2, .int (1 : Int32))]) (k := 2) (v := nI (a2 + 1)) hx hb d_M_minor_61 hl rfl (nI_add a2 1) (by decide) rfl (fun ls hl => ?_)
                  refine lv_iinc (lv' := [(5, .int (nI (i + 1))), (3, .int (nI (a2 + 1))), (4, .int (nI r)), (0, .ref m0), (1, .int (nI x)), (2, .int (1 : Int32))]) (k := 1) (v := nI (i + 1)) hx hb d_M_minor_64 hl rfl (nI_add i 1) (by decide) rfl (fun ls hl => ?_)
                  refine lv_goto (tgt := 17) hx hb d_M_minor_67 (by decide) ?_
                  exact ih_17 _ (by omega) (i + 1) (a2 + 1) (vp_updL f2 a2 ((wf ((4 * r) + i)).toInt64)) ls H locs rfl (mf1_y hm1 h_4) (by omega) (by omega) (fun _ => h_3) (lv_sub hl [0, 2, 1, 3, 4, 5] rfl) (hP.sub [0, 1, 2] rfl) (hD.sub [0, 1, 2] (by decide) rfl) hS
        exact lp_17 _ 0 a1 f1 ls H locs rfl rfl (Nat.zero_le _) (Nat.le_refl _) (fun z9 => absurd z9 (Nat.lt_irrefl 0)) (lv_sub hl [0, 1, 2, 3, 4, 5] rfl) (hP.sub [0, 1, 2] rfl) (hD.sub [0, 1, 2] (by decide) rfl) hS
  exact lp_5 _ 0 0 qf ls s.heap [] rfl rfl (Nat.zero_le _) (Nat.le_refl _) (lv_sub hl [0, 1, 2, 3, 4] rfl) (hP.sub [0, 1, 2] rfl) (hD.sub [0, 1, 2] (by decide) rfl) hS

set_option maxHeartbeats 4000000 in
set_option maxRecDepth 100000 in
theorem c_M_minor2 {l : Launch} {s0 : State} {b0 : Addr} {D : va_G} {cI cJ cZ : ClassId} {tC tS : Nat} (E : gE l s0 b0 D cI cJ cZ tC tS) (sz : Nat) (m0 : Nat) (rw : Nat) (ry : Nat) (ti : Nat) (po : Nat) (su : Nat) (sq : Nat) (ch : Nat) (vt : Nat) (sh : Nat) (th : Int32) (kn : Int32) (rk : Int32) (y1 : Int32) (sp : Int32) (lg : Int32) (fo : Int32) (pt : Int32) (zs : Nat) (rn : Nat) (wf : Nat → Int32) (qf : Nat → Int64) (x : Nat) (hz2 : 2 ≤ zs) (hz4 : zs ≤ 4) (hr8 : rn ≤ 8) (hx8 : x < 2 ^ 31) : cx_M l s0 D kl y_M_minor b_M_minor 6 (some .long) ({ frames := 1, cells := 0, slots := 0, locals := 29 } : Room) 0 0 [.ref m0, .int (nI x), .int (2 : Int32)] [(m0, .inr (7, [.int th, .int (nI zs), .int (nI rn), .ref rw, .int kn, .int rk, .int y1, .ref ry, .int sp, .int lg, .ref ti, .int fo, .int pt, .ref po, .ref su, .ref sq, .ref ch, .ref vt, .ref sh])), (rw, .inl (cI, 32, .inl wf)), (sq, .inl (cJ, 256, .inr (.inl qf)))] sz (fun o9 _ w9 => ∃ (v : Int64) (q2 : Nat → Int64), o9 = .returned (some (.long v)) ∧ mnr wf rn zs x 2 qf = (v, q2) ∧ w9 = [(m0, .inr (7, [.int th, .int (nI zs), .int (nI rn), .ref rw, .int kn, .int rk, .int y1, .ref ry, .int sp, .int lg, .ref ti, .int fo, .int pt, .ref po, .ref su, .ref sq, .ref ch, .ref vt, .ref sh])), (rw, .inl (cI, 32, .inl wf)), (sq, .inl (cJ, 256, .inr (.inl q2)))]) := by
  refine tx_ofW (cc := b_M_minor) (maxL := 6) (ret := (some .long)) (by decide) rfl ?_
  intro p e s m args below meth c s₁ B hml hT hv
  obtain ⟨rfl, hsz, hP, hD0, hx0⟩ := hv
  have hx := B.exec
  have hb := B.bytes
  have hr := B.returns
  have G := E.2.1
  have hown : s.vm.findClass cn_M = some m.cls := findClass_of_methodNamed B.named
  have hlocks := B.notSynchronized
  have hK := va_K.moved hx0.1.alike E.2.2.1
  have hf_M : ∀ w99 ∈ u_ws cn_M ft_M 19, w99.before ([.ref m0, .int (nI x), .int (2 : Int32)] : List Value).toArray s = true := fun w99 h99 => gw.at G hx0 (fw_M w99 h99) (fo_M w99 h99) _
  subst hsz
  have hA0 := cx_new hD0 hx0.2.1
  have hD := hD0.self (sz := s.heap.size)
  generalize hAe : va_A [(m0, .inr (7, [.int th, .int (nI zs), .int (nI rn), .ref rw, .int kn, .int rk, .int y1, .ref ry, .int sp, .int lg, .ref ti, .int fo, .int pt, .ref po, .ref su, .ref sq, .ref ch, .ref vt, .ref sh])), (rw, .inl (cI, 32, .inl wf)), (sq, .inl (cJ, 256, .inr (.inl qf)))] s.heap.size = A at hD hA0 ⊢
  have hA : ∀ q : Nat, s.heap.size ≤ q → A q := fun q h => by rw [← hAe]; exact Or.inr h
  have hS : va_S A s.heap s.heap [] := va_S.rf
  have hl := lv_entry ([.ref m0, .int (nI x), .int (2 : Int32)]) (n := 6) (Nat.le_of_ble_eq_true rfl)
  rw [lg_entry_eq]
  generalize (lg_sl ([.ref m0, .int (nI x), .int (2 : Int32)]) ++ List.replicate (6 - (lg_sl ([.ref m0, .int (nI x), .int (2 : Int32)])).length) Slot.unset).toArray = ls at hl ⊢
  have hl : lv_has ls 6 [(0, .ref m0), (1, .int (nI x)), (2, .int (2 : Int32))] := hl
  have hP : va_P D kl [(m0, .inr (7, [.int th, .int (nI zs), .int (nI rn), .ref rw, .int kn, .int rk, .int y1, .ref ry, .int sp, .int lg, .ref ti, .int fo, .int pt, .ref po, .ref su, .ref sq, .ref ch, .ref vt, .ref sh])), (rw, .inl (cI, 32, .inl wf)), (sq, .inl (cJ, 256, .inr (.inl qf)))] s.heap := hP
  have hml : c.maxLocals = 6 := hml
  generalize hQe : tx_Z below (cx_Q D kl A (fun o9 _ w9 => ∃ (v : Int64) (q2 : Nat → Int64), o9 = .returned (some (.long v)) ∧ mnr wf rn zs x 2 qf = (v, q2) ∧ w9 = [(m0, .inr (7, [.int th, .int (nI zs), .int (nI rn), .ref rw, .int kn, .int rk, .int y1, .ref ry, .int sp, .int lg, .ref ti, .int fo, .int pt, .ref po, .ref su, .ref sq, .ref ch, .ref vt, .ref sh])), (rw, .inl (cI, 32, .inl wf)), (sq, .inl (cJ, 256, .inr (.inl q2)))])) ([.ref m0, .int (nI x), .int (2 : Int32)] : List Value).toArray s 0 0 A = Q
  refine lv_iconst (v := (0 : Int32)) hx hb d_M_minor_0 (by decide) ?_
  refine lv_istore_n (lv' := [(3, .int (0 : Int32)), (0, .ref m0), (1, .int (nI x)), (2, .int (2 : Int32))]) hx hb d_M_minor_1 rfl hl (by decide) rfl (fun ls hl => ?_)
  refine lv_iconst (v := (0 : Int32)) hx hb d_M_minor_2 (by decide) ?_
  refine lv_istore (lv' := [(4, .int (0 : Int32)), (3, .int (0 : Int32)), (0, .ref m0), (1, .int (nI x)), (2, .int (2 : Int32))]) hx hb d_M_minor_3 hl (by decide) rfl (fun ls hl => ?_)
  have lp_5 : ∀ (n9 : Nat) (r : Nat) (a1 : Nat) (f1 : Nat → Int64) (ls : Array Slot) (H : Heap) (locs : List Loc), rn - r = n9 → (mf2 wf x zs 2 r (0, qf) = (a1, f1)) → (r ≤ rn) → (a1 ≤ 4 * r) → lv_has ls 6 [(4, .int (nI r)), (3, .int (nI a1)), (0, .ref m0), (1, .int (nI x)), (2, .int (2 : Int32))] → va_P D kl [(m0, .inr (7, [.int th, .int (nI zs), .int (nI rn), .ref rw, .int kn, .int rk, .int y1, .ref ry, .int sp, .int lg, .ref ti, .int fo, .int pt, .ref po, .ref su, .ref sq, .ref ch, .ref vt, .ref sh])), (rw, .inl (cI, 32, .inl wf)), (sq, .inl (cJ, 256, .inr (.inl f1)))] H → va_D A [(m0, .inr (7, [.int th, .int (nI zs), .int (nI rn), .ref rw, .int kn, .int rk, .int y1, .ref ry, .int sp, .int lg, .ref ti, .int fo, .int pt, .ref po, .ref su, .ref sq, .ref ch, .ref vt, .ref sh])), (rw, .inl (cI, 32, .inl wf)), (sq, .inl (cJ, 256, .inr (.inl f1)))] → va_S A s.heap H locs → W p l e ({ frames := 1, cells := 0, slots := 0, locals := 29 } : Room) s m ([.ref m0, .int (nI x), .int (2 : Int32)] : List Value).toArray below meth c H locs 0 0 Q (F0 m 5 ls []) := by
    intro n9
    induction n9 using Nat.strongRecOn with
    | ind n9 ih_5 =>
      intro r a1 f1 ls H locs hm_5 hm2 hr9 ha1 hl hP hD hS
      refine lv_iload hx hb d_M_minor_5 (lv_at hl 0 rfl) ?_
      refine lv_aload_n hx hb d_M_minor_7 rfl (lv_at hl 2 rfl) ?_
      refine va_get (D := D) (ci := 7) (v := .int (nI rn)) (C := cn_M) (T := ft_M) (N := 19) hx hb hf_M (fun _ h => h) hown hK hP 0 rfl rfl 2 (by decide) (gw.at G hx0 mw_715 rfl _) (fun _ h9 => h9) rfl d_M_minor_8 ?_
      refine lv_icmp_ge (tgt := 76) hx hb d_M_minor_11 (by decide) (fun h_1 => ?_) (fun h_1 => ?_)
      · have h_1 : rn ≤ r := (nI_leI (a := rn) (b := r) (by omega) (by omega)).mp h_1
        have hrr : r = rn := by omega
        rw [hrr] at hm2
        refine lv_aload_n hx hb d_M_minor_76 rfl (lv_at hl 2 rfl) ?_
        refine lv_aload_n hx hb d_M_minor_77 rfl (lv_at hl 2 rfl) ?_
        refine va_get (D := D) (ci := 7) (v := .int (nI zs)) (C := cn_M) (T := ft_M) (N := 19) hx hb hf_M (fun _ h => h) hown hK hP 0 rfl rfl 1 (by decide) (gw.at G hx0 mw_714 rfl _) (fun _ h9 => h9) rfl d_M_minor_78 ?_
        refine lv_iconst (v := (1 : Int32)) hx hb d_M_minor_81 (by decide) ?_
        refine lv_isub hx hb d_M_minor_82 ?_
        refine tp_i (y := nI (zs - 1)) (nI_sub (a := zs) (b := 1) (by omega)) ?_
        refine cx_call (D := D) (cl := kl) (ws := _) (wc := [(m0, .inr (7, [.int th, .int (nI zs), .int (nI rn), .ref rw, .int kn, .int rk, .int y1, .ref ry, .int sp, .int lg, .ref ti, .int fo, .int pt, .ref po, .ref su, .ref sq, .ref ch, .ref vt, .ref sh])), (sq, .inl (cJ, 256, .inr (.inl f1)))]) (wr := [(rw, .inl (cI, 32, .inl wf))]) (tx_runV (C := cn_M) (b := m0) (As := [.int (nI (zs - 1))]) (rest := []) hx hb hml hown (c_M_worth E H.size m0 rw ry ti po su sq ch vt sh th (nI zs) (nI rn) kn rk y1 sp lg fo pt f1 (zs - 1) (by omega)) (cx_C (b0 := b0) G hx0 mw_832 mw_9 ny_M_worth (by decide)) (gw.at G hx0 mw_829 rfl _) (gw.at G hx0 mw_831 rfl _) (gw.at G hx0 ms_M_worth rfl _) ⟨cx_blind, va_recv hK hP (q0 := 0) (ci := 7) (q := (cn_M, ft_M, 19)) rfl rfl, (cx_pre (s := s) hx0 hP hD hS hA0 [0, 2] rfl rfl (by decide))⟩ rfl rfl hl.1 rfl (lv_room (Nat.le_of_ble_eq_true rfl)) d_M_minor_83 ⟨by decide, by decide⟩) hP hD hS hA [0, 2] [1] rfl rfl (by decide) (by decide) (fun v t w1 H locs ht hW9 hp hP hD hS => ?_) (fun x t w1 H locs ht hW9 hp hP hD hS => by obtain ⟨h9, -⟩ := hp; cases h9)
        obtain ⟨h9, rfl⟩ := hp
        cases h9
        refine W.eq (g2 := F0 m 86 ls [.long ((wth (zs - 1) (zs - 1) 0 f1 1 1).1)]) rfl ?_
        refine W.widen (k := 0) (n := 0) (by decide) (by decide) ?_
        have hP : va_P D kl [(rw, .inl (cI, 32, .inl wf)), (m0, .inr (7, [.int th, .int (nI zs), .int (nI rn), .ref rw, .int kn, .int rk, .int y1, .ref ry, .int sp, .int lg, .ref ti, .int fo, .int pt, .ref po, .ref su, .ref sq, .ref ch, .ref vt, .ref sh])), (sq, .inl (cJ, 256, .inr (.inl ((wth (zs - 1) (zs - 1) 0 f1 1 1).2))))] H := hP
        have hD : va_D A [(rw, .inl (cI, 32, .inl wf)), (m0, .inr (7, [.int th, .int (nI zs), .int (nI rn), .ref rw, .int kn, .int rk, .int y1, .ref ry, .int sp, .int lg, .ref ti, .int fo, .int pt, .ref po, .ref su, .ref sq, .ref ch, .ref vt, .ref sh])), (sq, .inl (cJ, 256, .inr (.inl ((wth (zs - 1) (zs - 1) 0 f1 1 1).2))))] := hD
        refine lv_lstore (lv' := [(4, .long ((wth (zs - 1) (zs - 1) 0 f1 1 1).1)), (3, .int (nI a1)), (0, .ref m0), (1, .int (nI x)), (2, .int (2 : Int32))]) hx hb d_M_minor_86 hl (by decide) rfl (fun ls hl => ?_)
        refine lv_iload_n hx hb d_M_minor_88 rfl (lv_at hl 4 rfl) ?_
        refine lv_iconst (v := (2 : Int32)) hx hb d_M_minor_89 (by decide) ?_
        refine lv_irem hx hb d_M_minor_90 (by decide) ?_
        refine tp_i (y := (0 : Int32)) (by decide) ?_
        refine lv_if_ne (tgt := 99) hx hb d_M_minor_91 (by decide) (fun h99 => absurd h99 (by decide)) (fun _ => ?_)
        refine lv_lload hx hb d_M_minor_94 (lv_at hl 0 rfl) ?_
        refine lv_goto (tgt := 102) hx hb d_M_minor_96 (by decide) ?_
        rw [← hQe]
        exact tx_mono (fun _ h => tx_Z.of h) (W.lret (v := (wth (zs - 1) (zs - 1) 0 f1 1 1).1) hx hb hr (fun t ht hW => ⟨⟨[(m0, .inr (7, [.int th, .int (nI zs), .int (nI rn), .ref rw, .int kn, .int rk, .int y1, .ref ry, .int sp, .int lg, .ref ti, .int fo, .int pt, .ref po, .ref su, .ref sq, .ref ch, .ref vt, .ref sh])), (rw, .inl (cI, 32, .inl wf)), (sq, .inl (cJ, 256, .inr (.inl ((wth (zs - 1) (zs - 1) 0 f1 1 1).2))))], ⟨((wth (zs - 1) (zs - 1) 0 f1 1 1).1), ((wth (zs - 1) (zs - 1) 0 f1 1 1).2), rfl, (by unfold mnr; rw [hm2]; rfl), rfl⟩, by rw [ht]; exact hP.sub [1, 0, 2] rfl, hD.sub [1, 0, 2] (by decide) rfl⟩, hS.F ht⟩) hS.2.2 d_M_minor_102)
      · have h_1 : ¬ (rn ≤ r) := fun z99 => h_1 ((nI_leI (a := rn) (b := r) (by omega) (by omega)).mpr z99)
        refine lv_iconst (v := (0 : Int32)) hx hb d_M_minor_14 (by decide) ?_
        refine lv_istore (lv' := [(5, .int (0 : Int32)), (4, .int (nI r)), (3, .int (nI a1)), (0, .ref m0), (1, .int (nI x)), (2, .int (2 : Int32))]) hx hb d_M_minor_15 hl (by decide) rfl (fun ls hl => ?_)
        have lp_17 : ∀ (n9 : Nat) (i : Nat) (a2 : Nat) (f2 : Nat → Int64) (ls : Array Slot) (H : Heap) (locs : List Loc), zs - i = n9 → (mf1 wf r 2 i (a1, f1) = (a2, f2)) → (i ≤ zs) → (a2 ≤ a1 + i) → (0 < i → (x / 2 ^ r) % 2 = 1) → lv_has ls 6 [(5, .int (nI i)), (4, .int (nI r)), (3, .int (nI a2)), (0, .ref m0), (1, .int (nI x)), (2, .int (2 : Int32))] → va_P D kl [(m0, .inr (7, [.int th, .int (nI zs), .int (nI rn), .ref rw, .int kn, .int rk, .int y1, .ref ry, .int sp, .int lg, .ref ti, .int fo, .int pt, .ref po, .ref su, .ref sq, .ref ch, .ref vt, .ref sh])), (rw, .inl (cI, 32, .inl wf)), (sq, .inl (cJ, 256, .inr (.inl f2)))] H → va_D A [(m0, .inr (7, [.int th, .int (nI zs), .int (nI rn), .ref rw, .int kn, .int rk, .int y1, .ref ry, .int sp, .int lg, .ref ti, .int fo, .int pt, .ref po, .ref su, .ref sq, .ref ch, .ref vt, .ref sh])), (rw, .inl (cI, 32, .inl wf)), (sq, .inl (cJ, 256, .inr (.inl f2)))] → va_S A s.heap H locs → W p l e ({ frames := 1, cells := 0, slots := 0, locals := 29 } : Room) s m ([.ref m0, .int (nI x), .int (2 : Int32)] : List Value).toArray below meth c H locs 0 0 Q (F0 m 17 ls []) := by
          intro n9
          induction n9 using Nat.strongRecOn with
          | ind n9 ih_17 =>
            intro i a2 f2 ls H locs hm_17 hm1 hi9 ha2 hib hl hP hD hS
            refine lv_iload hx hb d_M_minor_17 (lv_at hl 0 rfl) ?_
            refine lv_aload_n hx hb d_M_minor_19 rfl (lv_at hl 3 rfl) ?_
            refine va_get (D := D) (ci := 7) (v := .int (nI zs)) (C := cn_M) (T := ft_M) (N := 19) hx hb hf_M (fun _ h => h) hown hK hP 0 rfl rfl 1 (by decide) (gw.at G hx0 mw_714 rfl _) (fun _ h9 => h9) rfl d_M_minor_20 ?_
            refine lv_icmp_ge (tgt := 70) hx hb d_M_minor_23 (by decide) (fun h_2 => ?_) (fun h_2 => ?_)
            · have h_2 : zs ≤ i := (nI_leI (a := zs) (b := i) (by omega) (by omega)).mp h_2
              refine lv_iinc (lv' := [(4, .int (nI (r + 1))), (5, .int (nI i)), (3, .int (nI a2)), (0, .ref m0), (1, .int (nI x)), (2, .int (2 : Int32))]) (k := 1) (v := nI (r + 1)) hx hb d_M_minor_70 hl rfl (nI_add r 1) (by decide) rfl (fun ls hl => ?_)
              refine lv_goto (tgt := 5) hx hb d_M_minor_73 (by decide) ?_
              exact ih_5 _ (by omega) (r + 1) a2 f2 ls H locs rfl (mf2_y hm2 (hib (by omega)) ((show i = zs by omega) ▸ hm1)) (by omega) (by omega) (lv_sub hl [0, 2, 3, 4, 5] rfl) (hP.sub [0, 1, 2] rfl) (hD.sub [0, 1, 2] (by decide) rfl) hS
            · have h_2 : ¬ (zs ≤ i) := fun z99 => h_2 ((nI_leI (a := zs) (b := i) (by omega) (by omega)).mpr z99)
              refine lv_iload_n hx hb d_M_minor_26 rfl (lv_at hl 4 rfl) ?_
              refine lv_iload hx hb d_M_minor_27 (lv_at hl 1 rfl) ?_
              refine lv_ishr hx hb d_M_minor_29 ?_
              refine tp_i (y := nI (x / 2 ^ r)) (nI_shr (n := x) (p := r) (by omega) (by omega)) ?_
              refine lv_iconst (v := (1 : Int32)) hx hb d_M_minor_30 (by decide) ?_
              refine lv_iand hx hb d_M_minor_31 ?_
              refine tp_i (y := nI ((x / 2 ^ r) % 2)) (nI_and1 _) ?_
              refine lv_iconst (v := (1 : Int32)) hx hb d_M_minor_32 (by decide) ?_
              refine lv_icmp_ne (tgt := 70) hx hb d_M_minor_33 (by decide) (fun h_3 => ?_) (fun h_3 => ?_)
              · have h_3 : ¬ (((x / 2 ^ r) % 2) = 1) := fun z99 => h_3 ((nI_eq (a := (x / 2 ^ r) % 2) (b := 1) (by omega) (by omega)).mpr z99)
                refine lv_iinc (lv' := [(4, .int (nI (r + 1))), (5, .int (nI i)), (3, .int (nI a2)), (0, .ref m0), (1, .int (nI x)), (2, .int (2 : Int32))]) (k := 1) (v := nI (r + 1)) hx hb d_M_minor_70 hl rfl (nI_add r 1) (by decide) rfl (fun ls hl => ?_)
                refine lv_goto (tgt := 5) hx hb d_M_minor_73 (by decide) ?_
                exact ih_5 _ (by omega) (r + 1) a2 f2 ls H locs rfl (mf2_n (hm2.trans (by have z8 : i = 0 := Nat.eq_zero_of_not_pos (fun z9 => h_3 (hib z9)); have z7 := hm1; rw [z8] at z7; exact z7)) h_3) (by omega) (by omega) (lv_sub hl [0, 2, 3, 4, 5] rfl) (hP.sub [0, 1, 2] rfl) (hD.sub [0, 1, 2] (by decide) rfl) hS
              · have h_3 : ((x / 2 ^ r) % 2) = 1 := (nI_eq (a := (x / 2 ^ r) % 2) (b := 1) (by omega) (by omega)).mp h_3
                refine lv_iload hx hb d_M_minor_36 (lv_at hl 0 rfl) ?_
                refine lv_iload_n hx hb d_M_minor_38 rfl (lv_at hl 5 rfl) ?_
                refine lv_icmp_eq (tgt := 64) hx hb d_M_minor_39 (by decide) (fun h_4 => ?_) (fun h_4 => ?_)
                · have h_4 : i = 2 := (nI_eq (a := i) (b := 2) (by omega) (by omega)).mp h_4
                  refine lv_iinc (lv' := [(5, .int (nI (i + 1))), (4, .int (nI r)), (3, .int (nI a2)), (0, .ref m0), (1, .int (nI x)), (2, .int (2 : Int32))]) (k := 0) (v := nI (i + 1)) hx hb d_M_minor_64 hl rfl (nI_add i 1) (by decide) rfl (fun ls hl => ?_)
                  refine lv_goto (tgt := 17) hx hb d_M_minor_67 (by decide) ?_
                  exact ih_17 _ (by omega) (i + 1) a2 f2 ls H locs rfl (mf1_n hm1 h_4) (by omega) (by omega) (fun _ => h_3) (lv_sub hl [0, 1, 2, 3, 4, 5] rfl) (hP.sub [0, 1, 2] rfl) (hD.sub [0, 1, 2] (by decide) rfl) hS
                · have h_4 : ¬ (i = 2) := fun z99 => h_4 ((nI_eq (a := i) (b := 2) (by omega) (by omega)).mpr z99)
                  refine lv_aload_n hx hb d_M_minor_42 rfl (lv_at hl 3 rfl) ?_
                  refine va_get (D := D) (ci := 7) (v := .ref sq) (C := cn_M) (T := ft_M) (N := 19) hx hb hf_M (fun _ h => h) hown hK hP 0 rfl rfl 15 (by decide) (gw.at G hx0 mw_728 rfl _) (fun _ h9 => h9) rfl d_M_minor_43 ?_
                  refine lv_iload_n hx hb d_M_minor_46 rfl (lv_at hl 2 rfl) ?_
                  refine lv_aload_n hx hb d_M_minor_47 rfl (lv_at hl 3 rfl) ?_
                  refine va_get (D := D) (ci := 7) (v := .ref rw) (C := cn_M) (T := ft_M) (N := 19) hx hb hf_M (fun _ h => h) hown hK hP 0 rfl rfl 3 (by decide) (gw.at G hx0 mw_716 rfl _) (fun _ h9 => h9) rfl d_M_minor_48 ?_
                  refine lv_iconst (v := (4 : Int32)) hx hb d_M_minor_51 (by decide) ?_
                  refine lv_iload hx hb d_M_minor_52 (lv_at hl 1 rfl) ?_
                  refine lv_imul hx hb d_M_minor_54 ?_
                  refine tp_i (y := nI (4 * r)) (nI_mul 4 r) ?_
                  refine lv_iload hx hb d_M_minor_55 (lv_at hl 0 rfl) ?_
                  refine lv_iadd hx hb d_M_minor_57 ?_
                  refine tp_i (y := nI ((4 * r) + i)) (nI_add (4 * r) i) ?_
                  refine va_iald hx hb hK hP 1 0 rfl rfl (vp_in_nI (n := (4 * r) + i) (by omega) (by omega)) d_M_minor_58 ?_
                  refine tp_i (y := wf ((4 * r) + i)) (congrArg wf (nI_clamp (n := (4 * r) + i) (by omega))) ?_
                  refine lv_i2l (v := (wf ((4 * r) + i)).toInt64) hx hb d_M_minor_59 rfl ?_
                  refine va_last hx hb hK hP hD hS 2 1 rfl rfl (vp_in_nI (n := a2) (by omega) (by omega)) d_M_minor_60 (fun H locs hP hD hS => ?_)
                  rw [nI_clamp (n := a2) (by omega)] at hP hD
                  have hP : va_P D kl [(m0, .inr (7, [.int th, .int (nI zs), .int (nI rn), .ref rw, .int kn, .int rk, .int y1, .ref ry, .int sp, .int lg, .ref ti, .int fo, .int pt, .ref po, .ref su, .ref sq, .ref ch, .ref vt, .ref sh])), (rw, .inl (cI, 32, .inl wf)), (sq, .inl (cJ, 256, .inr (.inl (vp_updL f2 a2 ((wf ((4 * r) + i)).toInt64)))))] H := hP
                  have hD : va_D A [(m0, .inr (7, [.int th, .int (nI zs), .int (nI rn), .ref rw, .int kn, .int rk, .int y1, .ref ry, .int sp, .int lg, .ref ti, .int fo, .int pt, .ref po, .ref su, .ref sq, .ref ch, .ref vt, .ref sh])), (rw, .inl (cI, 32, .inl wf)), (sq, .inl (cJ, 256, .inr (.inl (vp_updL f2 a2 ((wf ((4 * r) + i)).toInt64)))))] := hD
                  refine lv_iinc (lv' := [(3, .int (nI (a2 + 1))), (5, .int (nI i)), (4, .int (nI r)), (0, .ref m0), (1, .int (nI x)), (2, .int (2 : Int32))]) (k := 2) (v := nI (a2 + 1)) hx hb d_M_minor_61 hl rfl (nI_add a2 1) (by decide) rfl (fun ls hl => ?_)
                  refine lv_iinc (lv' := [(5, .int (nI (i + 1))), (3, .int (nI (a2 + 1))), (4, .int (nI r)), (0, .ref m0), (1, .int (nI x)), (2, .int (2 : Int32))]) (k := 1) (v := nI (i + 1)) hx hb d_M_minor_64 hl rfl (nI_add i 1) (by decide) rfl (fun ls hl => ?_)
                  refine lv_goto (tgt := 17) hx hb d_M_minor_67 (by decide) ?_
                  exact ih_17 _ (by omega) (i + 1) (a2 + 1) (vp_updL f2 a2 ((wf ((4 * r) + i)).toInt64)) ls H locs rfl (mf1_y hm1 h_4) (by omega) (by omega) (fun _ => h_3) (lv_sub hl [0, 2, 1, 3, 4, 5] rfl) (hP.sub [0, 1, 2] rfl) (hD.sub [0, 1, 2] (by decide) rfl) hS
        exact lp_17 _ 0 a1 f1 ls H locs rfl rfl (Nat.zero_le _) (Nat.le_refl _) (fun z9 => absurd z9 (Nat.lt_irrefl 0)) (lv_sub hl [0, 1, 2, 3, 4, 5] rfl) (hP.sub [0, 1, 2] rfl) (hD.sub [0, 1, 2] (by decide) rfl) hS
  exact lp_5 _ 0 0 qf ls s.heap [] rfl rfl (Nat.zero_le _) (Nat.le_refl _) (lv_sub hl [0, 1, 2, 3, 4] rfl) (hP.sub [0, 1, 2] rfl) (hD.sub [0, 1, 2] (by decide) rfl) hS

set_option maxHeartbeats 4000000 in
set_option maxRecDepth 100000 in
theorem c_M_minor3 {l : Launch} {s0 : State} {b0 : Addr} {D : va_G} {cI cJ cZ : ClassId} {tC tS : Nat} (E : gE l s0 b0 D cI cJ cZ tC tS) (sz : Nat) (m0 : Nat) (rw : Nat) (ry : Nat) (ti : Nat) (po : Nat) (su : Nat) (sq : Nat) (ch : Nat) (vt : Nat) (sh : Nat) (th : Int32) (kn : Int32) (rk : Int32) (y1 : Int32) (sp : Int32) (lg : Int32) (fo : Int32) (pt : Int32) (zs : Nat) (rn : Nat) (wf : Nat → Int32) (qf : Nat → Int64) (x : Nat) (hz2 : 2 ≤ zs) (hz4 : zs ≤ 4) (hr8 : rn ≤ 8) (hx8 : x < 2 ^ 31) : cx_M l s0 D kl y_M_minor b_M_minor 6 (some .long) ({ frames := 1, cells := 0, slots := 0, locals := 29 } : Room) 0 0 [.ref m0, .int (nI x), .int (3 : Int32)] [(m0, .inr (7, [.int th, .int (nI zs), .int (nI rn), .ref rw, .int kn, .int rk, .int y1, .ref ry, .int sp, .int lg, .ref ti, .int fo, .int pt, .ref po, .ref su, .ref sq, .ref ch, .ref vt, .ref sh])), (rw, .inl (cI, 32, .inl wf)), (sq, .inl (cJ, 256, .inr (.inl qf)))] sz (fun o9 _ w9 => ∃ (v : Int64) (q2 : Nat → Int64), o9 = .returned (some (.long v)) ∧ mnr wf rn zs x 3 qf = (v, q2) ∧ w9 = [(m0, .inr (7, [.int th, .int (nI zs), .int (nI rn), .ref rw, .int kn, .int rk, .int y1, .ref ry, .int sp, .int lg, .ref ti, .int fo, .int pt, .ref po, .ref su, .ref sq, .ref ch, .ref vt, .ref sh])), (rw, .inl (cI, 32, .inl wf)), (sq, .inl (cJ, 256, .inr (.inl q2)))]) := by
  refine tx_ofW (cc := b_M_minor) (maxL := 6) (ret := (some .long)) (by decide) rfl ?_
  intro p e s m args below meth c s₁ B hml hT hv
  obtain ⟨rfl, hsz, hP, hD0, hx0⟩ := hv
  have hx := B.exec
  have hb := B.bytes
  have hr := B.returns
  have G := E.2.1
  have hown : s.vm.findClass cn_M = some m.cls := findClass_of_methodNamed B.named
  have hlocks := B.notSynchronized
  have hK := va_K.moved hx0.1.alike E.2.2.1
  have hf_M : ∀ w99 ∈ u_ws cn_M ft_M 19, w99.before ([.ref m0, .int (nI x), .int (3 : Int32)] : List Value).toArray s = true := fun w99 h99 => gw.at G hx0 (fw_M w99 h99) (fo_M w99 h99) _
  subst hsz
  have hA0 := cx_new hD0 hx0.2.1
  have hD := hD0.self (sz := s.heap.size)
  generalize hAe : va_A [(m0, .inr (7, [.int th, .int (nI zs), .int (nI rn), .ref rw, .int kn, .int rk, .int y1, .ref ry, .int sp, .int lg, .ref ti, .int fo, .int pt, .ref po, .ref su, .ref sq, .ref ch, .ref vt, .ref sh])), (rw, .inl (cI, 32, .inl wf)), (sq, .inl (cJ, 256, .inr (.inl qf)))] s.heap.size = A at hD hA0 ⊢
  have hA : ∀ q : Nat, s.heap.size ≤ q → A q := fun q h => by rw [← hAe]; exact Or.inr h
  have hS : va_S A s.heap s.heap [] := va_S.rf
  have hl := lv_entry ([.ref m0, .int (nI x), .int (3 : Int32)]) (n := 6) (Nat.le_of_ble_eq_true rfl)
  rw [lg_entry_eq]
  generalize (lg_sl ([.ref m0, .int (nI x), .int (3 : Int32)]) ++ List.replicate (6 - (lg_sl ([.ref m0, .int (nI x), .int (3 : Int32)])).length) Slot.unset).toArray = ls at hl ⊢
  have hl : lv_has ls 6 [(0, .ref m0), (1, .int (nI x)), (2, .int (3 : Int32))] := hl
  have hP : va_P D kl [(m0, .inr (7, [.int th, .int (nI zs), .int (nI rn), .ref rw, .int kn, .int rk, .int y1, .ref ry, .int sp, .int lg, .ref ti, .int fo, .int pt, .ref po, .ref su, .ref sq, .ref ch, .ref vt, .ref sh])), (rw, .inl (cI, 32, .inl wf)), (sq, .inl (cJ, 256, .inr (.inl qf)))] s.heap := hP
  have hml : c.maxLocals = 6 := hml
  generalize hQe : tx_Z below (cx_Q D kl A (fun o9 _ w9 => ∃ (v : Int64) (q2 : Nat → Int64), o9 = .returned (some (.long v)) ∧ mnr wf rn zs x 3 qf = (v, q2) ∧ w9 = [(m0, .inr (7, [.int th, .int (nI zs), .int (nI rn), .ref rw, .int kn, .int rk, .int y1, .ref ry, .int sp, .int lg, .ref ti, .int fo, .int pt, .ref po, .ref su, .ref sq, .ref ch, .ref vt, .ref sh])), (rw, .inl (cI, 32, .inl wf)), (sq, .inl (cJ, 256, .inr (.inl q2)))])) ([.ref m0, .int (nI x), .int (3 : Int32)] : List Value).toArray s 0 0 A = Q
  refine lv_iconst (v := (0 : Int32)) hx hb d_M_minor_0 (by decide) ?_
  refine lv_istore_n (lv' := [(3, .int (0 : Int32)), (0, .ref m0), (1, .int (nI x)), (2, .int (3 : Int32))]) hx hb d_M_minor_1 rfl hl (by decide) rfl (fun ls hl => ?_)
  refine lv_iconst (v := (0 : Int32)) hx hb d_M_minor_2 (by decide) ?_
  refine lv_istore (lv' := [(4, .int (0 : Int32)), (3, .int (0 : Int32)), (0, .ref m0), (1, .int (nI x)), (2, .int (3 : Int32))]) hx hb d_M_minor_3 hl (by decide) rfl (fun ls hl => ?_)
  have lp_5 : ∀ (n9 : Nat) (r : Nat) (a1 : Nat) (f1 : Nat → Int64) (ls : Array Slot) (H : Heap) (locs : List Loc), rn - r = n9 → (mf2 wf x zs 3 r (0, qf) = (a1, f1)) → (r ≤ rn) → (a1 ≤ 4 * r) → lv_has ls 6 [(4, .int (nI r)), (3, .int (nI a1)), (0, .ref m0), (1, .int (nI x)), (2, .int (3 : Int32))] → va_P D kl [(m0, .inr (7, [.int th, .int (nI zs), .int (nI rn), .ref rw, .int kn, .int rk, .int y1, .ref ry, .int sp, .int lg, .ref ti, .int fo, .int pt, .ref po, .ref su, .ref sq, .ref ch, .ref vt, .ref sh])), (rw, .inl (cI, 32, .inl wf)), (sq, .inl (cJ, 256, .inr (.inl f1)))] H → va_D A [(m0, .inr (7, [.int th, .int (nI zs), .int (nI rn), .ref rw, .int kn, .int rk, .int y1, .ref ry, .int sp, .int lg, .ref ti, .int fo, .int pt, .ref po, .ref su, .ref sq, .ref ch, .ref vt, .ref sh])), (rw, .inl (cI, 32, .inl wf)), (sq, .inl (cJ, 256, .inr (.inl f1)))] → va_S A s.heap H locs → W p l e ({ frames := 1, cells := 0, slots := 0, locals := 29 } : Room) s m ([.ref m0, .int (nI x), .int (3 : Int32)] : List Value).toArray below meth c H locs 0 0 Q (F0 m 5 ls []) := by
    intro n9
    induction n9 using Nat.strongRecOn with
    | ind n9 ih_5 =>
      intro r a1 f1 ls H locs hm_5 hm2 hr9 ha1 hl hP hD hS
      refine lv_iload hx hb d_M_minor_5 (lv_at hl 0 rfl) ?_
      refine lv_aload_n hx hb d_M_minor_7 rfl (lv_at hl 2 rfl) ?_
      refine va_get (D := D) (ci := 7) (v := .int (nI rn)) (C := cn_M) (T := ft_M) (N := 19) hx hb hf_M (fun _ h => h) hown hK hP 0 rfl rfl 2 (by decide) (gw.at G hx0 mw_715 rfl _) (fun _ h9 => h9) rfl d_M_minor_8 ?_
      refine lv_icmp_ge (tgt := 76) hx hb d_M_minor_11 (by decide) (fun h_1 => ?_) (fun h_1 => ?_)
      · have h_1 : rn ≤ r := (nI_leI (a := rn) (b := r) (by omega) (by omega)).mp h_1
        have hrr : r = rn := by omega
        rw [hrr] at hm2
        refine lv_aload_n hx hb d_M_minor_76 rfl (lv_at hl 2 rfl) ?_
        refine lv_aload_n hx hb d_M_minor_77 rfl (lv_at hl 2 rfl) ?_
        refine va_get (D := D) (ci := 7) (v := .int (nI zs)) (C := cn_M) (T := ft_M) (N := 19) hx hb hf_M (fun _ h => h) hown hK hP 0 rfl rfl 1 (by decide) (gw.at G hx0 mw_714 rfl _) (fun _ h9 => h9) rfl d_M_minor_78 ?_
        refine lv_iconst (v := (1 : Int32)) hx hb d_M_minor_81 (by decide) ?_
        refine lv_isub hx hb d_M_minor_82 ?_
        refine tp_i (y := nI (zs - 1)) (nI_sub (a := zs) (b := 1) (by omega)) ?_
        refine cx_call (D := D) (cl := kl) (ws := _) (wc := [(m0, .inr (7, [.int th, .int (nI zs), .int (nI rn), .ref rw, .int kn, .int rk, .int y1, .ref ry, .int sp, .int lg, .ref ti, .int fo, .int pt, .ref po, .ref su, .ref sq, .ref ch, .ref vt, .ref sh])), (sq, .inl (cJ, 256, .inr (.inl f1)))]) (wr := [(rw, .inl (cI, 32, .inl wf))]) (tx_runV (C := cn_M) (b := m0) (As := [.int (nI (zs - 1))]) (rest := []) hx hb hml hown (c_M_worth E H.size m0 rw ry ti po su sq ch vt sh th (nI zs) (nI rn) kn rk y1 sp lg fo pt f1 (zs - 1) (by omega)) (cx_C (b0 := b0) G hx0 mw_832 mw_9 ny_M_worth (by decide)) (gw.at G hx0 mw_829 rfl _) (gw.at G hx0 mw_831 rfl _) (gw.at G hx0 ms_M_worth rfl _) ⟨cx_blind, va_recv hK hP (q0 := 0) (ci := 7) (q := (cn_M, ft_M, 19)) rfl rfl, (cx_pre (s := s) hx0 hP hD hS hA0 [0, 2] rfl rfl (by decide))⟩ rfl rfl hl.1 rfl (lv_room (Nat.le_of_ble_eq_true rfl)) d_M_minor_83 ⟨by decide, by decide⟩) hP hD hS hA [0, 2] [1] rfl rfl (by decide) (by decide) (fun v t w1 H locs ht hW9 hp hP hD hS => ?_) (fun x t w1 H locs ht hW9 hp hP hD hS => by obtain ⟨h9, -⟩ := hp; cases h9)
        obtain ⟨h9, rfl⟩ := hp
        cases h9
        refine W.eq (g2 := F0 m 86 ls [.long ((wth (zs - 1) (zs - 1) 0 f1 1 1).1)]) rfl ?_
        refine W.widen (k := 0) (n := 0) (by decide) (by decide) ?_
        have hP : va_P D kl [(rw, .inl (cI, 32, .inl wf)), (m0, .inr (7, [.int th, .int (nI zs), .int (nI rn), .ref rw, .int kn, .int rk, .int y1, .ref ry, .int sp, .int lg, .ref ti, .int fo, .int pt, .ref po, .ref su, .ref sq, .ref ch, .ref vt, .ref sh])), (sq, .inl (cJ, 256, .inr (.inl ((wth (zs - 1) (zs - 1) 0 f1 1 1).2))))] H := hP
        have hD : va_D A [(rw, .inl (cI, 32, .inl wf)), (m0, .inr (7, [.int th, .int (nI zs), .int (nI rn), .ref rw, .int kn, .int rk, .int y1, .ref ry, .int sp, .int lg, .ref ti, .int fo, .int pt, .ref po, .ref su, .ref sq, .ref ch, .ref vt, .ref sh])), (sq, .inl (cJ, 256, .inr (.inl ((wth (zs - 1) (zs - 1) 0 f1 1 1).2))))] := hD
        refine lv_lstore (lv' := [(4, .long ((wth (zs - 1) (zs - 1) 0 f1 1 1).1)), (3, .int (nI a1)), (0, .ref m0), (1, .int (nI x)), (2, .int (3 : Int32))]) hx hb d_M_minor_86 hl (by decide) rfl (fun ls hl => ?_)
        refine lv_iload_n hx hb d_M_minor_88 rfl (lv_at hl 4 rfl) ?_
        refine lv_iconst (v := (2 : Int32)) hx hb d_M_minor_89 (by decide) ?_
        refine lv_irem hx hb d_M_minor_90 (by decide) ?_
        refine tp_i (y := (1 : Int32)) (by decide) ?_
        refine lv_if_ne (tgt := 99) hx hb d_M_minor_91 (by decide) (fun _ => ?_) (fun h99 => absurd h99 (by decide))
        refine lv_lload hx hb d_M_minor_99 (lv_at hl 0 rfl) ?_
        refine lv_lneg hx hb d_M_minor_101 ?_
        rw [← hQe]
        exact tx_mono (fun _ h => tx_Z.of h) (W.lret (v := -((wth (zs - 1) (zs - 1) 0 f1 1 1).1)) hx hb hr (fun t ht hW => ⟨⟨[(m0, .inr (7, [.int th, .int (nI zs), .int (nI rn), .ref rw, .int kn, .int rk, .int y1, .ref ry, .int sp, .int lg, .ref ti, .int fo, .int pt, .ref po, .ref su, .ref sq, .ref ch, .ref vt, .ref sh])), (rw, .inl (cI, 32, .inl wf)), (sq, .inl (cJ, 256, .inr (.inl ((wth (zs - 1) (zs - 1) 0 f1 1 1).2))))], ⟨(-((wth (zs - 1) (zs - 1) 0 f1 1 1).1)), ((wth (zs - 1) (zs - 1) 0 f1 1 1).2), rfl, (by unfold mnr; rw [hm2]; rfl), rfl⟩, by rw [ht]; exact hP.sub [1, 0, 2] rfl, hD.sub [1, 0, 2] (by decide) rfl⟩, hS.F ht⟩) hS.2.2 d_M_minor_102)
      · have h_1 : ¬ (rn ≤ r) := fun z99 => h_1 ((nI_leI (a := rn) (b := r) (by omega) (by omega)).mpr z99)
        refine lv_iconst (v := (0 : Int32)) hx hb d_M_minor_14 (by decide) ?_
        refine lv_istore (lv' := [(5, .int (0 : Int32)), (4, .int (nI r)), (3, .int (nI a1)), (0, .ref m0), (1, .int (nI x)), (2, .int (3 : Int32))]) hx hb d_M_minor_15 hl (by decide) rfl (fun ls hl => ?_)
        have lp_17 : ∀ (n9 : Nat) (i : Nat) (a2 : Nat) (f2 : Nat → Int64) (ls : Array Slot) (H : Heap) (locs : List Loc), zs - i = n9 → (mf1 wf r 3 i (a1, f1) = (a2, f2)) → (i ≤ zs) → (a2 ≤ a1 + i) → (0 < i → (x / 2 ^ r) % 2 = 1) → lv_has ls 6 [(5, .int (nI i)), (4, .int (nI r)), (3, .int (nI a2)), (0, .ref m0), (1, .int (nI x)), (2, .int (3 : Int32))] → va_P D kl [(m0, .inr (7, [.int th, .int (nI zs), .int (nI rn), .ref rw, .int kn, .int rk, .int y1, .ref ry, .int sp, .int lg, .ref ti, .int fo, .int pt, .ref po, .ref su, .ref sq, .ref ch, .ref vt, .ref sh])), (rw, .inl (cI, 32, .inl wf)), (sq, .inl (cJ, 256, .inr (.inl f2)))] H → va_D A [(m0, .inr (7, [.int th, .int (nI zs), .int (nI rn), .ref rw, .int kn, .int rk, .int y1, .ref ry, .int sp, .int lg, .ref ti, .int fo, .int pt, .ref po, .ref su, .ref sq, .ref ch, .ref vt, .ref sh])), (rw, .inl (cI, 32, .inl wf)), (sq, .inl (cJ, 256, .inr (.inl f2)))] → va_S A s.heap H locs → W p l e ({ frames := 1, cells := 0, slots := 0, locals := 29 } : Room) s m ([.ref m0, .int (nI x), .int (3 : Int32)] : List Value).toArray below meth c H locs 0 0 Q (F0 m 17 ls []) := by
          intro n9
          induction n9 using Nat.strongRecOn with
          | ind n9 ih_17 =>
            intro i a2 f2 ls H locs hm_17 hm1 hi9 ha2 hib hl hP hD hS
            refine lv_iload hx hb d_M_minor_17 (lv_at hl 0 rfl) ?_
            refine lv_aload_n hx hb d_M_minor_19 rfl (lv_at hl 3 rfl) ?_
            refine va_get (D := D) (ci := 7) (v := .int (nI zs)) (C := cn_M) (T := ft_M) (N := 19) hx hb hf_M (fun _ h => h) hown hK hP 0 rfl rfl 1 (by decide) (gw.at G hx0 mw_714 rfl _) (fun _ h9 => h9) rfl d_M_minor_20 ?_
            refine lv_icmp_ge (tgt := 70) hx hb d_M_minor_23 (by decide) (fun h_2 => ?_) (fun h_2 => ?_)
            · have h_2 : zs ≤ i := (nI_leI (a := zs) (b := i) (by omega) (by omega)).mp h_2
              refine lv_iinc (lv' := [(4, .int (nI (r + 1))), (5, .int (nI i)), (3, .int (nI a2)), (0, .ref m0), (1, .int (nI x)), (2, .int (3 : Int32))]) (k := 1) (v := nI (r + 1)) hx hb d_M_minor_70 hl rfl (nI_add r 1) (by decide) rfl (fun ls hl => ?_)
              refine lv_goto (tgt := 5) hx hb d_M_minor_73 (by decide) ?_
              exact ih_5 _ (by omega) (r + 1) a2 f2 ls H locs rfl (mf2_y hm2 (hib (by omega)) ((show i = zs by omega) ▸ hm1)) (by omega) (by omega) (lv_sub hl [0, 2, 3, 4, 5] rfl) (hP.sub [0, 1, 2] rfl) (hD.sub [0, 1, 2] (by decide) rfl) hS
            · have h_2 : ¬ (zs ≤ i) := fun z99 => h_2 ((nI_leI (a := zs) (b := i) (by omega) (by omega)).mpr z99)
              refine lv_iload_n hx hb d_M_minor_26 rfl (lv_at hl 4 rfl) ?_
              refine lv_iload hx hb d_M_minor_27 (lv_at hl 1 rfl) ?_
              refine lv_ishr hx hb d_M_minor_29 ?_
              refine tp_i (y := nI (x / 2 ^ r)) (nI_shr (n := x) (p := r) (by omega) (by omega)) ?_
              refine lv_iconst (v := (1 : Int32)) hx hb d_M_minor_30 (by decide) ?_
              refine lv_iand hx hb d_M_minor_31 ?_
              refine tp_i (y := nI ((x / 2 ^ r) % 2)) (nI_and1 _) ?_
              refine lv_iconst (v := (1 : Int32)) hx hb d_M_minor_32 (by decide) ?_
              refine lv_icmp_ne (tgt := 70) hx hb d_M_minor_33 (by decide) (fun h_3 => ?_) (fun h_3 => ?_)
              · have h_3 : ¬ (((x / 2 ^ r) % 2) = 1) := fun z99 => h_3 ((nI_eq (a := (x / 2 ^ r) % 2) (b := 1) (by omega) (by omega)).mpr z99)
                refine lv_iinc (lv' := [(4, .int (nI (r + 1))), (5, .int (nI i)), (3, .int (nI a2)), (0, .ref m0), (1, .int (nI x)), (2, .int (3 : Int32))]) (k := 1) (v := nI (r + 1)) hx hb d_M_minor_70 hl rfl (nI_add r 1) (by decide) rfl (fun ls hl => ?_)
                refine lv_goto (tgt := 5) hx hb d_M_minor_73 (by decide) ?_
                exact ih_5 _ (by omega) (r + 1) a2 f2 ls H locs rfl (mf2_n (hm2.trans (by have z8 : i = 0 := Nat.eq_zero_of_not_pos (fun z9 => h_3 (hib z9)); have z7 := hm1; rw [z8] at z7; exact z7)) h_3) (by omega) (by omega) (lv_sub hl [0, 2, 3, 4, 5] rfl) (hP.sub [0, 1, 2] rfl) (hD.sub [0, 1, 2] (by decide) rfl) hS
              · have h_3 : ((x / 2 ^ r) % 2) = 1 := (nI_eq (a := (x / 2 ^ r) % 2) (b := 1) (by omega) (by omega)).mp h_3
                refine lv_iload hx hb d_M_minor_36 (lv_at hl 0 rfl) ?_
                refine lv_iload_n hx hb d_M_minor_38 rfl (lv_at hl 5 rfl) ?_
                refine lv_icmp_eq (tgt := 64) hx hb d_M_minor_39 (by decide) (fun h_4 => ?_) (fun h_4 => ?_)
                · have h_4 : i = 3 := (nI_eq (a := i) (b := 3) (by omega) (by omega)).mp h_4
                  refine lv_iinc (lv' := [(5, .int (nI (i + 1))), (4, .int (nI r)), (3, .int (nI a2)), (0, .ref m0), (1, .int (nI x)), (2, .int (3 : Int32))]) (k := 0) (v := nI (i + 1)) hx hb d_M_minor_64 hl rfl (nI_add i 1) (by decide) rfl (fun ls hl => ?_)
                  refine lv_goto (tgt := 17) hx hb d_M_minor_67 (by decide) ?_
                  exact ih_17 _ (by omega) (i + 1) a2 f2 ls H locs rfl (mf1_n hm1 h_4) (by omega) (by omega) (fun _ => h_3) (lv_sub hl [0, 1, 2, 3, 4, 5] rfl) (hP.sub [0, 1, 2] rfl) (hD.sub [0, 1, 2] (by decide) rfl) hS
                · have h_4 : ¬ (i = 3) := fun z99 => h_4 ((nI_eq (a := i) (b := 3) (by omega) (by omega)).mpr z99)
                  refine lv_aload_n hx hb d_M_minor_42 rfl (lv_at hl 3 rfl) ?_
                  refine va_get (D := D) (ci := 7) (v := .ref sq) (C := cn_M) (T := ft_M) (N := 19) hx hb hf_M (fun _ h => h) hown hK hP 0 rfl rfl 15 (by decide) (gw.at G hx0 mw_728 rfl _) (fun _ h9 => h9) rfl d_M_minor_43 ?_
                  refine lv_iload_n hx hb d_M_minor_46 rfl (lv_at hl 2 rfl) ?_
                  refine lv_aload_n hx hb d_M_minor_47 rfl (lv_at hl 3 rfl) ?_
                  refine va_get (D := D) (ci := 7) (v := .ref rw) (C := cn_M) (T := ft_M) (N := 19) hx hb hf_M (fun _ h => h) hown hK hP 0 rfl rfl 3 (by decide) (gw.at G hx0 mw_716 rfl _) (fun _ h9 => h9) rfl d_M_minor_48 ?_
                  refine lv_iconst (v := (4 : Int32)) hx hb d_M_minor_51 (by decide) ?_
                  refine lv_iload hx hb d_M_minor_52 (lv_at hl 1 rfl) ?_
                  refine lv_imul hx hb d_M_minor_54 ?_
                  refine tp_i (y := nI (4 * r)) (nI_mul 4 r) ?_
                  refine lv_iload hx hb d_M_minor_55 (lv_at hl 0 rfl) ?_
                  refine lv_iadd hx hb d_M_minor_57 ?_
                  refine tp_i (y := nI ((4 * r) + i)) (nI_add (4 * r) i) ?_
                  refine va_iald hx hb hK hP 1 0 rfl rfl (vp_in_nI (n := (4 * r) + i) (by omega) (by omega)) d_M_minor_58 ?_
                  refine tp_i (y := wf ((4 * r) + i)) (congrArg wf (nI_clamp (n := (4 * r) + i) (by omega))) ?_
                  refine lv_i2l (v := (wf ((4 * r) + i)).toInt64) hx hb d_M_minor_59 rfl ?_
                  refine va_last hx hb hK hP hD hS 2 1 rfl rfl (vp_in_nI (n := a2) (by omega) (by omega)) d_M_minor_60 (fun H locs hP hD hS => ?_)
                  rw [nI_clamp (n := a2) (by omega)] at hP hD
                  have hP : va_P D kl [(m0, .inr (7, [.int th, .int (nI zs), .int (nI rn), .ref rw, .int kn, .int rk, .int y1, .ref ry, .int sp, .int lg, .ref ti, .int fo, .int pt, .ref po, .ref su, .ref sq, .ref ch, .ref vt, .ref sh])), (rw, .inl (cI, 32, .inl wf)), (sq, .inl (cJ, 256, .inr (.inl (vp_updL f2 a2 ((wf ((4 * r) + i)).toInt64)))))] H := hP
                  have hD : va_D A [(m0, .inr (7, [.int th, .int (nI zs), .int (nI rn), .ref rw, .int kn, .int rk, .int y1, .ref ry, .int sp, .int lg, .ref ti, .int fo, .int pt, .ref po, .ref su, .ref sq, .ref ch, .ref vt, .ref sh])), (rw, .inl (cI, 32, .inl wf)), (sq, .inl (cJ, 256, .inr (.inl (vp_updL f2 a2 ((wf ((4 * r) + i)).toInt64)))))] := hD
                  refine lv_iinc (lv' := [(3, .int (nI (a2 + 1))), (5, .int (nI i)), (4, .int (nI r)), (0, .ref m0), (1, .int (nI x)), (2, .int (3 : Int32))]) (k := 2) (v := nI (a2 + 1)) hx hb d_M_minor_61 hl rfl (nI_add a2 1) (by decide) rfl (fun ls hl => ?_)
                  refine lv_iinc (lv' := [(5, .int (nI (i + 1))), (3, .int (nI (a2 + 1))), (4, .int (nI r)), (0, .ref m0), (1, .int (nI x)), (2, .int (3 : Int32))]) (k := 1) (v := nI (i + 1)) hx hb d_M_minor_64 hl rfl (nI_add i 1) (by decide) rfl (fun ls hl => ?_)
                  refine lv_goto (tgt := 17) hx hb d_M_minor_67 (by decide) ?_
                  exact ih_17 _ (by omega) (i + 1) (a2 + 1) (vp_updL f2 a2 ((wf ((4 * r) + i)).toInt64)) ls H locs rfl (mf1_y hm1 h_4) (by omega) (by omega) (fun _ => h_3) (lv_sub hl [0, 2, 1, 3, 4, 5] rfl) (hP.sub [0, 1, 2] rfl) (hD.sub [0, 1, 2] (by decide) rfl) hS
        exact lp_17 _ 0 a1 f1 ls H locs rfl rfl (Nat.zero_le _) (Nat.le_refl _) (fun z9 => absurd z9 (Nat.lt_irrefl 0)) (lv_sub hl [0, 1, 2, 3, 4, 5] rfl) (hP.sub [0, 1, 2] rfl) (hD.sub [0, 1, 2] (by decide) rfl) hS
  exact lp_5 _ 0 0 qf ls s.heap [] rfl rfl (Nat.zero_le _) (Nat.le_refl _) (lv_sub hl [0, 1, 2, 3, 4] rfl) (hP.sub [0, 1, 2] rfl) (hD.sub [0, 1, 2] (by decide) rfl) hS

set_option maxHeartbeats 4000000 in
set_option maxRecDepth 100000 in
theorem c_M_det {l : Launch} {s0 : State} {b0 : Addr} {D : va_G} {cI cJ cZ : ClassId} {tC tS : Nat} (E : gE l s0 b0 D cI cJ cZ tC tS) (sz : Nat) (m0 : Nat) (rw : Nat) (ry : Nat) (ti : Nat) (po : Nat) (su : Nat) (sq : Nat) (ch : Nat) (vt : Nat) (sh : Nat) (th : Int32) (zz : Int32) (rn : Int32) (kn : Int32) (rk : Int32) (y1 : Int32) (sp : Int32) (lg : Int32) (fo : Int32) (pt : Int32) (yf : Nat → Int32) (ck : Nat → Nat) (qf : Nat → Int64) (n : Nat) (y : Nat) (hn : n ≤ 4) (hck : ∀ j, ck j < 8) (hy : y < 2 ^ 31) : cx_M l s0 D kl y_M_determinant b_M_determinant 6 (some .long) ({ frames := 1, cells := 0, slots := 0, locals := 29 } : Room) 0 0 [.ref m0, .int (nI n), .int (nI y)] [(m0, .inr (7, [.int th, .int zz, .int rn, .ref rw, .int kn, .int rk, .int y1, .ref ry, .int sp, .int lg, .ref ti, .int fo, .int pt, .ref po, .ref su, .ref sq, .ref ch, .ref vt, .ref sh])), (ry, .inl (cI, 256, .inl yf)), (ch, .inl (cI, 8, .inl (nf ck))), (sq, .inl (cJ, 256, .inr (.inl qf)))] sz (fun o9 _ w9 => ∃ (v : Int64) (q2 : Nat → Int64), o9 = .returned (some (.long v)) ∧ dtm yf ck n y qf = (v, q2) ∧ w9 = [(m0, .inr (7, [.int th, .int zz, .int rn, .ref rw, .int kn, .int rk, .int y1, .ref ry, .int sp, .int lg, .ref ti, .int fo, .int pt, .ref po, .ref su, .ref sq, .ref ch, .ref vt, .ref sh])), (ry, .inl (cI, 256, .inl yf)), (ch, .inl (cI, 8, .inl (nf ck))), (sq, .inl (cJ, 256, .inr (.inl q2)))]) := by
  refine tx_ofW (cc := b_M_determinant) (maxL := 6) (ret := (some .long)) (by decide) rfl ?_
  intro p e s m args below meth c s₁ B hml hT hv
  obtain ⟨rfl, hsz, hP, hD0, hx0⟩ := hv
  have hx := B.exec
  have hb := B.bytes
  have hr := B.returns
  have G := E.2.1
  have hown : s.vm.findClass cn_M = some m.cls := findClass_of_methodNamed B.named
  have hlocks := B.notSynchronized
  have hK := va_K.moved hx0.1.alike E.2.2.1
  have hf_M : ∀ w99 ∈ u_ws cn_M ft_M 19, w99.before ([.ref m0, .int (nI n), .int (nI y)] : List Value).toArray s = true := fun w99 h99 => gw.at G hx0 (fw_M w99 h99) (fo_M w99 h99) _
  subst hsz
  have hA0 := cx_new hD0 hx0.2.1
  have hD := hD0.self (sz := s.heap.size)
  generalize hAe : va_A [(m0, .inr (7, [.int th, .int zz, .int rn, .ref rw, .int kn, .int rk, .int y1, .ref ry, .int sp, .int lg, .ref ti, .int fo, .int pt, .ref po, .ref su, .ref sq, .ref ch, .ref vt, .ref sh])), (ry, .inl (cI, 256, .inl yf)), (ch, .inl (cI, 8, .inl (nf ck))), (sq, .inl (cJ, 256, .inr (.inl qf)))] s.heap.size = A at hD hA0 ⊢
  have hA : ∀ q : Nat, s.heap.size ≤ q → A q := fun q h => by rw [← hAe]; exact Or.inr h
  have hS : va_S A s.heap s.heap [] := va_S.rf
  have hl := lv_entry ([.ref m0, .int (nI n), .int (nI y)]) (n := 6) (Nat.le_of_ble_eq_true rfl)
  rw [lg_entry_eq]
  generalize (lg_sl ([.ref m0, .int (nI n), .int (nI y)]) ++ List.replicate (6 - (lg_sl ([.ref m0, .int (nI n), .int (nI y)])).length) Slot.unset).toArray = ls at hl ⊢
  have hl : lv_has ls 6 [(0, .ref m0), (1, .int (nI n)), (2, .int (nI y))] := hl
  have hP : va_P D kl [(m0, .inr (7, [.int th, .int zz, .int rn, .ref rw, .int kn, .int rk, .int y1, .ref ry, .int sp, .int lg, .ref ti, .int fo, .int pt, .ref po, .ref su, .ref sq, .ref ch, .ref vt, .ref sh])), (ry, .inl (cI, 256, .inl yf)), (ch, .inl (cI, 8, .inl (nf ck))), (sq, .inl (cJ, 256, .inr (.inl qf)))] s.heap := hP
  have hml : c.maxLocals = 6 := hml
  generalize hQe : tx_Z below (cx_Q D kl A (fun o9 _ w9 => ∃ (v : Int64) (q2 : Nat → Int64), o9 = .returned (some (.long v)) ∧ dtm yf ck n y qf = (v, q2) ∧ w9 = [(m0, .inr (7, [.int th, .int zz, .int rn, .ref rw, .int kn, .int rk, .int y1, .ref ry, .int sp, .int lg, .ref ti, .int fo, .int pt, .ref po, .ref su, .ref sq, .ref ch, .ref vt, .ref sh])), (ry, .inl (cI, 256, .inl yf)), (ch, .inl (cI, 8, .inl (nf ck))), (sq, .inl (cJ, 256, .inr (.inl q2)))])) ([.ref m0, .int (nI n), .int (nI y)] : List Value).toArray s 0 0 A = Q
  refine lv_iconst (v := (0 : Int32)) hx hb d_M_determinant_0 (by decide) ?_
  refine lv_istore_n (lv' := [(3, .int (0 : Int32)), (0, .ref m0), (1, .int (nI n)), (2, .int (nI y))]) hx hb d_M_determinant_1 rfl hl (by decide) rfl (fun ls hl => ?_)
  refine lv_iconst (v := (0 : Int32)) hx hb d_M_determinant_2 (by decide) ?_
  refine lv_istore (lv' := [(4, .int (0 : Int32)), (3, .int (0 : Int32)), (0, .ref m0), (1, .int (nI n)), (2, .int (nI y))]) hx hb d_M_determinant_3 hl (by decide) rfl (fun ls hl => ?_)
  have lp_5 : ∀ (n9 : Nat) (k : Nat) (a1 : Nat) (f1 : Nat → Int64) (ls : Array Slot) (H : Heap) (locs : List Loc), n - k = n9 → (dt2 yf ck y k (0, qf) = (a1, f1)) → (k ≤ n) → (a1 ≤ 4 * k) → lv_has ls 6 [(4, .int (nI k)), (3, .int (nI a1)), (0, .ref m0), (1, .int (nI n)), (2, .int (nI y))] → va_P D kl [(m0, .inr (7, [.int th, .int zz, .int rn, .ref rw, .int kn, .int rk, .int y1, .ref ry, .int sp, .int lg, .ref ti, .int fo, .int pt, .ref po, .ref su, .ref sq, .ref ch, .ref vt, .ref sh])), (ry, .inl (cI, 256, .inl yf)), (ch, .inl (cI, 8, .inl (nf ck))), (sq, .inl (cJ, 256, .inr (.inl f1)))] H → va_D A [(m0, .inr (7, [.int th, .int zz, .int rn, .ref rw, .int kn, .int rk, .int y1, .ref ry, .int sp, .int lg, .ref ti, .int fo, .int pt, .ref po, .ref su, .ref sq, .ref ch, .ref vt, .ref sh])), (ry, .inl (cI, 256, .inl yf)), (ch, .inl (cI, 8, .inl (nf ck))), (sq, .inl (cJ, 256, .inr (.inl f1)))] → va_S A s.heap H locs → W p l e ({ frames := 1, cells := 0, slots := 0, locals := 29 } : Room) s m ([.ref m0, .int (nI n), .int (nI y)] : List Value).toArray below meth c H locs 0 0 Q (F0 m 5 ls []) := by
    intro n9
    induction n9 using Nat.strongRecOn with
    | ind n9 ih_5 =>
      intro k a1 f1 ls H locs hm_5 hd2 hk9 ha1 hl hP hD hS
      refine lv_iload hx hb d_M_determinant_5 (lv_at hl 0 rfl) ?_
      refine lv_iload_n hx hb d_M_determinant_7 rfl (lv_at hl 3 rfl) ?_
      refine lv_icmp_ge (tgt := 69) hx hb d_M_determinant_8 (by decide) (fun h_1 => ?_) (fun h_1 => ?_)
      · have h_1 : n ≤ k := (nI_leI (a := n) (b := k) (by omega) (by omega)).mp h_1
        have hkk : k = n := by omega
        rw [hkk] at hd2
        refine lv_aload_n hx hb d_M_determinant_69 rfl (lv_at hl 2 rfl) ?_
        refine lv_iload_n hx hb d_M_determinant_70 rfl (lv_at hl 3 rfl) ?_
        refine cx_call (D := D) (cl := kl) (ws := _) (wc := [(m0, .inr (7, [.int th, .int zz, .int rn, .ref rw, .int kn, .int rk, .int y1, .ref ry, .int sp, .int lg, .ref ti, .int fo, .int pt, .ref po, .ref su, .ref sq, .ref ch, .ref vt, .ref sh])), (sq, .inl (cJ, 256, .inr (.inl f1)))]) (wr := [(ry, .inl (cI, 256, .inl yf)), (ch, .inl (cI, 8, .inl (nf ck)))]) (tx_runV (C := cn_M) (b := m0) (As := [.int (nI n)]) (rest := []) hx hb hml hown (c_M_worth E H.size m0 rw ry ti po su sq ch vt sh th zz rn kn rk y1 sp lg fo pt f1 n hn) (cx_C (b0 := b0) G hx0 mw_832 mw_9 ny_M_worth (by decide)) (gw.at G hx0 mw_829 rfl _) (gw.at G hx0 mw_831 rfl _) (gw.at G hx0 ms_M_worth rfl _) ⟨cx_blind, va_recv hK hP (q0 := 0) (ci := 7) (q := (cn_M, ft_M, 19)) rfl rfl, (cx_pre (s := s) hx0 hP hD hS hA0 [0, 3] rfl rfl (by decide))⟩ rfl rfl hl.1 rfl (lv_room (Nat.le_of_ble_eq_true rfl)) d_M_determinant_71 ⟨by decide, by decide⟩) hP hD hS hA [0, 3] [1, 2] rfl rfl (by decide) (by decide) (fun v t w1 H locs ht hW9 hp hP hD hS => ?_) (fun x t w1 H locs ht hW9 hp hP hD hS => by obtain ⟨h9, -⟩ := hp; cases h9)
        obtain ⟨h9, rfl⟩ := hp
        cases h9
        refine W.eq (g2 := F0 m 74 ls [.long ((wth n n 0 f1 1 1).1)]) rfl ?_
        refine W.widen (k := 0) (n := 0) (by decide) (by decide) ?_
        have hP : va_P D kl [(ry, .inl (cI, 256, .inl yf)), (ch, .inl (cI, 8, .inl (nf ck))), (m0, .inr (7, [.int th, .int zz, .int rn, .ref rw, .int kn, .int rk, .int y1, .ref ry, .int sp, .int lg, .ref ti, .int fo, .int pt, .ref po, .ref su, .ref sq, .ref ch, .ref vt, .ref sh])), (sq, .inl (cJ, 256, .inr (.inl ((wth n n 0 f1 1 1).2))))] H := hP
        have hD : va_D A [(ry, .inl (cI, 256, .inl yf)), (ch, .inl (cI, 8, .inl (nf ck))), (m0, .inr (7, [.int th, .int zz, .int rn, .ref rw, .int kn, .int rk, .int y1, .ref ry, .int sp, .int lg, .ref ti, .int fo, .int pt, .ref po, .ref su, .ref sq, .ref ch, .ref vt, .ref sh])), (sq, .inl (cJ, 256, .inr (.inl ((wth n n 0 f1 1 1).2))))] := hD
        rw [← hQe]
        exact tx_mono (fun _ h => tx_Z.of h) (W.lret (v := (wth n n 0 f1 1 1).1) hx hb hr (fun t ht hW => ⟨⟨[(m0, .inr (7, [.int th, .int zz, .int rn, .ref rw, .int kn, .int rk, .int y1, .ref ry, .int sp, .int lg, .ref ti, .int fo, .int pt, .ref po, .ref su, .ref sq, .ref ch, .ref vt, .ref sh])), (ry, .inl (cI, 256, .inl yf)), (ch, .inl (cI, 8, .inl (nf ck))), (sq, .inl (cJ, 256, .inr (.inl ((wth n n 0 f1 1 1).2))))], ⟨((wth n n 0 f1 1 1).1), ((wth n n 0 f1 1 1).2), rfl, (by unfold dtm; rw [hd2]), rfl⟩, by rw [ht]; exact hP.sub [2, 0, 1, 3] rfl, hD.sub [2, 0, 1, 3] (by decide) rfl⟩, hS.F ht⟩) hS.2.2 d_M_determinant_74)
      · have h_1 : ¬ (n ≤ k) := fun z99 => h_1 ((nI_leI (a := n) (b := k) (by omega) (by omega)).mpr z99)
        refine lv_iconst (v := (0 : Int32)) hx hb d_M_determinant_11 (by decide) ?_
        refine lv_istore (lv' := [(5, .int (0 : Int32)), (4, .int (nI k)), (3, .int (nI a1)), (0, .ref m0), (1, .int (nI n)), (2, .int (nI y))]) hx hb d_M_determinant_12 hl (by decide) rfl (fun ls hl => ?_)
        have lp_14 : ∀ (n9 : Nat) (i : Nat) (a2 : Nat) (f2 : Nat → Int64) (ls : Array Slot) (H : Heap) (locs : List Loc), 4 - i = n9 → (dt1 yf (ck k) y i (a1, f1) = (a2, f2)) → (i ≤ 4) → (a2 ≤ a1 + i) → lv_has ls 6 [(5, .int (nI i)), (4, .int (nI k)), (3, .int (nI a2)), (0, .ref m0), (1, .int (nI n)), (2, .int (nI y))] → va_P D kl [(m0, .inr (7, [.int th, .int zz, .int rn, .ref rw, .int kn, .int rk, .int y1, .ref ry, .int sp, .int lg, .ref ti, .int fo, .int pt, .ref po, .ref su, .ref sq, .ref ch, .ref vt, .ref sh])), (ry, .inl (cI, 256, .inl yf)), (ch, .inl (cI, 8, .inl (nf ck))), (sq, .inl (cJ, 256, .inr (.inl f2)))] H → va_D A [(m0, .inr (7, [.int th, .int zz, .int rn, .ref rw, .int kn, .int rk, .int y1, .ref ry, .int sp, .int lg, .ref ti, .int fo, .int pt, .ref po, .ref su, .ref sq, .ref ch, .ref vt, .ref sh])), (ry, .inl (cI, 256, .inl yf)), (ch, .inl (cI, 8, .inl (nf ck))), (sq, .inl (cJ, 256, .inr (.inl f2)))] → va_S A s.heap H locs → W p l e ({ frames := 1, cells := 0, slots := 0, locals := 29 } : Room) s m ([.ref m0, .int (nI n), .int (nI y)] : List Value).toArray below meth c H locs 0 0 Q (F0 m 14 ls []) := by
          intro n9
          induction n9 using Nat.strongRecOn with
          | ind n9 ih_14 =>
            intro i a2 f2 ls H locs hm_14 hd1 hi9 ha2 hl hP hD hS
            refine lv_iload hx hb d_M_determinant_14 (lv_at hl 0 rfl) ?_
            refine lv_iconst (v := (4 : Int32)) hx hb d_M_determinant_16 (by decide) ?_
            refine lv_icmp_ge (tgt := 63) hx hb d_M_determinant_17 (by decide) (fun h_2 => ?_) (fun h_2 => ?_)
            · have h_2 : 4 ≤ i := (nI_leI (a := 4) (b := i) (by omega) (by omega)).mp h_2
              refine lv_iinc (lv' := [(4, .int (nI (k + 1))), (5, .int (nI i)), (3, .int (nI a2)), (0, .ref m0), (1, .int (nI n)), (2, .int (nI y))]) (k := 1) (v := nI (k + 1)) hx hb d_M_determinant_63 hl rfl (nI_add k 1) (by decide) rfl (fun ls hl => ?_)
              refine lv_goto (tgt := 5) hx hb d_M_determinant_66 (by decide) ?_
              exact ih_5 _ (by omega) (k + 1) a2 f2 ls H locs rfl (dt2_s hd2 ((show i = 4 by omega) ▸ hd1)) (by omega) (by omega) (lv_sub hl [0, 2, 3, 4, 5] rfl) (hP.sub [0, 1, 2, 3] rfl) (hD.sub [0, 1, 2, 3] (by decide) rfl) hS
            · have h_2 : ¬ (4 ≤ i) := fun z99 => h_2 ((nI_leI (a := 4) (b := i) (by omega) (by omega)).mpr z99)
              refine lv_iload_n hx hb d_M_determinant_20 rfl (lv_at hl 5 rfl) ?_
              refine lv_iload hx hb d_M_determinant_21 (lv_at hl 0 rfl) ?_
              refine lv_ishr hx hb d_M_determinant_23 ?_
              refine tp_i (y := nI (y / 2 ^ i)) (nI_shr (n := y) (p := i) (by omega) (by omega)) ?_
              refine lv_iconst (v := (1 : Int32)) hx hb d_M_determinant_24 (by decide) ?_
              refine lv_iand hx hb d_M_determinant_25 ?_
              refine tp_i (y := nI ((y / 2 ^ i) % 2)) (nI_and1 _) ?_
              refine lv_iconst (v := (1 : Int32)) hx hb d_M_determinant_26 (by decide) ?_
              refine lv_icmp_ne (tgt := 57) hx hb d_M_determinant_27 (by decide) (fun h_3 => ?_) (fun h_3 => ?_)
              · have h_3 : ¬ (((y / 2 ^ i) % 2) = 1) := fun z99 => h_3 ((nI_eq (a := (y / 2 ^ i) % 2) (b := 1) (by omega) (by omega)).mpr z99)
                refine lv_iinc (lv' := [(5, .int (nI (i + 1))), (4, .int (nI k)), (3, .int (nI a2)), (0, .ref m0), (1, .int (nI n)), (2, .int (nI y))]) (k := 0) (v := nI (i + 1)) hx hb d_M_determinant_57 hl rfl (nI_add i 1) (by decide) rfl (fun ls hl => ?_)
                refine lv_goto (tgt := 14) hx hb d_M_determinant_60 (by decide) ?_
                exact ih_14 _ (by omega) (i + 1) a2 f2 ls H locs rfl (dt1_n hd1 h_3) (by omega) (by omega) (lv_sub hl [0, 1, 2, 3, 4, 5] rfl) (hP.sub [0, 1, 2, 3] rfl) (hD.sub [0, 1, 2, 3] (by decide) rfl) hS
              · have h_3 : ((y / 2 ^ i) % 2) = 1 := (nI_eq (a := (y / 2 ^ i) % 2) (b := 1) (by omega) (by omega)).mp h_3
                refine lv_aload_n hx hb d_M_determinant_30 rfl (lv_at hl 3 rfl) ?_
                refine va_get (D := D) (ci := 7) (v := .ref sq) (C := cn_M) (T := ft_M) (N := 19) hx hb hf_M (fun _ h => h) hown hK hP 0 rfl rfl 15 (by decide) (gw.at G hx0 mw_728 rfl _) (fun _ h9 => h9) rfl d_M_determinant_31 ?_
                refine lv_iload_n hx hb d_M_determinant_34 rfl (lv_at hl 2 rfl) ?_
                refine lv_aload_n hx hb d_M_determinant_35 rfl (lv_at hl 3 rfl) ?_
                refine va_get (D := D) (ci := 7) (v := .ref ry) (C := cn_M) (T := ft_M) (N := 19) hx hb hf_M (fun _ h => h) hown hK hP 0 rfl rfl 7 (by decide) (gw.at G hx0 mw_720 rfl _) (fun _ h9 => h9) rfl d_M_determinant_36 ?_
                refine lv_iconst (v := (4 : Int32)) hx hb d_M_determinant_39 (by decide) ?_
                refine lv_aload_n hx hb d_M_determinant_40 rfl (lv_at hl 3 rfl) ?_
                refine va_get (D := D) (ci := 7) (v := .ref ch) (C := cn_M) (T := ft_M) (N := 19) hx hb hf_M (fun _ h => h) hown hK hP 0 rfl rfl 16 (by decide) (gw.at G hx0 mw_729 rfl _) (fun _ h9 => h9) rfl d_M_determinant_41 ?_
                refine lv_iload hx hb d_M_determinant_44 (lv_at hl 1 rfl) ?_
                refine va_iald hx hb hK hP 2 0 rfl rfl (vp_in_nI (n := k) (by omega) (by omega)) d_M_determinant_46 ?_
                refine tp_i (y := (nf ck) k) (congrArg (nf ck) (nI_clamp (n := k) (by omega))) ?_
                refine tp_i (y := nI (ck k)) rfl ?_
                have hb_4 := hck k
                refine lv_imul hx hb d_M_determinant_47 ?_
                refine tp_i (y := nI (4 * (ck k))) (nI_mul 4 (ck k)) ?_
                refine lv_iload hx hb d_M_determinant_48 (lv_at hl 0 rfl) ?_
                refine lv_iadd hx hb d_M_determinant_50 ?_
                refine tp_i (y := nI ((4 * (ck k)) + i)) (nI_add (4 * (ck k)) i) ?_
                refine va_iald hx hb hK hP 1 0 rfl rfl (vp_in_nI (n := (4 * (ck k)) + i) (by omega) (by omega)) d_M_determinant_51 ?_
                refine tp_i (y := yf ((4 * (ck k)) + i)) (congrArg yf (nI_clamp (n := (4 * (ck k)) + i) (by omega))) ?_
                refine lv_i2l (v := (yf ((4 * (ck k)) + i)).toInt64) hx hb d_M_determinant_52 rfl ?_
                refine va_last hx hb hK hP hD hS 3 1 rfl rfl (vp_in_nI (n := a2) (by omega) (by omega)) d_M_determinant_53 (fun H locs hP hD hS => ?_)
                rw [nI_clamp (n := a2) (by omega)] at hP hD
                have hP : va_P D kl [(m0, .inr (7, [.int th, .int zz, .int rn, .ref rw, .int kn, .int rk, .int y1, .ref ry, .int sp, .int lg, .ref ti, .int fo, .int pt, .ref po, .ref su, .ref sq, .ref ch, .ref vt, .ref sh])), (ry, .inl (cI, 256, .inl yf)), (ch, .inl (cI, 8, .inl (nf ck))), (sq, .inl (cJ, 256, .inr (.inl (vp_updL f2 a2 ((yf ((4 * (ck k)) + i)).toInt64)))))] H := hP
                have hD : va_D A [(m0, .inr (7, [.int th, .int zz, .int rn, .ref rw, .int kn, .int rk, .int y1, .ref ry, .int sp, .int lg, .ref ti, .int fo, .int pt, .ref po, .ref su, .ref sq, .ref ch, .ref vt, .ref sh])), (ry, .inl (cI, 256, .inl yf)), (ch, .inl (cI, 8, .inl (nf ck))), (sq, .inl (cJ, 256, .inr (.inl (vp_updL f2 a2 ((yf ((4 * (ck k)) + i)).toInt64)))))] := hD
                refine lv_iinc (lv' := [(3, .int (nI (a2 + 1))), (5, .int (nI i)), (4, .int (nI k)), (0, .ref m0), (1, .int (nI n)), (2, .int (nI y))]) (k := 2) (v := nI (a2 + 1)) hx hb d_M_determinant_54 hl rfl (nI_add a2 1) (by decide) rfl (fun ls hl => ?_)
                refine lv_iinc (lv' := [(5, .int (nI (i + 1))), (3, .int (nI (a2 + 1))), (4, .int (nI k)), (0, .ref m0), (1, .int (nI n)), (2, .int (nI y))]) (k := 1) (v := nI (i + 1)) hx hb d_M_determinant_57 hl rfl (nI_add i 1) (by decide) rfl (fun ls hl => ?_)
                refine lv_goto (tgt := 14) hx hb d_M_determinant_60 (by decide) ?_
                exact ih_14 _ (by omega) (i + 1) (a2 + 1) (vp_updL f2 a2 ((yf ((4 * (ck k)) + i)).toInt64)) ls H locs rfl (dt1_y hd1 h_3) (by omega) (by omega) (lv_sub hl [0, 2, 1, 3, 4, 5] rfl) (hP.sub [0, 1, 2, 3] rfl) (hD.sub [0, 1, 2, 3] (by decide) rfl) hS
        exact lp_14 _ 0 a1 f1 ls H locs rfl rfl (Nat.zero_le _) (Nat.le_refl _) (lv_sub hl [0, 1, 2, 3, 4, 5] rfl) (hP.sub [0, 1, 2, 3] rfl) (hD.sub [0, 1, 2, 3] (by decide) rfl) hS
  exact lp_5 _ 0 0 qf ls s.heap [] rfl rfl (Nat.zero_le _) (Nat.le_refl _) (lv_sub hl [0, 1, 2, 3, 4] rfl) (hP.sub [0, 1, 2, 3] rfl) (hD.sub [0, 1, 2, 3] (by decide) rfl) hS

set_option maxHeartbeats 4000000 in
set_option maxRecDepth 100000 in
theorem c_M_dim {l : Launch} {s0 : State} {b0 : Addr} {D : va_G} {cI cJ cZ : ClassId} {tC tS : Nat} (E : gE l s0 b0 D cI cJ cZ tC tS) (sz : Nat) (m0 : Nat) (rw : Nat) (ry : Nat) (ti : Nat) (po : Nat) (su : Nat) (sq : Nat) (ch : Nat) (vt : Nat) (sh : Nat) (th : Int32) (zz : Int32) (rn : Int32) (kn : Int32) (rk : Int32) (sp : Int32) (lg : Int32) (fo : Int32) (pt : Int32) (yn : Nat) (yf : Nat → Int32) (qf : Nat → Int64) (sx : Int32) (hyn : yn ≤ 64) : cx_M l s0 D kl y_M_dimensionOf b_M_dimensionOf 5 (some .int) ({ frames := 3, cells := 0, slots := 0, locals := 86 } : Room) 0 0 [.ref m0, .int sx] [(m0, .inr (7, [.int th, .int zz, .int rn, .ref rw, .int kn, .int rk, .int (nI yn), .ref ry, .int sp, .int lg, .ref ti, .int fo, .int pt, .ref po, .ref su, .ref sq, .ref ch, .ref vt, .ref sh])), (ry, .inl (cI, 256, .inl yf)), (sq, .inl (cJ, 256, .inr (.inl qf)))] sz (fun o9 _ w9 => ∃ (v : Nat) (q2 : Nat → Int64), o9 = .returned (some (.int (nI v))) ∧ dmo yf yn sx qf = (v, q2) ∧ v ≤ 4 ∧ w9 = [(m0, .inr (7, [.int th, .int zz, .int rn, .ref rw, .int kn, .int rk, .int (nI yn), .ref ry, .int sp, .int lg, .ref ti, .int fo, .int pt, .ref po, .ref su, .ref sq, .ref ch, .ref vt, .ref sh])), (ry, .inl (cI, 256, .inl yf)), (sq, .inl (cJ, 256, .inr (.inl q2)))]) := by
  refine tx_ofW (cc := b_M_dimensionOf) (maxL := 5) (ret := (some .int)) (by decide) rfl ?_
  intro p e s m args below meth c s₁ B hml hT hv
  obtain ⟨rfl, hsz, hP, hD0, hx0⟩ := hv
  have hx := B.exec
  have hb := B.bytes
  have hr := B.returns
  have G := E.2.1
  have hown : s.vm.findClass cn_M = some m.cls := findClass_of_methodNamed B.named
  have hlocks := B.notSynchronized
  have hK := va_K.moved hx0.1.alike E.2.2.1
  have hf_M : ∀ w99 ∈ u_ws cn_M ft_M 19, w99.before ([.ref m0, .int sx] : List Value).toArray s = true := fun w99 h99 => gw.at G hx0 (fw_M w99 h99) (fo_M w99 h99) _
  subst hsz
  have hA0 := cx_new hD0 hx0.2.1
  have hD := hD0.self (sz := s.heap.size)
  generalize hAe : va_A [(m0, .inr (7, [.int th, .int zz, .int rn, .ref rw, .int kn, .int rk, .int (nI yn), .ref ry, .int sp, .int lg, .ref ti, .int fo, .int pt, .ref po, .ref su, .ref sq, .ref ch, .ref vt, .ref sh])), (ry, .inl (cI, 256, .inl yf)), (sq, .inl (cJ, 256, .inr (.inl qf)))] s.heap.size = A at hD hA0 ⊢
  have hA : ∀ q : Nat, s.heap.size ≤ q → A q := fun q h => by rw [← hAe]; exact Or.inr h
  have hS : va_S A s.heap s.heap [] := va_S.rf
  have hl := lv_entry ([.ref m0, .int sx]) (n := 5) (Nat.le_of_ble_eq_true rfl)
  rw [lg_entry_eq]
  generalize (lg_sl ([.ref m0, .int sx]) ++ List.replicate (5 - (lg_sl ([.ref m0, .int sx])).length) Slot.unset).toArray = ls at hl ⊢
  have hl : lv_has ls 5 [(0, .ref m0), (1, .int sx)] := hl
  have hP : va_P D kl [(m0, .inr (7, [.int th, .int zz, .int rn, .ref rw, .int kn, .int rk, .int (nI yn), .ref ry, .int sp, .int lg, .ref ti, .int fo, .int pt, .ref po, .ref su, .ref sq, .ref ch, .ref vt, .ref sh])), (ry, .inl (cI, 256, .inl yf)), (sq, .inl (cJ, 256, .inr (.inl qf)))] s.heap := hP
  have hml : c.maxLocals = 5 := hml
  generalize hQe : tx_Z below (cx_Q D kl A (fun o9 _ w9 => ∃ (v : Nat) (q2 : Nat → Int64), o9 = .returned (some (.int (nI v))) ∧ dmo yf yn sx qf = (v, q2) ∧ v ≤ 4 ∧ w9 = [(m0, .inr (7, [.int th, .int zz, .int rn, .ref rw, .int kn, .int rk, .int (nI yn), .ref ry, .int sp, .int lg, .ref ti, .int fo, .int pt, .ref po, .ref su, .ref sq, .ref ch, .ref vt, .ref sh])), (ry, .inl (cI, 256, .inl yf)), (sq, .inl (cJ, 256, .inr (.inl q2)))])) ([.ref m0, .int sx] : List Value).toArray s 0 0 A = Q
  refine lv_iconst (v := (0 : Int32)) hx hb d_M_dimensionOf_0 (by decide) ?_
  refine lv_istore_n (lv' := [(2, .int (0 : Int32)), (0, .ref m0), (1, .int sx)]) hx hb d_M_dimensionOf_1 rfl hl (by decide) rfl (fun ls hl => ?_)
  refine lv_iconst (v := (0 : Int32)) hx hb d_M_dimensionOf_2 (by decide) ?_
  refine lv_istore_n (lv' := [(3, .int (0 : Int32)), (2, .int (0 : Int32)), (0, .ref m0), (1, .int sx)]) hx hb d_M_dimensionOf_3 rfl hl (by decide) rfl (fun ls hl => ?_)
  have lp_4 : ∀ (n9 : Nat) (k : Nat) (n : Nat) (f1 : Nat → Int64) (ls : Array Slot) (H : Heap) (locs : List Loc), yn - k = n9 → (dmf yf sx k (0, qf) = (n, f1)) → (k ≤ yn) → (n ≤ k) → lv_has ls 5 [(3, .int (nI k)), (2, .int (nI n)), (0, .ref m0), (1, .int sx)] → va_P D kl [(m0, .inr (7, [.int th, .int zz, .int rn, .ref rw, .int kn, .int rk, .int (nI yn), .ref ry, .int sp, .int lg, .ref ti, .int fo, .int pt, .ref po, .ref su, .ref sq, .ref ch, .ref vt, .ref sh])), (ry, .inl (cI, 256, .inl yf)), (sq, .inl (cJ, 256, .inr (.inl f1)))] H → va_D A [(m0, .inr (7, [.int th, .int zz, .int rn, .ref rw, .int kn, .int rk, .int (nI yn), .ref ry, .int sp, .int lg, .ref ti, .int fo, .int pt, .ref po, .ref su, .ref sq, .ref ch, .ref vt, .ref sh])), (ry, .inl (cI, 256, .inl yf)), (sq, .inl (cJ, 256, .inr (.inl f1)))] → va_S A s.heap H locs → W p l e ({ frames := 3, cells := 0, slots := 0, locals := 86 } : Room) s m ([.ref m0, .int sx] : List Value).toArray below meth c H locs 0 0 Q (F0 m 4 ls []) := by
    intro n9
    induction n9 using Nat.strongRecOn with
    | ind n9 ih_4 =>
      intro k n f1 ls H locs hm_4 hdm hk9 hnk hl hP hD hS
      refine lv_iload_n hx hb d_M_dimensionOf_4 rfl (lv_at hl 0 rfl) ?_
      refine lv_aload_n hx hb d_M_dimensionOf_5 rfl (lv_at hl 2 rfl) ?_
      refine va_get (D := D) (ci := 7) (v := .int (nI yn)) (C := cn_M) (T := ft_M) (N := 19) hx hb hf_M (fun _ h => h) hown hK hP 0 rfl rfl 6 (by decide) (gw.at G hx0 mw_719 rfl _) (fun _ h9 => h9) rfl d_M_dimensionOf_6 ?_
      refine lv_icmp_ge (tgt := 68) hx hb d_M_dimensionOf_9 (by decide) (fun h_1 => ?_) (fun h_1 => ?_)
      · have h_1 : yn ≤ k := (nI_leI (a := yn) (b := k) (by omega) (by omega)).mp h_1
        have hkk : k = yn := by omega
        rw [hkk] at hdm
        refine lv_aload_n hx hb d_M_dimensionOf_68 rfl (lv_at hl 2 rfl) ?_
        refine lv_iload_n hx hb d_M_dimensionOf_69 rfl (lv_at hl 1 rfl) ?_
        refine cx_call (D := D) (cl := kl) (ws := _) (wc := [(m0, .inr (7, [.int th, .int zz, .int rn, .ref rw, .int kn, .int rk, .int (nI yn), .ref ry, .int sp, .int lg, .ref ti, .int fo, .int pt, .ref po, .ref su, .ref sq, .ref ch, .ref vt, .ref sh])), (sq, .inl (cJ, 256, .inr (.inl f1)))]) (wr := [(ry, .inl (cI, 256, .inl yf))]) (tx_runV (C := cn_M) (b := m0) (As := [.int (nI n)]) (rest := []) hx hb hml hown (c_M_rankOf E H.size m0 rw ry ti po su sq ch vt sh th zz rn kn rk (nI yn) sp lg fo pt f1 n (by omega)) (cx_C (b0 := b0) G hx0 mw_810 mw_9 ny_M_rankOf (by decide)) (gw.at G hx0 mw_807 rfl _) (gw.at G hx0 mw_809 rfl _) (gw.at G hx0 ms_M_rankOf rfl _) ⟨cx_blind, va_recv hK hP (q0 := 0) (ci := 7) (q := (cn_M, ft_M, 19)) rfl rfl, (cx_pre (s := s) hx0 hP hD hS hA0 [0, 2] rfl rfl (by decide))⟩ rfl rfl hl.1 rfl (lv_room (Nat.le_of_ble_eq_true rfl)) d_M_dimensionOf_70 ⟨by decide, by decide⟩) hP hD hS hA [0, 2] [1] rfl rfl (by decide) (by decide) (fun v t w1 H locs ht hW9 hp hP hD hS => ?_) (fun x t w1 H locs ht hW9 hp hP hD hS => by obtain ⟨h9, -⟩ := hp; cases h9)
        obtain ⟨h9, f_2, f_3, rfl⟩ := hp
        cases h9
        refine W.eq (g2 := F0 m 73 ls [.int (nI ((rkf n f1 4).1))]) rfl ?_
        refine W.widen (k := 0) (n := 0) (by decide) (by decide) ?_
        have hP : va_P D kl [(ry, .inl (cI, 256, .inl yf)), (m0, .inr (7, [.int th, .int zz, .int rn, .ref rw, .int kn, .int rk, .int (nI yn), .ref ry, .int sp, .int lg, .ref ti, .int fo, .int pt, .ref po, .ref su, .ref sq, .ref ch, .ref vt, .ref sh])), (sq, .inl (cJ, 256, .inr (.inl ((rkf n f1 4).2))))] H := hP
        have hD : va_D A [(ry, .inl (cI, 256, .inl yf)), (m0, .inr (7, [.int th, .int zz, .int rn, .ref rw, .int kn, .int rk, .int (nI yn), .ref ry, .int sp, .int lg, .ref ti, .int fo, .int pt, .ref po, .ref su, .ref sq, .ref ch, .ref vt, .ref sh])), (sq, .inl (cJ, 256, .inr (.inl ((rkf n f1 4).2))))] := hD
        rw [← hQe]
        exact tx_mono (fun _ h => tx_Z.of h) (W.iret (v := nI ((rkf n f1 4).1)) hx hb hr (fun t ht hW => ⟨⟨[(m0, .inr (7, [.int th, .int zz, .int rn, .ref rw, .int kn, .int rk, .int (nI yn), .ref ry, .int sp, .int lg, .ref ti, .int fo, .int pt, .ref po, .ref su, .ref sq, .ref ch, .ref vt, .ref sh])), (ry, .inl (cI, 256, .inl yf)), (sq, .inl (cJ, 256, .inr (.inl ((rkf n f1 4).2))))], ⟨((rkf n f1 4).1), ((rkf n f1 4).2), rfl, (by unfold dmo; rw [hdm]), f_2, rfl⟩, by rw [ht]; exact hP.sub [1, 0, 2] rfl, hD.sub [1, 0, 2] (by decide) rfl⟩, hS.F ht⟩) hS.2.2 d_M_dimensionOf_73)
      · have h_1 : ¬ (yn ≤ k) := fun z99 => h_1 ((nI_leI (a := yn) (b := k) (by omega) (by omega)).mpr z99)
        refine lv_iload_n hx hb d_M_dimensionOf_12 rfl (lv_at hl 3 rfl) ?_
        refine lv_iload_n hx hb d_M_dimensionOf_13 rfl (lv_at hl 0 rfl) ?_
        refine lv_ishr hx hb d_M_dimensionOf_14 ?_
        refine lv_iconst (v := (1 : Int32)) hx hb d_M_dimensionOf_15 (by decide) ?_
        refine lv_iand hx hb d_M_dimensionOf_16 ?_
        refine lv_iconst (v := (1 : Int32)) hx hb d_M_dimensionOf_17 (by decide) ?_
        refine lv_icmp_ne (tgt := 62) hx hb d_M_dimensionOf_18 (by decide) (fun h_4 => ?_) (fun h_4 => ?_)
        · refine lv_iinc (lv' := [(3, .int (nI (k + 1))), (2, .int (nI n)), (0, .ref m0), (1, .int sx)]) (k := 0) (v := nI (k + 1)) hx hb d_M_dimensionOf_62 hl rfl (nI_add k 1) (by decide) rfl (fun ls hl => ?_)
          refine lv_goto (tgt := 4) hx hb d_M_dimensionOf_65 (by decide) ?_
          exact ih_4 _ (by omega) (k + 1) n f1 ls H locs rfl (dmf_n hdm h_4) (by omega) (by omega) (lv_sub hl [0, 1, 2, 3] rfl) (hP.sub [0, 1, 2] rfl) (hD.sub [0, 1, 2] (by decide) rfl) hS
        · refine lv_iconst (v := (0 : Int32)) hx hb d_M_dimensionOf_21 (by decide) ?_
          refine lv_istore (lv' := [(4, .int (0 : Int32)), (3, .int (nI k)), (2, .int (nI n)), (0, .ref m0), (1, .int sx)]) hx hb d_M_dimensionOf_22 hl (by decide) rfl (fun ls hl => ?_)
          refine lv_iload hx hb d_M_dimensionOf_24 (lv_at hl 0 rfl) ?_
          refine lv_iconst (v := (4 : Int32)) hx hb d_M_dimensionOf_26 (by decide) ?_
          refine lv_icmp_ge (tgt := 59) hx hb d_M_dimensionOf_27 (by decide) (fun h99 => absurd h99 (by decide)) (fun _ => ?_)
          refine lv_aload_n hx hb d_M_dimensionOf_30 rfl (lv_at hl 3 rfl) ?_
          refine va_get (D := D) (ci := 7) (v := .ref sq) (C := cn_M) (T := ft_M) (N := 19) hx hb hf_M (fun _ h => h) hown hK hP 0 rfl rfl 15 (by decide) (gw.at G hx0 mw_728 rfl _) (fun _ h9 => h9) rfl d_M_dimensionOf_31 ?_
          refine lv_iconst (v := (4 : Int32)) hx hb d_M_dimensionOf_34 (by decide) ?_
          refine lv_iload_n hx hb d_M_dimensionOf_35 rfl (lv_at hl 2 rfl) ?_
          refine lv_imul hx hb d_M_dimensionOf_36 ?_
          refine tp_i (y := nI (4 * n)) (nI_mul 4 n) ?_
          refine lv_iload hx hb d_M_dimensionOf_37 (lv_at hl 0 rfl) ?_
          refine lv_iadd hx hb d_M_dimensionOf_39 ?_
          refine tp_i (y := nI ((4 * n) + 0)) (nI_add (4 * n) 0) ?_
          refine lv_aload_n hx hb d_M_dimensionOf_40 rfl (lv_at hl 3 rfl) ?_
          refine va_get (D := D) (ci := 7) (v := .ref ry) (C := cn_M) (T := ft_M) (N := 19) hx hb hf_M (fun _ h => h) hown hK hP 0 rfl rfl 7 (by decide) (gw.at G hx0 mw_720 rfl _) (fun _ h9 => h9) rfl d_M_dimensionOf_41 ?_
          refine lv_iconst (v := (4 : Int32)) hx hb d_M_dimensionOf_44 (by decide) ?_
          refine lv_iload_n hx hb d_M_dimensionOf_45 rfl (lv_at hl 1 rfl) ?_
          refine lv_imul hx hb d_M_dimensionOf_46 ?_
          refine tp_i (y := nI (4 * k)) (nI_mul 4 k) ?_
          refine lv_iload hx hb d_M_dimensionOf_47 (lv_at hl 0 rfl) ?_
          refine lv_iadd hx hb d_M_dimensionOf_49 ?_
          refine tp_i (y := nI ((4 * k) + 0)) (nI_add (4 * k) 0) ?_
          refine va_iald hx hb hK hP 1 0 rfl rfl (vp_in_nI (n := (4 * k) + 0) (by omega) (by omega)) d_M_dimensionOf_50 ?_
          refine tp_i (y := yf ((4 * k) + 0)) (congrArg yf (nI_clamp (n := (4 * k) + 0) (by omega))) ?_
          refine lv_i2l (v := (yf ((4 * k) + 0)).toInt64) hx hb d_M_dimensionOf_51 rfl ?_
          refine va_last hx hb hK hP hD hS 2 1 rfl rfl (vp_in_nI (n := (4 * n) + 0) (by omega) (by omega)) d_M_dimensionOf_52 (fun H locs hP hD hS => ?_)
          rw [nI_clamp (n := (4 * n) + 0) (by omega)] at hP hD
          have hP : va_P D kl [(m0, .inr (7, [.int th, .int zz, .int rn, .ref rw, .int kn, .int rk, .int (nI yn), .ref ry, .int sp, .int lg, .ref ti, .int fo, .int pt, .ref po, .ref su, .ref sq, .ref ch, .ref vt, .ref sh])), (ry, .inl (cI, 256, .inl yf)), (sq, .inl (cJ, 256, .inr (.inl (vp_updL f1 ((4 * n) + 0) ((yf ((4 * k) + 0)).toInt64)))))] H := hP
          have hD : va_D A [(m0, .inr (7, [.int th, .int zz, .int rn, .ref rw, .int kn, .int rk, .int (nI yn), .ref ry, .int sp, .int lg, .ref ti, .int fo, .int pt, .ref po, .ref su, .ref sq, .ref ch, .ref vt, .ref sh])), (ry, .inl (cI, 256, .inl yf)), (sq, .inl (cJ, 256, .inr (.inl (vp_updL f1 ((4 * n) + 0) ((yf ((4 * k) + 0)).toInt64)))))] := hD
          refine lv_iinc (lv' := [(4, .int (1 : Int32)), (3, .int (nI k)), (2, .int (nI n)), (0, .ref m0), (1, .int sx)]) (k := 0) (v := (1 : Int32)) hx hb d_M_dimensionOf_53 hl rfl (by decide) (by decide) rfl (fun ls hl => ?_)
          refine lv_goto (tgt := 24) hx hb d_M_dimensionOf_56 (by decide) ?_
          refine lv_iload hx hb d_M_dimensionOf_24 (lv_at hl 0 rfl) ?_
          refine lv_iconst (v := (4 : Int32)) hx hb d_M_dimensionOf_26 (by decide) ?_
          refine lv_icmp_ge (tgt := 59) hx hb d_M_dimensionOf_27 (by decide) (fun h99 => absurd h99 (by decide)) (fun _ => ?_)
          refine lv_aload_n hx hb d_M_dimensionOf_30 rfl (lv_at hl 3 rfl) ?_
          refine va_get (D := D) (ci := 7) (v := .ref sq) (C := cn_M) (T := ft_M) (N := 19) hx hb hf_M (fun _ h => h) hown hK hP 0 rfl rfl 15 (by decide) (gw.at G hx0 mw_728 rfl _) (fun _ h9 => h9) rfl d_M_dimensionOf_31 ?_
          refine lv_iconst (v := (4 : Int32)) hx hb d_M_dimensionOf_34 (by decide) ?_
          refine lv_iload_n hx hb d_M_dimensionOf_35 rfl (lv_at hl 2 rfl) ?_
          refine lv_imul hx hb d_M_dimensionOf_36 ?_
          refine tp_i (y := nI (4 * n)) (nI_mul 4 n) ?_
          refine lv_iload hx hb d_M_dimensionOf_37 (lv_at hl 0 rfl) ?_
          refine lv_iadd hx hb d_M_dimensionOf_39 ?_
          refine tp_i (y := nI ((4 * n) + 1)) (nI_add (4 * n) 1) ?_
          refine lv_aload_n hx hb d_M_dimensionOf_40 rfl (lv_at hl 3 rfl) ?_
          refine va_get (D := D) (ci := 7) (v := .ref ry) (C := cn_M) (T := ft_M) (N := 19) hx hb hf_M (fun _ h => h) hown hK hP 0 rfl rfl 7 (by decide) (gw.at G hx0 mw_720 rfl _) (fun _ h9 => h9) rfl d_M_dimensionOf_41 ?_
          refine lv_iconst (v := (4 : Int32)) hx hb d_M_dimensionOf_44 (by decide) ?_
          refine lv_iload_n hx hb d_M_dimensionOf_45 rfl (lv_at hl 1 rfl) ?_
          refine lv_imul hx hb d_M_dimensionOf_46 ?_
          refine tp_i (y := nI (4 * k)) (nI_mul 4 k) ?_
          refine lv_iload hx hb d_M_dimensionOf_47 (lv_at hl 0 rfl) ?_
          refine lv_iadd hx hb d_M_dimensionOf_49 ?_
          refine tp_i (y := nI ((4 * k) + 1)) (nI_add (4 * k) 1) ?_
          refine va_iald hx hb hK hP 1 0 rfl rfl (vp_in_nI (n := (4 * k) + 1) (by omega) (by omega)) d_M_dimensionOf_50 ?_
          refine tp_i (y := yf ((4 * k) + 1)) (congrArg yf (nI_clamp (n := (4 * k) + 1) (by omega))) ?_
          refine lv_i2l (v := (yf ((4 * k) + 1)).toInt64) hx hb d_M_dimensionOf_51 rfl ?_
          refine va_last hx hb hK hP hD hS 2 1 rfl rfl (vp_in_nI (n := (4 * n) + 1) (by omega) (by omega)) d_M_dimensionOf_52 (fun H locs hP hD hS => ?_)
          rw [nI_clamp (n := (4 * n) + 1) (by omega)] at hP hD
          have hP : va_P D kl [(m0, .inr (7, [.int th, .int zz, .int rn, .ref rw, .int kn, .int rk, .int (nI yn), .ref ry, .int sp, .int lg, .ref ti, .int fo, .int pt, .ref po, .ref su, .ref sq, .ref ch, .ref vt, .ref sh])), (ry, .inl (cI, 256, .inl yf)), (sq, .inl (cJ, 256, .inr (.inl (vp_updL (vp_updL f1 ((4 * n) + 0) ((yf ((4 * k) + 0)).toInt64)) ((4 * n) + 1) ((yf ((4 * k) + 1)).toInt64)))))] H := hP
          have hD : va_D A [(m0, .inr (7, [.int th, .int zz, .int rn, .ref rw, .int kn, .int rk, .int (nI yn), .ref ry, .int sp, .int lg, .ref ti, .int fo, .int pt, .ref po, .ref su, .ref sq, .ref ch, .ref vt, .ref sh])), (ry, .inl (cI, 256, .inl yf)), (sq, .inl (cJ, 256, .inr (.inl (vp_updL (vp_updL f1 ((4 * n) + 0) ((yf ((4 * k) + 0)).toInt64)) ((4 * n) + 1) ((yf ((4 * k) + 1)).toInt64)))))] := hD
          refine lv_iinc (lv' := [(4, .int (2 : Int32)), (3, .int (nI k)), (2, .int (nI n)), (0, .ref m0), (1, .int sx)]) (k := 0) (v := (2 : Int32)) hx hb d_M_dimensionOf_53 hl rfl (by decide) (by decide) rfl (fun ls hl => ?_)
          refine lv_goto (tgt := 24) hx hb d_M_dimensionOf_56 (by decide) ?_
          refine lv_iload hx hb d_M_dimensionOf_24 (lv_at hl 0 rfl) ?_
          refine lv_iconst (v := (4 : Int32)) hx hb d_M_dimensionOf_26 (by decide) ?_
          refine lv_icmp_ge (tgt := 59) hx hb d_M_dimensionOf_27 (by decide) (fun h99 => absurd h99 (by decide)) (fun _ => ?_)
          refine lv_aload_n hx hb d_M_dimensionOf_30 rfl (lv_at hl 3 rfl) ?_
          refine va_get (D := D) (ci := 7) (v := .ref sq) (C := cn_M) (T := ft_M) (N := 19) hx hb hf_M (fun _ h => h) hown hK hP 0 rfl rfl 15 (by decide) (gw.at G hx0 mw_728 rfl _) (fun _ h9 => h9) rfl d_M_dimensionOf_31 ?_
          refine lv_iconst (v := (4 : Int32)) hx hb d_M_dimensionOf_34 (by decide) ?_
          refine lv_iload_n hx hb d_M_dimensionOf_35 rfl (lv_at hl 2 rfl) ?_
          refine lv_imul hx hb d_M_dimensionOf_36 ?_
          refine tp_i (y := nI (4 * n)) (nI_mul 4 n) ?_
          refine lv_iload hx hb d_M_dimensionOf_37 (lv_at hl 0 rfl) ?_
          refine lv_iadd hx hb d_M_dimensionOf_39 ?_
          refine tp_i (y := nI ((4 * n) + 2)) (nI_add (4 * n) 2) ?_
          refine lv_aload_n hx hb d_M_dimensionOf_40 rfl (lv_at hl 3 rfl) ?_
          refine va_get (D := D) (ci := 7) (v := .ref ry) (C := cn_M) (T := ft_M) (N := 19) hx hb hf_M (fun _ h => h) hown hK hP 0 rfl rfl 7 (by decide) (gw.at G hx0 mw_720 rfl _) (fun _ h9 => h9) rfl d_M_dimensionOf_41 ?_
          refine lv_iconst (v := (4 : Int32)) hx hb d_M_dimensionOf_44 (by decide) ?_
          refine lv_iload_n hx hb d_M_dimensionOf_45 rfl (lv_at hl 1 rfl) ?_
          refine lv_imul hx hb d_M_dimensionOf_46 ?_
          refine tp_i (y := nI (4 * k)) (nI_mul 4 k) ?_
          refine lv_iload hx hb d_M_dimensionOf_47 (lv_at hl 0 rfl) ?_
          refine lv_iadd hx hb d_M_dimensionOf_49 ?_
          refine tp_i (y := nI ((4 * k) + 2)) (nI_add (4 * k) 2) ?_
          refine va_iald hx hb hK hP 1 0 rfl rfl (vp_in_nI (n := (4 * k) + 2) (by omega) (by omega)) d_M_dimensionOf_50 ?_
          refine tp_i (y := yf ((4 * k) + 2)) (congrArg yf (nI_clamp (n := (4 * k) + 2) (by omega))) ?_
          refine lv_i2l (v := (yf ((4 * k) + 2)).toInt64) hx hb d_M_dimensionOf_51 rfl ?_
          refine va_last hx hb hK hP hD hS 2 1 rfl rfl (vp_in_nI (n := (4 * n) + 2) (by omega) (by omega)) d_M_dimensionOf_52 (fun H locs hP hD hS => ?_)
          rw [nI_clamp (n := (4 * n) + 2) (by omega)] at hP hD
          have hP : va_P D kl [(m0, .inr (7, [.int th, .int zz, .int rn, .ref rw, .int kn, .int rk, .int (nI yn), .ref ry, .int sp, .int lg, .ref ti, .int fo, .int pt, .ref po, .ref su, .ref sq, .ref ch, .ref vt, .ref sh])), (ry, .inl (cI, 256, .inl yf)), (sq, .inl (cJ, 256, .inr (.inl (vp_updL (vp_updL (vp_updL f1 ((4 * n) + 0) ((yf ((4 * k) + 0)).toInt64)) ((4 * n) + 1) ((yf ((4 * k) + 1)).toInt64)) ((4 * n) + 2) ((yf ((4 * k) + 2)).toInt64)))))] H := hP
          have hD : va_D A [(m0, .inr (7, [.int th, .int zz, .int rn, .ref rw, .int kn, .int rk, .int (nI yn), .ref ry, .int sp, .int lg, .ref ti, .int fo, .int pt, .ref po, .ref su, .ref sq, .ref ch, .ref vt, .ref sh])), (ry, .inl (cI, 256, .inl yf)), (sq, .inl (cJ, 256, .inr (.inl (vp_updL (vp_updL (vp_updL f1 ((4 * n) + 0) ((yf ((4 * k) + 0)).toInt64)) ((4 * n) + 1) ((yf ((4 * k) + 1)).toInt64)) ((4 * n) + 2) ((yf ((4 * k) + 2)).toInt64)))))] := hD
          refine lv_iinc (lv' := [(4, .int (3 : Int32)), (3, .int (nI k)), (2, .int (nI n)), (0, .ref m0), (1, .int sx)]) (k := 0) (v := (3 : Int32)) hx hb d_M_dimensionOf_53 hl rfl (by decide) (by decide) rfl (fun ls hl => ?_)
          refine lv_goto (tgt := 24) hx hb d_M_dimensionOf_56 (by decide) ?_
          refine lv_iload hx hb d_M_dimensionOf_24 (lv_at hl 0 rfl) ?_
          refine lv_iconst (v := (4 : Int32)) hx hb d_M_dimensionOf_26 (by decide) ?_
          refine lv_icmp_ge (tgt := 59) hx hb d_M_dimensionOf_27 (by decide) (fun h99 => absurd h99 (by decide)) (fun _ => ?_)
          refine lv_aload_n hx hb d_M_dimensionOf_30 rfl (lv_at hl 3 rfl) ?_
          refine va_get (D := D) (ci := 7) (v := .ref sq) (C := cn_M) (T := ft_M) (N := 19) hx hb hf_M (fun _ h => h) hown hK hP 0 rfl rfl 15 (by decide) (gw.at G hx0 mw_728 rfl _) (fun _ h9 => h9) rfl d_M_dimensionOf_31 ?_
          refine lv_iconst (v := (4 : Int32)) hx hb d_M_dimensionOf_34 (by decide) ?_
          refine lv_iload_n hx hb d_M_dimensionOf_35 rfl (lv_at hl 2 rfl) ?_
          refine lv_imul hx hb d_M_dimensionOf_36 ?_
          refine tp_i (y := nI (4 * n)) (nI_mul 4 n) ?_
          refine lv_iload hx hb d_M_dimensionOf_37 (lv_at hl 0 rfl) ?_
          refine lv_iadd hx hb d_M_dimensionOf_39 ?_
          refine tp_i (y := nI ((4 * n) + 3)) (nI_add (4 * n) 3) ?_
          refine lv_aload_n hx hb d_M_dimensionOf_40 rfl (lv_at hl 3 rfl) ?_
          refine va_get (D := D) (ci := 7) (v := .ref ry) (C := cn_M) (T := ft_M) (N := 19) hx hb hf_M (fun _ h => h) hown hK hP 0 rfl rfl 7 (by decide) (gw.at G hx0 mw_720 rfl _) (fun _ h9 => h9) rfl d_M_dimensionOf_41 ?_
          refine lv_iconst (v := (4 : Int32)) hx hb d_M_dimensionOf_44 (by decide) ?_
          refine lv_iload_n hx hb d_M_dimensionOf_45 rfl (lv_at hl 1 rfl) ?_
          refine lv_imul hx hb d_M_dimensionOf_46 ?_
          refine tp_i (y := nI (4 * k)) (nI_mul 4 k) ?_
          refine lv_iload hx hb d_M_dimensionOf_47 (lv_at hl 0 rfl) ?_
          refine lv_iadd hx hb d_M_dimensionOf_49 ?_
          refine tp_i (y := nI ((4 * k) + 3)) (nI_add (4 * k) 3) ?_
          refine va_iald hx hb hK hP 1 0 rfl rfl (vp_in_nI (n := (4 * k) + 3) (by omega) (by omega)) d_M_dimensionOf_50 ?_
          refine tp_i (y := yf ((4 * k) + 3)) (congrArg yf (nI_clamp (n := (4 * k) + 3) (by omega))) ?_
          refine lv_i2l (v := (yf ((4 * k) + 3)).toInt64) hx hb d_M_dimensionOf_51 rfl ?_
          refine va_last hx hb hK hP hD hS 2 1 rfl rfl (vp_in_nI (n := (4 * n) + 3) (by omega) (by omega)) d_M_dimensionOf_52 (fun H locs hP hD hS => ?_)
          rw [nI_clamp (n := (4 * n) + 3) (by omega)] at hP hD
          have hP : va_P D kl [(m0, .inr (7, [.int th, .int zz, .int rn, .ref rw, .int kn, .int rk, .int (nI yn), .ref ry, .int sp, .int lg, .ref ti, .int fo, .int pt, .ref po, .ref su, .ref sq, .ref ch, .ref vt, .ref sh])), (ry, .inl (cI, 256, .inl yf)), (sq, .inl (cJ, 256, .inr (.inl (vp_updL (vp_updL (vp_updL (vp_updL f1 ((4 * n) + 0) ((yf ((4 * k) + 0)).toInt64)) ((4 * n) + 1) ((yf ((4 * k) + 1)).toInt64)) ((4 * n) + 2) ((yf ((4 * k) + 2)).toInt64)) ((4 * n) + 3) ((yf ((4 * k) + 3)).toInt64)))))] H := hP
          have hD : va_D A [(m0, .inr (7, [.int th, .int zz, .int rn, .ref rw, .int kn, .int rk, .int (nI yn), .ref ry, .int sp, .int lg, .ref ti, .int fo, .int pt, .ref po, .ref su, .ref sq, .ref ch, .ref vt, .ref sh])), (ry, .inl (cI, 256, .inl yf)), (sq, .inl (cJ, 256, .inr (.inl (vp_updL (vp_updL (vp_updL (vp_updL f1 ((4 * n) + 0) ((yf ((4 * k) + 0)).toInt64)) ((4 * n) + 1) ((yf ((4 * k) + 1)).toInt64)) ((4 * n) + 2) ((yf ((4 * k) + 2)).toInt64)) ((4 * n) + 3) ((yf ((4 * k) + 3)).toInt64)))))] := hD
          refine lv_iinc (lv' := [(4, .int (4 : Int32)), (3, .int (nI k)), (2, .int (nI n)), (0, .ref m0), (1, .int sx)]) (k := 0) (v := (4 : Int32)) hx hb d_M_dimensionOf_53 hl rfl (by decide) (by decide) rfl (fun ls hl => ?_)
          refine lv_goto (tgt := 24) hx hb d_M_dimensionOf_56 (by decide) ?_
          refine lv_iload hx hb d_M_dimensionOf_24 (lv_at hl 0 rfl) ?_
          refine lv_iconst (v := (4 : Int32)) hx hb d_M_dimensionOf_26 (by decide) ?_
          refine lv_icmp_ge (tgt := 59) hx hb d_M_dimensionOf_27 (by decide) (fun _ => ?_) (fun h99 => absurd h99 (by decide))
          refine lv_iinc (lv' := [(2, .int (nI (n + 1))), (4, .int (4 : Int32)), (3, .int (nI k)), (0, .ref m0), (1, .int sx)]) (k := 2) (v := nI (n + 1)) hx hb d_M_dimensionOf_59 hl rfl (nI_add n 1) (by decide) rfl (fun ls hl => ?_)
          refine lv_iinc (lv' := [(3, .int (nI (k + 1))), (2, .int (nI (n + 1))), (4, .int (4 : Int32)), (0, .ref m0), (1, .int sx)]) (k := 2) (v := nI (k + 1)) hx hb d_M_dimensionOf_62 hl rfl (nI_add k 1) (by decide) rfl (fun ls hl => ?_)
          refine lv_goto (tgt := 4) hx hb d_M_dimensionOf_65 (by decide) ?_
          exact ih_4 _ (by omega) (k + 1) (n + 1) (vp_updL (vp_updL (vp_updL (vp_updL f1 ((4 * n) + 0) ((yf ((4 * k) + 0)).toInt64)) ((4 * n) + 1) ((yf ((4 * k) + 1)).toInt64)) ((4 * n) + 2) ((yf ((4 * k) + 2)).toInt64)) ((4 * n) + 3) ((yf ((4 * k) + 3)).toInt64)) ls H locs rfl (dmf_y hdm h_4) (by omega) (by omega) (lv_sub hl [0, 1, 3, 4] rfl) (hP.sub [0, 1, 2] rfl) (hD.sub [0, 1, 2] (by decide) rfl) hS
  exact lp_4 _ 0 0 qf ls s.heap [] rfl rfl (Nat.zero_le _) (Nat.le_refl _) (lv_sub hl [0, 1, 2, 3] rfl) (hP.sub [0, 1, 2] rfl) (hD.sub [0, 1, 2] (by decide) rfl) hS

set_option maxHeartbeats 4000000 in
set_option maxRecDepth 100000 in
theorem c_M_choose {l : Launch} {s0 : State} {b0 : Addr} {D : va_G} {cI cJ cZ : ClassId} {tC tS : Nat} (E : gE l s0 b0 D cI cJ cZ tC tS) (sz : Nat) (m0 : Nat) (rw : Nat) (ry : Nat) (ti : Nat) (po : Nat) (su : Nat) (sq : Nat) (ch : Nat) (vt : Nat) (sh : Nat) (th : Int32) (zz : Int32) (rn : Int32) (kn : Int32) (rk : Int32) (sp : Int32) (lg : Int32) (fo : Int32) (pt : Int32) (yn : Nat) (ck : Nat → Nat) (x : Nat) (hyn : yn ≤ 8) (hck : ∀ j, ck j < 8) (hx8 : x < 2 ^ 31) : cx_M l s0 D kl y_M_choose b_M_choose 4 none ({ frames := 0, cells := 0, slots := 0, locals := 0 } : Room) 0 0 [.ref m0, .int (nI x)] [(m0, .inr (7, [.int th, .int zz, .int rn, .ref rw, .int kn, .int rk, .int (nI yn), .ref ry, .int sp, .int lg, .ref ti, .int fo, .int pt, .ref po, .ref su, .ref sq, .ref ch, .ref vt, .ref sh])), (ch, .inl (cI, 8, .inl (nf ck)))] sz (fun o9 _ w9 => ∃ (n2 : Nat) (c2 : Nat → Nat), o9 = .returned none ∧ chs x yn (0, ck) = (n2, c2) ∧ (∀ j, c2 j < 8) ∧ w9 = [(m0, .inr (7, [.int th, .int zz, .int rn, .ref rw, .int kn, .int rk, .int (nI yn), .ref ry, .int sp, .int lg, .ref ti, .int fo, .int pt, .ref po, .ref su, .ref sq, .ref ch, .ref vt, .ref sh])), (ch, .inl (cI, 8, .inl (nf c2)))]) := by
  refine tx_ofW (cc := b_M_choose) (maxL := 4) (ret := none) (by decide) rfl ?_
  intro p e s m args below meth c s₁ B hml hT hv
  obtain ⟨rfl, hsz, hP, hD0, hx0⟩ := hv
  have hx := B.exec
  have hb := B.bytes
  have hr := B.returns
  have G := E.2.1
  have hown : s.vm.findClass cn_M = some m.cls := findClass_of_methodNamed B.named
  have hlocks := B.notSynchronized
  have hK := va_K.moved hx0.1.alike E.2.2.1
  have hf_M : ∀ w99 ∈ u_ws cn_M ft_M 19, w99.before ([.ref m0, .int (nI x)] : List Value).toArray s = true := fun w99 h99 => gw.at G hx0 (fw_M w99 h99) (fo_M w99 h99) _
  subst hsz
  have hA0 := cx_new hD0 hx0.2.1
  have hD := hD0.self (sz := s.heap.size)
  generalize hAe : va_A [(m0, .inr (7, [.int th, .int zz, .int rn, .ref rw, .int kn, .int rk, .int (nI yn), .ref ry, .int sp, .int lg, .ref ti, .int fo, .int pt, .ref po, .ref su, .ref sq, .ref ch, .ref vt, .ref sh])), (ch, .inl (cI, 8, .inl (nf ck)))] s.heap.size = A at hD hA0 ⊢
  have hA : ∀ q : Nat, s.heap.size ≤ q → A q := fun q h => by rw [← hAe]; exact Or.inr h
  have hS : va_S A s.heap s.heap [] := va_S.rf
  have hl := lv_entry ([.ref m0, .int (nI x)]) (n := 4) (Nat.le_of_ble_eq_true rfl)
  rw [lg_entry_eq]
  generalize (lg_sl ([.ref m0, .int (nI x)]) ++ List.replicate (4 - (lg_sl ([.ref m0, .int (nI x)])).length) Slot.unset).toArray = ls at hl ⊢
  have hl : lv_has ls 4 [(0, .ref m0), (1, .int (nI x))] := hl
  have hP : va_P D kl [(m0, .inr (7, [.int th, .int zz, .int rn, .ref rw, .int kn, .int rk, .int (nI yn), .ref ry, .int sp, .int lg, .ref ti, .int fo, .int pt, .ref po, .ref su, .ref sq, .ref ch, .ref vt, .ref sh])), (ch, .inl (cI, 8, .inl (nf ck)))] s.heap := hP
  have hml : c.maxLocals = 4 := hml
  generalize hQe : tx_Z below (cx_Q D kl A (fun o9 _ w9 => ∃ (n2 : Nat) (c2 : Nat → Nat), o9 = .returned none ∧ chs x yn (0, ck) = (n2, c2) ∧ (∀ j, c2 j < 8) ∧ w9 = [(m0, .inr (7, [.int th, .int zz, .int rn, .ref rw, .int kn, .int rk, .int (nI yn), .ref ry, .int sp, .int lg, .ref ti, .int fo, .int pt, .ref po, .ref su, .ref sq, .ref ch, .ref vt, .ref sh])), (ch, .inl (cI, 8, .inl (nf c2)))])) ([.ref m0, .int (nI x)] : List Value).toArray s 0 0 A = Q
  refine lv_iconst (v := (0 : Int32)) hx hb d_M_choose_0 (by decide) ?_
  refine lv_istore_n (lv' := [(2, .int (0 : Int32)), (0, .ref m0), (1, .int (nI x))]) hx hb d_M_choose_1 rfl hl (by decide) rfl (fun ls hl => ?_)
  refine lv_iconst (v := (0 : Int32)) hx hb d_M_choose_2 (by decide) ?_
  refine lv_istore_n (lv' := [(3, .int (0 : Int32)), (2, .int (0 : Int32)), (0, .ref m0), (1, .int (nI x))]) hx hb d_M_choose_3 rfl hl (by decide) rfl (fun ls hl => ?_)
  have lp_4 : ∀ (n9 : Nat) (k : Nat) (n : Nat) (f1 : Nat → Nat) (ls : Array Slot) (H : Heap) (locs : List Loc), yn - k = n9 → (chs x k (0, ck) = (n, f1)) → (k ≤ yn) → (n ≤ k) → (∀ j, f1 j < 8) → lv_has ls 4 [(3, .int (nI k)), (2, .int (nI n)), (0, .ref m0), (1, .int (nI x))] → va_P D kl [(m0, .inr (7, [.int th, .int zz, .int rn, .ref rw, .int kn, .int rk, .int (nI yn), .ref ry, .int sp, .int lg, .ref ti, .int fo, .int pt, .ref po, .ref su, .ref sq, .ref ch, .ref vt, .ref sh])), (ch, .inl (cI, 8, .inl (nf f1)))] H → va_D A [(m0, .inr (7, [.int th, .int zz, .int rn, .ref rw, .int kn, .int rk, .int (nI yn), .ref ry, .int sp, .int lg, .ref ti, .int fo, .int pt, .ref po, .ref su, .ref sq, .ref ch, .ref vt, .ref sh])), (ch, .inl (cI, 8, .inl (nf f1)))] → va_S A s.heap H locs → W p l e ({ frames := 0, cells := 0, slots := 0, locals := 0 } : Room) s m ([.ref m0, .int (nI x)] : List Value).toArray below meth c H locs 0 0 Q (F0 m 4 ls []) := by
    intro n9
    induction n9 using Nat.strongRecOn with
    | ind n9 ih_4 =>
      intro k n f1 ls H locs hm_4 hch9 hk9 hnk hf1 hl hP hD hS
      refine lv_iload_n hx hb d_M_choose_4 rfl (lv_at hl 0 rfl) ?_
      refine lv_aload_n hx hb d_M_choose_5 rfl (lv_at hl 2 rfl) ?_
      refine va_get (D := D) (ci := 7) (v := .int (nI yn)) (C := cn_M) (T := ft_M) (N := 19) hx hb hf_M (fun _ h => h) hown hK hP 0 rfl rfl 6 (by decide) (gw.at G hx0 mw_719 rfl _) (fun _ h9 => h9) rfl d_M_choose_6 ?_
      refine lv_icmp_ge (tgt := 37) hx hb d_M_choose_9 (by decide) (fun h_1 => ?_) (fun h_1 => ?_)
      · have h_1 : yn ≤ k := (nI_leI (a := yn) (b := k) (by omega) (by omega)).mp h_1
        rw [← hQe]
        exact tx_mono (fun _ h => tx_Z.of h) (W.vret hx hb hr (fun t ht hW => ⟨⟨[(m0, .inr (7, [.int th, .int zz, .int rn, .ref rw, .int kn, .int rk, .int (nI yn), .ref ry, .int sp, .int lg, .ref ti, .int fo, .int pt, .ref po, .ref su, .ref sq, .ref ch, .ref vt, .ref sh])), (ch, .inl (cI, 8, .inl (nf f1)))], ⟨n, f1, rfl, (by rw [show yn = k by omega]; exact hch9), hf1, rfl⟩, by rw [ht]; exact hP.sub [0, 1] rfl, hD.sub [0, 1] (by decide) rfl⟩, hS.F ht⟩) hS.2.2 d_M_choose_37)
      · have h_1 : ¬ (yn ≤ k) := fun z99 => h_1 ((nI_leI (a := yn) (b := k) (by omega) (by omega)).mpr z99)
        refine lv_iload_n hx hb d_M_choose_12 rfl (lv_at hl 3 rfl) ?_
        refine lv_iload_n hx hb d_M_choose_13 rfl (lv_at hl 0 rfl) ?_
        refine lv_ishr hx hb d_M_choose_14 ?_
        refine tp_i (y := nI (x / 2 ^ k)) (nI_shr (n := x) (p := k) (by omega) (by omega)) ?_
        refine lv_iconst (v := (1 : Int32)) hx hb d_M_choose_15 (by decide) ?_
        refine lv_iand hx hb d_M_choose_16 ?_
        refine tp_i (y := nI ((x / 2 ^ k) % 2)) (nI_and1 _) ?_
        refine lv_iconst (v := (1 : Int32)) hx hb d_M_choose_17 (by decide) ?_
        refine lv_icmp_ne (tgt := 31) hx hb d_M_choose_18 (by decide) (fun h_2 => ?_) (fun h_2 => ?_)
        · have h_2 : ¬ (((x / 2 ^ k) % 2) = 1) := fun z99 => h_2 ((nI_eq (a := (x / 2 ^ k) % 2) (b := 1) (by omega) (by omega)).mpr z99)
          refine lv_iinc (lv' := [(3, .int (nI (k + 1))), (2, .int (nI n)), (0, .ref m0), (1, .int (nI x))]) (k := 0) (v := nI (k + 1)) hx hb d_M_choose_31 hl rfl (nI_add k 1) (by decide) rfl (fun ls hl => ?_)
          refine lv_goto (tgt := 4) hx hb d_M_choose_34 (by decide) ?_
          exact ih_4 _ (by omega) (k + 1) n f1 ls H locs rfl (chs_n hch9 h_2) (by omega) (by omega) hf1 (lv_sub hl [0, 1, 2, 3] rfl) (hP.sub [0, 1] rfl) (hD.sub [0, 1] (by decide) rfl) hS
        · have h_2 : ((x / 2 ^ k) % 2) = 1 := (nI_eq (a := (x / 2 ^ k) % 2) (b := 1) (by omega) (by omega)).mp h_2
          refine lv_aload_n hx hb d_M_choose_21 rfl (lv_at hl 2 rfl) ?_
          refine va_get (D := D) (ci := 7) (v := .ref ch) (C := cn_M) (T := ft_M) (N := 19) hx hb hf_M (fun _ h => h) hown hK hP 0 rfl rfl 16 (by decide) (gw.at G hx0 mw_729 rfl _) (fun _ h9 => h9) rfl d_M_choose_22 ?_
          refine lv_iload_n hx hb d_M_choose_25 rfl (lv_at hl 1 rfl) ?_
          refine lv_iload_n hx hb d_M_choose_26 rfl (lv_at hl 0 rfl) ?_
          refine va_iast hx hb hK hP hD hS 1 0 rfl rfl (vp_in_nI (n := n) (by omega) (by omega)) d_M_choose_27 (fun H locs hP hD hS => ?_)
          rw [nI_clamp (n := n) (by omega)] at hP hD
          rw [show upd (nf f1) n (nI k) = nf (updN f1 n k) from nf_upd _ _ _] at hP hD
          have hP : va_P D kl [(m0, .inr (7, [.int th, .int zz, .int rn, .ref rw, .int kn, .int rk, .int (nI yn), .ref ry, .int sp, .int lg, .ref ti, .int fo, .int pt, .ref po, .ref su, .ref sq, .ref ch, .ref vt, .ref sh])), (ch, .inl (cI, 8, .inl (nf (updN f1 n k))))] H := hP
          have hD : va_D A [(m0, .inr (7, [.int th, .int zz, .int rn, .ref rw, .int kn, .int rk, .int (nI yn), .ref ry, .int sp, .int lg, .ref ti, .int fo, .int pt, .ref po, .ref su, .ref sq, .ref ch, .ref vt, .ref sh])), (ch, .inl (cI, 8, .inl (nf (updN f1 n k))))] := hD
          refine lv_iinc (lv' := [(2, .int (nI (n + 1))), (3, .int (nI k)), (0, .ref m0), (1, .int (nI x))]) (k := 1) (v := nI (n + 1)) hx hb d_M_choose_28 hl rfl (nI_add n 1) (by decide) rfl (fun ls hl => ?_)
          refine lv_iinc (lv' := [(3, .int (nI (k + 1))), (2, .int (nI (n + 1))), (0, .ref m0), (1, .int (nI x))]) (k := 1) (v := nI (k + 1)) hx hb d_M_choose_31 hl rfl (nI_add k 1) (by decide) rfl (fun ls hl => ?_)
          refine lv_goto (tgt := 4) hx hb d_M_choose_34 (by decide) ?_
          exact ih_4 _ (by omega) (k + 1) (n + 1) (updN f1 n k) ls H locs rfl (chs_y hch9 h_2) (by omega) (by omega) (updN_lt hf1 (by omega)) (lv_sub hl [0, 1, 2, 3] rfl) (hP.sub [0, 1] rfl) (hD.sub [0, 1] (by decide) rfl) hS
  exact lp_4 _ 0 0 ck ls s.heap [] rfl rfl (Nat.zero_le _) (Nat.le_refl _) hck (lv_sub hl [0, 1, 2, 3] rfl) (hP.sub [0, 1] rfl) (hD.sub [0, 1] (by decide) rfl) hS

