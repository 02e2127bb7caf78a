/-! ===== own rows, laid by wip/tools/g41.py: the reference, index, know ===== -/
def sqr (wf : Nat → Int32) : Nat → (Nat → Int64) → (Nat → Int64)
  | 0, q => q
  | k + 1, q => vp_updL (sqr wf k q) k (wf k).toInt64
theorem sqr_s {wf : Nat → Int32} {k : Nat} {q q2 : Nat → Int64} (h : sqr wf k q = q2) : sqr wf (k + 1) q = vp_updL q2 k (wf k).toInt64 := by
  show vp_updL (sqr wf k q) k (wf k).toInt64 = _
  rw [h]
/-- the rays, by the first x sets of rows; the vector; the square -/
noncomputable def rsm (wf : Nat → Int32) (rn zs : Nat) : Nat → (Nat × (Nat → Int32) × (Nat → Int32)) × (Nat → Int64) → (Nat × (Nat → Int32) × (Nat → Int32)) × (Nat → Int64)
  | 0, p => p
  | x + 1, p => if mny x 16 = zs - 1 then (acr wf rn zs (mn4 wf rn zs x (rsm wf rn zs x p).2).1 (rsm wf rn zs x p).1, (mn4 wf rn zs x (rsm wf rn zs x p).2).2) else rsm wf rn zs x p
theorem rsm_y {wf : Nat → Int32} {rn zs x : Nat} {p : (Nat × (Nat → Int32) × (Nat → Int32)) × (Nat → Int64)} {r r2 : Nat × (Nat → Int32) × (Nat → Int32)} {q q2 : Nat → Int64} {v : Int64 × Int64 × Int64 × Int64} (h : rsm wf rn zs x p = (r, q)) (h1 : mny x 16 = zs - 1) (hm : mn4 wf rn zs x q = (v, q2)) (ha : acr wf rn zs v r = r2) : rsm wf rn zs (x + 1) p = (r2, q2) := by
  show (if mny x 16 = zs - 1 then _ else _) = _
  rw [if_pos h1, h]
  simp only [hm, ha]
theorem rsm_n {wf : Nat → Int32} {rn zs x : Nat} {p r : (Nat × (Nat → Int32) × (Nat → Int32)) × (Nat → Int64)} (h : rsm wf rn zs x p = r) (h1 : ¬ mny x 16 = zs - 1) : rsm wf rn zs (x + 1) p = r := by
  show (if mny x 16 = zs - 1 then _ else _) = _
  rw [if_neg h1, h]
/-- at most one ray comes of a set of rows -/
def one1 (wf : Nat → Int32) (rn zs : Nat) : Prop := ∀ (x : Nat) (q : Nat → Int64) (p : Nat × (Nat → Int32) × (Nat → Int32)), x < 2 ^ rn → mny x 16 = zs - 1 → (acr wf rn zs (mn4 wf rn zs x q).1 p).1 ≤ p.1 + 1
def cns (k : Nat) : Nat → Nat
  | 0 => 0
  | x + 1 => cns k x + (if mny x 16 = k then 1 else 0)
theorem cns_mono {k : Nat} : ∀ {x y : Nat}, x ≤ y → cns k x ≤ cns k y := by
  intro x y h
  induction h with
  | refl => exact Nat.le_refl _
  | step _ ih => exact Nat.le_trans ih (Nat.le_add_right _ _)
theorem cns_256 : ∀ k, k < 4 → cns k 256 ≤ 56 := by decide +kernel
theorem cns_le {k x : Nat} (hk : k < 4) (hx : x ≤ 256) : cns k x ≤ 56 := Nat.le_trans (cns_mono hx) (cns_256 k hk)
theorem cns_y {k x : Nat} (h : mny x 16 = k) : cns k (x + 1) = cns k x + 1 := by
  show cns k x + (if mny x 16 = k then 1 else 0) = _
  rw [if_pos h]
theorem cns_n {k x : Nat} (h : ¬ mny x 16 = k) : cns k (x + 1) = cns k x := by
  show cns k x + (if mny x 16 = k then 1 else 0) = _
  rw [if_neg h]; rfl
-- which rows are tight at which rays
noncomputable def tm1 (wf yf : Nat → Int32) (r : Nat) : Nat → (Nat → Int32) → (Nat → Int32)
  | 0, f => f
  | k + 1, f => if prm wf r yf (4 * k) = 0 then upd (tm1 wf yf r k f) r (tm1 wf yf r k f r ||| (1 : Int32) <<< (nI k &&& 31)) else upd (tm1 wf yf r k f) r (tm1 wf yf r k f r)
theorem tm1_y {wf yf : Nat → Int32} {r k : Nat} {f f2 : Nat → Int32} (h : tm1 wf yf r k f = f2) (e : prm wf r yf (4 * k) = 0) : tm1 wf yf r (k + 1) f = upd f2 r (f2 r ||| (1 : Int32) <<< (nI k &&& 31)) := by
  show (if prm wf r yf (4 * k) = 0 then _ else _) = _
  rw [if_pos e, h]
theorem tm1_n {wf yf : Nat → Int32} {r k : Nat} {f f2 : Nat → Int32} (h : tm1 wf yf r k f = f2) (e : ¬ prm wf r yf (4 * k) = 0) : tm1 wf yf r (k + 1) f = upd f2 r (f2 r) := by
  show (if prm wf r yf (4 * k) = 0 then _ else _) = _
  rw [if_neg e, h]
noncomputable def tmo (wf yf : Nat → Int32) (yn : Nat) : Nat → (Nat → Int32) → (Nat → Int32)
  | 0, f => f
  | r + 1, f => tm1 wf yf r yn (upd (tmo wf yf yn r f) r 0)
theorem tmo_s {wf yf : Nat → Int32} {yn r : Nat} {f f2 f3 : Nat → Int32} (h : tmo wf yf yn r f = f2) (h2 : tm1 wf yf r yn (upd f2 r 0) = f3) : tmo wf yf yn (r + 1) f = f3 := by
  show tm1 wf yf r yn (upd (tmo wf yf yn r f) r 0) = _
  rw [h, h2]
def allx (yn : Nat) : Int32 := (1 : Int32) <<< (nI yn &&& 31) - (1 : Int32)
/-- what the reference knows of its cone -/
def KMr (wf : Nat → Int32) (rn zs rk yn : Nat) (yf tf : Nat → Int32) (sp lg : Nat) : Prop :=
  (∃ q0, rk = (rkf rn (sqr wf (4 * rn) q0) 4).1) ∧ (rk < zs → yn = 0 ∧ lg = 0 ∧ sp = 0) ∧ (zs ≤ rk →
    (∃ yf0 vf0 q0 vf1 q1, rsm wf rn zs (2 ^ rn) ((0, yf0, vf0), q0) = ((yn, yf, vf1), q1)) ∧ (∃ tf0, tmo wf yf yn rn tf0 = tf) ∧ (∃ q0 q1, dmo yf yn (allx yn) q0 = (sp, q1)) ∧
    ((lg = 1 ∧ (8 < yn ∨ ∃ ck0 q0, (∀ j, ck0 j < 8) ∧ 12 < (ixd yf yn sp zs (2 ^ yn - 1) (0, ck0, q0)).1)) ∨ (lg = 0 ∧ yn ≤ 8 ∧ ∃ ck0 q0, (∀ j, ck0 j < 8) ∧ ¬ 12 < (ixd yf yn sp zs (2 ^ yn - 1) (0, ck0, q0)).1)))
set_option maxHeartbeats 4000000 in
set_option maxRecDepth 100000 in
theorem c_M_index {l : Launch} {s0 : State} {b0 : Addr} {D : va_G} {cI cJ cZ : ClassId} {tC tS : Nat} (E : gE l s0 b0 D cI cJ cZ tC tS) (sz : Nat) (m0 : Nat) (rw : Nat) (ry : Nat) (ti : Nat) (po : Nat) (su : Nat) (sq : Nat) (ch : Nat) (vt : Nat) (sh : Nat) (th : Int32) (rn : Int32) (kn : Int32) (rk : Int32) (y1 : Int32) (lg : Int32) (fo : Int32) (pt : Int32) (zs : Nat) (sp : Nat) (yf : Nat → Int32) (ck : Nat → Nat) (qf : Nat → Int64) (hz4 : zs ≤ 4) (hs4 : sp ≤ 4) (hck : ∀ j, ck j < 8) : cx_M l s0 D kl y_M_index b_M_index 4 (some .long) ({ frames := 2, cells := 0, slots := 0, locals := 54 } : Room) 0 0 [.ref m0] [(m0, .inr (7, [.int th, .int (nI zs), .int rn, .ref rw, .int kn, .int rk, .int y1, .ref ry, .int (nI sp), .int lg, .ref ti, .int fo, .int pt, .ref po, .ref su, .ref sq, .ref ch, .ref vt, .ref sh])), (ry, .inl (cI, 256, .inl yf)), (ch, .inl (cI, 8, .inl (nf ck))), (sq, .inl (cJ, 256, .inr (.inl qf)))] sz (fun o9 _ w9 => ∃ (v : Int64) (q2 : Nat → Int64), o9 = .returned (some (.long v)) ∧ ixf yf ck sp zs 16 (0, qf) = (v, q2) ∧ w9 = [(m0, .inr (7, [.int th, .int (nI zs), .int rn, .ref rw, .int kn, .int rk, .int y1, .ref ry, .int (nI sp), .int lg, .ref ti, .int fo, .int pt, .ref po, .ref su, .ref sq, .ref ch, .ref vt, .ref sh])), (ry, .inl (cI, 256, .inl yf)), (ch, .inl (cI, 8, .inl (nf ck))), (sq, .inl (cJ, 256, .inr (.inl q2)))]) := by
  refine tx_ofW (cc := b_M_index) (maxL := 4) (ret := (some .long)) (by decide) rfl ?_
  intro p e s m args below meth c s₁ B hml hT hv
  obtain ⟨rfl, hsz, hP, hD0, hx0⟩ := hv
  have hx := B.exec
  have hb := B.bytes
  have hr := B.returns
  have G := E.2.1
  have hown : s.vm.findClass cn_M = some m.cls := findClass_of_methodNamed B.named
  have hlocks := B.notSynchronized
  have hK := va_K.moved hx0.1.alike E.2.2.1
  have hf_M : ∀ w99 ∈ u_ws cn_M ft_M 19, w99.before ([.ref m0] : List Value).toArray s = true := fun w99 h99 => gw.at G hx0 (fw_M w99 h99) (fo_M w99 h99) _
  subst hsz
  have hA0 := cx_new hD0 hx0.2.1
  have hD := hD0.self (sz := s.heap.size)
  generalize hAe : va_A [(m0, .inr (7, [.int th, .int (nI zs), .int rn, .ref rw, .int kn, .int rk, .int y1, .ref ry, .int (nI sp), .int lg, .ref ti, .int fo, .int pt, .ref po, .ref su, .ref sq, .ref ch, .ref vt, .ref sh])), (ry, .inl (cI, 256, .inl yf)), (ch, .inl (cI, 8, .inl (nf ck))), (sq, .inl (cJ, 256, .inr (.inl qf)))] s.heap.size = A at hD hA0 ⊢
  have hA : ∀ q : Nat, s.heap.size ≤ q → A q := fun q h => by rw [← hAe]; exact Or.inr h
  have hS : va_S A s.heap s.heap [] := va_S.rf
  have hl := lv_entry ([.ref m0]) (n := 4) (Nat.le_of_ble_eq_true rfl)
  rw [lg_entry_eq]
  generalize (lg_sl ([.ref m0]) ++ List.replicate (4 - (lg_sl ([.ref m0])).length) Slot.unset).toArray = ls at hl ⊢
  have hl : lv_has ls 4 [(0, .ref m0)] := hl
  have hP : va_P D kl [(m0, .inr (7, [.int th, .int (nI zs), .int rn, .ref rw, .int kn, .int rk, .int y1, .ref ry, .int (nI sp), .int lg, .ref ti, .int fo, .int pt, .ref po, .ref su, .ref sq, .ref ch, .ref vt, .ref sh])), (ry, .inl (cI, 256, .inl yf)), (ch, .inl (cI, 8, .inl (nf ck))), (sq, .inl (cJ, 256, .inr (.inl qf)))] s.heap := hP
  have hml : c.maxLocals = 4 := hml
  have h2z : 2 ^ zs ≤ 2 ^ 4 := Nat.pow_le_pow_right (by decide) hz4
  generalize hQe : tx_Z below (cx_Q D kl A (fun o9 _ w9 => ∃ (v : Int64) (q2 : Nat → Int64), o9 = .returned (some (.long v)) ∧ ixf yf ck sp zs 16 (0, qf) = (v, q2) ∧ w9 = [(m0, .inr (7, [.int th, .int (nI zs), .int rn, .ref rw, .int kn, .int rk, .int y1, .ref ry, .int (nI sp), .int lg, .ref ti, .int fo, .int pt, .ref po, .ref su, .ref sq, .ref ch, .ref vt, .ref sh])), (ry, .inl (cI, 256, .inl yf)), (ch, .inl (cI, 8, .inl (nf ck))), (sq, .inl (cJ, 256, .inr (.inl q2)))])) ([.ref m0] : List Value).toArray s 0 0 A = Q
  refine lv_lconst (v := (0 : Int64)) hx hb d_M_index_0 (by decide) ?_
  refine lv_lstore_n (lv' := [(1, .long (0 : Int64)), (0, .ref m0)]) hx hb d_M_index_1 rfl hl (by decide) rfl (fun ls hl => ?_)
  refine lv_iconst (v := (0 : Int32)) hx hb d_M_index_2 (by decide) ?_
  refine lv_istore_n (lv' := [(3, .int (0 : Int32)), (1, .long (0 : Int64)), (0, .ref m0)]) hx hb d_M_index_3 rfl hl (by decide) rfl (fun ls hl => ?_)
  have lp_4 : ∀ (n9 : Nat) (k : Nat) (g : Int64) (f1 : Nat → Int64) (ls : Array Slot) (H : Heap) (locs : List Loc), 16 - k = n9 → (ixf yf ck sp zs k (0, qf) = (g, f1)) → (k ≤ 16) → lv_has ls 4 [(3, .int (nI k)), (1, .long g), (0, .ref m0)] → va_P D kl [(m0, .inr (7, [.int th, .int (nI zs), .int rn, .ref rw, .int kn, .int rk, .int y1, .ref ry, .int (nI sp), .int lg, .ref ti, .int fo, .int pt, .ref po, .ref su, .ref sq, .ref ch, .ref vt, .ref sh])), (ry, .inl (cI, 256, .inl yf)), (ch, .inl (cI, 8, .inl (nf ck))), (sq, .inl (cJ, 256, .inr (.inl f1)))] H → va_D A [(m0, .inr (7, [.int th, .int (nI zs), .int rn, .ref rw, .int kn, .int rk, .int y1, .ref ry, .int (nI sp), .int lg, .ref ti, .int fo, .int pt, .ref po, .ref su, .ref sq, .ref ch, .ref vt, .ref sh])), (ry, .inl (cI, 256, .inl yf)), (ch, .inl (cI, 8, .inl (nf ck))), (sq, .inl (cJ, 256, .inr (.inl f1)))] → va_S A s.heap H locs → W p l e ({ frames := 2, cells := 0, slots := 0, locals := 54 } : Room) s m ([.ref m0] : List Value).toArray below meth c H locs 0 0 Q (F0 m 4 ls []) := by
    intro n9
    induction n9 using Nat.strongRecOn with
    | ind n9 ih_4 =>
      intro k g f1 ls H locs hm_4 hix hk9 hl hP hD hS
      refine lv_iload_n hx hb d_M_index_4 rfl (lv_at hl 0 rfl) ?_
      refine lv_bipush (v := (16 : Int32)) hx hb d_M_index_5 (by decide) ?_
      refine lv_icmp_ge (tgt := 51) hx hb d_M_index_7 (by decide) (fun h_1 => ?_) (fun h_1 => ?_)
      · have h_1 : 16 ≤ k := (nI_leI (a := 16) (b := k) (by omega) (by omega)).mp h_1
        refine lv_lload_n hx hb d_M_index_51 rfl (lv_at hl 1 rfl) ?_
        rw [← hQe]
        exact tx_mono (fun _ h => tx_Z.of h) (W.lret (v := g) hx hb hr (fun t ht hW => ⟨⟨[(m0, .inr (7, [.int th, .int (nI zs), .int rn, .ref rw, .int kn, .int rk, .int y1, .ref ry, .int (nI sp), .int lg, .ref ti, .int fo, .int pt, .ref po, .ref su, .ref sq, .ref ch, .ref vt, .ref sh])), (ry, .inl (cI, 256, .inl yf)), (ch, .inl (cI, 8, .inl (nf ck))), (sq, .inl (cJ, 256, .inr (.inl f1)))], ⟨g, f1, rfl, (by rw [show 16 = k by omega]; exact hix), rfl⟩, by rw [ht]; exact hP.sub [0, 1, 2, 3] rfl, hD.sub [0, 1, 2, 3] (by decide) rfl⟩, hS.F ht⟩) hS.2.2 d_M_index_52)
      · have h_1 : ¬ (16 ≤ k) := fun z99 => h_1 ((nI_leI (a := 16) (b := k) (by omega) (by omega)).mpr z99)
        refine lv_iload_n hx hb d_M_index_10 rfl (lv_at hl 0 rfl) ?_
        refine cx_call (D := D) (cl := kl) (ws := _) (wc := []) (wr := [(m0, .inr (7, [.int th, .int (nI zs), .int rn, .ref rw, .int kn, .int rk, .int y1, .ref ry, .int (nI sp), .int lg, .ref ti, .int fo, .int pt, .ref po, .ref su, .ref sq, .ref ch, .ref vt, .ref sh])), (ry, .inl (cI, 256, .inl yf)), (ch, .inl (cI, 8, .inl (nf ck))), (sq, .inl (cJ, 256, .inr (.inl f1)))]) (tx_runS (As := [.int (nI k)]) (rest := []) hx hb hml hown (c_M_many E H.size k (by omega)) (cx_C (b0 := b0) G hx0 mw_820 mw_9 ny_M_many (by decide)) (gw.at G hx0 mw_818 rfl _) (gw.at G hx0 mw_819 rfl _) (gw.at G hx0 mw_9 rfl _) ⟨cx_blind, (cx_pre (s := s) hx0 hP hD hS hA0 [] rfl rfl (by decide))⟩ rfl rfl hl.1 rfl (lv_room (Nat.le_of_ble_eq_true rfl)) d_M_index_11 ⟨by decide, by decide⟩) hP hD hS hA [] [0, 1, 2, 3] rfl rfl (by decide) (by decide) (fun v t w1 H locs ht hW9 hp hP hD hS => ?_) (fun x t w1 H locs ht hW9 hp hP hD hS => by obtain ⟨h9, -⟩ := hp; cases h9)
        obtain ⟨h9, f_2, rfl⟩ := hp
        cases h9
        refine W.eq (g2 := F0 m 14 ls [.int (nI (mny k 16))]) rfl ?_
        refine W.widen (k := 0) (n := 0) (by decide) (by decide) ?_
        have hP : va_P D kl [(m0, .inr (7, [.int th, .int (nI zs), .int rn, .ref rw, .int kn, .int rk, .int y1, .ref ry, .int (nI sp), .int lg, .ref ti, .int fo, .int pt, .ref po, .ref su, .ref sq, .ref ch, .ref vt, .ref sh])), (ry, .inl (cI, 256, .inl yf)), (ch, .inl (cI, 8, .inl (nf ck))), (sq, .inl (cJ, 256, .inr (.inl f1)))] H := hP
        have hD : va_D A [(m0, .inr (7, [.int th, .int (nI zs), .int rn, .ref rw, .int kn, .int rk, .int y1, .ref ry, .int (nI sp), .int lg, .ref ti, .int fo, .int pt, .ref po, .ref su, .ref sq, .ref ch, .ref vt, .ref sh])), (ry, .inl (cI, 256, .inl yf)), (ch, .inl (cI, 8, .inl (nf ck))), (sq, .inl (cJ, 256, .inr (.inl f1)))] := hD
        refine lv_aload_n hx hb d_M_index_14 rfl (lv_at hl 2 rfl) ?_
        refine va_get (D := D) (ci := 7) (v := .int (nI sp)) (C := cn_M) (T := ft_M) (N := 19) hx hb hf_M (fun _ h => h) hown hK hP 0 rfl rfl 8 (by decide) (gw.at G hx0 mw_721 rfl _) (fun _ h9 => h9) rfl d_M_index_15 ?_
        refine lv_icmp_ne (tgt := 45) hx hb d_M_index_18 (by decide) (fun h_3 => ?_) (fun h_3 => ?_)
        · have h_3 : ¬ ((mny k 16) = sp) := fun z99 => h_3 ((nI_eq (a := mny k 16) (b := sp) (by omega) (by omega)).mpr z99)
          refine lv_iinc (lv' := [(3, .int (nI (k + 1))), (1, .long g), (0, .ref m0)]) (k := 0) (v := nI (k + 1)) hx hb d_M_index_45 hl rfl (nI_add k 1) (by decide) rfl (fun ls hl => ?_)
          refine lv_goto (tgt := 4) hx hb d_M_index_48 (by decide) ?_
          exact ih_4 _ (by omega) (k + 1) g f1 ls H locs rfl (ixf_n hix (fun z9 => absurd z9.1 h_3)) (by omega) (lv_sub hl [0, 1, 2] rfl) (hP.sub [0, 1, 2, 3] rfl) (hD.sub [0, 1, 2, 3] (by decide) rfl) hS
        · have h_3 : (mny k 16) = sp := (nI_eq (a := mny k 16) (b := sp) (by omega) (by omega)).mp h_3
          refine lv_iload_n hx hb d_M_index_21 rfl (lv_at hl 0 rfl) ?_
          refine lv_iconst (v := (1 : Int32)) hx hb d_M_index_22 (by decide) ?_
          refine lv_aload_n hx hb d_M_index_23 rfl (lv_at hl 2 rfl) ?_
          refine va_get (D := D) (ci := 7) (v := .int (nI zs)) (C := cn_M) (T := ft_M) (N := 19) hx hb hf_M (fun _ h => h) hown hK hP 0 rfl rfl 1 (by decide) (gw.at G hx0 mw_714 rfl _) (fun _ h9 => h9) rfl d_M_index_24 ?_
          refine lv_ishl hx hb d_M_index_27 ?_
          refine tp_i (y := nI (2 ^ zs)) (nI_shl (k := zs) (by omega)) ?_
          refine lv_icmp_ge (tgt := 45) hx hb d_M_index_28 (by decide) (fun h_4 => ?_) (fun h_4 => ?_)
          · have h_4 : (2 ^ zs) ≤ k := (nI_leI (a := 2 ^ zs) (b := k) (by omega) (by omega)).mp h_4
            refine lv_iinc (lv' := [(3, .int (nI (k + 1))), (1, .long g), (0, .ref m0)]) (k := 0) (v := nI (k + 1)) hx hb d_M_index_45 hl rfl (nI_add k 1) (by decide) rfl (fun ls hl => ?_)
            refine lv_goto (tgt := 4) hx hb d_M_index_48 (by decide) ?_
            exact ih_4 _ (by omega) (k + 1) g f1 ls H locs rfl (ixf_n hix (fun z9 => absurd z9.2 (by omega))) (by omega) (lv_sub hl [0, 1, 2] rfl) (hP.sub [0, 1, 2, 3] rfl) (hD.sub [0, 1, 2, 3] (by decide) rfl) hS
          · have h_4 : ¬ ((2 ^ zs) ≤ k) := fun z99 => h_4 ((nI_leI (a := 2 ^ zs) (b := k) (by omega) (by omega)).mpr z99)
            refine lv_lload_n hx hb d_M_index_31 rfl (lv_at hl 1 rfl) ?_
            refine lv_aload_n hx hb d_M_index_32 rfl (lv_at hl 2 rfl) ?_
            refine lv_aload_n hx hb d_M_index_33 rfl (lv_at hl 2 rfl) ?_
            refine va_get (D := D) (ci := 7) (v := .int (nI sp)) (C := cn_M) (T := ft_M) (N := 19) hx hb hf_M (fun _ h => h) hown hK hP 0 rfl rfl 8 (by decide) (gw.at G hx0 mw_721 rfl _) (fun _ h9 => h9) rfl d_M_index_34 ?_
            refine lv_iload_n hx hb d_M_index_37 rfl (lv_at hl 0 rfl) ?_
            refine cx_call (D := D) (cl := kl) (ws := _) (wc := [(m0, .inr (7, [.int th, .int (nI zs), .int rn, .ref rw, .int kn, .int rk, .int y1, .ref ry, .int (nI sp), .int lg, .ref ti, .int fo, .int pt, .ref po, .ref su, .ref sq, .ref ch, .ref vt, .ref sh])), (ry, .inl (cI, 256, .inl yf)), (ch, .inl (cI, 8, .inl (nf ck))), (sq, .inl (cJ, 256, .inr (.inl f1)))]) (wr := []) (tx_runV (C := cn_M) (b := m0) (As := [.int (nI sp), .int (nI k)]) (rest := [.long g]) hx hb hml hown (c_M_det E H.size m0 rw ry ti po su sq ch vt sh th (nI zs) rn kn rk y1 (nI sp) lg fo pt yf ck f1 sp k hs4 hck (by omega)) (cx_C (b0 := b0) G hx0 mw_868 mw_9 ny_M_determinant (by decide)) (gw.at G hx0 mw_865 rfl _) (gw.at G hx0 mw_867 rfl _) (gw.at G hx0 ms_M_determinant rfl _) ⟨cx_blind, va_recv hK hP (q0 := 0) (ci := 7) (q := (cn_M, ft_M, 19)) rfl rfl, (cx_pre (s := s) hx0 hP hD hS hA0 [0, 1, 2, 3] rfl rfl (by decide))⟩ rfl rfl hl.1 rfl (lv_room (Nat.le_of_ble_eq_true rfl)) d_M_index_38 ⟨by decide, by decide⟩) hP hD hS hA [0, 1, 2, 3] [] rfl rfl (by decide) (by decide) (fun v t w1 H locs ht hW9 hp hP hD hS => ?_) (fun x t w1 H locs ht hW9 hp hP hD hS => by obtain ⟨_, _, h9, -⟩ := hp; cases h9)
            obtain ⟨v_5, q2_6, h9, f_7, rfl⟩ := hp
            cases h9
            refine W.eq (g2 := F0 m 41 ls [.long v_5, .long g]) rfl ?_
            refine W.widen (k := 0) (n := 0) (by decide) (by decide) ?_
            have hP : va_P D kl [(m0, .inr (7, [.int th, .int (nI zs), .int rn, .ref rw, .int kn, .int rk, .int y1, .ref ry, .int (nI sp), .int lg, .ref ti, .int fo, .int pt, .ref po, .ref su, .ref sq, .ref ch, .ref vt, .ref sh])), (ry, .inl (cI, 256, .inl yf)), (ch, .inl (cI, 8, .inl (nf ck))), (sq, .inl (cJ, 256, .inr (.inl q2_6)))] H := hP
            have hD : va_D A [(m0, .inr (7, [.int th, .int (nI zs), .int rn, .ref rw, .int kn, .int rk, .int y1, .ref ry, .int (nI sp), .int lg, .ref ti, .int fo, .int pt, .ref po, .ref su, .ref sq, .ref ch, .ref vt, .ref sh])), (ry, .inl (cI, 256, .inl yf)), (ch, .inl (cI, 8, .inl (nf ck))), (sq, .inl (cJ, 256, .inr (.inl q2_6)))] := hD
            refine cx_call (D := D) (cl := kl) (ws := _) (wc := []) (wr := [(m0, .inr (7, [.int th, .int (nI zs), .int rn, .ref rw, .int kn, .int rk, .int y1, .ref ry, .int (nI sp), .int lg, .ref ti, .int fo, .int pt, .ref po, .ref su, .ref sq, .ref ch, .ref vt, .ref sh])), (ry, .inl (cI, 256, .inl yf)), (ch, .inl (cI, 8, .inl (nf ck))), (sq, .inl (cJ, 256, .inr (.inl q2_6)))]) (tx_runS (As := [.long g, .long v_5]) (rest := []) hx hb hml hown (c_M_gcd E H.size g v_5 ) (cx_C (b0 := b0) G hx0 mw_817 mw_9 ny_M_gcd (by decide)) (gw.at G hx0 mw_815 rfl _) (gw.at G hx0 mw_816 rfl _) (gw.at G hx0 mw_9 rfl _) ⟨cx_blind, (cx_pre (s := s) hx0 hP hD hS hA0 [] rfl rfl (by decide))⟩ rfl rfl hl.1 rfl (lv_room (Nat.le_of_ble_eq_true rfl)) d_M_index_41 ⟨by decide, by decide⟩) hP hD hS hA [] [0, 1, 2, 3] rfl rfl (by decide) (by decide) (fun v t w1 H locs ht hW9 hp hP hD hS => ?_) (fun x t w1 H locs ht hW9 hp hP hD hS => by obtain ⟨h9, -⟩ := hp; cases h9)
            obtain ⟨h9, rfl⟩ := hp
            cases h9
            refine W.eq (g2 := F0 m 44 ls [.long (gcv g v_5)]) rfl ?_
            refine W.widen (k := 0) (n := 0) (by decide) (by decide) ?_
            have hP : va_P D kl [(m0, .inr (7, [.int th, .int (nI zs), .int rn, .ref rw, .int kn, .int rk, .int y1, .ref ry, .int (nI sp), .int lg, .ref ti, .int fo, .int pt, .ref po, .ref su, .ref sq, .ref ch, .ref vt, .ref sh])), (ry, .inl (cI, 256, .inl yf)), (ch, .inl (cI, 8, .inl (nf ck))), (sq, .inl (cJ, 256, .inr (.inl q2_6)))] H := hP
            have hD : va_D A [(m0, .inr (7, [.int th, .int (nI zs), .int rn, .ref rw, .int kn, .int rk, .int y1, .ref ry, .int (nI sp), .int lg, .ref ti, .int fo, .int pt, .ref po, .ref su, .ref sq, .ref ch, .ref vt, .ref sh])), (ry, .inl (cI, 256, .inl yf)), (ch, .inl (cI, 8, .inl (nf ck))), (sq, .inl (cJ, 256, .inr (.inl q2_6)))] := hD
            refine lv_lstore_n (lv' := [(1, .long (gcv g v_5)), (3, .int (nI k)), (0, .ref m0)]) hx hb d_M_index_44 rfl hl (by decide) rfl (fun ls hl => ?_)
            refine lv_iinc (lv' := [(3, .int (nI (k + 1))), (1, .long (gcv g v_5)), (0, .ref m0)]) (k := 1) (v := nI (k + 1)) hx hb d_M_index_45 hl rfl (nI_add k 1) (by decide) rfl (fun ls hl => ?_)
            refine lv_goto (tgt := 4) hx hb d_M_index_48 (by decide) ?_
            exact ih_4 _ (by omega) (k + 1) (gcv g v_5) q2_6 ls H locs rfl (ixf_y hix h_3 (by omega) f_7) (by omega) (lv_sub hl [0, 1, 2] rfl) (hP.sub [0, 1, 2, 3] rfl) (hD.sub [0, 1, 2, 3] (by decide) rfl) hS
  exact lp_4 _ 0 0 qf ls s.heap [] rfl rfl (Nat.zero_le _) (lv_sub hl [0, 1, 2] rfl) (hP.sub [0, 1, 2, 3] rfl) (hD.sub [0, 1, 2, 3] (by decide) rfl) hS

set_option maxHeartbeats 4000000 in
set_option maxRecDepth 100000 in
theorem c_M_indexed {l : Launch} {s0 : State} {b0 : Addr} {D : va_G} {cI cJ cZ : ClassId} {tC tS : Nat} (E : gE l s0 b0 D cI cJ cZ tC tS) (sz : Nat) (m0 : Nat) (rw : Nat) (ry : Nat) (ti : Nat) (po : Nat) (su : Nat) (sq : Nat) (ch : Nat) (vt : Nat) (sh : Nat) (th : Int32) (rn : Int32) (kn : Int32) (rk : Int32) (lg : Int32) (fo : Int32) (pt : Int32) (zs : Nat) (sp : Nat) (yn : Nat) (yf : Nat → Int32) (ck : Nat → Nat) (qf : Nat → Int64) (hz4 : zs ≤ 4) (hs4 : sp ≤ 4) (hyn : yn ≤ 8) (hck : ∀ j, ck j < 8) : cx_M l s0 D kl y_M_indexed b_M_indexed 6 (some .long) ({ frames := 3, cells := 0, slots := 0, locals := 77 } : Room) 0 0 [.ref m0] [(m0, .inr (7, [.int th, .int (nI zs), .int rn, .ref rw, .int kn, .int rk, .int (nI yn), .ref ry, .int (nI sp), .int lg, .ref ti, .int fo, .int pt, .ref po, .ref su, .ref sq, .ref ch, .ref vt, .ref sh])), (ry, .inl (cI, 256, .inl yf)), (ch, .inl (cI, 8, .inl (nf ck))), (sq, .inl (cJ, 256, .inr (.inl qf)))] sz (fun o9 _ w9 => ∃ (v : Int64) (c9 : Nat → Nat) (q9 : Nat → Int64), o9 = .returned (some (.long v)) ∧ ixd yf yn sp zs (2 ^ yn - 1) (0, ck, qf) = (v, c9, q9) ∧ (∀ j, c9 j < 8) ∧ w9 = [(m0, .inr (7, [.int th, .int (nI zs), .int rn, .ref rw, .int kn, .int rk, .int (nI yn), .ref ry, .int (nI sp), .int lg, .ref ti, .int fo, .int pt, .ref po, .ref su, .ref sq, .ref ch, .ref vt, .ref sh])), (ry, .inl (cI, 256, .inl yf)), (ch, .inl (cI, 8, .inl (nf c9))), (sq, .inl (cJ, 256, .inr (.inl q9)))]) := by
  refine tx_ofW (cc := b_M_indexed) (maxL := 6) (ret := (some .long)) (by decide) rfl ?_
  intro p e s m args below meth c s₁ B hml hT hv
  obtain ⟨rfl, hsz, hP, hD0, hx0⟩ := hv
  have hx := B.exec
  have hb := B.bytes
  have hr := B.returns
  have G := E.2.1
  have hown : s.vm.findClass cn_M = some m.cls := findClass_of_methodNamed B.named
  have hlocks := B.notSynchronized
  have hK := va_K.moved hx0.1.alike E.2.2.1
  have hf_M : ∀ w99 ∈ u_ws cn_M ft_M 19, w99.before ([.ref m0] : List Value).toArray s = true := fun w99 h99 => gw.at G hx0 (fw_M w99 h99) (fo_M w99 h99) _
  subst hsz
  have hA0 := cx_new hD0 hx0.2.1
  have hD := hD0.self (sz := s.heap.size)
  generalize hAe : va_A [(m0, .inr (7, [.int th, .int (nI zs), .int rn, .ref rw, .int kn, .int rk, .int (nI yn), .ref ry, .int (nI sp), .int lg, .ref ti, .int fo, .int pt, .ref po, .ref su, .ref sq, .ref ch, .ref vt, .ref sh])), (ry, .inl (cI, 256, .inl yf)), (ch, .inl (cI, 8, .inl (nf ck))), (sq, .inl (cJ, 256, .inr (.inl qf)))] s.heap.size = A at hD hA0 ⊢
  have hA : ∀ q : Nat, s.heap.size ≤ q → A q := fun q h => by rw [← hAe]; exact Or.inr h
  have hS : va_S A s.heap s.heap [] := va_S.rf
  have hl := lv_entry ([.ref m0]) (n := 6) (Nat.le_of_ble_eq_true rfl)
  rw [lg_entry_eq]
  generalize (lg_sl ([.ref m0]) ++ List.replicate (6 - (lg_sl ([.ref m0])).length) Slot.unset).toArray = ls at hl ⊢
  have hl : lv_has ls 6 [(0, .ref m0)] := hl
  have hP : va_P D kl [(m0, .inr (7, [.int th, .int (nI zs), .int rn, .ref rw, .int kn, .int rk, .int (nI yn), .ref ry, .int (nI sp), .int lg, .ref ti, .int fo, .int pt, .ref po, .ref su, .ref sq, .ref ch, .ref vt, .ref sh])), (ry, .inl (cI, 256, .inl yf)), (ch, .inl (cI, 8, .inl (nf ck))), (sq, .inl (cJ, 256, .inr (.inl qf)))] s.heap := hP
  have hml : c.maxLocals = 6 := hml
  have h2n : 2 ^ yn ≤ 2 ^ 8 := Nat.pow_le_pow_right (by decide) hyn
  generalize hQe : tx_Z below (cx_Q D kl A (fun o9 _ w9 => ∃ (v : Int64) (c9 : Nat → Nat) (q9 : Nat → Int64), o9 = .returned (some (.long v)) ∧ ixd yf yn sp zs (2 ^ yn - 1) (0, ck, qf) = (v, c9, q9) ∧ (∀ j, c9 j < 8) ∧ w9 = [(m0, .inr (7, [.int th, .int (nI zs), .int rn, .ref rw, .int kn, .int rk, .int (nI yn), .ref ry, .int (nI sp), .int lg, .ref ti, .int fo, .int pt, .ref po, .ref su, .ref sq, .ref ch, .ref vt, .ref sh])), (ry, .inl (cI, 256, .inl yf)), (ch, .inl (cI, 8, .inl (nf c9))), (sq, .inl (cJ, 256, .inr (.inl q9)))])) ([.ref m0] : List Value).toArray s 0 0 A = Q
  refine lv_lconst (v := (0 : Int64)) hx hb d_M_indexed_0 (by decide) ?_
  refine lv_lstore_n (lv' := [(1, .long (0 : Int64)), (0, .ref m0)]) hx hb d_M_indexed_1 rfl hl (by decide) rfl (fun ls hl => ?_)
  refine lv_iconst (v := (1 : Int32)) hx hb d_M_indexed_2 (by decide) ?_
  refine lv_istore_n (lv' := [(3, .int (1 : Int32)), (1, .long (0 : Int64)), (0, .ref m0)]) hx hb d_M_indexed_3 rfl hl (by decide) rfl (fun ls hl => ?_)
  have lp_4 : ∀ (n9 : Nat) (m2 : Nat) (g : Int64) (d1 : Nat → Nat) (f1 : Nat → Int64) (ls : Array Slot) (H : Heap) (locs : List Loc), 2 ^ yn - (1 + m2) = n9 → (ixd yf yn sp zs m2 (0, ck, qf) = (g, d1, f1)) → (m2 ≤ 2 ^ yn - 1) → (∀ j, d1 j < 8) → lv_has ls 6 [(3, .int (nI (1 + m2))), (1, .long g), (0, .ref m0)] → va_P D kl [(m0, .inr (7, [.int th, .int (nI zs), .int rn, .ref rw, .int kn, .int rk, .int (nI yn), .ref ry, .int (nI sp), .int lg, .ref ti, .int fo, .int pt, .ref po, .ref su, .ref sq, .ref ch, .ref vt, .ref sh])), (ry, .inl (cI, 256, .inl yf)), (ch, .inl (cI, 8, .inl (nf d1))), (sq, .inl (cJ, 256, .inr (.inl f1)))] H → va_D A [(m0, .inr (7, [.int th, .int (nI zs), .int rn, .ref rw, .int kn, .int rk, .int (nI yn), .ref ry, .int (nI sp), .int lg, .ref ti, .int fo, .int pt, .ref po, .ref su, .ref sq, .ref ch, .ref vt, .ref sh])), (ry, .inl (cI, 256, .inl yf)), (ch, .inl (cI, 8, .inl (nf d1))), (sq, .inl (cJ, 256, .inr (.inl f1)))] → va_S A s.heap H locs → W p l e ({ frames := 3, cells := 0, slots := 0, locals := 77 } : Room) s m ([.ref m0] : List Value).toArray below meth c H locs 0 0 Q (F0 m 4 ls []) := by
    intro n9
    induction n9 using Nat.strongRecOn with
    | ind n9 ih_4 =>
      intro m2 g d1 f1 ls H locs hm_4 hxd hm9 hd1 hl hP hD hS
      refine lv_iload_n hx hb d_M_indexed_4 rfl (lv_at hl 0 rfl) ?_
      refine lv_iconst (v := (1 : Int32)) hx hb d_M_indexed_5 (by decide) ?_
      refine lv_aload_n hx hb d_M_indexed_6 rfl (lv_at hl 2 rfl) ?_
      refine va_get (D := D) (ci := 7) (v := .int (nI yn)) (C := cn_M) (T := ft_M) (N := 19) hx hb hf_M (fun _ h => h) hown hK hP 0 rfl rfl 6 (by decide) (gw.at G hx0 mw_719 rfl _) (fun _ h9 => h9) rfl d_M_indexed_7 ?_
      refine lv_ishl hx hb d_M_indexed_10 ?_
      refine tp_i (y := nI (2 ^ yn)) (nI_shl (k := yn) (by omega)) ?_
      refine lv_icmp_ge (tgt := 56) hx hb d_M_indexed_11 (by decide) (fun h_1 => ?_) (fun h_1 => ?_)
      · have h_1 : (2 ^ yn) ≤ (1 + m2) := (nI_leI (a := 2 ^ yn) (b := 1 + m2) (by omega) (by omega)).mp h_1
        refine lv_lload_n hx hb d_M_indexed_56 rfl (lv_at hl 1 rfl) ?_
        rw [← hQe]
        exact tx_mono (fun _ h => tx_Z.of h) (W.lret (v := g) hx hb hr (fun t ht hW => ⟨⟨[(m0, .inr (7, [.int th, .int (nI zs), .int rn, .ref rw, .int kn, .int rk, .int (nI yn), .ref ry, .int (nI sp), .int lg, .ref ti, .int fo, .int pt, .ref po, .ref su, .ref sq, .ref ch, .ref vt, .ref sh])), (ry, .inl (cI, 256, .inl yf)), (ch, .inl (cI, 8, .inl (nf d1))), (sq, .inl (cJ, 256, .inr (.inl f1)))], ⟨g, d1, f1, rfl, (by rw [show 2 ^ yn - 1 = m2 by omega]; exact hxd), hd1, rfl⟩, by rw [ht]; exact hP.sub [0, 1, 2, 3] rfl, hD.sub [0, 1, 2, 3] (by decide) rfl⟩, hS.F ht⟩) hS.2.2 d_M_indexed_57)
      · have h_1 : ¬ ((2 ^ yn) ≤ (1 + m2)) := fun z99 => h_1 ((nI_leI (a := 2 ^ yn) (b := 1 + m2) (by omega) (by omega)).mpr z99)
        refine lv_iload_n hx hb d_M_indexed_14 rfl (lv_at hl 0 rfl) ?_
        refine cx_call (D := D) (cl := kl) (ws := _) (wc := []) (wr := [(m0, .inr (7, [.int th, .int (nI zs), .int rn, .ref rw, .int kn, .int rk, .int (nI yn), .ref ry, .int (nI sp), .int lg, .ref ti, .int fo, .int pt, .ref po, .ref su, .ref sq, .ref ch, .ref vt, .ref sh])), (ry, .inl (cI, 256, .inl yf)), (ch, .inl (cI, 8, .inl (nf d1))), (sq, .inl (cJ, 256, .inr (.inl f1)))]) (tx_runS (As := [.int (nI (1 + m2))]) (rest := []) hx hb hml hown (c_M_many E H.size (1 + m2) (by omega)) (cx_C (b0 := b0) G hx0 mw_820 mw_9 ny_M_many (by decide)) (gw.at G hx0 mw_818 rfl _) (gw.at G hx0 mw_819 rfl _) (gw.at G hx0 mw_9 rfl _) ⟨cx_blind, (cx_pre (s := s) hx0 hP hD hS hA0 [] rfl rfl (by decide))⟩ rfl rfl hl.1 rfl (lv_room (Nat.le_of_ble_eq_true rfl)) d_M_indexed_15 ⟨by decide, by decide⟩) hP hD hS hA [] [0, 1, 2, 3] rfl rfl (by decide) (by decide) (fun v t w1 H locs ht hW9 hp hP hD hS => ?_) (fun x t w1 H locs ht hW9 hp hP hD hS => by obtain ⟨h9, -⟩ := hp; cases h9)
        obtain ⟨h9, f_2, rfl⟩ := hp
        cases h9
        refine W.eq (g2 := F0 m 18 ls [.int (nI (mny (1 + m2) 16))]) rfl ?_
        refine W.widen (k := 0) (n := 0) (by decide) (by decide) ?_
        have hP : va_P D kl [(m0, .inr (7, [.int th, .int (nI zs), .int rn, .ref rw, .int kn, .int rk, .int (nI yn), .ref ry, .int (nI sp), .int lg, .ref ti, .int fo, .int pt, .ref po, .ref su, .ref sq, .ref ch, .ref vt, .ref sh])), (ry, .inl (cI, 256, .inl yf)), (ch, .inl (cI, 8, .inl (nf d1))), (sq, .inl (cJ, 256, .inr (.inl f1)))] H := hP
        have hD : va_D A [(m0, .inr (7, [.int th, .int (nI zs), .int rn, .ref rw, .int kn, .int rk, .int (nI yn), .ref ry, .int (nI sp), .int lg, .ref ti, .int fo, .int pt, .ref po, .ref su, .ref sq, .ref ch, .ref vt, .ref sh])), (ry, .inl (cI, 256, .inl yf)), (ch, .inl (cI, 8, .inl (nf d1))), (sq, .inl (cJ, 256, .inr (.inl f1)))] := hD
        refine lv_aload_n hx hb d_M_indexed_18 rfl (lv_at hl 2 rfl) ?_
        refine va_get (D := D) (ci := 7) (v := .int (nI sp)) (C := cn_M) (T := ft_M) (N := 19) hx hb hf_M (fun _ h => h) hown hK hP 0 rfl rfl 8 (by decide) (gw.at G hx0 mw_721 rfl _) (fun _ h9 => h9) rfl d_M_indexed_19 ?_
        refine lv_icmp_ne (tgt := 50) hx hb d_M_indexed_22 (by decide) (fun h_3 => ?_) (fun h_3 => ?_)
        · have h_3 : ¬ ((mny (1 + m2) 16) = sp) := fun z99 => h_3 ((nI_eq (a := mny (1 + m2) 16) (b := sp) (by omega) (by omega)).mpr z99)
          refine lv_iinc (lv' := [(3, .int (nI ((1 + m2) + 1))), (1, .long g), (0, .ref m0)]) (k := 0) (v := nI ((1 + m2) + 1)) hx hb d_M_indexed_50 hl rfl (nI_add (1 + m2) 1) (by decide) rfl (fun ls hl => ?_)
          refine lv_goto (tgt := 4) hx hb d_M_indexed_53 (by decide) ?_
          exact ih_4 _ (by omega) (m2 + 1) g d1 f1 ls H locs rfl (ixd_n hxd h_3) (by omega) hd1 (lv_sub hl [0, 1, 2] rfl) (hP.sub [0, 1, 2, 3] rfl) (hD.sub [0, 1, 2, 3] (by decide) rfl) hS
        · have h_3 : (mny (1 + m2) 16) = sp := (nI_eq (a := mny (1 + m2) 16) (b := sp) (by omega) (by omega)).mp h_3
          refine lv_aload_n hx hb d_M_indexed_25 rfl (lv_at hl 2 rfl) ?_
          refine lv_iload_n hx hb d_M_indexed_26 rfl (lv_at hl 0 rfl) ?_
          refine cx_call (D := D) (cl := kl) (ws := _) (wc := [(m0, .inr (7, [.int th, .int (nI zs), .int rn, .ref rw, .int kn, .int rk, .int (nI yn), .ref ry, .int (nI sp), .int lg, .ref ti, .int fo, .int pt, .ref po, .ref su, .ref sq, .ref ch, .ref vt, .ref sh])), (ch, .inl (cI, 8, .inl (nf d1)))]) (wr := [(ry, .inl (cI, 256, .inl yf)), (sq, .inl (cJ, 256, .inr (.inl f1)))]) (tx_runV (C := cn_M) (b := m0) (As := [.int (nI (1 + m2))]) (rest := []) hx hb hml hown (c_M_choose E H.size m0 rw ry ti po su sq ch vt sh th (nI zs) rn kn rk (nI sp) lg fo pt yn d1 (1 + m2) hyn hd1 (by omega)) (cx_C (b0 := b0) G hx0 mw_860 mw_9 ny_M_choose (by decide)) (gw.at G hx0 mw_857 rfl _) (gw.at G hx0 mw_859 rfl _) (gw.at G hx0 ms_M_choose rfl _) ⟨cx_blind, va_recv hK hP (q0 := 0) (ci := 7) (q := (cn_M, ft_M, 19)) rfl rfl, (cx_pre (s := s) hx0 hP hD hS hA0 [0, 2] rfl rfl (by decide))⟩ rfl rfl hl.1 rfl (lv_room (Nat.le_of_ble_eq_true rfl)) d_M_indexed_27 ⟨by decide, by decide⟩) hP hD hS hA [0, 2] [1, 3] rfl rfl (by decide) (by decide) (fun v t w1 H locs ht hW9 hp hP hD hS => ?_) (fun x t w1 H locs ht hW9 hp hP hD hS => by obtain ⟨_, _, h9, -⟩ := hp; cases h9)
          obtain ⟨n2_4, c2_5, h9, f_6, f_7, rfl⟩ := hp
          cases h9
          refine W.eq (g2 := F0 m 30 ls []) rfl ?_
          refine W.widen (k := 0) (n := 0) (by decide) (by decide) ?_
          have hP : va_P D kl [(ry, .inl (cI, 256, .inl yf)), (sq, .inl (cJ, 256, .inr (.inl f1))), (m0, .inr (7, [.int th, .int (nI zs), .int rn, .ref rw, .int kn, .int rk, .int (nI yn), .ref ry, .int (nI sp), .int lg, .ref ti, .int fo, .int pt, .ref po, .ref su, .ref sq, .ref ch, .ref vt, .ref sh])), (ch, .inl (cI, 8, .inl (nf c2_5)))] H := hP
          have hD : va_D A [(ry, .inl (cI, 256, .inl yf)), (sq, .inl (cJ, 256, .inr (.inl f1))), (m0, .inr (7, [.int th, .int (nI zs), .int rn, .ref rw, .int kn, .int rk, .int (nI yn), .ref ry, .int (nI sp), .int lg, .ref ti, .int fo, .int pt, .ref po, .ref su, .ref sq, .ref ch, .ref vt, .ref sh])), (ch, .inl (cI, 8, .inl (nf c2_5)))] := hD
          refine lv_aload_n hx hb d_M_indexed_30 rfl (lv_at hl 2 rfl) ?_
          refine cx_call (D := D) (cl := kl) (ws := _) (wc := [(m0, .inr (7, [.int th, .int (nI zs), .int rn, .ref rw, .int kn, .int rk, .int (nI yn), .ref ry, .int (nI sp), .int lg, .ref ti, .int fo, .int pt, .ref po, .ref su, .ref sq, .ref ch, .ref vt, .ref sh])), (ry, .inl (cI, 256, .inl yf)), (ch, .inl (cI, 8, .inl (nf c2_5))), (sq, .inl (cJ, 256, .inr (.inl f1)))]) (wr := []) (tx_runV (C := cn_M) (b := m0) (As := []) (rest := []) hx hb hml hown (c_M_index E H.size m0 rw ry ti po su sq ch vt sh th rn kn rk (nI yn) lg fo pt zs sp yf c2_5 f1 hz4 hs4 f_7) (cx_C (b0 := b0) G hx0 mw_864 mw_9 ny_M_index (by decide)) (gw.at G hx0 mw_861 rfl _) (gw.at G hx0 mw_863 rfl _) (gw.at G hx0 ms_M_index rfl _) ⟨cx_blind, va_recv hK hP (q0 := 2) (ci := 7) (q := (cn_M, ft_M, 19)) rfl rfl, (cx_pre (s := s) hx0 hP hD hS hA0 [2, 0, 3, 1] rfl rfl (by decide))⟩ rfl rfl hl.1 rfl (lv_room (Nat.le_of_ble_eq_true rfl)) d_M_indexed_31 ⟨by decide, by decide⟩) hP hD hS hA [2, 0, 3, 1] [] rfl rfl (by decide) (by decide) (fun v t w1 H locs ht hW9 hp hP hD hS => ?_) (fun x t w1 H locs ht hW9 hp hP hD hS => by obtain ⟨_, _, h9, -⟩ := hp; cases h9)
          obtain ⟨v_8, q2_9, h9, f_10, rfl⟩ := hp
          cases h9
          refine W.eq (g2 := F0 m 34 ls [.long v_8]) rfl ?_
          refine W.widen (k := 0) (n := 0) (by decide) (by decide) ?_
          have hP : va_P D kl [(m0, .inr (7, [.int th, .int (nI zs), .int rn, .ref rw, .int kn, .int rk, .int (nI yn), .ref ry, .int (nI sp), .int lg, .ref ti, .int fo, .int pt, .ref po, .ref su, .ref sq, .ref ch, .ref vt, .ref sh])), (ry, .inl (cI, 256, .inl yf)), (ch, .inl (cI, 8, .inl (nf c2_5))), (sq, .inl (cJ, 256, .inr (.inl q2_9)))] H := hP
          have hD : va_D A [(m0, .inr (7, [.int th, .int (nI zs), .int rn, .ref rw, .int kn, .int rk, .int (nI yn), .ref ry, .int (nI sp), .int lg, .ref ti, .int fo, .int pt, .ref po, .ref su, .ref sq, .ref ch, .ref vt, .ref sh])), (ry, .inl (cI, 256, .inl yf)), (ch, .inl (cI, 8, .inl (nf c2_5))), (sq, .inl (cJ, 256, .inr (.inl q2_9)))] := hD
          refine lv_lstore (lv' := [(4, .long v_8), (3, .int (nI (1 + m2))), (1, .long g), (0, .ref m0)]) hx hb d_M_indexed_34 hl (by decide) rfl (fun ls hl => ?_)
          refine lv_lload hx hb d_M_indexed_36 (lv_at hl 0 rfl) ?_
          refine lv_lload_n hx hb d_M_indexed_38 rfl (lv_at hl 2 rfl) ?_
          refine W.lcmp hx hb d_M_indexed_39 ?_
          refine lv_if_le (tgt := 48) hx hb d_M_indexed_40 (by decide) (fun h_11 => ?_) (fun h_11 => ?_)
          · refine lv_lload_n hx hb d_M_indexed_48 rfl (lv_at hl 2 rfl) ?_
            refine lv_lstore_n (lv' := [(1, .long g), (4, .long v_8), (3, .int (nI (1 + m2))), (0, .ref m0)]) hx hb d_M_indexed_49 rfl hl (by decide) rfl (fun ls hl => ?_)
            refine lv_iinc (lv' := [(3, .int (nI ((1 + m2) + 1))), (1, .long g), (4, .long v_8), (0, .ref m0)]) (k := 2) (v := nI ((1 + m2) + 1)) hx hb d_M_indexed_50 hl rfl (nI_add (1 + m2) 1) (by decide) rfl (fun ls hl => ?_)
            refine lv_goto (tgt := 4) hx hb d_M_indexed_53 (by decide) ?_
            exact ih_4 _ (by omega) (m2 + 1) g c2_5 q2_9 ls H locs rfl (by rw [ixd_y hxd h_3 f_6 f_10, if_neg (fun z9 => absurd h_11 (Int32.not_le.mpr ((lg_cmp_gt _ _).mpr z9)))]) (by omega) f_7 (lv_sub hl [0, 1, 3] rfl) (hP.sub [0, 1, 2, 3] rfl) (hD.sub [0, 1, 2, 3] (by decide) rfl) hS
          · refine lv_lload hx hb d_M_indexed_43 (lv_at hl 0 rfl) ?_
            refine lv_goto (tgt := 49) hx hb d_M_indexed_45 (by decide) ?_
            refine lv_lstore_n (lv' := [(1, .long v_8), (4, .long v_8), (3, .int (nI (1 + m2))), (0, .ref m0)]) hx hb d_M_indexed_49 rfl hl (by decide) rfl (fun ls hl => ?_)
            refine lv_iinc (lv' := [(3, .int (nI ((1 + m2) + 1))), (1, .long v_8), (4, .long v_8), (0, .ref m0)]) (k := 2) (v := nI ((1 + m2) + 1)) hx hb d_M_indexed_50 hl rfl (nI_add (1 + m2) 1) (by decide) rfl (fun ls hl => ?_)
            refine lv_goto (tgt := 4) hx hb d_M_indexed_53 (by decide) ?_
            exact ih_4 _ (by omega) (m2 + 1) v_8 c2_5 q2_9 ls H locs rfl (by rw [ixd_y hxd h_3 f_6 f_10, if_pos ((lg_cmp_gt _ _).mp (Int32.not_le.mp h_11))]) (by omega) f_7 (lv_sub hl [0, 1, 3] rfl) (hP.sub [0, 1, 2, 3] rfl) (hD.sub [0, 1, 2, 3] (by decide) rfl) hS
  exact lp_4 _ 0 0 ck qf ls s.heap [] rfl rfl (Nat.zero_le _) hck (lv_sub hl [0, 1, 2] rfl) (hP.sub [0, 1, 2, 3] rfl) (hD.sub [0, 1, 2, 3] (by decide) rfl) hS

