/-! ===== own rows, laid by wip/tools/g42.py: the reference, box ===== -/
def kqP (n : Nat) (f g : Nat → Int32) : Prop := n = 1000 ∨ kyP n f g
noncomputable def kqN (n : Nat) (f g : Nat → Int32) : Nat := @ite _ (kqP n f g) (Classical.propDecidable _) n (n + 1)
noncomputable def kqF (n : Nat) (f g : Nat → Int32) : Nat → Int32 := @ite _ (kqP n f g) (Classical.propDecidable _) f (kpF n (kpl f g n 0) f g)
theorem kqN_y {n : Nat} {f g : Nat → Int32} (h : kqP n f g) : kqN n f g = n := @if_pos _ (Classical.propDecidable _) h _ _ _
theorem kqN_n {n : Nat} {f g : Nat → Int32} (h : ¬ kqP n f g) : kqN n f g = n + 1 := @if_neg _ (Classical.propDecidable _) h _ _ _
theorem kqF_y {n : Nat} {f g : Nat → Int32} (h : kqP n f g) : kqF n f g = f := @if_pos _ (Classical.propDecidable _) h _ _ _
theorem kqF_n {n : Nat} {f g : Nat → Int32} (h : ¬ kqP n f g) : kqF n f g = kpF n (kpl f g n 0) f g := @if_neg _ (Classical.propDecidable _) h _ _ _
theorem nI_quo {a b : Nat} (ha : a < 2 ^ 31) (hb : b < 2 ^ 31) : nI a / nI b = nI (a / b) := by
  apply Int32.toInt_inj.mp
  rw [Int32.toInt_div, nI_toInt ha, nI_toInt hb, nI_toInt (Nat.lt_of_le_of_lt (Nat.div_le_self a b) ha)]
  have h1 : ((a : Int).tdiv (b : Int)) = ((a / b : Nat) : Int) := by rw [Int.ofNat_tdiv]
  rw [h1]
  have h2 : a / b < 2 ^ 31 := Nat.lt_of_le_of_lt (Nat.div_le_self a b) ha
  generalize a / b = c at h2 ⊢
  apply Int.bmod_eq_of_le <;> omega
theorem nI_rem {a b : Nat} (ha : a < 2 ^ 31) (hb : b < 2 ^ 31) : nI a - nI a / nI b * nI b = nI (a % b) := by
  rw [nI_quo ha hb, nI_mul, nI_sub (Nat.div_mul_le_self a b)]
  congr 1
  have := Nat.div_add_mod a b
  rw [Nat.mul_comm] at this
  omega
/-- the digits of a number -/
def shr (n : Nat) : Nat → Nat × (Nat → Nat) → Nat × (Nat → Nat)
  | 0, p => p
  | k + 1, p => ((shr n k p).1 / n, updN (shr n k p).2 k ((shr n k p).1 % n))
theorem shr_s {n k r : Nat} {p : Nat × (Nat → Nat)} {f : Nat → Nat} (h : shr n k p = (r, f)) : shr n (k + 1) p = (r / n, updN f k (r % n)) := by
  show ((shr n k p).1 / n, updN (shr n k p).2 k ((shr n k p).1 % n)) = _
  rw [h]
/-- a coordinate of the sum of shares of rays -/
def bs1 (sk : Nat → Nat) (yf : Nat → Int32) (ck : Nat → Nat) (i : Nat) : Nat → Int32
  | 0 => 0
  | k + 1 => bs1 sk yf ck i k + nI (sk k) * yf (4 * ck k + i)
theorem bs1_s {sk : Nat → Nat} {yf : Nat → Int32} {ck : Nat → Nat} {i k : Nat} {v : Int32} (h : bs1 sk yf ck i k = v) : bs1 sk yf ck i (k + 1) = v + nI (sk k) * yf (4 * ck k + i) := by
  show bs1 sk yf ck i k + nI (sk k) * yf (4 * ck k + i) = _
  rw [h]
def bxD (sk : Nat → Nat) (yf : Nat → Int32) (ck : Nat → Nat) (n sp i : Nat) : Prop := bs1 sk yf ck i sp - bs1 sk yf ck i sp / nI n * nI n = 0
def bxV (sk : Nat → Nat) (yf : Nat → Int32) (ck : Nat → Nat) (n sp : Nat) : Nat → (Nat → Int32) → (Nat → Int32)
  | 0, f => f
  | i + 1, f => upd (bxV sk yf ck n sp i f) i (bs1 sk yf ck i sp / nI n)
theorem bxV_s {sk : Nat → Nat} {yf : Nat → Int32} {ck : Nat → Nat} {n sp i : Nat} {f f2 : Nat → Int32} {v : Int32} (h : bxV sk yf ck n sp i f = f2) (hv : bs1 sk yf ck i sp = v) : bxV sk yf ck n sp (i + 1) f = upd f2 i (v / nI n) := by
  show upd (bxV sk yf ck n sp i f) i (bs1 sk yf ck i sp / nI n) = _
  rw [h, hv]
/-- one turn: points, the vector, the shares -/
noncomputable def bxt (yf : Nat → Int32) (ck : Nat → Nat) (n sp : Nat) (s2 : Nat → Nat) (p : Nat × (Nat → Int32)) (vf : Nat → Int32) : (Nat × (Nat → Int32)) × (Nat → Int32) × (Nat → Nat) :=
  @ite _ (∀ i, i < 4 → bxD s2 yf ck n sp i) (Classical.propDecidable _) ((kqN p.1 p.2 (bxV s2 yf ck n sp 4 vf), kqF p.1 p.2 (bxV s2 yf ck n sp 4 vf)), bxV s2 yf ck n sp 4 vf, s2) (p, bxV s2 yf ck n sp 4 vf, s2)
noncomputable def bxl (yf : Nat → Int32) (ck : Nat → Nat) (n sp : Nat) : Nat → (Nat × (Nat → Int32)) × (Nat → Int32) × (Nat → Nat) → (Nat × (Nat → Int32)) × (Nat → Int32) × (Nat → Nat)
  | 0, p => p
  | m + 1, p => bxt yf ck n sp (shr n sp (1 + m, (bxl yf ck n sp m p).2.2)).2 (bxl yf ck n sp m p).1 (bxl yf ck n sp m p).2.1
theorem bxl_y {yf : Nat → Int32} {ck s2 : Nat → Nat} {n sp m r pt p2 : Nat} {p : (Nat × (Nat → Int32)) × (Nat → Int32) × (Nat → Nat)} {pf vf v2 f2 : Nat → Int32} {sk : Nat → Nat} (h : bxl yf ck n sp m p = ((pt, pf), vf, sk)) (hs : shr n sp (1 + m, sk) = (r, s2)) (hv : bxV s2 yf ck n sp 4 vf = v2) (hd : ∀ i, i < 4 → bxD s2 yf ck n sp i) (hn : kqN pt pf v2 = p2) (hf : kqF pt pf v2 = f2) : bxl yf ck n sp (m + 1) p = ((p2, f2), v2, s2) := by
  show bxt yf ck n sp (shr n sp (1 + m, (bxl yf ck n sp m p).2.2)).2 (bxl yf ck n sp m p).1 (bxl yf ck n sp m p).2.1 = _
  rw [h]
  show bxt yf ck n sp (shr n sp (1 + m, sk)).2 (pt, pf) vf = _
  rw [hs]
  unfold bxt
  rw [@if_pos _ (Classical.propDecidable _) hd, hv, hn, hf]
theorem bxl_n {yf : Nat → Int32} {ck s2 : Nat → Nat} {n sp m r pt : Nat} {p : (Nat × (Nat → Int32)) × (Nat → Int32) × (Nat → Nat)} {pf vf v2 : Nat → Int32} {sk : Nat → Nat} (h : bxl yf ck n sp m p = ((pt, pf), vf, sk)) (hs : shr n sp (1 + m, sk) = (r, s2)) (hv : bxV s2 yf ck n sp 4 vf = v2) (hd : ¬ ∀ i, i < 4 → bxD s2 yf ck n sp i) : bxl yf ck n sp (m + 1) p = ((pt, pf), v2, s2) := by
  show bxt yf ck n sp (shr n sp (1 + m, (bxl yf ck n sp m p).2.2)).2 (bxl yf ck n sp m p).1 (bxl yf ck n sp m p).2.1 = _
  rw [h]
  show bxt yf ck n sp (shr n sp (1 + m, sk)).2 (pt, pf) vf = _
  rw [hs]
  unfold bxt
  rw [@if_neg _ (Classical.propDecidable _) hd, hv]
def pwn (n sp : Nat) : Nat := if n = 0 then 0 else n ^ sp
/-- the points of one choice of rays -/
noncomputable def box (yf : Nat → Int32) (ck : Nat → Nat) (n sp : Nat) (p : (Nat × (Nat → Int32)) × (Nat → Int32) × (Nat → Nat)) : (Nat × (Nat → Int32)) × (Nat → Int32) × (Nat → Nat) := bxl yf ck n sp (pwn n sp - 1) p
theorem c_M_keepPoint {l : Launch} {s0 : State} {b0 : Addr} {D : va_G} {cI cJ cZ : ClassId} {tC tS : Nat} (E : gE l s0 b0 D cI cJ cZ tC tS) (sz : Nat) (m0 : Nat) (rw : Nat) (ry : Nat) (ti : Nat) (po : Nat) (su : Nat) (sq : Nat) (ch : Nat) (vt : Nat) (sh : Nat) (th : Int32) (zz : Int32) (rn : Int32) (kn : Int32) (rk : Int32) (y1 : Int32) (sp : Int32) (lg : Int32) (fo : Int32) (n : Nat) (vf : Nat → Int32) (pf : Nat → Int32) (hn : n ≤ 1000) : cx_M l s0 D kl y_M_keepPoint b_M_keepPoint 3 none ({ frames := 1, cells := 0, slots := 0, locals := 23 } : Room) 0 0 [.ref m0] [(m0, .inr (7, [.int th, .int zz, .int rn, .ref rw, .int kn, .int rk, .int y1, .ref ry, .int sp, .int lg, .ref ti, .int fo, .int (nI n), .ref po, .ref su, .ref sq, .ref ch, .ref vt, .ref sh])), (vt, .inl (cI, 4, .inl vf)), (po, .inl (cI, 4000, .inl pf))] sz (fun o9 _ w9 => ∃ (n2 : Nat) (f2 : Nat → Int32), o9 = .returned none ∧ kqN n pf vf = n2 ∧ kqF n pf vf = f2 ∧ n2 ≤ 1000 ∧ n2 ≤ n + 1 ∧ w9 = [(m0, .inr (7, [.int th, .int zz, .int rn, .ref rw, .int kn, .int rk, .int y1, .ref ry, .int sp, .int lg, .ref ti, .int fo, .int (nI n2), .ref po, .ref su, .ref sq, .ref ch, .ref vt, .ref sh])), (vt, .inl (cI, 4, .inl vf)), (po, .inl (cI, 4000, .inl f2))]) := by
  by_cases hc : kyP n pf vf
  · exact cx_mono (c_M_keepPoint_y E sz m0 rw ry ti po su sq ch vt sh th zz rn kn rk y1 sp lg fo n vf pf (by omega) hc) (fun o9 t9 w9 h => by obtain ⟨h9, hw⟩ := h; exact ⟨n, pf, h9, kqN_y (Or.inr hc), kqF_y (Or.inr hc), hn, by omega, hw⟩)
  · by_cases h1 : n = 1000
    · exact cx_mono (c_M_keepPoint_f E sz m0 rw ry ti po su sq ch vt sh th zz rn kn rk y1 sp lg fo n vf pf h1) (fun o9 t9 w9 h => by obtain ⟨h9, hw⟩ := h; exact ⟨n, pf, h9, kqN_y (Or.inl h1), kqF_y (Or.inl h1), hn, by omega, hw⟩)
    · have hq : ¬ kqP n pf vf := fun z => z.elim h1 hc
      exact cx_mono (c_M_keepPoint_n E sz m0 rw ry ti po su sq ch vt sh th zz rn kn rk y1 sp lg fo n vf pf (by omega) hc) (fun o9 t9 w9 h => by obtain ⟨h9, hw⟩ := h; exact ⟨n + 1, _, h9, kqN_n hq, kqF_n hq, by omega, by omega, hw⟩)

set_option maxHeartbeats 4000000 in
set_option maxRecDepth 100000 in
theorem c_M_less_y {l : Launch} {s0 : State} {b0 : Addr} {D : va_G} {cI cJ cZ : ClassId} {tC tS : Nat} (E : gE l s0 b0 D cI cJ cZ tC tS) (sz : Nat) (m0 : Nat) (rw : Nat) (ry : Nat) (ti : Nat) (po : Nat) (su : Nat) (sq : Nat) (ch : Nat) (vt : Nat) (sh : Nat) (th : Int32) (zz : Int32) (kn : Int32) (rk : Int32) (y1 : Int32) (sp : Int32) (lg : Int32) (fo : Int32) (pt : Int32) (rn : Nat) (wf : Nat → Int32) (pf : Nat → Int32) (ka : Nat) (kb : Nat) (hr8 : rn ≤ 8) (hka : ka < 1000) (hkb : kb < 1000) (h : (∀ k, k < rn → ¬ prm wf k pf (4 * ka) < prm wf k pf (4 * kb))) : cx_M l s0 D kl y_M_less b_M_less 5 (some .boolean) ({ frames := 1, cells := 0, slots := 0, locals := 26 } : Room) 0 0 [.ref m0, .int (nI ka), .int (nI kb)] [(m0, .inr (7, [.int th, .int zz, .int (nI rn), .ref rw, .int kn, .int rk, .int y1, .ref ry, .int sp, .int lg, .ref ti, .int fo, .int pt, .ref po, .ref su, .ref sq, .ref ch, .ref vt, .ref sh])), (rw, .inl (cI, 32, .inl wf)), (po, .inl (cI, 4000, .inl pf))] sz (fun o9 _ w9 => o9 = .returned (some (.int (1 : Int32))) ∧ w9 = [(m0, .inr (7, [.int th, .int zz, .int (nI rn), .ref rw, .int kn, .int rk, .int y1, .ref ry, .int sp, .int lg, .ref ti, .int fo, .int pt, .ref po, .ref su, .ref sq, .ref ch, .ref vt, .ref sh])), (rw, .inl (cI, 32, .inl wf)), (po, .inl (cI, 4000, .inl pf))]) := by
  refine tx_ofW (cc := b_M_less) (maxL := 5) (ret := (some .boolean)) (by decide) rfl ?_
  intro p e s m args below meth c s₁ B hml hT hv
  obtain ⟨rfl, hsz, hP, hD0, hx0⟩ := hv
  have hx := B.exec
  have hb := B.bytes
  have hr := B.returns
  have G := E.2.1
  have hown : s.vm.findClass cn_M = some m.cls := findClass_of_methodNamed B.named
  have hlocks := B.notSynchronized
  have hK := va_K.moved hx0.1.alike E.2.2.1
  have hf_M : ∀ w99 ∈ u_ws cn_M ft_M 19, w99.before ([.ref m0, .int (nI ka), .int (nI kb)] : List Value).toArray s = true := fun w99 h99 => gw.at G hx0 (fw_M w99 h99) (fo_M w99 h99) _
  subst hsz
  have hA0 := cx_new hD0 hx0.2.1
  have hD := hD0.self (sz := s.heap.size)
  generalize hAe : va_A [(m0, .inr (7, [.int th, .int zz, .int (nI rn), .ref rw, .int kn, .int rk, .int y1, .ref ry, .int sp, .int lg, .ref ti, .int fo, .int pt, .ref po, .ref su, .ref sq, .ref ch, .ref vt, .ref sh])), (rw, .inl (cI, 32, .inl wf)), (po, .inl (cI, 4000, .inl pf))] s.heap.size = A at hD hA0 ⊢
  have hA : ∀ q : Nat, s.heap.size ≤ q → A q := fun q h => by rw [← hAe]; exact Or.inr h
  have hS : va_S A s.heap s.heap [] := va_S.rf
  have hl := lv_entry ([.ref m0, .int (nI ka), .int (nI kb)]) (n := 5) (Nat.le_of_ble_eq_true rfl)
  rw [lg_entry_eq]
  generalize (lg_sl ([.ref m0, .int (nI ka), .int (nI kb)]) ++ List.replicate (5 - (lg_sl ([.ref m0, .int (nI ka), .int (nI kb)])).length) Slot.unset).toArray = ls at hl ⊢
  have hl : lv_has ls 5 [(0, .ref m0), (1, .int (nI ka)), (2, .int (nI kb))] := hl
  have hP : va_P D kl [(m0, .inr (7, [.int th, .int zz, .int (nI rn), .ref rw, .int kn, .int rk, .int y1, .ref ry, .int sp, .int lg, .ref ti, .int fo, .int pt, .ref po, .ref su, .ref sq, .ref ch, .ref vt, .ref sh])), (rw, .inl (cI, 32, .inl wf)), (po, .inl (cI, 4000, .inl pf))] s.heap := hP
  have hml : c.maxLocals = 5 := hml
  generalize hQe : tx_Z below (cx_Q D kl A (fun o9 _ w9 => o9 = .returned (some (.int (1 : Int32))) ∧ w9 = [(m0, .inr (7, [.int th, .int zz, .int (nI rn), .ref rw, .int kn, .int rk, .int y1, .ref ry, .int sp, .int lg, .ref ti, .int fo, .int pt, .ref po, .ref su, .ref sq, .ref ch, .ref vt, .ref sh])), (rw, .inl (cI, 32, .inl wf)), (po, .inl (cI, 4000, .inl pf))])) ([.ref m0, .int (nI ka), .int (nI kb)] : List Value).toArray s 0 0 A = Q
  refine lv_iconst (v := (1 : Int32)) hx hb d_M_less_0 (by decide) ?_
  refine lv_istore_n (lv' := [(3, .int (1 : Int32)), (0, .ref m0), (1, .int (nI ka)), (2, .int (nI kb))]) hx hb d_M_less_1 rfl hl (by decide) rfl (fun ls hl => ?_)
  refine lv_iconst (v := (0 : Int32)) hx hb d_M_less_2 (by decide) ?_
  refine lv_istore (lv' := [(4, .int (0 : Int32)), (3, .int (1 : Int32)), (0, .ref m0), (1, .int (nI ka)), (2, .int (nI kb))]) hx hb d_M_less_3 hl (by decide) rfl (fun ls hl => ?_)
  have lp_5 : ∀ (n9 : Nat) (k : Nat) (ls : Array Slot) (H : Heap) (locs : List Loc), rn - k = n9 → (k ≤ rn) → lv_has ls 5 [(4, .int (nI k)), (3, .int (1 : Int32)), (0, .ref m0), (1, .int (nI ka)), (2, .int (nI kb))] → va_P D kl [(m0, .inr (7, [.int th, .int zz, .int (nI rn), .ref rw, .int kn, .int rk, .int y1, .ref ry, .int sp, .int lg, .ref ti, .int fo, .int pt, .ref po, .ref su, .ref sq, .ref ch, .ref vt, .ref sh])), (rw, .inl (cI, 32, .inl wf)), (po, .inl (cI, 4000, .inl pf))] H → va_D A [(m0, .inr (7, [.int th, .int zz, .int (nI rn), .ref rw, .int kn, .int rk, .int y1, .ref ry, .int sp, .int lg, .ref ti, .int fo, .int pt, .ref po, .ref su, .ref sq, .ref ch, .ref vt, .ref sh])), (rw, .inl (cI, 32, .inl wf)), (po, .inl (cI, 4000, .inl pf))] → va_S A s.heap H locs → W p l e ({ frames := 1, cells := 0, slots := 0, locals := 26 } : Room) s m ([.ref m0, .int (nI ka), .int (nI kb)] : List Value).toArray below meth c H locs 0 0 Q (F0 m 5 ls []) := by
    intro n9
    induction n9 using Nat.strongRecOn with
    | ind n9 ih_5 =>
      intro k ls H locs hm_5 hk9 hl hP hD hS
      refine lv_iload hx hb d_M_less_5 (lv_at hl 0 rfl) ?_
      refine lv_aload_n hx hb d_M_less_7 rfl (lv_at hl 2 rfl) ?_
      refine va_get (D := D) (ci := 7) (v := .int (nI rn)) (C := cn_M) (T := ft_M) (N := 19) hx hb hf_M (fun _ h => h) hown hK hP 0 rfl rfl 2 (by decide) (gw.at G hx0 mw_715 rfl _) (fun _ h9 => h9) rfl d_M_less_8 ?_
      refine lv_icmp_ge (tgt := 60) hx hb d_M_less_11 (by decide) (fun h_1 => ?_) (fun h_1 => ?_)
      · have h_1 : rn ≤ k := (nI_leI (a := rn) (b := k) (by omega) (by omega)).mp h_1
        refine lv_iload_n hx hb d_M_less_60 rfl (lv_at hl 1 rfl) ?_
        rw [← hQe]
        exact tx_mono (fun _ h => tx_Z.of h) (W.zret (v := (1 : Int32)) hx hb hr (by decide) (fun t ht hW => ⟨⟨[(m0, .inr (7, [.int th, .int zz, .int (nI rn), .ref rw, .int kn, .int rk, .int y1, .ref ry, .int sp, .int lg, .ref ti, .int fo, .int pt, .ref po, .ref su, .ref sq, .ref ch, .ref vt, .ref sh])), (rw, .inl (cI, 32, .inl wf)), (po, .inl (cI, 4000, .inl pf))], ⟨rfl, rfl⟩, by rw [ht]; exact hP.sub [0, 1, 2] rfl, hD.sub [0, 1, 2] (by decide) rfl⟩, hS.F ht⟩) hS.2.2 d_M_less_61)
      · have h_1 : ¬ (rn ≤ k) := fun z99 => h_1 ((nI_leI (a := rn) (b := k) (by omega) (by omega)).mpr z99)
        refine lv_iload_n hx hb d_M_less_14 rfl (lv_at hl 1 rfl) ?_
        refine lv_if_eq (tgt := 52) hx hb d_M_less_15 (by decide) (fun h99 => absurd h99 (by decide)) (fun _ => ?_)
        refine lv_aload_n hx hb d_M_less_18 rfl (lv_at hl 2 rfl) ?_
        refine lv_iload hx hb d_M_less_19 (lv_at hl 0 rfl) ?_
        refine lv_aload_n hx hb d_M_less_21 rfl (lv_at hl 2 rfl) ?_
        refine va_get (D := D) (ci := 7) (v := .ref po) (C := cn_M) (T := ft_M) (N := 19) hx hb hf_M (fun _ h => h) hown hK hP 0 rfl rfl 13 (by decide) (gw.at G hx0 mw_726 rfl _) (fun _ h9 => h9) rfl d_M_less_22 ?_
        refine lv_iconst (v := (4 : Int32)) hx hb d_M_less_25 (by decide) ?_
        refine lv_iload_n hx hb d_M_less_26 rfl (lv_at hl 3 rfl) ?_
        refine lv_imul hx hb d_M_less_27 ?_
        refine tp_i (y := nI (4 * ka)) (nI_mul 4 ka) ?_
        refine cx_call (D := D) (cl := kl) (ws := _) (wc := [(m0, .inr (7, [.int th, .int zz, .int (nI rn), .ref rw, .int kn, .int rk, .int y1, .ref ry, .int sp, .int lg, .ref ti, .int fo, .int pt, .ref po, .ref su, .ref sq, .ref ch, .ref vt, .ref sh])), (rw, .inl (cI, 32, .inl wf)), (po, .inl (cI, 4000, .inl pf))]) (wr := []) (tx_runV (C := cn_M) (b := m0) (As := [.int (nI k), .ref po, .int (nI (4 * ka))]) (rest := []) hx hb hml hown (c_M_product E H.size m0 rw ry ti po su sq ch vt sh th zz kn rk y1 sp lg fo pt rn wf k po 4000 pf (4 * ka) (by omega) (by omega) (by decide)) (cx_C (b0 := b0) G hx0 mw_840 mw_9 ny_M_product (by decide)) (gw.at G hx0 mw_837 rfl _) (gw.at G hx0 mw_839 rfl _) (gw.at G hx0 ms_M_product rfl _) ⟨cx_blind, va_recv hK hP (q0 := 0) (ci := 7) (q := (cn_M, ft_M, 19)) rfl rfl, (cx_pre (s := s) hx0 hP hD hS hA0 [0, 1, 2] rfl rfl (by decide))⟩ rfl rfl hl.1 rfl (lv_room (Nat.le_of_ble_eq_true rfl)) d_M_less_28 ⟨by decide, by decide⟩) hP hD hS hA [0, 1, 2] [] rfl rfl (by decide) (by decide) (fun v t w1 H locs ht hW9 hp hP hD hS => ?_) (fun x t w1 H locs ht hW9 hp hP hD hS => by obtain ⟨h9, -⟩ := hp; cases h9)
        obtain ⟨h9, rfl⟩ := hp
        cases h9
        refine W.eq (g2 := F0 m 31 ls [.long (prm wf k pf (4 * ka))]) rfl ?_
        refine W.widen (k := 0) (n := 0) (by decide) (by decide) ?_
        have hP : va_P D kl [(m0, .inr (7, [.int th, .int zz, .int (nI rn), .ref rw, .int kn, .int rk, .int y1, .ref ry, .int sp, .int lg, .ref ti, .int fo, .int pt, .ref po, .ref su, .ref sq, .ref ch, .ref vt, .ref sh])), (rw, .inl (cI, 32, .inl wf)), (po, .inl (cI, 4000, .inl pf))] H := hP
        have hD : va_D A [(m0, .inr (7, [.int th, .int zz, .int (nI rn), .ref rw, .int kn, .int rk, .int y1, .ref ry, .int sp, .int lg, .ref ti, .int fo, .int pt, .ref po, .ref su, .ref sq, .ref ch, .ref vt, .ref sh])), (rw, .inl (cI, 32, .inl wf)), (po, .inl (cI, 4000, .inl pf))] := hD
        refine lv_aload_n hx hb d_M_less_31 rfl (lv_at hl 2 rfl) ?_
        refine lv_iload hx hb d_M_less_32 (lv_at hl 0 rfl) ?_
        refine lv_aload_n hx hb d_M_less_34 rfl (lv_at hl 2 rfl) ?_
        refine va_get (D := D) (ci := 7) (v := .ref po) (C := cn_M) (T := ft_M) (N := 19) hx hb hf_M (fun _ h => h) hown hK hP 0 rfl rfl 13 (by decide) (gw.at G hx0 mw_726 rfl _) (fun _ h9 => h9) rfl d_M_less_35 ?_
        refine lv_iconst (v := (4 : Int32)) hx hb d_M_less_38 (by decide) ?_
        refine lv_iload_n hx hb d_M_less_39 rfl (lv_at hl 4 rfl) ?_
        refine lv_imul hx hb d_M_less_40 ?_
        refine tp_i (y := nI (4 * kb)) (nI_mul 4 kb) ?_
        refine cx_call (D := D) (cl := kl) (ws := _) (wc := [(m0, .inr (7, [.int th, .int zz, .int (nI rn), .ref rw, .int kn, .int rk, .int y1, .ref ry, .int sp, .int lg, .ref ti, .int fo, .int pt, .ref po, .ref su, .ref sq, .ref ch, .ref vt, .ref sh])), (rw, .inl (cI, 32, .inl wf)), (po, .inl (cI, 4000, .inl pf))]) (wr := []) (tx_runV (C := cn_M) (b := m0) (As := [.int (nI k), .ref po, .int (nI (4 * kb))]) (rest := [.long (prm wf k pf (4 * ka))]) hx hb hml hown (c_M_product E H.size m0 rw ry ti po su sq ch vt sh th zz kn rk y1 sp lg fo pt rn wf k po 4000 pf (4 * kb) (by omega) (by omega) (by decide)) (cx_C (b0 := b0) G hx0 mw_840 mw_9 ny_M_product (by decide)) (gw.at G hx0 mw_837 rfl _) (gw.at G hx0 mw_839 rfl _) (gw.at G hx0 ms_M_product rfl _) ⟨cx_blind, va_recv hK hP (q0 := 0) (ci := 7) (q := (cn_M, ft_M, 19)) rfl rfl, (cx_pre (s := s) hx0 hP hD hS hA0 [0, 1, 2] rfl rfl (by decide))⟩ rfl rfl hl.1 rfl (lv_room (Nat.le_of_ble_eq_true rfl)) d_M_less_41 ⟨by decide, by decide⟩) hP hD hS hA [0, 1, 2] [] rfl rfl (by decide) (by decide) (fun v t w1 H locs ht hW9 hp hP hD hS => ?_) (fun x t w1 H locs ht hW9 hp hP hD hS => by obtain ⟨h9, -⟩ := hp; cases h9)
        obtain ⟨h9, rfl⟩ := hp
        cases h9
        refine W.eq (g2 := F0 m 44 ls [.long (prm wf k pf (4 * kb)), .long (prm wf k pf (4 * ka))]) rfl ?_
        refine W.widen (k := 0) (n := 0) (by decide) (by decide) ?_
        have hP : va_P D kl [(m0, .inr (7, [.int th, .int zz, .int (nI rn), .ref rw, .int kn, .int rk, .int y1, .ref ry, .int sp, .int lg, .ref ti, .int fo, .int pt, .ref po, .ref su, .ref sq, .ref ch, .ref vt, .ref sh])), (rw, .inl (cI, 32, .inl wf)), (po, .inl (cI, 4000, .inl pf))] H := hP
        have hD : va_D A [(m0, .inr (7, [.int th, .int zz, .int (nI rn), .ref rw, .int kn, .int rk, .int y1, .ref ry, .int sp, .int lg, .ref ti, .int fo, .int pt, .ref po, .ref su, .ref sq, .ref ch, .ref vt, .ref sh])), (rw, .inl (cI, 32, .inl wf)), (po, .inl (cI, 4000, .inl pf))] := hD
        refine W.lcmp hx hb d_M_less_44 ?_
        refine lv_if_lt (tgt := 52) hx hb d_M_less_45 (by decide) (fun h99 => absurd h99 (fun z9 => h k (by omega) ((lg_cmp_lt _ _).mp z9))) (fun _ => ?_)
        refine lv_iconst (v := (1 : Int32)) hx hb d_M_less_48 (by decide) ?_
        refine lv_goto (tgt := 53) hx hb d_M_less_49 (by decide) ?_
        refine lv_istore_n (lv' := [(3, .int (1 : Int32)), (4, .int (nI k)), (0, .ref m0), (1, .int (nI ka)), (2, .int (nI kb))]) hx hb d_M_less_53 rfl hl (by decide) rfl (fun ls hl => ?_)
        refine lv_iinc (lv' := [(4, .int (nI (k + 1))), (3, .int (1 : Int32)), (0, .ref m0), (1, .int (nI ka)), (2, .int (nI kb))]) (k := 1) (v := nI (k + 1)) hx hb d_M_less_54 hl rfl (nI_add k 1) (by decide) rfl (fun ls hl => ?_)
        refine lv_goto (tgt := 5) hx hb d_M_less_57 (by decide) ?_
        exact ih_5 _ (by omega) (k + 1) ls H locs rfl (by omega) (lv_sub hl [0, 1, 2, 3, 4] rfl) (hP.sub [0, 1, 2] rfl) (hD.sub [0, 1, 2] (by decide) rfl) hS
  exact lp_5 _ 0 ls s.heap [] rfl (Nat.zero_le _) (lv_sub hl [0, 1, 2, 3, 4] rfl) (hP.sub [0, 1, 2] rfl) (hD.sub [0, 1, 2] (by decide) rfl) hS

set_option maxHeartbeats 4000000 in
set_option maxRecDepth 100000 in
theorem c_M_less_n {l : Launch} {s0 : State} {b0 : Addr} {D : va_G} {cI cJ cZ : ClassId} {tC tS : Nat} (E : gE l s0 b0 D cI cJ cZ tC tS) (sz : Nat) (m0 : Nat) (rw : Nat) (ry : Nat) (ti : Nat) (po : Nat) (su : Nat) (sq : Nat) (ch : Nat) (vt : Nat) (sh : Nat) (th : Int32) (zz : Int32) (kn : Int32) (rk : Int32) (y1 : Int32) (sp : Int32) (lg : Int32) (fo : Int32) (pt : Int32) (rn : Nat) (wf : Nat → Int32) (pf : Nat → Int32) (ka : Nat) (kb : Nat) (hr8 : rn ≤ 8) (hka : ka < 1000) (hkb : kb < 1000) (h : ¬ (∀ k, k < rn → ¬ prm wf k pf (4 * ka) < prm wf k pf (4 * kb))) : cx_M l s0 D kl y_M_less b_M_less 5 (some .boolean) ({ frames := 1, cells := 0, slots := 0, locals := 26 } : Room) 0 0 [.ref m0, .int (nI ka), .int (nI kb)] [(m0, .inr (7, [.int th, .int zz, .int (nI rn), .ref rw, .int kn, .int rk, .int y1, .ref ry, .int sp, .int lg, .ref ti, .int fo, .int pt, .ref po, .ref su, .ref sq, .ref ch, .ref vt, .ref sh])), (rw, .inl (cI, 32, .inl wf)), (po, .inl (cI, 4000, .inl pf))] sz (fun o9 _ w9 => o9 = .returned (some (.int (0 : Int32))) ∧ w9 = [(m0, .inr (7, [.int th, .int zz, .int (nI rn), .ref rw, .int kn, .int rk, .int y1, .ref ry, .int sp, .int lg, .ref ti, .int fo, .int pt, .ref po, .ref su, .ref sq, .ref ch, .ref vt, .ref sh])), (rw, .inl (cI, 32, .inl wf)), (po, .inl (cI, 4000, .inl pf))]) := by
  refine tx_ofW (cc := b_M_less) (maxL := 5) (ret := (some .boolean)) (by decide) rfl ?_
  intro p e s m args below meth c s₁ B hml hT hv
  obtain ⟨rfl, hsz, hP, hD0, hx0⟩ := hv
  have hx := B.exec
  have hb := B.bytes
  have hr := B.returns
  have G := E.2.1
  have hown : s.vm.findClass cn_M = some m.cls := findClass_of_methodNamed B.named
  have hlocks := B.notSynchronized
  have hK := va_K.moved hx0.1.alike E.2.2.1
  have hf_M : ∀ w99 ∈ u_ws cn_M ft_M 19, w99.before ([.ref m0, .int (nI ka), .int (nI kb)] : List Value).toArray s = true := fun w99 h99 => gw.at G hx0 (fw_M w99 h99) (fo_M w99 h99) _
  subst hsz
  have hA0 := cx_new hD0 hx0.2.1
  have hD := hD0.self (sz := s.heap.size)
  generalize hAe : va_A [(m0, .inr (7, [.int th, .int zz, .int (nI rn), .ref rw, .int kn, .int rk, .int y1, .ref ry, .int sp, .int lg, .ref ti, .int fo, .int pt, .ref po, .ref su, .ref sq, .ref ch, .ref vt, .ref sh])), (rw, .inl (cI, 32, .inl wf)), (po, .inl (cI, 4000, .inl pf))] s.heap.size = A at hD hA0 ⊢
  have hA : ∀ q : Nat, s.heap.size ≤ q → A q := fun q h => by rw [← hAe]; exact Or.inr h
  have hS : va_S A s.heap s.heap [] := va_S.rf
  have hl := lv_entry ([.ref m0, .int (nI ka), .int (nI kb)]) (n := 5) (Nat.le_of_ble_eq_true rfl)
  rw [lg_entry_eq]
  generalize (lg_sl ([.ref m0, .int (nI ka), .int (nI kb)]) ++ List.replicate (5 - (lg_sl ([.ref m0, .int (nI ka), .int (nI kb)])).length) Slot.unset).toArray = ls at hl ⊢
  have hl : lv_has ls 5 [(0, .ref m0), (1, .int (nI ka)), (2, .int (nI kb))] := hl
  have hP : va_P D kl [(m0, .inr (7, [.int th, .int zz, .int (nI rn), .ref rw, .int kn, .int rk, .int y1, .ref ry, .int sp, .int lg, .ref ti, .int fo, .int pt, .ref po, .ref su, .ref sq, .ref ch, .ref vt, .ref sh])), (rw, .inl (cI, 32, .inl wf)), (po, .inl (cI, 4000, .inl pf))] s.heap := hP
  have hml : c.maxLocals = 5 := hml
  generalize hQe : tx_Z below (cx_Q D kl A (fun o9 _ w9 => o9 = .returned (some (.int (0 : Int32))) ∧ w9 = [(m0, .inr (7, [.int th, .int zz, .int (nI rn), .ref rw, .int kn, .int rk, .int y1, .ref ry, .int sp, .int lg, .ref ti, .int fo, .int pt, .ref po, .ref su, .ref sq, .ref ch, .ref vt, .ref sh])), (rw, .inl (cI, 32, .inl wf)), (po, .inl (cI, 4000, .inl pf))])) ([.ref m0, .int (nI ka), .int (nI kb)] : List Value).toArray s 0 0 A = Q
  refine lv_iconst (v := (1 : Int32)) hx hb d_M_less_0 (by decide) ?_
  refine lv_istore_n (lv' := [(3, .int (1 : Int32)), (0, .ref m0), (1, .int (nI ka)), (2, .int (nI kb))]) hx hb d_M_less_1 rfl hl (by decide) rfl (fun ls hl => ?_)
  refine lv_iconst (v := (0 : Int32)) hx hb d_M_less_2 (by decide) ?_
  refine lv_istore (lv' := [(4, .int (0 : Int32)), (3, .int (1 : Int32)), (0, .ref m0), (1, .int (nI ka)), (2, .int (nI kb))]) hx hb d_M_less_3 hl (by decide) rfl (fun ls hl => ?_)
  have lp_5 : ∀ (n9 : Nat) (k : Nat) (v : Int32) (ls : Array Slot) (H : Heap) (locs : List Loc), rn - k = n9 → (k ≤ rn) → ((v = 1 ∧ ∀ q9, q9 < k → ¬ prm wf q9 pf (4 * ka) < prm wf q9 pf (4 * kb)) ∨ v = 0) → lv_has ls 5 [(4, .int (nI k)), (3, .int v), (0, .ref m0), (1, .int (nI ka)), (2, .int (nI kb))] → va_P D kl [(m0, .inr (7, [.int th, .int zz, .int (nI rn), .ref rw, .int kn, .int rk, .int y1, .ref ry, .int sp, .int lg, .ref ti, .int fo, .int pt, .ref po, .ref su, .ref sq, .ref ch, .ref vt, .ref sh])), (rw, .inl (cI, 32, .inl wf)), (po, .inl (cI, 4000, .inl pf))] H → va_D A [(m0, .inr (7, [.int th, .int zz, .int (nI rn), .ref rw, .int kn, .int rk, .int y1, .ref ry, .int sp, .int lg, .ref ti, .int fo, .int pt, .ref po, .ref su, .ref sq, .ref ch, .ref vt, .ref sh])), (rw, .inl (cI, 32, .inl wf)), (po, .inl (cI, 4000, .inl pf))] → va_S A s.heap H locs → W p l e ({ frames := 1, cells := 0, slots := 0, locals := 26 } : Room) s m ([.ref m0, .int (nI ka), .int (nI kb)] : List Value).toArray below meth c H locs 0 0 Q (F0 m 5 ls []) := by
    intro n9
    induction n9 using Nat.strongRecOn with
    | ind n9 ih_5 =>
      intro k v ls H locs hm_5 hk9 hv9 hl hP hD hS
      refine lv_iload hx hb d_M_less_5 (lv_at hl 0 rfl) ?_
      refine lv_aload_n hx hb d_M_less_7 rfl (lv_at hl 2 rfl) ?_
      refine va_get (D := D) (ci := 7) (v := .int (nI rn)) (C := cn_M) (T := ft_M) (N := 19) hx hb hf_M (fun _ h => h) hown hK hP 0 rfl rfl 2 (by decide) (gw.at G hx0 mw_715 rfl _) (fun _ h9 => h9) rfl d_M_less_8 ?_
      refine lv_icmp_ge (tgt := 60) hx hb d_M_less_11 (by decide) (fun h_1 => ?_) (fun h_1 => ?_)
      · have h_1 : rn ≤ k := (nI_leI (a := rn) (b := k) (by omega) (by omega)).mp h_1
        refine lv_iload_n hx hb d_M_less_60 rfl (lv_at hl 1 rfl) ?_
        have hk8 : k = rn := by omega
        refine tp_i (y := (0 : Int32)) (hv9.elim (fun z9 => absurd (hk8 ▸ z9.2) h) id) ?_
        rw [← hQe]
        exact tx_mono (fun _ h => tx_Z.of h) (W.zret (v := (0 : Int32)) hx hb hr (by decide) (fun t ht hW => ⟨⟨[(m0, .inr (7, [.int th, .int zz, .int (nI rn), .ref rw, .int kn, .int rk, .int y1, .ref ry, .int sp, .int lg, .ref ti, .int fo, .int pt, .ref po, .ref su, .ref sq, .ref ch, .ref vt, .ref sh])), (rw, .inl (cI, 32, .inl wf)), (po, .inl (cI, 4000, .inl pf))], ⟨rfl, rfl⟩, by rw [ht]; exact hP.sub [0, 1, 2] rfl, hD.sub [0, 1, 2] (by decide) rfl⟩, hS.F ht⟩) hS.2.2 d_M_less_61)
      · have h_1 : ¬ (rn ≤ k) := fun z99 => h_1 ((nI_leI (a := rn) (b := k) (by omega) (by omega)).mpr z99)
        refine lv_iload_n hx hb d_M_less_14 rfl (lv_at hl 1 rfl) ?_
        refine lv_if_eq (tgt := 52) hx hb d_M_less_15 (by decide) (fun h_2 => ?_) (fun h_2 => ?_)
        · refine lv_iconst (v := (0 : Int32)) hx hb d_M_less_52 (by decide) ?_
          refine lv_istore_n (lv' := [(3, .int (0 : Int32)), (4, .int (nI k)), (0, .ref m0), (1, .int (nI ka)), (2, .int (nI kb))]) hx hb d_M_less_53 rfl hl (by decide) rfl (fun ls hl => ?_)
          refine lv_iinc (lv' := [(4, .int (nI (k + 1))), (3, .int (0 : Int32)), (0, .ref m0), (1, .int (nI ka)), (2, .int (nI kb))]) (k := 1) (v := nI (k + 1)) hx hb d_M_less_54 hl rfl (nI_add k 1) (by decide) rfl (fun ls hl => ?_)
          refine lv_goto (tgt := 5) hx hb d_M_less_57 (by decide) ?_
          exact ih_5 _ (by omega) (k + 1) 0 ls H locs rfl (by omega) (Or.inr rfl) (lv_sub hl [0, 1, 2, 3, 4] rfl) (hP.sub [0, 1, 2] rfl) (hD.sub [0, 1, 2] (by decide) rfl) hS
        · refine lv_aload_n hx hb d_M_less_18 rfl (lv_at hl 2 rfl) ?_
          refine lv_iload hx hb d_M_less_19 (lv_at hl 0 rfl) ?_
          refine lv_aload_n hx hb d_M_less_21 rfl (lv_at hl 2 rfl) ?_
          refine va_get (D := D) (ci := 7) (v := .ref po) (C := cn_M) (T := ft_M) (N := 19) hx hb hf_M (fun _ h => h) hown hK hP 0 rfl rfl 13 (by decide) (gw.at G hx0 mw_726 rfl _) (fun _ h9 => h9) rfl d_M_less_22 ?_
          refine lv_iconst (v := (4 : Int32)) hx hb d_M_less_25 (by decide) ?_
          refine lv_iload_n hx hb d_M_less_26 rfl (lv_at hl 3 rfl) ?_
          refine lv_imul hx hb d_M_less_27 ?_
          refine tp_i (y := nI (4 * ka)) (nI_mul 4 ka) ?_
          refine cx_call (D := D) (cl := kl) (ws := _) (wc := [(m0, .inr (7, [.int th, .int zz, .int (nI rn), .ref rw, .int kn, .int rk, .int y1, .ref ry, .int sp, .int lg, .ref ti, .int fo, .int pt, .ref po, .ref su, .ref sq, .ref ch, .ref vt, .ref sh])), (rw, .inl (cI, 32, .inl wf)), (po, .inl (cI, 4000, .inl pf))]) (wr := []) (tx_runV (C := cn_M) (b := m0) (As := [.int (nI k), .ref po, .int (nI (4 * ka))]) (rest := []) hx hb hml hown (c_M_product E H.size m0 rw ry ti po su sq ch vt sh th zz kn rk y1 sp lg fo pt rn wf k po 4000 pf (4 * ka) (by omega) (by omega) (by decide)) (cx_C (b0 := b0) G hx0 mw_840 mw_9 ny_M_product (by decide)) (gw.at G hx0 mw_837 rfl _) (gw.at G hx0 mw_839 rfl _) (gw.at G hx0 ms_M_product rfl _) ⟨cx_blind, va_recv hK hP (q0 := 0) (ci := 7) (q := (cn_M, ft_M, 19)) rfl rfl, (cx_pre (s := s) hx0 hP hD hS hA0 [0, 1, 2] rfl rfl (by decide))⟩ rfl rfl hl.1 rfl (lv_room (Nat.le_of_ble_eq_true rfl)) d_M_less_28 ⟨by decide, by decide⟩) hP hD hS hA [0, 1, 2] [] rfl rfl (by decide) (by decide) (fun v t w1 H locs ht hW9 hp hP hD hS => ?_) (fun x t w1 H locs ht hW9 hp hP hD hS => by obtain ⟨h9, -⟩ := hp; cases h9)
          obtain ⟨h9, rfl⟩ := hp
          cases h9
          refine W.eq (g2 := F0 m 31 ls [.long (prm wf k pf (4 * ka))]) rfl ?_
          refine W.widen (k := 0) (n := 0) (by decide) (by decide) ?_
          have hP : va_P D kl [(m0, .inr (7, [.int th, .int zz, .int (nI rn), .ref rw, .int kn, .int rk, .int y1, .ref ry, .int sp, .int lg, .ref ti, .int fo, .int pt, .ref po, .ref su, .ref sq, .ref ch, .ref vt, .ref sh])), (rw, .inl (cI, 32, .inl wf)), (po, .inl (cI, 4000, .inl pf))] H := hP
          have hD : va_D A [(m0, .inr (7, [.int th, .int zz, .int (nI rn), .ref rw, .int kn, .int rk, .int y1, .ref ry, .int sp, .int lg, .ref ti, .int fo, .int pt, .ref po, .ref su, .ref sq, .ref ch, .ref vt, .ref sh])), (rw, .inl (cI, 32, .inl wf)), (po, .inl (cI, 4000, .inl pf))] := hD
          refine lv_aload_n hx hb d_M_less_31 rfl (lv_at hl 2 rfl) ?_
          refine lv_iload hx hb d_M_less_32 (lv_at hl 0 rfl) ?_
          refine lv_aload_n hx hb d_M_less_34 rfl (lv_at hl 2 rfl) ?_
          refine va_get (D := D) (ci := 7) (v := .ref po) (C := cn_M) (T := ft_M) (N := 19) hx hb hf_M (fun _ h => h) hown hK hP 0 rfl rfl 13 (by decide) (gw.at G hx0 mw_726 rfl _) (fun _ h9 => h9) rfl d_M_less_35 ?_
          refine lv_iconst (v := (4 : Int32)) hx hb d_M_less_38 (by decide) ?_
          refine lv_iload_n hx hb d_M_less_39 rfl (lv_at hl 4 rfl) ?_
          refine lv_imul hx hb d_M_less_40 ?_
          refine tp_i (y := nI (4 * kb)) (nI_mul 4 kb) ?_
          refine cx_call (D := D) (cl := kl) (ws := _) (wc := [(m0, .inr (7, [.int th, .int zz, .int (nI rn), .ref rw, .int kn, .int rk, .int y1, .ref ry, .int sp, .int lg, .ref ti, .int fo, .int pt, .ref po, .ref su, .ref sq, .ref ch, .ref vt, .ref sh])), (rw, .inl (cI, 32, .inl wf)), (po, .inl (cI, 4000, .inl pf))]) (wr := []) (tx_runV (C := cn_M) (b := m0) (As := [.int (nI k), .ref po, .int (nI (4 * kb))]) (rest := [.long (prm wf k pf (4 * ka))]) hx hb hml hown (c_M_product E H.size m0 rw ry ti po su sq ch vt sh th zz kn rk y1 sp lg fo pt rn wf k po 4000 pf (4 * kb) (by omega) (by omega) (by decide)) (cx_C (b0 := b0) G hx0 mw_840 mw_9 ny_M_product (by decide)) (gw.at G hx0 mw_837 rfl _) (gw.at G hx0 mw_839 rfl _) (gw.at G hx0 ms_M_product rfl _) ⟨cx_blind, va_recv hK hP (q0 := 0) (ci := 7) (q := (cn_M, ft_M, 19)) rfl rfl, (cx_pre (s := s) hx0 hP hD hS hA0 [0, 1, 2] rfl rfl (by decide))⟩ rfl rfl hl.1 rfl (lv_room (Nat.le_of_ble_eq_true rfl)) d_M_less_41 ⟨by decide, by decide⟩) hP hD hS hA [0, 1, 2] [] rfl rfl (by decide) (by decide) (fun v t w1 H locs ht hW9 hp hP hD hS => ?_) (fun x t w1 H locs ht hW9 hp hP hD hS => by obtain ⟨h9, -⟩ := hp; cases h9)
          obtain ⟨h9, rfl⟩ := hp
          cases h9
          refine W.eq (g2 := F0 m 44 ls [.long (prm wf k pf (4 * kb)), .long (prm wf k pf (4 * ka))]) rfl ?_
          refine W.widen (k := 0) (n := 0) (by decide) (by decide) ?_
          have hP : va_P D kl [(m0, .inr (7, [.int th, .int zz, .int (nI rn), .ref rw, .int kn, .int rk, .int y1, .ref ry, .int sp, .int lg, .ref ti, .int fo, .int pt, .ref po, .ref su, .ref sq, .ref ch, .ref vt, .ref sh])), (rw, .inl (cI, 32, .inl wf)), (po, .inl (cI, 4000, .inl pf))] H := hP
          have hD : va_D A [(m0, .inr (7, [.int th, .int zz, .int (nI rn), .ref rw, .int kn, .int rk, .int y1, .ref ry, .int sp, .int lg, .ref ti, .int fo, .int pt, .ref po, .ref su, .ref sq, .ref ch, .ref vt, .ref sh])), (rw, .inl (cI, 32, .inl wf)), (po, .inl (cI, 4000, .inl pf))] := hD
          refine W.lcmp hx hb d_M_less_44 ?_
          refine lv_if_lt (tgt := 52) hx hb d_M_less_45 (by decide) (fun h_3 => ?_) (fun h_3 => ?_)
          · refine lv_iconst (v := (0 : Int32)) hx hb d_M_less_52 (by decide) ?_
            refine lv_istore_n (lv' := [(3, .int (0 : Int32)), (4, .int (nI k)), (0, .ref m0), (1, .int (nI ka)), (2, .int (nI kb))]) hx hb d_M_less_53 rfl hl (by decide) rfl (fun ls hl => ?_)
            refine lv_iinc (lv' := [(4, .int (nI (k + 1))), (3, .int (0 : Int32)), (0, .ref m0), (1, .int (nI ka)), (2, .int (nI kb))]) (k := 1) (v := nI (k + 1)) hx hb d_M_less_54 hl rfl (nI_add k 1) (by decide) rfl (fun ls hl => ?_)
            refine lv_goto (tgt := 5) hx hb d_M_less_57 (by decide) ?_
            exact ih_5 _ (by omega) (k + 1) 0 ls H locs rfl (by omega) (Or.inr rfl) (lv_sub hl [0, 1, 2, 3, 4] rfl) (hP.sub [0, 1, 2] rfl) (hD.sub [0, 1, 2] (by decide) rfl) hS
          · refine lv_iconst (v := (1 : Int32)) hx hb d_M_less_48 (by decide) ?_
            refine lv_goto (tgt := 53) hx hb d_M_less_49 (by decide) ?_
            refine lv_istore_n (lv' := [(3, .int (1 : Int32)), (4, .int (nI k)), (0, .ref m0), (1, .int (nI ka)), (2, .int (nI kb))]) hx hb d_M_less_53 rfl hl (by decide) rfl (fun ls hl => ?_)
            refine lv_iinc (lv' := [(4, .int (nI (k + 1))), (3, .int (1 : Int32)), (0, .ref m0), (1, .int (nI ka)), (2, .int (nI kb))]) (k := 1) (v := nI (k + 1)) hx hb d_M_less_54 hl rfl (nI_add k 1) (by decide) rfl (fun ls hl => ?_)
            refine lv_goto (tgt := 5) hx hb d_M_less_57 (by decide) ?_
            exact ih_5 _ (by omega) (k + 1) 1 ls H locs rfl (by omega) (Or.inl ⟨rfl, fun q9 hq9 => (Nat.lt_succ_iff_lt_or_eq.mp hq9).elim ((hv9.elim id (fun z9 => absurd z9 h_2)).2 q9) (fun e9 => by rw [e9]; exact (fun z9 => h_3 ((lg_cmp_lt _ _).mpr z9)))⟩) (lv_sub hl [0, 1, 2, 3, 4] rfl) (hP.sub [0, 1, 2] rfl) (hD.sub [0, 1, 2] (by decide) rfl) hS
  exact lp_5 _ 0 1 ls s.heap [] rfl (Nat.zero_le _) (Or.inl ⟨rfl, fun q9 hq9 => absurd hq9 (Nat.not_lt_zero q9)⟩) (lv_sub hl [0, 1, 2, 3, 4] rfl) (hP.sub [0, 1, 2] rfl) (hD.sub [0, 1, 2] (by decide) rfl) hS

set_option maxHeartbeats 4000000 in
set_option maxRecDepth 100000 in
theorem c_M_may_y {l : Launch} {s0 : State} {b0 : Addr} {D : va_G} {cI cJ cZ : ClassId} {tC tS : Nat} (E : gE l s0 b0 D cI cJ cZ tC tS) (sz : Nat) (m0 : Nat) (rw : Nat) (ry : Nat) (ti : Nat) (po : Nat) (su : Nat) (sq : Nat) (ch : Nat) (vt : Nat) (sh : Nat) (th : Int32) (zz : Int32) (kn : Int32) (rk : Int32) (y1 : Int32) (sp : Int32) (lg : Int32) (fo : Int32) (pt : Int32) (rn : Nat) (wf : Nat → Int32) (pf : Nat → Int32) (vf : Nat → Int32) (ka : Nat) (hr8 : rn ≤ 8) (hka : ka < 1000) (h : (∀ k, k < rn → ¬ prm wf k vf 0 < prm wf k pf (4 * ka))) : cx_M l s0 D kl y_M_may b_M_may 4 (some .boolean) ({ frames := 1, cells := 0, slots := 0, locals := 26 } : Room) 0 0 [.ref m0, .int (nI ka)] [(m0, .inr (7, [.int th, .int zz, .int (nI rn), .ref rw, .int kn, .int rk, .int y1, .ref ry, .int sp, .int lg, .ref ti, .int fo, .int pt, .ref po, .ref su, .ref sq, .ref ch, .ref vt, .ref sh])), (rw, .inl (cI, 32, .inl wf)), (po, .inl (cI, 4000, .inl pf)), (vt, .inl (cI, 4, .inl vf))] sz (fun o9 _ w9 => o9 = .returned (some (.int (1 : Int32))) ∧ w9 = [(m0, .inr (7, [.int th, .int zz, .int (nI rn), .ref rw, .int kn, .int rk, .int y1, .ref ry, .int sp, .int lg, .ref ti, .int fo, .int pt, .ref po, .ref su, .ref sq, .ref ch, .ref vt, .ref sh])), (rw, .inl (cI, 32, .inl wf)), (po, .inl (cI, 4000, .inl pf)), (vt, .inl (cI, 4, .inl vf))]) := by
  refine tx_ofW (cc := b_M_may) (maxL := 4) (ret := (some .boolean)) (by decide) rfl ?_
  intro p e s m args below meth c s₁ B hml hT hv
  obtain ⟨rfl, hsz, hP, hD0, hx0⟩ := hv
  have hx := B.exec
  have hb := B.bytes
  have hr := B.returns
  have G := E.2.1
  have hown : s.vm.findClass cn_M = some m.cls := findClass_of_methodNamed B.named
  have hlocks := B.notSynchronized
  have hK := va_K.moved hx0.1.alike E.2.2.1
  have hf_M : ∀ w99 ∈ u_ws cn_M ft_M 19, w99.before ([.ref m0, .int (nI ka)] : List Value).toArray s = true := fun w99 h99 => gw.at G hx0 (fw_M w99 h99) (fo_M w99 h99) _
  subst hsz
  have hA0 := cx_new hD0 hx0.2.1
  have hD := hD0.self (sz := s.heap.size)
  generalize hAe : va_A [(m0, .inr (7, [.int th, .int zz, .int (nI rn), .ref rw, .int kn, .int rk, .int y1, .ref ry, .int sp, .int lg, .ref ti, .int fo, .int pt, .ref po, .ref su, .ref sq, .ref ch, .ref vt, .ref sh])), (rw, .inl (cI, 32, .inl wf)), (po, .inl (cI, 4000, .inl pf)), (vt, .inl (cI, 4, .inl vf))] s.heap.size = A at hD hA0 ⊢
  have hA : ∀ q : Nat, s.heap.size ≤ q → A q := fun q h => by rw [← hAe]; exact Or.inr h
  have hS : va_S A s.heap s.heap [] := va_S.rf
  have hl := lv_entry ([.ref m0, .int (nI ka)]) (n := 4) (Nat.le_of_ble_eq_true rfl)
  rw [lg_entry_eq]
  generalize (lg_sl ([.ref m0, .int (nI ka)]) ++ List.replicate (4 - (lg_sl ([.ref m0, .int (nI ka)])).length) Slot.unset).toArray = ls at hl ⊢
  have hl : lv_has ls 4 [(0, .ref m0), (1, .int (nI ka))] := hl
  have hP : va_P D kl [(m0, .inr (7, [.int th, .int zz, .int (nI rn), .ref rw, .int kn, .int rk, .int y1, .ref ry, .int sp, .int lg, .ref ti, .int fo, .int pt, .ref po, .ref su, .ref sq, .ref ch, .ref vt, .ref sh])), (rw, .inl (cI, 32, .inl wf)), (po, .inl (cI, 4000, .inl pf)), (vt, .inl (cI, 4, .inl vf))] s.heap := hP
  have hml : c.maxLocals = 4 := hml
  generalize hQe : tx_Z below (cx_Q D kl A (fun o9 _ w9 => o9 = .returned (some (.int (1 : Int32))) ∧ w9 = [(m0, .inr (7, [.int th, .int zz, .int (nI rn), .ref rw, .int kn, .int rk, .int y1, .ref ry, .int sp, .int lg, .ref ti, .int fo, .int pt, .ref po, .ref su, .ref sq, .ref ch, .ref vt, .ref sh])), (rw, .inl (cI, 32, .inl wf)), (po, .inl (cI, 4000, .inl pf)), (vt, .inl (cI, 4, .inl vf))])) ([.ref m0, .int (nI ka)] : List Value).toArray s 0 0 A = Q
  refine lv_iconst (v := (1 : Int32)) hx hb d_M_may_0 (by decide) ?_
  refine lv_istore_n (lv' := [(2, .int (1 : Int32)), (0, .ref m0), (1, .int (nI ka))]) hx hb d_M_may_1 rfl hl (by decide) rfl (fun ls hl => ?_)
  refine lv_iconst (v := (0 : Int32)) hx hb d_M_may_2 (by decide) ?_
  refine lv_istore_n (lv' := [(3, .int (0 : Int32)), (2, .int (1 : Int32)), (0, .ref m0), (1, .int (nI ka))]) hx hb d_M_may_3 rfl hl (by decide) rfl (fun ls hl => ?_)
  have lp_4 : ∀ (n9 : Nat) (k : Nat) (ls : Array Slot) (H : Heap) (locs : List Loc), rn - k = n9 → (k ≤ rn) → lv_has ls 4 [(3, .int (nI k)), (2, .int (1 : Int32)), (0, .ref m0), (1, .int (nI ka))] → va_P D kl [(m0, .inr (7, [.int th, .int zz, .int (nI rn), .ref rw, .int kn, .int rk, .int y1, .ref ry, .int sp, .int lg, .ref ti, .int fo, .int pt, .ref po, .ref su, .ref sq, .ref ch, .ref vt, .ref sh])), (rw, .inl (cI, 32, .inl wf)), (po, .inl (cI, 4000, .inl pf)), (vt, .inl (cI, 4, .inl vf))] H → va_D A [(m0, .inr (7, [.int th, .int zz, .int (nI rn), .ref rw, .int kn, .int rk, .int y1, .ref ry, .int sp, .int lg, .ref ti, .int fo, .int pt, .ref po, .ref su, .ref sq, .ref ch, .ref vt, .ref sh])), (rw, .inl (cI, 32, .inl wf)), (po, .inl (cI, 4000, .inl pf)), (vt, .inl (cI, 4, .inl vf))] → va_S A s.heap H locs → W p l e ({ frames := 1, cells := 0, slots := 0, locals := 26 } : Room) s m ([.ref m0, .int (nI ka)] : List Value).toArray below meth c H locs 0 0 Q (F0 m 4 ls []) := by
    intro n9
    induction n9 using Nat.strongRecOn with
    | ind n9 ih_4 =>
      intro k ls H locs hm_4 hk9 hl hP hD hS
      refine lv_iload_n hx hb d_M_may_4 rfl (lv_at hl 0 rfl) ?_
      refine lv_aload_n hx hb d_M_may_5 rfl (lv_at hl 2 rfl) ?_
      refine va_get (D := D) (ci := 7) (v := .int (nI rn)) (C := cn_M) (T := ft_M) (N := 19) hx hb hf_M (fun _ h => h) hown hK hP 0 rfl rfl 2 (by decide) (gw.at G hx0 mw_715 rfl _) (fun _ h9 => h9) rfl d_M_may_6 ?_
      refine lv_icmp_ge (tgt := 54) hx hb d_M_may_9 (by decide) (fun h_1 => ?_) (fun h_1 => ?_)
      · have h_1 : rn ≤ k := (nI_leI (a := rn) (b := k) (by omega) (by omega)).mp h_1
        refine lv_iload_n hx hb d_M_may_54 rfl (lv_at hl 1 rfl) ?_
        rw [← hQe]
        exact tx_mono (fun _ h => tx_Z.of h) (W.zret (v := (1 : Int32)) hx hb hr (by decide) (fun t ht hW => ⟨⟨[(m0, .inr (7, [.int th, .int zz, .int (nI rn), .ref rw, .int kn, .int rk, .int y1, .ref ry, .int sp, .int lg, .ref ti, .int fo, .int pt, .ref po, .ref su, .ref sq, .ref ch, .ref vt, .ref sh])), (rw, .inl (cI, 32, .inl wf)), (po, .inl (cI, 4000, .inl pf)), (vt, .inl (cI, 4, .inl vf))], ⟨rfl, rfl⟩, by rw [ht]; exact hP.sub [0, 1, 2, 3] rfl, hD.sub [0, 1, 2, 3] (by decide) rfl⟩, hS.F ht⟩) hS.2.2 d_M_may_55)
      · have h_1 : ¬ (rn ≤ k) := fun z99 => h_1 ((nI_leI (a := rn) (b := k) (by omega) (by omega)).mpr z99)
        refine lv_iload_n hx hb d_M_may_12 rfl (lv_at hl 1 rfl) ?_
        refine lv_if_eq (tgt := 46) hx hb d_M_may_13 (by decide) (fun h99 => absurd h99 (by decide)) (fun _ => ?_)
        refine lv_aload_n hx hb d_M_may_16 rfl (lv_at hl 2 rfl) ?_
        refine lv_iload_n hx hb d_M_may_17 rfl (lv_at hl 0 rfl) ?_
        refine lv_aload_n hx hb d_M_may_18 rfl (lv_at hl 2 rfl) ?_
        refine va_get (D := D) (ci := 7) (v := .ref vt) (C := cn_M) (T := ft_M) (N := 19) hx hb hf_M (fun _ h => h) hown hK hP 0 rfl rfl 17 (by decide) (gw.at G hx0 mw_730 rfl _) (fun _ h9 => h9) rfl d_M_may_19 ?_
        refine lv_iconst (v := (0 : Int32)) hx hb d_M_may_22 (by decide) ?_
        refine cx_call (D := D) (cl := kl) (ws := _) (wc := [(m0, .inr (7, [.int th, .int zz, .int (nI rn), .ref rw, .int kn, .int rk, .int y1, .ref ry, .int sp, .int lg, .ref ti, .int fo, .int pt, .ref po, .ref su, .ref sq, .ref ch, .ref vt, .ref sh])), (rw, .inl (cI, 32, .inl wf)), (vt, .inl (cI, 4, .inl vf))]) (wr := [(po, .inl (cI, 4000, .inl pf))]) (tx_runV (C := cn_M) (b := m0) (As := [.int (nI k), .ref vt, .int (0 : Int32)]) (rest := []) hx hb hml hown (c_M_product E H.size m0 rw ry ti po su sq ch vt sh th zz kn rk y1 sp lg fo pt rn wf k vt 4 vf 0 (by omega) (by omega) (by decide)) (cx_C (b0 := b0) G hx0 mw_840 mw_9 ny_M_product (by decide)) (gw.at G hx0 mw_837 rfl _) (gw.at G hx0 mw_839 rfl _) (gw.at G hx0 ms_M_product rfl _) ⟨cx_blind, va_recv hK hP (q0 := 0) (ci := 7) (q := (cn_M, ft_M, 19)) rfl rfl, (cx_pre (s := s) hx0 hP hD hS hA0 [0, 1, 3] rfl rfl (by decide))⟩ rfl rfl hl.1 rfl (lv_room (Nat.le_of_ble_eq_true rfl)) d_M_may_23 ⟨by decide, by decide⟩) hP hD hS hA [0, 1, 3] [2] rfl rfl (by decide) (by decide) (fun v t w1 H locs ht hW9 hp hP hD hS => ?_) (fun x t w1 H locs ht hW9 hp hP hD hS => by obtain ⟨h9, -⟩ := hp; cases h9)
        obtain ⟨h9, rfl⟩ := hp
        cases h9
        refine W.eq (g2 := F0 m 26 ls [.long (prm wf k vf 0)]) rfl ?_
        refine W.widen (k := 0) (n := 0) (by decide) (by decide) ?_
        have hP : va_P D kl [(po, .inl (cI, 4000, .inl pf)), (m0, .inr (7, [.int th, .int zz, .int (nI rn), .ref rw, .int kn, .int rk, .int y1, .ref ry, .int sp, .int lg, .ref ti, .int fo, .int pt, .ref po, .ref su, .ref sq, .ref ch, .ref vt, .ref sh])), (rw, .inl (cI, 32, .inl wf)), (vt, .inl (cI, 4, .inl vf))] H := hP
        have hD : va_D A [(po, .inl (cI, 4000, .inl pf)), (m0, .inr (7, [.int th, .int zz, .int (nI rn), .ref rw, .int kn, .int rk, .int y1, .ref ry, .int sp, .int lg, .ref ti, .int fo, .int pt, .ref po, .ref su, .ref sq, .ref ch, .ref vt, .ref sh])), (rw, .inl (cI, 32, .inl wf)), (vt, .inl (cI, 4, .inl vf))] := hD
        refine lv_aload_n hx hb d_M_may_26 rfl (lv_at hl 2 rfl) ?_
        refine lv_iload_n hx hb d_M_may_27 rfl (lv_at hl 0 rfl) ?_
        refine lv_aload_n hx hb d_M_may_28 rfl (lv_at hl 2 rfl) ?_
        refine va_get (D := D) (ci := 7) (v := .ref po) (C := cn_M) (T := ft_M) (N := 19) hx hb hf_M (fun _ h => h) hown hK hP 1 rfl rfl 13 (by decide) (gw.at G hx0 mw_726 rfl _) (fun _ h9 => h9) rfl d_M_may_29 ?_
        refine lv_iconst (v := (4 : Int32)) hx hb d_M_may_32 (by decide) ?_
        refine lv_iload_n hx hb d_M_may_33 rfl (lv_at hl 3 rfl) ?_
        refine lv_imul hx hb d_M_may_34 ?_
        refine tp_i (y := nI (4 * ka)) (nI_mul 4 ka) ?_
        refine cx_call (D := D) (cl := kl) (ws := _) (wc := [(m0, .inr (7, [.int th, .int zz, .int (nI rn), .ref rw, .int kn, .int rk, .int y1, .ref ry, .int sp, .int lg, .ref ti, .int fo, .int pt, .ref po, .ref su, .ref sq, .ref ch, .ref vt, .ref sh])), (rw, .inl (cI, 32, .inl wf)), (po, .inl (cI, 4000, .inl pf))]) (wr := [(vt, .inl (cI, 4, .inl vf))]) (tx_runV (C := cn_M) (b := m0) (As := [.int (nI k), .ref po, .int (nI (4 * ka))]) (rest := [.long (prm wf k vf 0)]) hx hb hml hown (c_M_product E H.size m0 rw ry ti po su sq ch vt sh th zz kn rk y1 sp lg fo pt rn wf k po 4000 pf (4 * ka) (by omega) (by omega) (by decide)) (cx_C (b0 := b0) G hx0 mw_840 mw_9 ny_M_product (by decide)) (gw.at G hx0 mw_837 rfl _) (gw.at G hx0 mw_839 rfl _) (gw.at G hx0 ms_M_product rfl _) ⟨cx_blind, va_recv hK hP (q0 := 1) (ci := 7) (q := (cn_M, ft_M, 19)) rfl rfl, (cx_pre (s := s) hx0 hP hD hS hA0 [1, 2, 0] rfl rfl (by decide))⟩ rfl rfl hl.1 rfl (lv_room (Nat.le_of_ble_eq_true rfl)) d_M_may_35 ⟨by decide, by decide⟩) hP hD hS hA [1, 2, 0] [3] rfl rfl (by decide) (by decide) (fun v t w1 H locs ht hW9 hp hP hD hS => ?_) (fun x t w1 H locs ht hW9 hp hP hD hS => by obtain ⟨h9, -⟩ := hp; cases h9)
        obtain ⟨h9, rfl⟩ := hp
        cases h9
        refine W.eq (g2 := F0 m 38 ls [.long (prm wf k pf (4 * ka)), .long (prm wf k vf 0)]) rfl ?_
        refine W.widen (k := 0) (n := 0) (by decide) (by decide) ?_
        have hP : va_P D kl [(vt, .inl (cI, 4, .inl vf)), (m0, .inr (7, [.int th, .int zz, .int (nI rn), .ref rw, .int kn, .int rk, .int y1, .ref ry, .int sp, .int lg, .ref ti, .int fo, .int pt, .ref po, .ref su, .ref sq, .ref ch, .ref vt, .ref sh])), (rw, .inl (cI, 32, .inl wf)), (po, .inl (cI, 4000, .inl pf))] H := hP
        have hD : va_D A [(vt, .inl (cI, 4, .inl vf)), (m0, .inr (7, [.int th, .int zz, .int (nI rn), .ref rw, .int kn, .int rk, .int y1, .ref ry, .int sp, .int lg, .ref ti, .int fo, .int pt, .ref po, .ref su, .ref sq, .ref ch, .ref vt, .ref sh])), (rw, .inl (cI, 32, .inl wf)), (po, .inl (cI, 4000, .inl pf))] := hD
        refine W.lcmp hx hb d_M_may_38 ?_
        refine lv_if_lt (tgt := 46) hx hb d_M_may_39 (by decide) (fun h99 => absurd h99 (fun z9 => h k (by omega) ((lg_cmp_lt _ _).mp z9))) (fun _ => ?_)
        refine lv_iconst (v := (1 : Int32)) hx hb d_M_may_42 (by decide) ?_
        refine lv_goto (tgt := 47) hx hb d_M_may_43 (by decide) ?_
        refine lv_istore_n (lv' := [(2, .int (1 : Int32)), (3, .int (nI k)), (0, .ref m0), (1, .int (nI ka))]) hx hb d_M_may_47 rfl hl (by decide) rfl (fun ls hl => ?_)
        refine lv_iinc (lv' := [(3, .int (nI (k + 1))), (2, .int (1 : Int32)), (0, .ref m0), (1, .int (nI ka))]) (k := 1) (v := nI (k + 1)) hx hb d_M_may_48 hl rfl (nI_add k 1) (by decide) rfl (fun ls hl => ?_)
        refine lv_goto (tgt := 4) hx hb d_M_may_51 (by decide) ?_
        exact ih_4 _ (by omega) (k + 1) ls H locs rfl (by omega) (lv_sub hl [0, 1, 2, 3] rfl) (hP.sub [1, 2, 3, 0] rfl) (hD.sub [1, 2, 3, 0] (by decide) rfl) hS
  exact lp_4 _ 0 ls s.heap [] rfl (Nat.zero_le _) (lv_sub hl [0, 1, 2, 3] rfl) (hP.sub [0, 1, 2, 3] rfl) (hD.sub [0, 1, 2, 3] (by decide) rfl) hS

set_option maxHeartbeats 4000000 in
set_option maxRecDepth 100000 in
theorem c_M_may_n {l : Launch} {s0 : State} {b0 : Addr} {D : va_G} {cI cJ cZ : ClassId} {tC tS : Nat} (E : gE l s0 b0 D cI cJ cZ tC tS) (sz : Nat) (m0 : Nat) (rw : Nat) (ry : Nat) (ti : Nat) (po : Nat) (su : Nat) (sq : Nat) (ch : Nat) (vt : Nat) (sh : Nat) (th : Int32) (zz : Int32) (kn : Int32) (rk : Int32) (y1 : Int32) (sp : Int32) (lg : Int32) (fo : Int32) (pt : Int32) (rn : Nat) (wf : Nat → Int32) (pf : Nat → Int32) (vf : Nat → Int32) (ka : Nat) (hr8 : rn ≤ 8) (hka : ka < 1000) (h : ¬ (∀ k, k < rn → ¬ prm wf k vf 0 < prm wf k pf (4 * ka))) : cx_M l s0 D kl y_M_may b_M_may 4 (some .boolean) ({ frames := 1, cells := 0, slots := 0, locals := 26 } : Room) 0 0 [.ref m0, .int (nI ka)] [(m0, .inr (7, [.int th, .int zz, .int (nI rn), .ref rw, .int kn, .int rk, .int y1, .ref ry, .int sp, .int lg, .ref ti, .int fo, .int pt, .ref po, .ref su, .ref sq, .ref ch, .ref vt, .ref sh])), (rw, .inl (cI, 32, .inl wf)), (po, .inl (cI, 4000, .inl pf)), (vt, .inl (cI, 4, .inl vf))] sz (fun o9 _ w9 => o9 = .returned (some (.int (0 : Int32))) ∧ w9 = [(m0, .inr (7, [.int th, .int zz, .int (nI rn), .ref rw, .int kn, .int rk, .int y1, .ref ry, .int sp, .int lg, .ref ti, .int fo, .int pt, .ref po, .ref su, .ref sq, .ref ch, .ref vt, .ref sh])), (rw, .inl (cI, 32, .inl wf)), (po, .inl (cI, 4000, .inl pf)), (vt, .inl (cI, 4, .inl vf))]) := by
  refine tx_ofW (cc := b_M_may) (maxL := 4) (ret := (some .boolean)) (by decide) rfl ?_
  intro p e s m args below meth c s₁ B hml hT hv
  obtain ⟨rfl, hsz, hP, hD0, hx0⟩ := hv
  have hx := B.exec
  have hb := B.bytes
  have hr := B.returns
  have G := E.2.1
  have hown : s.vm.findClass cn_M = some m.cls := findClass_of_methodNamed B.named
  have hlocks := B.notSynchronized
  have hK := va_K.moved hx0.1.alike E.2.2.1
  have hf_M : ∀ w99 ∈ u_ws cn_M ft_M 19, w99.before ([.ref m0, .int (nI ka)] : List Value).toArray s = true := fun w99 h99 => gw.at G hx0 (fw_M w99 h99) (fo_M w99 h99) _
  subst hsz
  have hA0 := cx_new hD0 hx0.2.1
  have hD := hD0.self (sz := s.heap.size)
  generalize hAe : va_A [(m0, .inr (7, [.int th, .int zz, .int (nI rn), .ref rw, .int kn, .int rk, .int y1, .ref ry, .int sp, .int lg, .ref ti, .int fo, .int pt, .ref po, .ref su, .ref sq, .ref ch, .ref vt, .ref sh])), (rw, .inl (cI, 32, .inl wf)), (po, .inl (cI, 4000, .inl pf)), (vt, .inl (cI, 4, .inl vf))] s.heap.size = A at hD hA0 ⊢
  have hA : ∀ q : Nat, s.heap.size ≤ q → A q := fun q h => by rw [← hAe]; exact Or.inr h
  have hS : va_S A s.heap s.heap [] := va_S.rf
  have hl := lv_entry ([.ref m0, .int (nI ka)]) (n := 4) (Nat.le_of_ble_eq_true rfl)
  rw [lg_entry_eq]
  generalize (lg_sl ([.ref m0, .int (nI ka)]) ++ List.replicate (4 - (lg_sl ([.ref m0, .int (nI ka)])).length) Slot.unset).toArray = ls at hl ⊢
  have hl : lv_has ls 4 [(0, .ref m0), (1, .int (nI ka))] := hl
  have hP : va_P D kl [(m0, .inr (7, [.int th, .int zz, .int (nI rn), .ref rw, .int kn, .int rk, .int y1, .ref ry, .int sp, .int lg, .ref ti, .int fo, .int pt, .ref po, .ref su, .ref sq, .ref ch, .ref vt, .ref sh])), (rw, .inl (cI, 32, .inl wf)), (po, .inl (cI, 4000, .inl pf)), (vt, .inl (cI, 4, .inl vf))] s.heap := hP
  have hml : c.maxLocals = 4 := hml
  generalize hQe : tx_Z below (cx_Q D kl A (fun o9 _ w9 => o9 = .returned (some (.int (0 : Int32))) ∧ w9 = [(m0, .inr (7, [.int th, .int zz, .int (nI rn), .ref rw, .int kn, .int rk, .int y1, .ref ry, .int sp, .int lg, .ref ti, .int fo, .int pt, .ref po, .ref su, .ref sq, .ref ch, .ref vt, .ref sh])), (rw, .inl (cI, 32, .inl wf)), (po, .inl (cI, 4000, .inl pf)), (vt, .inl (cI, 4, .inl vf))])) ([.ref m0, .int (nI ka)] : List Value).toArray s 0 0 A = Q
  refine lv_iconst (v := (1 : Int32)) hx hb d_M_may_0 (by decide) ?_
  refine lv_istore_n (lv' := [(2, .int (1 : Int32)), (0, .ref m0), (1, .int (nI ka))]) hx hb d_M_may_1 rfl hl (by decide) rfl (fun ls hl => ?_)
  refine lv_iconst (v := (0 : Int32)) hx hb d_M_may_2 (by decide) ?_
  refine lv_istore_n (lv' := [(3, .int (0 : Int32)), (2, .int (1 : Int32)), (0, .ref m0), (1, .int (nI ka))]) hx hb d_M_may_3 rfl hl (by decide) rfl (fun ls hl => ?_)
  have lp_4 : ∀ (n9 : Nat) (k : Nat) (v : Int32) (ls : Array Slot) (H : Heap) (locs : List Loc), rn - k = n9 → (k ≤ rn) → ((v = 1 ∧ ∀ q9, q9 < k → ¬ prm wf q9 vf 0 < prm wf q9 pf (4 * ka)) ∨ v = 0) → lv_has ls 4 [(3, .int (nI k)), (2, .int v), (0, .ref m0), (1, .int (nI ka))] → va_P D kl [(m0, .inr (7, [.int th, .int zz, .int (nI rn), .ref rw, .int kn, .int rk, .int y1, .ref ry, .int sp, .int lg, .ref ti, .int fo, .int pt, .ref po, .ref su, .ref sq, .ref ch, .ref vt, .ref sh])), (rw, .inl (cI, 32, .inl wf)), (po, .inl (cI, 4000, .inl pf)), (vt, .inl (cI, 4, .inl vf))] H → va_D A [(m0, .inr (7, [.int th, .int zz, .int (nI rn), .ref rw, .int kn, .int rk, .int y1, .ref ry, .int sp, .int lg, .ref ti, .int fo, .int pt, .ref po, .ref su, .ref sq, .ref ch, .ref vt, .ref sh])), (rw, .inl (cI, 32, .inl wf)), (po, .inl (cI, 4000, .inl pf)), (vt, .inl (cI, 4, .inl vf))] → va_S A s.heap H locs → W p l e ({ frames := 1, cells := 0, slots := 0, locals := 26 } : Room) s m ([.ref m0, .int (nI ka)] : List Value).toArray below meth c H locs 0 0 Q (F0 m 4 ls []) := by
    intro n9
    induction n9 using Nat.strongRecOn with
    | ind n9 ih_4 =>
      intro k v ls H locs hm_4 hk9 hv9 hl hP hD hS
      refine lv_iload_n hx hb d_M_may_4 rfl (lv_at hl 0 rfl) ?_
      refine lv_aload_n hx hb d_M_may_5 rfl (lv_at hl 2 rfl) ?_
      refine va_get (D := D) (ci := 7) (v := .int (nI rn)) (C := cn_M) (T := ft_M) (N := 19) hx hb hf_M (fun _ h => h) hown hK hP 0 rfl rfl 2 (by decide) (gw.at G hx0 mw_715 rfl _) (fun _ h9 => h9) rfl d_M_may_6 ?_
      refine lv_icmp_ge (tgt := 54) hx hb d_M_may_9 (by decide) (fun h_1 => ?_) (fun h_1 => ?_)
      · have h_1 : rn ≤ k := (nI_leI (a := rn) (b := k) (by omega) (by omega)).mp h_1
        refine lv_iload_n hx hb d_M_may_54 rfl (lv_at hl 1 rfl) ?_
        have hk8 : k = rn := by omega
        refine tp_i (y := (0 : Int32)) (hv9.elim (fun z9 => absurd (hk8 ▸ z9.2) h) id) ?_
        rw [← hQe]
        exact tx_mono (fun _ h => tx_Z.of h) (W.zret (v := (0 : Int32)) hx hb hr (by decide) (fun t ht hW => ⟨⟨[(m0, .inr (7, [.int th, .int zz, .int (nI rn), .ref rw, .int kn, .int rk, .int y1, .ref ry, .int sp, .int lg, .ref ti, .int fo, .int pt, .ref po, .ref su, .ref sq, .ref ch, .ref vt, .ref sh])), (rw, .inl (cI, 32, .inl wf)), (po, .inl (cI, 4000, .inl pf)), (vt, .inl (cI, 4, .inl vf))], ⟨rfl, rfl⟩, by rw [ht]; exact hP.sub [0, 1, 2, 3] rfl, hD.sub [0, 1, 2, 3] (by decide) rfl⟩, hS.F ht⟩) hS.2.2 d_M_may_55)
      · have h_1 : ¬ (rn ≤ k) := fun z99 => h_1 ((nI_leI (a := rn) (b := k) (by omega) (by omega)).mpr z99)
        refine lv_iload_n hx hb d_M_may_12 rfl (lv_at hl 1 rfl) ?_
        refine lv_if_eq (tgt := 46) hx hb d_M_may_13 (by decide) (fun h_2 => ?_) (fun h_2 => ?_)
        · refine lv_iconst (v := (0 : Int32)) hx hb d_M_may_46 (by decide) ?_
          refine lv_istore_n (lv' := [(2, .int (0 : Int32)), (3, .int (nI k)), (0, .ref m0), (1, .int (nI ka))]) hx hb d_M_may_47 rfl hl (by decide) rfl (fun ls hl => ?_)
          refine lv_iinc (lv' := [(3, .int (nI (k + 1))), (2, .int (0 : Int32)), (0, .ref m0), (1, .int (nI ka))]) (k := 1) (v := nI (k + 1)) hx hb d_M_may_48 hl rfl (nI_add k 1) (by decide) rfl (fun ls hl => ?_)
          refine lv_goto (tgt := 4) hx hb d_M_may_51 (by decide) ?_
          exact ih_4 _ (by omega) (k + 1) 0 ls H locs rfl (by omega) (Or.inr rfl) (lv_sub hl [0, 1, 2, 3] rfl) (hP.sub [0, 1, 2, 3] rfl) (hD.sub [0, 1, 2, 3] (by decide) rfl) hS
        · refine lv_aload_n hx hb d_M_may_16 rfl (lv_at hl 2 rfl) ?_
          refine lv_iload_n hx hb d_M_may_17 rfl (lv_at hl 0 rfl) ?_
          refine lv_aload_n hx hb d_M_may_18 rfl (lv_at hl 2 rfl) ?_
          refine va_get (D := D) (ci := 7) (v := .ref vt) (C := cn_M) (T := ft_M) (N := 19) hx hb hf_M (fun _ h => h) hown hK hP 0 rfl rfl 17 (by decide) (gw.at G hx0 mw_730 rfl _) (fun _ h9 => h9) rfl d_M_may_19 ?_
          refine lv_iconst (v := (0 : Int32)) hx hb d_M_may_22 (by decide) ?_
          refine cx_call (D := D) (cl := kl) (ws := _) (wc := [(m0, .inr (7, [.int th, .int zz, .int (nI rn), .ref rw, .int kn, .int rk, .int y1, .ref ry, .int sp, .int lg, .ref ti, .int fo, .int pt, .ref po, .ref su, .ref sq, .ref ch, .ref vt, .ref sh])), (rw, .inl (cI, 32, .inl wf)), (vt, .inl (cI, 4, .inl vf))]) (wr := [(po, .inl (cI, 4000, .inl pf))]) (tx_runV (C := cn_M) (b := m0) (As := [.int (nI k), .ref vt, .int (0 : Int32)]) (rest := []) hx hb hml hown (c_M_product E H.size m0 rw ry ti po su sq ch vt sh th zz kn rk y1 sp lg fo pt rn wf k vt 4 vf 0 (by omega) (by omega) (by decide)) (cx_C (b0 := b0) G hx0 mw_840 mw_9 ny_M_product (by decide)) (gw.at G hx0 mw_837 rfl _) (gw.at G hx0 mw_839 rfl _) (gw.at G hx0 ms_M_product rfl _) ⟨cx_blind, va_recv hK hP (q0 := 0) (ci := 7) (q := (cn_M, ft_M, 19)) rfl rfl, (cx_pre (s := s) hx0 hP hD hS hA0 [0, 1, 3] rfl rfl (by decide))⟩ rfl rfl hl.1 rfl (lv_room (Nat.le_of_ble_eq_true rfl)) d_M_may_23 ⟨by decide, by decide⟩) hP hD hS hA [0, 1, 3] [2] rfl rfl (by decide) (by decide) (fun v t w1 H locs ht hW9 hp hP hD hS => ?_) (fun x t w1 H locs ht hW9 hp hP hD hS => by obtain ⟨h9, -⟩ := hp; cases h9)
          obtain ⟨h9, rfl⟩ := hp
          cases h9
          refine W.eq (g2 := F0 m 26 ls [.long (prm wf k vf 0)]) rfl ?_
          refine W.widen (k := 0) (n := 0) (by decide) (by decide) ?_
          have hP : va_P D kl [(po, .inl (cI, 4000, .inl pf)), (m0, .inr (7, [.int th, .int zz, .int (nI rn), .ref rw, .int kn, .int rk, .int y1, .ref ry, .int sp, .int lg, .ref ti, .int fo, .int pt, .ref po, .ref su, .ref sq, .ref ch, .ref vt, .ref sh])), (rw, .inl (cI, 32, .inl wf)), (vt, .inl (cI, 4, .inl vf))] H := hP
          have hD : va_D A [(po, .inl (cI, 4000, .inl pf)), (m0, .inr (7, [.int th, .int zz, .int (nI rn), .ref rw, .int kn, .int rk, .int y1, .ref ry, .int sp, .int lg, .ref ti, .int fo, .int pt, .ref po, .ref su, .ref sq, .ref ch, .ref vt, .ref sh])), (rw, .inl (cI, 32, .inl wf)), (vt, .inl (cI, 4, .inl vf))] := hD
          refine lv_aload_n hx hb d_M_may_26 rfl (lv_at hl 2 rfl) ?_
          refine lv_iload_n hx hb d_M_may_27 rfl (lv_at hl 0 rfl) ?_
          refine lv_aload_n hx hb d_M_may_28 rfl (lv_at hl 2 rfl) ?_
          refine va_get (D := D) (ci := 7) (v := .ref po) (C := cn_M) (T := ft_M) (N := 19) hx hb hf_M (fun _ h => h) hown hK hP 1 rfl rfl 13 (by decide) (gw.at G hx0 mw_726 rfl _) (fun _ h9 => h9) rfl d_M_may_29 ?_
          refine lv_iconst (v := (4 : Int32)) hx hb d_M_may_32 (by decide) ?_
          refine lv_iload_n hx hb d_M_may_33 rfl (lv_at hl 3 rfl) ?_
          refine lv_imul hx hb d_M_may_34 ?_
          refine tp_i (y := nI (4 * ka)) (nI_mul 4 ka) ?_
          refine cx_call (D := D) (cl := kl) (ws := _) (wc := [(m0, .inr (7, [.int th, .int zz, .int (nI rn), .ref rw, .int kn, .int rk, .int y1, .ref ry, .int sp, .int lg, .ref ti, .int fo, .int pt, .ref po, .ref su, .ref sq, .ref ch, .ref vt, .ref sh])), (rw, .inl (cI, 32, .inl wf)), (po, .inl (cI, 4000, .inl pf))]) (wr := [(vt, .inl (cI, 4, .inl vf))]) (tx_runV (C := cn_M) (b := m0) (As := [.int (nI k), .ref po, .int (nI (4 * ka))]) (rest := [.long (prm wf k vf 0)]) hx hb hml hown (c_M_product E H.size m0 rw ry ti po su sq ch vt sh th zz kn rk y1 sp lg fo pt rn wf k po 4000 pf (4 * ka) (by omega) (by omega) (by decide)) (cx_C (b0 := b0) G hx0 mw_840 mw_9 ny_M_product (by decide)) (gw.at G hx0 mw_837 rfl _) (gw.at G hx0 mw_839 rfl _) (gw.at G hx0 ms_M_product rfl _) ⟨cx_blind, va_recv hK hP (q0 := 1) (ci := 7) (q := (cn_M, ft_M, 19)) rfl rfl, (cx_pre (s := s) hx0 hP hD hS hA0 [1, 2, 0] rfl rfl (by decide))⟩ rfl rfl hl.1 rfl (lv_room (Nat.le_of_ble_eq_true rfl)) d_M_may_35 ⟨by decide, by decide⟩) hP hD hS hA [1, 2, 0] [3] rfl rfl (by decide) (by decide) (fun v t w1 H locs ht hW9 hp hP hD hS => ?_) (fun x t w1 H locs ht hW9 hp hP hD hS => by obtain ⟨h9, -⟩ := hp; cases h9)
          obtain ⟨h9, rfl⟩ := hp
          cases h9
          refine W.eq (g2 := F0 m 38 ls [.long (prm wf k pf (4 * ka)), .long (prm wf k vf 0)]) rfl ?_
          refine W.widen (k := 0) (n := 0) (by decide) (by decide) ?_
          have hP : va_P D kl [(vt, .inl (cI, 4, .inl vf)), (m0, .inr (7, [.int th, .int zz, .int (nI rn), .ref rw, .int kn, .int rk, .int y1, .ref ry, .int sp, .int lg, .ref ti, .int fo, .int pt, .ref po, .ref su, .ref sq, .ref ch, .ref vt, .ref sh])), (rw, .inl (cI, 32, .inl wf)), (po, .inl (cI, 4000, .inl pf))] H := hP
          have hD : va_D A [(vt, .inl (cI, 4, .inl vf)), (m0, .inr (7, [.int th, .int zz, .int (nI rn), .ref rw, .int kn, .int rk, .int y1, .ref ry, .int sp, .int lg, .ref ti, .int fo, .int pt, .ref po, .ref su, .ref sq, .ref ch, .ref vt, .ref sh])), (rw, .inl (cI, 32, .inl wf)), (po, .inl (cI, 4000, .inl pf))] := hD
          refine W.lcmp hx hb d_M_may_38 ?_
          refine lv_if_lt (tgt := 46) hx hb d_M_may_39 (by decide) (fun h_3 => ?_) (fun h_3 => ?_)
          · refine lv_iconst (v := (0 : Int32)) hx hb d_M_may_46 (by decide) ?_
            refine lv_istore_n (lv' := [(2, .int (0 : Int32)), (3, .int (nI k)), (0, .ref m0), (1, .int (nI ka))]) hx hb d_M_may_47 rfl hl (by decide) rfl (fun ls hl => ?_)
            refine lv_iinc (lv' := [(3, .int (nI (k + 1))), (2, .int (0 : Int32)), (0, .ref m0), (1, .int (nI ka))]) (k := 1) (v := nI (k + 1)) hx hb d_M_may_48 hl rfl (nI_add k 1) (by decide) rfl (fun ls hl => ?_)
            refine lv_goto (tgt := 4) hx hb d_M_may_51 (by decide) ?_
            exact ih_4 _ (by omega) (k + 1) 0 ls H locs rfl (by omega) (Or.inr rfl) (lv_sub hl [0, 1, 2, 3] rfl) (hP.sub [1, 2, 3, 0] rfl) (hD.sub [1, 2, 3, 0] (by decide) rfl) hS
          · refine lv_iconst (v := (1 : Int32)) hx hb d_M_may_42 (by decide) ?_
            refine lv_goto (tgt := 47) hx hb d_M_may_43 (by decide) ?_
            refine lv_istore_n (lv' := [(2, .int (1 : Int32)), (3, .int (nI k)), (0, .ref m0), (1, .int (nI ka))]) hx hb d_M_may_47 rfl hl (by decide) rfl (fun ls hl => ?_)
            refine lv_iinc (lv' := [(3, .int (nI (k + 1))), (2, .int (1 : Int32)), (0, .ref m0), (1, .int (nI ka))]) (k := 1) (v := nI (k + 1)) hx hb d_M_may_48 hl rfl (nI_add k 1) (by decide) rfl (fun ls hl => ?_)
            refine lv_goto (tgt := 4) hx hb d_M_may_51 (by decide) ?_
            exact ih_4 _ (by omega) (k + 1) 1 ls H locs rfl (by omega) (Or.inl ⟨rfl, fun q9 hq9 => (Nat.lt_succ_iff_lt_or_eq.mp hq9).elim ((hv9.elim id (fun z9 => absurd z9 h_2)).2 q9) (fun e9 => by rw [e9]; exact (fun z9 => h_3 ((lg_cmp_lt _ _).mpr z9)))⟩) (lv_sub hl [0, 1, 2, 3] rfl) (hP.sub [1, 2, 3, 0] rfl) (hD.sub [1, 2, 3, 0] (by decide) rfl) hS
  exact lp_4 _ 0 1 ls s.heap [] rfl (Nat.zero_le _) (Or.inl ⟨rfl, fun q9 hq9 => absurd hq9 (Nat.not_lt_zero q9)⟩) (lv_sub hl [0, 1, 2, 3] rfl) (hP.sub [0, 1, 2, 3] rfl) (hD.sub [0, 1, 2, 3] (by decide) rfl) hS

theorem pwn_0z {n : Nat} (h : n = 0) : 0 = pwn n 0 := by unfold pwn; rw [if_pos h]
theorem pwn_0y {n : Nat} (h : ¬ n = 0) : 1 = pwn n 0 := by unfold pwn; rw [if_neg h]; rfl
theorem pwn_s {n k : Nat} : pwn n k * n = pwn n (k + 1) := by
  unfold pwn
  by_cases h : n = 0
  · rw [if_pos h, if_pos h, Nat.zero_mul]
  · rw [if_neg h, if_neg h, Nat.pow_succ]
theorem pwn_pos {n sp : Nat} (h : 1 < pwn n sp) : 0 < n := by
  unfold pwn at h
  by_cases e : n = 0
  · rw [if_pos e] at h; omega
  · omega
set_option maxHeartbeats 4000000 in
set_option maxRecDepth 100000 in
theorem c_M_box {l : Launch} {s0 : State} {b0 : Addr} {D : va_G} {cI cJ cZ : ClassId} {tC tS : Nat} (E : gE l s0 b0 D cI cJ cZ tC tS) (sz : Nat) (m0 : Nat) (rw : Nat) (ry : Nat) (ti : Nat) (po : Nat) (su : Nat) (sq : Nat) (ch : Nat) (vt : Nat) (sh : Nat) (th : Int32) (zz : Int32) (rn : Int32) (kn : Int32) (rk : Int32) (y1 : Int32) (lg : Int32) (fo : Int32) (sp : Nat) (pt : Nat) (yf : Nat → Int32) (ck : Nat → Nat) (pf : Nat → Int32) (vf : Nat → Int32) (sk : Nat → Nat) (ix : Int64) (n : Nat) (hn : n ≤ 12) (hix : ix.toInt32 = nI n) (hs4 : sp ≤ 4) (hpt : pt ≤ 1000) (hck : ∀ j, ck j < 8) (hsk : ∀ j, sk j < 12) : cx_M l s0 D kl y_M_box b_M_box 11 none ({ frames := 2, cells := 0, slots := 0, locals := 45 } : Room) 0 0 [.ref m0, .long ix] [(m0, .inr (7, [.int th, .int zz, .int rn, .ref rw, .int kn, .int rk, .int y1, .ref ry, .int (nI sp), .int lg, .ref ti, .int fo, .int (nI pt), .ref po, .ref su, .ref sq, .ref ch, .ref vt, .ref sh])), (ry, .inl (cI, 256, .inl yf)), (ch, .inl (cI, 8, .inl (nf ck))), (po, .inl (cI, 4000, .inl pf)), (vt, .inl (cI, 4, .inl vf)), (sh, .inl (cI, 4, .inl (nf sk)))] sz (fun o9 _ w9 => ∃ (p9 : Nat) (f9 : Nat → Int32) (v9 : Nat → Int32) (s9 : Nat → Nat), o9 = .returned none ∧ box yf ck n sp ((pt, pf), vf, sk) = ((p9, f9), v9, s9) ∧ p9 ≤ 1000 ∧ (∀ j, s9 j < 12) ∧ w9 = [(m0, .inr (7, [.int th, .int zz, .int rn, .ref rw, .int kn, .int rk, .int y1, .ref ry, .int (nI sp), .int lg, .ref ti, .int fo, .int (nI p9), .ref po, .ref su, .ref sq, .ref ch, .ref vt, .ref sh])), (ry, .inl (cI, 256, .inl yf)), (ch, .inl (cI, 8, .inl (nf ck))), (po, .inl (cI, 4000, .inl f9)), (vt, .inl (cI, 4, .inl v9)), (sh, .inl (cI, 4, .inl (nf s9)))]) := by
  refine tx_ofW (cc := b_M_box) (maxL := 11) (ret := none) (by decide) rfl ?_
  intro p e s m args below meth c s₁ B hml hT hv
  obtain ⟨rfl, hsz, hP, hD0, hx0⟩ := hv
  have hx := B.exec
  have hb := B.bytes
  have hr := B.returns
  have G := E.2.1
  have hown : s.vm.findClass cn_M = some m.cls := findClass_of_methodNamed B.named
  have hlocks := B.notSynchronized
  have hK := va_K.moved hx0.1.alike E.2.2.1
  have hf_M : ∀ w99 ∈ u_ws cn_M ft_M 19, w99.before ([.ref m0, .long ix] : List Value).toArray s = true := fun w99 h99 => gw.at G hx0 (fw_M w99 h99) (fo_M w99 h99) _
  subst hsz
  have hA0 := cx_new hD0 hx0.2.1
  have hD := hD0.self (sz := s.heap.size)
  generalize hAe : va_A [(m0, .inr (7, [.int th, .int zz, .int rn, .ref rw, .int kn, .int rk, .int y1, .ref ry, .int (nI sp), .int lg, .ref ti, .int fo, .int (nI pt), .ref po, .ref su, .ref sq, .ref ch, .ref vt, .ref sh])), (ry, .inl (cI, 256, .inl yf)), (ch, .inl (cI, 8, .inl (nf ck))), (po, .inl (cI, 4000, .inl pf)), (vt, .inl (cI, 4, .inl vf)), (sh, .inl (cI, 4, .inl (nf sk)))] s.heap.size = A at hD hA0 ⊢
  have hA : ∀ q : Nat, s.heap.size ≤ q → A q := fun q h => by rw [← hAe]; exact Or.inr h
  have hS : va_S A s.heap s.heap [] := va_S.rf
  have hl := lv_entry ([.ref m0, .long ix]) (n := 11) (Nat.le_of_ble_eq_true rfl)
  rw [lg_entry_eq]
  generalize (lg_sl ([.ref m0, .long ix]) ++ List.replicate (11 - (lg_sl ([.ref m0, .long ix])).length) Slot.unset).toArray = ls at hl ⊢
  have hl : lv_has ls 11 [(0, .ref m0), (1, .long ix)] := hl
  have hP : va_P D kl [(m0, .inr (7, [.int th, .int zz, .int rn, .ref rw, .int kn, .int rk, .int y1, .ref ry, .int (nI sp), .int lg, .ref ti, .int fo, .int (nI pt), .ref po, .ref su, .ref sq, .ref ch, .ref vt, .ref sh])), (ry, .inl (cI, 256, .inl yf)), (ch, .inl (cI, 8, .inl (nf ck))), (po, .inl (cI, 4000, .inl pf)), (vt, .inl (cI, 4, .inl vf)), (sh, .inl (cI, 4, .inl (nf sk)))] s.heap := hP
  have hml : c.maxLocals = 11 := hml
  generalize hQe : tx_Z below (cx_Q D kl A (fun o9 _ w9 => ∃ (p9 : Nat) (f9 : Nat → Int32) (v9 : Nat → Int32) (s9 : Nat → Nat), o9 = .returned none ∧ box yf ck n sp ((pt, pf), vf, sk) = ((p9, f9), v9, s9) ∧ p9 ≤ 1000 ∧ (∀ j, s9 j < 12) ∧ w9 = [(m0, .inr (7, [.int th, .int zz, .int rn, .ref rw, .int kn, .int rk, .int y1, .ref ry, .int (nI sp), .int lg, .ref ti, .int fo, .int (nI p9), .ref po, .ref su, .ref sq, .ref ch, .ref vt, .ref sh])), (ry, .inl (cI, 256, .inl yf)), (ch, .inl (cI, 8, .inl (nf ck))), (po, .inl (cI, 4000, .inl f9)), (vt, .inl (cI, 4, .inl v9)), (sh, .inl (cI, 4, .inl (nf s9)))])) ([.ref m0, .long ix] : List Value).toArray s 0 0 A = Q
  refine lv_lload_n hx hb d_M_box_0 rfl (lv_at hl 1 rfl) ?_
  refine lv_l2i (v := ix.toInt32) hx hb d_M_box_1 rfl ?_
  refine tp_i (y := nI n) hix ?_
  refine lv_istore_n (lv' := [(3, .int (nI n)), (0, .ref m0), (1, .long ix)]) hx hb d_M_box_2 rfl hl (by decide) rfl (fun ls hl => ?_)
  refine lv_iload_n hx hb d_M_box_3 rfl (lv_at hl 0 rfl) ?_
  refine lv_if_ne (tgt := 11) hx hb d_M_box_4 (by decide) (fun h_1 => ?_) (fun h_1 => ?_)
  · have h_1 : ¬ (n = 0) := fun z99 => h_1 ((nI_eq (a := n) (b := 0) (by omega) (by omega)).mpr z99)
    refine lv_iconst (v := (1 : Int32)) hx hb d_M_box_11 (by decide) ?_
    refine lv_istore (lv' := [(4, .int (1 : Int32)), (3, .int (nI n)), (0, .ref m0), (1, .long ix)]) hx hb d_M_box_12 hl (by decide) rfl (fun ls hl => ?_)
    refine lv_iconst (v := (0 : Int32)) hx hb d_M_box_14 (by decide) ?_
    refine lv_istore (lv' := [(5, .int (0 : Int32)), (4, .int (1 : Int32)), (3, .int (nI n)), (0, .ref m0), (1, .long ix)]) hx hb d_M_box_15 hl (by decide) rfl (fun ls hl => ?_)
    have lp_17 : ∀ (n9 : Nat) (k : Nat) (al : Nat) (ls : Array Slot) (H : Heap) (locs : List Loc), sp - k = n9 → (al = pwn n k) → (k ≤ sp) → (al ≤ 12 ^ k) → lv_has ls 11 [(5, .int (nI k)), (4, .int (nI al)), (3, .int (nI n)), (0, .ref m0)] → va_P D kl [(m0, .inr (7, [.int th, .int zz, .int rn, .ref rw, .int kn, .int rk, .int y1, .ref ry, .int (nI sp), .int lg, .ref ti, .int fo, .int (nI pt), .ref po, .ref su, .ref sq, .ref ch, .ref vt, .ref sh])), (ry, .inl (cI, 256, .inl yf)), (ch, .inl (cI, 8, .inl (nf ck))), (po, .inl (cI, 4000, .inl pf)), (vt, .inl (cI, 4, .inl vf)), (sh, .inl (cI, 4, .inl (nf sk)))] H → va_D A [(m0, .inr (7, [.int th, .int zz, .int rn, .ref rw, .int kn, .int rk, .int y1, .ref ry, .int (nI sp), .int lg, .ref ti, .int fo, .int (nI pt), .ref po, .ref su, .ref sq, .ref ch, .ref vt, .ref sh])), (ry, .inl (cI, 256, .inl yf)), (ch, .inl (cI, 8, .inl (nf ck))), (po, .inl (cI, 4000, .inl pf)), (vt, .inl (cI, 4, .inl vf)), (sh, .inl (cI, 4, .inl (nf sk)))] → va_S A s.heap H locs → W p l e ({ frames := 2, cells := 0, slots := 0, locals := 45 } : Room) s m ([.ref m0, .long ix] : List Value).toArray below meth c H locs 0 0 Q (F0 m 17 ls []) := by
      intro n9
      induction n9 using Nat.strongRecOn with
      | ind n9 ih_17 =>
        intro k al ls H locs hm_17 hal hk9 ha12 hl hP hD hS
        refine lv_iload hx hb d_M_box_17 (lv_at hl 0 rfl) ?_
        refine lv_aload_n hx hb d_M_box_19 rfl (lv_at hl 3 rfl) ?_
        refine va_get (D := D) (ci := 7) (v := .int (nI sp)) (C := cn_M) (T := ft_M) (N := 19) hx hb hf_M (fun _ h => h) hown hK hP 0 rfl rfl 8 (by decide) (gw.at G hx0 mw_721 rfl _) (fun _ h9 => h9) rfl d_M_box_20 ?_
        refine lv_icmp_ge (tgt := 38) hx hb d_M_box_23 (by decide) (fun h_2 => ?_) (fun h_2 => ?_)
        · have h_2 : sp ≤ k := (nI_leI (a := sp) (b := k) (by omega) (by omega)).mp h_2
          have hkk : k = sp := by omega
          rw [hkk] at hal ha12
          have h12 : 12 ^ sp ≤ 12 ^ 4 := Nat.pow_le_pow_right (by decide) hs4
          have hap : pwn n sp ≤ 20736 := by rw [← hal]; exact Nat.le_trans ha12 h12
          rw [hal] at hl
          refine lv_iconst (v := (1 : Int32)) hx hb d_M_box_38 (by decide) ?_
          refine lv_istore (lv' := [(5, .int (1 : Int32)), (4, .int (nI (pwn n sp))), (3, .int (nI n)), (0, .ref m0)]) hx hb d_M_box_39 hl (by decide) rfl (fun ls hl => ?_)
          have lp_41 : ∀ (n9 : Nat) (m2 : Nat) (p1 : Nat) (f1 : Nat → Int32) (v1 : Nat → Int32) (s1 : Nat → Nat) (ls : Array Slot) (H : Heap) (locs : List Loc), pwn n sp - m2 = n9 → (bxl yf ck n sp m2 ((pt, pf), vf, sk) = ((p1, f1), v1, s1)) → (m2 ≤ pwn n sp - 1) → (p1 ≤ 1000) → (∀ j, s1 j < 12) → lv_has ls 11 [(5, .int (nI (1 + m2))), (4, .int (nI (pwn n sp))), (3, .int (nI n)), (0, .ref m0)] → va_P D kl [(m0, .inr (7, [.int th, .int zz, .int rn, .ref rw, .int kn, .int rk, .int y1, .ref ry, .int (nI sp), .int lg, .ref ti, .int fo, .int (nI p1), .ref po, .ref su, .ref sq, .ref ch, .ref vt, .ref sh])), (ry, .inl (cI, 256, .inl yf)), (ch, .inl (cI, 8, .inl (nf ck))), (po, .inl (cI, 4000, .inl f1)), (vt, .inl (cI, 4, .inl v1)), (sh, .inl (cI, 4, .inl (nf s1)))] H → va_D A [(m0, .inr (7, [.int th, .int zz, .int rn, .ref rw, .int kn, .int rk, .int y1, .ref ry, .int (nI sp), .int lg, .ref ti, .int fo, .int (nI p1), .ref po, .ref su, .ref sq, .ref ch, .ref vt, .ref sh])), (ry, .inl (cI, 256, .inl yf)), (ch, .inl (cI, 8, .inl (nf ck))), (po, .inl (cI, 4000, .inl f1)), (vt, .inl (cI, 4, .inl v1)), (sh, .inl (cI, 4, .inl (nf s1)))] → va_S A s.heap H locs → W p l e ({ frames := 2, cells := 0, slots := 0, locals := 45 } : Room) s m ([.ref m0, .long ix] : List Value).toArray below meth c H locs 0 0 Q (F0 m 41 ls []) := by
            intro n9
            induction n9 using Nat.strongRecOn with
            | ind n9 ih_41 =>
              intro m2 p1 f1 v1 s1 ls H locs hm_41 hbl hm9 hp1 hs1 hl hP hD hS
              refine lv_iload hx hb d_M_box_41 (lv_at hl 0 rfl) ?_
              refine lv_iload hx hb d_M_box_43 (lv_at hl 1 rfl) ?_
              refine lv_icmp_ge (tgt := 201) hx hb d_M_box_45 (by decide) (fun h_3 => ?_) (fun h_3 => ?_)
              · have h_3 : (pwn n sp) ≤ (1 + m2) := (nI_leI (a := pwn n sp) (b := 1 + m2) (by omega) (by omega)).mp h_3
                rw [← hQe]
                exact tx_mono (fun _ h => tx_Z.of h) (W.vret hx hb hr (fun t ht hW => ⟨⟨[(m0, .inr (7, [.int th, .int zz, .int rn, .ref rw, .int kn, .int rk, .int y1, .ref ry, .int (nI sp), .int lg, .ref ti, .int fo, .int (nI p1), .ref po, .ref su, .ref sq, .ref ch, .ref vt, .ref sh])), (ry, .inl (cI, 256, .inl yf)), (ch, .inl (cI, 8, .inl (nf ck))), (po, .inl (cI, 4000, .inl f1)), (vt, .inl (cI, 4, .inl v1)), (sh, .inl (cI, 4, .inl (nf s1)))], ⟨p1, f1, v1, s1, rfl, (by unfold box; rw [show pwn n sp - 1 = m2 by omega]; exact hbl), hp1, hs1, rfl⟩, by rw [ht]; exact hP.sub [0, 1, 2, 3, 4, 5] rfl, hD.sub [0, 1, 2, 3, 4, 5] (by decide) rfl⟩, hS.F ht⟩) hS.2.2 d_M_box_201)
              · have h_3 : ¬ ((pwn n sp) ≤ (1 + m2)) := fun z99 => h_3 ((nI_leI (a := pwn n sp) (b := 1 + m2) (by omega) (by omega)).mpr z99)
                have hn0 : 0 < n := pwn_pos (sp := sp) (by omega)
                refine lv_iload hx hb d_M_box_48 (lv_at hl 0 rfl) ?_
                refine lv_istore (lv' := [(6, .int (nI (1 + m2))), (5, .int (nI (1 + m2))), (4, .int (nI (pwn n sp))), (3, .int (nI n)), (0, .ref m0)]) hx hb d_M_box_50 hl (by decide) rfl (fun ls hl => ?_)
                refine lv_iconst (v := (0 : Int32)) hx hb d_M_box_52 (by decide) ?_
                refine lv_istore (lv' := [(7, .int (0 : Int32)), (6, .int (nI (1 + m2))), (5, .int (nI (1 + m2))), (4, .int (nI (pwn n sp))), (3, .int (nI n)), (0, .ref m0)]) hx hb d_M_box_53 hl (by decide) rfl (fun ls hl => ?_)
                have lp_55 : ∀ (n9 : Nat) (k2 : Nat) (rs : Nat) (s2 : Nat → Nat) (ls : Array Slot) (H : Heap) (locs : List Loc), sp - k2 = n9 → (shr n k2 (1 + m2, s1) = (rs, s2)) → (k2 ≤ sp) → (∀ j, s2 j < 12) → (rs < 2 ^ 31) → lv_has ls 11 [(7, .int (nI k2)), (6, .int (nI rs)), (5, .int (nI (1 + m2))), (4, .int (nI (pwn n sp))), (3, .int (nI n)), (0, .ref m0)] → va_P D kl [(m0, .inr (7, [.int th, .int zz, .int rn, .ref rw, .int kn, .int rk, .int y1, .ref ry, .int (nI sp), .int lg, .ref ti, .int fo, .int (nI p1), .ref po, .ref su, .ref sq, .ref ch, .ref vt, .ref sh])), (ry, .inl (cI, 256, .inl yf)), (ch, .inl (cI, 8, .inl (nf ck))), (po, .inl (cI, 4000, .inl f1)), (vt, .inl (cI, 4, .inl v1)), (sh, .inl (cI, 4, .inl (nf s2)))] H → va_D A [(m0, .inr (7, [.int th, .int zz, .int rn, .ref rw, .int kn, .int rk, .int y1, .ref ry, .int (nI sp), .int lg, .ref ti, .int fo, .int (nI p1), .ref po, .ref su, .ref sq, .ref ch, .ref vt, .ref sh])), (ry, .inl (cI, 256, .inl yf)), (ch, .inl (cI, 8, .inl (nf ck))), (po, .inl (cI, 4000, .inl f1)), (vt, .inl (cI, 4, .inl v1)), (sh, .inl (cI, 4, .inl (nf s2)))] → va_S A s.heap H locs → W p l e ({ frames := 2, cells := 0, slots := 0, locals := 45 } : Room) s m ([.ref m0, .long ix] : List Value).toArray below meth c H locs 0 0 Q (F0 m 55 ls []) := by
                  intro n9
                  induction n9 using Nat.strongRecOn with
                  | ind n9 ih_55 =>
                    intro k2 rs s2 ls H locs hm_55 hsr hk2 hs2 hrs hl hP hD hS
                    refine lv_iload hx hb d_M_box_55 (lv_at hl 0 rfl) ?_
                    refine lv_aload_n hx hb d_M_box_57 rfl (lv_at hl 5 rfl) ?_
                    refine va_get (D := D) (ci := 7) (v := .int (nI sp)) (C := cn_M) (T := ft_M) (N := 19) hx hb hf_M (fun _ h => h) hown hK hP 0 rfl rfl 8 (by decide) (gw.at G hx0 mw_721 rfl _) (fun _ h9 => h9) rfl d_M_box_58 ?_
                    refine lv_icmp_ge (tgt := 87) hx hb d_M_box_61 (by decide) (fun h_4 => ?_) (fun h_4 => ?_)
                    · have h_4 : sp ≤ k2 := (nI_leI (a := sp) (b := k2) (by omega) (by omega)).mp h_4
                      have hk22 : k2 = sp := by omega
                      have hsr9 := hsr
                      rw [hk22] at hsr9
                      refine lv_iconst (v := (1 : Int32)) hx hb d_M_box_87 (by decide) ?_
                      refine lv_istore (lv' := [(7, .int (1 : Int32)), (6, .int (nI rs)), (5, .int (nI (1 + m2))), (4, .int (nI (pwn n sp))), (3, .int (nI n)), (0, .ref m0)]) hx hb d_M_box_88 hl (by decide) rfl (fun ls hl => ?_)
                      refine lv_iconst (v := (0 : Int32)) hx hb d_M_box_90 (by decide) ?_
                      refine lv_istore (lv' := [(8, .int (0 : Int32)), (7, .int (1 : Int32)), (6, .int (nI rs)), (5, .int (nI (1 + m2))), (4, .int (nI (pwn n sp))), (3, .int (nI n)), (0, .ref m0)]) hx hb d_M_box_91 hl (by decide) rfl (fun ls hl => ?_)
                      have lp_93 : ∀ (n9 : Nat) (i : Nat) (v2 : Nat → Int32) (wh : Int32) (ls : Array Slot) (H : Heap) (locs : List Loc), 4 - i = n9 → (bxV s2 yf ck n sp i v1 = v2) → (i ≤ 4) → ((wh = 1 ∧ ∀ q9, q9 < i → bxD s2 yf ck n sp q9) ∨ (wh = 0 ∧ ¬ ∀ q9, q9 < i → bxD s2 yf ck n sp q9)) → lv_has ls 11 [(8, .int (nI i)), (7, .int wh), (5, .int (nI (1 + m2))), (4, .int (nI (pwn n sp))), (3, .int (nI n)), (0, .ref m0)] → va_P D kl [(m0, .inr (7, [.int th, .int zz, .int rn, .ref rw, .int kn, .int rk, .int y1, .ref ry, .int (nI sp), .int lg, .ref ti, .int fo, .int (nI p1), .ref po, .ref su, .ref sq, .ref ch, .ref vt, .ref sh])), (ry, .inl (cI, 256, .inl yf)), (ch, .inl (cI, 8, .inl (nf ck))), (po, .inl (cI, 4000, .inl f1)), (vt, .inl (cI, 4, .inl v2)), (sh, .inl (cI, 4, .inl (nf s2)))] H → va_D A [(m0, .inr (7, [.int th, .int zz, .int rn, .ref rw, .int kn, .int rk, .int y1, .ref ry, .int (nI sp), .int lg, .ref ti, .int fo, .int (nI p1), .ref po, .ref su, .ref sq, .ref ch, .ref vt, .ref sh])), (ry, .inl (cI, 256, .inl yf)), (ch, .inl (cI, 8, .inl (nf ck))), (po, .inl (cI, 4000, .inl f1)), (vt, .inl (cI, 4, .inl v2)), (sh, .inl (cI, 4, .inl (nf s2)))] → va_S A s.heap H locs → W p l e ({ frames := 2, cells := 0, slots := 0, locals := 45 } : Room) s m ([.ref m0, .long ix] : List Value).toArray below meth c H locs 0 0 Q (F0 m 93 ls []) := by
                        intro n9
                        induction n9 using Nat.strongRecOn with
                        | ind n9 ih_93 =>
                          intro i v2 wh ls H locs hm_93 hbv hi9 hwh hl hP hD hS
                          refine lv_iload hx hb d_M_box_93 (lv_at hl 0 rfl) ?_
                          refine lv_iconst (v := (4 : Int32)) hx hb d_M_box_95 (by decide) ?_
                          refine lv_icmp_ge (tgt := 186) hx hb d_M_box_96 (by decide) (fun h_5 => ?_) (fun h_5 => ?_)
                          · have h_5 : 4 ≤ i := (nI_leI (a := 4) (b := i) (by omega) (by omega)).mp h_5
                            have hi4 : i = 4 := by omega
                            have hbv9 := hbv
                            rw [hi4] at hbv9 hwh
                            refine lv_iload hx hb d_M_box_186 (lv_at hl 1 rfl) ?_
                            refine lv_if_eq (tgt := 195) hx hb d_M_box_188 (by decide) (fun h_6 => ?_) (fun h_6 => ?_)
                            · have hall := (hwh.elim (fun z9 => absurd h_6 (by rw [z9.1]; decide)) id).2
                              refine lv_iinc (lv' := [(5, .int (nI ((1 + m2) + 1))), (8, .int (nI i)), (7, .int wh), (4, .int (nI (pwn n sp))), (3, .int (nI n)), (0, .ref m0)]) (k := 2) (v := nI ((1 + m2) + 1)) hx hb d_M_box_195 hl rfl (nI_add (1 + m2) 1) (by decide) rfl (fun ls hl => ?_)
                              refine lv_goto (tgt := 41) hx hb d_M_box_198 (by decide) ?_
                              exact ih_41 _ (by omega) (m2 + 1) p1 f1 v2 s2 ls H locs rfl (bxl_n hbl hsr9 hbv9 hall) (by omega) hp1 hs2 (lv_sub hl [0, 3, 4, 5] rfl) (hP.sub [0, 1, 2, 3, 4, 5] rfl) (hD.sub [0, 1, 2, 3, 4, 5] (by decide) rfl) hS
                            · have hall := (hwh.elim id (fun z9 => absurd z9.1 h_6)).2
                              refine lv_aload_n hx hb d_M_box_191 rfl (lv_at hl 5 rfl) ?_
                              refine cx_call (D := D) (cl := kl) (ws := _) (wc := [(m0, .inr (7, [.int th, .int zz, .int rn, .ref rw, .int kn, .int rk, .int y1, .ref ry, .int (nI sp), .int lg, .ref ti, .int fo, .int (nI p1), .ref po, .ref su, .ref sq, .ref ch, .ref vt, .ref sh])), (vt, .inl (cI, 4, .inl v2)), (po, .inl (cI, 4000, .inl f1))]) (wr := [(ry, .inl (cI, 256, .inl yf)), (ch, .inl (cI, 8, .inl (nf ck))), (sh, .inl (cI, 4, .inl (nf s2)))]) (tx_runV (C := cn_M) (b := m0) (As := []) (rest := []) hx hb hml hown (c_M_keepPoint E H.size m0 rw ry ti po su sq ch vt sh th zz rn kn rk y1 (nI sp) lg fo p1 v2 f1 hp1) (cx_C (b0 := b0) G hx0 mw_913 mw_9 ny_M_keepPoint (by decide)) (gw.at G hx0 mw_910 rfl _) (gw.at G hx0 mw_912 rfl _) (gw.at G hx0 ms_M_keepPoint rfl _) ⟨cx_blind, va_recv hK hP (q0 := 0) (ci := 7) (q := (cn_M, ft_M, 19)) rfl rfl, (cx_pre (s := s) hx0 hP hD hS hA0 [0, 4, 3] rfl rfl (by decide))⟩ rfl rfl hl.1 rfl (lv_room (Nat.le_of_ble_eq_true rfl)) d_M_box_192 ⟨by decide, by decide⟩) hP hD hS hA [0, 4, 3] [1, 2, 5] rfl rfl (by decide) (by decide) (fun v t w1 H locs ht hW9 hp hP hD hS => ?_) (fun x t w1 H locs ht hW9 hp hP hD hS => by obtain ⟨_, _, h9, -⟩ := hp; cases h9)
                              obtain ⟨n2_7, f2_8, h9, f_9, f_10, f_11, f_12, rfl⟩ := hp
                              cases h9
                              refine W.eq (g2 := F0 m 195 ls []) rfl ?_
                              refine W.widen (k := 0) (n := 0) (by decide) (by decide) ?_
                              have hP : va_P D kl [(ry, .inl (cI, 256, .inl yf)), (ch, .inl (cI, 8, .inl (nf ck))), (sh, .inl (cI, 4, .inl (nf s2))), (m0, .inr (7, [.int th, .int zz, .int rn, .ref rw, .int kn, .int rk, .int y1, .ref ry, .int (nI sp), .int lg, .ref ti, .int fo, .int (nI n2_7), .ref po, .ref su, .ref sq, .ref ch, .ref vt, .ref sh])), (vt, .inl (cI, 4, .inl v2)), (po, .inl (cI, 4000, .inl f2_8))] H := hP
                              have hD : va_D A [(ry, .inl (cI, 256, .inl yf)), (ch, .inl (cI, 8, .inl (nf ck))), (sh, .inl (cI, 4, .inl (nf s2))), (m0, .inr (7, [.int th, .int zz, .int rn, .ref rw, .int kn, .int rk, .int y1, .ref ry, .int (nI sp), .int lg, .ref ti, .int fo, .int (nI n2_7), .ref po, .ref su, .ref sq, .ref ch, .ref vt, .ref sh])), (vt, .inl (cI, 4, .inl v2)), (po, .inl (cI, 4000, .inl f2_8))] := hD
                              refine lv_iinc (lv' := [(5, .int (nI ((1 + m2) + 1))), (8, .int (nI i)), (7, .int wh), (4, .int (nI (pwn n sp))), (3, .int (nI n)), (0, .ref m0)]) (k := 2) (v := nI ((1 + m2) + 1)) hx hb d_M_box_195 hl rfl (nI_add (1 + m2) 1) (by decide) rfl (fun ls hl => ?_)
                              refine lv_goto (tgt := 41) hx hb d_M_box_198 (by decide) ?_
                              exact ih_41 _ (by omega) (m2 + 1) n2_7 f2_8 v2 s2 ls H locs rfl (bxl_y hbl hsr9 hbv9 hall f_9 f_10) (by omega) f_11 hs2 (lv_sub hl [0, 3, 4, 5] rfl) (hP.sub [3, 0, 1, 5, 4, 2] rfl) (hD.sub [3, 0, 1, 5, 4, 2] (by decide) rfl) hS
                          · have h_5 : ¬ (4 ≤ i) := fun z99 => h_5 ((nI_leI (a := 4) (b := i) (by omega) (by omega)).mpr z99)
                            refine lv_iconst (v := (0 : Int32)) hx hb d_M_box_99 (by decide) ?_
                            refine lv_istore (lv' := [(9, .int (0 : Int32)), (8, .int (nI i)), (7, .int wh), (5, .int (nI (1 + m2))), (4, .int (nI (pwn n sp))), (3, .int (nI n)), (0, .ref m0)]) hx hb d_M_box_100 hl (by decide) rfl (fun ls hl => ?_)
                            refine lv_iconst (v := (0 : Int32)) hx hb d_M_box_102 (by decide) ?_
                            refine lv_istore (lv' := [(10, .int (0 : Int32)), (9, .int (0 : Int32)), (8, .int (nI i)), (7, .int wh), (5, .int (nI (1 + m2))), (4, .int (nI (pwn n sp))), (3, .int (nI n)), (0, .ref m0)]) hx hb d_M_box_103 hl (by decide) rfl (fun ls hl => ?_)
                            have lp_105 : ∀ (n9 : Nat) (k3 : Nat) (v : Int32) (ls : Array Slot) (H : Heap) (locs : List Loc), sp - k3 = n9 → (bs1 s2 yf ck i k3 = v) → (k3 ≤ sp) → lv_has ls 11 [(10, .int (nI k3)), (9, .int v), (8, .int (nI i)), (7, .int wh), (5, .int (nI (1 + m2))), (4, .int (nI (pwn n sp))), (3, .int (nI n)), (0, .ref m0)] → va_P D kl [(m0, .inr (7, [.int th, .int zz, .int rn, .ref rw, .int kn, .int rk, .int y1, .ref ry, .int (nI sp), .int lg, .ref ti, .int fo, .int (nI p1), .ref po, .ref su, .ref sq, .ref ch, .ref vt, .ref sh])), (ry, .inl (cI, 256, .inl yf)), (ch, .inl (cI, 8, .inl (nf ck))), (po, .inl (cI, 4000, .inl f1)), (vt, .inl (cI, 4, .inl v2)), (sh, .inl (cI, 4, .inl (nf s2)))] H → va_D A [(m0, .inr (7, [.int th, .int zz, .int rn, .ref rw, .int kn, .int rk, .int y1, .ref ry, .int (nI sp), .int lg, .ref ti, .int fo, .int (nI p1), .ref po, .ref su, .ref sq, .ref ch, .ref vt, .ref sh])), (ry, .inl (cI, 256, .inl yf)), (ch, .inl (cI, 8, .inl (nf ck))), (po, .inl (cI, 4000, .inl f1)), (vt, .inl (cI, 4, .inl v2)), (sh, .inl (cI, 4, .inl (nf s2)))] → va_S A s.heap H locs → W p l e ({ frames := 2, cells := 0, slots := 0, locals := 45 } : Room) s m ([.ref m0, .long ix] : List Value).toArray below meth c H locs 0 0 Q (F0 m 105 ls []) := by
                              intro n9
                              induction n9 using Nat.strongRecOn with
                              | ind n9 ih_105 =>
                                intro k3 v ls H locs hm_105 hb1 hk3 hl hP hD hS
                                refine lv_iload hx hb d_M_box_105 (lv_at hl 0 rfl) ?_
                                refine lv_aload_n hx hb d_M_box_107 rfl (lv_at hl 7 rfl) ?_
                                refine va_get (D := D) (ci := 7) (v := .int (nI sp)) (C := cn_M) (T := ft_M) (N := 19) hx hb hf_M (fun _ h => h) hown hK hP 0 rfl rfl 8 (by decide) (gw.at G hx0 mw_721 rfl _) (fun _ h9 => h9) rfl d_M_box_108 ?_
                                refine lv_icmp_ge (tgt := 150) hx hb d_M_box_111 (by decide) (fun h_13 => ?_) (fun h_13 => ?_)
                                · have h_13 : sp ≤ k3 := (nI_leI (a := sp) (b := k3) (by omega) (by omega)).mp h_13
                                  have hk33 : k3 = sp := by omega
                                  have hb9 := hb1
                                  rw [hk33] at hb9
                                  refine lv_iload hx hb d_M_box_150 (lv_at hl 3 rfl) ?_
                                  refine lv_if_eq (tgt := 166) hx hb d_M_box_152 (by decide) (fun h_14 => ?_) (fun h_14 => ?_)
                                  · refine lv_iconst (v := (0 : Int32)) hx hb d_M_box_166 (by decide) ?_
                                    refine lv_istore (lv' := [(7, .int (0 : Int32)), (10, .int (nI k3)), (9, .int v), (8, .int (nI i)), (5, .int (nI (1 + m2))), (4, .int (nI (pwn n sp))), (3, .int (nI n)), (0, .ref m0)]) hx hb d_M_box_167 hl (by decide) rfl (fun ls hl => ?_)
                                    refine lv_aload_n hx hb d_M_box_169 rfl (lv_at hl 7 rfl) ?_
                                    refine va_get (D := D) (ci := 7) (v := .ref vt) (C := cn_M) (T := ft_M) (N := 19) hx hb hf_M (fun _ h => h) hown hK hP 0 rfl rfl 17 (by decide) (gw.at G hx0 mw_730 rfl _) (fun _ h9 => h9) rfl d_M_box_170 ?_
                                    refine lv_iload hx hb d_M_box_173 (lv_at hl 3 rfl) ?_
                                    refine lv_iload hx hb d_M_box_175 (lv_at hl 2 rfl) ?_
                                    refine lv_iload_n hx hb d_M_box_177 rfl (lv_at hl 6 rfl) ?_
                                    refine lv_idiv hx hb d_M_box_178 (nI_ne0 hn0 (by omega)) ?_
                                    refine va_iast hx hb hK hP hD hS 4 0 rfl rfl (vp_in_nI (n := i) (by omega) (by omega)) d_M_box_179 (fun H locs hP hD hS => ?_)
                                    rw [nI_clamp (n := i) (by omega)] at hP hD
                                    have hP : va_P D kl [(m0, .inr (7, [.int th, .int zz, .int rn, .ref rw, .int kn, .int rk, .int y1, .ref ry, .int (nI sp), .int lg, .ref ti, .int fo, .int (nI p1), .ref po, .ref su, .ref sq, .ref ch, .ref vt, .ref sh])), (ry, .inl (cI, 256, .inl yf)), (ch, .inl (cI, 8, .inl (nf ck))), (po, .inl (cI, 4000, .inl f1)), (vt, .inl (cI, 4, .inl (upd v2 i (v / (nI n))))), (sh, .inl (cI, 4, .inl (nf s2)))] H := hP
                                    have hD : va_D A [(m0, .inr (7, [.int th, .int zz, .int rn, .ref rw, .int kn, .int rk, .int y1, .ref ry, .int (nI sp), .int lg, .ref ti, .int fo, .int (nI p1), .ref po, .ref su, .ref sq, .ref ch, .ref vt, .ref sh])), (ry, .inl (cI, 256, .inl yf)), (ch, .inl (cI, 8, .inl (nf ck))), (po, .inl (cI, 4000, .inl f1)), (vt, .inl (cI, 4, .inl (upd v2 i (v / (nI n))))), (sh, .inl (cI, 4, .inl (nf s2)))] := hD
                                    refine lv_iinc (lv' := [(8, .int (nI (i + 1))), (7, .int (0 : Int32)), (10, .int (nI k3)), (9, .int v), (5, .int (nI (1 + m2))), (4, .int (nI (pwn n sp))), (3, .int (nI n)), (0, .ref m0)]) (k := 3) (v := nI (i + 1)) hx hb d_M_box_180 hl rfl (nI_add i 1) (by decide) rfl (fun ls hl => ?_)
                                    refine lv_goto (tgt := 93) hx hb d_M_box_183 (by decide) ?_
                                    exact ih_93 _ (by omega) (i + 1) (upd v2 i (v / (nI n))) (0 : Int32) ls H locs rfl (bxV_s hbv hb9) (by omega) (Or.inr ⟨rfl, fun z9 => (hwh.elim (fun z8 => absurd h_14 (by rw [z8.1]; decide)) (fun z8 => z8.2 (fun q9 hq9 => z9 q9 (by omega))))⟩) (lv_sub hl [0, 1, 4, 5, 6, 7] rfl) (hP.sub [0, 1, 2, 3, 4, 5] rfl) (hD.sub [0, 1, 2, 3, 4, 5] (by decide) rfl) hS
                                  · refine lv_iload hx hb d_M_box_155 (lv_at hl 1 rfl) ?_
                                    refine lv_iload_n hx hb d_M_box_157 rfl (lv_at hl 6 rfl) ?_
                                    refine lv_irem hx hb d_M_box_158 (nI_ne0 hn0 (by omega)) ?_
                                    refine lv_if_ne (tgt := 166) hx hb d_M_box_159 (by decide) (fun h_15 => ?_) (fun h_15 => ?_)
                                    · refine lv_iconst (v := (0 : Int32)) hx hb d_M_box_166 (by decide) ?_
                                      refine lv_istore (lv' := [(7, .int (0 : Int32)), (10, .int (nI k3)), (9, .int v), (8, .int (nI i)), (5, .int (nI (1 + m2))), (4, .int (nI (pwn n sp))), (3, .int (nI n)), (0, .ref m0)]) hx hb d_M_box_167 hl (by decide) rfl (fun ls hl => ?_)
                                      refine lv_aload_n hx hb d_M_box_169 rfl (lv_at hl 7 rfl) ?_
                                      refine va_get (D := D) (ci := 7) (v := .ref vt) (C := cn_M) (T := ft_M) (N := 19) hx hb hf_M (fun _ h => h) hown hK hP 0 rfl rfl 17 (by decide) (gw.at G hx0 mw_730 rfl _) (fun _ h9 => h9) rfl d_M_box_170 ?_
                                      refine lv_iload hx hb d_M_box_173 (lv_at hl 3 rfl) ?_
                                      refine lv_iload hx hb d_M_box_175 (lv_at hl 2 rfl) ?_
                                      refine lv_iload_n hx hb d_M_box_177 rfl (lv_at hl 6 rfl) ?_
                                      refine lv_idiv hx hb d_M_box_178 (nI_ne0 hn0 (by omega)) ?_
                                      refine va_iast hx hb hK hP hD hS 4 0 rfl rfl (vp_in_nI (n := i) (by omega) (by omega)) d_M_box_179 (fun H locs hP hD hS => ?_)
                                      rw [nI_clamp (n := i) (by omega)] at hP hD
                                      have hP : va_P D kl [(m0, .inr (7, [.int th, .int zz, .int rn, .ref rw, .int kn, .int rk, .int y1, .ref ry, .int (nI sp), .int lg, .ref ti, .int fo, .int (nI p1), .ref po, .ref su, .ref sq, .ref ch, .ref vt, .ref sh])), (ry, .inl (cI, 256, .inl yf)), (ch, .inl (cI, 8, .inl (nf ck))), (po, .inl (cI, 4000, .inl f1)), (vt, .inl (cI, 4, .inl (upd v2 i (v / (nI n))))), (sh, .inl (cI, 4, .inl (nf s2)))] H := hP
                                      have hD : va_D A [(m0, .inr (7, [.int th, .int zz, .int rn, .ref rw, .int kn, .int rk, .int y1, .ref ry, .int (nI sp), .int lg, .ref ti, .int fo, .int (nI p1), .ref po, .ref su, .ref sq, .ref ch, .ref vt, .ref sh])), (ry, .inl (cI, 256, .inl yf)), (ch, .inl (cI, 8, .inl (nf ck))), (po, .inl (cI, 4000, .inl f1)), (vt, .inl (cI, 4, .inl (upd v2 i (v / (nI n))))), (sh, .inl (cI, 4, .inl (nf s2)))] := hD
                                      refine lv_iinc (lv' := [(8, .int (nI (i + 1))), (7, .int (0 : Int32)), (10, .int (nI k3)), (9, .int v), (5, .int (nI (1 + m2))), (4, .int (nI (pwn n sp))), (3, .int (nI n)), (0, .ref m0)]) (k := 3) (v := nI (i + 1)) hx hb d_M_box_180 hl rfl (nI_add i 1) (by decide) rfl (fun ls hl => ?_)
                                      refine lv_goto (tgt := 93) hx hb d_M_box_183 (by decide) ?_
                                      exact ih_93 _ (by omega) (i + 1) (upd v2 i (v / (nI n))) (0 : Int32) ls H locs rfl (bxV_s hbv hb9) (by omega) (Or.inr ⟨rfl, fun z9 => by have z8 := z9 i (by omega); unfold bxD at z8; rw [hb9] at z8; exact h_15 z8⟩) (lv_sub hl [0, 1, 4, 5, 6, 7] rfl) (hP.sub [0, 1, 2, 3, 4, 5] rfl) (hD.sub [0, 1, 2, 3, 4, 5] (by decide) rfl) hS
                                    · refine lv_iconst (v := (1 : Int32)) hx hb d_M_box_162 (by decide) ?_
                                      refine lv_goto (tgt := 167) hx hb d_M_box_163 (by decide) ?_
                                      refine lv_istore (lv' := [(7, .int (1 : Int32)), (10, .int (nI k3)), (9, .int v), (8, .int (nI i)), (5, .int (nI (1 + m2))), (4, .int (nI (pwn n sp))), (3, .int (nI n)), (0, .ref m0)]) hx hb d_M_box_167 hl (by decide) rfl (fun ls hl => ?_)
                                      refine lv_aload_n hx hb d_M_box_169 rfl (lv_at hl 7 rfl) ?_
                                      refine va_get (D := D) (ci := 7) (v := .ref vt) (C := cn_M) (T := ft_M) (N := 19) hx hb hf_M (fun _ h => h) hown hK hP 0 rfl rfl 17 (by decide) (gw.at G hx0 mw_730 rfl _) (fun _ h9 => h9) rfl d_M_box_170 ?_
                                      refine lv_iload hx hb d_M_box_173 (lv_at hl 3 rfl) ?_
                                      refine lv_iload hx hb d_M_box_175 (lv_at hl 2 rfl) ?_
                                      refine lv_iload_n hx hb d_M_box_177 rfl (lv_at hl 6 rfl) ?_
                                      refine lv_idiv hx hb d_M_box_178 (nI_ne0 hn0 (by omega)) ?_
                                      refine va_iast hx hb hK hP hD hS 4 0 rfl rfl (vp_in_nI (n := i) (by omega) (by omega)) d_M_box_179 (fun H locs hP hD hS => ?_)
                                      rw [nI_clamp (n := i) (by omega)] at hP hD
                                      have hP : va_P D kl [(m0, .inr (7, [.int th, .int zz, .int rn, .ref rw, .int kn, .int rk, .int y1, .ref ry, .int (nI sp), .int lg, .ref ti, .int fo, .int (nI p1), .ref po, .ref su, .ref sq, .ref ch, .ref vt, .ref sh])), (ry, .inl (cI, 256, .inl yf)), (ch, .inl (cI, 8, .inl (nf ck))), (po, .inl (cI, 4000, .inl f1)), (vt, .inl (cI, 4, .inl (upd v2 i (v / (nI n))))), (sh, .inl (cI, 4, .inl (nf s2)))] H := hP
                                      have hD : va_D A [(m0, .inr (7, [.int th, .int zz, .int rn, .ref rw, .int kn, .int rk, .int y1, .ref ry, .int (nI sp), .int lg, .ref ti, .int fo, .int (nI p1), .ref po, .ref su, .ref sq, .ref ch, .ref vt, .ref sh])), (ry, .inl (cI, 256, .inl yf)), (ch, .inl (cI, 8, .inl (nf ck))), (po, .inl (cI, 4000, .inl f1)), (vt, .inl (cI, 4, .inl (upd v2 i (v / (nI n))))), (sh, .inl (cI, 4, .inl (nf s2)))] := hD
                                      refine lv_iinc (lv' := [(8, .int (nI (i + 1))), (7, .int (1 : Int32)), (10, .int (nI k3)), (9, .int v), (5, .int (nI (1 + m2))), (4, .int (nI (pwn n sp))), (3, .int (nI n)), (0, .ref m0)]) (k := 3) (v := nI (i + 1)) hx hb d_M_box_180 hl rfl (nI_add i 1) (by decide) rfl (fun ls hl => ?_)
                                      refine lv_goto (tgt := 93) hx hb d_M_box_183 (by decide) ?_
                                      exact ih_93 _ (by omega) (i + 1) (upd v2 i (v / (nI n))) (1 : Int32) ls H locs rfl (bxV_s hbv hb9) (by omega) (Or.inl ⟨rfl, fun q9 hq9 => (Nat.lt_succ_iff_lt_or_eq.mp hq9).elim ((hwh.elim id (fun z9 => absurd z9.1 h_14)).2 q9) (fun e9 => by rw [e9]; unfold bxD; rw [hb9]; exact h_15)⟩) (lv_sub hl [0, 1, 4, 5, 6, 7] rfl) (hP.sub [0, 1, 2, 3, 4, 5] rfl) (hD.sub [0, 1, 2, 3, 4, 5] (by decide) rfl) hS
                                · have h_13 : ¬ (sp ≤ k3) := fun z99 => h_13 ((nI_leI (a := sp) (b := k3) (by omega) (by omega)).mpr z99)
                                  refine lv_iload hx hb d_M_box_114 (lv_at hl 1 rfl) ?_
                                  refine lv_aload_n hx hb d_M_box_116 rfl (lv_at hl 7 rfl) ?_
                                  refine va_get (D := D) (ci := 7) (v := .ref sh) (C := cn_M) (T := ft_M) (N := 19) hx hb hf_M (fun _ h => h) hown hK hP 0 rfl rfl 18 (by decide) (gw.at G hx0 mw_731 rfl _) (fun _ h9 => h9) rfl d_M_box_117 ?_
                                  refine lv_iload hx hb d_M_box_120 (lv_at hl 0 rfl) ?_
                                  refine va_iald hx hb hK hP 5 0 rfl rfl (vp_in_nI (n := k3) (by omega) (by omega)) d_M_box_122 ?_
                                  refine tp_i (y := (nf s2) k3) (congrArg (nf s2) (nI_clamp (n := k3) (by omega))) ?_
                                  refine tp_i (y := nI (s2 k3)) rfl ?_
                                  have hb_16 := hs2 k3
                                  refine lv_aload_n hx hb d_M_box_123 rfl (lv_at hl 7 rfl) ?_
                                  refine va_get (D := D) (ci := 7) (v := .ref ry) (C := cn_M) (T := ft_M) (N := 19) hx hb hf_M (fun _ h => h) hown hK hP 0 rfl rfl 7 (by decide) (gw.at G hx0 mw_720 rfl _) (fun _ h9 => h9) rfl d_M_box_124 ?_
                                  refine lv_iconst (v := (4 : Int32)) hx hb d_M_box_127 (by decide) ?_
                                  refine lv_aload_n hx hb d_M_box_128 rfl (lv_at hl 7 rfl) ?_
                                  refine va_get (D := D) (ci := 7) (v := .ref ch) (C := cn_M) (T := ft_M) (N := 19) hx hb hf_M (fun _ h => h) hown hK hP 0 rfl rfl 16 (by decide) (gw.at G hx0 mw_729 rfl _) (fun _ h9 => h9) rfl d_M_box_129 ?_
                                  refine lv_iload hx hb d_M_box_132 (lv_at hl 0 rfl) ?_
                                  refine va_iald hx hb hK hP 2 0 rfl rfl (vp_in_nI (n := k3) (by omega) (by omega)) d_M_box_134 ?_
                                  refine tp_i (y := (nf ck) k3) (congrArg (nf ck) (nI_clamp (n := k3) (by omega))) ?_
                                  refine tp_i (y := nI (ck k3)) rfl ?_
                                  have hb_17 := hck k3
                                  refine lv_imul hx hb d_M_box_135 ?_
                                  refine tp_i (y := nI (4 * (ck k3))) (nI_mul 4 (ck k3)) ?_
                                  refine lv_iload hx hb d_M_box_136 (lv_at hl 2 rfl) ?_
                                  refine lv_iadd hx hb d_M_box_138 ?_
                                  refine tp_i (y := nI ((4 * (ck k3)) + i)) (nI_add (4 * (ck k3)) i) ?_
                                  refine va_iald hx hb hK hP 1 0 rfl rfl (vp_in_nI (n := (4 * (ck k3)) + i) (by omega) (by omega)) d_M_box_139 ?_
                                  refine tp_i (y := yf ((4 * (ck k3)) + i)) (congrArg yf (nI_clamp (n := (4 * (ck k3)) + i) (by omega))) ?_
                                  refine lv_imul hx hb d_M_box_140 ?_
                                  refine lv_iadd hx hb d_M_box_141 ?_
                                  refine lv_istore (lv' := [(9, .int (v + ((nI (s2 k3)) * (yf ((4 * (ck k3)) + i))))), (10, .int (nI k3)), (8, .int (nI i)), (7, .int wh), (5, .int (nI (1 + m2))), (4, .int (nI (pwn n sp))), (3, .int (nI n)), (0, .ref m0)]) hx hb d_M_box_142 hl (by decide) rfl (fun ls hl => ?_)
                                  refine lv_iinc (lv' := [(10, .int (nI (k3 + 1))), (9, .int (v + ((nI (s2 k3)) * (yf ((4 * (ck k3)) + i))))), (8, .int (nI i)), (7, .int wh), (5, .int (nI (1 + m2))), (4, .int (nI (pwn n sp))), (3, .int (nI n)), (0, .ref m0)]) (k := 1) (v := nI (k3 + 1)) hx hb d_M_box_144 hl rfl (nI_add k3 1) (by decide) rfl (fun ls hl => ?_)
                                  refine lv_goto (tgt := 105) hx hb d_M_box_147 (by decide) ?_
                                  exact ih_105 _ (by omega) (k3 + 1) (v + ((nI (s2 k3)) * (yf ((4 * (ck k3)) + i)))) ls H locs rfl (bs1_s hb1) (by omega) (lv_sub hl [0, 1, 2, 3, 4, 5, 6, 7] rfl) (hP.sub [0, 1, 2, 3, 4, 5] rfl) (hD.sub [0, 1, 2, 3, 4, 5] (by decide) rfl) hS
                            exact lp_105 _ 0 0 ls H locs rfl rfl (Nat.zero_le _) (lv_sub hl [0, 1, 2, 3, 4, 5, 6, 7] rfl) (hP.sub [0, 1, 2, 3, 4, 5] rfl) (hD.sub [0, 1, 2, 3, 4, 5] (by decide) rfl) hS
                      exact lp_93 _ 0 v1 1 ls H locs rfl rfl (Nat.zero_le _) (Or.inl ⟨rfl, fun q9 hq9 => absurd hq9 (Nat.not_lt_zero q9)⟩) (lv_sub hl [0, 1, 3, 4, 5, 6] rfl) (hP.sub [0, 1, 2, 3, 4, 5] rfl) (hD.sub [0, 1, 2, 3, 4, 5] (by decide) rfl) hS
                    · have h_4 : ¬ (sp ≤ k2) := fun z99 => h_4 ((nI_leI (a := sp) (b := k2) (by omega) (by omega)).mpr z99)
                      refine lv_aload_n hx hb d_M_box_64 rfl (lv_at hl 5 rfl) ?_
                      refine va_get (D := D) (ci := 7) (v := .ref sh) (C := cn_M) (T := ft_M) (N := 19) hx hb hf_M (fun _ h => h) hown hK hP 0 rfl rfl 18 (by decide) (gw.at G hx0 mw_731 rfl _) (fun _ h9 => h9) rfl d_M_box_65 ?_
                      refine lv_iload hx hb d_M_box_68 (lv_at hl 0 rfl) ?_
                      refine lv_iload hx hb d_M_box_70 (lv_at hl 1 rfl) ?_
                      refine lv_iload_n hx hb d_M_box_72 rfl (lv_at hl 4 rfl) ?_
                      refine lv_irem hx hb d_M_box_73 (nI_ne0 hn0 (by omega)) ?_
                      refine tp_i (y := nI (rs % n)) (nI_rem hrs (by omega)) ?_
                      refine va_iast hx hb hK hP hD hS 5 0 rfl rfl (vp_in_nI (n := k2) (by omega) (by omega)) d_M_box_74 (fun H locs hP hD hS => ?_)
                      rw [nI_clamp (n := k2) (by omega)] at hP hD
                      rw [show upd (nf s2) k2 (nI (rs % n)) = nf (updN s2 k2 (rs % n)) from nf_upd _ _ _] at hP hD
                      have hP : va_P D kl [(m0, .inr (7, [.int th, .int zz, .int rn, .ref rw, .int kn, .int rk, .int y1, .ref ry, .int (nI sp), .int lg, .ref ti, .int fo, .int (nI p1), .ref po, .ref su, .ref sq, .ref ch, .ref vt, .ref sh])), (ry, .inl (cI, 256, .inl yf)), (ch, .inl (cI, 8, .inl (nf ck))), (po, .inl (cI, 4000, .inl f1)), (vt, .inl (cI, 4, .inl v1)), (sh, .inl (cI, 4, .inl (nf (updN s2 k2 (rs % n)))))] H := hP
                      have hD : va_D A [(m0, .inr (7, [.int th, .int zz, .int rn, .ref rw, .int kn, .int rk, .int y1, .ref ry, .int (nI sp), .int lg, .ref ti, .int fo, .int (nI p1), .ref po, .ref su, .ref sq, .ref ch, .ref vt, .ref sh])), (ry, .inl (cI, 256, .inl yf)), (ch, .inl (cI, 8, .inl (nf ck))), (po, .inl (cI, 4000, .inl f1)), (vt, .inl (cI, 4, .inl v1)), (sh, .inl (cI, 4, .inl (nf (updN s2 k2 (rs % n)))))] := hD
                      refine lv_iload hx hb d_M_box_75 (lv_at hl 1 rfl) ?_
                      refine lv_iload_n hx hb d_M_box_77 rfl (lv_at hl 4 rfl) ?_
                      refine lv_idiv hx hb d_M_box_78 (nI_ne0 hn0 (by omega)) ?_
                      refine tp_i (y := nI (rs / n)) (nI_quo hrs (by omega)) ?_
                      refine lv_istore (lv' := [(6, .int (nI (rs / n))), (7, .int (nI k2)), (5, .int (nI (1 + m2))), (4, .int (nI (pwn n sp))), (3, .int (nI n)), (0, .ref m0)]) hx hb d_M_box_79 hl (by decide) rfl (fun ls hl => ?_)
                      refine lv_iinc (lv' := [(7, .int (nI (k2 + 1))), (6, .int (nI (rs / n))), (5, .int (nI (1 + m2))), (4, .int (nI (pwn n sp))), (3, .int (nI n)), (0, .ref m0)]) (k := 1) (v := nI (k2 + 1)) hx hb d_M_box_81 hl rfl (nI_add k2 1) (by decide) rfl (fun ls hl => ?_)
                      refine lv_goto (tgt := 55) hx hb d_M_box_84 (by decide) ?_
                      exact ih_55 _ (by omega) (k2 + 1) (rs / n) (updN s2 k2 (rs % n)) ls H locs rfl (shr_s hsr) (by omega) (updN_lt hs2 (Nat.lt_of_lt_of_le (Nat.mod_lt _ hn0) hn)) (Nat.lt_of_le_of_lt (Nat.div_le_self _ _) hrs) (lv_sub hl [0, 1, 2, 3, 4, 5] rfl) (hP.sub [0, 1, 2, 3, 4, 5] rfl) (hD.sub [0, 1, 2, 3, 4, 5] (by decide) rfl) hS
                exact lp_55 _ 0 (1 + m2) s1 ls H locs rfl rfl (Nat.zero_le _) hs1 (by omega) (lv_sub hl [0, 1, 2, 3, 4, 5] rfl) (hP.sub [0, 1, 2, 3, 4, 5] rfl) (hD.sub [0, 1, 2, 3, 4, 5] (by decide) rfl) hS
          exact lp_41 _ 0 pt pf vf sk ls H locs rfl rfl (Nat.zero_le _) hpt hsk (lv_sub hl [0, 1, 2, 3] rfl) (hP.sub [0, 1, 2, 3, 4, 5] rfl) (hD.sub [0, 1, 2, 3, 4, 5] (by decide) rfl) hS
        · have h_2 : ¬ (sp ≤ k) := fun z99 => h_2 ((nI_leI (a := sp) (b := k) (by omega) (by omega)).mpr z99)
          refine lv_iload hx hb d_M_box_26 (lv_at hl 1 rfl) ?_
          refine lv_iload_n hx hb d_M_box_28 rfl (lv_at hl 2 rfl) ?_
          refine lv_imul hx hb d_M_box_29 ?_
          refine tp_i (y := nI (al * n)) (nI_mul al n) ?_
          refine lv_istore (lv' := [(4, .int (nI (al * n))), (5, .int (nI k)), (3, .int (nI n)), (0, .ref m0)]) hx hb d_M_box_30 hl (by decide) rfl (fun ls hl => ?_)
          refine lv_iinc (lv' := [(5, .int (nI (k + 1))), (4, .int (nI (al * n))), (3, .int (nI n)), (0, .ref m0)]) (k := 1) (v := nI (k + 1)) hx hb d_M_box_32 hl rfl (nI_add k 1) (by decide) rfl (fun ls hl => ?_)
          refine lv_goto (tgt := 17) hx hb d_M_box_35 (by decide) ?_
          exact ih_17 _ (by omega) (k + 1) (al * n) ls H locs rfl (by rw [hal, pwn_s]) (by omega) (by rw [Nat.pow_succ]; exact Nat.mul_le_mul ha12 hn) (lv_sub hl [0, 1, 2, 3] rfl) (hP.sub [0, 1, 2, 3, 4, 5] rfl) (hD.sub [0, 1, 2, 3, 4, 5] (by decide) rfl) hS
    exact lp_17 _ 0 1 ls s.heap [] rfl (pwn_0y h_1) (Nat.zero_le _) (by decide) (lv_sub hl [0, 1, 2, 3] rfl) (hP.sub [0, 1, 2, 3, 4, 5] rfl) (hD.sub [0, 1, 2, 3, 4, 5] (by decide) rfl) hS
  · have h_1 : n = 0 := (nI_eq (a := n) (b := 0) (by omega) (by omega)).mp h_1
    refine lv_iconst (v := (0 : Int32)) hx hb d_M_box_7 (by decide) ?_
    refine lv_goto (tgt := 12) hx hb d_M_box_8 (by decide) ?_
    refine lv_istore (lv' := [(4, .int (0 : Int32)), (3, .int (nI n)), (0, .ref m0), (1, .long ix)]) hx hb d_M_box_12 hl (by decide) rfl (fun ls hl => ?_)
    refine lv_iconst (v := (0 : Int32)) hx hb d_M_box_14 (by decide) ?_
    refine lv_istore (lv' := [(5, .int (0 : Int32)), (4, .int (0 : Int32)), (3, .int (nI n)), (0, .ref m0), (1, .long ix)]) hx hb d_M_box_15 hl (by decide) rfl (fun ls hl => ?_)
    have lp_17 : ∀ (n9 : Nat) (k : Nat) (al : Nat) (ls : Array Slot) (H : Heap) (locs : List Loc), sp - k = n9 → (al = pwn n k) → (k ≤ sp) → (al ≤ 12 ^ k) → lv_has ls 11 [(5, .int (nI k)), (4, .int (nI al)), (3, .int (nI n)), (0, .ref m0)] → va_P D kl [(m0, .inr (7, [.int th, .int zz, .int rn, .ref rw, .int kn, .int rk, .int y1, .ref ry, .int (nI sp), .int lg, .ref ti, .int fo, .int (nI pt), .ref po, .ref su, .ref sq, .ref ch, .ref vt, .ref sh])), (ry, .inl (cI, 256, .inl yf)), (ch, .inl (cI, 8, .inl (nf ck))), (po, .inl (cI, 4000, .inl pf)), (vt, .inl (cI, 4, .inl vf)), (sh, .inl (cI, 4, .inl (nf sk)))] H → va_D A [(m0, .inr (7, [.int th, .int zz, .int rn, .ref rw, .int kn, .int rk, .int y1, .ref ry, .int (nI sp), .int lg, .ref ti, .int fo, .int (nI pt), .ref po, .ref su, .ref sq, .ref ch, .ref vt, .ref sh])), (ry, .inl (cI, 256, .inl yf)), (ch, .inl (cI, 8, .inl (nf ck))), (po, .inl (cI, 4000, .inl pf)), (vt, .inl (cI, 4, .inl vf)), (sh, .inl (cI, 4, .inl (nf sk)))] → va_S A s.heap H locs → W p l e ({ frames := 2, cells := 0, slots := 0, locals := 45 } : Room) s m ([.ref m0, .long ix] : List Value).toArray below meth c H locs 0 0 Q (F0 m 17 ls []) := by
      intro n9
      induction n9 using Nat.strongRecOn with
      | ind n9 ih_17 =>
        intro k al ls H locs hm_17 hal hk9 ha12 hl hP hD hS
        refine lv_iload hx hb d_M_box_17 (lv_at hl 0 rfl) ?_
        refine lv_aload_n hx hb d_M_box_19 rfl (lv_at hl 3 rfl) ?_
        refine va_get (D := D) (ci := 7) (v := .int (nI sp)) (C := cn_M) (T := ft_M) (N := 19) hx hb hf_M (fun _ h => h) hown hK hP 0 rfl rfl 8 (by decide) (gw.at G hx0 mw_721 rfl _) (fun _ h9 => h9) rfl d_M_box_20 ?_
        refine lv_icmp_ge (tgt := 38) hx hb d_M_box_23 (by decide) (fun h_18 => ?_) (fun h_18 => ?_)
        · have h_18 : sp ≤ k := (nI_leI (a := sp) (b := k) (by omega) (by omega)).mp h_18
          have hkk : k = sp := by omega
          rw [hkk] at hal ha12
          have h12 : 12 ^ sp ≤ 12 ^ 4 := Nat.pow_le_pow_right (by decide) hs4
          have hap : pwn n sp ≤ 20736 := by rw [← hal]; exact Nat.le_trans ha12 h12
          rw [hal] at hl
          refine lv_iconst (v := (1 : Int32)) hx hb d_M_box_38 (by decide) ?_
          refine lv_istore (lv' := [(5, .int (1 : Int32)), (4, .int (nI (pwn n sp))), (3, .int (nI n)), (0, .ref m0)]) hx hb d_M_box_39 hl (by decide) rfl (fun ls hl => ?_)
          have lp_41 : ∀ (n9 : Nat) (m2 : Nat) (p1 : Nat) (f1 : Nat → Int32) (v1 : Nat → Int32) (s1 : Nat → Nat) (ls : Array Slot) (H : Heap) (locs : List Loc), pwn n sp - m2 = n9 → (bxl yf ck n sp m2 ((pt, pf), vf, sk) = ((p1, f1), v1, s1)) → (m2 ≤ pwn n sp - 1) → (p1 ≤ 1000) → (∀ j, s1 j < 12) → lv_has ls 11 [(5, .int (nI (1 + m2))), (4, .int (nI (pwn n sp))), (3, .int (nI n)), (0, .ref m0)] → va_P D kl [(m0, .inr (7, [.int th, .int zz, .int rn, .ref rw, .int kn, .int rk, .int y1, .ref ry, .int (nI sp), .int lg, .ref ti, .int fo, .int (nI p1), .ref po, .ref su, .ref sq, .ref ch, .ref vt, .ref sh])), (ry, .inl (cI, 256, .inl yf)), (ch, .inl (cI, 8, .inl (nf ck))), (po, .inl (cI, 4000, .inl f1)), (vt, .inl (cI, 4, .inl v1)), (sh, .inl (cI, 4, .inl (nf s1)))] H → va_D A [(m0, .inr (7, [.int th, .int zz, .int rn, .ref rw, .int kn, .int rk, .int y1, .ref ry, .int (nI sp), .int lg, .ref ti, .int fo, .int (nI p1), .ref po, .ref su, .ref sq, .ref ch, .ref vt, .ref sh])), (ry, .inl (cI, 256, .inl yf)), (ch, .inl (cI, 8, .inl (nf ck))), (po, .inl (cI, 4000, .inl f1)), (vt, .inl (cI, 4, .inl v1)), (sh, .inl (cI, 4, .inl (nf s1)))] → va_S A s.heap H locs → W p l e ({ frames := 2, cells := 0, slots := 0, locals := 45 } : Room) s m ([.ref m0, .long ix] : List Value).toArray below meth c H locs 0 0 Q (F0 m 41 ls []) := by
            intro n9
            induction n9 using Nat.strongRecOn with
            | ind n9 ih_41 =>
              intro m2 p1 f1 v1 s1 ls H locs hm_41 hbl hm9 hp1 hs1 hl hP hD hS
              refine lv_iload hx hb d_M_box_41 (lv_at hl 0 rfl) ?_
              refine lv_iload hx hb d_M_box_43 (lv_at hl 1 rfl) ?_
              refine lv_icmp_ge (tgt := 201) hx hb d_M_box_45 (by decide) (fun h_19 => ?_) (fun h_19 => ?_)
              · have h_19 : (pwn n sp) ≤ (1 + m2) := (nI_leI (a := pwn n sp) (b := 1 + m2) (by omega) (by omega)).mp h_19
                rw [← hQe]
                exact tx_mono (fun _ h => tx_Z.of h) (W.vret hx hb hr (fun t ht hW => ⟨⟨[(m0, .inr (7, [.int th, .int zz, .int rn, .ref rw, .int kn, .int rk, .int y1, .ref ry, .int (nI sp), .int lg, .ref ti, .int fo, .int (nI p1), .ref po, .ref su, .ref sq, .ref ch, .ref vt, .ref sh])), (ry, .inl (cI, 256, .inl yf)), (ch, .inl (cI, 8, .inl (nf ck))), (po, .inl (cI, 4000, .inl f1)), (vt, .inl (cI, 4, .inl v1)), (sh, .inl (cI, 4, .inl (nf s1)))], ⟨p1, f1, v1, s1, rfl, (by unfold box; rw [show pwn n sp - 1 = m2 by omega]; exact hbl), hp1, hs1, rfl⟩, by rw [ht]; exact hP.sub [0, 1, 2, 3, 4, 5] rfl, hD.sub [0, 1, 2, 3, 4, 5] (by decide) rfl⟩, hS.F ht⟩) hS.2.2 d_M_box_201)
              · have h_19 : ¬ ((pwn n sp) ≤ (1 + m2)) := fun z99 => h_19 ((nI_leI (a := pwn n sp) (b := 1 + m2) (by omega) (by omega)).mpr z99)
                have hn0 : 0 < n := pwn_pos (sp := sp) (by omega)
                refine lv_iload hx hb d_M_box_48 (lv_at hl 0 rfl) ?_
                refine lv_istore (lv' := [(6, .int (nI (1 + m2))), (5, .int (nI (1 + m2))), (4, .int (nI (pwn n sp))), (3, .int (nI n)), (0, .ref m0)]) hx hb d_M_box_50 hl (by decide) rfl (fun ls hl => ?_)
                refine lv_iconst (v := (0 : Int32)) hx hb d_M_box_52 (by decide) ?_
                refine lv_istore (lv' := [(7, .int (0 : Int32)), (6, .int (nI (1 + m2))), (5, .int (nI (1 + m2))), (4, .int (nI (pwn n sp))), (3, .int (nI n)), (0, .ref m0)]) hx hb d_M_box_53 hl (by decide) rfl (fun ls hl => ?_)
                have lp_55 : ∀ (n9 : Nat) (k2 : Nat) (rs : Nat) (s2 : Nat → Nat) (ls : Array Slot) (H : Heap) (locs : List Loc), sp - k2 = n9 → (shr n k2 (1 + m2, s1) = (rs, s2)) → (k2 ≤ sp) → (∀ j, s2 j < 12) → (rs < 2 ^ 31) → lv_has ls 11 [(7, .int (nI k2)), (6, .int (nI rs)), (5, .int (nI (1 + m2))), (4, .int (nI (pwn n sp))), (3, .int (nI n)), (0, .ref m0)] → va_P D kl [(m0, .inr (7, [.int th, .int zz, .int rn, .ref rw, .int kn, .int rk, .int y1, .ref ry, .int (nI sp), .int lg, .ref ti, .int fo, .int (nI p1), .ref po, .ref su, .ref sq, .ref ch, .ref vt, .ref sh])), (ry, .inl (cI, 256, .inl yf)), (ch, .inl (cI, 8, .inl (nf ck))), (po, .inl (cI, 4000, .inl f1)), (vt, .inl (cI, 4, .inl v1)), (sh, .inl (cI, 4, .inl (nf s2)))] H → va_D A [(m0, .inr (7, [.int th, .int zz, .int rn, .ref rw, .int kn, .int rk, .int y1, .ref ry, .int (nI sp), .int lg, .ref ti, .int fo, .int (nI p1), .ref po, .ref su, .ref sq, .ref ch, .ref vt, .ref sh])), (ry, .inl (cI, 256, .inl yf)), (ch, .inl (cI, 8, .inl (nf ck))), (po, .inl (cI, 4000, .inl f1)), (vt, .inl (cI, 4, .inl v1)), (sh, .inl (cI, 4, .inl (nf s2)))] → va_S A s.heap H locs → W p l e ({ frames := 2, cells := 0, slots := 0, locals := 45 } : Room) s m ([.ref m0, .long ix] : List Value).toArray below meth c H locs 0 0 Q (F0 m 55 ls []) := by
                  intro n9
                  induction n9 using Nat.strongRecOn with
                  | ind n9 ih_55 =>
                    intro k2 rs s2 ls H locs hm_55 hsr hk2 hs2 hrs hl hP hD hS
                    refine lv_iload hx hb d_M_box_55 (lv_at hl 0 rfl) ?_
                    refine lv_aload_n hx hb d_M_box_57 rfl (lv_at hl 5 rfl) ?_
                    refine va_get (D := D) (ci := 7) (v := .int (nI sp)) (C := cn_M) (T := ft_M) (N := 19) hx hb hf_M (fun _ h => h) hown hK hP 0 rfl rfl 8 (by decide) (gw.at G hx0 mw_721 rfl _) (fun _ h9 => h9) rfl d_M_box_58 ?_
                    refine lv_icmp_ge (tgt := 87) hx hb d_M_box_61 (by decide) (fun h_20 => ?_) (fun h_20 => ?_)
                    · have h_20 : sp ≤ k2 := (nI_leI (a := sp) (b := k2) (by omega) (by omega)).mp h_20
                      have hk22 : k2 = sp := by omega
                      have hsr9 := hsr
                      rw [hk22] at hsr9
                      refine lv_iconst (v := (1 : Int32)) hx hb d_M_box_87 (by decide) ?_
                      refine lv_istore (lv' := [(7, .int (1 : Int32)), (6, .int (nI rs)), (5, .int (nI (1 + m2))), (4, .int (nI (pwn n sp))), (3, .int (nI n)), (0, .ref m0)]) hx hb d_M_box_88 hl (by decide) rfl (fun ls hl => ?_)
                      refine lv_iconst (v := (0 : Int32)) hx hb d_M_box_90 (by decide) ?_
                      refine lv_istore (lv' := [(8, .int (0 : Int32)), (7, .int (1 : Int32)), (6, .int (nI rs)), (5, .int (nI (1 + m2))), (4, .int (nI (pwn n sp))), (3, .int (nI n)), (0, .ref m0)]) hx hb d_M_box_91 hl (by decide) rfl (fun ls hl => ?_)
                      have lp_93 : ∀ (n9 : Nat) (i : Nat) (v2 : Nat → Int32) (wh : Int32) (ls : Array Slot) (H : Heap) (locs : List Loc), 4 - i = n9 → (bxV s2 yf ck n sp i v1 = v2) → (i ≤ 4) → ((wh = 1 ∧ ∀ q9, q9 < i → bxD s2 yf ck n sp q9) ∨ (wh = 0 ∧ ¬ ∀ q9, q9 < i → bxD s2 yf ck n sp q9)) → lv_has ls 11 [(8, .int (nI i)), (7, .int wh), (5, .int (nI (1 + m2))), (4, .int (nI (pwn n sp))), (3, .int (nI n)), (0, .ref m0)] → va_P D kl [(m0, .inr (7, [.int th, .int zz, .int rn, .ref rw, .int kn, .int rk, .int y1, .ref ry, .int (nI sp), .int lg, .ref ti, .int fo, .int (nI p1), .ref po, .ref su, .ref sq, .ref ch, .ref vt, .ref sh])), (ry, .inl (cI, 256, .inl yf)), (ch, .inl (cI, 8, .inl (nf ck))), (po, .inl (cI, 4000, .inl f1)), (vt, .inl (cI, 4, .inl v2)), (sh, .inl (cI, 4, .inl (nf s2)))] H → va_D A [(m0, .inr (7, [.int th, .int zz, .int rn, .ref rw, .int kn, .int rk, .int y1, .ref ry, .int (nI sp), .int lg, .ref ti, .int fo, .int (nI p1), .ref po, .ref su, .ref sq, .ref ch, .ref vt, .ref sh])), (ry, .inl (cI, 256, .inl yf)), (ch, .inl (cI, 8, .inl (nf ck))), (po, .inl (cI, 4000, .inl f1)), (vt, .inl (cI, 4, .inl v2)), (sh, .inl (cI, 4, .inl (nf s2)))] → va_S A s.heap H locs → W p l e ({ frames := 2, cells := 0, slots := 0, locals := 45 } : Room) s m ([.ref m0, .long ix] : List Value).toArray below meth c H locs 0 0 Q (F0 m 93 ls []) := by
                        intro n9
                        induction n9 using Nat.strongRecOn with
                        | ind n9 ih_93 =>
                          intro i v2 wh ls H locs hm_93 hbv hi9 hwh hl hP hD hS
                          refine lv_iload hx hb d_M_box_93 (lv_at hl 0 rfl) ?_
                          refine lv_iconst (v := (4 : Int32)) hx hb d_M_box_95 (by decide) ?_
                          refine lv_icmp_ge (tgt := 186) hx hb d_M_box_96 (by decide) (fun h_21 => ?_) (fun h_21 => ?_)
                          · have h_21 : 4 ≤ i := (nI_leI (a := 4) (b := i) (by omega) (by omega)).mp h_21
                            have hi4 : i = 4 := by omega
                            have hbv9 := hbv
                            rw [hi4] at hbv9 hwh
                            refine lv_iload hx hb d_M_box_186 (lv_at hl 1 rfl) ?_
                            refine lv_if_eq (tgt := 195) hx hb d_M_box_188 (by decide) (fun h_22 => ?_) (fun h_22 => ?_)
                            · have hall := (hwh.elim (fun z9 => absurd h_22 (by rw [z9.1]; decide)) id).2
                              refine lv_iinc (lv' := [(5, .int (nI ((1 + m2) + 1))), (8, .int (nI i)), (7, .int wh), (4, .int (nI (pwn n sp))), (3, .int (nI n)), (0, .ref m0)]) (k := 2) (v := nI ((1 + m2) + 1)) hx hb d_M_box_195 hl rfl (nI_add (1 + m2) 1) (by decide) rfl (fun ls hl => ?_)
                              refine lv_goto (tgt := 41) hx hb d_M_box_198 (by decide) ?_
                              exact ih_41 _ (by omega) (m2 + 1) p1 f1 v2 s2 ls H locs rfl (bxl_n hbl hsr9 hbv9 hall) (by omega) hp1 hs2 (lv_sub hl [0, 3, 4, 5] rfl) (hP.sub [0, 1, 2, 3, 4, 5] rfl) (hD.sub [0, 1, 2, 3, 4, 5] (by decide) rfl) hS
                            · have hall := (hwh.elim id (fun z9 => absurd z9.1 h_22)).2
                              refine lv_aload_n hx hb d_M_box_191 rfl (lv_at hl 5 rfl) ?_
                              refine cx_call (D := D) (cl := kl) (ws := _) (wc := [(m0, .inr (7, [.int th, .int zz, .int rn, .ref rw, .int kn, .int rk, .int y1, .ref ry, .int (nI sp), .int lg, .ref ti, .int fo, .int (nI p1), .ref po, .ref su, .ref sq, .ref ch, .ref vt, .ref sh])), (vt, .inl (cI, 4, .inl v2)), (po, .inl (cI, 4000, .inl f1))]) (wr := [(ry, .inl (cI, 256, .inl yf)), (ch, .inl (cI, 8, .inl (nf ck))), (sh, .inl (cI, 4, .inl (nf s2)))]) (tx_runV (C := cn_M) (b := m0) (As := []) (rest := []) hx hb hml hown (c_M_keepPoint E H.size m0 rw ry ti po su sq ch vt sh th zz rn kn rk y1 (nI sp) lg fo p1 v2 f1 hp1) (cx_C (b0 := b0) G hx0 mw_913 mw_9 ny_M_keepPoint (by decide)) (gw.at G hx0 mw_910 rfl _) (gw.at G hx0 mw_912 rfl _) (gw.at G hx0 ms_M_keepPoint rfl _) ⟨cx_blind, va_recv hK hP (q0 := 0) (ci := 7) (q := (cn_M, ft_M, 19)) rfl rfl, (cx_pre (s := s) hx0 hP hD hS hA0 [0, 4, 3] rfl rfl (by decide))⟩ rfl rfl hl.1 rfl (lv_room (Nat.le_of_ble_eq_true rfl)) d_M_box_192 ⟨by decide, by decide⟩) hP hD hS hA [0, 4, 3] [1, 2, 5] rfl rfl (by decide) (by decide) (fun v t w1 H locs ht hW9 hp hP hD hS => ?_) (fun x t w1 H locs ht hW9 hp hP hD hS => by obtain ⟨_, _, h9, -⟩ := hp; cases h9)
                              obtain ⟨n2_23, f2_24, h9, f_25, f_26, f_27, f_28, rfl⟩ := hp
                              cases h9
                              refine W.eq (g2 := F0 m 195 ls []) rfl ?_
                              refine W.widen (k := 0) (n := 0) (by decide) (by decide) ?_
                              have hP : va_P D kl [(ry, .inl (cI, 256, .inl yf)), (ch, .inl (cI, 8, .inl (nf ck))), (sh, .inl (cI, 4, .inl (nf s2))), (m0, .inr (7, [.int th, .int zz, .int rn, .ref rw, .int kn, .int rk, .int y1, .ref ry, .int (nI sp), .int lg, .ref ti, .int fo, .int (nI n2_23), .ref po, .ref su, .ref sq, .ref ch, .ref vt, .ref sh])), (vt, .inl (cI, 4, .inl v2)), (po, .inl (cI, 4000, .inl f2_24))] H := hP
                              have hD : va_D A [(ry, .inl (cI, 256, .inl yf)), (ch, .inl (cI, 8, .inl (nf ck))), (sh, .inl (cI, 4, .inl (nf s2))), (m0, .inr (7, [.int th, .int zz, .int rn, .ref rw, .int kn, .int rk, .int y1, .ref ry, .int (nI sp), .int lg, .ref ti, .int fo, .int (nI n2_23), .ref po, .ref su, .ref sq, .ref ch, .ref vt, .ref sh])), (vt, .inl (cI, 4, .inl v2)), (po, .inl (cI, 4000, .inl f2_24))] := hD
                              refine lv_iinc (lv' := [(5, .int (nI ((1 + m2) + 1))), (8, .int (nI i)), (7, .int wh), (4, .int (nI (pwn n sp))), (3, .int (nI n)), (0, .ref m0)]) (k := 2) (v := nI ((1 + m2) + 1)) hx hb d_M_box_195 hl rfl (nI_add (1 + m2) 1) (by decide) rfl (fun ls hl => ?_)
                              refine lv_goto (tgt := 41) hx hb d_M_box_198 (by decide) ?_
                              exact ih_41 _ (by omega) (m2 + 1) n2_23 f2_24 v2 s2 ls H locs rfl (bxl_y hbl hsr9 hbv9 hall f_25 f_26) (by omega) f_27 hs2 (lv_sub hl [0, 3, 4, 5] rfl) (hP.sub [3, 0, 1, 5, 4, 2] rfl) (hD.sub [3, 0, 1, 5, 4, 2] (by decide) rfl) hS
                          · have h_21 : ¬ (4 ≤ i) := fun z99 => h_21 ((nI_leI (a := 4) (b := i) (by omega) (by omega)).mpr z99)
                            refine lv_iconst (v := (0 : Int32)) hx hb d_M_box_99 (by decide) ?_
                            refine lv_istore (lv' := [(9, .int (0 : Int32)), (8, .int (nI i)), (7, .int wh), (5, .int (nI (1 + m2))), (4, .int (nI (pwn n sp))), (3, .int (nI n)), (0, .ref m0)]) hx hb d_M_box_100 hl (by decide) rfl (fun ls hl => ?_)
                            refine lv_iconst (v := (0 : Int32)) hx hb d_M_box_102 (by decide) ?_
                            refine lv_istore (lv' := [(10, .int (0 : Int32)), (9, .int (0 : Int32)), (8, .int (nI i)), (7, .int wh), (5, .int (nI (1 + m2))), (4, .int (nI (pwn n sp))), (3, .int (nI n)), (0, .ref m0)]) hx hb d_M_box_103 hl (by decide) rfl (fun ls hl => ?_)
                            have lp_105 : ∀ (n9 : Nat) (k3 : Nat) (v : Int32) (ls : Array Slot) (H : Heap) (locs : List Loc), sp - k3 = n9 → (bs1 s2 yf ck i k3 = v) → (k3 ≤ sp) → lv_has ls 11 [(10, .int (nI k3)), (9, .int v), (8, .int (nI i)), (7, .int wh), (5, .int (nI (1 + m2))), (4, .int (nI (pwn n sp))), (3, .int (nI n)), (0, .ref m0)] → va_P D kl [(m0, .inr (7, [.int th, .int zz, .int rn, .ref rw, .int kn, .int rk, .int y1, .ref ry, .int (nI sp), .int lg, .ref ti, .int fo, .int (nI p1), .ref po, .ref su, .ref sq, .ref ch, .ref vt, .ref sh])), (ry, .inl (cI, 256, .inl yf)), (ch, .inl (cI, 8, .inl (nf ck))), (po, .inl (cI, 4000, .inl f1)), (vt, .inl (cI, 4, .inl v2)), (sh, .inl (cI, 4, .inl (nf s2)))] H → va_D A [(m0, .inr (7, [.int th, .int zz, .int rn, .ref rw, .int kn, .int rk, .int y1, .ref ry, .int (nI sp), .int lg, .ref ti, .int fo, .int (nI p1), .ref po, .ref su, .ref sq, .ref ch, .ref vt, .ref sh])), (ry, .inl (cI, 256, .inl yf)), (ch, .inl (cI, 8, .inl (nf ck))), (po, .inl (cI, 4000, .inl f1)), (vt, .inl (cI, 4, .inl v2)), (sh, .inl (cI, 4, .inl (nf s2)))] → va_S A s.heap H locs → W p l e ({ frames := 2, cells := 0, slots := 0, locals := 45 } : Room) s m ([.ref m0, .long ix] : List Value).toArray below meth c H locs 0 0 Q (F0 m 105 ls []) := by
                              intro n9
                              induction n9 using Nat.strongRecOn with
                              | ind n9 ih_105 =>
                                intro k3 v ls H locs hm_105 hb1 hk3 hl hP hD hS
                                refine lv_iload hx hb d_M_box_105 (lv_at hl 0 rfl) ?_
                                refine lv_aload_n hx hb d_M_box_107 rfl (lv_at hl 7 rfl) ?_
                                refine va_get (D := D) (ci := 7) (v := .int (nI sp)) (C := cn_M) (T := ft_M) (N := 19) hx hb hf_M (fun _ h => h) hown hK hP 0 rfl rfl 8 (by decide) (gw.at G hx0 mw_721 rfl _) (fun _ h9 => h9) rfl d_M_box_108 ?_
                                refine lv_icmp_ge (tgt := 150) hx hb d_M_box_111 (by decide) (fun h_29 => ?_) (fun h_29 => ?_)
                                · have h_29 : sp ≤ k3 := (nI_leI (a := sp) (b := k3) (by omega) (by omega)).mp h_29
                                  have hk33 : k3 = sp := by omega
                                  have hb9 := hb1
                                  rw [hk33] at hb9
                                  refine lv_iload hx hb d_M_box_150 (lv_at hl 3 rfl) ?_
                                  refine lv_if_eq (tgt := 166) hx hb d_M_box_152 (by decide) (fun h_30 => ?_) (fun h_30 => ?_)
                                  · refine lv_iconst (v := (0 : Int32)) hx hb d_M_box_166 (by decide) ?_
                                    refine lv_istore (lv' := [(7, .int (0 : Int32)), (10, .int (nI k3)), (9, .int v), (8, .int (nI i)), (5, .int (nI (1 + m2))), (4, .int (nI (pwn n sp))), (3, .int (nI n)), (0, .ref m0)]) hx hb d_M_box_167 hl (by decide) rfl (fun ls hl => ?_)
                                    refine lv_aload_n hx hb d_M_box_169 rfl (lv_at hl 7 rfl) ?_
                                    refine va_get (D := D) (ci := 7) (v := .ref vt) (C := cn_M) (T := ft_M) (N := 19) hx hb hf_M (fun _ h => h) hown hK hP 0 rfl rfl 17 (by decide) (gw.at G hx0 mw_730 rfl _) (fun _ h9 => h9) rfl d_M_box_170 ?_
                                    refine lv_iload hx hb d_M_box_173 (lv_at hl 3 rfl) ?_
                                    refine lv_iload hx hb d_M_box_175 (lv_at hl 2 rfl) ?_
                                    refine lv_iload_n hx hb d_M_box_177 rfl (lv_at hl 6 rfl) ?_
                                    refine lv_idiv hx hb d_M_box_178 (nI_ne0 hn0 (by omega)) ?_
                                    refine va_iast hx hb hK hP hD hS 4 0 rfl rfl (vp_in_nI (n := i) (by omega) (by omega)) d_M_box_179 (fun H locs hP hD hS => ?_)
                                    rw [nI_clamp (n := i) (by omega)] at hP hD
                                    have hP : va_P D kl [(m0, .inr (7, [.int th, .int zz, .int rn, .ref rw, .int kn, .int rk, .int y1, .ref ry, .int (nI sp), .int lg, .ref ti, .int fo, .int (nI p1), .ref po, .ref su, .ref sq, .ref ch, .ref vt, .ref sh])), (ry, .inl (cI, 256, .inl yf)), (ch, .inl (cI, 8, .inl (nf ck))), (po, .inl (cI, 4000, .inl f1)), (vt, .inl (cI, 4, .inl (upd v2 i (v / (nI n))))), (sh, .inl (cI, 4, .inl (nf s2)))] H := hP
                                    have hD : va_D A [(m0, .inr (7, [.int th, .int zz, .int rn, .ref rw, .int kn, .int rk, .int y1, .ref ry, .int (nI sp), .int lg, .ref ti, .int fo, .int (nI p1), .ref po, .ref su, .ref sq, .ref ch, .ref vt, .ref sh])), (ry, .inl (cI, 256, .inl yf)), (ch, .inl (cI, 8, .inl (nf ck))), (po, .inl (cI, 4000, .inl f1)), (vt, .inl (cI, 4, .inl (upd v2 i (v / (nI n))))), (sh, .inl (cI, 4, .inl (nf s2)))] := hD
                                    refine lv_iinc (lv' := [(8, .int (nI (i + 1))), (7, .int (0 : Int32)), (10, .int (nI k3)), (9, .int v), (5, .int (nI (1 + m2))), (4, .int (nI (pwn n sp))), (3, .int (nI n)), (0, .ref m0)]) (k := 3) (v := nI (i + 1)) hx hb d_M_box_180 hl rfl (nI_add i 1) (by decide) rfl (fun ls hl => ?_)
                                    refine lv_goto (tgt := 93) hx hb d_M_box_183 (by decide) ?_
                                    exact ih_93 _ (by omega) (i + 1) (upd v2 i (v / (nI n))) (0 : Int32) ls H locs rfl (bxV_s hbv hb9) (by omega) (Or.inr ⟨rfl, fun z9 => (hwh.elim (fun z8 => absurd h_30 (by rw [z8.1]; decide)) (fun z8 => z8.2 (fun q9 hq9 => z9 q9 (by omega))))⟩) (lv_sub hl [0, 1, 4, 5, 6, 7] rfl) (hP.sub [0, 1, 2, 3, 4, 5] rfl) (hD.sub [0, 1, 2, 3, 4, 5] (by decide) rfl) hS
                                  · refine lv_iload hx hb d_M_box_155 (lv_at hl 1 rfl) ?_
                                    refine lv_iload_n hx hb d_M_box_157 rfl (lv_at hl 6 rfl) ?_
                                    refine lv_irem hx hb d_M_box_158 (nI_ne0 hn0 (by omega)) ?_
                                    refine lv_if_ne (tgt := 166) hx hb d_M_box_159 (by decide) (fun h_31 => ?_) (fun h_31 => ?_)
                                    · refine lv_iconst (v := (0 : Int32)) hx hb d_M_box_166 (by decide) ?_
                                      refine lv_istore (lv' := [(7, .int (0 : Int32)), (10, .int (nI k3)), (9, .int v), (8, .int (nI i)), (5, .int (nI (1 + m2))), (4, .int (nI (pwn n sp))), (3, .int (nI n)), (0, .ref m0)]) hx hb d_M_box_167 hl (by decide) rfl (fun ls hl => ?_)
                                      refine lv_aload_n hx hb d_M_box_169 rfl (lv_at hl 7 rfl) ?_
                                      refine va_get (D := D) (ci := 7) (v := .ref vt) (C := cn_M) (T := ft_M) (N := 19) hx hb hf_M (fun _ h => h) hown hK hP 0 rfl rfl 17 (by decide) (gw.at G hx0 mw_730 rfl _) (fun _ h9 => h9) rfl d_M_box_170 ?_
                                      refine lv_iload hx hb d_M_box_173 (lv_at hl 3 rfl) ?_
                                      refine lv_iload hx hb d_M_box_175 (lv_at hl 2 rfl) ?_
                                      refine lv_iload_n hx hb d_M_box_177 rfl (lv_at hl 6 rfl) ?_
                                      refine lv_idiv hx hb d_M_box_178 (nI_ne0 hn0 (by omega)) ?_
                                      refine va_iast hx hb hK hP hD hS 4 0 rfl rfl (vp_in_nI (n := i) (by omega) (by omega)) d_M_box_179 (fun H locs hP hD hS => ?_)
                                      rw [nI_clamp (n := i) (by omega)] at hP hD
                                      have hP : va_P D kl [(m0, .inr (7, [.int th, .int zz, .int rn, .ref rw, .int kn, .int rk, .int y1, .ref ry, .int (nI sp), .int lg, .ref ti, .int fo, .int (nI p1), .ref po, .ref su, .ref sq, .ref ch, .ref vt, .ref sh])), (ry, .inl (cI, 256, .inl yf)), (ch, .inl (cI, 8, .inl (nf ck))), (po, .inl (cI, 4000, .inl f1)), (vt, .inl (cI, 4, .inl (upd v2 i (v / (nI n))))), (sh, .inl (cI, 4, .inl (nf s2)))] H := hP
                                      have hD : va_D A [(m0, .inr (7, [.int th, .int zz, .int rn, .ref rw, .int kn, .int rk, .int y1, .ref ry, .int (nI sp), .int lg, .ref ti, .int fo, .int (nI p1), .ref po, .ref su, .ref sq, .ref ch, .ref vt, .ref sh])), (ry, .inl (cI, 256, .inl yf)), (ch, .inl (cI, 8, .inl (nf ck))), (po, .inl (cI, 4000, .inl f1)), (vt, .inl (cI, 4, .inl (upd v2 i (v / (nI n))))), (sh, .inl (cI, 4, .inl (nf s2)))] := hD
                                      refine lv_iinc (lv' := [(8, .int (nI (i + 1))), (7, .int (0 : Int32)), (10, .int (nI k3)), (9, .int v), (5, .int (nI (1 + m2))), (4, .int (nI (pwn n sp))), (3, .int (nI n)), (0, .ref m0)]) (k := 3) (v := nI (i + 1)) hx hb d_M_box_180 hl rfl (nI_add i 1) (by decide) rfl (fun ls hl => ?_)
                                      refine lv_goto (tgt := 93) hx hb d_M_box_183 (by decide) ?_
                                      exact ih_93 _ (by omega) (i + 1) (upd v2 i (v / (nI n))) (0 : Int32) ls H locs rfl (bxV_s hbv hb9) (by omega) (Or.inr ⟨rfl, fun z9 => by have z8 := z9 i (by omega); unfold bxD at z8; rw [hb9] at z8; exact h_31 z8⟩) (lv_sub hl [0, 1, 4, 5, 6, 7] rfl) (hP.sub [0, 1, 2, 3, 4, 5] rfl) (hD.sub [0, 1, 2, 3, 4, 5] (by decide) rfl) hS
                                    · refine lv_iconst (v := (1 : Int32)) hx hb d_M_box_162 (by decide) ?_
                                      refine lv_goto (tgt := 167) hx hb d_M_box_163 (by decide) ?_
                                      refine lv_istore (lv' := [(7, .int (1 : Int32)), (10, .int (nI k3)), (9, .int v), (8, .int (nI i)), (5, .int (nI (1 + m2))), (4, .int (nI (pwn n sp))), (3, .int (nI n)), (0, .ref m0)]) hx hb d_M_box_167 hl (by decide) rfl (fun ls hl => ?_)
                                      refine lv_aload_n hx hb d_M_box_169 rfl (lv_at hl 7 rfl) ?_
                                      refine va_get (D := D) (ci := 7) (v := .ref vt) (C := cn_M) (T := ft_M) (N := 19) hx hb hf_M (fun _ h => h) hown hK hP 0 rfl rfl 17 (by decide) (gw.at G hx0 mw_730 rfl _) (fun _ h9 => h9) rfl d_M_box_170 ?_
                                      refine lv_iload hx hb d_M_box_173 (lv_at hl 3 rfl) ?_
                                      refine lv_iload hx hb d_M_box_175 (lv_at hl 2 rfl) ?_
                                      refine lv_iload_n hx hb d_M_box_177 rfl (lv_at hl 6 rfl) ?_
                                      refine lv_idiv hx hb d_M_box_178 (nI_ne0 hn0 (by omega)) ?_
                                      refine va_iast hx hb hK hP hD hS 4 0 rfl rfl (vp_in_nI (n := i) (by omega) (by omega)) d_M_box_179 (fun H locs hP hD hS => ?_)
                                      rw [nI_clamp (n := i) (by omega)] at hP hD
                                      have hP : va_P D kl [(m0, .inr (7, [.int th, .int zz, .int rn, .ref rw, .int kn, .int rk, .int y1, .ref ry, .int (nI sp), .int lg, .ref ti, .int fo, .int (nI p1), .ref po, .ref su, .ref sq, .ref ch, .ref vt, .ref sh])), (ry, .inl (cI, 256, .inl yf)), (ch, .inl (cI, 8, .inl (nf ck))), (po, .inl (cI, 4000, .inl f1)), (vt, .inl (cI, 4, .inl (upd v2 i (v / (nI n))))), (sh, .inl (cI, 4, .inl (nf s2)))] H := hP
                                      have hD : va_D A [(m0, .inr (7, [.int th, .int zz, .int rn, .ref rw, .int kn, .int rk, .int y1, .ref ry, .int (nI sp), .int lg, .ref ti, .int fo, .int (nI p1), .ref po, .ref su, .ref sq, .ref ch, .ref vt, .ref sh])), (ry, .inl (cI, 256, .inl yf)), (ch, .inl (cI, 8, .inl (nf ck))), (po, .inl (cI, 4000, .inl f1)), (vt, .inl (cI, 4, .inl (upd v2 i (v / (nI n))))), (sh, .inl (cI, 4, .inl (nf s2)))] := hD
                                      refine lv_iinc (lv' := [(8, .int (nI (i + 1))), (7, .int (1 : Int32)), (10, .int (nI k3)), (9, .int v), (5, .int (nI (1 + m2))), (4, .int (nI (pwn n sp))), (3, .int (nI n)), (0, .ref m0)]) (k := 3) (v := nI (i + 1)) hx hb d_M_box_180 hl rfl (nI_add i 1) (by decide) rfl (fun ls hl => ?_)
                                      refine lv_goto (tgt := 93) hx hb d_M_box_183 (by decide) ?_
                                      exact ih_93 _ (by omega) (i + 1) (upd v2 i (v / (nI n))) (1 : Int32) ls H locs rfl (bxV_s hbv hb9) (by omega) (Or.inl ⟨rfl, fun q9 hq9 => (Nat.lt_succ_iff_lt_or_eq.mp hq9).elim ((hwh.elim id (fun z9 => absurd z9.1 h_30)).2 q9) (fun e9 => by rw [e9]; unfold bxD; rw [hb9]; exact h_31)⟩) (lv_sub hl [0, 1, 4, 5, 6, 7] rfl) (hP.sub [0, 1, 2, 3, 4, 5] rfl) (hD.sub [0, 1, 2, 3, 4, 5] (by decide) rfl) hS
                                · have h_29 : ¬ (sp ≤ k3) := fun z99 => h_29 ((nI_leI (a := sp) (b := k3) (by omega) (by omega)).mpr z99)
                                  refine lv_iload hx hb d_M_box_114 (lv_at hl 1 rfl) ?_
                                  refine lv_aload_n hx hb d_M_box_116 rfl (lv_at hl 7 rfl) ?_
                                  refine va_get (D := D) (ci := 7) (v := .ref sh) (C := cn_M) (T := ft_M) (N := 19) hx hb hf_M (fun _ h => h) hown hK hP 0 rfl rfl 18 (by decide) (gw.at G hx0 mw_731 rfl _) (fun _ h9 => h9) rfl d_M_box_117 ?_
                                  refine lv_iload hx hb d_M_box_120 (lv_at hl 0 rfl) ?_
                                  refine va_iald hx hb hK hP 5 0 rfl rfl (vp_in_nI (n := k3) (by omega) (by omega)) d_M_box_122 ?_
                                  refine tp_i (y := (nf s2) k3) (congrArg (nf s2) (nI_clamp (n := k3) (by omega))) ?_
                                  refine tp_i (y := nI (s2 k3)) rfl ?_
                                  have hb_32 := hs2 k3
                                  refine lv_aload_n hx hb d_M_box_123 rfl (lv_at hl 7 rfl) ?_
                                  refine va_get (D := D) (ci := 7) (v := .ref ry) (C := cn_M) (T := ft_M) (N := 19) hx hb hf_M (fun _ h => h) hown hK hP 0 rfl rfl 7 (by decide) (gw.at G hx0 mw_720 rfl _) (fun _ h9 => h9) rfl d_M_box_124 ?_
                                  refine lv_iconst (v := (4 : Int32)) hx hb d_M_box_127 (by decide) ?_
                                  refine lv_aload_n hx hb d_M_box_128 rfl (lv_at hl 7 rfl) ?_
                                  refine va_get (D := D) (ci := 7) (v := .ref ch) (C := cn_M) (T := ft_M) (N := 19) hx hb hf_M (fun _ h => h) hown hK hP 0 rfl rfl 16 (by decide) (gw.at G hx0 mw_729 rfl _) (fun _ h9 => h9) rfl d_M_box_129 ?_
                                  refine lv_iload hx hb d_M_box_132 (lv_at hl 0 rfl) ?_
                                  refine va_iald hx hb hK hP 2 0 rfl rfl (vp_in_nI (n := k3) (by omega) (by omega)) d_M_box_134 ?_
                                  refine tp_i (y := (nf ck) k3) (congrArg (nf ck) (nI_clamp (n := k3) (by omega))) ?_
                                  refine tp_i (y := nI (ck k3)) rfl ?_
                                  have hb_33 := hck k3
                                  refine lv_imul hx hb d_M_box_135 ?_
                                  refine tp_i (y := nI (4 * (ck k3))) (nI_mul 4 (ck k3)) ?_
                                  refine lv_iload hx hb d_M_box_136 (lv_at hl 2 rfl) ?_
                                  refine lv_iadd hx hb d_M_box_138 ?_
                                  refine tp_i (y := nI ((4 * (ck k3)) + i)) (nI_add (4 * (ck k3)) i) ?_
                                  refine va_iald hx hb hK hP 1 0 rfl rfl (vp_in_nI (n := (4 * (ck k3)) + i) (by omega) (by omega)) d_M_box_139 ?_
                                  refine tp_i (y := yf ((4 * (ck k3)) + i)) (congrArg yf (nI_clamp (n := (4 * (ck k3)) + i) (by omega))) ?_
                                  refine lv_imul hx hb d_M_box_140 ?_
                                  refine lv_iadd hx hb d_M_box_141 ?_
                                  refine lv_istore (lv' := [(9, .int (v + ((nI (s2 k3)) * (yf ((4 * (ck k3)) + i))))), (10, .int (nI k3)), (8, .int (nI i)), (7, .int wh), (5, .int (nI (1 + m2))), (4, .int (nI (pwn n sp))), (3, .int (nI n)), (0, .ref m0)]) hx hb d_M_box_142 hl (by decide) rfl (fun ls hl => ?_)
                                  refine lv_iinc (lv' := [(10, .int (nI (k3 + 1))), (9, .int (v + ((nI (s2 k3)) * (yf ((4 * (ck k3)) + i))))), (8, .int (nI i)), (7, .int wh), (5, .int (nI (1 + m2))), (4, .int (nI (pwn n sp))), (3, .int (nI n)), (0, .ref m0)]) (k := 1) (v := nI (k3 + 1)) hx hb d_M_box_144 hl rfl (nI_add k3 1) (by decide) rfl (fun ls hl => ?_)
                                  refine lv_goto (tgt := 105) hx hb d_M_box_147 (by decide) ?_
                                  exact ih_105 _ (by omega) (k3 + 1) (v + ((nI (s2 k3)) * (yf ((4 * (ck k3)) + i)))) ls H locs rfl (bs1_s hb1) (by omega) (lv_sub hl [0, 1, 2, 3, 4, 5, 6, 7] rfl) (hP.sub [0, 1, 2, 3, 4, 5] rfl) (hD.sub [0, 1, 2, 3, 4, 5] (by decide) rfl) hS
                            exact lp_105 _ 0 0 ls H locs rfl rfl (Nat.zero_le _) (lv_sub hl [0, 1, 2, 3, 4, 5, 6, 7] rfl) (hP.sub [0, 1, 2, 3, 4, 5] rfl) (hD.sub [0, 1, 2, 3, 4, 5] (by decide) rfl) hS
                      exact lp_93 _ 0 v1 1 ls H locs rfl rfl (Nat.zero_le _) (Or.inl ⟨rfl, fun q9 hq9 => absurd hq9 (Nat.not_lt_zero q9)⟩) (lv_sub hl [0, 1, 3, 4, 5, 6] rfl) (hP.sub [0, 1, 2, 3, 4, 5] rfl) (hD.sub [0, 1, 2, 3, 4, 5] (by decide) rfl) hS
                    · have h_20 : ¬ (sp ≤ k2) := fun z99 => h_20 ((nI_leI (a := sp) (b := k2) (by omega) (by omega)).mpr z99)
                      refine lv_aload_n hx hb d_M_box_64 rfl (lv_at hl 5 rfl) ?_
                      refine va_get (D := D) (ci := 7) (v := .ref sh) (C := cn_M) (T := ft_M) (N := 19) hx hb hf_M (fun _ h => h) hown hK hP 0 rfl rfl 18 (by decide) (gw.at G hx0 mw_731 rfl _) (fun _ h9 => h9) rfl d_M_box_65 ?_
                      refine lv_iload hx hb d_M_box_68 (lv_at hl 0 rfl) ?_
                      refine lv_iload hx hb d_M_box_70 (lv_at hl 1 rfl) ?_
                      refine lv_iload_n hx hb d_M_box_72 rfl (lv_at hl 4 rfl) ?_
                      refine lv_irem hx hb d_M_box_73 (nI_ne0 hn0 (by omega)) ?_
                      refine tp_i (y := nI (rs % n)) (nI_rem hrs (by omega)) ?_
                      refine va_iast hx hb hK hP hD hS 5 0 rfl rfl (vp_in_nI (n := k2) (by omega) (by omega)) d_M_box_74 (fun H locs hP hD hS => ?_)
                      rw [nI_clamp (n := k2) (by omega)] at hP hD
                      rw [show upd (nf s2) k2 (nI (rs % n)) = nf (updN s2 k2 (rs % n)) from nf_upd _ _ _] at hP hD
                      have hP : va_P D kl [(m0, .inr (7, [.int th, .int zz, .int rn, .ref rw, .int kn, .int rk, .int y1, .ref ry, .int (nI sp), .int lg, .ref ti, .int fo, .int (nI p1), .ref po, .ref su, .ref sq, .ref ch, .ref vt, .ref sh])), (ry, .inl (cI, 256, .inl yf)), (ch, .inl (cI, 8, .inl (nf ck))), (po, .inl (cI, 4000, .inl f1)), (vt, .inl (cI, 4, .inl v1)), (sh, .inl (cI, 4, .inl (nf (updN s2 k2 (rs % n)))))] H := hP
                      have hD : va_D A [(m0, .inr (7, [.int th, .int zz, .int rn, .ref rw, .int kn, .int rk, .int y1, .ref ry, .int (nI sp), .int lg, .ref ti, .int fo, .int (nI p1), .ref po, .ref su, .ref sq, .ref ch, .ref vt, .ref sh])), (ry, .inl (cI, 256, .inl yf)), (ch, .inl (cI, 8, .inl (nf ck))), (po, .inl (cI, 4000, .inl f1)), (vt, .inl (cI, 4, .inl v1)), (sh, .inl (cI, 4, .inl (nf (updN s2 k2 (rs % n)))))] := hD
                      refine lv_iload hx hb d_M_box_75 (lv_at hl 1 rfl) ?_
                      refine lv_iload_n hx hb d_M_box_77 rfl (lv_at hl 4 rfl) ?_
                      refine lv_idiv hx hb d_M_box_78 (nI_ne0 hn0 (by omega)) ?_
                      refine tp_i (y := nI (rs / n)) (nI_quo hrs (by omega)) ?_
                      refine lv_istore (lv' := [(6, .int (nI (rs / n))), (7, .int (nI k2)), (5, .int (nI (1 + m2))), (4, .int (nI (pwn n sp))), (3, .int (nI n)), (0, .ref m0)]) hx hb d_M_box_79 hl (by decide) rfl (fun ls hl => ?_)
                      refine lv_iinc (lv' := [(7, .int (nI (k2 + 1))), (6, .int (nI (rs / n))), (5, .int (nI (1 + m2))), (4, .int (nI (pwn n sp))), (3, .int (nI n)), (0, .ref m0)]) (k := 1) (v := nI (k2 + 1)) hx hb d_M_box_81 hl rfl (nI_add k2 1) (by decide) rfl (fun ls hl => ?_)
                      refine lv_goto (tgt := 55) hx hb d_M_box_84 (by decide) ?_
                      exact ih_55 _ (by omega) (k2 + 1) (rs / n) (updN s2 k2 (rs % n)) ls H locs rfl (shr_s hsr) (by omega) (updN_lt hs2 (Nat.lt_of_lt_of_le (Nat.mod_lt _ hn0) hn)) (Nat.lt_of_le_of_lt (Nat.div_le_self _ _) hrs) (lv_sub hl [0, 1, 2, 3, 4, 5] rfl) (hP.sub [0, 1, 2, 3, 4, 5] rfl) (hD.sub [0, 1, 2, 3, 4, 5] (by decide) rfl) hS
                exact lp_55 _ 0 (1 + m2) s1 ls H locs rfl rfl (Nat.zero_le _) hs1 (by omega) (lv_sub hl [0, 1, 2, 3, 4, 5] rfl) (hP.sub [0, 1, 2, 3, 4, 5] rfl) (hD.sub [0, 1, 2, 3, 4, 5] (by decide) rfl) hS
          exact lp_41 _ 0 pt pf vf sk ls H locs rfl rfl (Nat.zero_le _) hpt hsk (lv_sub hl [0, 1, 2, 3] rfl) (hP.sub [0, 1, 2, 3, 4, 5] rfl) (hD.sub [0, 1, 2, 3, 4, 5] (by decide) rfl) hS
        · have h_18 : ¬ (sp ≤ k) := fun z99 => h_18 ((nI_leI (a := sp) (b := k) (by omega) (by omega)).mpr z99)
          refine lv_iload hx hb d_M_box_26 (lv_at hl 1 rfl) ?_
          refine lv_iload_n hx hb d_M_box_28 rfl (lv_at hl 2 rfl) ?_
          refine lv_imul hx hb d_M_box_29 ?_
          refine tp_i (y := nI (al * n)) (nI_mul al n) ?_
          refine lv_istore (lv' := [(4, .int (nI (al * n))), (5, .int (nI k)), (3, .int (nI n)), (0, .ref m0)]) hx hb d_M_box_30 hl (by decide) rfl (fun ls hl => ?_)
          refine lv_iinc (lv' := [(5, .int (nI (k + 1))), (4, .int (nI (al * n))), (3, .int (nI n)), (0, .ref m0)]) (k := 1) (v := nI (k + 1)) hx hb d_M_box_32 hl rfl (nI_add k 1) (by decide) rfl (fun ls hl => ?_)
          refine lv_goto (tgt := 17) hx hb d_M_box_35 (by decide) ?_
          exact ih_17 _ (by omega) (k + 1) (al * n) ls H locs rfl (by rw [hal, pwn_s]) (by omega) (by rw [Nat.pow_succ]; exact Nat.mul_le_mul ha12 hn) (lv_sub hl [0, 1, 2, 3] rfl) (hP.sub [0, 1, 2, 3, 4, 5] rfl) (hD.sub [0, 1, 2, 3, 4, 5] (by decide) rfl) hS
    exact lp_17 _ 0 0 ls s.heap [] rfl (pwn_0z h_1) (Nat.zero_le _) (by decide) (lv_sub hl [0, 1, 2, 3] rfl) (hP.sub [0, 1, 2, 3, 4, 5] rfl) (hD.sub [0, 1, 2, 3, 4, 5] (by decide) rfl) hS

