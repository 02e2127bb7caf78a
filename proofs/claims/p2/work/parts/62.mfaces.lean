/-! ===== own rows, laid by wip/tools/g46.py: the reference's calls ===== -/
def ism (tf : Nat → Int32) (sx a0 : Int32) : Nat → Int32
  | 0 => a0
  | r + 1 => if sx &&& (tf r ^^^ (-1 : Int32)) = 0 then ism tf sx a0 r &&& tf r else ism tf sx a0 r
theorem ism_y {tf : Nat → Int32} {sx a0 v : Int32} {r : Nat} (h : ism tf sx a0 r = v) (e : sx &&& (tf r ^^^ (-1 : Int32)) = 0) : ism tf sx a0 (r + 1) = v &&& tf r := by
  show (if sx &&& (tf r ^^^ (-1 : Int32)) = 0 then _ else _) = _
  rw [if_pos e, h]
theorem ism_n {tf : Nat → Int32} {sx a0 v : Int32} {r : Nat} (h : ism tf sx a0 r = v) (e : ¬ sx &&& (tf r ^^^ (-1 : Int32)) = 0) : ism tf sx a0 (r + 1) = v := by
  show (if sx &&& (tf r ^^^ (-1 : Int32)) = 0 then _ else _) = _
  rw [if_neg e, h]
def isfP (tf : Nat → Int32) (rn yn : Nat) (sx : Int32) : Prop := ism tf sx (allx yn) rn = sx
/-- the faces of a dimension among the first x sets of rays; the square -/
noncomputable def fcs (yf tf : Nat → Int32) (rn yn : Nat) (d : Int32) : Nat → Nat × (Nat → Int64) → Nat × (Nat → Int64)
  | 0, p => p
  | x + 1, p => @ite _ (isfP tf rn yn (nI x)) (Classical.propDecidable _) (if nI (dmo yf yn (nI x) (fcs yf tf rn yn d x p).2).1 = d then (fcs yf tf rn yn d x p).1 + 1 else (fcs yf tf rn yn d x p).1, (dmo yf yn (nI x) (fcs yf tf rn yn d x p).2).2) (fcs yf tf rn yn d x p)
theorem fcs_n {yf tf : Nat → Int32} {rn yn x : Nat} {d : Int32} {p r : Nat × (Nat → Int64)} (h : fcs yf tf rn yn d x p = r) (e : ¬ isfP tf rn yn (nI x)) : fcs yf tf rn yn d (x + 1) p = r := by
  show @ite _ (isfP tf rn yn (nI x)) (Classical.propDecidable _) _ _ = _
  rw [@if_neg _ (Classical.propDecidable _) e, h]
theorem fcs_y {yf tf : Nat → Int32} {rn yn x n v : Nat} {d : Int32} {p : Nat × (Nat → Int64)} {q q2 : Nat → Int64} (h : fcs yf tf rn yn d x p = (n, q)) (e : isfP tf rn yn (nI x)) (hd : dmo yf yn (nI x) q = (v, q2)) : fcs yf tf rn yn d (x + 1) p = (if nI v = d then n + 1 else n, q2) := by
  show @ite _ (isfP tf rn yn (nI x)) (Classical.propDecidable _) _ _ = _
  rw [@if_pos _ (Classical.propDecidable _) e, h]
  simp only [hd]
theorem nI_room {x : Nat} {b : Int32} (hx : x < 2 ^ 31) (h : nI x < b) : x + 1 < 2 ^ 31 := by
  have h1 := Int32.lt_iff_toInt_lt.mp h
  rw [nI_toInt hx] at h1
  have := b.toInt_lt
  omega
theorem nI_up {x : Nat} {b : Int32} (hx : x < 2 ^ 31) (h : nI x < b) : x + 1 ≤ b.toNatClampNeg := by
  have h1 := Int32.lt_iff_toInt_lt.mp h
  rw [nI_toInt hx] at h1
  have : b.toNatClampNeg = b.toInt.toNat := rfl
  omega
theorem nI_down {x : Nat} {b : Int32} (hx : x < 2 ^ 31) (h : ¬ nI x < b) : b.toNatClampNeg ≤ x := by
  have h1 := Int32.le_iff_toInt_le.mp (Int32.not_lt.mp h)
  rw [nI_toInt hx] at h1
  have : b.toNatClampNeg = b.toInt.toNat := rfl
  omega
/-- a row bounds -/
def bmP (c : MC) (k : Nat) : Prop := (∃ q0 q1 v, dmo c.yf c.yn (c.tf k) q0 = (v, q1) ∧ nI v = nI c.sp - (1 : Int32)) ∧ ∀ r, r < k → ¬ c.tf r = c.tf k
/-- the last point that may be taken away, and 1; or 0 -/
noncomputable def fdk (wf pf vf : Nat → Int32) (rn : Nat) : Nat → Nat
  | 0 => 0
  | u + 1 => @ite _ (∀ k, k < rn → ¬ prm wf k vf 0 < prm wf k pf (4 * u)) (Classical.propDecidable _) (u + 1) (fdk wf pf vf rn u)
theorem fdk_s {wf pf vf : Nat → Int32} {rn u : Nat} (hu : 0 < u) (h : ¬ ∀ k, k < rn → ¬ prm wf k vf 0 < prm wf k pf (4 * (u - 1))) : fdk wf pf vf rn u = fdk wf pf vf rn (u - 1) := by
  obtain ⟨v, rfl⟩ : ∃ v, u = v + 1 := ⟨u - 1, by omega⟩
  exact @if_neg _ (Classical.propDecidable _) h _ _ _
theorem fdk_y {wf pf vf : Nat → Int32} {rn u : Nat} (hu : 0 < u) (h : ∀ k, k < rn → ¬ prm wf k vf 0 < prm wf k pf (4 * (u - 1))) : fdk wf pf vf rn u = u := by
  obtain ⟨v, rfl⟩ : ∃ v, u = v + 1 := ⟨u - 1, by omega⟩
  exact @if_pos _ (Classical.propDecidable _) h _ _ _
/-- how many points are taken away -/
noncomputable def prs (wf pf : Nat → Int32) (rn pt : Nat) : Nat → (Nat → Int32) → Nat → Int32
  | 0, _, _ => 0
  | f + 1, vf, n => @ite _ (all4 (vf 0) (vf 1) (vf 2) (vf 3)) (Classical.propDecidable _) (nI n) (if fdk wf pf vf rn pt = 0 then -1 else prs wf pf rn pt f (vsb vf pf (fdk wf pf vf rn pt - 1)) (n + 1))
theorem prs_0 {wf pf vf : Nat → Int32} {rn pt f n : Nat} (hf : 0 < f) (h : all4 (vf 0) (vf 1) (vf 2) (vf 3)) : prs wf pf rn pt f vf n = nI n := by
  obtain ⟨v, rfl⟩ : ∃ v, f = v + 1 := ⟨f - 1, by omega⟩
  exact @if_pos _ (Classical.propDecidable _) h _ _ _
theorem prs_m {wf pf vf : Nat → Int32} {rn pt f n : Nat} (hf : 0 < f) (h : ¬ all4 (vf 0) (vf 1) (vf 2) (vf 3)) (hk : fdk wf pf vf rn pt = 0) : prs wf pf rn pt f vf n = -1 := by
  obtain ⟨v, rfl⟩ : ∃ v, f = v + 1 := ⟨f - 1, by omega⟩
  show @ite _ (all4 (vf 0) (vf 1) (vf 2) (vf 3)) (Classical.propDecidable _) _ _ = _
  rw [@if_neg _ (Classical.propDecidable _) h, if_pos hk]
theorem prs_s {wf pf vf : Nat → Int32} {rn pt f n u : Nat} (hf : 0 < f) (h : ¬ all4 (vf 0) (vf 1) (vf 2) (vf 3)) (hk : fdk wf pf vf rn pt = u) (hu : 0 < u) : prs wf pf rn pt f vf n = prs wf pf rn pt (f - 1) (vsb vf pf (u - 1)) (n + 1) := by
  obtain ⟨v, rfl⟩ : ∃ v, f = v + 1 := ⟨f - 1, by omega⟩
  show @ite _ (all4 (vf 0) (vf 1) (vf 2) (vf 3)) (Classical.propDecidable _) _ _ = _
  rw [@if_neg _ (Classical.propDecidable _) h, if_neg (by omega), hk]
  rfl
def lmv (a b c d : Int32) (pf : Nat → Int32) (k : Nat) : Int32 := (0 : Int32) + a * pf (4 * k + 0) + b * pf (4 * k + 1) + c * pf (4 * k + 2) + d * pf (4 * k + 3)
def bst (a b c d : Int32) (pf : Nat → Int32) : Nat → Int32
  | 0 => 0
  | k + 1 => if k = 0 ∨ lmv a b c d pf k < bst a b c d pf k then lmv a b c d pf k else bst a b c d pf k
theorem bst_y {a b c d v : Int32} {pf : Nat → Int32} {k : Nat} (h : bst a b c d pf k = v) (e : k = 0 ∨ lmv a b c d pf k < v) : bst a b c d pf (k + 1) = lmv a b c d pf k := by
  show (if k = 0 ∨ lmv a b c d pf k < bst a b c d pf k then _ else _) = _
  rw [h, if_pos e]
theorem bst_n {a b c d v : Int32} {pf : Nat → Int32} {k : Nat} (h : bst a b c d pf k = v) (e : ¬ (k = 0 ∨ lmv a b c d pf k < v)) : bst a b c d pf (k + 1) = v := by
  show (if k = 0 ∨ lmv a b c d pf k < bst a b c d pf k then _ else _) = _
  rw [h, if_neg e]
set_option maxHeartbeats 4000000 in
set_option maxRecDepth 100000 in
theorem c_M_isFace_y {l : Launch} {s0 : State} {b0 : Addr} {D : va_G} {cI cJ cZ : ClassId} {tC tS : Nat} (E : gE l s0 b0 D cI cJ cZ tC tS) (sz : Nat) (m0 : Nat) (rw : Nat) (ry : Nat) (ti : Nat) (po : Nat) (su : Nat) (sq : Nat) (ch : Nat) (vt : Nat) (sh : Nat) (th : Int32) (zz : Int32) (kn : Int32) (rk : Int32) (sp : Int32) (lg : Int32) (fo : Int32) (pt : Int32) (rn : Nat) (yn : Nat) (tf : Nat → Int32) (sx : Int32) (hr8 : rn ≤ 8) (hyn : yn ≤ 64) (h : isfP tf rn yn sx) : cx_M l s0 D kl y_M_isFace b_M_isFace 4 (some .boolean) ({ frames := 0, cells := 0, slots := 0, locals := 0 } : Room) 0 0 [.ref m0, .int sx] [(m0, .inr (7, [.int th, .int zz, .int (nI rn), .ref rw, .int kn, .int rk, .int (nI yn), .ref ry, .int sp, .int lg, .ref ti, .int fo, .int pt, .ref po, .ref su, .ref sq, .ref ch, .ref vt, .ref sh])), (ti, .inl (cI, 8, .inl tf))] sz (fun o9 _ w9 => o9 = .returned (some (.int (1 : Int32))) ∧ w9 = [(m0, .inr (7, [.int th, .int zz, .int (nI rn), .ref rw, .int kn, .int rk, .int (nI yn), .ref ry, .int sp, .int lg, .ref ti, .int fo, .int pt, .ref po, .ref su, .ref sq, .ref ch, .ref vt, .ref sh])), (ti, .inl (cI, 8, .inl tf))]) := by
  refine tx_ofW (cc := b_M_isFace) (maxL := 4) (ret := (some .boolean)) (by decide) rfl ?_
  intro p e s m args below meth c s₁ B hml hT hv
  obtain ⟨rfl, hsz, hP, hD0, hx0⟩ := hv
  have hx := B.exec
  have hb := B.bytes
  have hr := B.returns
  have G := E.2.1
  have hown : s.vm.findClass cn_M = some m.cls := findClass_of_methodNamed B.named
  have hlocks := B.notSynchronized
  have hK := va_K.moved hx0.1.alike E.2.2.1
  have hf_M : ∀ w99 ∈ u_ws cn_M ft_M 19, w99.before ([.ref m0, .int sx] : List Value).toArray s = true := fun w99 h99 => gw.at G hx0 (fw_M w99 h99) (fo_M w99 h99) _
  subst hsz
  have hA0 := cx_new hD0 hx0.2.1
  have hD := hD0.self (sz := s.heap.size)
  generalize hAe : va_A [(m0, .inr (7, [.int th, .int zz, .int (nI rn), .ref rw, .int kn, .int rk, .int (nI yn), .ref ry, .int sp, .int lg, .ref ti, .int fo, .int pt, .ref po, .ref su, .ref sq, .ref ch, .ref vt, .ref sh])), (ti, .inl (cI, 8, .inl tf))] s.heap.size = A at hD hA0 ⊢
  have hA : ∀ q : Nat, s.heap.size ≤ q → A q := fun q h => by rw [← hAe]; exact Or.inr h
  have hS : va_S A s.heap s.heap [] := va_S.rf
  have hl := lv_entry ([.ref m0, .int sx]) (n := 4) (Nat.le_of_ble_eq_true rfl)
  rw [lg_entry_eq]
  generalize (lg_sl ([.ref m0, .int sx]) ++ List.replicate (4 - (lg_sl ([.ref m0, .int sx])).length) Slot.unset).toArray = ls at hl ⊢
  have hl : lv_has ls 4 [(0, .ref m0), (1, .int sx)] := hl
  have hP : va_P D kl [(m0, .inr (7, [.int th, .int zz, .int (nI rn), .ref rw, .int kn, .int rk, .int (nI yn), .ref ry, .int sp, .int lg, .ref ti, .int fo, .int pt, .ref po, .ref su, .ref sq, .ref ch, .ref vt, .ref sh])), (ti, .inl (cI, 8, .inl tf))] s.heap := hP
  have hml : c.maxLocals = 4 := hml
  generalize hQe : tx_Z below (cx_Q D kl A (fun o9 _ w9 => o9 = .returned (some (.int (1 : Int32))) ∧ w9 = [(m0, .inr (7, [.int th, .int zz, .int (nI rn), .ref rw, .int kn, .int rk, .int (nI yn), .ref ry, .int sp, .int lg, .ref ti, .int fo, .int pt, .ref po, .ref su, .ref sq, .ref ch, .ref vt, .ref sh])), (ti, .inl (cI, 8, .inl tf))])) ([.ref m0, .int sx] : List Value).toArray s 0 0 A = Q
  refine lv_iconst (v := (1 : Int32)) hx hb d_M_isFace_0 (by decide) ?_
  refine lv_aload_n hx hb d_M_isFace_1 rfl (lv_at hl 0 rfl) ?_
  refine va_get (D := D) (ci := 7) (v := .int (nI yn)) (C := cn_M) (T := ft_M) (N := 19) hx hb hf_M (fun _ h => h) hown hK hP 0 rfl rfl 6 (by decide) (gw.at G hx0 mw_719 rfl _) (fun _ h9 => h9) rfl d_M_isFace_2 ?_
  refine lv_ishl hx hb d_M_isFace_5 ?_
  refine lv_iconst (v := (1 : Int32)) hx hb d_M_isFace_6 (by decide) ?_
  refine lv_isub hx hb d_M_isFace_7 ?_
  refine lv_istore_n (lv' := [(2, .int (((1 : Int32) <<< ((nI yn) &&& 31)) - (1 : Int32))), (0, .ref m0), (1, .int sx)]) hx hb d_M_isFace_8 rfl hl (by decide) rfl (fun ls hl => ?_)
  refine lv_iconst (v := (0 : Int32)) hx hb d_M_isFace_9 (by decide) ?_
  refine lv_istore_n (lv' := [(3, .int (0 : Int32)), (2, .int (((1 : Int32) <<< ((nI yn) &&& 31)) - (1 : Int32))), (0, .ref m0), (1, .int sx)]) hx hb d_M_isFace_10 rfl hl (by decide) rfl (fun ls hl => ?_)
  have lp_11 : ∀ (n9 : Nat) (r : Nat) (a : Int32) (ls : Array Slot) (H : Heap) (locs : List Loc), rn - r = n9 → (ism tf sx (allx yn) r = a) → (r ≤ rn) → lv_has ls 4 [(3, .int (nI r)), (2, .int a), (0, .ref m0), (1, .int sx)] → va_P D kl [(m0, .inr (7, [.int th, .int zz, .int (nI rn), .ref rw, .int kn, .int rk, .int (nI yn), .ref ry, .int sp, .int lg, .ref ti, .int fo, .int pt, .ref po, .ref su, .ref sq, .ref ch, .ref vt, .ref sh])), (ti, .inl (cI, 8, .inl tf))] H → va_D A [(m0, .inr (7, [.int th, .int zz, .int (nI rn), .ref rw, .int kn, .int rk, .int (nI yn), .ref ry, .int sp, .int lg, .ref ti, .int fo, .int pt, .ref po, .ref su, .ref sq, .ref ch, .ref vt, .ref sh])), (ti, .inl (cI, 8, .inl tf))] → va_S A s.heap H locs → W p l e ({ frames := 0, cells := 0, slots := 0, locals := 0 } : Room) s m ([.ref m0, .int sx] : List Value).toArray below meth c H locs 0 0 Q (F0 m 11 ls []) := by
    intro n9
    induction n9 using Nat.strongRecOn with
    | ind n9 ih_11 =>
      intro r a ls H locs hm_11 him hr9 hl hP hD hS
      refine lv_iload_n hx hb d_M_isFace_11 rfl (lv_at hl 0 rfl) ?_
      refine lv_aload_n hx hb d_M_isFace_12 rfl (lv_at hl 2 rfl) ?_
      refine va_get (D := D) (ci := 7) (v := .int (nI rn)) (C := cn_M) (T := ft_M) (N := 19) hx hb hf_M (fun _ h => h) hown hK hP 0 rfl rfl 2 (by decide) (gw.at G hx0 mw_715 rfl _) (fun _ h9 => h9) rfl d_M_isFace_13 ?_
      refine lv_icmp_ge (tgt := 51) hx hb d_M_isFace_16 (by decide) (fun h_1 => ?_) (fun h_1 => ?_)
      · have h_1 : rn ≤ r := (nI_leI (a := rn) (b := r) (by omega) (by omega)).mp h_1
        have hrr : r = rn := by omega
        rw [hrr] at him
        refine lv_iload_n hx hb d_M_isFace_51 rfl (lv_at hl 1 rfl) ?_
        refine lv_iload_n hx hb d_M_isFace_52 rfl (lv_at hl 3 rfl) ?_
        refine lv_icmp_ne (tgt := 60) hx hb d_M_isFace_53 (by decide) (fun h99 => absurd h99 (not_not_intro (by rw [← him]; exact h))) (fun _ => ?_)
        refine lv_iconst (v := (1 : Int32)) hx hb d_M_isFace_56 (by decide) ?_
        refine lv_goto (tgt := 61) hx hb d_M_isFace_57 (by decide) ?_
        rw [← hQe]
        exact tx_mono (fun _ h => tx_Z.of h) (W.zret (v := (1 : Int32)) hx hb hr (by decide) (fun t ht hW => ⟨⟨[(m0, .inr (7, [.int th, .int zz, .int (nI rn), .ref rw, .int kn, .int rk, .int (nI yn), .ref ry, .int sp, .int lg, .ref ti, .int fo, .int pt, .ref po, .ref su, .ref sq, .ref ch, .ref vt, .ref sh])), (ti, .inl (cI, 8, .inl tf))], ⟨rfl, rfl⟩, by rw [ht]; exact hP.sub [0, 1] rfl, hD.sub [0, 1] (by decide) rfl⟩, hS.F ht⟩) hS.2.2 d_M_isFace_61)
      · have h_1 : ¬ (rn ≤ r) := fun z99 => h_1 ((nI_leI (a := rn) (b := r) (by omega) (by omega)).mpr z99)
        refine lv_iload_n hx hb d_M_isFace_19 rfl (lv_at hl 3 rfl) ?_
        refine lv_aload_n hx hb d_M_isFace_20 rfl (lv_at hl 2 rfl) ?_
        refine va_get (D := D) (ci := 7) (v := .ref ti) (C := cn_M) (T := ft_M) (N := 19) hx hb hf_M (fun _ h => h) hown hK hP 0 rfl rfl 10 (by decide) (gw.at G hx0 mw_723 rfl _) (fun _ h9 => h9) rfl d_M_isFace_21 ?_
        refine lv_iload_n hx hb d_M_isFace_24 rfl (lv_at hl 0 rfl) ?_
        refine va_iald hx hb hK hP 1 0 rfl rfl (vp_in_nI (n := r) (by omega) (by omega)) d_M_isFace_25 ?_
        refine tp_i (y := tf r) (congrArg tf (nI_clamp (n := r) (by omega))) ?_
        refine lv_iconst (v := (-1 : Int32)) hx hb d_M_isFace_26 (by decide) ?_
        refine lv_ixor hx hb d_M_isFace_27 ?_
        refine lv_iand hx hb d_M_isFace_28 ?_
        refine lv_if_ne (tgt := 43) hx hb d_M_isFace_29 (by decide) (fun h_2 => ?_) (fun h_2 => ?_)
        · refine lv_iload_n hx hb d_M_isFace_43 rfl (lv_at hl 1 rfl) ?_
          refine lv_istore_n (lv' := [(2, .int a), (3, .int (nI r)), (0, .ref m0), (1, .int sx)]) hx hb d_M_isFace_44 rfl hl (by decide) rfl (fun ls hl => ?_)
          refine lv_iinc (lv' := [(3, .int (nI (r + 1))), (2, .int a), (0, .ref m0), (1, .int sx)]) (k := 1) (v := nI (r + 1)) hx hb d_M_isFace_45 hl rfl (nI_add r 1) (by decide) rfl (fun ls hl => ?_)
          refine lv_goto (tgt := 11) hx hb d_M_isFace_48 (by decide) ?_
          exact ih_11 _ (by omega) (r + 1) a ls H locs rfl (ism_n him h_2) (by omega) (lv_sub hl [0, 1, 2, 3] rfl) (hP.sub [0, 1] rfl) (hD.sub [0, 1] (by decide) rfl) hS
        · refine lv_iload_n hx hb d_M_isFace_32 rfl (lv_at hl 1 rfl) ?_
          refine lv_aload_n hx hb d_M_isFace_33 rfl (lv_at hl 2 rfl) ?_
          refine va_get (D := D) (ci := 7) (v := .ref ti) (C := cn_M) (T := ft_M) (N := 19) hx hb hf_M (fun _ h => h) hown hK hP 0 rfl rfl 10 (by decide) (gw.at G hx0 mw_723 rfl _) (fun _ h9 => h9) rfl d_M_isFace_34 ?_
          refine lv_iload_n hx hb d_M_isFace_37 rfl (lv_at hl 0 rfl) ?_
          refine va_iald hx hb hK hP 1 0 rfl rfl (vp_in_nI (n := r) (by omega) (by omega)) d_M_isFace_38 ?_
          refine tp_i (y := tf r) (congrArg tf (nI_clamp (n := r) (by omega))) ?_
          refine lv_iand hx hb d_M_isFace_39 ?_
          refine lv_goto (tgt := 44) hx hb d_M_isFace_40 (by decide) ?_
          refine lv_istore_n (lv' := [(2, .int (a &&& (tf r))), (3, .int (nI r)), (0, .ref m0), (1, .int sx)]) hx hb d_M_isFace_44 rfl hl (by decide) rfl (fun ls hl => ?_)
          refine lv_iinc (lv' := [(3, .int (nI (r + 1))), (2, .int (a &&& (tf r))), (0, .ref m0), (1, .int sx)]) (k := 1) (v := nI (r + 1)) hx hb d_M_isFace_45 hl rfl (nI_add r 1) (by decide) rfl (fun ls hl => ?_)
          refine lv_goto (tgt := 11) hx hb d_M_isFace_48 (by decide) ?_
          exact ih_11 _ (by omega) (r + 1) (a &&& (tf r)) ls H locs rfl (ism_y him h_2) (by omega) (lv_sub hl [0, 1, 2, 3] rfl) (hP.sub [0, 1] rfl) (hD.sub [0, 1] (by decide) rfl) hS
  exact lp_11 _ 0 (allx yn) ls s.heap [] rfl rfl (Nat.zero_le _) (lv_sub hl [0, 1, 2, 3] rfl) (hP.sub [0, 1] rfl) (hD.sub [0, 1] (by decide) rfl) hS

set_option maxHeartbeats 4000000 in
set_option maxRecDepth 100000 in
theorem c_M_isFace_n {l : Launch} {s0 : State} {b0 : Addr} {D : va_G} {cI cJ cZ : ClassId} {tC tS : Nat} (E : gE l s0 b0 D cI cJ cZ tC tS) (sz : Nat) (m0 : Nat) (rw : Nat) (ry : Nat) (ti : Nat) (po : Nat) (su : Nat) (sq : Nat) (ch : Nat) (vt : Nat) (sh : Nat) (th : Int32) (zz : Int32) (kn : Int32) (rk : Int32) (sp : Int32) (lg : Int32) (fo : Int32) (pt : Int32) (rn : Nat) (yn : Nat) (tf : Nat → Int32) (sx : Int32) (hr8 : rn ≤ 8) (hyn : yn ≤ 64) (h : ¬ isfP tf rn yn sx) : cx_M l s0 D kl y_M_isFace b_M_isFace 4 (some .boolean) ({ frames := 0, cells := 0, slots := 0, locals := 0 } : Room) 0 0 [.ref m0, .int sx] [(m0, .inr (7, [.int th, .int zz, .int (nI rn), .ref rw, .int kn, .int rk, .int (nI yn), .ref ry, .int sp, .int lg, .ref ti, .int fo, .int pt, .ref po, .ref su, .ref sq, .ref ch, .ref vt, .ref sh])), (ti, .inl (cI, 8, .inl tf))] sz (fun o9 _ w9 => o9 = .returned (some (.int (0 : Int32))) ∧ w9 = [(m0, .inr (7, [.int th, .int zz, .int (nI rn), .ref rw, .int kn, .int rk, .int (nI yn), .ref ry, .int sp, .int lg, .ref ti, .int fo, .int pt, .ref po, .ref su, .ref sq, .ref ch, .ref vt, .ref sh])), (ti, .inl (cI, 8, .inl tf))]) := by
  refine tx_ofW (cc := b_M_isFace) (maxL := 4) (ret := (some .boolean)) (by decide) rfl ?_
  intro p e s m args below meth c s₁ B hml hT hv
  obtain ⟨rfl, hsz, hP, hD0, hx0⟩ := hv
  have hx := B.exec
  have hb := B.bytes
  have hr := B.returns
  have G := E.2.1
  have hown : s.vm.findClass cn_M = some m.cls := findClass_of_methodNamed B.named
  have hlocks := B.notSynchronized
  have hK := va_K.moved hx0.1.alike E.2.2.1
  have hf_M : ∀ w99 ∈ u_ws cn_M ft_M 19, w99.before ([.ref m0, .int sx] : List Value).toArray s = true := fun w99 h99 => gw.at G hx0 (fw_M w99 h99) (fo_M w99 h99) _
  subst hsz
  have hA0 := cx_new hD0 hx0.2.1
  have hD := hD0.self (sz := s.heap.size)
  generalize hAe : va_A [(m0, .inr (7, [.int th, .int zz, .int (nI rn), .ref rw, .int kn, .int rk, .int (nI yn), .ref ry, .int sp, .int lg, .ref ti, .int fo, .int pt, .ref po, .ref su, .ref sq, .ref ch, .ref vt, .ref sh])), (ti, .inl (cI, 8, .inl tf))] s.heap.size = A at hD hA0 ⊢
  have hA : ∀ q : Nat, s.heap.size ≤ q → A q := fun q h => by rw [← hAe]; exact Or.inr h
  have hS : va_S A s.heap s.heap [] := va_S.rf
  have hl := lv_entry ([.ref m0, .int sx]) (n := 4) (Nat.le_of_ble_eq_true rfl)
  rw [lg_entry_eq]
  generalize (lg_sl ([.ref m0, .int sx]) ++ List.replicate (4 - (lg_sl ([.ref m0, .int sx])).length) Slot.unset).toArray = ls at hl ⊢
  have hl : lv_has ls 4 [(0, .ref m0), (1, .int sx)] := hl
  have hP : va_P D kl [(m0, .inr (7, [.int th, .int zz, .int (nI rn), .ref rw, .int kn, .int rk, .int (nI yn), .ref ry, .int sp, .int lg, .ref ti, .int fo, .int pt, .ref po, .ref su, .ref sq, .ref ch, .ref vt, .ref sh])), (ti, .inl (cI, 8, .inl tf))] s.heap := hP
  have hml : c.maxLocals = 4 := hml
  generalize hQe : tx_Z below (cx_Q D kl A (fun o9 _ w9 => o9 = .returned (some (.int (0 : Int32))) ∧ w9 = [(m0, .inr (7, [.int th, .int zz, .int (nI rn), .ref rw, .int kn, .int rk, .int (nI yn), .ref ry, .int sp, .int lg, .ref ti, .int fo, .int pt, .ref po, .ref su, .ref sq, .ref ch, .ref vt, .ref sh])), (ti, .inl (cI, 8, .inl tf))])) ([.ref m0, .int sx] : List Value).toArray s 0 0 A = Q
  refine lv_iconst (v := (1 : Int32)) hx hb d_M_isFace_0 (by decide) ?_
  refine lv_aload_n hx hb d_M_isFace_1 rfl (lv_at hl 0 rfl) ?_
  refine va_get (D := D) (ci := 7) (v := .int (nI yn)) (C := cn_M) (T := ft_M) (N := 19) hx hb hf_M (fun _ h => h) hown hK hP 0 rfl rfl 6 (by decide) (gw.at G hx0 mw_719 rfl _) (fun _ h9 => h9) rfl d_M_isFace_2 ?_
  refine lv_ishl hx hb d_M_isFace_5 ?_
  refine lv_iconst (v := (1 : Int32)) hx hb d_M_isFace_6 (by decide) ?_
  refine lv_isub hx hb d_M_isFace_7 ?_
  refine lv_istore_n (lv' := [(2, .int (((1 : Int32) <<< ((nI yn) &&& 31)) - (1 : Int32))), (0, .ref m0), (1, .int sx)]) hx hb d_M_isFace_8 rfl hl (by decide) rfl (fun ls hl => ?_)
  refine lv_iconst (v := (0 : Int32)) hx hb d_M_isFace_9 (by decide) ?_
  refine lv_istore_n (lv' := [(3, .int (0 : Int32)), (2, .int (((1 : Int32) <<< ((nI yn) &&& 31)) - (1 : Int32))), (0, .ref m0), (1, .int sx)]) hx hb d_M_isFace_10 rfl hl (by decide) rfl (fun ls hl => ?_)
  have lp_11 : ∀ (n9 : Nat) (r : Nat) (a : Int32) (ls : Array Slot) (H : Heap) (locs : List Loc), rn - r = n9 → (ism tf sx (allx yn) r = a) → (r ≤ rn) → lv_has ls 4 [(3, .int (nI r)), (2, .int a), (0, .ref m0), (1, .int sx)] → va_P D kl [(m0, .inr (7, [.int th, .int zz, .int (nI rn), .ref rw, .int kn, .int rk, .int (nI yn), .ref ry, .int sp, .int lg, .ref ti, .int fo, .int pt, .ref po, .ref su, .ref sq, .ref ch, .ref vt, .ref sh])), (ti, .inl (cI, 8, .inl tf))] H → va_D A [(m0, .inr (7, [.int th, .int zz, .int (nI rn), .ref rw, .int kn, .int rk, .int (nI yn), .ref ry, .int sp, .int lg, .ref ti, .int fo, .int pt, .ref po, .ref su, .ref sq, .ref ch, .ref vt, .ref sh])), (ti, .inl (cI, 8, .inl tf))] → va_S A s.heap H locs → W p l e ({ frames := 0, cells := 0, slots := 0, locals := 0 } : Room) s m ([.ref m0, .int sx] : List Value).toArray below meth c H locs 0 0 Q (F0 m 11 ls []) := by
    intro n9
    induction n9 using Nat.strongRecOn with
    | ind n9 ih_11 =>
      intro r a ls H locs hm_11 him hr9 hl hP hD hS
      refine lv_iload_n hx hb d_M_isFace_11 rfl (lv_at hl 0 rfl) ?_
      refine lv_aload_n hx hb d_M_isFace_12 rfl (lv_at hl 2 rfl) ?_
      refine va_get (D := D) (ci := 7) (v := .int (nI rn)) (C := cn_M) (T := ft_M) (N := 19) hx hb hf_M (fun _ h => h) hown hK hP 0 rfl rfl 2 (by decide) (gw.at G hx0 mw_715 rfl _) (fun _ h9 => h9) rfl d_M_isFace_13 ?_
      refine lv_icmp_ge (tgt := 51) hx hb d_M_isFace_16 (by decide) (fun h_1 => ?_) (fun h_1 => ?_)
      · have h_1 : rn ≤ r := (nI_leI (a := rn) (b := r) (by omega) (by omega)).mp h_1
        have hrr : r = rn := by omega
        rw [hrr] at him
        refine lv_iload_n hx hb d_M_isFace_51 rfl (lv_at hl 1 rfl) ?_
        refine lv_iload_n hx hb d_M_isFace_52 rfl (lv_at hl 3 rfl) ?_
        refine lv_icmp_ne (tgt := 60) hx hb d_M_isFace_53 (by decide) (fun _ => ?_) (fun h99 => absurd h99 (fun z9 => h (by unfold isfP; rw [him]; exact z9)))
        refine lv_iconst (v := (0 : Int32)) hx hb d_M_isFace_60 (by decide) ?_
        rw [← hQe]
        exact tx_mono (fun _ h => tx_Z.of h) (W.zret (v := (0 : Int32)) hx hb hr (by decide) (fun t ht hW => ⟨⟨[(m0, .inr (7, [.int th, .int zz, .int (nI rn), .ref rw, .int kn, .int rk, .int (nI yn), .ref ry, .int sp, .int lg, .ref ti, .int fo, .int pt, .ref po, .ref su, .ref sq, .ref ch, .ref vt, .ref sh])), (ti, .inl (cI, 8, .inl tf))], ⟨rfl, rfl⟩, by rw [ht]; exact hP.sub [0, 1] rfl, hD.sub [0, 1] (by decide) rfl⟩, hS.F ht⟩) hS.2.2 d_M_isFace_61)
      · have h_1 : ¬ (rn ≤ r) := fun z99 => h_1 ((nI_leI (a := rn) (b := r) (by omega) (by omega)).mpr z99)
        refine lv_iload_n hx hb d_M_isFace_19 rfl (lv_at hl 3 rfl) ?_
        refine lv_aload_n hx hb d_M_isFace_20 rfl (lv_at hl 2 rfl) ?_
        refine va_get (D := D) (ci := 7) (v := .ref ti) (C := cn_M) (T := ft_M) (N := 19) hx hb hf_M (fun _ h => h) hown hK hP 0 rfl rfl 10 (by decide) (gw.at G hx0 mw_723 rfl _) (fun _ h9 => h9) rfl d_M_isFace_21 ?_
        refine lv_iload_n hx hb d_M_isFace_24 rfl (lv_at hl 0 rfl) ?_
        refine va_iald hx hb hK hP 1 0 rfl rfl (vp_in_nI (n := r) (by omega) (by omega)) d_M_isFace_25 ?_
        refine tp_i (y := tf r) (congrArg tf (nI_clamp (n := r) (by omega))) ?_
        refine lv_iconst (v := (-1 : Int32)) hx hb d_M_isFace_26 (by decide) ?_
        refine lv_ixor hx hb d_M_isFace_27 ?_
        refine lv_iand hx hb d_M_isFace_28 ?_
        refine lv_if_ne (tgt := 43) hx hb d_M_isFace_29 (by decide) (fun h_2 => ?_) (fun h_2 => ?_)
        · refine lv_iload_n hx hb d_M_isFace_43 rfl (lv_at hl 1 rfl) ?_
          refine lv_istore_n (lv' := [(2, .int a), (3, .int (nI r)), (0, .ref m0), (1, .int sx)]) hx hb d_M_isFace_44 rfl hl (by decide) rfl (fun ls hl => ?_)
          refine lv_iinc (lv' := [(3, .int (nI (r + 1))), (2, .int a), (0, .ref m0), (1, .int sx)]) (k := 1) (v := nI (r + 1)) hx hb d_M_isFace_45 hl rfl (nI_add r 1) (by decide) rfl (fun ls hl => ?_)
          refine lv_goto (tgt := 11) hx hb d_M_isFace_48 (by decide) ?_
          exact ih_11 _ (by omega) (r + 1) a ls H locs rfl (ism_n him h_2) (by omega) (lv_sub hl [0, 1, 2, 3] rfl) (hP.sub [0, 1] rfl) (hD.sub [0, 1] (by decide) rfl) hS
        · refine lv_iload_n hx hb d_M_isFace_32 rfl (lv_at hl 1 rfl) ?_
          refine lv_aload_n hx hb d_M_isFace_33 rfl (lv_at hl 2 rfl) ?_
          refine va_get (D := D) (ci := 7) (v := .ref ti) (C := cn_M) (T := ft_M) (N := 19) hx hb hf_M (fun _ h => h) hown hK hP 0 rfl rfl 10 (by decide) (gw.at G hx0 mw_723 rfl _) (fun _ h9 => h9) rfl d_M_isFace_34 ?_
          refine lv_iload_n hx hb d_M_isFace_37 rfl (lv_at hl 0 rfl) ?_
          refine va_iald hx hb hK hP 1 0 rfl rfl (vp_in_nI (n := r) (by omega) (by omega)) d_M_isFace_38 ?_
          refine tp_i (y := tf r) (congrArg tf (nI_clamp (n := r) (by omega))) ?_
          refine lv_iand hx hb d_M_isFace_39 ?_
          refine lv_goto (tgt := 44) hx hb d_M_isFace_40 (by decide) ?_
          refine lv_istore_n (lv' := [(2, .int (a &&& (tf r))), (3, .int (nI r)), (0, .ref m0), (1, .int sx)]) hx hb d_M_isFace_44 rfl hl (by decide) rfl (fun ls hl => ?_)
          refine lv_iinc (lv' := [(3, .int (nI (r + 1))), (2, .int (a &&& (tf r))), (0, .ref m0), (1, .int sx)]) (k := 1) (v := nI (r + 1)) hx hb d_M_isFace_45 hl rfl (nI_add r 1) (by decide) rfl (fun ls hl => ?_)
          refine lv_goto (tgt := 11) hx hb d_M_isFace_48 (by decide) ?_
          exact ih_11 _ (by omega) (r + 1) (a &&& (tf r)) ls H locs rfl (ism_y him h_2) (by omega) (lv_sub hl [0, 1, 2, 3] rfl) (hP.sub [0, 1] rfl) (hD.sub [0, 1] (by decide) rfl) hS
  exact lp_11 _ 0 (allx yn) ls s.heap [] rfl rfl (Nat.zero_le _) (lv_sub hl [0, 1, 2, 3] rfl) (hP.sub [0, 1] rfl) (hD.sub [0, 1] (by decide) rfl) hS

set_option maxHeartbeats 4000000 in
set_option maxRecDepth 100000 in
theorem c_M_faces {l : Launch} {s0 : State} {b0 : Addr} {D : va_G} {cI cJ cZ : ClassId} {tC tS : Nat} (E : gE l s0 b0 D cI cJ cZ tC tS) (sz : Nat) (am : MA) (cm : MC) (w : Int32) (hT9 : MTH) (hJ : MJ cm) : cx_M l s0 D kl y_M_faces b_M_faces 4 (some .int) ({ frames := 6, cells := 0, slots := 0, locals := 153 } : Room) 0 0 [.ref am.m0, .int w] [(am.m0, .inr (7, [.int cm.th, .int (nI cm.zs), .int (nI cm.rn), .ref am.rw, .int (nI cm.kn), .int (nI cm.rk), .int (nI cm.yn), .ref am.ry, .int (nI cm.sp), .int (nI cm.lg), .ref am.ti, .int (nI cm.fo), .int (nI cm.pt), .ref am.po, .ref am.su, .ref am.sq, .ref am.ch, .ref am.vt, .ref am.sh])), (am.rw, .inl (cI, 32, .inl cm.wf)), (am.ry, .inl (cI, 256, .inl cm.yf)), (am.ti, .inl (cI, 8, .inl cm.tf)), (am.po, .inl (cI, 4000, .inl cm.pf)), (am.su, .inl (cZ, 1000, .inl cm.sf)), (am.sq, .inl (cJ, 256, .inr (.inl cm.qf))), (am.ch, .inl (cI, 8, .inl (nf cm.ck))), (am.vt, .inl (cI, 4, .inl cm.vf)), (am.sh, .inl (cI, 4, .inl (nf cm.sk)))] sz (fun o9 t9 w9 => (∃ (c9 : MC), o9 = .returned (some (.int (0 : Int32))) ∧ MJ c9 ∧ MS cm c9 ∧ c9.kn = 1 ∧ c9.rk < c9.zs ∧ c9.th = 1 ∧ w9 = [(am.m0, .inr (7, [.int c9.th, .int (nI c9.zs), .int (nI c9.rn), .ref am.rw, .int (nI c9.kn), .int (nI c9.rk), .int (nI c9.yn), .ref am.ry, .int (nI c9.sp), .int (nI c9.lg), .ref am.ti, .int (nI c9.fo), .int (nI c9.pt), .ref am.po, .ref am.su, .ref am.sq, .ref am.ch, .ref am.vt, .ref am.sh])), (am.rw, .inl (cI, 32, .inl c9.wf)), (am.ry, .inl (cI, 256, .inl c9.yf)), (am.ti, .inl (cI, 8, .inl c9.tf)), (am.po, .inl (cI, 4000, .inl c9.pf)), (am.su, .inl (cZ, 1000, .inl c9.sf)), (am.sq, .inl (cJ, 256, .inr (.inl c9.qf))), (am.ch, .inl (cI, 8, .inl (nf c9.ck))), (am.vt, .inl (cI, 4, .inl c9.vf)), (am.sh, .inl (cI, 4, .inl (nf c9.sk)))]) ∨ (∃ (c9 : MC) (v : Nat) (q0 : Nat → Int64), o9 = .returned (some (.int (nI v))) ∧ MJ c9 ∧ MS cm c9 ∧ c9.kn = 1 ∧ c9.zs ≤ c9.rk ∧ c9.th = 0 ∧ fcs c9.yf c9.tf c9.rn c9.yn w ((1 : Int32) <<< (nI c9.yn &&& 31)).toNatClampNeg (0, q0) = (v, c9.qf) ∧ w9 = [(am.m0, .inr (7, [.int c9.th, .int (nI c9.zs), .int (nI c9.rn), .ref am.rw, .int (nI c9.kn), .int (nI c9.rk), .int (nI c9.yn), .ref am.ry, .int (nI c9.sp), .int (nI c9.lg), .ref am.ti, .int (nI c9.fo), .int (nI c9.pt), .ref am.po, .ref am.su, .ref am.sq, .ref am.ch, .ref am.vt, .ref am.sh])), (am.rw, .inl (cI, 32, .inl c9.wf)), (am.ry, .inl (cI, 256, .inl c9.yf)), (am.ti, .inl (cI, 8, .inl c9.tf)), (am.po, .inl (cI, 4000, .inl c9.pf)), (am.su, .inl (cZ, 1000, .inl c9.sf)), (am.sq, .inl (cJ, 256, .inr (.inl c9.qf))), (am.ch, .inl (cI, 8, .inl (nf c9.ck))), (am.vt, .inl (cI, 4, .inl c9.vf)), (am.sh, .inl (cI, 4, .inl (nf c9.sk)))])) := by
  refine tx_ofW (cc := b_M_faces) (maxL := 4) (ret := (some .int)) (by decide) rfl ?_
  intro p e s m args below meth c s₁ B hml hT hv
  obtain ⟨rfl, hsz, hP, hD0, hx0⟩ := hv
  have hx := B.exec
  have hb := B.bytes
  have hr := B.returns
  have G := E.2.1
  have hown : s.vm.findClass cn_M = some m.cls := findClass_of_methodNamed B.named
  have hlocks := B.notSynchronized
  have hK := va_K.moved hx0.1.alike E.2.2.1
  have hf_M : ∀ w99 ∈ u_ws cn_M ft_M 19, w99.before ([.ref am.m0, .int w] : List Value).toArray s = true := fun w99 h99 => gw.at G hx0 (fw_M w99 h99) (fo_M w99 h99) _
  subst hsz
  have hA0 := cx_new hD0 hx0.2.1
  have hD := hD0.self (sz := s.heap.size)
  generalize hAe : va_A [(am.m0, .inr (7, [.int cm.th, .int (nI cm.zs), .int (nI cm.rn), .ref am.rw, .int (nI cm.kn), .int (nI cm.rk), .int (nI cm.yn), .ref am.ry, .int (nI cm.sp), .int (nI cm.lg), .ref am.ti, .int (nI cm.fo), .int (nI cm.pt), .ref am.po, .ref am.su, .ref am.sq, .ref am.ch, .ref am.vt, .ref am.sh])), (am.rw, .inl (cI, 32, .inl cm.wf)), (am.ry, .inl (cI, 256, .inl cm.yf)), (am.ti, .inl (cI, 8, .inl cm.tf)), (am.po, .inl (cI, 4000, .inl cm.pf)), (am.su, .inl (cZ, 1000, .inl cm.sf)), (am.sq, .inl (cJ, 256, .inr (.inl cm.qf))), (am.ch, .inl (cI, 8, .inl (nf cm.ck))), (am.vt, .inl (cI, 4, .inl cm.vf)), (am.sh, .inl (cI, 4, .inl (nf cm.sk)))] s.heap.size = A at hD hA0 ⊢
  have hA : ∀ q : Nat, s.heap.size ≤ q → A q := fun q h => by rw [← hAe]; exact Or.inr h
  have hS : va_S A s.heap s.heap [] := va_S.rf
  have hl := lv_entry ([.ref am.m0, .int w]) (n := 4) (Nat.le_of_ble_eq_true rfl)
  rw [lg_entry_eq]
  generalize (lg_sl ([.ref am.m0, .int w]) ++ List.replicate (4 - (lg_sl ([.ref am.m0, .int w])).length) Slot.unset).toArray = ls at hl ⊢
  have hl : lv_has ls 4 [(0, .ref am.m0), (1, .int w)] := hl
  have hP : va_P D kl [(am.m0, .inr (7, [.int cm.th, .int (nI cm.zs), .int (nI cm.rn), .ref am.rw, .int (nI cm.kn), .int (nI cm.rk), .int (nI cm.yn), .ref am.ry, .int (nI cm.sp), .int (nI cm.lg), .ref am.ti, .int (nI cm.fo), .int (nI cm.pt), .ref am.po, .ref am.su, .ref am.sq, .ref am.ch, .ref am.vt, .ref am.sh])), (am.rw, .inl (cI, 32, .inl cm.wf)), (am.ry, .inl (cI, 256, .inl cm.yf)), (am.ti, .inl (cI, 8, .inl cm.tf)), (am.po, .inl (cI, 4000, .inl cm.pf)), (am.su, .inl (cZ, 1000, .inl cm.sf)), (am.sq, .inl (cJ, 256, .inr (.inl cm.qf))), (am.ch, .inl (cI, 8, .inl (nf cm.ck))), (am.vt, .inl (cI, 4, .inl cm.vf)), (am.sh, .inl (cI, 4, .inl (nf cm.sk)))] s.heap := hP
  have hml : c.maxLocals = 4 := hml
  have hz2 := hJ.z2
  have hz4 := hJ.z4
  have hr8 := hJ.r8
  have hkn := hJ.kn
  have hrk := hJ.rk
  have hyn := hJ.yn
  have hsp := hJ.sp
  have hlg := hJ.lg
  have hfo := hJ.fo
  have hpt := hJ.pt
  have hck := hJ.ck
  have hsk := hJ.sk
  have hro := hJ.ro
  generalize hQe : tx_Z below (cx_Q D kl A (fun o9 t9 w9 => (∃ (c9 : MC), o9 = .returned (some (.int (0 : Int32))) ∧ MJ c9 ∧ MS cm c9 ∧ c9.kn = 1 ∧ c9.rk < c9.zs ∧ c9.th = 1 ∧ w9 = [(am.m0, .inr (7, [.int c9.th, .int (nI c9.zs), .int (nI c9.rn), .ref am.rw, .int (nI c9.kn), .int (nI c9.rk), .int (nI c9.yn), .ref am.ry, .int (nI c9.sp), .int (nI c9.lg), .ref am.ti, .int (nI c9.fo), .int (nI c9.pt), .ref am.po, .ref am.su, .ref am.sq, .ref am.ch, .ref am.vt, .ref am.sh])), (am.rw, .inl (cI, 32, .inl c9.wf)), (am.ry, .inl (cI, 256, .inl c9.yf)), (am.ti, .inl (cI, 8, .inl c9.tf)), (am.po, .inl (cI, 4000, .inl c9.pf)), (am.su, .inl (cZ, 1000, .inl c9.sf)), (am.sq, .inl (cJ, 256, .inr (.inl c9.qf))), (am.ch, .inl (cI, 8, .inl (nf c9.ck))), (am.vt, .inl (cI, 4, .inl c9.vf)), (am.sh, .inl (cI, 4, .inl (nf c9.sk)))]) ∨ (∃ (c9 : MC) (v : Nat) (q0 : Nat → Int64), o9 = .returned (some (.int (nI v))) ∧ MJ c9 ∧ MS cm c9 ∧ c9.kn = 1 ∧ c9.zs ≤ c9.rk ∧ c9.th = 0 ∧ fcs c9.yf c9.tf c9.rn c9.yn w ((1 : Int32) <<< (nI c9.yn &&& 31)).toNatClampNeg (0, q0) = (v, c9.qf) ∧ w9 = [(am.m0, .inr (7, [.int c9.th, .int (nI c9.zs), .int (nI c9.rn), .ref am.rw, .int (nI c9.kn), .int (nI c9.rk), .int (nI c9.yn), .ref am.ry, .int (nI c9.sp), .int (nI c9.lg), .ref am.ti, .int (nI c9.fo), .int (nI c9.pt), .ref am.po, .ref am.su, .ref am.sq, .ref am.ch, .ref am.vt, .ref am.sh])), (am.rw, .inl (cI, 32, .inl c9.wf)), (am.ry, .inl (cI, 256, .inl c9.yf)), (am.ti, .inl (cI, 8, .inl c9.tf)), (am.po, .inl (cI, 4000, .inl c9.pf)), (am.su, .inl (cZ, 1000, .inl c9.sf)), (am.sq, .inl (cJ, 256, .inr (.inl c9.qf))), (am.ch, .inl (cI, 8, .inl (nf c9.ck))), (am.vt, .inl (cI, 4, .inl c9.vf)), (am.sh, .inl (cI, 4, .inl (nf c9.sk)))]))) ([.ref am.m0, .int w] : List Value).toArray s 0 0 A = Q
  refine lv_aload_n hx hb d_M_faces_0 rfl (lv_at hl 0 rfl) ?_
  refine lv_iconst (v := (1 : Int32)) hx hb d_M_faces_1 (by decide) ?_
  refine cx_call (D := D) (cl := kl) (ws := _) (wc := [(am.m0, .inr (7, [.int cm.th, .int (nI cm.zs), .int (nI cm.rn), .ref am.rw, .int (nI cm.kn), .int (nI cm.rk), .int (nI cm.yn), .ref am.ry, .int (nI cm.sp), .int (nI cm.lg), .ref am.ti, .int (nI cm.fo), .int (nI cm.pt), .ref am.po, .ref am.su, .ref am.sq, .ref am.ch, .ref am.vt, .ref am.sh])), (am.rw, .inl (cI, 32, .inl cm.wf)), (am.ry, .inl (cI, 256, .inl cm.yf)), (am.ti, .inl (cI, 8, .inl cm.tf)), (am.po, .inl (cI, 4000, .inl cm.pf)), (am.su, .inl (cZ, 1000, .inl cm.sf)), (am.sq, .inl (cJ, 256, .inr (.inl cm.qf))), (am.ch, .inl (cI, 8, .inl (nf cm.ck))), (am.vt, .inl (cI, 4, .inl cm.vf)), (am.sh, .inl (cI, 4, .inl (nf cm.sk)))]) (wr := []) (tx_runV (C := cn_M) (b := am.m0) (As := [.int (1 : Int32)]) (rest := []) hx hb hml hown (c_M_pointed1 E s.heap.size am cm hT9 hJ) (cx_C (b0 := b0) G hx0 mw_881 mw_9 ny_M_pointed (by decide)) (gw.at G hx0 mw_878 rfl _) (gw.at G hx0 mw_880 rfl _) (gw.at G hx0 ms_M_pointed rfl _) ⟨cx_blind, va_recv hK hP (q0 := 0) (ci := 7) (q := (cn_M, ft_M, 19)) rfl rfl, (cx_pre (s := s) hx0 hP hD hS hA0 [0, 1, 2, 3, 4, 5, 6, 7, 8, 9] rfl rfl (by decide))⟩ rfl rfl hl.1 rfl (lv_room (Nat.le_of_ble_eq_true rfl)) d_M_faces_2 ⟨by decide, by decide⟩) hP hD hS hA [0, 1, 2, 3, 4, 5, 6, 7, 8, 9] [] rfl rfl (by decide) (by decide) (fun v t w1 H locs ht hW9 hp hP hD hS => ?_) (fun x t w1 H locs ht hW9 hp hP hD hS => ?_)
  · rcases hp with hp | hp
    · obtain ⟨c9_1, h9, f_2, f_3, f_4, f_5, f_6, rfl⟩ := hp
      cases h9
      refine W.eq (g2 := F0 m 5 ls [.int (1 : Int32)]) rfl ?_
      refine W.widen (k := 0) (n := 0) (by decide) (by decide) ?_
      have hP : va_P D kl [(am.m0, .inr (7, [.int c9_1.th, .int (nI c9_1.zs), .int (nI c9_1.rn), .ref am.rw, .int (nI c9_1.kn), .int (nI c9_1.rk), .int (nI c9_1.yn), .ref am.ry, .int (nI c9_1.sp), .int (nI c9_1.lg), .ref am.ti, .int (nI c9_1.fo), .int (nI c9_1.pt), .ref am.po, .ref am.su, .ref am.sq, .ref am.ch, .ref am.vt, .ref am.sh])), (am.rw, .inl (cI, 32, .inl c9_1.wf)), (am.ry, .inl (cI, 256, .inl c9_1.yf)), (am.ti, .inl (cI, 8, .inl c9_1.tf)), (am.po, .inl (cI, 4000, .inl c9_1.pf)), (am.su, .inl (cZ, 1000, .inl c9_1.sf)), (am.sq, .inl (cJ, 256, .inr (.inl c9_1.qf))), (am.ch, .inl (cI, 8, .inl (nf c9_1.ck))), (am.vt, .inl (cI, 4, .inl c9_1.vf)), (am.sh, .inl (cI, 4, .inl (nf c9_1.sk)))] H := hP
      have hD : va_D A [(am.m0, .inr (7, [.int c9_1.th, .int (nI c9_1.zs), .int (nI c9_1.rn), .ref am.rw, .int (nI c9_1.kn), .int (nI c9_1.rk), .int (nI c9_1.yn), .ref am.ry, .int (nI c9_1.sp), .int (nI c9_1.lg), .ref am.ti, .int (nI c9_1.fo), .int (nI c9_1.pt), .ref am.po, .ref am.su, .ref am.sq, .ref am.ch, .ref am.vt, .ref am.sh])), (am.rw, .inl (cI, 32, .inl c9_1.wf)), (am.ry, .inl (cI, 256, .inl c9_1.yf)), (am.ti, .inl (cI, 8, .inl c9_1.tf)), (am.po, .inl (cI, 4000, .inl c9_1.pf)), (am.su, .inl (cZ, 1000, .inl c9_1.sf)), (am.sq, .inl (cJ, 256, .inr (.inl c9_1.qf))), (am.ch, .inl (cI, 8, .inl (nf c9_1.ck))), (am.vt, .inl (cI, 4, .inl c9_1.vf)), (am.sh, .inl (cI, 4, .inl (nf c9_1.sk)))] := hD
      have hJ1 := f_2
      have hS1 := f_3
      have hk1 : c9_1.kn = 1 := f_4
      have hz2 := hJ1.z2
      have hz4 := hJ1.z4
      have hr8 := hJ1.r8
      have hkn := hJ1.kn
      have hrk := hJ1.rk
      have hyn := hJ1.yn
      have hsp := hJ1.sp
      have hlg := hJ1.lg
      have hfo := hJ1.fo
      have hpt := hJ1.pt
      have hck := hJ1.ck
      have hsk := hJ1.sk
      have hro := hJ1.ro
      refine lv_if_ne (tgt := 10) hx hb d_M_faces_5 (by decide) (fun _ => ?_) (fun h99 => absurd h99 (by decide))
      refine lv_iconst (v := (0 : Int32)) hx hb d_M_faces_10 (by decide) ?_
      refine lv_istore_n (lv' := [(2, .int (0 : Int32)), (0, .ref am.m0), (1, .int w)]) hx hb d_M_faces_11 rfl hl (by decide) rfl (fun ls hl => ?_)
      refine lv_iconst (v := (0 : Int32)) hx hb d_M_faces_12 (by decide) ?_
      refine lv_istore_n (lv' := [(3, .int (0 : Int32)), (2, .int (0 : Int32)), (0, .ref am.m0), (1, .int w)]) hx hb d_M_faces_13 rfl hl (by decide) rfl (fun ls hl => ?_)
      have lp_14 : ∀ (n9 : Nat) (x : Nat) (n : Nat) (q1 : Nat → Int64) (ls : Array Slot) (H : Heap) (locs : List Loc), 2 ^ 31 - x = n9 → (fcs c9_1.yf c9_1.tf c9_1.rn c9_1.yn w x (0, c9_1.qf) = (n, q1)) → (x < 2 ^ 31) → (n ≤ x) → (x ≤ ((1 : Int32) <<< (nI c9_1.yn &&& 31)).toNatClampNeg) → lv_has ls 4 [(3, .int (nI x)), (2, .int (nI n)), (0, .ref am.m0), (1, .int w)] → va_P D kl [(am.m0, .inr (7, [.int c9_1.th, .int (nI c9_1.zs), .int (nI c9_1.rn), .ref am.rw, .int (nI c9_1.kn), .int (nI c9_1.rk), .int (nI c9_1.yn), .ref am.ry, .int (nI c9_1.sp), .int (nI c9_1.lg), .ref am.ti, .int (nI c9_1.fo), .int (nI c9_1.pt), .ref am.po, .ref am.su, .ref am.sq, .ref am.ch, .ref am.vt, .ref am.sh])), (am.rw, .inl (cI, 32, .inl c9_1.wf)), (am.ry, .inl (cI, 256, .inl c9_1.yf)), (am.ti, .inl (cI, 8, .inl c9_1.tf)), (am.po, .inl (cI, 4000, .inl c9_1.pf)), (am.su, .inl (cZ, 1000, .inl c9_1.sf)), (am.sq, .inl (cJ, 256, .inr (.inl q1))), (am.ch, .inl (cI, 8, .inl (nf c9_1.ck))), (am.vt, .inl (cI, 4, .inl c9_1.vf)), (am.sh, .inl (cI, 4, .inl (nf c9_1.sk)))] H → va_D A [(am.m0, .inr (7, [.int c9_1.th, .int (nI c9_1.zs), .int (nI c9_1.rn), .ref am.rw, .int (nI c9_1.kn), .int (nI c9_1.rk), .int (nI c9_1.yn), .ref am.ry, .int (nI c9_1.sp), .int (nI c9_1.lg), .ref am.ti, .int (nI c9_1.fo), .int (nI c9_1.pt), .ref am.po, .ref am.su, .ref am.sq, .ref am.ch, .ref am.vt, .ref am.sh])), (am.rw, .inl (cI, 32, .inl c9_1.wf)), (am.ry, .inl (cI, 256, .inl c9_1.yf)), (am.ti, .inl (cI, 8, .inl c9_1.tf)), (am.po, .inl (cI, 4000, .inl c9_1.pf)), (am.su, .inl (cZ, 1000, .inl c9_1.sf)), (am.sq, .inl (cJ, 256, .inr (.inl q1))), (am.ch, .inl (cI, 8, .inl (nf c9_1.ck))), (am.vt, .inl (cI, 4, .inl c9_1.vf)), (am.sh, .inl (cI, 4, .inl (nf c9_1.sk)))] → va_S A s.heap H locs → W p l e ({ frames := 6, cells := 0, slots := 0, locals := 153 } : Room) s m ([.ref am.m0, .int w] : List Value).toArray below meth c H locs 0 0 Q (F0 m 14 ls []) := by
        intro n9
        induction n9 using Nat.strongRecOn with
        | ind n9 ih_14 =>
          intro x n q1 ls H locs hm_14 hfc hx3 hnx hxb hl hP hD hS
          refine lv_iload_n hx hb d_M_faces_14 rfl (lv_at hl 0 rfl) ?_
          refine lv_iconst (v := (1 : Int32)) hx hb d_M_faces_15 (by decide) ?_
          refine lv_aload_n hx hb d_M_faces_16 rfl (lv_at hl 2 rfl) ?_
          refine va_get (D := D) (ci := 7) (v := .int (nI c9_1.yn)) (C := cn_M) (T := ft_M) (N := 19) hx hb hf_M (fun _ h => h) hown hK hP 0 rfl rfl 6 (by decide) (gw.at G hx0 mw_719 rfl _) (fun _ h9 => h9) rfl d_M_faces_17 ?_
          refine lv_ishl hx hb d_M_faces_20 ?_
          refine lv_icmp_ge (tgt := 55) hx hb d_M_faces_21 (by decide) (fun h_7 => ?_) (fun h_7 => ?_)
          · refine lv_iload_n hx hb d_M_faces_55 rfl (lv_at hl 1 rfl) ?_
            rw [← hQe]
            exact tx_mono (fun _ h => tx_Z.of h) (W.iret (v := nI n) hx hb hr (fun t ht hW => ⟨⟨[(am.m0, .inr (7, [.int c9_1.th, .int (nI c9_1.zs), .int (nI c9_1.rn), .ref am.rw, .int (nI c9_1.kn), .int (nI c9_1.rk), .int (nI c9_1.yn), .ref am.ry, .int (nI c9_1.sp), .int (nI c9_1.lg), .ref am.ti, .int (nI c9_1.fo), .int (nI c9_1.pt), .ref am.po, .ref am.su, .ref am.sq, .ref am.ch, .ref am.vt, .ref am.sh])), (am.rw, .inl (cI, 32, .inl c9_1.wf)), (am.ry, .inl (cI, 256, .inl c9_1.yf)), (am.ti, .inl (cI, 8, .inl c9_1.tf)), (am.po, .inl (cI, 4000, .inl c9_1.pf)), (am.su, .inl (cZ, 1000, .inl c9_1.sf)), (am.sq, .inl (cJ, 256, .inr (.inl q1))), (am.ch, .inl (cI, 8, .inl (nf c9_1.ck))), (am.vt, .inl (cI, 4, .inl c9_1.vf)), (am.sh, .inl (cI, 4, .inl (nf c9_1.sk)))], Or.inr (⟨(MCmk c9_1.th c9_1.zs c9_1.rn c9_1.kn c9_1.rk c9_1.yn c9_1.sp c9_1.lg c9_1.fo c9_1.pt c9_1.wf c9_1.yf c9_1.tf c9_1.pf c9_1.sf q1 c9_1.ck c9_1.vf c9_1.sk), n, c9_1.qf, rfl, hJ1, hS1, hk1, f_5, f_6, (show fcs _ _ _ _ w ((1 : Int32) <<< (nI c9_1.yn &&& 31)).toNatClampNeg _ = _ by rw [show ((1 : Int32) <<< (nI c9_1.yn &&& 31)).toNatClampNeg = x from Nat.le_antisymm (nI_down hx3 (Int32.not_lt.mpr h_7)) hxb]; exact hfc), rfl⟩), by rw [ht]; exact hP.sub [0, 1, 2, 3, 4, 5, 6, 7, 8, 9] rfl, hD.sub [0, 1, 2, 3, 4, 5, 6, 7, 8, 9] (by decide) rfl⟩, hS.F ht⟩) hS.2.2 d_M_faces_56)
          · refine lv_aload_n hx hb d_M_faces_24 rfl (lv_at hl 2 rfl) ?_
            refine lv_iload_n hx hb d_M_faces_25 rfl (lv_at hl 0 rfl) ?_
            by_cases h_8 : isfP c9_1.tf c9_1.rn c9_1.yn (nI x)
            · refine cx_call (D := D) (cl := kl) (ws := _) (wc := [(am.m0, .inr (7, [.int c9_1.th, .int (nI c9_1.zs), .int (nI c9_1.rn), .ref am.rw, .int (nI c9_1.kn), .int (nI c9_1.rk), .int (nI c9_1.yn), .ref am.ry, .int (nI c9_1.sp), .int (nI c9_1.lg), .ref am.ti, .int (nI c9_1.fo), .int (nI c9_1.pt), .ref am.po, .ref am.su, .ref am.sq, .ref am.ch, .ref am.vt, .ref am.sh])), (am.ti, .inl (cI, 8, .inl c9_1.tf))]) (wr := [(am.rw, .inl (cI, 32, .inl c9_1.wf)), (am.ry, .inl (cI, 256, .inl c9_1.yf)), (am.po, .inl (cI, 4000, .inl c9_1.pf)), (am.su, .inl (cZ, 1000, .inl c9_1.sf)), (am.sq, .inl (cJ, 256, .inr (.inl q1))), (am.ch, .inl (cI, 8, .inl (nf c9_1.ck))), (am.vt, .inl (cI, 4, .inl c9_1.vf)), (am.sh, .inl (cI, 4, .inl (nf c9_1.sk)))]) (tx_runV (C := cn_M) (b := am.m0) (As := [.int (nI x)]) (rest := []) hx hb hml hown (c_M_isFace_y E H.size am.m0 am.rw am.ry am.ti am.po am.su am.sq am.ch am.vt am.sh c9_1.th (nI c9_1.zs) (nI c9_1.kn) (nI c9_1.rk) (nI c9_1.sp) (nI c9_1.lg) (nI c9_1.fo) (nI c9_1.pt) c9_1.rn c9_1.yn c9_1.tf (nI x) hr8 (by omega) h_8) (cx_C (b0 := b0) G hx0 mw_901 mw_9 ny_M_isFace (by decide)) (gw.at G hx0 mw_898 rfl _) (gw.at G hx0 mw_900 rfl _) (gw.at G hx0 ms_M_isFace rfl _) ⟨cx_blind, va_recv hK hP (q0 := 0) (ci := 7) (q := (cn_M, ft_M, 19)) rfl rfl, (cx_pre (s := s) hx0 hP hD hS hA0 [0, 3] rfl rfl (by decide))⟩ rfl rfl hl.1 rfl (lv_room (Nat.le_of_ble_eq_true rfl)) d_M_faces_26 ⟨by decide, by decide⟩) hP hD hS hA [0, 3] [1, 2, 4, 5, 6, 7, 8, 9] rfl rfl (by decide) (by decide) (fun v t w1 H locs ht hW9 hp hP hD hS => ?_) (fun x t w1 H locs ht hW9 hp hP hD hS => by obtain ⟨h9, -⟩ := hp; cases h9)
              obtain ⟨h9, rfl⟩ := hp
              cases h9
              refine W.eq (g2 := F0 m 29 ls [.int (1 : Int32)]) rfl ?_
              refine W.widen (k := 0) (n := 0) (by decide) (by decide) ?_
              have hP : va_P D kl [(am.rw, .inl (cI, 32, .inl c9_1.wf)), (am.ry, .inl (cI, 256, .inl c9_1.yf)), (am.po, .inl (cI, 4000, .inl c9_1.pf)), (am.su, .inl (cZ, 1000, .inl c9_1.sf)), (am.sq, .inl (cJ, 256, .inr (.inl q1))), (am.ch, .inl (cI, 8, .inl (nf c9_1.ck))), (am.vt, .inl (cI, 4, .inl c9_1.vf)), (am.sh, .inl (cI, 4, .inl (nf c9_1.sk))), (am.m0, .inr (7, [.int c9_1.th, .int (nI c9_1.zs), .int (nI c9_1.rn), .ref am.rw, .int (nI c9_1.kn), .int (nI c9_1.rk), .int (nI c9_1.yn), .ref am.ry, .int (nI c9_1.sp), .int (nI c9_1.lg), .ref am.ti, .int (nI c9_1.fo), .int (nI c9_1.pt), .ref am.po, .ref am.su, .ref am.sq, .ref am.ch, .ref am.vt, .ref am.sh])), (am.ti, .inl (cI, 8, .inl c9_1.tf))] H := hP
              have hD : va_D A [(am.rw, .inl (cI, 32, .inl c9_1.wf)), (am.ry, .inl (cI, 256, .inl c9_1.yf)), (am.po, .inl (cI, 4000, .inl c9_1.pf)), (am.su, .inl (cZ, 1000, .inl c9_1.sf)), (am.sq, .inl (cJ, 256, .inr (.inl q1))), (am.ch, .inl (cI, 8, .inl (nf c9_1.ck))), (am.vt, .inl (cI, 4, .inl c9_1.vf)), (am.sh, .inl (cI, 4, .inl (nf c9_1.sk))), (am.m0, .inr (7, [.int c9_1.th, .int (nI c9_1.zs), .int (nI c9_1.rn), .ref am.rw, .int (nI c9_1.kn), .int (nI c9_1.rk), .int (nI c9_1.yn), .ref am.ry, .int (nI c9_1.sp), .int (nI c9_1.lg), .ref am.ti, .int (nI c9_1.fo), .int (nI c9_1.pt), .ref am.po, .ref am.su, .ref am.sq, .ref am.ch, .ref am.vt, .ref am.sh])), (am.ti, .inl (cI, 8, .inl c9_1.tf))] := hD
              refine lv_if_eq (tgt := 47) hx hb d_M_faces_29 (by decide) (fun h99 => absurd h99 (by decide)) (fun _ => ?_)
              refine lv_aload_n hx hb d_M_faces_32 rfl (lv_at hl 2 rfl) ?_
              refine lv_iload_n hx hb d_M_faces_33 rfl (lv_at hl 0 rfl) ?_
              refine cx_call (D := D) (cl := kl) (ws := _) (wc := [(am.m0, .inr (7, [.int c9_1.th, .int (nI c9_1.zs), .int (nI c9_1.rn), .ref am.rw, .int (nI c9_1.kn), .int (nI c9_1.rk), .int (nI c9_1.yn), .ref am.ry, .int (nI c9_1.sp), .int (nI c9_1.lg), .ref am.ti, .int (nI c9_1.fo), .int (nI c9_1.pt), .ref am.po, .ref am.su, .ref am.sq, .ref am.ch, .ref am.vt, .ref am.sh])), (am.ry, .inl (cI, 256, .inl c9_1.yf)), (am.sq, .inl (cJ, 256, .inr (.inl q1)))]) (wr := [(am.rw, .inl (cI, 32, .inl c9_1.wf)), (am.po, .inl (cI, 4000, .inl c9_1.pf)), (am.su, .inl (cZ, 1000, .inl c9_1.sf)), (am.ch, .inl (cI, 8, .inl (nf c9_1.ck))), (am.vt, .inl (cI, 4, .inl c9_1.vf)), (am.sh, .inl (cI, 4, .inl (nf c9_1.sk))), (am.ti, .inl (cI, 8, .inl c9_1.tf))]) (tx_runV (C := cn_M) (b := am.m0) (As := [.int (nI x)]) (rest := []) hx hb hml hown (c_M_dim E H.size am.m0 am.rw am.ry am.ti am.po am.su am.sq am.ch am.vt am.sh c9_1.th (nI c9_1.zs) (nI c9_1.rn) (nI c9_1.kn) (nI c9_1.rk) (nI c9_1.sp) (nI c9_1.lg) (nI c9_1.fo) (nI c9_1.pt) c9_1.yn c9_1.yf q1 (nI x) (by omega)) (cx_C (b0 := b0) G hx0 mw_852 mw_9 ny_M_dimensionOf (by decide)) (gw.at G hx0 mw_849 rfl _) (gw.at G hx0 mw_851 rfl _) (gw.at G hx0 ms_M_dimensionOf rfl _) ⟨cx_blind, va_recv hK hP (q0 := 8) (ci := 7) (q := (cn_M, ft_M, 19)) rfl rfl, (cx_pre (s := s) hx0 hP hD hS hA0 [8, 1, 4] rfl rfl (by decide))⟩ rfl rfl hl.1 rfl (lv_room (Nat.le_of_ble_eq_true rfl)) d_M_faces_34 ⟨by decide, by decide⟩) hP hD hS hA [8, 1, 4] [0, 2, 3, 5, 6, 7, 9] rfl rfl (by decide) (by decide) (fun v t w1 H locs ht hW9 hp hP hD hS => ?_) (fun x t w1 H locs ht hW9 hp hP hD hS => by obtain ⟨_, _, h9, -⟩ := hp; cases h9)
              obtain ⟨v_9, q2_10, h9, f_11, f_12, rfl⟩ := hp
              cases h9
              refine W.eq (g2 := F0 m 37 ls [.int (nI v_9)]) rfl ?_
              refine W.widen (k := 0) (n := 0) (by decide) (by decide) ?_
              have hP : va_P D kl [(am.rw, .inl (cI, 32, .inl c9_1.wf)), (am.po, .inl (cI, 4000, .inl c9_1.pf)), (am.su, .inl (cZ, 1000, .inl c9_1.sf)), (am.ch, .inl (cI, 8, .inl (nf c9_1.ck))), (am.vt, .inl (cI, 4, .inl c9_1.vf)), (am.sh, .inl (cI, 4, .inl (nf c9_1.sk))), (am.ti, .inl (cI, 8, .inl c9_1.tf)), (am.m0, .inr (7, [.int c9_1.th, .int (nI c9_1.zs), .int (nI c9_1.rn), .ref am.rw, .int (nI c9_1.kn), .int (nI c9_1.rk), .int (nI c9_1.yn), .ref am.ry, .int (nI c9_1.sp), .int (nI c9_1.lg), .ref am.ti, .int (nI c9_1.fo), .int (nI c9_1.pt), .ref am.po, .ref am.su, .ref am.sq, .ref am.ch, .ref am.vt, .ref am.sh])), (am.ry, .inl (cI, 256, .inl c9_1.yf)), (am.sq, .inl (cJ, 256, .inr (.inl q2_10)))] H := hP
              have hD : va_D A [(am.rw, .inl (cI, 32, .inl c9_1.wf)), (am.po, .inl (cI, 4000, .inl c9_1.pf)), (am.su, .inl (cZ, 1000, .inl c9_1.sf)), (am.ch, .inl (cI, 8, .inl (nf c9_1.ck))), (am.vt, .inl (cI, 4, .inl c9_1.vf)), (am.sh, .inl (cI, 4, .inl (nf c9_1.sk))), (am.ti, .inl (cI, 8, .inl c9_1.tf)), (am.m0, .inr (7, [.int c9_1.th, .int (nI c9_1.zs), .int (nI c9_1.rn), .ref am.rw, .int (nI c9_1.kn), .int (nI c9_1.rk), .int (nI c9_1.yn), .ref am.ry, .int (nI c9_1.sp), .int (nI c9_1.lg), .ref am.ti, .int (nI c9_1.fo), .int (nI c9_1.pt), .ref am.po, .ref am.su, .ref am.sq, .ref am.ch, .ref am.vt, .ref am.sh])), (am.ry, .inl (cI, 256, .inl c9_1.yf)), (am.sq, .inl (cJ, 256, .inr (.inl q2_10)))] := hD
              refine lv_iload_n hx hb d_M_faces_37 rfl (lv_at hl 3 rfl) ?_
              refine lv_icmp_ne (tgt := 47) hx hb d_M_faces_38 (by decide) (fun h_13 => ?_) (fun h_13 => ?_)
              · refine lv_iload_n hx hb d_M_faces_47 rfl (lv_at hl 1 rfl) ?_
                refine lv_istore_n (lv' := [(2, .int (nI n)), (3, .int (nI x)), (0, .ref am.m0), (1, .int w)]) hx hb d_M_faces_48 rfl hl (by decide) rfl (fun ls hl => ?_)
                refine lv_iinc (lv' := [(3, .int (nI (x + 1))), (2, .int (nI n)), (0, .ref am.m0), (1, .int w)]) (k := 1) (v := nI (x + 1)) hx hb d_M_faces_49 hl rfl (nI_add x 1) (by decide) rfl (fun ls hl => ?_)
                refine lv_goto (tgt := 14) hx hb d_M_faces_52 (by decide) ?_
                exact ih_14 _ (by omega) (x + 1) n q2_10 ls H locs rfl (by rw [fcs_y hfc h_8 f_11, if_neg h_13]) (nI_room hx3 (Int32.not_le.mp h_7)) (by omega) (nI_up hx3 (Int32.not_le.mp h_7)) (lv_sub hl [0, 1, 2, 3] rfl) (hP.sub [7, 0, 8, 6, 1, 2, 9, 3, 4, 5] rfl) (hD.sub [7, 0, 8, 6, 1, 2, 9, 3, 4, 5] (by decide) rfl) hS
              · refine lv_iload_n hx hb d_M_faces_41 rfl (lv_at hl 1 rfl) ?_
                refine lv_iconst (v := (1 : Int32)) hx hb d_M_faces_42 (by decide) ?_
                refine lv_iadd hx hb d_M_faces_43 ?_
                refine tp_i (y := nI (n + 1)) (nI_add n 1) ?_
                refine lv_goto (tgt := 48) hx hb d_M_faces_44 (by decide) ?_
                refine lv_istore_n (lv' := [(2, .int (nI (n + 1))), (3, .int (nI x)), (0, .ref am.m0), (1, .int w)]) hx hb d_M_faces_48 rfl hl (by decide) rfl (fun ls hl => ?_)
                refine lv_iinc (lv' := [(3, .int (nI (x + 1))), (2, .int (nI (n + 1))), (0, .ref am.m0), (1, .int w)]) (k := 1) (v := nI (x + 1)) hx hb d_M_faces_49 hl rfl (nI_add x 1) (by decide) rfl (fun ls hl => ?_)
                refine lv_goto (tgt := 14) hx hb d_M_faces_52 (by decide) ?_
                exact ih_14 _ (by omega) (x + 1) (n + 1) q2_10 ls H locs rfl (by rw [fcs_y hfc h_8 f_11, if_pos h_13]) (nI_room hx3 (Int32.not_le.mp h_7)) (by omega) (nI_up hx3 (Int32.not_le.mp h_7)) (lv_sub hl [0, 1, 2, 3] rfl) (hP.sub [7, 0, 8, 6, 1, 2, 9, 3, 4, 5] rfl) (hD.sub [7, 0, 8, 6, 1, 2, 9, 3, 4, 5] (by decide) rfl) hS
            · refine cx_call (D := D) (cl := kl) (ws := _) (wc := [(am.m0, .inr (7, [.int c9_1.th, .int (nI c9_1.zs), .int (nI c9_1.rn), .ref am.rw, .int (nI c9_1.kn), .int (nI c9_1.rk), .int (nI c9_1.yn), .ref am.ry, .int (nI c9_1.sp), .int (nI c9_1.lg), .ref am.ti, .int (nI c9_1.fo), .int (nI c9_1.pt), .ref am.po, .ref am.su, .ref am.sq, .ref am.ch, .ref am.vt, .ref am.sh])), (am.ti, .inl (cI, 8, .inl c9_1.tf))]) (wr := [(am.rw, .inl (cI, 32, .inl c9_1.wf)), (am.ry, .inl (cI, 256, .inl c9_1.yf)), (am.po, .inl (cI, 4000, .inl c9_1.pf)), (am.su, .inl (cZ, 1000, .inl c9_1.sf)), (am.sq, .inl (cJ, 256, .inr (.inl q1))), (am.ch, .inl (cI, 8, .inl (nf c9_1.ck))), (am.vt, .inl (cI, 4, .inl c9_1.vf)), (am.sh, .inl (cI, 4, .inl (nf c9_1.sk)))]) (tx_runV (C := cn_M) (b := am.m0) (As := [.int (nI x)]) (rest := []) hx hb hml hown (c_M_isFace_n E H.size am.m0 am.rw am.ry am.ti am.po am.su am.sq am.ch am.vt am.sh c9_1.th (nI c9_1.zs) (nI c9_1.kn) (nI c9_1.rk) (nI c9_1.sp) (nI c9_1.lg) (nI c9_1.fo) (nI c9_1.pt) c9_1.rn c9_1.yn c9_1.tf (nI x) hr8 (by omega) h_8) (cx_C (b0 := b0) G hx0 mw_901 mw_9 ny_M_isFace (by decide)) (gw.at G hx0 mw_898 rfl _) (gw.at G hx0 mw_900 rfl _) (gw.at G hx0 ms_M_isFace rfl _) ⟨cx_blind, va_recv hK hP (q0 := 0) (ci := 7) (q := (cn_M, ft_M, 19)) rfl rfl, (cx_pre (s := s) hx0 hP hD hS hA0 [0, 3] rfl rfl (by decide))⟩ rfl rfl hl.1 rfl (lv_room (Nat.le_of_ble_eq_true rfl)) d_M_faces_26 ⟨by decide, by decide⟩) hP hD hS hA [0, 3] [1, 2, 4, 5, 6, 7, 8, 9] rfl rfl (by decide) (by decide) (fun v t w1 H locs ht hW9 hp hP hD hS => ?_) (fun x t w1 H locs ht hW9 hp hP hD hS => by obtain ⟨h9, -⟩ := hp; cases h9)
              obtain ⟨h9, rfl⟩ := hp
              cases h9
              refine W.eq (g2 := F0 m 29 ls [.int (0 : Int32)]) rfl ?_
              refine W.widen (k := 0) (n := 0) (by decide) (by decide) ?_
              have hP : va_P D kl [(am.rw, .inl (cI, 32, .inl c9_1.wf)), (am.ry, .inl (cI, 256, .inl c9_1.yf)), (am.po, .inl (cI, 4000, .inl c9_1.pf)), (am.su, .inl (cZ, 1000, .inl c9_1.sf)), (am.sq, .inl (cJ, 256, .inr (.inl q1))), (am.ch, .inl (cI, 8, .inl (nf c9_1.ck))), (am.vt, .inl (cI, 4, .inl c9_1.vf)), (am.sh, .inl (cI, 4, .inl (nf c9_1.sk))), (am.m0, .inr (7, [.int c9_1.th, .int (nI c9_1.zs), .int (nI c9_1.rn), .ref am.rw, .int (nI c9_1.kn), .int (nI c9_1.rk), .int (nI c9_1.yn), .ref am.ry, .int (nI c9_1.sp), .int (nI c9_1.lg), .ref am.ti, .int (nI c9_1.fo), .int (nI c9_1.pt), .ref am.po, .ref am.su, .ref am.sq, .ref am.ch, .ref am.vt, .ref am.sh])), (am.ti, .inl (cI, 8, .inl c9_1.tf))] H := hP
              have hD : va_D A [(am.rw, .inl (cI, 32, .inl c9_1.wf)), (am.ry, .inl (cI, 256, .inl c9_1.yf)), (am.po, .inl (cI, 4000, .inl c9_1.pf)), (am.su, .inl (cZ, 1000, .inl c9_1.sf)), (am.sq, .inl (cJ, 256, .inr (.inl q1))), (am.ch, .inl (cI, 8, .inl (nf c9_1.ck))), (am.vt, .inl (cI, 4, .inl c9_1.vf)), (am.sh, .inl (cI, 4, .inl (nf c9_1.sk))), (am.m0, .inr (7, [.int c9_1.th, .int (nI c9_1.zs), .int (nI c9_1.rn), .ref am.rw, .int (nI c9_1.kn), .int (nI c9_1.rk), .int (nI c9_1.yn), .ref am.ry, .int (nI c9_1.sp), .int (nI c9_1.lg), .ref am.ti, .int (nI c9_1.fo), .int (nI c9_1.pt), .ref am.po, .ref am.su, .ref am.sq, .ref am.ch, .ref am.vt, .ref am.sh])), (am.ti, .inl (cI, 8, .inl c9_1.tf))] := hD
              refine lv_if_eq (tgt := 47) hx hb d_M_faces_29 (by decide) (fun _ => ?_) (fun h99 => absurd h99 (by decide))
              refine lv_iload_n hx hb d_M_faces_47 rfl (lv_at hl 1 rfl) ?_
              refine lv_istore_n (lv' := [(2, .int (nI n)), (3, .int (nI x)), (0, .ref am.m0), (1, .int w)]) hx hb d_M_faces_48 rfl hl (by decide) rfl (fun ls hl => ?_)
              refine lv_iinc (lv' := [(3, .int (nI (x + 1))), (2, .int (nI n)), (0, .ref am.m0), (1, .int w)]) (k := 1) (v := nI (x + 1)) hx hb d_M_faces_49 hl rfl (nI_add x 1) (by decide) rfl (fun ls hl => ?_)
              refine lv_goto (tgt := 14) hx hb d_M_faces_52 (by decide) ?_
              exact ih_14 _ (by omega) (x + 1) n q1 ls H locs rfl (fcs_n hfc h_8) (nI_room hx3 (Int32.not_le.mp h_7)) (by omega) (nI_up hx3 (Int32.not_le.mp h_7)) (lv_sub hl [0, 1, 2, 3] rfl) (hP.sub [8, 0, 1, 9, 2, 3, 4, 5, 6, 7] rfl) (hD.sub [8, 0, 1, 9, 2, 3, 4, 5, 6, 7] (by decide) rfl) hS
      exact lp_14 _ 0 0 c9_1.qf ls H locs rfl rfl (by decide) (Nat.le_refl _) (Nat.zero_le _) (lv_sub hl [0, 1, 2, 3] rfl) (hP.sub [0, 1, 2, 3, 4, 5, 6, 7, 8, 9] rfl) (hD.sub [0, 1, 2, 3, 4, 5, 6, 7, 8, 9] (by decide) rfl) hS
    · obtain ⟨c9_14, h9, f_15, f_16, f_17, f_18, f_19, rfl⟩ := hp
      cases h9
      refine W.eq (g2 := F0 m 5 ls [.int (0 : Int32)]) rfl ?_
      refine W.widen (k := 0) (n := 0) (by decide) (by decide) ?_
      have hP : va_P D kl [(am.m0, .inr (7, [.int c9_14.th, .int (nI c9_14.zs), .int (nI c9_14.rn), .ref am.rw, .int (nI c9_14.kn), .int (nI c9_14.rk), .int (nI c9_14.yn), .ref am.ry, .int (nI c9_14.sp), .int (nI c9_14.lg), .ref am.ti, .int (nI c9_14.fo), .int (nI c9_14.pt), .ref am.po, .ref am.su, .ref am.sq, .ref am.ch, .ref am.vt, .ref am.sh])), (am.rw, .inl (cI, 32, .inl c9_14.wf)), (am.ry, .inl (cI, 256, .inl c9_14.yf)), (am.ti, .inl (cI, 8, .inl c9_14.tf)), (am.po, .inl (cI, 4000, .inl c9_14.pf)), (am.su, .inl (cZ, 1000, .inl c9_14.sf)), (am.sq, .inl (cJ, 256, .inr (.inl c9_14.qf))), (am.ch, .inl (cI, 8, .inl (nf c9_14.ck))), (am.vt, .inl (cI, 4, .inl c9_14.vf)), (am.sh, .inl (cI, 4, .inl (nf c9_14.sk)))] H := hP
      have hD : va_D A [(am.m0, .inr (7, [.int c9_14.th, .int (nI c9_14.zs), .int (nI c9_14.rn), .ref am.rw, .int (nI c9_14.kn), .int (nI c9_14.rk), .int (nI c9_14.yn), .ref am.ry, .int (nI c9_14.sp), .int (nI c9_14.lg), .ref am.ti, .int (nI c9_14.fo), .int (nI c9_14.pt), .ref am.po, .ref am.su, .ref am.sq, .ref am.ch, .ref am.vt, .ref am.sh])), (am.rw, .inl (cI, 32, .inl c9_14.wf)), (am.ry, .inl (cI, 256, .inl c9_14.yf)), (am.ti, .inl (cI, 8, .inl c9_14.tf)), (am.po, .inl (cI, 4000, .inl c9_14.pf)), (am.su, .inl (cZ, 1000, .inl c9_14.sf)), (am.sq, .inl (cJ, 256, .inr (.inl c9_14.qf))), (am.ch, .inl (cI, 8, .inl (nf c9_14.ck))), (am.vt, .inl (cI, 4, .inl c9_14.vf)), (am.sh, .inl (cI, 4, .inl (nf c9_14.sk)))] := hD
      have hJ1 := f_15
      have hS1 := f_16
      have hk1 : c9_14.kn = 1 := f_17
      have hz2 := hJ1.z2
      have hz4 := hJ1.z4
      have hr8 := hJ1.r8
      have hkn := hJ1.kn
      have hrk := hJ1.rk
      have hyn := hJ1.yn
      have hsp := hJ1.sp
      have hlg := hJ1.lg
      have hfo := hJ1.fo
      have hpt := hJ1.pt
      have hck := hJ1.ck
      have hsk := hJ1.sk
      have hro := hJ1.ro
      refine lv_if_ne (tgt := 10) hx hb d_M_faces_5 (by decide) (fun h99 => absurd h99 (by decide)) (fun _ => ?_)
      refine lv_iconst (v := (0 : Int32)) hx hb d_M_faces_8 (by decide) ?_
      rw [← hQe]
      exact tx_mono (fun _ h => tx_Z.of h) (W.iret (v := (0 : Int32)) hx hb hr (fun t ht hW => ⟨⟨[(am.m0, .inr (7, [.int c9_14.th, .int (nI c9_14.zs), .int (nI c9_14.rn), .ref am.rw, .int (nI c9_14.kn), .int (nI c9_14.rk), .int (nI c9_14.yn), .ref am.ry, .int (nI c9_14.sp), .int (nI c9_14.lg), .ref am.ti, .int (nI c9_14.fo), .int (nI c9_14.pt), .ref am.po, .ref am.su, .ref am.sq, .ref am.ch, .ref am.vt, .ref am.sh])), (am.rw, .inl (cI, 32, .inl c9_14.wf)), (am.ry, .inl (cI, 256, .inl c9_14.yf)), (am.ti, .inl (cI, 8, .inl c9_14.tf)), (am.po, .inl (cI, 4000, .inl c9_14.pf)), (am.su, .inl (cZ, 1000, .inl c9_14.sf)), (am.sq, .inl (cJ, 256, .inr (.inl c9_14.qf))), (am.ch, .inl (cI, 8, .inl (nf c9_14.ck))), (am.vt, .inl (cI, 4, .inl c9_14.vf)), (am.sh, .inl (cI, 4, .inl (nf c9_14.sk)))], Or.inl (⟨c9_14, rfl, hJ1, hS1, hk1, f_18, f_19, rfl⟩), by rw [ht]; exact hP.sub [0, 1, 2, 3, 4, 5, 6, 7, 8, 9] rfl, hD.sub [0, 1, 2, 3, 4, 5, 6, 7, 8, 9] (by decide) rfl⟩, hS.F ht⟩) hS.2.2 d_M_faces_9)
  · rcases hp with hp | hp
    · obtain ⟨_, h9, -⟩ := hp; cases h9
    · obtain ⟨_, h9, -⟩ := hp; cases h9

set_option maxHeartbeats 4000000 in
set_option maxRecDepth 100000 in
theorem c_M_bounds {l : Launch} {s0 : State} {b0 : Addr} {D : va_G} {cI cJ cZ : ClassId} {tC tS : Nat} (E : gE l s0 b0 D cI cJ cZ tC tS) (sz : Nat) (am : MA) (cm : MC) (w : Int32) (hT9 : MTH) (hJ : MJ cm) : cx_M l s0 D kl y_M_bounds b_M_bounds 4 (some .boolean) ({ frames := 6, cells := 0, slots := 0, locals := 153 } : Room) 0 0 [.ref am.m0, .int w] [(am.m0, .inr (7, [.int cm.th, .int (nI cm.zs), .int (nI cm.rn), .ref am.rw, .int (nI cm.kn), .int (nI cm.rk), .int (nI cm.yn), .ref am.ry, .int (nI cm.sp), .int (nI cm.lg), .ref am.ti, .int (nI cm.fo), .int (nI cm.pt), .ref am.po, .ref am.su, .ref am.sq, .ref am.ch, .ref am.vt, .ref am.sh])), (am.rw, .inl (cI, 32, .inl cm.wf)), (am.ry, .inl (cI, 256, .inl cm.yf)), (am.ti, .inl (cI, 8, .inl cm.tf)), (am.po, .inl (cI, 4000, .inl cm.pf)), (am.su, .inl (cZ, 1000, .inl cm.sf)), (am.sq, .inl (cJ, 256, .inr (.inl cm.qf))), (am.ch, .inl (cI, 8, .inl (nf cm.ck))), (am.vt, .inl (cI, 4, .inl cm.vf)), (am.sh, .inl (cI, 4, .inl (nf cm.sk)))] sz (fun o9 t9 w9 => (∃ (c9 : MC), o9 = .returned (some (.int (0 : Int32))) ∧ MJ c9 ∧ MS cm c9 ∧ c9.kn = 1 ∧ c9.rk < c9.zs ∧ c9.th = 1 ∧ w9 = [(am.m0, .inr (7, [.int c9.th, .int (nI c9.zs), .int (nI c9.rn), .ref am.rw, .int (nI c9.kn), .int (nI c9.rk), .int (nI c9.yn), .ref am.ry, .int (nI c9.sp), .int (nI c9.lg), .ref am.ti, .int (nI c9.fo), .int (nI c9.pt), .ref am.po, .ref am.su, .ref am.sq, .ref am.ch, .ref am.vt, .ref am.sh])), (am.rw, .inl (cI, 32, .inl c9.wf)), (am.ry, .inl (cI, 256, .inl c9.yf)), (am.ti, .inl (cI, 8, .inl c9.tf)), (am.po, .inl (cI, 4000, .inl c9.pf)), (am.su, .inl (cZ, 1000, .inl c9.sf)), (am.sq, .inl (cJ, 256, .inr (.inl c9.qf))), (am.ch, .inl (cI, 8, .inl (nf c9.ck))), (am.vt, .inl (cI, 4, .inl c9.vf)), (am.sh, .inl (cI, 4, .inl (nf c9.sk)))]) ∨ (∃ (c9 : MC), o9 = .returned (some (.int (0 : Int32))) ∧ MJ c9 ∧ MS cm c9 ∧ c9.kn = 1 ∧ c9.zs ≤ c9.rk ∧ c9.th = 2 ∧ ¬ inR w c9.rn ∧ w9 = [(am.m0, .inr (7, [.int c9.th, .int (nI c9.zs), .int (nI c9.rn), .ref am.rw, .int (nI c9.kn), .int (nI c9.rk), .int (nI c9.yn), .ref am.ry, .int (nI c9.sp), .int (nI c9.lg), .ref am.ti, .int (nI c9.fo), .int (nI c9.pt), .ref am.po, .ref am.su, .ref am.sq, .ref am.ch, .ref am.vt, .ref am.sh])), (am.rw, .inl (cI, 32, .inl c9.wf)), (am.ry, .inl (cI, 256, .inl c9.yf)), (am.ti, .inl (cI, 8, .inl c9.tf)), (am.po, .inl (cI, 4000, .inl c9.pf)), (am.su, .inl (cZ, 1000, .inl c9.sf)), (am.sq, .inl (cJ, 256, .inr (.inl c9.qf))), (am.ch, .inl (cI, 8, .inl (nf c9.ck))), (am.vt, .inl (cI, 4, .inl c9.vf)), (am.sh, .inl (cI, 4, .inl (nf c9.sk)))]) ∨ (∃ (c9 : MC) (k : Nat), o9 = .returned (some (.int (1 : Int32))) ∧ MJ c9 ∧ MS cm c9 ∧ c9.kn = 1 ∧ c9.zs ≤ c9.rk ∧ c9.th = 0 ∧ k < c9.rn ∧ w = nI k ∧ bmP c9 k ∧ w9 = [(am.m0, .inr (7, [.int c9.th, .int (nI c9.zs), .int (nI c9.rn), .ref am.rw, .int (nI c9.kn), .int (nI c9.rk), .int (nI c9.yn), .ref am.ry, .int (nI c9.sp), .int (nI c9.lg), .ref am.ti, .int (nI c9.fo), .int (nI c9.pt), .ref am.po, .ref am.su, .ref am.sq, .ref am.ch, .ref am.vt, .ref am.sh])), (am.rw, .inl (cI, 32, .inl c9.wf)), (am.ry, .inl (cI, 256, .inl c9.yf)), (am.ti, .inl (cI, 8, .inl c9.tf)), (am.po, .inl (cI, 4000, .inl c9.pf)), (am.su, .inl (cZ, 1000, .inl c9.sf)), (am.sq, .inl (cJ, 256, .inr (.inl c9.qf))), (am.ch, .inl (cI, 8, .inl (nf c9.ck))), (am.vt, .inl (cI, 4, .inl c9.vf)), (am.sh, .inl (cI, 4, .inl (nf c9.sk)))]) ∨ (∃ (c9 : MC) (k : Nat) (q0 : Nat → Int64) (v : Nat), o9 = .returned (some (.int (0 : Int32))) ∧ MJ c9 ∧ MS cm c9 ∧ c9.kn = 1 ∧ c9.zs ≤ c9.rk ∧ c9.th = 0 ∧ k < c9.rn ∧ w = nI k ∧ dmo c9.yf c9.yn (c9.tf k) q0 = (v, c9.qf) ∧ ¬ (nI v = nI c9.sp - (1 : Int32) ∧ ∀ r, r < k → ¬ c9.tf r = c9.tf k) ∧ w9 = [(am.m0, .inr (7, [.int c9.th, .int (nI c9.zs), .int (nI c9.rn), .ref am.rw, .int (nI c9.kn), .int (nI c9.rk), .int (nI c9.yn), .ref am.ry, .int (nI c9.sp), .int (nI c9.lg), .ref am.ti, .int (nI c9.fo), .int (nI c9.pt), .ref am.po, .ref am.su, .ref am.sq, .ref am.ch, .ref am.vt, .ref am.sh])), (am.rw, .inl (cI, 32, .inl c9.wf)), (am.ry, .inl (cI, 256, .inl c9.yf)), (am.ti, .inl (cI, 8, .inl c9.tf)), (am.po, .inl (cI, 4000, .inl c9.pf)), (am.su, .inl (cZ, 1000, .inl c9.sf)), (am.sq, .inl (cJ, 256, .inr (.inl c9.qf))), (am.ch, .inl (cI, 8, .inl (nf c9.ck))), (am.vt, .inl (cI, 4, .inl c9.vf)), (am.sh, .inl (cI, 4, .inl (nf c9.sk)))])) := by
  refine tx_ofW (cc := b_M_bounds) (maxL := 4) (ret := (some .boolean)) (by decide) rfl ?_
  intro p e s m args below meth c s₁ B hml hT hv
  obtain ⟨rfl, hsz, hP, hD0, hx0⟩ := hv
  have hx := B.exec
  have hb := B.bytes
  have hr := B.returns
  have G := E.2.1
  have hown : s.vm.findClass cn_M = some m.cls := findClass_of_methodNamed B.named
  have hlocks := B.notSynchronized
  have hK := va_K.moved hx0.1.alike E.2.2.1
  have hf_M : ∀ w99 ∈ u_ws cn_M ft_M 19, w99.before ([.ref am.m0, .int w] : List Value).toArray s = true := fun w99 h99 => gw.at G hx0 (fw_M w99 h99) (fo_M w99 h99) _
  subst hsz
  have hA0 := cx_new hD0 hx0.2.1
  have hD := hD0.self (sz := s.heap.size)
  generalize hAe : va_A [(am.m0, .inr (7, [.int cm.th, .int (nI cm.zs), .int (nI cm.rn), .ref am.rw, .int (nI cm.kn), .int (nI cm.rk), .int (nI cm.yn), .ref am.ry, .int (nI cm.sp), .int (nI cm.lg), .ref am.ti, .int (nI cm.fo), .int (nI cm.pt), .ref am.po, .ref am.su, .ref am.sq, .ref am.ch, .ref am.vt, .ref am.sh])), (am.rw, .inl (cI, 32, .inl cm.wf)), (am.ry, .inl (cI, 256, .inl cm.yf)), (am.ti, .inl (cI, 8, .inl cm.tf)), (am.po, .inl (cI, 4000, .inl cm.pf)), (am.su, .inl (cZ, 1000, .inl cm.sf)), (am.sq, .inl (cJ, 256, .inr (.inl cm.qf))), (am.ch, .inl (cI, 8, .inl (nf cm.ck))), (am.vt, .inl (cI, 4, .inl cm.vf)), (am.sh, .inl (cI, 4, .inl (nf cm.sk)))] s.heap.size = A at hD hA0 ⊢
  have hA : ∀ q : Nat, s.heap.size ≤ q → A q := fun q h => by rw [← hAe]; exact Or.inr h
  have hS : va_S A s.heap s.heap [] := va_S.rf
  have hl := lv_entry ([.ref am.m0, .int w]) (n := 4) (Nat.le_of_ble_eq_true rfl)
  rw [lg_entry_eq]
  generalize (lg_sl ([.ref am.m0, .int w]) ++ List.replicate (4 - (lg_sl ([.ref am.m0, .int w])).length) Slot.unset).toArray = ls at hl ⊢
  have hl : lv_has ls 4 [(0, .ref am.m0), (1, .int w)] := hl
  have hP : va_P D kl [(am.m0, .inr (7, [.int cm.th, .int (nI cm.zs), .int (nI cm.rn), .ref am.rw, .int (nI cm.kn), .int (nI cm.rk), .int (nI cm.yn), .ref am.ry, .int (nI cm.sp), .int (nI cm.lg), .ref am.ti, .int (nI cm.fo), .int (nI cm.pt), .ref am.po, .ref am.su, .ref am.sq, .ref am.ch, .ref am.vt, .ref am.sh])), (am.rw, .inl (cI, 32, .inl cm.wf)), (am.ry, .inl (cI, 256, .inl cm.yf)), (am.ti, .inl (cI, 8, .inl cm.tf)), (am.po, .inl (cI, 4000, .inl cm.pf)), (am.su, .inl (cZ, 1000, .inl cm.sf)), (am.sq, .inl (cJ, 256, .inr (.inl cm.qf))), (am.ch, .inl (cI, 8, .inl (nf cm.ck))), (am.vt, .inl (cI, 4, .inl cm.vf)), (am.sh, .inl (cI, 4, .inl (nf cm.sk)))] s.heap := hP
  have hml : c.maxLocals = 4 := hml
  have hz2 := hJ.z2
  have hz4 := hJ.z4
  have hr8 := hJ.r8
  have hkn := hJ.kn
  have hrk := hJ.rk
  have hyn := hJ.yn
  have hsp := hJ.sp
  have hlg := hJ.lg
  have hfo := hJ.fo
  have hpt := hJ.pt
  have hck := hJ.ck
  have hsk := hJ.sk
  have hro := hJ.ro
  generalize hQe : tx_Z below (cx_Q D kl A (fun o9 t9 w9 => (∃ (c9 : MC), o9 = .returned (some (.int (0 : Int32))) ∧ MJ c9 ∧ MS cm c9 ∧ c9.kn = 1 ∧ c9.rk < c9.zs ∧ c9.th = 1 ∧ w9 = [(am.m0, .inr (7, [.int c9.th, .int (nI c9.zs), .int (nI c9.rn), .ref am.rw, .int (nI c9.kn), .int (nI c9.rk), .int (nI c9.yn), .ref am.ry, .int (nI c9.sp), .int (nI c9.lg), .ref am.ti, .int (nI c9.fo), .int (nI c9.pt), .ref am.po, .ref am.su, .ref am.sq, .ref am.ch, .ref am.vt, .ref am.sh])), (am.rw, .inl (cI, 32, .inl c9.wf)), (am.ry, .inl (cI, 256, .inl c9.yf)), (am.ti, .inl (cI, 8, .inl c9.tf)), (am.po, .inl (cI, 4000, .inl c9.pf)), (am.su, .inl (cZ, 1000, .inl c9.sf)), (am.sq, .inl (cJ, 256, .inr (.inl c9.qf))), (am.ch, .inl (cI, 8, .inl (nf c9.ck))), (am.vt, .inl (cI, 4, .inl c9.vf)), (am.sh, .inl (cI, 4, .inl (nf c9.sk)))]) ∨ (∃ (c9 : MC), o9 = .returned (some (.int (0 : Int32))) ∧ MJ c9 ∧ MS cm c9 ∧ c9.kn = 1 ∧ c9.zs ≤ c9.rk ∧ c9.th = 2 ∧ ¬ inR w c9.rn ∧ w9 = [(am.m0, .inr (7, [.int c9.th, .int (nI c9.zs), .int (nI c9.rn), .ref am.rw, .int (nI c9.kn), .int (nI c9.rk), .int (nI c9.yn), .ref am.ry, .int (nI c9.sp), .int (nI c9.lg), .ref am.ti, .int (nI c9.fo), .int (nI c9.pt), .ref am.po, .ref am.su, .ref am.sq, .ref am.ch, .ref am.vt, .ref am.sh])), (am.rw, .inl (cI, 32, .inl c9.wf)), (am.ry, .inl (cI, 256, .inl c9.yf)), (am.ti, .inl (cI, 8, .inl c9.tf)), (am.po, .inl (cI, 4000, .inl c9.pf)), (am.su, .inl (cZ, 1000, .inl c9.sf)), (am.sq, .inl (cJ, 256, .inr (.inl c9.qf))), (am.ch, .inl (cI, 8, .inl (nf c9.ck))), (am.vt, .inl (cI, 4, .inl c9.vf)), (am.sh, .inl (cI, 4, .inl (nf c9.sk)))]) ∨ (∃ (c9 : MC) (k : Nat), o9 = .returned (some (.int (1 : Int32))) ∧ MJ c9 ∧ MS cm c9 ∧ c9.kn = 1 ∧ c9.zs ≤ c9.rk ∧ c9.th = 0 ∧ k < c9.rn ∧ w = nI k ∧ bmP c9 k ∧ w9 = [(am.m0, .inr (7, [.int c9.th, .int (nI c9.zs), .int (nI c9.rn), .ref am.rw, .int (nI c9.kn), .int (nI c9.rk), .int (nI c9.yn), .ref am.ry, .int (nI c9.sp), .int (nI c9.lg), .ref am.ti, .int (nI c9.fo), .int (nI c9.pt), .ref am.po, .ref am.su, .ref am.sq, .ref am.ch, .ref am.vt, .ref am.sh])), (am.rw, .inl (cI, 32, .inl c9.wf)), (am.ry, .inl (cI, 256, .inl c9.yf)), (am.ti, .inl (cI, 8, .inl c9.tf)), (am.po, .inl (cI, 4000, .inl c9.pf)), (am.su, .inl (cZ, 1000, .inl c9.sf)), (am.sq, .inl (cJ, 256, .inr (.inl c9.qf))), (am.ch, .inl (cI, 8, .inl (nf c9.ck))), (am.vt, .inl (cI, 4, .inl c9.vf)), (am.sh, .inl (cI, 4, .inl (nf c9.sk)))]) ∨ (∃ (c9 : MC) (k : Nat) (q0 : Nat → Int64) (v : Nat), o9 = .returned (some (.int (0 : Int32))) ∧ MJ c9 ∧ MS cm c9 ∧ c9.kn = 1 ∧ c9.zs ≤ c9.rk ∧ c9.th = 0 ∧ k < c9.rn ∧ w = nI k ∧ dmo c9.yf c9.yn (c9.tf k) q0 = (v, c9.qf) ∧ ¬ (nI v = nI c9.sp - (1 : Int32) ∧ ∀ r, r < k → ¬ c9.tf r = c9.tf k) ∧ w9 = [(am.m0, .inr (7, [.int c9.th, .int (nI c9.zs), .int (nI c9.rn), .ref am.rw, .int (nI c9.kn), .int (nI c9.rk), .int (nI c9.yn), .ref am.ry, .int (nI c9.sp), .int (nI c9.lg), .ref am.ti, .int (nI c9.fo), .int (nI c9.pt), .ref am.po, .ref am.su, .ref am.sq, .ref am.ch, .ref am.vt, .ref am.sh])), (am.rw, .inl (cI, 32, .inl c9.wf)), (am.ry, .inl (cI, 256, .inl c9.yf)), (am.ti, .inl (cI, 8, .inl c9.tf)), (am.po, .inl (cI, 4000, .inl c9.pf)), (am.su, .inl (cZ, 1000, .inl c9.sf)), (am.sq, .inl (cJ, 256, .inr (.inl c9.qf))), (am.ch, .inl (cI, 8, .inl (nf c9.ck))), (am.vt, .inl (cI, 4, .inl c9.vf)), (am.sh, .inl (cI, 4, .inl (nf c9.sk)))]))) ([.ref am.m0, .int w] : List Value).toArray s 0 0 A = Q
  refine lv_aload_n hx hb d_M_bounds_0 rfl (lv_at hl 0 rfl) ?_
  refine lv_iconst (v := (1 : Int32)) hx hb d_M_bounds_1 (by decide) ?_
  refine cx_call (D := D) (cl := kl) (ws := _) (wc := [(am.m0, .inr (7, [.int cm.th, .int (nI cm.zs), .int (nI cm.rn), .ref am.rw, .int (nI cm.kn), .int (nI cm.rk), .int (nI cm.yn), .ref am.ry, .int (nI cm.sp), .int (nI cm.lg), .ref am.ti, .int (nI cm.fo), .int (nI cm.pt), .ref am.po, .ref am.su, .ref am.sq, .ref am.ch, .ref am.vt, .ref am.sh])), (am.rw, .inl (cI, 32, .inl cm.wf)), (am.ry, .inl (cI, 256, .inl cm.yf)), (am.ti, .inl (cI, 8, .inl cm.tf)), (am.po, .inl (cI, 4000, .inl cm.pf)), (am.su, .inl (cZ, 1000, .inl cm.sf)), (am.sq, .inl (cJ, 256, .inr (.inl cm.qf))), (am.ch, .inl (cI, 8, .inl (nf cm.ck))), (am.vt, .inl (cI, 4, .inl cm.vf)), (am.sh, .inl (cI, 4, .inl (nf cm.sk)))]) (wr := []) (tx_runV (C := cn_M) (b := am.m0) (As := [.int (1 : Int32)]) (rest := []) hx hb hml hown (c_M_pointed1 E s.heap.size am cm hT9 hJ) (cx_C (b0 := b0) G hx0 mw_881 mw_9 ny_M_pointed (by decide)) (gw.at G hx0 mw_878 rfl _) (gw.at G hx0 mw_880 rfl _) (gw.at G hx0 ms_M_pointed rfl _) ⟨cx_blind, va_recv hK hP (q0 := 0) (ci := 7) (q := (cn_M, ft_M, 19)) rfl rfl, (cx_pre (s := s) hx0 hP hD hS hA0 [0, 1, 2, 3, 4, 5, 6, 7, 8, 9] rfl rfl (by decide))⟩ rfl rfl hl.1 rfl (lv_room (Nat.le_of_ble_eq_true rfl)) d_M_bounds_2 ⟨by decide, by decide⟩) hP hD hS hA [0, 1, 2, 3, 4, 5, 6, 7, 8, 9] [] rfl rfl (by decide) (by decide) (fun v t w1 H locs ht hW9 hp hP hD hS => ?_) (fun x t w1 H locs ht hW9 hp hP hD hS => ?_)
  · rcases hp with hp | hp
    · obtain ⟨c9_1, h9, f_2, f_3, f_4, f_5, f_6, rfl⟩ := hp
      cases h9
      refine W.eq (g2 := F0 m 5 ls [.int (1 : Int32)]) rfl ?_
      refine W.widen (k := 0) (n := 0) (by decide) (by decide) ?_
      have hP : va_P D kl [(am.m0, .inr (7, [.int c9_1.th, .int (nI c9_1.zs), .int (nI c9_1.rn), .ref am.rw, .int (nI c9_1.kn), .int (nI c9_1.rk), .int (nI c9_1.yn), .ref am.ry, .int (nI c9_1.sp), .int (nI c9_1.lg), .ref am.ti, .int (nI c9_1.fo), .int (nI c9_1.pt), .ref am.po, .ref am.su, .ref am.sq, .ref am.ch, .ref am.vt, .ref am.sh])), (am.rw, .inl (cI, 32, .inl c9_1.wf)), (am.ry, .inl (cI, 256, .inl c9_1.yf)), (am.ti, .inl (cI, 8, .inl c9_1.tf)), (am.po, .inl (cI, 4000, .inl c9_1.pf)), (am.su, .inl (cZ, 1000, .inl c9_1.sf)), (am.sq, .inl (cJ, 256, .inr (.inl c9_1.qf))), (am.ch, .inl (cI, 8, .inl (nf c9_1.ck))), (am.vt, .inl (cI, 4, .inl c9_1.vf)), (am.sh, .inl (cI, 4, .inl (nf c9_1.sk)))] H := hP
      have hD : va_D A [(am.m0, .inr (7, [.int c9_1.th, .int (nI c9_1.zs), .int (nI c9_1.rn), .ref am.rw, .int (nI c9_1.kn), .int (nI c9_1.rk), .int (nI c9_1.yn), .ref am.ry, .int (nI c9_1.sp), .int (nI c9_1.lg), .ref am.ti, .int (nI c9_1.fo), .int (nI c9_1.pt), .ref am.po, .ref am.su, .ref am.sq, .ref am.ch, .ref am.vt, .ref am.sh])), (am.rw, .inl (cI, 32, .inl c9_1.wf)), (am.ry, .inl (cI, 256, .inl c9_1.yf)), (am.ti, .inl (cI, 8, .inl c9_1.tf)), (am.po, .inl (cI, 4000, .inl c9_1.pf)), (am.su, .inl (cZ, 1000, .inl c9_1.sf)), (am.sq, .inl (cJ, 256, .inr (.inl c9_1.qf))), (am.ch, .inl (cI, 8, .inl (nf c9_1.ck))), (am.vt, .inl (cI, 4, .inl c9_1.vf)), (am.sh, .inl (cI, 4, .inl (nf c9_1.sk)))] := hD
      have hJ1 := f_2
      have hS1 := f_3
      have hk1 : c9_1.kn = 1 := f_4
      have hz2 := hJ1.z2
      have hz4 := hJ1.z4
      have hr8 := hJ1.r8
      have hkn := hJ1.kn
      have hrk := hJ1.rk
      have hyn := hJ1.yn
      have hsp := hJ1.sp
      have hlg := hJ1.lg
      have hfo := hJ1.fo
      have hpt := hJ1.pt
      have hck := hJ1.ck
      have hsk := hJ1.sk
      have hro := hJ1.ro
      refine lv_if_ne (tgt := 10) hx hb d_M_bounds_5 (by decide) (fun _ => ?_) (fun h99 => absurd h99 (by decide))
      refine lv_aload_n hx hb d_M_bounds_10 rfl (lv_at hl 0 rfl) ?_
      refine lv_iload_n hx hb d_M_bounds_11 rfl (lv_at hl 1 rfl) ?_
      refine lv_if_lt (tgt := 23) hx hb d_M_bounds_12 (by decide) (fun h_7 => ?_) (fun h_7 => ?_)
      · refine lv_iconst (v := (2 : Int32)) hx hb d_M_bounds_23 (by decide) ?_
        refine lv_goto (tgt := 28) hx hb d_M_bounds_24 (by decide) ?_
        refine va_put (D := D) (ci := 7) (v := .int (2 : Int32)) (ty := .int) (C := cn_M) (T := ft_M) (N := 19) hx hb hf_M (fun _ h => h) fy_M fk_M fn_M hown hK hP hD hS 0 rfl rfl 0 (by decide) (gw.at G hx0 mw_713 rfl _) (fun _ h9 => h9) rfl (by decide +kernel) rfl rfl (Nat.le_of_ble_eq_true rfl) d_M_bounds_28 (fun H locs hP hD hS => ?_)
        have hP : va_P D kl [(am.m0, .inr (7, [.int (2 : Int32), .int (nI c9_1.zs), .int (nI c9_1.rn), .ref am.rw, .int (nI c9_1.kn), .int (nI c9_1.rk), .int (nI c9_1.yn), .ref am.ry, .int (nI c9_1.sp), .int (nI c9_1.lg), .ref am.ti, .int (nI c9_1.fo), .int (nI c9_1.pt), .ref am.po, .ref am.su, .ref am.sq, .ref am.ch, .ref am.vt, .ref am.sh])), (am.rw, .inl (cI, 32, .inl c9_1.wf)), (am.ry, .inl (cI, 256, .inl c9_1.yf)), (am.ti, .inl (cI, 8, .inl c9_1.tf)), (am.po, .inl (cI, 4000, .inl c9_1.pf)), (am.su, .inl (cZ, 1000, .inl c9_1.sf)), (am.sq, .inl (cJ, 256, .inr (.inl c9_1.qf))), (am.ch, .inl (cI, 8, .inl (nf c9_1.ck))), (am.vt, .inl (cI, 4, .inl c9_1.vf)), (am.sh, .inl (cI, 4, .inl (nf c9_1.sk)))] H := hP
        have hD : va_D A [(am.m0, .inr (7, [.int (2 : Int32), .int (nI c9_1.zs), .int (nI c9_1.rn), .ref am.rw, .int (nI c9_1.kn), .int (nI c9_1.rk), .int (nI c9_1.yn), .ref am.ry, .int (nI c9_1.sp), .int (nI c9_1.lg), .ref am.ti, .int (nI c9_1.fo), .int (nI c9_1.pt), .ref am.po, .ref am.su, .ref am.sq, .ref am.ch, .ref am.vt, .ref am.sh])), (am.rw, .inl (cI, 32, .inl c9_1.wf)), (am.ry, .inl (cI, 256, .inl c9_1.yf)), (am.ti, .inl (cI, 8, .inl c9_1.tf)), (am.po, .inl (cI, 4000, .inl c9_1.pf)), (am.su, .inl (cZ, 1000, .inl c9_1.sf)), (am.sq, .inl (cJ, 256, .inr (.inl c9_1.qf))), (am.ch, .inl (cI, 8, .inl (nf c9_1.ck))), (am.vt, .inl (cI, 4, .inl c9_1.vf)), (am.sh, .inl (cI, 4, .inl (nf c9_1.sk)))] := hD
        refine lv_aload_n hx hb d_M_bounds_31 rfl (lv_at hl 0 rfl) ?_
        refine va_get (D := D) (ci := 7) (v := .int (2 : Int32)) (C := cn_M) (T := ft_M) (N := 19) hx hb hf_M (fun _ h => h) hown hK hP 0 rfl rfl 0 (by decide) (gw.at G hx0 mw_713 rfl _) (fun _ h9 => h9) rfl d_M_bounds_32 ?_
        refine lv_if_gt (tgt := 57) hx hb d_M_bounds_35 (by decide) (fun _ => ?_) (fun h99 => absurd h99 (by decide))
        refine lv_iconst (v := (0 : Int32)) hx hb d_M_bounds_57 (by decide) ?_
        rw [← hQe]
        exact tx_mono (fun _ h => tx_Z.of h) (W.zret (v := (0 : Int32)) hx hb hr (by decide) (fun t ht hW => ⟨⟨[(am.m0, .inr (7, [.int (2 : Int32), .int (nI c9_1.zs), .int (nI c9_1.rn), .ref am.rw, .int (nI c9_1.kn), .int (nI c9_1.rk), .int (nI c9_1.yn), .ref am.ry, .int (nI c9_1.sp), .int (nI c9_1.lg), .ref am.ti, .int (nI c9_1.fo), .int (nI c9_1.pt), .ref am.po, .ref am.su, .ref am.sq, .ref am.ch, .ref am.vt, .ref am.sh])), (am.rw, .inl (cI, 32, .inl c9_1.wf)), (am.ry, .inl (cI, 256, .inl c9_1.yf)), (am.ti, .inl (cI, 8, .inl c9_1.tf)), (am.po, .inl (cI, 4000, .inl c9_1.pf)), (am.su, .inl (cZ, 1000, .inl c9_1.sf)), (am.sq, .inl (cJ, 256, .inr (.inl c9_1.qf))), (am.ch, .inl (cI, 8, .inl (nf c9_1.ck))), (am.vt, .inl (cI, 4, .inl c9_1.vf)), (am.sh, .inl (cI, 4, .inl (nf c9_1.sk)))], Or.inr (Or.inl (⟨(MCmk (2 : Int32) c9_1.zs c9_1.rn c9_1.kn c9_1.rk c9_1.yn c9_1.sp c9_1.lg c9_1.fo c9_1.pt c9_1.wf c9_1.yf c9_1.tf c9_1.pf c9_1.sf c9_1.qf c9_1.ck c9_1.vf c9_1.sk), rfl, hJ1, hS1, hk1, f_5, rfl, fun z9 => z9.1 h_7, rfl⟩)), by rw [ht]; exact hP.sub [0, 1, 2, 3, 4, 5, 6, 7, 8, 9] rfl, hD.sub [0, 1, 2, 3, 4, 5, 6, 7, 8, 9] (by decide) rfl⟩, hS.F ht⟩) hS.2.2 d_M_bounds_58)
      · refine lv_iload_n hx hb d_M_bounds_15 rfl (lv_at hl 1 rfl) ?_
        refine lv_aload_n hx hb d_M_bounds_16 rfl (lv_at hl 0 rfl) ?_
        refine va_get (D := D) (ci := 7) (v := .int (nI c9_1.rn)) (C := cn_M) (T := ft_M) (N := 19) hx hb hf_M (fun _ h => h) hown hK hP 0 rfl rfl 2 (by decide) (gw.at G hx0 mw_715 rfl _) (fun _ h9 => h9) rfl d_M_bounds_17 ?_
        refine lv_icmp_lt (tgt := 27) hx hb d_M_bounds_20 (by decide) (fun h_8 => ?_) (fun h_8 => ?_)
        · refine lv_iconst (v := (0 : Int32)) hx hb d_M_bounds_27 (by decide) ?_
          refine va_put (D := D) (ci := 7) (v := .int (0 : Int32)) (ty := .int) (C := cn_M) (T := ft_M) (N := 19) hx hb hf_M (fun _ h => h) fy_M fk_M fn_M hown hK hP hD hS 0 rfl rfl 0 (by decide) (gw.at G hx0 mw_713 rfl _) (fun _ h9 => h9) rfl (by decide +kernel) rfl rfl (Nat.le_of_ble_eq_true rfl) d_M_bounds_28 (fun H locs hP hD hS => ?_)
          have hP : va_P D kl [(am.m0, .inr (7, [.int (0 : Int32), .int (nI c9_1.zs), .int (nI c9_1.rn), .ref am.rw, .int (nI c9_1.kn), .int (nI c9_1.rk), .int (nI c9_1.yn), .ref am.ry, .int (nI c9_1.sp), .int (nI c9_1.lg), .ref am.ti, .int (nI c9_1.fo), .int (nI c9_1.pt), .ref am.po, .ref am.su, .ref am.sq, .ref am.ch, .ref am.vt, .ref am.sh])), (am.rw, .inl (cI, 32, .inl c9_1.wf)), (am.ry, .inl (cI, 256, .inl c9_1.yf)), (am.ti, .inl (cI, 8, .inl c9_1.tf)), (am.po, .inl (cI, 4000, .inl c9_1.pf)), (am.su, .inl (cZ, 1000, .inl c9_1.sf)), (am.sq, .inl (cJ, 256, .inr (.inl c9_1.qf))), (am.ch, .inl (cI, 8, .inl (nf c9_1.ck))), (am.vt, .inl (cI, 4, .inl c9_1.vf)), (am.sh, .inl (cI, 4, .inl (nf c9_1.sk)))] H := hP
          have hD : va_D A [(am.m0, .inr (7, [.int (0 : Int32), .int (nI c9_1.zs), .int (nI c9_1.rn), .ref am.rw, .int (nI c9_1.kn), .int (nI c9_1.rk), .int (nI c9_1.yn), .ref am.ry, .int (nI c9_1.sp), .int (nI c9_1.lg), .ref am.ti, .int (nI c9_1.fo), .int (nI c9_1.pt), .ref am.po, .ref am.su, .ref am.sq, .ref am.ch, .ref am.vt, .ref am.sh])), (am.rw, .inl (cI, 32, .inl c9_1.wf)), (am.ry, .inl (cI, 256, .inl c9_1.yf)), (am.ti, .inl (cI, 8, .inl c9_1.tf)), (am.po, .inl (cI, 4000, .inl c9_1.pf)), (am.su, .inl (cZ, 1000, .inl c9_1.sf)), (am.sq, .inl (cJ, 256, .inr (.inl c9_1.qf))), (am.ch, .inl (cI, 8, .inl (nf c9_1.ck))), (am.vt, .inl (cI, 4, .inl c9_1.vf)), (am.sh, .inl (cI, 4, .inl (nf c9_1.sk)))] := hD
          refine lv_aload_n hx hb d_M_bounds_31 rfl (lv_at hl 0 rfl) ?_
          refine va_get (D := D) (ci := 7) (v := .int (0 : Int32)) (C := cn_M) (T := ft_M) (N := 19) hx hb hf_M (fun _ h => h) hown hK hP 0 rfl rfl 0 (by decide) (gw.at G hx0 mw_713 rfl _) (fun _ h9 => h9) rfl d_M_bounds_32 ?_
          refine lv_if_gt (tgt := 57) hx hb d_M_bounds_35 (by decide) (fun h99 => absurd h99 (by decide)) (fun _ => ?_)
          obtain ⟨k_9, hk_10, hw_11⟩ := nI_ex (n := c9_1.rn) h_7 h_8 (by omega)
          rw [hw_11] at hl
          refine lv_aload_n hx hb d_M_bounds_38 rfl (lv_at hl 0 rfl) ?_
          refine lv_aload_n hx hb d_M_bounds_39 rfl (lv_at hl 0 rfl) ?_
          refine va_get (D := D) (ci := 7) (v := .ref am.ti) (C := cn_M) (T := ft_M) (N := 19) hx hb hf_M (fun _ h => h) hown hK hP 0 rfl rfl 10 (by decide) (gw.at G hx0 mw_723 rfl _) (fun _ h9 => h9) rfl d_M_bounds_40 ?_
          refine lv_iload_n hx hb d_M_bounds_43 rfl (lv_at hl 1 rfl) ?_
          refine va_iald hx hb hK hP 3 0 rfl rfl (vp_in_nI (n := k_9) (by omega) (by omega)) d_M_bounds_44 ?_
          refine tp_i (y := c9_1.tf k_9) (congrArg c9_1.tf (nI_clamp (n := k_9) (by omega))) ?_
          refine cx_call (D := D) (cl := kl) (ws := _) (wc := [(am.m0, .inr (7, [.int (0 : Int32), .int (nI c9_1.zs), .int (nI c9_1.rn), .ref am.rw, .int (nI c9_1.kn), .int (nI c9_1.rk), .int (nI c9_1.yn), .ref am.ry, .int (nI c9_1.sp), .int (nI c9_1.lg), .ref am.ti, .int (nI c9_1.fo), .int (nI c9_1.pt), .ref am.po, .ref am.su, .ref am.sq, .ref am.ch, .ref am.vt, .ref am.sh])), (am.ry, .inl (cI, 256, .inl c9_1.yf)), (am.sq, .inl (cJ, 256, .inr (.inl c9_1.qf)))]) (wr := [(am.rw, .inl (cI, 32, .inl c9_1.wf)), (am.ti, .inl (cI, 8, .inl c9_1.tf)), (am.po, .inl (cI, 4000, .inl c9_1.pf)), (am.su, .inl (cZ, 1000, .inl c9_1.sf)), (am.ch, .inl (cI, 8, .inl (nf c9_1.ck))), (am.vt, .inl (cI, 4, .inl c9_1.vf)), (am.sh, .inl (cI, 4, .inl (nf c9_1.sk)))]) (tx_runV (C := cn_M) (b := am.m0) (As := [.int (c9_1.tf k_9)]) (rest := []) hx hb hml hown (c_M_dim E H.size am.m0 am.rw am.ry am.ti am.po am.su am.sq am.ch am.vt am.sh (0 : Int32) (nI c9_1.zs) (nI c9_1.rn) (nI c9_1.kn) (nI c9_1.rk) (nI c9_1.sp) (nI c9_1.lg) (nI c9_1.fo) (nI c9_1.pt) c9_1.yn c9_1.yf c9_1.qf (c9_1.tf k_9) (by omega)) (cx_C (b0 := b0) G hx0 mw_852 mw_9 ny_M_dimensionOf (by decide)) (gw.at G hx0 mw_849 rfl _) (gw.at G hx0 mw_851 rfl _) (gw.at G hx0 ms_M_dimensionOf rfl _) ⟨cx_blind, va_recv hK hP (q0 := 0) (ci := 7) (q := (cn_M, ft_M, 19)) rfl rfl, (cx_pre (s := s) hx0 hP hD hS hA0 [0, 2, 6] rfl rfl (by decide))⟩ rfl rfl hl.1 rfl (lv_room (Nat.le_of_ble_eq_true rfl)) d_M_bounds_45 ⟨by decide, by decide⟩) hP hD hS hA [0, 2, 6] [1, 3, 4, 5, 7, 8, 9] rfl rfl (by decide) (by decide) (fun v t w1 H locs ht hW9 hp hP hD hS => ?_) (fun x t w1 H locs ht hW9 hp hP hD hS => by obtain ⟨_, _, h9, -⟩ := hp; cases h9)
          obtain ⟨v_12, q2_13, h9, f_14, f_15, rfl⟩ := hp
          cases h9
          refine W.eq (g2 := F0 m 48 ls [.int (nI v_12)]) rfl ?_
          refine W.widen (k := 0) (n := 0) (by decide) (by decide) ?_
          have hP : va_P D kl [(am.rw, .inl (cI, 32, .inl c9_1.wf)), (am.ti, .inl (cI, 8, .inl c9_1.tf)), (am.po, .inl (cI, 4000, .inl c9_1.pf)), (am.su, .inl (cZ, 1000, .inl c9_1.sf)), (am.ch, .inl (cI, 8, .inl (nf c9_1.ck))), (am.vt, .inl (cI, 4, .inl c9_1.vf)), (am.sh, .inl (cI, 4, .inl (nf c9_1.sk))), (am.m0, .inr (7, [.int (0 : Int32), .int (nI c9_1.zs), .int (nI c9_1.rn), .ref am.rw, .int (nI c9_1.kn), .int (nI c9_1.rk), .int (nI c9_1.yn), .ref am.ry, .int (nI c9_1.sp), .int (nI c9_1.lg), .ref am.ti, .int (nI c9_1.fo), .int (nI c9_1.pt), .ref am.po, .ref am.su, .ref am.sq, .ref am.ch, .ref am.vt, .ref am.sh])), (am.ry, .inl (cI, 256, .inl c9_1.yf)), (am.sq, .inl (cJ, 256, .inr (.inl q2_13)))] H := hP
          have hD : va_D A [(am.rw, .inl (cI, 32, .inl c9_1.wf)), (am.ti, .inl (cI, 8, .inl c9_1.tf)), (am.po, .inl (cI, 4000, .inl c9_1.pf)), (am.su, .inl (cZ, 1000, .inl c9_1.sf)), (am.ch, .inl (cI, 8, .inl (nf c9_1.ck))), (am.vt, .inl (cI, 4, .inl c9_1.vf)), (am.sh, .inl (cI, 4, .inl (nf c9_1.sk))), (am.m0, .inr (7, [.int (0 : Int32), .int (nI c9_1.zs), .int (nI c9_1.rn), .ref am.rw, .int (nI c9_1.kn), .int (nI c9_1.rk), .int (nI c9_1.yn), .ref am.ry, .int (nI c9_1.sp), .int (nI c9_1.lg), .ref am.ti, .int (nI c9_1.fo), .int (nI c9_1.pt), .ref am.po, .ref am.su, .ref am.sq, .ref am.ch, .ref am.vt, .ref am.sh])), (am.ry, .inl (cI, 256, .inl c9_1.yf)), (am.sq, .inl (cJ, 256, .inr (.inl q2_13)))] := hD
          refine lv_aload_n hx hb d_M_bounds_48 rfl (lv_at hl 0 rfl) ?_
          refine va_get (D := D) (ci := 7) (v := .int (nI c9_1.sp)) (C := cn_M) (T := ft_M) (N := 19) hx hb hf_M (fun _ h => h) hown hK hP 7 rfl rfl 8 (by decide) (gw.at G hx0 mw_721 rfl _) (fun _ h9 => h9) rfl d_M_bounds_49 ?_
          refine lv_iconst (v := (1 : Int32)) hx hb d_M_bounds_52 (by decide) ?_
          refine lv_isub hx hb d_M_bounds_53 ?_
          refine lv_icmp_eq (tgt := 59) hx hb d_M_bounds_54 (by decide) (fun h_16 => ?_) (fun h_16 => ?_)
          · refine lv_iconst (v := (1 : Int32)) hx hb d_M_bounds_59 (by decide) ?_
            refine lv_istore_n (lv' := [(2, .int (1 : Int32)), (0, .ref am.m0), (1, .int (nI k_9))]) hx hb d_M_bounds_60 rfl hl (by decide) rfl (fun ls hl => ?_)
            refine lv_iconst (v := (0 : Int32)) hx hb d_M_bounds_61 (by decide) ?_
            refine lv_istore_n (lv' := [(3, .int (0 : Int32)), (2, .int (1 : Int32)), (0, .ref am.m0), (1, .int (nI k_9))]) hx hb d_M_bounds_62 rfl hl (by decide) rfl (fun ls hl => ?_)
            have lp_63 : ∀ (n9 : Nat) (r : Nat) (v9 : Int32) (ls : Array Slot) (H : Heap) (locs : List Loc), k_9 - r = n9 → (r ≤ k_9) → ((v9 = 1 ∧ ∀ q9, q9 < r → ¬ c9_1.tf q9 = c9_1.tf k_9) ∨ (v9 = 0 ∧ ¬ ∀ q9, q9 < r → ¬ c9_1.tf q9 = c9_1.tf k_9)) → lv_has ls 4 [(3, .int (nI r)), (2, .int v9), (0, .ref am.m0), (1, .int (nI k_9))] → va_P D kl [(am.rw, .inl (cI, 32, .inl c9_1.wf)), (am.ti, .inl (cI, 8, .inl c9_1.tf)), (am.po, .inl (cI, 4000, .inl c9_1.pf)), (am.su, .inl (cZ, 1000, .inl c9_1.sf)), (am.ch, .inl (cI, 8, .inl (nf c9_1.ck))), (am.vt, .inl (cI, 4, .inl c9_1.vf)), (am.sh, .inl (cI, 4, .inl (nf c9_1.sk))), (am.m0, .inr (7, [.int (0 : Int32), .int (nI c9_1.zs), .int (nI c9_1.rn), .ref am.rw, .int (nI c9_1.kn), .int (nI c9_1.rk), .int (nI c9_1.yn), .ref am.ry, .int (nI c9_1.sp), .int (nI c9_1.lg), .ref am.ti, .int (nI c9_1.fo), .int (nI c9_1.pt), .ref am.po, .ref am.su, .ref am.sq, .ref am.ch, .ref am.vt, .ref am.sh])), (am.ry, .inl (cI, 256, .inl c9_1.yf)), (am.sq, .inl (cJ, 256, .inr (.inl q2_13)))] H → va_D A [(am.rw, .inl (cI, 32, .inl c9_1.wf)), (am.ti, .inl (cI, 8, .inl c9_1.tf)), (am.po, .inl (cI, 4000, .inl c9_1.pf)), (am.su, .inl (cZ, 1000, .inl c9_1.sf)), (am.ch, .inl (cI, 8, .inl (nf c9_1.ck))), (am.vt, .inl (cI, 4, .inl c9_1.vf)), (am.sh, .inl (cI, 4, .inl (nf c9_1.sk))), (am.m0, .inr (7, [.int (0 : Int32), .int (nI c9_1.zs), .int (nI c9_1.rn), .ref am.rw, .int (nI c9_1.kn), .int (nI c9_1.rk), .int (nI c9_1.yn), .ref am.ry, .int (nI c9_1.sp), .int (nI c9_1.lg), .ref am.ti, .int (nI c9_1.fo), .int (nI c9_1.pt), .ref am.po, .ref am.su, .ref am.sq, .ref am.ch, .ref am.vt, .ref am.sh])), (am.ry, .inl (cI, 256, .inl c9_1.yf)), (am.sq, .inl (cJ, 256, .inr (.inl q2_13)))] → va_S A s.heap H locs → W p l e ({ frames := 6, cells := 0, slots := 0, locals := 153 } : Room) s m ([.ref am.m0, .int w] : List Value).toArray below meth c H locs 0 0 Q (F0 m 63 ls []) := by
              intro n9
              induction n9 using Nat.strongRecOn with
              | ind n9 ih_63 =>
                intro r v9 ls H locs hm_63 hr9 hv9 hl hP hD hS
                refine lv_iload_n hx hb d_M_bounds_63 rfl (lv_at hl 0 rfl) ?_
                refine lv_iload_n hx hb d_M_bounds_64 rfl (lv_at hl 3 rfl) ?_
                refine lv_icmp_ge (tgt := 99) hx hb d_M_bounds_65 (by decide) (fun h_17 => ?_) (fun h_17 => ?_)
                · have h_17 : k_9 ≤ r := (nI_leI (a := k_9) (b := r) (by omega) (by omega)).mp h_17
                  refine lv_iload_n hx hb d_M_bounds_99 rfl (lv_at hl 1 rfl) ?_
                  have hrk9 : r = k_9 := by omega
                  rcases hv9 with hv8 | hv8
                  · refine tp_i (y := (1 : Int32)) hv8.1 ?_
                    rw [← hQe]
                    exact tx_mono (fun _ h => tx_Z.of h) (W.zret (v := (1 : Int32)) hx hb hr (by decide) (fun t ht hW => ⟨⟨[(am.m0, .inr (7, [.int (0 : Int32), .int (nI c9_1.zs), .int (nI c9_1.rn), .ref am.rw, .int (nI c9_1.kn), .int (nI c9_1.rk), .int (nI c9_1.yn), .ref am.ry, .int (nI c9_1.sp), .int (nI c9_1.lg), .ref am.ti, .int (nI c9_1.fo), .int (nI c9_1.pt), .ref am.po, .ref am.su, .ref am.sq, .ref am.ch, .ref am.vt, .ref am.sh])), (am.rw, .inl (cI, 32, .inl c9_1.wf)), (am.ry, .inl (cI, 256, .inl c9_1.yf)), (am.ti, .inl (cI, 8, .inl c9_1.tf)), (am.po, .inl (cI, 4000, .inl c9_1.pf)), (am.su, .inl (cZ, 1000, .inl c9_1.sf)), (am.sq, .inl (cJ, 256, .inr (.inl q2_13))), (am.ch, .inl (cI, 8, .inl (nf c9_1.ck))), (am.vt, .inl (cI, 4, .inl c9_1.vf)), (am.sh, .inl (cI, 4, .inl (nf c9_1.sk)))], Or.inr (Or.inr (Or.inl (⟨(MCmk (0 : Int32) c9_1.zs c9_1.rn c9_1.kn c9_1.rk c9_1.yn c9_1.sp c9_1.lg c9_1.fo c9_1.pt c9_1.wf c9_1.yf c9_1.tf c9_1.pf c9_1.sf q2_13 c9_1.ck c9_1.vf c9_1.sk), k_9, rfl, hJ1, hS1, hk1, f_5, rfl, hk_10, hw_11, ⟨⟨_, _, _, f_14, h_16⟩, fun q9 hq9 => hv8.2 q9 (by omega)⟩, rfl⟩))), by rw [ht]; exact hP.sub [7, 0, 8, 1, 2, 3, 9, 4, 5, 6] rfl, hD.sub [7, 0, 8, 1, 2, 3, 9, 4, 5, 6] (by decide) rfl⟩, hS.F ht⟩) hS.2.2 d_M_bounds_100)
                  · refine tp_i (y := (0 : Int32)) hv8.1 ?_
                    rw [← hQe]
                    exact tx_mono (fun _ h => tx_Z.of h) (W.zret (v := (0 : Int32)) hx hb hr (by decide) (fun t ht hW => ⟨⟨[(am.m0, .inr (7, [.int (0 : Int32), .int (nI c9_1.zs), .int (nI c9_1.rn), .ref am.rw, .int (nI c9_1.kn), .int (nI c9_1.rk), .int (nI c9_1.yn), .ref am.ry, .int (nI c9_1.sp), .int (nI c9_1.lg), .ref am.ti, .int (nI c9_1.fo), .int (nI c9_1.pt), .ref am.po, .ref am.su, .ref am.sq, .ref am.ch, .ref am.vt, .ref am.sh])), (am.rw, .inl (cI, 32, .inl c9_1.wf)), (am.ry, .inl (cI, 256, .inl c9_1.yf)), (am.ti, .inl (cI, 8, .inl c9_1.tf)), (am.po, .inl (cI, 4000, .inl c9_1.pf)), (am.su, .inl (cZ, 1000, .inl c9_1.sf)), (am.sq, .inl (cJ, 256, .inr (.inl q2_13))), (am.ch, .inl (cI, 8, .inl (nf c9_1.ck))), (am.vt, .inl (cI, 4, .inl c9_1.vf)), (am.sh, .inl (cI, 4, .inl (nf c9_1.sk)))], Or.inr (Or.inr (Or.inr (⟨(MCmk (0 : Int32) c9_1.zs c9_1.rn c9_1.kn c9_1.rk c9_1.yn c9_1.sp c9_1.lg c9_1.fo c9_1.pt c9_1.wf c9_1.yf c9_1.tf c9_1.pf c9_1.sf q2_13 c9_1.ck c9_1.vf c9_1.sk), k_9, c9_1.qf, v_12, rfl, hJ1, hS1, hk1, f_5, rfl, hk_10, hw_11, f_14, (fun z9 => hv8.2 (fun q9 hq9 => z9.2 q9 (by omega))), rfl⟩))), by rw [ht]; exact hP.sub [7, 0, 8, 1, 2, 3, 9, 4, 5, 6] rfl, hD.sub [7, 0, 8, 1, 2, 3, 9, 4, 5, 6] (by decide) rfl⟩, hS.F ht⟩) hS.2.2 d_M_bounds_100)
                · have h_17 : ¬ (k_9 ≤ r) := fun z99 => h_17 ((nI_leI (a := k_9) (b := r) (by omega) (by omega)).mpr z99)
                  refine lv_iload_n hx hb d_M_bounds_68 rfl (lv_at hl 1 rfl) ?_
                  refine lv_if_eq (tgt := 91) hx hb d_M_bounds_69 (by decide) (fun h_18 => ?_) (fun h_18 => ?_)
                  · refine lv_iconst (v := (0 : Int32)) hx hb d_M_bounds_91 (by decide) ?_
                    refine lv_istore_n (lv' := [(2, .int (0 : Int32)), (3, .int (nI r)), (0, .ref am.m0), (1, .int (nI k_9))]) hx hb d_M_bounds_92 rfl hl (by decide) rfl (fun ls hl => ?_)
                    refine lv_iinc (lv' := [(3, .int (nI (r + 1))), (2, .int (0 : Int32)), (0, .ref am.m0), (1, .int (nI k_9))]) (k := 1) (v := nI (r + 1)) hx hb d_M_bounds_93 hl rfl (nI_add r 1) (by decide) rfl (fun ls hl => ?_)
                    refine lv_goto (tgt := 63) hx hb d_M_bounds_96 (by decide) ?_
                    exact ih_63 _ (by omega) (r + 1) (0 : Int32) ls H locs rfl (by omega) (Or.inr ⟨rfl, fun z9 => (hv9.elim (fun z8 => absurd h_18 (by rw [z8.1]; decide)) (fun z8 => z8.2 (fun q9 hq9 => z9 q9 (by omega))))⟩) (lv_sub hl [0, 1, 2, 3] rfl) (hP.sub [0, 1, 2, 3, 4, 5, 6, 7, 8, 9] rfl) (hD.sub [0, 1, 2, 3, 4, 5, 6, 7, 8, 9] (by decide) rfl) hS
                  · refine lv_aload_n hx hb d_M_bounds_72 rfl (lv_at hl 2 rfl) ?_
                    refine va_get (D := D) (ci := 7) (v := .ref am.ti) (C := cn_M) (T := ft_M) (N := 19) hx hb hf_M (fun _ h => h) hown hK hP 7 rfl rfl 10 (by decide) (gw.at G hx0 mw_723 rfl _) (fun _ h9 => h9) rfl d_M_bounds_73 ?_
                    refine lv_iload_n hx hb d_M_bounds_76 rfl (lv_at hl 0 rfl) ?_
                    refine va_iald hx hb hK hP 1 0 rfl rfl (vp_in_nI (n := r) (by omega) (by omega)) d_M_bounds_77 ?_
                    refine tp_i (y := c9_1.tf r) (congrArg c9_1.tf (nI_clamp (n := r) (by omega))) ?_
                    refine lv_aload_n hx hb d_M_bounds_78 rfl (lv_at hl 2 rfl) ?_
                    refine va_get (D := D) (ci := 7) (v := .ref am.ti) (C := cn_M) (T := ft_M) (N := 19) hx hb hf_M (fun _ h => h) hown hK hP 7 rfl rfl 10 (by decide) (gw.at G hx0 mw_723 rfl _) (fun _ h9 => h9) rfl d_M_bounds_79 ?_
                    refine lv_iload_n hx hb d_M_bounds_82 rfl (lv_at hl 3 rfl) ?_
                    refine va_iald hx hb hK hP 1 0 rfl rfl (vp_in_nI (n := k_9) (by omega) (by omega)) d_M_bounds_83 ?_
                    refine tp_i (y := c9_1.tf k_9) (congrArg c9_1.tf (nI_clamp (n := k_9) (by omega))) ?_
                    refine lv_icmp_eq (tgt := 91) hx hb d_M_bounds_84 (by decide) (fun h_19 => ?_) (fun h_19 => ?_)
                    · refine lv_iconst (v := (0 : Int32)) hx hb d_M_bounds_91 (by decide) ?_
                      refine lv_istore_n (lv' := [(2, .int (0 : Int32)), (3, .int (nI r)), (0, .ref am.m0), (1, .int (nI k_9))]) hx hb d_M_bounds_92 rfl hl (by decide) rfl (fun ls hl => ?_)
                      refine lv_iinc (lv' := [(3, .int (nI (r + 1))), (2, .int (0 : Int32)), (0, .ref am.m0), (1, .int (nI k_9))]) (k := 1) (v := nI (r + 1)) hx hb d_M_bounds_93 hl rfl (nI_add r 1) (by decide) rfl (fun ls hl => ?_)
                      refine lv_goto (tgt := 63) hx hb d_M_bounds_96 (by decide) ?_
                      exact ih_63 _ (by omega) (r + 1) (0 : Int32) ls H locs rfl (by omega) (Or.inr ⟨rfl, fun z9 => z9 r (by omega) h_19⟩) (lv_sub hl [0, 1, 2, 3] rfl) (hP.sub [0, 1, 2, 3, 4, 5, 6, 7, 8, 9] rfl) (hD.sub [0, 1, 2, 3, 4, 5, 6, 7, 8, 9] (by decide) rfl) hS
                    · refine lv_iconst (v := (1 : Int32)) hx hb d_M_bounds_87 (by decide) ?_
                      refine lv_goto (tgt := 92) hx hb d_M_bounds_88 (by decide) ?_
                      refine lv_istore_n (lv' := [(2, .int (1 : Int32)), (3, .int (nI r)), (0, .ref am.m0), (1, .int (nI k_9))]) hx hb d_M_bounds_92 rfl hl (by decide) rfl (fun ls hl => ?_)
                      refine lv_iinc (lv' := [(3, .int (nI (r + 1))), (2, .int (1 : Int32)), (0, .ref am.m0), (1, .int (nI k_9))]) (k := 1) (v := nI (r + 1)) hx hb d_M_bounds_93 hl rfl (nI_add r 1) (by decide) rfl (fun ls hl => ?_)
                      refine lv_goto (tgt := 63) hx hb d_M_bounds_96 (by decide) ?_
                      exact ih_63 _ (by omega) (r + 1) (1 : Int32) ls H locs rfl (by omega) (Or.inl ⟨rfl, fun q9 hq9 => (Nat.lt_succ_iff_lt_or_eq.mp hq9).elim ((hv9.elim id (fun z9 => absurd z9.1 h_18)).2 q9) (fun e9 => by rw [e9]; exact h_19)⟩) (lv_sub hl [0, 1, 2, 3] rfl) (hP.sub [0, 1, 2, 3, 4, 5, 6, 7, 8, 9] rfl) (hD.sub [0, 1, 2, 3, 4, 5, 6, 7, 8, 9] (by decide) rfl) hS
            exact lp_63 _ 0 1 ls H locs rfl (Nat.zero_le _) (Or.inl ⟨rfl, fun q9 hq9 => absurd hq9 (Nat.not_lt_zero q9)⟩) (lv_sub hl [0, 1, 2, 3] rfl) (hP.sub [0, 1, 2, 3, 4, 5, 6, 7, 8, 9] rfl) (hD.sub [0, 1, 2, 3, 4, 5, 6, 7, 8, 9] (by decide) rfl) hS
          · refine lv_iconst (v := (0 : Int32)) hx hb d_M_bounds_57 (by decide) ?_
            rw [← hQe]
            exact tx_mono (fun _ h => tx_Z.of h) (W.zret (v := (0 : Int32)) hx hb hr (by decide) (fun t ht hW => ⟨⟨[(am.m0, .inr (7, [.int (0 : Int32), .int (nI c9_1.zs), .int (nI c9_1.rn), .ref am.rw, .int (nI c9_1.kn), .int (nI c9_1.rk), .int (nI c9_1.yn), .ref am.ry, .int (nI c9_1.sp), .int (nI c9_1.lg), .ref am.ti, .int (nI c9_1.fo), .int (nI c9_1.pt), .ref am.po, .ref am.su, .ref am.sq, .ref am.ch, .ref am.vt, .ref am.sh])), (am.rw, .inl (cI, 32, .inl c9_1.wf)), (am.ry, .inl (cI, 256, .inl c9_1.yf)), (am.ti, .inl (cI, 8, .inl c9_1.tf)), (am.po, .inl (cI, 4000, .inl c9_1.pf)), (am.su, .inl (cZ, 1000, .inl c9_1.sf)), (am.sq, .inl (cJ, 256, .inr (.inl q2_13))), (am.ch, .inl (cI, 8, .inl (nf c9_1.ck))), (am.vt, .inl (cI, 4, .inl c9_1.vf)), (am.sh, .inl (cI, 4, .inl (nf c9_1.sk)))], Or.inr (Or.inr (Or.inr (⟨(MCmk (0 : Int32) c9_1.zs c9_1.rn c9_1.kn c9_1.rk c9_1.yn c9_1.sp c9_1.lg c9_1.fo c9_1.pt c9_1.wf c9_1.yf c9_1.tf c9_1.pf c9_1.sf q2_13 c9_1.ck c9_1.vf c9_1.sk), k_9, c9_1.qf, v_12, rfl, hJ1, hS1, hk1, f_5, rfl, hk_10, hw_11, f_14, (fun z9 => h_16 z9.1), rfl⟩))), by rw [ht]; exact hP.sub [7, 0, 8, 1, 2, 3, 9, 4, 5, 6] rfl, hD.sub [7, 0, 8, 1, 2, 3, 9, 4, 5, 6] (by decide) rfl⟩, hS.F ht⟩) hS.2.2 d_M_bounds_58)
        · refine lv_iconst (v := (2 : Int32)) hx hb d_M_bounds_23 (by decide) ?_
          refine lv_goto (tgt := 28) hx hb d_M_bounds_24 (by decide) ?_
          refine va_put (D := D) (ci := 7) (v := .int (2 : Int32)) (ty := .int) (C := cn_M) (T := ft_M) (N := 19) hx hb hf_M (fun _ h => h) fy_M fk_M fn_M hown hK hP hD hS 0 rfl rfl 0 (by decide) (gw.at G hx0 mw_713 rfl _) (fun _ h9 => h9) rfl (by decide +kernel) rfl rfl (Nat.le_of_ble_eq_true rfl) d_M_bounds_28 (fun H locs hP hD hS => ?_)
          have hP : va_P D kl [(am.m0, .inr (7, [.int (2 : Int32), .int (nI c9_1.zs), .int (nI c9_1.rn), .ref am.rw, .int (nI c9_1.kn), .int (nI c9_1.rk), .int (nI c9_1.yn), .ref am.ry, .int (nI c9_1.sp), .int (nI c9_1.lg), .ref am.ti, .int (nI c9_1.fo), .int (nI c9_1.pt), .ref am.po, .ref am.su, .ref am.sq, .ref am.ch, .ref am.vt, .ref am.sh])), (am.rw, .inl (cI, 32, .inl c9_1.wf)), (am.ry, .inl (cI, 256, .inl c9_1.yf)), (am.ti, .inl (cI, 8, .inl c9_1.tf)), (am.po, .inl (cI, 4000, .inl c9_1.pf)), (am.su, .inl (cZ, 1000, .inl c9_1.sf)), (am.sq, .inl (cJ, 256, .inr (.inl c9_1.qf))), (am.ch, .inl (cI, 8, .inl (nf c9_1.ck))), (am.vt, .inl (cI, 4, .inl c9_1.vf)), (am.sh, .inl (cI, 4, .inl (nf c9_1.sk)))] H := hP
          have hD : va_D A [(am.m0, .inr (7, [.int (2 : Int32), .int (nI c9_1.zs), .int (nI c9_1.rn), .ref am.rw, .int (nI c9_1.kn), .int (nI c9_1.rk), .int (nI c9_1.yn), .ref am.ry, .int (nI c9_1.sp), .int (nI c9_1.lg), .ref am.ti, .int (nI c9_1.fo), .int (nI c9_1.pt), .ref am.po, .ref am.su, .ref am.sq, .ref am.ch, .ref am.vt, .ref am.sh])), (am.rw, .inl (cI, 32, .inl c9_1.wf)), (am.ry, .inl (cI, 256, .inl c9_1.yf)), (am.ti, .inl (cI, 8, .inl c9_1.tf)), (am.po, .inl (cI, 4000, .inl c9_1.pf)), (am.su, .inl (cZ, 1000, .inl c9_1.sf)), (am.sq, .inl (cJ, 256, .inr (.inl c9_1.qf))), (am.ch, .inl (cI, 8, .inl (nf c9_1.ck))), (am.vt, .inl (cI, 4, .inl c9_1.vf)), (am.sh, .inl (cI, 4, .inl (nf c9_1.sk)))] := hD
          refine lv_aload_n hx hb d_M_bounds_31 rfl (lv_at hl 0 rfl) ?_
          refine va_get (D := D) (ci := 7) (v := .int (2 : Int32)) (C := cn_M) (T := ft_M) (N := 19) hx hb hf_M (fun _ h => h) hown hK hP 0 rfl rfl 0 (by decide) (gw.at G hx0 mw_713 rfl _) (fun _ h9 => h9) rfl d_M_bounds_32 ?_
          refine lv_if_gt (tgt := 57) hx hb d_M_bounds_35 (by decide) (fun _ => ?_) (fun h99 => absurd h99 (by decide))
          refine lv_iconst (v := (0 : Int32)) hx hb d_M_bounds_57 (by decide) ?_
          rw [← hQe]
          exact tx_mono (fun _ h => tx_Z.of h) (W.zret (v := (0 : Int32)) hx hb hr (by decide) (fun t ht hW => ⟨⟨[(am.m0, .inr (7, [.int (2 : Int32), .int (nI c9_1.zs), .int (nI c9_1.rn), .ref am.rw, .int (nI c9_1.kn), .int (nI c9_1.rk), .int (nI c9_1.yn), .ref am.ry, .int (nI c9_1.sp), .int (nI c9_1.lg), .ref am.ti, .int (nI c9_1.fo), .int (nI c9_1.pt), .ref am.po, .ref am.su, .ref am.sq, .ref am.ch, .ref am.vt, .ref am.sh])), (am.rw, .inl (cI, 32, .inl c9_1.wf)), (am.ry, .inl (cI, 256, .inl c9_1.yf)), (am.ti, .inl (cI, 8, .inl c9_1.tf)), (am.po, .inl (cI, 4000, .inl c9_1.pf)), (am.su, .inl (cZ, 1000, .inl c9_1.sf)), (am.sq, .inl (cJ, 256, .inr (.inl c9_1.qf))), (am.ch, .inl (cI, 8, .inl (nf c9_1.ck))), (am.vt, .inl (cI, 4, .inl c9_1.vf)), (am.sh, .inl (cI, 4, .inl (nf c9_1.sk)))], Or.inr (Or.inl (⟨(MCmk (2 : Int32) c9_1.zs c9_1.rn c9_1.kn c9_1.rk c9_1.yn c9_1.sp c9_1.lg c9_1.fo c9_1.pt c9_1.wf c9_1.yf c9_1.tf c9_1.pf c9_1.sf c9_1.qf c9_1.ck c9_1.vf c9_1.sk), rfl, hJ1, hS1, hk1, f_5, rfl, fun z9 => h_8 z9.2, rfl⟩)), by rw [ht]; exact hP.sub [0, 1, 2, 3, 4, 5, 6, 7, 8, 9] rfl, hD.sub [0, 1, 2, 3, 4, 5, 6, 7, 8, 9] (by decide) rfl⟩, hS.F ht⟩) hS.2.2 d_M_bounds_58)
    · obtain ⟨c9_20, h9, f_21, f_22, f_23, f_24, f_25, rfl⟩ := hp
      cases h9
      refine W.eq (g2 := F0 m 5 ls [.int (0 : Int32)]) rfl ?_
      refine W.widen (k := 0) (n := 0) (by decide) (by decide) ?_
      have hP : va_P D kl [(am.m0, .inr (7, [.int c9_20.th, .int (nI c9_20.zs), .int (nI c9_20.rn), .ref am.rw, .int (nI c9_20.kn), .int (nI c9_20.rk), .int (nI c9_20.yn), .ref am.ry, .int (nI c9_20.sp), .int (nI c9_20.lg), .ref am.ti, .int (nI c9_20.fo), .int (nI c9_20.pt), .ref am.po, .ref am.su, .ref am.sq, .ref am.ch, .ref am.vt, .ref am.sh])), (am.rw, .inl (cI, 32, .inl c9_20.wf)), (am.ry, .inl (cI, 256, .inl c9_20.yf)), (am.ti, .inl (cI, 8, .inl c9_20.tf)), (am.po, .inl (cI, 4000, .inl c9_20.pf)), (am.su, .inl (cZ, 1000, .inl c9_20.sf)), (am.sq, .inl (cJ, 256, .inr (.inl c9_20.qf))), (am.ch, .inl (cI, 8, .inl (nf c9_20.ck))), (am.vt, .inl (cI, 4, .inl c9_20.vf)), (am.sh, .inl (cI, 4, .inl (nf c9_20.sk)))] H := hP
      have hD : va_D A [(am.m0, .inr (7, [.int c9_20.th, .int (nI c9_20.zs), .int (nI c9_20.rn), .ref am.rw, .int (nI c9_20.kn), .int (nI c9_20.rk), .int (nI c9_20.yn), .ref am.ry, .int (nI c9_20.sp), .int (nI c9_20.lg), .ref am.ti, .int (nI c9_20.fo), .int (nI c9_20.pt), .ref am.po, .ref am.su, .ref am.sq, .ref am.ch, .ref am.vt, .ref am.sh])), (am.rw, .inl (cI, 32, .inl c9_20.wf)), (am.ry, .inl (cI, 256, .inl c9_20.yf)), (am.ti, .inl (cI, 8, .inl c9_20.tf)), (am.po, .inl (cI, 4000, .inl c9_20.pf)), (am.su, .inl (cZ, 1000, .inl c9_20.sf)), (am.sq, .inl (cJ, 256, .inr (.inl c9_20.qf))), (am.ch, .inl (cI, 8, .inl (nf c9_20.ck))), (am.vt, .inl (cI, 4, .inl c9_20.vf)), (am.sh, .inl (cI, 4, .inl (nf c9_20.sk)))] := hD
      have hJ1 := f_21
      have hS1 := f_22
      have hk1 : c9_20.kn = 1 := f_23
      have hz2 := hJ1.z2
      have hz4 := hJ1.z4
      have hr8 := hJ1.r8
      have hkn := hJ1.kn
      have hrk := hJ1.rk
      have hyn := hJ1.yn
      have hsp := hJ1.sp
      have hlg := hJ1.lg
      have hfo := hJ1.fo
      have hpt := hJ1.pt
      have hck := hJ1.ck
      have hsk := hJ1.sk
      have hro := hJ1.ro
      refine lv_if_ne (tgt := 10) hx hb d_M_bounds_5 (by decide) (fun h99 => absurd h99 (by decide)) (fun _ => ?_)
      refine lv_iconst (v := (0 : Int32)) hx hb d_M_bounds_8 (by decide) ?_
      rw [← hQe]
      exact tx_mono (fun _ h => tx_Z.of h) (W.zret (v := (0 : Int32)) hx hb hr (by decide) (fun t ht hW => ⟨⟨[(am.m0, .inr (7, [.int c9_20.th, .int (nI c9_20.zs), .int (nI c9_20.rn), .ref am.rw, .int (nI c9_20.kn), .int (nI c9_20.rk), .int (nI c9_20.yn), .ref am.ry, .int (nI c9_20.sp), .int (nI c9_20.lg), .ref am.ti, .int (nI c9_20.fo), .int (nI c9_20.pt), .ref am.po, .ref am.su, .ref am.sq, .ref am.ch, .ref am.vt, .ref am.sh])), (am.rw, .inl (cI, 32, .inl c9_20.wf)), (am.ry, .inl (cI, 256, .inl c9_20.yf)), (am.ti, .inl (cI, 8, .inl c9_20.tf)), (am.po, .inl (cI, 4000, .inl c9_20.pf)), (am.su, .inl (cZ, 1000, .inl c9_20.sf)), (am.sq, .inl (cJ, 256, .inr (.inl c9_20.qf))), (am.ch, .inl (cI, 8, .inl (nf c9_20.ck))), (am.vt, .inl (cI, 4, .inl c9_20.vf)), (am.sh, .inl (cI, 4, .inl (nf c9_20.sk)))], Or.inl (⟨c9_20, rfl, hJ1, hS1, hk1, f_24, f_25, rfl⟩), by rw [ht]; exact hP.sub [0, 1, 2, 3, 4, 5, 6, 7, 8, 9] rfl, hD.sub [0, 1, 2, 3, 4, 5, 6, 7, 8, 9] (by decide) rfl⟩, hS.F ht⟩) hS.2.2 d_M_bounds_9)
  · rcases hp with hp | hp
    · obtain ⟨_, h9, -⟩ := hp; cases h9
    · obtain ⟨_, h9, -⟩ := hp; cases h9

