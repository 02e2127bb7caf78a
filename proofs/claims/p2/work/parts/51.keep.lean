/-! ===== own rows, laid by wip/tools/g37.py: the reference, lists of points in order, determinants ===== -/
theorem m1_lt {n : Nat} (h : n < 2 ^ 31) : (-1 : Int32) < nI n := by
  rw [Int32.lt_iff_toInt_lt, nI_toInt h]
  show (-1 : Int) < _
  omega
/-- where the vector belongs, from place k on, of m places -/
def kpl (f g : Nat → Int32) : Nat → Nat → Nat
  | 0, k => k
  | m + 1, k => if cmp4 f (4 * k) g < 0 then kpl f g m (k + 1) else k
theorem kpl_s {f g : Nat → Int32} {n k : Nat} (hk : k < n) (h : cmp4 f (4 * k) g < 0) : kpl f g (n - k) k = kpl f g (n - (k + 1)) (k + 1) := by
  rw [show n - k = (n - (k + 1)) + 1 by omega]
  show (if cmp4 f (4 * k) g < 0 then _ else k) = _
  rw [if_pos h]
theorem kpl_y {f g : Nat → Int32} {n k : Nat} (hk : k < n) (h : ¬ cmp4 f (4 * k) g < 0) : kpl f g (n - k) k = k := by
  rw [show n - k = (n - (k + 1)) + 1 by omega]
  show (if cmp4 f (4 * k) g < 0 then _ else k) = _
  rw [if_neg h]
theorem kpl_n {f g : Nat → Int32} {n k : Nat} (hk : n ≤ k) : kpl f g (n - k) k = k := by
  rw [show n - k = 0 by omega]; rfl
/-- the cells from 4 * k on, moved up by 4 -/
def shd (k : Nat) : Nat → (Nat → Int32) → (Nat → Int32)
  | 0, f => f
  | u + 1, f => if u < 4 * k then f else shd k u (upd f (u + 4) (f u))
theorem shd_s {k u : Nat} {f : Nat → Int32} (hu : 0 < u) (h : ¬ u - 1 < 4 * k) : shd k u f = shd k (u - 1) (upd f (u - 1 + 4) (f (u - 1))) := by
  obtain ⟨v, rfl⟩ : ∃ v, u = v + 1 := ⟨u - 1, by omega⟩
  show (if v < 4 * k then f else _) = _
  rw [if_neg (show ¬ v < 4 * k from h)]; rfl
theorem shd_e {k u : Nat} {f : Nat → Int32} (h : u = 0 ∨ u - 1 < 4 * k) : shd k u f = f := by
  cases u with
  | zero => rfl
  | succ v =>
    show (if v < 4 * k then f else _) = _
    rw [if_pos (by omega)]
def kpF (n k : Nat) (f g : Nat → Int32) : Nat → Int32 := upd (upd (upd (upd (shd k (4 * n) f) (4 * k + 0) (g 0)) (4 * k + 1) (g 1)) (4 * k + 2) (g 2)) (4 * k + 3) (g 3)
set_option maxHeartbeats 4000000 in
set_option maxRecDepth 100000 in
theorem c_M_keepRay_y {l : Launch} {s0 : State} {b0 : Addr} {D : va_G} {cI cJ cZ : ClassId} {tC tS : Nat} (E : gE l s0 b0 D cI cJ cZ tC tS) (sz : Nat) (m0 : Nat) (rw : Nat) (ry : Nat) (ti : Nat) (po : Nat) (su : Nat) (sq : Nat) (ch : Nat) (vt : Nat) (sh : Nat) (th : Int32) (zz : Int32) (rn : Int32) (kn : Int32) (rk : Int32) (sp : Int32) (lg : Int32) (fo : Int32) (pt : Int32) (n : Nat) (vf : Nat → Int32) (yf : Nat → Int32) (hn : n ≤ 64) (h : (kpl yf vf n 0 < n ∧ cmp4 yf (4 * (kpl yf vf n 0)) vf = 0)) : cx_M l s0 D kl y_M_keepRay b_M_keepRay 3 none ({ frames := 1, cells := 0, slots := 0, locals := 23 } : Room) 0 0 [.ref m0] [(m0, .inr (7, [.int th, .int zz, .int rn, .ref rw, .int kn, .int rk, .int (nI n), .ref ry, .int sp, .int lg, .ref ti, .int fo, .int pt, .ref po, .ref su, .ref sq, .ref ch, .ref vt, .ref sh])), (vt, .inl (cI, 4, .inl vf)), (ry, .inl (cI, 256, .inl yf))] sz (fun o9 _ w9 => o9 = .returned none ∧ w9 = [(m0, .inr (7, [.int th, .int zz, .int rn, .ref rw, .int kn, .int rk, .int (nI n), .ref ry, .int sp, .int lg, .ref ti, .int fo, .int pt, .ref po, .ref su, .ref sq, .ref ch, .ref vt, .ref sh])), (vt, .inl (cI, 4, .inl vf)), (ry, .inl (cI, 256, .inl yf))]) := by
  refine tx_ofW (cc := b_M_keepRay) (maxL := 3) (ret := none) (by decide) rfl ?_
  intro p e s m args below meth c s₁ B hml hT hv
  obtain ⟨rfl, hsz, hP, hD0, hx0⟩ := hv
  have hx := B.exec
  have hb := B.bytes
  have hr := B.returns
  have G := E.2.1
  have hown : s.vm.findClass cn_M = some m.cls := findClass_of_methodNamed B.named
  have hlocks := B.notSynchronized
  have hK := va_K.moved hx0.1.alike E.2.2.1
  have hf_M : ∀ w99 ∈ u_ws cn_M ft_M 19, w99.before ([.ref m0] : List Value).toArray s = true := fun w99 h99 => gw.at G hx0 (fw_M w99 h99) (fo_M w99 h99) _
  subst hsz
  have hA0 := cx_new hD0 hx0.2.1
  have hD := hD0.self (sz := s.heap.size)
  generalize hAe : va_A [(m0, .inr (7, [.int th, .int zz, .int rn, .ref rw, .int kn, .int rk, .int (nI n), .ref ry, .int sp, .int lg, .ref ti, .int fo, .int pt, .ref po, .ref su, .ref sq, .ref ch, .ref vt, .ref sh])), (vt, .inl (cI, 4, .inl vf)), (ry, .inl (cI, 256, .inl yf))] s.heap.size = A at hD hA0 ⊢
  have hA : ∀ q : Nat, s.heap.size ≤ q → A q := fun q h => by rw [← hAe]; exact Or.inr h
  have hS : va_S A s.heap s.heap [] := va_S.rf
  have hl := lv_entry ([.ref m0]) (n := 3) (Nat.le_of_ble_eq_true rfl)
  rw [lg_entry_eq]
  generalize (lg_sl ([.ref m0]) ++ List.replicate (3 - (lg_sl ([.ref m0])).length) Slot.unset).toArray = ls at hl ⊢
  have hl : lv_has ls 3 [(0, .ref m0)] := hl
  have hP : va_P D kl [(m0, .inr (7, [.int th, .int zz, .int rn, .ref rw, .int kn, .int rk, .int (nI n), .ref ry, .int sp, .int lg, .ref ti, .int fo, .int pt, .ref po, .ref su, .ref sq, .ref ch, .ref vt, .ref sh])), (vt, .inl (cI, 4, .inl vf)), (ry, .inl (cI, 256, .inl yf))] s.heap := hP
  have hml : c.maxLocals = 3 := hml
  generalize hQe : tx_Z below (cx_Q D kl A (fun o9 _ w9 => o9 = .returned none ∧ w9 = [(m0, .inr (7, [.int th, .int zz, .int rn, .ref rw, .int kn, .int rk, .int (nI n), .ref ry, .int sp, .int lg, .ref ti, .int fo, .int pt, .ref po, .ref su, .ref sq, .ref ch, .ref vt, .ref sh])), (vt, .inl (cI, 4, .inl vf)), (ry, .inl (cI, 256, .inl yf))])) ([.ref m0] : List Value).toArray s 0 0 A = Q
  refine lv_iconst (v := (0 : Int32)) hx hb d_M_keepRay_0 (by decide) ?_
  refine lv_istore_n (lv' := [(1, .int (0 : Int32)), (0, .ref m0)]) hx hb d_M_keepRay_1 rfl hl (by decide) rfl (fun ls hl => ?_)
  have lp_2 : ∀ (n9 : Nat) (k : Nat) (ls : Array Slot) (H : Heap) (locs : List Loc), n - k = n9 → (kpl yf vf n 0 = kpl yf vf (n - k) k) → (k ≤ n) → lv_has ls 3 [(1, .int (nI k)), (0, .ref m0)] → va_P D kl [(m0, .inr (7, [.int th, .int zz, .int rn, .ref rw, .int kn, .int rk, .int (nI n), .ref ry, .int sp, .int lg, .ref ti, .int fo, .int pt, .ref po, .ref su, .ref sq, .ref ch, .ref vt, .ref sh])), (vt, .inl (cI, 4, .inl vf)), (ry, .inl (cI, 256, .inl yf))] H → va_D A [(m0, .inr (7, [.int th, .int zz, .int rn, .ref rw, .int kn, .int rk, .int (nI n), .ref ry, .int sp, .int lg, .ref ti, .int fo, .int pt, .ref po, .ref su, .ref sq, .ref ch, .ref vt, .ref sh])), (vt, .inl (cI, 4, .inl vf)), (ry, .inl (cI, 256, .inl yf))] → va_S A s.heap H locs → W p l e ({ frames := 1, cells := 0, slots := 0, locals := 23 } : Room) s m ([.ref m0] : List Value).toArray below meth c H locs 0 0 Q (F0 m 2 ls []) := by
    intro n9
    induction n9 using Nat.strongRecOn with
    | ind n9 ih_2 =>
      intro k ls H locs hm_2 hpo hk9 hl hP hD hS
      refine lv_iload_n hx hb d_M_keepRay_2 rfl (lv_at hl 0 rfl) ?_
      refine lv_aload_n hx hb d_M_keepRay_3 rfl (lv_at hl 1 rfl) ?_
      refine va_get (D := D) (ci := 7) (v := .int (nI n)) (C := cn_M) (T := ft_M) (N := 19) hx hb hf_M (fun _ h => h) hown hK hP 0 rfl rfl 6 (by decide) (gw.at G hx0 mw_719 rfl _) (fun _ h9 => h9) rfl d_M_keepRay_4 ?_
      refine lv_icmp_ge (tgt := 30) hx hb d_M_keepRay_7 (by decide) (fun h_1 => ?_) (fun h_1 => ?_)
      · have h_1 : n ≤ k := (nI_leI (a := n) (b := k) (by omega) (by omega)).mp h_1
        have hpv : kpl yf vf n 0 = k := hpo.trans (kpl_n (by omega))
        refine lv_iload_n hx hb d_M_keepRay_30 rfl (lv_at hl 0 rfl) ?_
        refine lv_aload_n hx hb d_M_keepRay_31 rfl (lv_at hl 1 rfl) ?_
        refine va_get (D := D) (ci := 7) (v := .int (nI n)) (C := cn_M) (T := ft_M) (N := 19) hx hb hf_M (fun _ h => h) hown hK hP 0 rfl rfl 6 (by decide) (gw.at G hx0 mw_719 rfl _) (fun _ h9 => h9) rfl d_M_keepRay_32 ?_
        refine lv_icmp_ge (tgt := 53) hx hb d_M_keepRay_35 (by decide) (fun _ => ?_) (fun h99 => absurd h99 (not_not_intro ((nI_leI (a := n) (b := k) (by omega) (by omega)).mpr (by omega))))
        exact absurd h.1 (by rw [hpv]; omega)
      · have h_1 : ¬ (n ≤ k) := fun z99 => h_1 ((nI_leI (a := n) (b := k) (by omega) (by omega)).mpr z99)
        refine lv_aload_n hx hb d_M_keepRay_10 rfl (lv_at hl 1 rfl) ?_
        refine lv_aload_n hx hb d_M_keepRay_11 rfl (lv_at hl 1 rfl) ?_
        refine va_get (D := D) (ci := 7) (v := .ref ry) (C := cn_M) (T := ft_M) (N := 19) hx hb hf_M (fun _ h => h) hown hK hP 0 rfl rfl 7 (by decide) (gw.at G hx0 mw_720 rfl _) (fun _ h9 => h9) rfl d_M_keepRay_12 ?_
        refine lv_iconst (v := (4 : Int32)) hx hb d_M_keepRay_15 (by decide) ?_
        refine lv_iload_n hx hb d_M_keepRay_16 rfl (lv_at hl 0 rfl) ?_
        refine lv_imul hx hb d_M_keepRay_17 ?_
        refine tp_i (y := nI (4 * k)) (nI_mul 4 k) ?_
        refine cx_call (D := D) (cl := kl) (ws := _) (wc := [(m0, .inr (7, [.int th, .int zz, .int rn, .ref rw, .int kn, .int rk, .int (nI n), .ref ry, .int sp, .int lg, .ref ti, .int fo, .int pt, .ref po, .ref su, .ref sq, .ref ch, .ref vt, .ref sh])), (vt, .inl (cI, 4, .inl vf)), (ry, .inl (cI, 256, .inl yf))]) (wr := []) (tx_runV (C := cn_M) (b := m0) (As := [.ref ry, .int (nI (4 * k))]) (rest := []) hx hb hml hown (c_M_compare E H.size m0 rw ry ti po su sq ch vt sh th zz rn kn rk (nI n) sp lg fo pt vf ry 256 yf (4 * k) (by omega) (by decide)) (cx_C (b0 := b0) G hx0 mw_848 mw_9 ny_M_compare (by decide)) (gw.at G hx0 mw_845 rfl _) (gw.at G hx0 mw_847 rfl _) (gw.at G hx0 ms_M_compare rfl _) ⟨cx_blind, va_recv hK hP (q0 := 0) (ci := 7) (q := (cn_M, ft_M, 19)) rfl rfl, (cx_pre (s := s) hx0 hP hD hS hA0 [0, 1, 2] rfl rfl (by decide))⟩ rfl rfl hl.1 rfl (lv_room (Nat.le_of_ble_eq_true rfl)) d_M_keepRay_18 ⟨by decide, by decide⟩) hP hD hS hA [0, 1, 2] [] rfl rfl (by decide) (by decide) (fun v t w1 H locs ht hW9 hp hP hD hS => ?_) (fun x t w1 H locs ht hW9 hp hP hD hS => by obtain ⟨h9, -⟩ := hp; cases h9)
        obtain ⟨h9, rfl⟩ := hp
        cases h9
        refine W.eq (g2 := F0 m 21 ls [.int (cmp4 yf (4 * k) vf)]) rfl ?_
        refine W.widen (k := 0) (n := 0) (by decide) (by decide) ?_
        have hP : va_P D kl [(m0, .inr (7, [.int th, .int zz, .int rn, .ref rw, .int kn, .int rk, .int (nI n), .ref ry, .int sp, .int lg, .ref ti, .int fo, .int pt, .ref po, .ref su, .ref sq, .ref ch, .ref vt, .ref sh])), (vt, .inl (cI, 4, .inl vf)), (ry, .inl (cI, 256, .inl yf))] H := hP
        have hD : va_D A [(m0, .inr (7, [.int th, .int zz, .int rn, .ref rw, .int kn, .int rk, .int (nI n), .ref ry, .int sp, .int lg, .ref ti, .int fo, .int pt, .ref po, .ref su, .ref sq, .ref ch, .ref vt, .ref sh])), (vt, .inl (cI, 4, .inl vf)), (ry, .inl (cI, 256, .inl yf))] := hD
        refine lv_if_ge (tgt := 30) hx hb d_M_keepRay_21 (by decide) (fun h_2 => ?_) (fun h_2 => ?_)
        · have hpv : kpl yf vf n 0 = k := hpo.trans (kpl_y (by omega) (Int32.not_lt.mpr h_2))
          refine lv_iload_n hx hb d_M_keepRay_30 rfl (lv_at hl 0 rfl) ?_
          refine lv_aload_n hx hb d_M_keepRay_31 rfl (lv_at hl 1 rfl) ?_
          refine va_get (D := D) (ci := 7) (v := .int (nI n)) (C := cn_M) (T := ft_M) (N := 19) hx hb hf_M (fun _ h => h) hown hK hP 0 rfl rfl 6 (by decide) (gw.at G hx0 mw_719 rfl _) (fun _ h9 => h9) rfl d_M_keepRay_32 ?_
          refine lv_icmp_ge (tgt := 53) hx hb d_M_keepRay_35 (by decide) (fun h99 => absurd h99 (fun z99 => absurd ((nI_leI (a := n) (b := k) (by omega) (by omega)).mp z99) (by omega))) (fun _ => ?_)
          refine lv_aload_n hx hb d_M_keepRay_38 rfl (lv_at hl 1 rfl) ?_
          refine lv_aload_n hx hb d_M_keepRay_39 rfl (lv_at hl 1 rfl) ?_
          refine va_get (D := D) (ci := 7) (v := .ref ry) (C := cn_M) (T := ft_M) (N := 19) hx hb hf_M (fun _ h => h) hown hK hP 0 rfl rfl 7 (by decide) (gw.at G hx0 mw_720 rfl _) (fun _ h9 => h9) rfl d_M_keepRay_40 ?_
          refine lv_iconst (v := (4 : Int32)) hx hb d_M_keepRay_43 (by decide) ?_
          refine lv_iload_n hx hb d_M_keepRay_44 rfl (lv_at hl 0 rfl) ?_
          refine lv_imul hx hb d_M_keepRay_45 ?_
          refine tp_i (y := nI (4 * k)) (nI_mul 4 k) ?_
          refine cx_call (D := D) (cl := kl) (ws := _) (wc := [(m0, .inr (7, [.int th, .int zz, .int rn, .ref rw, .int kn, .int rk, .int (nI n), .ref ry, .int sp, .int lg, .ref ti, .int fo, .int pt, .ref po, .ref su, .ref sq, .ref ch, .ref vt, .ref sh])), (vt, .inl (cI, 4, .inl vf)), (ry, .inl (cI, 256, .inl yf))]) (wr := []) (tx_runV (C := cn_M) (b := m0) (As := [.ref ry, .int (nI (4 * k))]) (rest := []) hx hb hml hown (c_M_compare E H.size m0 rw ry ti po su sq ch vt sh th zz rn kn rk (nI n) sp lg fo pt vf ry 256 yf (4 * k) (by omega) (by decide)) (cx_C (b0 := b0) G hx0 mw_848 mw_9 ny_M_compare (by decide)) (gw.at G hx0 mw_845 rfl _) (gw.at G hx0 mw_847 rfl _) (gw.at G hx0 ms_M_compare rfl _) ⟨cx_blind, va_recv hK hP (q0 := 0) (ci := 7) (q := (cn_M, ft_M, 19)) rfl rfl, (cx_pre (s := s) hx0 hP hD hS hA0 [0, 1, 2] rfl rfl (by decide))⟩ rfl rfl hl.1 rfl (lv_room (Nat.le_of_ble_eq_true rfl)) d_M_keepRay_46 ⟨by decide, by decide⟩) hP hD hS hA [0, 1, 2] [] rfl rfl (by decide) (by decide) (fun v t w1 H locs ht hW9 hp hP hD hS => ?_) (fun x t w1 H locs ht hW9 hp hP hD hS => by obtain ⟨h9, -⟩ := hp; cases h9)
          obtain ⟨h9, rfl⟩ := hp
          cases h9
          refine W.eq (g2 := F0 m 49 ls [.int (cmp4 yf (4 * k) vf)]) rfl ?_
          refine W.widen (k := 0) (n := 0) (by decide) (by decide) ?_
          have hP : va_P D kl [(m0, .inr (7, [.int th, .int zz, .int rn, .ref rw, .int kn, .int rk, .int (nI n), .ref ry, .int sp, .int lg, .ref ti, .int fo, .int pt, .ref po, .ref su, .ref sq, .ref ch, .ref vt, .ref sh])), (vt, .inl (cI, 4, .inl vf)), (ry, .inl (cI, 256, .inl yf))] H := hP
          have hD : va_D A [(m0, .inr (7, [.int th, .int zz, .int rn, .ref rw, .int kn, .int rk, .int (nI n), .ref ry, .int sp, .int lg, .ref ti, .int fo, .int pt, .ref po, .ref su, .ref sq, .ref ch, .ref vt, .ref sh])), (vt, .inl (cI, 4, .inl vf)), (ry, .inl (cI, 256, .inl yf))] := hD
          refine lv_if_ne (tgt := 53) hx hb d_M_keepRay_49 (by decide) (fun h_3 => ?_) (fun h_3 => ?_)
          · exact absurd (by have z9 := h.2; rw [hpv] at z9; exact z9) h_3
          · rw [← hQe]
            exact tx_mono (fun _ h => tx_Z.of h) (W.vret hx hb hr (fun t ht hW => ⟨⟨[(m0, .inr (7, [.int th, .int zz, .int rn, .ref rw, .int kn, .int rk, .int (nI n), .ref ry, .int sp, .int lg, .ref ti, .int fo, .int pt, .ref po, .ref su, .ref sq, .ref ch, .ref vt, .ref sh])), (vt, .inl (cI, 4, .inl vf)), (ry, .inl (cI, 256, .inl yf))], ⟨rfl, rfl⟩, by rw [ht]; exact hP.sub [0, 1, 2] rfl, hD.sub [0, 1, 2] (by decide) rfl⟩, hS.F ht⟩) hS.2.2 d_M_keepRay_52)
        · refine lv_iinc (lv' := [(1, .int (nI (k + 1))), (0, .ref m0)]) (k := 0) (v := nI (k + 1)) hx hb d_M_keepRay_24 hl rfl (nI_add k 1) (by decide) rfl (fun ls hl => ?_)
          refine lv_goto (tgt := 2) hx hb d_M_keepRay_27 (by decide) ?_
          exact ih_2 _ (by omega) (k + 1) ls H locs rfl (hpo.trans (kpl_s (by omega) (Int32.not_le.mp h_2))) (by omega) (lv_sub hl [0, 1] rfl) (hP.sub [0, 1, 2] rfl) (hD.sub [0, 1, 2] (by decide) rfl) hS
  exact lp_2 _ 0 ls s.heap [] rfl rfl (Nat.zero_le _) (lv_sub hl [0, 1] rfl) (hP.sub [0, 1, 2] rfl) (hD.sub [0, 1, 2] (by decide) rfl) hS

set_option maxHeartbeats 4000000 in
set_option maxRecDepth 100000 in
theorem c_M_keepRay_n {l : Launch} {s0 : State} {b0 : Addr} {D : va_G} {cI cJ cZ : ClassId} {tC tS : Nat} (E : gE l s0 b0 D cI cJ cZ tC tS) (sz : Nat) (m0 : Nat) (rw : Nat) (ry : Nat) (ti : Nat) (po : Nat) (su : Nat) (sq : Nat) (ch : Nat) (vt : Nat) (sh : Nat) (th : Int32) (zz : Int32) (rn : Int32) (kn : Int32) (rk : Int32) (sp : Int32) (lg : Int32) (fo : Int32) (pt : Int32) (n : Nat) (vf : Nat → Int32) (yf : Nat → Int32) (hn : n ≤ 63) (h : ¬ (kpl yf vf n 0 < n ∧ cmp4 yf (4 * (kpl yf vf n 0)) vf = 0)) : cx_M l s0 D kl y_M_keepRay b_M_keepRay 3 none ({ frames := 1, cells := 0, slots := 0, locals := 23 } : Room) 0 0 [.ref m0] [(m0, .inr (7, [.int th, .int zz, .int rn, .ref rw, .int kn, .int rk, .int (nI n), .ref ry, .int sp, .int lg, .ref ti, .int fo, .int pt, .ref po, .ref su, .ref sq, .ref ch, .ref vt, .ref sh])), (vt, .inl (cI, 4, .inl vf)), (ry, .inl (cI, 256, .inl yf))] sz (fun o9 _ w9 => o9 = .returned none ∧ w9 = [(m0, .inr (7, [.int th, .int zz, .int rn, .ref rw, .int kn, .int rk, .int (nI (n + 1)), .ref ry, .int sp, .int lg, .ref ti, .int fo, .int pt, .ref po, .ref su, .ref sq, .ref ch, .ref vt, .ref sh])), (vt, .inl (cI, 4, .inl vf)), (ry, .inl (cI, 256, .inl (kpF n (kpl yf vf n 0) yf vf)))]) := by
  refine tx_ofW (cc := b_M_keepRay) (maxL := 3) (ret := none) (by decide) rfl ?_
  intro p e s m args below meth c s₁ B hml hT hv
  obtain ⟨rfl, hsz, hP, hD0, hx0⟩ := hv
  have hx := B.exec
  have hb := B.bytes
  have hr := B.returns
  have G := E.2.1
  have hown : s.vm.findClass cn_M = some m.cls := findClass_of_methodNamed B.named
  have hlocks := B.notSynchronized
  have hK := va_K.moved hx0.1.alike E.2.2.1
  have hf_M : ∀ w99 ∈ u_ws cn_M ft_M 19, w99.before ([.ref m0] : List Value).toArray s = true := fun w99 h99 => gw.at G hx0 (fw_M w99 h99) (fo_M w99 h99) _
  subst hsz
  have hA0 := cx_new hD0 hx0.2.1
  have hD := hD0.self (sz := s.heap.size)
  generalize hAe : va_A [(m0, .inr (7, [.int th, .int zz, .int rn, .ref rw, .int kn, .int rk, .int (nI n), .ref ry, .int sp, .int lg, .ref ti, .int fo, .int pt, .ref po, .ref su, .ref sq, .ref ch, .ref vt, .ref sh])), (vt, .inl (cI, 4, .inl vf)), (ry, .inl (cI, 256, .inl yf))] s.heap.size = A at hD hA0 ⊢
  have hA : ∀ q : Nat, s.heap.size ≤ q → A q := fun q h => by rw [← hAe]; exact Or.inr h
  have hS : va_S A s.heap s.heap [] := va_S.rf
  have hl := lv_entry ([.ref m0]) (n := 3) (Nat.le_of_ble_eq_true rfl)
  rw [lg_entry_eq]
  generalize (lg_sl ([.ref m0]) ++ List.replicate (3 - (lg_sl ([.ref m0])).length) Slot.unset).toArray = ls at hl ⊢
  have hl : lv_has ls 3 [(0, .ref m0)] := hl
  have hP : va_P D kl [(m0, .inr (7, [.int th, .int zz, .int rn, .ref rw, .int kn, .int rk, .int (nI n), .ref ry, .int sp, .int lg, .ref ti, .int fo, .int pt, .ref po, .ref su, .ref sq, .ref ch, .ref vt, .ref sh])), (vt, .inl (cI, 4, .inl vf)), (ry, .inl (cI, 256, .inl yf))] s.heap := hP
  have hml : c.maxLocals = 3 := hml
  generalize hQe : tx_Z below (cx_Q D kl A (fun o9 _ w9 => o9 = .returned none ∧ w9 = [(m0, .inr (7, [.int th, .int zz, .int rn, .ref rw, .int kn, .int rk, .int (nI (n + 1)), .ref ry, .int sp, .int lg, .ref ti, .int fo, .int pt, .ref po, .ref su, .ref sq, .ref ch, .ref vt, .ref sh])), (vt, .inl (cI, 4, .inl vf)), (ry, .inl (cI, 256, .inl (kpF n (kpl yf vf n 0) yf vf)))])) ([.ref m0] : List Value).toArray s 0 0 A = Q
  refine lv_iconst (v := (0 : Int32)) hx hb d_M_keepRay_0 (by decide) ?_
  refine lv_istore_n (lv' := [(1, .int (0 : Int32)), (0, .ref m0)]) hx hb d_M_keepRay_1 rfl hl (by decide) rfl (fun ls hl => ?_)
  have lp_2 : ∀ (n9 : Nat) (k : Nat) (ls : Array Slot) (H : Heap) (locs : List Loc), n - k = n9 → (kpl yf vf n 0 = kpl yf vf (n - k) k) → (k ≤ n) → lv_has ls 3 [(1, .int (nI k)), (0, .ref m0)] → va_P D kl [(m0, .inr (7, [.int th, .int zz, .int rn, .ref rw, .int kn, .int rk, .int (nI n), .ref ry, .int sp, .int lg, .ref ti, .int fo, .int pt, .ref po, .ref su, .ref sq, .ref ch, .ref vt, .ref sh])), (vt, .inl (cI, 4, .inl vf)), (ry, .inl (cI, 256, .inl yf))] H → va_D A [(m0, .inr (7, [.int th, .int zz, .int rn, .ref rw, .int kn, .int rk, .int (nI n), .ref ry, .int sp, .int lg, .ref ti, .int fo, .int pt, .ref po, .ref su, .ref sq, .ref ch, .ref vt, .ref sh])), (vt, .inl (cI, 4, .inl vf)), (ry, .inl (cI, 256, .inl yf))] → va_S A s.heap H locs → W p l e ({ frames := 1, cells := 0, slots := 0, locals := 23 } : Room) s m ([.ref m0] : List Value).toArray below meth c H locs 0 0 Q (F0 m 2 ls []) := by
    intro n9
    induction n9 using Nat.strongRecOn with
    | ind n9 ih_2 =>
      intro k ls H locs hm_2 hpo hk9 hl hP hD hS
      refine lv_iload_n hx hb d_M_keepRay_2 rfl (lv_at hl 0 rfl) ?_
      refine lv_aload_n hx hb d_M_keepRay_3 rfl (lv_at hl 1 rfl) ?_
      refine va_get (D := D) (ci := 7) (v := .int (nI n)) (C := cn_M) (T := ft_M) (N := 19) hx hb hf_M (fun _ h => h) hown hK hP 0 rfl rfl 6 (by decide) (gw.at G hx0 mw_719 rfl _) (fun _ h9 => h9) rfl d_M_keepRay_4 ?_
      refine lv_icmp_ge (tgt := 30) hx hb d_M_keepRay_7 (by decide) (fun h_1 => ?_) (fun h_1 => ?_)
      · have h_1 : n ≤ k := (nI_leI (a := n) (b := k) (by omega) (by omega)).mp h_1
        have hpv : kpl yf vf n 0 = k := hpo.trans (kpl_n (by omega))
        refine lv_iload_n hx hb d_M_keepRay_30 rfl (lv_at hl 0 rfl) ?_
        refine lv_aload_n hx hb d_M_keepRay_31 rfl (lv_at hl 1 rfl) ?_
        refine va_get (D := D) (ci := 7) (v := .int (nI n)) (C := cn_M) (T := ft_M) (N := 19) hx hb hf_M (fun _ h => h) hown hK hP 0 rfl rfl 6 (by decide) (gw.at G hx0 mw_719 rfl _) (fun _ h9 => h9) rfl d_M_keepRay_32 ?_
        refine lv_icmp_ge (tgt := 53) hx hb d_M_keepRay_35 (by decide) (fun _ => ?_) (fun h99 => absurd h99 (not_not_intro ((nI_leI (a := n) (b := k) (by omega) (by omega)).mpr (by omega))))
        refine lv_iconst (v := (4 : Int32)) hx hb d_M_keepRay_53 (by decide) ?_
        refine lv_aload_n hx hb d_M_keepRay_54 rfl (lv_at hl 1 rfl) ?_
        refine va_get (D := D) (ci := 7) (v := .int (nI n)) (C := cn_M) (T := ft_M) (N := 19) hx hb hf_M (fun _ h => h) hown hK hP 0 rfl rfl 6 (by decide) (gw.at G hx0 mw_719 rfl _) (fun _ h9 => h9) rfl d_M_keepRay_55 ?_
        refine lv_imul hx hb d_M_keepRay_58 ?_
        refine tp_i (y := nI (4 * n)) (nI_mul 4 n) ?_
        refine lv_iconst (v := (1 : Int32)) hx hb d_M_keepRay_59 (by decide) ?_
        refine lv_isub hx hb d_M_keepRay_60 ?_
        refine lv_istore_n (lv' := [(2, .int ((nI (4 * n)) - (1 : Int32))), (1, .int (nI k)), (0, .ref m0)]) hx hb d_M_keepRay_61 rfl hl (by decide) rfl (fun ls hl => ?_)
        have lp_62 : ∀ (n9 : Nat) (u : Nat) (f2 : Nat → Int32) (ls : Array Slot) (H : Heap) (locs : List Loc), u = n9 → (shd k (4 * n) yf = shd k u f2) → (u ≤ 4 * n) → lv_has ls 3 [(2, .int (nI u - (1 : Int32))), (1, .int (nI k)), (0, .ref m0)] → va_P D kl [(m0, .inr (7, [.int th, .int zz, .int rn, .ref rw, .int kn, .int rk, .int (nI n), .ref ry, .int sp, .int lg, .ref ti, .int fo, .int pt, .ref po, .ref su, .ref sq, .ref ch, .ref vt, .ref sh])), (vt, .inl (cI, 4, .inl vf)), (ry, .inl (cI, 256, .inl f2))] H → va_D A [(m0, .inr (7, [.int th, .int zz, .int rn, .ref rw, .int kn, .int rk, .int (nI n), .ref ry, .int sp, .int lg, .ref ti, .int fo, .int pt, .ref po, .ref su, .ref sq, .ref ch, .ref vt, .ref sh])), (vt, .inl (cI, 4, .inl vf)), (ry, .inl (cI, 256, .inl f2))] → va_S A s.heap H locs → W p l e ({ frames := 1, cells := 0, slots := 0, locals := 23 } : Room) s m ([.ref m0] : List Value).toArray below meth c H locs 0 0 Q (F0 m 62 ls []) := by
          intro n9
          induction n9 using Nat.strongRecOn with
          | ind n9 ih_62 =>
            intro u f2 ls H locs hm_62 hsh hu9 hl hP hD hS
            rcases Nat.eq_zero_or_pos u with hup | hup
            · rw [show nI u - (1 : Int32) = (-1 : Int32) by rw [hup]; decide] at hl
              refine lv_iload_n hx hb d_M_keepRay_62 rfl (lv_at hl 0 rfl) ?_
              refine lv_iconst (v := (4 : Int32)) hx hb d_M_keepRay_63 (by decide) ?_
              refine lv_iload_n hx hb d_M_keepRay_64 rfl (lv_at hl 1 rfl) ?_
              refine lv_imul hx hb d_M_keepRay_65 ?_
              refine tp_i (y := nI (4 * k)) (nI_mul 4 k) ?_
              refine lv_icmp_lt (tgt := 89) hx hb d_M_keepRay_66 (by decide) (fun _ => ?_) (fun h99 => absurd h99 (not_not_intro (m1_lt (n := 4 * k) (by omega))))
              have hsf := hsh.trans (shd_e (k := k) (u := u) (f := f2) (by omega))
              rw [← hsf] at hP hD
              have hP : va_P D kl [(m0, .inr (7, [.int th, .int zz, .int rn, .ref rw, .int kn, .int rk, .int (nI n), .ref ry, .int sp, .int lg, .ref ti, .int fo, .int pt, .ref po, .ref su, .ref sq, .ref ch, .ref vt, .ref sh])), (vt, .inl (cI, 4, .inl vf)), (ry, .inl (cI, 256, .inl (shd k (4 * n) yf)))] H := hP
              have hD : va_D A [(m0, .inr (7, [.int th, .int zz, .int rn, .ref rw, .int kn, .int rk, .int (nI n), .ref ry, .int sp, .int lg, .ref ti, .int fo, .int pt, .ref po, .ref su, .ref sq, .ref ch, .ref vt, .ref sh])), (vt, .inl (cI, 4, .inl vf)), (ry, .inl (cI, 256, .inl (shd k (4 * n) yf)))] := hD
              refine lv_iconst (v := (0 : Int32)) hx hb d_M_keepRay_89 (by decide) ?_
              refine lv_istore_n (lv' := [(2, .int (0 : Int32)), (1, .int (nI k)), (0, .ref m0)]) hx hb d_M_keepRay_90 rfl hl (by decide) rfl (fun ls hl => ?_)
              refine lv_iload_n hx hb d_M_keepRay_91 rfl (lv_at hl 0 rfl) ?_
              refine lv_iconst (v := (4 : Int32)) hx hb d_M_keepRay_92 (by decide) ?_
              refine lv_icmp_ge (tgt := 118) hx hb d_M_keepRay_93 (by decide) (fun h99 => absurd h99 (by decide)) (fun _ => ?_)
              refine lv_aload_n hx hb d_M_keepRay_96 rfl (lv_at hl 2 rfl) ?_
              refine va_get (D := D) (ci := 7) (v := .ref ry) (C := cn_M) (T := ft_M) (N := 19) hx hb hf_M (fun _ h => h) hown hK hP 0 rfl rfl 7 (by decide) (gw.at G hx0 mw_720 rfl _) (fun _ h9 => h9) rfl d_M_keepRay_97 ?_
              refine lv_iconst (v := (4 : Int32)) hx hb d_M_keepRay_100 (by decide) ?_
              refine lv_iload_n hx hb d_M_keepRay_101 rfl (lv_at hl 1 rfl) ?_
              refine lv_imul hx hb d_M_keepRay_102 ?_
              refine tp_i (y := nI (4 * k)) (nI_mul 4 k) ?_
              refine lv_iload_n hx hb d_M_keepRay_103 rfl (lv_at hl 0 rfl) ?_
              refine lv_iadd hx hb d_M_keepRay_104 ?_
              refine tp_i (y := nI ((4 * k) + 0)) (nI_add (4 * k) 0) ?_
              refine lv_aload_n hx hb d_M_keepRay_105 rfl (lv_at hl 2 rfl) ?_
              refine va_get (D := D) (ci := 7) (v := .ref vt) (C := cn_M) (T := ft_M) (N := 19) hx hb hf_M (fun _ h => h) hown hK hP 0 rfl rfl 17 (by decide) (gw.at G hx0 mw_730 rfl _) (fun _ h9 => h9) rfl d_M_keepRay_106 ?_
              refine lv_iload_n hx hb d_M_keepRay_109 rfl (lv_at hl 0 rfl) ?_
              refine va_iald hx hb hK hP 1 0 rfl rfl (vp_in_iff.mpr (by decide)) d_M_keepRay_110 ?_
              refine tp_i (y := vf 0) (by rfl) ?_
              refine va_iast hx hb hK hP hD hS 2 0 rfl rfl (vp_in_nI (n := (4 * k) + 0) (by omega) (by omega)) d_M_keepRay_111 (fun H locs hP hD hS => ?_)
              rw [nI_clamp (n := (4 * k) + 0) (by omega)] at hP hD
              have hP : va_P D kl [(m0, .inr (7, [.int th, .int zz, .int rn, .ref rw, .int kn, .int rk, .int (nI n), .ref ry, .int sp, .int lg, .ref ti, .int fo, .int pt, .ref po, .ref su, .ref sq, .ref ch, .ref vt, .ref sh])), (vt, .inl (cI, 4, .inl vf)), (ry, .inl (cI, 256, .inl (upd (shd k (4 * n) yf) ((4 * k) + 0) (vf 0))))] H := hP
              have hD : va_D A [(m0, .inr (7, [.int th, .int zz, .int rn, .ref rw, .int kn, .int rk, .int (nI n), .ref ry, .int sp, .int lg, .ref ti, .int fo, .int pt, .ref po, .ref su, .ref sq, .ref ch, .ref vt, .ref sh])), (vt, .inl (cI, 4, .inl vf)), (ry, .inl (cI, 256, .inl (upd (shd k (4 * n) yf) ((4 * k) + 0) (vf 0))))] := hD
              refine lv_iinc (lv' := [(2, .int (1 : Int32)), (1, .int (nI k)), (0, .ref m0)]) (k := 0) (v := (1 : Int32)) hx hb d_M_keepRay_112 hl rfl (by decide) (by decide) rfl (fun ls hl => ?_)
              refine lv_goto (tgt := 91) hx hb d_M_keepRay_115 (by decide) ?_
              refine lv_iload_n hx hb d_M_keepRay_91 rfl (lv_at hl 0 rfl) ?_
              refine lv_iconst (v := (4 : Int32)) hx hb d_M_keepRay_92 (by decide) ?_
              refine lv_icmp_ge (tgt := 118) hx hb d_M_keepRay_93 (by decide) (fun h99 => absurd h99 (by decide)) (fun _ => ?_)
              refine lv_aload_n hx hb d_M_keepRay_96 rfl (lv_at hl 2 rfl) ?_
              refine va_get (D := D) (ci := 7) (v := .ref ry) (C := cn_M) (T := ft_M) (N := 19) hx hb hf_M (fun _ h => h) hown hK hP 0 rfl rfl 7 (by decide) (gw.at G hx0 mw_720 rfl _) (fun _ h9 => h9) rfl d_M_keepRay_97 ?_
              refine lv_iconst (v := (4 : Int32)) hx hb d_M_keepRay_100 (by decide) ?_
              refine lv_iload_n hx hb d_M_keepRay_101 rfl (lv_at hl 1 rfl) ?_
              refine lv_imul hx hb d_M_keepRay_102 ?_
              refine tp_i (y := nI (4 * k)) (nI_mul 4 k) ?_
              refine lv_iload_n hx hb d_M_keepRay_103 rfl (lv_at hl 0 rfl) ?_
              refine lv_iadd hx hb d_M_keepRay_104 ?_
              refine tp_i (y := nI ((4 * k) + 1)) (nI_add (4 * k) 1) ?_
              refine lv_aload_n hx hb d_M_keepRay_105 rfl (lv_at hl 2 rfl) ?_
              refine va_get (D := D) (ci := 7) (v := .ref vt) (C := cn_M) (T := ft_M) (N := 19) hx hb hf_M (fun _ h => h) hown hK hP 0 rfl rfl 17 (by decide) (gw.at G hx0 mw_730 rfl _) (fun _ h9 => h9) rfl d_M_keepRay_106 ?_
              refine lv_iload_n hx hb d_M_keepRay_109 rfl (lv_at hl 0 rfl) ?_
              refine va_iald hx hb hK hP 1 0 rfl rfl (vp_in_iff.mpr (by decide)) d_M_keepRay_110 ?_
              refine tp_i (y := vf 1) (by rfl) ?_
              refine va_iast hx hb hK hP hD hS 2 0 rfl rfl (vp_in_nI (n := (4 * k) + 1) (by omega) (by omega)) d_M_keepRay_111 (fun H locs hP hD hS => ?_)
              rw [nI_clamp (n := (4 * k) + 1) (by omega)] at hP hD
              have hP : va_P D kl [(m0, .inr (7, [.int th, .int zz, .int rn, .ref rw, .int kn, .int rk, .int (nI n), .ref ry, .int sp, .int lg, .ref ti, .int fo, .int pt, .ref po, .ref su, .ref sq, .ref ch, .ref vt, .ref sh])), (vt, .inl (cI, 4, .inl vf)), (ry, .inl (cI, 256, .inl (upd (upd (shd k (4 * n) yf) ((4 * k) + 0) (vf 0)) ((4 * k) + 1) (vf 1))))] H := hP
              have hD : va_D A [(m0, .inr (7, [.int th, .int zz, .int rn, .ref rw, .int kn, .int rk, .int (nI n), .ref ry, .int sp, .int lg, .ref ti, .int fo, .int pt, .ref po, .ref su, .ref sq, .ref ch, .ref vt, .ref sh])), (vt, .inl (cI, 4, .inl vf)), (ry, .inl (cI, 256, .inl (upd (upd (shd k (4 * n) yf) ((4 * k) + 0) (vf 0)) ((4 * k) + 1) (vf 1))))] := hD
              refine lv_iinc (lv' := [(2, .int (2 : Int32)), (1, .int (nI k)), (0, .ref m0)]) (k := 0) (v := (2 : Int32)) hx hb d_M_keepRay_112 hl rfl (by decide) (by decide) rfl (fun ls hl => ?_)
              refine lv_goto (tgt := 91) hx hb d_M_keepRay_115 (by decide) ?_
              refine lv_iload_n hx hb d_M_keepRay_91 rfl (lv_at hl 0 rfl) ?_
              refine lv_iconst (v := (4 : Int32)) hx hb d_M_keepRay_92 (by decide) ?_
              refine lv_icmp_ge (tgt := 118) hx hb d_M_keepRay_93 (by decide) (fun h99 => absurd h99 (by decide)) (fun _ => ?_)
              refine lv_aload_n hx hb d_M_keepRay_96 rfl (lv_at hl 2 rfl) ?_
              refine va_get (D := D) (ci := 7) (v := .ref ry) (C := cn_M) (T := ft_M) (N := 19) hx hb hf_M (fun _ h => h) hown hK hP 0 rfl rfl 7 (by decide) (gw.at G hx0 mw_720 rfl _) (fun _ h9 => h9) rfl d_M_keepRay_97 ?_
              refine lv_iconst (v := (4 : Int32)) hx hb d_M_keepRay_100 (by decide) ?_
              refine lv_iload_n hx hb d_M_keepRay_101 rfl (lv_at hl 1 rfl) ?_
              refine lv_imul hx hb d_M_keepRay_102 ?_
              refine tp_i (y := nI (4 * k)) (nI_mul 4 k) ?_
              refine lv_iload_n hx hb d_M_keepRay_103 rfl (lv_at hl 0 rfl) ?_
              refine lv_iadd hx hb d_M_keepRay_104 ?_
              refine tp_i (y := nI ((4 * k) + 2)) (nI_add (4 * k) 2) ?_
              refine lv_aload_n hx hb d_M_keepRay_105 rfl (lv_at hl 2 rfl) ?_
              refine va_get (D := D) (ci := 7) (v := .ref vt) (C := cn_M) (T := ft_M) (N := 19) hx hb hf_M (fun _ h => h) hown hK hP 0 rfl rfl 17 (by decide) (gw.at G hx0 mw_730 rfl _) (fun _ h9 => h9) rfl d_M_keepRay_106 ?_
              refine lv_iload_n hx hb d_M_keepRay_109 rfl (lv_at hl 0 rfl) ?_
              refine va_iald hx hb hK hP 1 0 rfl rfl (vp_in_iff.mpr (by decide)) d_M_keepRay_110 ?_
              refine tp_i (y := vf 2) (by rfl) ?_
              refine va_iast hx hb hK hP hD hS 2 0 rfl rfl (vp_in_nI (n := (4 * k) + 2) (by omega) (by omega)) d_M_keepRay_111 (fun H locs hP hD hS => ?_)
              rw [nI_clamp (n := (4 * k) + 2) (by omega)] at hP hD
              have hP : va_P D kl [(m0, .inr (7, [.int th, .int zz, .int rn, .ref rw, .int kn, .int rk, .int (nI n), .ref ry, .int sp, .int lg, .ref ti, .int fo, .int pt, .ref po, .ref su, .ref sq, .ref ch, .ref vt, .ref sh])), (vt, .inl (cI, 4, .inl vf)), (ry, .inl (cI, 256, .inl (upd (upd (upd (shd k (4 * n) yf) ((4 * k) + 0) (vf 0)) ((4 * k) + 1) (vf 1)) ((4 * k) + 2) (vf 2))))] H := hP
              have hD : va_D A [(m0, .inr (7, [.int th, .int zz, .int rn, .ref rw, .int kn, .int rk, .int (nI n), .ref ry, .int sp, .int lg, .ref ti, .int fo, .int pt, .ref po, .ref su, .ref sq, .ref ch, .ref vt, .ref sh])), (vt, .inl (cI, 4, .inl vf)), (ry, .inl (cI, 256, .inl (upd (upd (upd (shd k (4 * n) yf) ((4 * k) + 0) (vf 0)) ((4 * k) + 1) (vf 1)) ((4 * k) + 2) (vf 2))))] := hD
              refine lv_iinc (lv' := [(2, .int (3 : Int32)), (1, .int (nI k)), (0, .ref m0)]) (k := 0) (v := (3 : Int32)) hx hb d_M_keepRay_112 hl rfl (by decide) (by decide) rfl (fun ls hl => ?_)
              refine lv_goto (tgt := 91) hx hb d_M_keepRay_115 (by decide) ?_
              refine lv_iload_n hx hb d_M_keepRay_91 rfl (lv_at hl 0 rfl) ?_
              refine lv_iconst (v := (4 : Int32)) hx hb d_M_keepRay_92 (by decide) ?_
              refine lv_icmp_ge (tgt := 118) hx hb d_M_keepRay_93 (by decide) (fun h99 => absurd h99 (by decide)) (fun _ => ?_)
              refine lv_aload_n hx hb d_M_keepRay_96 rfl (lv_at hl 2 rfl) ?_
              refine va_get (D := D) (ci := 7) (v := .ref ry) (C := cn_M) (T := ft_M) (N := 19) hx hb hf_M (fun _ h => h) hown hK hP 0 rfl rfl 7 (by decide) (gw.at G hx0 mw_720 rfl _) (fun _ h9 => h9) rfl d_M_keepRay_97 ?_
              refine lv_iconst (v := (4 : Int32)) hx hb d_M_keepRay_100 (by decide) ?_
              refine lv_iload_n hx hb d_M_keepRay_101 rfl (lv_at hl 1 rfl) ?_
              refine lv_imul hx hb d_M_keepRay_102 ?_
              refine tp_i (y := nI (4 * k)) (nI_mul 4 k) ?_
              refine lv_iload_n hx hb d_M_keepRay_103 rfl (lv_at hl 0 rfl) ?_
              refine lv_iadd hx hb d_M_keepRay_104 ?_
              refine tp_i (y := nI ((4 * k) + 3)) (nI_add (4 * k) 3) ?_
              refine lv_aload_n hx hb d_M_keepRay_105 rfl (lv_at hl 2 rfl) ?_
              refine va_get (D := D) (ci := 7) (v := .ref vt) (C := cn_M) (T := ft_M) (N := 19) hx hb hf_M (fun _ h => h) hown hK hP 0 rfl rfl 17 (by decide) (gw.at G hx0 mw_730 rfl _) (fun _ h9 => h9) rfl d_M_keepRay_106 ?_
              refine lv_iload_n hx hb d_M_keepRay_109 rfl (lv_at hl 0 rfl) ?_
              refine va_iald hx hb hK hP 1 0 rfl rfl (vp_in_iff.mpr (by decide)) d_M_keepRay_110 ?_
              refine tp_i (y := vf 3) (by rfl) ?_
              refine va_iast hx hb hK hP hD hS 2 0 rfl rfl (vp_in_nI (n := (4 * k) + 3) (by omega) (by omega)) d_M_keepRay_111 (fun H locs hP hD hS => ?_)
              rw [nI_clamp (n := (4 * k) + 3) (by omega)] at hP hD
              have hP : va_P D kl [(m0, .inr (7, [.int th, .int zz, .int rn, .ref rw, .int kn, .int rk, .int (nI n), .ref ry, .int sp, .int lg, .ref ti, .int fo, .int pt, .ref po, .ref su, .ref sq, .ref ch, .ref vt, .ref sh])), (vt, .inl (cI, 4, .inl vf)), (ry, .inl (cI, 256, .inl (upd (upd (upd (upd (shd k (4 * n) yf) ((4 * k) + 0) (vf 0)) ((4 * k) + 1) (vf 1)) ((4 * k) + 2) (vf 2)) ((4 * k) + 3) (vf 3))))] H := hP
              have hD : va_D A [(m0, .inr (7, [.int th, .int zz, .int rn, .ref rw, .int kn, .int rk, .int (nI n), .ref ry, .int sp, .int lg, .ref ti, .int fo, .int pt, .ref po, .ref su, .ref sq, .ref ch, .ref vt, .ref sh])), (vt, .inl (cI, 4, .inl vf)), (ry, .inl (cI, 256, .inl (upd (upd (upd (upd (shd k (4 * n) yf) ((4 * k) + 0) (vf 0)) ((4 * k) + 1) (vf 1)) ((4 * k) + 2) (vf 2)) ((4 * k) + 3) (vf 3))))] := hD
              refine lv_iinc (lv' := [(2, .int (4 : Int32)), (1, .int (nI k)), (0, .ref m0)]) (k := 0) (v := (4 : Int32)) hx hb d_M_keepRay_112 hl rfl (by decide) (by decide) rfl (fun ls hl => ?_)
              refine lv_goto (tgt := 91) hx hb d_M_keepRay_115 (by decide) ?_
              refine lv_iload_n hx hb d_M_keepRay_91 rfl (lv_at hl 0 rfl) ?_
              refine lv_iconst (v := (4 : Int32)) hx hb d_M_keepRay_92 (by decide) ?_
              refine lv_icmp_ge (tgt := 118) hx hb d_M_keepRay_93 (by decide) (fun _ => ?_) (fun h99 => absurd h99 (by decide))
              have hF : upd (upd (upd (upd (shd k (4 * n) yf) ((4 * k) + 0) (vf 0)) ((4 * k) + 1) (vf 1)) ((4 * k) + 2) (vf 2)) ((4 * k) + 3) (vf 3) = kpF n (kpl yf vf n 0) yf vf := by rw [hpv]; rfl
              rw [hF] at hP hD
              have hP : va_P D kl [(m0, .inr (7, [.int th, .int zz, .int rn, .ref rw, .int kn, .int rk, .int (nI n), .ref ry, .int sp, .int lg, .ref ti, .int fo, .int pt, .ref po, .ref su, .ref sq, .ref ch, .ref vt, .ref sh])), (vt, .inl (cI, 4, .inl vf)), (ry, .inl (cI, 256, .inl (kpF n (kpl yf vf n 0) yf vf)))] H := hP
              have hD : va_D A [(m0, .inr (7, [.int th, .int zz, .int rn, .ref rw, .int kn, .int rk, .int (nI n), .ref ry, .int sp, .int lg, .ref ti, .int fo, .int pt, .ref po, .ref su, .ref sq, .ref ch, .ref vt, .ref sh])), (vt, .inl (cI, 4, .inl vf)), (ry, .inl (cI, 256, .inl (kpF n (kpl yf vf n 0) yf vf)))] := hD
              refine lv_aload_n hx hb d_M_keepRay_118 rfl (lv_at hl 2 rfl) ?_
              refine lv_dup hx hb d_M_keepRay_119 rfl ?_
              refine va_get (D := D) (ci := 7) (v := .int (nI n)) (C := cn_M) (T := ft_M) (N := 19) hx hb hf_M (fun _ h => h) hown hK hP 0 rfl rfl 6 (by decide) (gw.at G hx0 mw_719 rfl _) (fun _ h9 => h9) rfl d_M_keepRay_120 ?_
              refine lv_iconst (v := (1 : Int32)) hx hb d_M_keepRay_123 (by decide) ?_
              refine lv_iadd hx hb d_M_keepRay_124 ?_
              refine tp_i (y := nI (n + 1)) (nI_add n 1) ?_
              refine va_put (D := D) (ci := 7) (v := .int (nI (n + 1))) (ty := .int) (C := cn_M) (T := ft_M) (N := 19) hx hb hf_M (fun _ h => h) fy_M fk_M fn_M hown hK hP hD hS 0 rfl rfl 6 (by decide) (gw.at G hx0 mw_719 rfl _) (fun _ h9 => h9) rfl (by decide +kernel) rfl rfl (Nat.le_of_ble_eq_true rfl) d_M_keepRay_125 (fun H locs hP hD hS => ?_)
              have hP : va_P D kl [(m0, .inr (7, [.int th, .int zz, .int rn, .ref rw, .int kn, .int rk, .int (nI (n + 1)), .ref ry, .int sp, .int lg, .ref ti, .int fo, .int pt, .ref po, .ref su, .ref sq, .ref ch, .ref vt, .ref sh])), (vt, .inl (cI, 4, .inl vf)), (ry, .inl (cI, 256, .inl (kpF n (kpl yf vf n 0) yf vf)))] H := hP
              have hD : va_D A [(m0, .inr (7, [.int th, .int zz, .int rn, .ref rw, .int kn, .int rk, .int (nI (n + 1)), .ref ry, .int sp, .int lg, .ref ti, .int fo, .int pt, .ref po, .ref su, .ref sq, .ref ch, .ref vt, .ref sh])), (vt, .inl (cI, 4, .inl vf)), (ry, .inl (cI, 256, .inl (kpF n (kpl yf vf n 0) yf vf)))] := hD
              rw [← hQe]
              exact tx_mono (fun _ h => tx_Z.of h) (W.vret hx hb hr (fun t ht hW => ⟨⟨[(m0, .inr (7, [.int th, .int zz, .int rn, .ref rw, .int kn, .int rk, .int (nI (n + 1)), .ref ry, .int sp, .int lg, .ref ti, .int fo, .int pt, .ref po, .ref su, .ref sq, .ref ch, .ref vt, .ref sh])), (vt, .inl (cI, 4, .inl vf)), (ry, .inl (cI, 256, .inl (kpF n (kpl yf vf n 0) yf vf)))], ⟨rfl, rfl⟩, by rw [ht]; exact hP.sub [0, 1, 2] rfl, hD.sub [0, 1, 2] (by decide) rfl⟩, hS.F ht⟩) hS.2.2 d_M_keepRay_128)
            · rw [show nI u - (1 : Int32) = nI (u - 1) from nI_sub (a := u) (b := 1) hup] at hl
              refine lv_iload_n hx hb d_M_keepRay_62 rfl (lv_at hl 0 rfl) ?_
              refine lv_iconst (v := (4 : Int32)) hx hb d_M_keepRay_63 (by decide) ?_
              refine lv_iload_n hx hb d_M_keepRay_64 rfl (lv_at hl 1 rfl) ?_
              refine lv_imul hx hb d_M_keepRay_65 ?_
              refine tp_i (y := nI (4 * k)) (nI_mul 4 k) ?_
              refine lv_icmp_lt (tgt := 89) hx hb d_M_keepRay_66 (by decide) (fun h_2 => ?_) (fun h_2 => ?_)
              · have h_2 : (u - 1) < (4 * k) := (nI_ltI (a := u - 1) (b := 4 * k) (by omega) (by omega)).mp h_2
                have hsf := hsh.trans (shd_e (k := k) (u := u) (f := f2) (by omega))
                rw [← hsf] at hP hD
                have hP : va_P D kl [(m0, .inr (7, [.int th, .int zz, .int rn, .ref rw, .int kn, .int rk, .int (nI n), .ref ry, .int sp, .int lg, .ref ti, .int fo, .int pt, .ref po, .ref su, .ref sq, .ref ch, .ref vt, .ref sh])), (vt, .inl (cI, 4, .inl vf)), (ry, .inl (cI, 256, .inl (shd k (4 * n) yf)))] H := hP
                have hD : va_D A [(m0, .inr (7, [.int th, .int zz, .int rn, .ref rw, .int kn, .int rk, .int (nI n), .ref ry, .int sp, .int lg, .ref ti, .int fo, .int pt, .ref po, .ref su, .ref sq, .ref ch, .ref vt, .ref sh])), (vt, .inl (cI, 4, .inl vf)), (ry, .inl (cI, 256, .inl (shd k (4 * n) yf)))] := hD
                refine lv_iconst (v := (0 : Int32)) hx hb d_M_keepRay_89 (by decide) ?_
                refine lv_istore_n (lv' := [(2, .int (0 : Int32)), (1, .int (nI k)), (0, .ref m0)]) hx hb d_M_keepRay_90 rfl hl (by decide) rfl (fun ls hl => ?_)
                refine lv_iload_n hx hb d_M_keepRay_91 rfl (lv_at hl 0 rfl) ?_
                refine lv_iconst (v := (4 : Int32)) hx hb d_M_keepRay_92 (by decide) ?_
                refine lv_icmp_ge (tgt := 118) hx hb d_M_keepRay_93 (by decide) (fun h99 => absurd h99 (by decide)) (fun _ => ?_)
                refine lv_aload_n hx hb d_M_keepRay_96 rfl (lv_at hl 2 rfl) ?_
                refine va_get (D := D) (ci := 7) (v := .ref ry) (C := cn_M) (T := ft_M) (N := 19) hx hb hf_M (fun _ h => h) hown hK hP 0 rfl rfl 7 (by decide) (gw.at G hx0 mw_720 rfl _) (fun _ h9 => h9) rfl d_M_keepRay_97 ?_
                refine lv_iconst (v := (4 : Int32)) hx hb d_M_keepRay_100 (by decide) ?_
                refine lv_iload_n hx hb d_M_keepRay_101 rfl (lv_at hl 1 rfl) ?_
                refine lv_imul hx hb d_M_keepRay_102 ?_
                refine tp_i (y := nI (4 * k)) (nI_mul 4 k) ?_
                refine lv_iload_n hx hb d_M_keepRay_103 rfl (lv_at hl 0 rfl) ?_
                refine lv_iadd hx hb d_M_keepRay_104 ?_
                refine tp_i (y := nI ((4 * k) + 0)) (nI_add (4 * k) 0) ?_
                refine lv_aload_n hx hb d_M_keepRay_105 rfl (lv_at hl 2 rfl) ?_
                refine va_get (D := D) (ci := 7) (v := .ref vt) (C := cn_M) (T := ft_M) (N := 19) hx hb hf_M (fun _ h => h) hown hK hP 0 rfl rfl 17 (by decide) (gw.at G hx0 mw_730 rfl _) (fun _ h9 => h9) rfl d_M_keepRay_106 ?_
                refine lv_iload_n hx hb d_M_keepRay_109 rfl (lv_at hl 0 rfl) ?_
                refine va_iald hx hb hK hP 1 0 rfl rfl (vp_in_iff.mpr (by decide)) d_M_keepRay_110 ?_
                refine tp_i (y := vf 0) (by rfl) ?_
                refine va_iast hx hb hK hP hD hS 2 0 rfl rfl (vp_in_nI (n := (4 * k) + 0) (by omega) (by omega)) d_M_keepRay_111 (fun H locs hP hD hS => ?_)
                rw [nI_clamp (n := (4 * k) + 0) (by omega)] at hP hD
                have hP : va_P D kl [(m0, .inr (7, [.int th, .int zz, .int rn, .ref rw, .int kn, .int rk, .int (nI n), .ref ry, .int sp, .int lg, .ref ti, .int fo, .int pt, .ref po, .ref su, .ref sq, .ref ch, .ref vt, .ref sh])), (vt, .inl (cI, 4, .inl vf)), (ry, .inl (cI, 256, .inl (upd (shd k (4 * n) yf) ((4 * k) + 0) (vf 0))))] H := hP
                have hD : va_D A [(m0, .inr (7, [.int th, .int zz, .int rn, .ref rw, .int kn, .int rk, .int (nI n), .ref ry, .int sp, .int lg, .ref ti, .int fo, .int pt, .ref po, .ref su, .ref sq, .ref ch, .ref vt, .ref sh])), (vt, .inl (cI, 4, .inl vf)), (ry, .inl (cI, 256, .inl (upd (shd k (4 * n) yf) ((4 * k) + 0) (vf 0))))] := hD
                refine lv_iinc (lv' := [(2, .int (1 : Int32)), (1, .int (nI k)), (0, .ref m0)]) (k := 0) (v := (1 : Int32)) hx hb d_M_keepRay_112 hl rfl (by decide) (by decide) rfl (fun ls hl => ?_)
                refine lv_goto (tgt := 91) hx hb d_M_keepRay_115 (by decide) ?_
                refine lv_iload_n hx hb d_M_keepRay_91 rfl (lv_at hl 0 rfl) ?_
                refine lv_iconst (v := (4 : Int32)) hx hb d_M_keepRay_92 (by decide) ?_
                refine lv_icmp_ge (tgt := 118) hx hb d_M_keepRay_93 (by decide) (fun h99 => absurd h99 (by decide)) (fun _ => ?_)
                refine lv_aload_n hx hb d_M_keepRay_96 rfl (lv_at hl 2 rfl) ?_
                refine va_get (D := D) (ci := 7) (v := .ref ry) (C := cn_M) (T := ft_M) (N := 19) hx hb hf_M (fun _ h => h) hown hK hP 0 rfl rfl 7 (by decide) (gw.at G hx0 mw_720 rfl _) (fun _ h9 => h9) rfl d_M_keepRay_97 ?_
                refine lv_iconst (v := (4 : Int32)) hx hb d_M_keepRay_100 (by decide) ?_
                refine lv_iload_n hx hb d_M_keepRay_101 rfl (lv_at hl 1 rfl) ?_
                refine lv_imul hx hb d_M_keepRay_102 ?_
                refine tp_i (y := nI (4 * k)) (nI_mul 4 k) ?_
                refine lv_iload_n hx hb d_M_keepRay_103 rfl (lv_at hl 0 rfl) ?_
                refine lv_iadd hx hb d_M_keepRay_104 ?_
                refine tp_i (y := nI ((4 * k) + 1)) (nI_add (4 * k) 1) ?_
                refine lv_aload_n hx hb d_M_keepRay_105 rfl (lv_at hl 2 rfl) ?_
                refine va_get (D := D) (ci := 7) (v := .ref vt) (C := cn_M) (T := ft_M) (N := 19) hx hb hf_M (fun _ h => h) hown hK hP 0 rfl rfl 17 (by decide) (gw.at G hx0 mw_730 rfl _) (fun _ h9 => h9) rfl d_M_keepRay_106 ?_
                refine lv_iload_n hx hb d_M_keepRay_109 rfl (lv_at hl 0 rfl) ?_
                refine va_iald hx hb hK hP 1 0 rfl rfl (vp_in_iff.mpr (by decide)) d_M_keepRay_110 ?_
                refine tp_i (y := vf 1) (by rfl) ?_
                refine va_iast hx hb hK hP hD hS 2 0 rfl rfl (vp_in_nI (n := (4 * k) + 1) (by omega) (by omega)) d_M_keepRay_111 (fun H locs hP hD hS => ?_)
                rw [nI_clamp (n := (4 * k) + 1) (by omega)] at hP hD
                have hP : va_P D kl [(m0, .inr (7, [.int th, .int zz, .int rn, .ref rw, .int kn, .int rk, .int (nI n), .ref ry, .int sp, .int lg, .ref ti, .int fo, .int pt, .ref po, .ref su, .ref sq, .ref ch, .ref vt, .ref sh])), (vt, .inl (cI, 4, .inl vf)), (ry, .inl (cI, 256, .inl (upd (upd (shd k (4 * n) yf) ((4 * k) + 0) (vf 0)) ((4 * k) + 1) (vf 1))))] H := hP
                have hD : va_D A [(m0, .inr (7, [.int th, .int zz, .int rn, .ref rw, .int kn, .int rk, .int (nI n), .ref ry, .int sp, .int lg, .ref ti, .int fo, .int pt, .ref po, .ref su, .ref sq, .ref ch, .ref vt, .ref sh])), (vt, .inl (cI, 4, .inl vf)), (ry, .inl (cI, 256, .inl (upd (upd (shd k (4 * n) yf) ((4 * k) + 0) (vf 0)) ((4 * k) + 1) (vf 1))))] := hD
                refine lv_iinc (lv' := [(2, .int (2 : Int32)), (1, .int (nI k)), (0, .ref m0)]) (k := 0) (v := (2 : Int32)) hx hb d_M_keepRay_112 hl rfl (by decide) (by decide) rfl (fun ls hl => ?_)
                refine lv_goto (tgt := 91) hx hb d_M_keepRay_115 (by decide) ?_
                refine lv_iload_n hx hb d_M_keepRay_91 rfl (lv_at hl 0 rfl) ?_
                refine lv_iconst (v := (4 : Int32)) hx hb d_M_keepRay_92 (by decide) ?_
                refine lv_icmp_ge (tgt := 118) hx hb d_M_keepRay_93 (by decide) (fun h99 => absurd h99 (by decide)) (fun _ => ?_)
                refine lv_aload_n hx hb d_M_keepRay_96 rfl (lv_at hl 2 rfl) ?_
                refine va_get (D := D) (ci := 7) (v := .ref ry) (C := cn_M) (T := ft_M) (N := 19) hx hb hf_M (fun _ h => h) hown hK hP 0 rfl rfl 7 (by decide) (gw.at G hx0 mw_720 rfl _) (fun _ h9 => h9) rfl d_M_keepRay_97 ?_
                refine lv_iconst (v := (4 : Int32)) hx hb d_M_keepRay_100 (by decide) ?_
                refine lv_iload_n hx hb d_M_keepRay_101 rfl (lv_at hl 1 rfl) ?_
                refine lv_imul hx hb d_M_keepRay_102 ?_
                refine tp_i (y := nI (4 * k)) (nI_mul 4 k) ?_
                refine lv_iload_n hx hb d_M_keepRay_103 rfl (lv_at hl 0 rfl) ?_
                refine lv_iadd hx hb d_M_keepRay_104 ?_
                refine tp_i (y := nI ((4 * k) + 2)) (nI_add (4 * k) 2) ?_
                refine lv_aload_n hx hb d_M_keepRay_105 rfl (lv_at hl 2 rfl) ?_
                refine va_get (D := D) (ci := 7) (v := .ref vt) (C := cn_M) (T := ft_M) (N := 19) hx hb hf_M (fun _ h => h) hown hK hP 0 rfl rfl 17 (by decide) (gw.at G hx0 mw_730 rfl _) (fun _ h9 => h9) rfl d_M_keepRay_106 ?_
                refine lv_iload_n hx hb d_M_keepRay_109 rfl (lv_at hl 0 rfl) ?_
                refine va_iald hx hb hK hP 1 0 rfl rfl (vp_in_iff.mpr (by decide)) d_M_keepRay_110 ?_
                refine tp_i (y := vf 2) (by rfl) ?_
                refine va_iast hx hb hK hP hD hS 2 0 rfl rfl (vp_in_nI (n := (4 * k) + 2) (by omega) (by omega)) d_M_keepRay_111 (fun H locs hP hD hS => ?_)
                rw [nI_clamp (n := (4 * k) + 2) (by omega)] at hP hD
                have hP : va_P D kl [(m0, .inr (7, [.int th, .int zz, .int rn, .ref rw, .int kn, .int rk, .int (nI n), .ref ry, .int sp, .int lg, .ref ti, .int fo, .int pt, .ref po, .ref su, .ref sq, .ref ch, .ref vt, .ref sh])), (vt, .inl (cI, 4, .inl vf)), (ry, .inl (cI, 256, .inl (upd (upd (upd (shd k (4 * n) yf) ((4 * k) + 0) (vf 0)) ((4 * k) + 1) (vf 1)) ((4 * k) + 2) (vf 2))))] H := hP
                have hD : va_D A [(m0, .inr (7, [.int th, .int zz, .int rn, .ref rw, .int kn, .int rk, .int (nI n), .ref ry, .int sp, .int lg, .ref ti, .int fo, .int pt, .ref po, .ref su, .ref sq, .ref ch, .ref vt, .ref sh])), (vt, .inl (cI, 4, .inl vf)), (ry, .inl (cI, 256, .inl (upd (upd (upd (shd k (4 * n) yf) ((4 * k) + 0) (vf 0)) ((4 * k) + 1) (vf 1)) ((4 * k) + 2) (vf 2))))] := hD
                refine lv_iinc (lv' := [(2, .int (3 : Int32)), (1, .int (nI k)), (0, .ref m0)]) (k := 0) (v := (3 : Int32)) hx hb d_M_keepRay_112 hl rfl (by decide) (by decide) rfl (fun ls hl => ?_)
                refine lv_goto (tgt := 91) hx hb d_M_keepRay_115 (by decide) ?_
                refine lv_iload_n hx hb d_M_keepRay_91 rfl (lv_at hl 0 rfl) ?_
                refine lv_iconst (v := (4 : Int32)) hx hb d_M_keepRay_92 (by decide) ?_
                refine lv_icmp_ge (tgt := 118) hx hb d_M_keepRay_93 (by decide) (fun h99 => absurd h99 (by decide)) (fun _ => ?_)
                refine lv_aload_n hx hb d_M_keepRay_96 rfl (lv_at hl 2 rfl) ?_
                refine va_get (D := D) (ci := 7) (v := .ref ry) (C := cn_M) (T := ft_M) (N := 19) hx hb hf_M (fun _ h => h) hown hK hP 0 rfl rfl 7 (by decide) (gw.at G hx0 mw_720 rfl _) (fun _ h9 => h9) rfl d_M_keepRay_97 ?_
                refine lv_iconst (v := (4 : Int32)) hx hb d_M_keepRay_100 (by decide) ?_
                refine lv_iload_n hx hb d_M_keepRay_101 rfl (lv_at hl 1 rfl) ?_
                refine lv_imul hx hb d_M_keepRay_102 ?_
                refine tp_i (y := nI (4 * k)) (nI_mul 4 k) ?_
                refine lv_iload_n hx hb d_M_keepRay_103 rfl (lv_at hl 0 rfl) ?_
                refine lv_iadd hx hb d_M_keepRay_104 ?_
                refine tp_i (y := nI ((4 * k) + 3)) (nI_add (4 * k) 3) ?_
                refine lv_aload_n hx hb d_M_keepRay_105 rfl (lv_at hl 2 rfl) ?_
                refine va_get (D := D) (ci := 7) (v := .ref vt) (C := cn_M) (T := ft_M) (N := 19) hx hb hf_M (fun _ h => h) hown hK hP 0 rfl rfl 17 (by decide) (gw.at G hx0 mw_730 rfl _) (fun _ h9 => h9) rfl d_M_keepRay_106 ?_
                refine lv_iload_n hx hb d_M_keepRay_109 rfl (lv_at hl 0 rfl) ?_
                refine va_iald hx hb hK hP 1 0 rfl rfl (vp_in_iff.mpr (by decide)) d_M_keepRay_110 ?_
                refine tp_i (y := vf 3) (by rfl) ?_
                refine va_iast hx hb hK hP hD hS 2 0 rfl rfl (vp_in_nI (n := (4 * k) + 3) (by omega) (by omega)) d_M_keepRay_111 (fun H locs hP hD hS => ?_)
                rw [nI_clamp (n := (4 * k) + 3) (by omega)] at hP hD
                have hP : va_P D kl [(m0, .inr (7, [.int th, .int zz, .int rn, .ref rw, .int kn, .int rk, .int (nI n), .ref ry, .int sp, .int lg, .ref ti, .int fo, .int pt, .ref po, .ref su, .ref sq, .ref ch, .ref vt, .ref sh])), (vt, .inl (cI, 4, .inl vf)), (ry, .inl (cI, 256, .inl (upd (upd (upd (upd (shd k (4 * n) yf) ((4 * k) + 0) (vf 0)) ((4 * k) + 1) (vf 1)) ((4 * k) + 2) (vf 2)) ((4 * k) + 3) (vf 3))))] H := hP
                have hD : va_D A [(m0, .inr (7, [.int th, .int zz, .int rn, .ref rw, .int kn, .int rk, .int (nI n), .ref ry, .int sp, .int lg, .ref ti, .int fo, .int pt, .ref po, .ref su, .ref sq, .ref ch, .ref vt, .ref sh])), (vt, .inl (cI, 4, .inl vf)), (ry, .inl (cI, 256, .inl (upd (upd (upd (upd (shd k (4 * n) yf) ((4 * k) + 0) (vf 0)) ((4 * k) + 1) (vf 1)) ((4 * k) + 2) (vf 2)) ((4 * k) + 3) (vf 3))))] := hD
                refine lv_iinc (lv' := [(2, .int (4 : Int32)), (1, .int (nI k)), (0, .ref m0)]) (k := 0) (v := (4 : Int32)) hx hb d_M_keepRay_112 hl rfl (by decide) (by decide) rfl (fun ls hl => ?_)
                refine lv_goto (tgt := 91) hx hb d_M_keepRay_115 (by decide) ?_
                refine lv_iload_n hx hb d_M_keepRay_91 rfl (lv_at hl 0 rfl) ?_
                refine lv_iconst (v := (4 : Int32)) hx hb d_M_keepRay_92 (by decide) ?_
                refine lv_icmp_ge (tgt := 118) hx hb d_M_keepRay_93 (by decide) (fun _ => ?_) (fun h99 => absurd h99 (by decide))
                have hF : upd (upd (upd (upd (shd k (4 * n) yf) ((4 * k) + 0) (vf 0)) ((4 * k) + 1) (vf 1)) ((4 * k) + 2) (vf 2)) ((4 * k) + 3) (vf 3) = kpF n (kpl yf vf n 0) yf vf := by rw [hpv]; rfl
                rw [hF] at hP hD
                have hP : va_P D kl [(m0, .inr (7, [.int th, .int zz, .int rn, .ref rw, .int kn, .int rk, .int (nI n), .ref ry, .int sp, .int lg, .ref ti, .int fo, .int pt, .ref po, .ref su, .ref sq, .ref ch, .ref vt, .ref sh])), (vt, .inl (cI, 4, .inl vf)), (ry, .inl (cI, 256, .inl (kpF n (kpl yf vf n 0) yf vf)))] H := hP
                have hD : va_D A [(m0, .inr (7, [.int th, .int zz, .int rn, .ref rw, .int kn, .int rk, .int (nI n), .ref ry, .int sp, .int lg, .ref ti, .int fo, .int pt, .ref po, .ref su, .ref sq, .ref ch, .ref vt, .ref sh])), (vt, .inl (cI, 4, .inl vf)), (ry, .inl (cI, 256, .inl (kpF n (kpl yf vf n 0) yf vf)))] := hD
                refine lv_aload_n hx hb d_M_keepRay_118 rfl (lv_at hl 2 rfl) ?_
                refine lv_dup hx hb d_M_keepRay_119 rfl ?_
                refine va_get (D := D) (ci := 7) (v := .int (nI n)) (C := cn_M) (T := ft_M) (N := 19) hx hb hf_M (fun _ h => h) hown hK hP 0 rfl rfl 6 (by decide) (gw.at G hx0 mw_719 rfl _) (fun _ h9 => h9) rfl d_M_keepRay_120 ?_
                refine lv_iconst (v := (1 : Int32)) hx hb d_M_keepRay_123 (by decide) ?_
                refine lv_iadd hx hb d_M_keepRay_124 ?_
                refine tp_i (y := nI (n + 1)) (nI_add n 1) ?_
                refine va_put (D := D) (ci := 7) (v := .int (nI (n + 1))) (ty := .int) (C := cn_M) (T := ft_M) (N := 19) hx hb hf_M (fun _ h => h) fy_M fk_M fn_M hown hK hP hD hS 0 rfl rfl 6 (by decide) (gw.at G hx0 mw_719 rfl _) (fun _ h9 => h9) rfl (by decide +kernel) rfl rfl (Nat.le_of_ble_eq_true rfl) d_M_keepRay_125 (fun H locs hP hD hS => ?_)
                have hP : va_P D kl [(m0, .inr (7, [.int th, .int zz, .int rn, .ref rw, .int kn, .int rk, .int (nI (n + 1)), .ref ry, .int sp, .int lg, .ref ti, .int fo, .int pt, .ref po, .ref su, .ref sq, .ref ch, .ref vt, .ref sh])), (vt, .inl (cI, 4, .inl vf)), (ry, .inl (cI, 256, .inl (kpF n (kpl yf vf n 0) yf vf)))] H := hP
                have hD : va_D A [(m0, .inr (7, [.int th, .int zz, .int rn, .ref rw, .int kn, .int rk, .int (nI (n + 1)), .ref ry, .int sp, .int lg, .ref ti, .int fo, .int pt, .ref po, .ref su, .ref sq, .ref ch, .ref vt, .ref sh])), (vt, .inl (cI, 4, .inl vf)), (ry, .inl (cI, 256, .inl (kpF n (kpl yf vf n 0) yf vf)))] := hD
                rw [← hQe]
                exact tx_mono (fun _ h => tx_Z.of h) (W.vret hx hb hr (fun t ht hW => ⟨⟨[(m0, .inr (7, [.int th, .int zz, .int rn, .ref rw, .int kn, .int rk, .int (nI (n + 1)), .ref ry, .int sp, .int lg, .ref ti, .int fo, .int pt, .ref po, .ref su, .ref sq, .ref ch, .ref vt, .ref sh])), (vt, .inl (cI, 4, .inl vf)), (ry, .inl (cI, 256, .inl (kpF n (kpl yf vf n 0) yf vf)))], ⟨rfl, rfl⟩, by rw [ht]; exact hP.sub [0, 1, 2] rfl, hD.sub [0, 1, 2] (by decide) rfl⟩, hS.F ht⟩) hS.2.2 d_M_keepRay_128)
              · have h_2 : ¬ ((u - 1) < (4 * k)) := fun z99 => h_2 ((nI_ltI (a := u - 1) (b := 4 * k) (by omega) (by omega)).mpr z99)
                refine lv_aload_n hx hb d_M_keepRay_69 rfl (lv_at hl 2 rfl) ?_
                refine va_get (D := D) (ci := 7) (v := .ref ry) (C := cn_M) (T := ft_M) (N := 19) hx hb hf_M (fun _ h => h) hown hK hP 0 rfl rfl 7 (by decide) (gw.at G hx0 mw_720 rfl _) (fun _ h9 => h9) rfl d_M_keepRay_70 ?_
                refine lv_iload_n hx hb d_M_keepRay_73 rfl (lv_at hl 0 rfl) ?_
                refine lv_iconst (v := (4 : Int32)) hx hb d_M_keepRay_74 (by decide) ?_
                refine lv_iadd hx hb d_M_keepRay_75 ?_
                refine tp_i (y := nI ((u - 1) + 4)) (nI_add (u - 1) 4) ?_
                refine lv_aload_n hx hb d_M_keepRay_76 rfl (lv_at hl 2 rfl) ?_
                refine va_get (D := D) (ci := 7) (v := .ref ry) (C := cn_M) (T := ft_M) (N := 19) hx hb hf_M (fun _ h => h) hown hK hP 0 rfl rfl 7 (by decide) (gw.at G hx0 mw_720 rfl _) (fun _ h9 => h9) rfl d_M_keepRay_77 ?_
                refine lv_iload_n hx hb d_M_keepRay_80 rfl (lv_at hl 0 rfl) ?_
                refine va_iald hx hb hK hP 2 0 rfl rfl (vp_in_nI (n := u - 1) (by omega) (by omega)) d_M_keepRay_81 ?_
                refine tp_i (y := f2 (u - 1)) (congrArg f2 (nI_clamp (n := u - 1) (by omega))) ?_
                refine va_iast hx hb hK hP hD hS 2 0 rfl rfl (vp_in_nI (n := (u - 1) + 4) (by omega) (by omega)) d_M_keepRay_82 (fun H locs hP hD hS => ?_)
                rw [nI_clamp (n := (u - 1) + 4) (by omega)] at hP hD
                have hP : va_P D kl [(m0, .inr (7, [.int th, .int zz, .int rn, .ref rw, .int kn, .int rk, .int (nI n), .ref ry, .int sp, .int lg, .ref ti, .int fo, .int pt, .ref po, .ref su, .ref sq, .ref ch, .ref vt, .ref sh])), (vt, .inl (cI, 4, .inl vf)), (ry, .inl (cI, 256, .inl (upd f2 ((u - 1) + 4) (f2 (u - 1)))))] H := hP
                have hD : va_D A [(m0, .inr (7, [.int th, .int zz, .int rn, .ref rw, .int kn, .int rk, .int (nI n), .ref ry, .int sp, .int lg, .ref ti, .int fo, .int pt, .ref po, .ref su, .ref sq, .ref ch, .ref vt, .ref sh])), (vt, .inl (cI, 4, .inl vf)), (ry, .inl (cI, 256, .inl (upd f2 ((u - 1) + 4) (f2 (u - 1)))))] := hD
                refine lv_iinc (lv' := [(2, .int (nI (u - 1) - (1 : Int32))), (1, .int (nI k)), (0, .ref m0)]) (k := 0) (v := nI (u - 1) - (1 : Int32)) hx hb d_M_keepRay_83 hl rfl (by rw [Int32.sub_eq_add_neg]; rfl) (by decide) rfl (fun ls hl => ?_)
                refine lv_goto (tgt := 62) hx hb d_M_keepRay_86 (by decide) ?_
                exact ih_62 _ (by omega) (u - 1) (upd f2 ((u - 1) + 4) (f2 (u - 1))) ls H locs rfl (hsh.trans (shd_s hup (by omega))) (by omega) (lv_sub hl [0, 1, 2] rfl) (hP.sub [0, 1, 2] rfl) (hD.sub [0, 1, 2] (by decide) rfl) hS
        exact lp_62 _ (4 * n) yf ls H locs rfl rfl (Nat.le_refl _) (lv_sub hl [0, 1, 2] rfl) (hP.sub [0, 1, 2] rfl) (hD.sub [0, 1, 2] (by decide) rfl) hS
      · have h_1 : ¬ (n ≤ k) := fun z99 => h_1 ((nI_leI (a := n) (b := k) (by omega) (by omega)).mpr z99)
        refine lv_aload_n hx hb d_M_keepRay_10 rfl (lv_at hl 1 rfl) ?_
        refine lv_aload_n hx hb d_M_keepRay_11 rfl (lv_at hl 1 rfl) ?_
        refine va_get (D := D) (ci := 7) (v := .ref ry) (C := cn_M) (T := ft_M) (N := 19) hx hb hf_M (fun _ h => h) hown hK hP 0 rfl rfl 7 (by decide) (gw.at G hx0 mw_720 rfl _) (fun _ h9 => h9) rfl d_M_keepRay_12 ?_
        refine lv_iconst (v := (4 : Int32)) hx hb d_M_keepRay_15 (by decide) ?_
        refine lv_iload_n hx hb d_M_keepRay_16 rfl (lv_at hl 0 rfl) ?_
        refine lv_imul hx hb d_M_keepRay_17 ?_
        refine tp_i (y := nI (4 * k)) (nI_mul 4 k) ?_
        refine cx_call (D := D) (cl := kl) (ws := _) (wc := [(m0, .inr (7, [.int th, .int zz, .int rn, .ref rw, .int kn, .int rk, .int (nI n), .ref ry, .int sp, .int lg, .ref ti, .int fo, .int pt, .ref po, .ref su, .ref sq, .ref ch, .ref vt, .ref sh])), (vt, .inl (cI, 4, .inl vf)), (ry, .inl (cI, 256, .inl yf))]) (wr := []) (tx_runV (C := cn_M) (b := m0) (As := [.ref ry, .int (nI (4 * k))]) (rest := []) hx hb hml hown (c_M_compare E H.size m0 rw ry ti po su sq ch vt sh th zz rn kn rk (nI n) sp lg fo pt vf ry 256 yf (4 * k) (by omega) (by decide)) (cx_C (b0 := b0) G hx0 mw_848 mw_9 ny_M_compare (by decide)) (gw.at G hx0 mw_845 rfl _) (gw.at G hx0 mw_847 rfl _) (gw.at G hx0 ms_M_compare rfl _) ⟨cx_blind, va_recv hK hP (q0 := 0) (ci := 7) (q := (cn_M, ft_M, 19)) rfl rfl, (cx_pre (s := s) hx0 hP hD hS hA0 [0, 1, 2] rfl rfl (by decide))⟩ rfl rfl hl.1 rfl (lv_room (Nat.le_of_ble_eq_true rfl)) d_M_keepRay_18 ⟨by decide, by decide⟩) hP hD hS hA [0, 1, 2] [] rfl rfl (by decide) (by decide) (fun v t w1 H locs ht hW9 hp hP hD hS => ?_) (fun x t w1 H locs ht hW9 hp hP hD hS => by obtain ⟨h9, -⟩ := hp; cases h9)
        obtain ⟨h9, rfl⟩ := hp
        cases h9
        refine W.eq (g2 := F0 m 21 ls [.int (cmp4 yf (4 * k) vf)]) rfl ?_
        refine W.widen (k := 0) (n := 0) (by decide) (by decide) ?_
        have hP : va_P D kl [(m0, .inr (7, [.int th, .int zz, .int rn, .ref rw, .int kn, .int rk, .int (nI n), .ref ry, .int sp, .int lg, .ref ti, .int fo, .int pt, .ref po, .ref su, .ref sq, .ref ch, .ref vt, .ref sh])), (vt, .inl (cI, 4, .inl vf)), (ry, .inl (cI, 256, .inl yf))] H := hP
        have hD : va_D A [(m0, .inr (7, [.int th, .int zz, .int rn, .ref rw, .int kn, .int rk, .int (nI n), .ref ry, .int sp, .int lg, .ref ti, .int fo, .int pt, .ref po, .ref su, .ref sq, .ref ch, .ref vt, .ref sh])), (vt, .inl (cI, 4, .inl vf)), (ry, .inl (cI, 256, .inl yf))] := hD
        refine lv_if_ge (tgt := 30) hx hb d_M_keepRay_21 (by decide) (fun h_3 => ?_) (fun h_3 => ?_)
        · have hpv : kpl yf vf n 0 = k := hpo.trans (kpl_y (by omega) (Int32.not_lt.mpr h_3))
          refine lv_iload_n hx hb d_M_keepRay_30 rfl (lv_at hl 0 rfl) ?_
          refine lv_aload_n hx hb d_M_keepRay_31 rfl (lv_at hl 1 rfl) ?_
          refine va_get (D := D) (ci := 7) (v := .int (nI n)) (C := cn_M) (T := ft_M) (N := 19) hx hb hf_M (fun _ h => h) hown hK hP 0 rfl rfl 6 (by decide) (gw.at G hx0 mw_719 rfl _) (fun _ h9 => h9) rfl d_M_keepRay_32 ?_
          refine lv_icmp_ge (tgt := 53) hx hb d_M_keepRay_35 (by decide) (fun h99 => absurd h99 (fun z99 => absurd ((nI_leI (a := n) (b := k) (by omega) (by omega)).mp z99) (by omega))) (fun _ => ?_)
          refine lv_aload_n hx hb d_M_keepRay_38 rfl (lv_at hl 1 rfl) ?_
          refine lv_aload_n hx hb d_M_keepRay_39 rfl (lv_at hl 1 rfl) ?_
          refine va_get (D := D) (ci := 7) (v := .ref ry) (C := cn_M) (T := ft_M) (N := 19) hx hb hf_M (fun _ h => h) hown hK hP 0 rfl rfl 7 (by decide) (gw.at G hx0 mw_720 rfl _) (fun _ h9 => h9) rfl d_M_keepRay_40 ?_
          refine lv_iconst (v := (4 : Int32)) hx hb d_M_keepRay_43 (by decide) ?_
          refine lv_iload_n hx hb d_M_keepRay_44 rfl (lv_at hl 0 rfl) ?_
          refine lv_imul hx hb d_M_keepRay_45 ?_
          refine tp_i (y := nI (4 * k)) (nI_mul 4 k) ?_
          refine cx_call (D := D) (cl := kl) (ws := _) (wc := [(m0, .inr (7, [.int th, .int zz, .int rn, .ref rw, .int kn, .int rk, .int (nI n), .ref ry, .int sp, .int lg, .ref ti, .int fo, .int pt, .ref po, .ref su, .ref sq, .ref ch, .ref vt, .ref sh])), (vt, .inl (cI, 4, .inl vf)), (ry, .inl (cI, 256, .inl yf))]) (wr := []) (tx_runV (C := cn_M) (b := m0) (As := [.ref ry, .int (nI (4 * k))]) (rest := []) hx hb hml hown (c_M_compare E H.size m0 rw ry ti po su sq ch vt sh th zz rn kn rk (nI n) sp lg fo pt vf ry 256 yf (4 * k) (by omega) (by decide)) (cx_C (b0 := b0) G hx0 mw_848 mw_9 ny_M_compare (by decide)) (gw.at G hx0 mw_845 rfl _) (gw.at G hx0 mw_847 rfl _) (gw.at G hx0 ms_M_compare rfl _) ⟨cx_blind, va_recv hK hP (q0 := 0) (ci := 7) (q := (cn_M, ft_M, 19)) rfl rfl, (cx_pre (s := s) hx0 hP hD hS hA0 [0, 1, 2] rfl rfl (by decide))⟩ rfl rfl hl.1 rfl (lv_room (Nat.le_of_ble_eq_true rfl)) d_M_keepRay_46 ⟨by decide, by decide⟩) hP hD hS hA [0, 1, 2] [] rfl rfl (by decide) (by decide) (fun v t w1 H locs ht hW9 hp hP hD hS => ?_) (fun x t w1 H locs ht hW9 hp hP hD hS => by obtain ⟨h9, -⟩ := hp; cases h9)
          obtain ⟨h9, rfl⟩ := hp
          cases h9
          refine W.eq (g2 := F0 m 49 ls [.int (cmp4 yf (4 * k) vf)]) rfl ?_
          refine W.widen (k := 0) (n := 0) (by decide) (by decide) ?_
          have hP : va_P D kl [(m0, .inr (7, [.int th, .int zz, .int rn, .ref rw, .int kn, .int rk, .int (nI n), .ref ry, .int sp, .int lg, .ref ti, .int fo, .int pt, .ref po, .ref su, .ref sq, .ref ch, .ref vt, .ref sh])), (vt, .inl (cI, 4, .inl vf)), (ry, .inl (cI, 256, .inl yf))] H := hP
          have hD : va_D A [(m0, .inr (7, [.int th, .int zz, .int rn, .ref rw, .int kn, .int rk, .int (nI n), .ref ry, .int sp, .int lg, .ref ti, .int fo, .int pt, .ref po, .ref su, .ref sq, .ref ch, .ref vt, .ref sh])), (vt, .inl (cI, 4, .inl vf)), (ry, .inl (cI, 256, .inl yf))] := hD
          refine lv_if_ne (tgt := 53) hx hb d_M_keepRay_49 (by decide) (fun h_4 => ?_) (fun h_4 => ?_)
          · refine lv_iconst (v := (4 : Int32)) hx hb d_M_keepRay_53 (by decide) ?_
            refine lv_aload_n hx hb d_M_keepRay_54 rfl (lv_at hl 1 rfl) ?_
            refine va_get (D := D) (ci := 7) (v := .int (nI n)) (C := cn_M) (T := ft_M) (N := 19) hx hb hf_M (fun _ h => h) hown hK hP 0 rfl rfl 6 (by decide) (gw.at G hx0 mw_719 rfl _) (fun _ h9 => h9) rfl d_M_keepRay_55 ?_
            refine lv_imul hx hb d_M_keepRay_58 ?_
            refine tp_i (y := nI (4 * n)) (nI_mul 4 n) ?_
            refine lv_iconst (v := (1 : Int32)) hx hb d_M_keepRay_59 (by decide) ?_
            refine lv_isub hx hb d_M_keepRay_60 ?_
            refine lv_istore_n (lv' := [(2, .int ((nI (4 * n)) - (1 : Int32))), (1, .int (nI k)), (0, .ref m0)]) hx hb d_M_keepRay_61 rfl hl (by decide) rfl (fun ls hl => ?_)
            have lp_62 : ∀ (n9 : Nat) (u : Nat) (f2 : Nat → Int32) (ls : Array Slot) (H : Heap) (locs : List Loc), u = n9 → (shd k (4 * n) yf = shd k u f2) → (u ≤ 4 * n) → lv_has ls 3 [(2, .int (nI u - (1 : Int32))), (1, .int (nI k)), (0, .ref m0)] → va_P D kl [(m0, .inr (7, [.int th, .int zz, .int rn, .ref rw, .int kn, .int rk, .int (nI n), .ref ry, .int sp, .int lg, .ref ti, .int fo, .int pt, .ref po, .ref su, .ref sq, .ref ch, .ref vt, .ref sh])), (vt, .inl (cI, 4, .inl vf)), (ry, .inl (cI, 256, .inl f2))] H → va_D A [(m0, .inr (7, [.int th, .int zz, .int rn, .ref rw, .int kn, .int rk, .int (nI n), .ref ry, .int sp, .int lg, .ref ti, .int fo, .int pt, .ref po, .ref su, .ref sq, .ref ch, .ref vt, .ref sh])), (vt, .inl (cI, 4, .inl vf)), (ry, .inl (cI, 256, .inl f2))] → va_S A s.heap H locs → W p l e ({ frames := 1, cells := 0, slots := 0, locals := 23 } : Room) s m ([.ref m0] : List Value).toArray below meth c H locs 0 0 Q (F0 m 62 ls []) := by
              intro n9
              induction n9 using Nat.strongRecOn with
              | ind n9 ih_62 =>
                intro u f2 ls H locs hm_62 hsh hu9 hl hP hD hS
                rcases Nat.eq_zero_or_pos u with hup | hup
                · rw [show nI u - (1 : Int32) = (-1 : Int32) by rw [hup]; decide] at hl
                  refine lv_iload_n hx hb d_M_keepRay_62 rfl (lv_at hl 0 rfl) ?_
                  refine lv_iconst (v := (4 : Int32)) hx hb d_M_keepRay_63 (by decide) ?_
                  refine lv_iload_n hx hb d_M_keepRay_64 rfl (lv_at hl 1 rfl) ?_
                  refine lv_imul hx hb d_M_keepRay_65 ?_
                  refine tp_i (y := nI (4 * k)) (nI_mul 4 k) ?_
                  refine lv_icmp_lt (tgt := 89) hx hb d_M_keepRay_66 (by decide) (fun _ => ?_) (fun h99 => absurd h99 (not_not_intro (m1_lt (n := 4 * k) (by omega))))
                  have hsf := hsh.trans (shd_e (k := k) (u := u) (f := f2) (by omega))
                  rw [← hsf] at hP hD
                  have hP : va_P D kl [(m0, .inr (7, [.int th, .int zz, .int rn, .ref rw, .int kn, .int rk, .int (nI n), .ref ry, .int sp, .int lg, .ref ti, .int fo, .int pt, .ref po, .ref su, .ref sq, .ref ch, .ref vt, .ref sh])), (vt, .inl (cI, 4, .inl vf)), (ry, .inl (cI, 256, .inl (shd k (4 * n) yf)))] H := hP
                  have hD : va_D A [(m0, .inr (7, [.int th, .int zz, .int rn, .ref rw, .int kn, .int rk, .int (nI n), .ref ry, .int sp, .int lg, .ref ti, .int fo, .int pt, .ref po, .ref su, .ref sq, .ref ch, .ref vt, .ref sh])), (vt, .inl (cI, 4, .inl vf)), (ry, .inl (cI, 256, .inl (shd k (4 * n) yf)))] := hD
                  refine lv_iconst (v := (0 : Int32)) hx hb d_M_keepRay_89 (by decide) ?_
                  refine lv_istore_n (lv' := [(2, .int (0 : Int32)), (1, .int (nI k)), (0, .ref m0)]) hx hb d_M_keepRay_90 rfl hl (by decide) rfl (fun ls hl => ?_)
                  refine lv_iload_n hx hb d_M_keepRay_91 rfl (lv_at hl 0 rfl) ?_
                  refine lv_iconst (v := (4 : Int32)) hx hb d_M_keepRay_92 (by decide) ?_
                  refine lv_icmp_ge (tgt := 118) hx hb d_M_keepRay_93 (by decide) (fun h99 => absurd h99 (by decide)) (fun _ => ?_)
                  refine lv_aload_n hx hb d_M_keepRay_96 rfl (lv_at hl 2 rfl) ?_
                  refine va_get (D := D) (ci := 7) (v := .ref ry) (C := cn_M) (T := ft_M) (N := 19) hx hb hf_M (fun _ h => h) hown hK hP 0 rfl rfl 7 (by decide) (gw.at G hx0 mw_720 rfl _) (fun _ h9 => h9) rfl d_M_keepRay_97 ?_
                  refine lv_iconst (v := (4 : Int32)) hx hb d_M_keepRay_100 (by decide) ?_
                  refine lv_iload_n hx hb d_M_keepRay_101 rfl (lv_at hl 1 rfl) ?_
                  refine lv_imul hx hb d_M_keepRay_102 ?_
                  refine tp_i (y := nI (4 * k)) (nI_mul 4 k) ?_
                  refine lv_iload_n hx hb d_M_keepRay_103 rfl (lv_at hl 0 rfl) ?_
                  refine lv_iadd hx hb d_M_keepRay_104 ?_
                  refine tp_i (y := nI ((4 * k) + 0)) (nI_add (4 * k) 0) ?_
                  refine lv_aload_n hx hb d_M_keepRay_105 rfl (lv_at hl 2 rfl) ?_
                  refine va_get (D := D) (ci := 7) (v := .ref vt) (C := cn_M) (T := ft_M) (N := 19) hx hb hf_M (fun _ h => h) hown hK hP 0 rfl rfl 17 (by decide) (gw.at G hx0 mw_730 rfl _) (fun _ h9 => h9) rfl d_M_keepRay_106 ?_
                  refine lv_iload_n hx hb d_M_keepRay_109 rfl (lv_at hl 0 rfl) ?_
                  refine va_iald hx hb hK hP 1 0 rfl rfl (vp_in_iff.mpr (by decide)) d_M_keepRay_110 ?_
                  refine tp_i (y := vf 0) (by rfl) ?_
                  refine va_iast hx hb hK hP hD hS 2 0 rfl rfl (vp_in_nI (n := (4 * k) + 0) (by omega) (by omega)) d_M_keepRay_111 (fun H locs hP hD hS => ?_)
                  rw [nI_clamp (n := (4 * k) + 0) (by omega)] at hP hD
                  have hP : va_P D kl [(m0, .inr (7, [.int th, .int zz, .int rn, .ref rw, .int kn, .int rk, .int (nI n), .ref ry, .int sp, .int lg, .ref ti, .int fo, .int pt, .ref po, .ref su, .ref sq, .ref ch, .ref vt, .ref sh])), (vt, .inl (cI, 4, .inl vf)), (ry, .inl (cI, 256, .inl (upd (shd k (4 * n) yf) ((4 * k) + 0) (vf 0))))] H := hP
                  have hD : va_D A [(m0, .inr (7, [.int th, .int zz, .int rn, .ref rw, .int kn, .int rk, .int (nI n), .ref ry, .int sp, .int lg, .ref ti, .int fo, .int pt, .ref po, .ref su, .ref sq, .ref ch, .ref vt, .ref sh])), (vt, .inl (cI, 4, .inl vf)), (ry, .inl (cI, 256, .inl (upd (shd k (4 * n) yf) ((4 * k) + 0) (vf 0))))] := hD
                  refine lv_iinc (lv' := [(2, .int (1 : Int32)), (1, .int (nI k)), (0, .ref m0)]) (k := 0) (v := (1 : Int32)) hx hb d_M_keepRay_112 hl rfl (by decide) (by decide) rfl (fun ls hl => ?_)
                  refine lv_goto (tgt := 91) hx hb d_M_keepRay_115 (by decide) ?_
                  refine lv_iload_n hx hb d_M_keepRay_91 rfl (lv_at hl 0 rfl) ?_
                  refine lv_iconst (v := (4 : Int32)) hx hb d_M_keepRay_92 (by decide) ?_
                  refine lv_icmp_ge (tgt := 118) hx hb d_M_keepRay_93 (by decide) (fun h99 => absurd h99 (by decide)) (fun _ => ?_)
                  refine lv_aload_n hx hb d_M_keepRay_96 rfl (lv_at hl 2 rfl) ?_
                  refine va_get (D := D) (ci := 7) (v := .ref ry) (C := cn_M) (T := ft_M) (N := 19) hx hb hf_M (fun _ h => h) hown hK hP 0 rfl rfl 7 (by decide) (gw.at G hx0 mw_720 rfl _) (fun _ h9 => h9) rfl d_M_keepRay_97 ?_
                  refine lv_iconst (v := (4 : Int32)) hx hb d_M_keepRay_100 (by decide) ?_
                  refine lv_iload_n hx hb d_M_keepRay_101 rfl (lv_at hl 1 rfl) ?_
                  refine lv_imul hx hb d_M_keepRay_102 ?_
                  refine tp_i (y := nI (4 * k)) (nI_mul 4 k) ?_
                  refine lv_iload_n hx hb d_M_keepRay_103 rfl (lv_at hl 0 rfl) ?_
                  refine lv_iadd hx hb d_M_keepRay_104 ?_
                  refine tp_i (y := nI ((4 * k) + 1)) (nI_add (4 * k) 1) ?_
                  refine lv_aload_n hx hb d_M_keepRay_105 rfl (lv_at hl 2 rfl) ?_
                  refine va_get (D := D) (ci := 7) (v := .ref vt) (C := cn_M) (T := ft_M) (N := 19) hx hb hf_M (fun _ h => h) hown hK hP 0 rfl rfl 17 (by decide) (gw.at G hx0 mw_730 rfl _) (fun _ h9 => h9) rfl d_M_keepRay_106 ?_
                  refine lv_iload_n hx hb d_M_keepRay_109 rfl (lv_at hl 0 rfl) ?_
                  refine va_iald hx hb hK hP 1 0 rfl rfl (vp_in_iff.mpr (by decide)) d_M_keepRay_110 ?_
                  refine tp_i (y := vf 1) (by rfl) ?_
                  refine va_iast hx hb hK hP hD hS 2 0 rfl rfl (vp_in_nI (n := (4 * k) + 1) (by omega) (by omega)) d_M_keepRay_111 (fun H locs hP hD hS => ?_)
                  rw [nI_clamp (n := (4 * k) + 1) (by omega)] at hP hD
                  have hP : va_P D kl [(m0, .inr (7, [.int th, .int zz, .int rn, .ref rw, .int kn, .int rk, .int (nI n), .ref ry, .int sp, .int lg, .ref ti, .int fo, .int pt, .ref po, .ref su, .ref sq, .ref ch, .ref vt, .ref sh])), (vt, .inl (cI, 4, .inl vf)), (ry, .inl (cI, 256, .inl (upd (upd (shd k (4 * n) yf) ((4 * k) + 0) (vf 0)) ((4 * k) + 1) (vf 1))))] H := hP
                  have hD : va_D A [(m0, .inr (7, [.int th, .int zz, .int rn, .ref rw, .int kn, .int rk, .int (nI n), .ref ry, .int sp, .int lg, .ref ti, .int fo, .int pt, .ref po, .ref su, .ref sq, .ref ch, .ref vt, .ref sh])), (vt, .inl (cI, 4, .inl vf)), (ry, .inl (cI, 256, .inl (upd (upd (shd k (4 * n) yf) ((4 * k) + 0) (vf 0)) ((4 * k) + 1) (vf 1))))] := hD
                  refine lv_iinc (lv' := [(2, .int (2 : Int32)), (1, .int (nI k)), (0, .ref m0)]) (k := 0) (v := (2 : Int32)) hx hb d_M_keepRay_112 hl rfl (by decide) (by decide) rfl (fun ls hl => ?_)
                  refine lv_goto (tgt := 91) hx hb d_M_keepRay_115 (by decide) ?_
                  refine lv_iload_n hx hb d_M_keepRay_91 rfl (lv_at hl 0 rfl) ?_
                  refine lv_iconst (v := (4 : Int32)) hx hb d_M_keepRay_92 (by decide) ?_
                  refine lv_icmp_ge (tgt := 118) hx hb d_M_keepRay_93 (by decide) (fun h99 => absurd h99 (by decide)) (fun _ => ?_)
                  refine lv_aload_n hx hb d_M_keepRay_96 rfl (lv_at hl 2 rfl) ?_
                  refine va_get (D := D) (ci := 7) (v := .ref ry) (C := cn_M) (T := ft_M) (N := 19) hx hb hf_M (fun _ h => h) hown hK hP 0 rfl rfl 7 (by decide) (gw.at G hx0 mw_720 rfl _) (fun _ h9 => h9) rfl d_M_keepRay_97 ?_
                  refine lv_iconst (v := (4 : Int32)) hx hb d_M_keepRay_100 (by decide) ?_
                  refine lv_iload_n hx hb d_M_keepRay_101 rfl (lv_at hl 1 rfl) ?_
                  refine lv_imul hx hb d_M_keepRay_102 ?_
                  refine tp_i (y := nI (4 * k)) (nI_mul 4 k) ?_
                  refine lv_iload_n hx hb d_M_keepRay_103 rfl (lv_at hl 0 rfl) ?_
                  refine lv_iadd hx hb d_M_keepRay_104 ?_
                  refine tp_i (y := nI ((4 * k) + 2)) (nI_add (4 * k) 2) ?_
                  refine lv_aload_n hx hb d_M_keepRay_105 rfl (lv_at hl 2 rfl) ?_
                  refine va_get (D := D) (ci := 7) (v := .ref vt) (C := cn_M) (T := ft_M) (N := 19) hx hb hf_M (fun _ h => h) hown hK hP 0 rfl rfl 17 (by decide) (gw.at G hx0 mw_730 rfl _) (fun _ h9 => h9) rfl d_M_keepRay_106 ?_
                  refine lv_iload_n hx hb d_M_keepRay_109 rfl (lv_at hl 0 rfl) ?_
                  refine va_iald hx hb hK hP 1 0 rfl rfl (vp_in_iff.mpr (by decide)) d_M_keepRay_110 ?_
                  refine tp_i (y := vf 2) (by rfl) ?_
                  refine va_iast hx hb hK hP hD hS 2 0 rfl rfl (vp_in_nI (n := (4 * k) + 2) (by omega) (by omega)) d_M_keepRay_111 (fun H locs hP hD hS => ?_)
                  rw [nI_clamp (n := (4 * k) + 2) (by omega)] at hP hD
                  have hP : va_P D kl [(m0, .inr (7, [.int th, .int zz, .int rn, .ref rw, .int kn, .int rk, .int (nI n), .ref ry, .int sp, .int lg, .ref ti, .int fo, .int pt, .ref po, .ref su, .ref sq, .ref ch, .ref vt, .ref sh])), (vt, .inl (cI, 4, .inl vf)), (ry, .inl (cI, 256, .inl (upd (upd (upd (shd k (4 * n) yf) ((4 * k) + 0) (vf 0)) ((4 * k) + 1) (vf 1)) ((4 * k) + 2) (vf 2))))] H := hP
                  have hD : va_D A [(m0, .inr (7, [.int th, .int zz, .int rn, .ref rw, .int kn, .int rk, .int (nI n), .ref ry, .int sp, .int lg, .ref ti, .int fo, .int pt, .ref po, .ref su, .ref sq, .ref ch, .ref vt, .ref sh])), (vt, .inl (cI, 4, .inl vf)), (ry, .inl (cI, 256, .inl (upd (upd (upd (shd k (4 * n) yf) ((4 * k) + 0) (vf 0)) ((4 * k) + 1) (vf 1)) ((4 * k) + 2) (vf 2))))] := hD
                  refine lv_iinc (lv' := [(2, .int (3 : Int32)), (1, .int (nI k)), (0, .ref m0)]) (k := 0) (v := (3 : Int32)) hx hb d_M_keepRay_112 hl rfl (by decide) (by decide) rfl (fun ls hl => ?_)
                  refine lv_goto (tgt := 91) hx hb d_M_keepRay_115 (by decide) ?_
                  refine lv_iload_n hx hb d_M_keepRay_91 rfl (lv_at hl 0 rfl) ?_
                  refine lv_iconst (v := (4 : Int32)) hx hb d_M_keepRay_92 (by decide) ?_
                  refine lv_icmp_ge (tgt := 118) hx hb d_M_keepRay_93 (by decide) (fun h99 => absurd h99 (by decide)) (fun _ => ?_)
                  refine lv_aload_n hx hb d_M_keepRay_96 rfl (lv_at hl 2 rfl) ?_
                  refine va_get (D := D) (ci := 7) (v := .ref ry) (C := cn_M) (T := ft_M) (N := 19) hx hb hf_M (fun _ h => h) hown hK hP 0 rfl rfl 7 (by decide) (gw.at G hx0 mw_720 rfl _) (fun _ h9 => h9) rfl d_M_keepRay_97 ?_
                  refine lv_iconst (v := (4 : Int32)) hx hb d_M_keepRay_100 (by decide) ?_
                  refine lv_iload_n hx hb d_M_keepRay_101 rfl (lv_at hl 1 rfl) ?_
                  refine lv_imul hx hb d_M_keepRay_102 ?_
                  refine tp_i (y := nI (4 * k)) (nI_mul 4 k) ?_
                  refine lv_iload_n hx hb d_M_keepRay_103 rfl (lv_at hl 0 rfl) ?_
                  refine lv_iadd hx hb d_M_keepRay_104 ?_
                  refine tp_i (y := nI ((4 * k) + 3)) (nI_add (4 * k) 3) ?_
                  refine lv_aload_n hx hb d_M_keepRay_105 rfl (lv_at hl 2 rfl) ?_
                  refine va_get (D := D) (ci := 7) (v := .ref vt) (C := cn_M) (T := ft_M) (N := 19) hx hb hf_M (fun _ h => h) hown hK hP 0 rfl rfl 17 (by decide) (gw.at G hx0 mw_730 rfl _) (fun _ h9 => h9) rfl d_M_keepRay_106 ?_
                  refine lv_iload_n hx hb d_M_keepRay_109 rfl (lv_at hl 0 rfl) ?_
                  refine va_iald hx hb hK hP 1 0 rfl rfl (vp_in_iff.mpr (by decide)) d_M_keepRay_110 ?_
                  refine tp_i (y := vf 3) (by rfl) ?_
                  refine va_iast hx hb hK hP hD hS 2 0 rfl rfl (vp_in_nI (n := (4 * k) + 3) (by omega) (by omega)) d_M_keepRay_111 (fun H locs hP hD hS => ?_)
                  rw [nI_clamp (n := (4 * k) + 3) (by omega)] at hP hD
                  have hP : va_P D kl [(m0, .inr (7, [.int th, .int zz, .int rn, .ref rw, .int kn, .int rk, .int (nI n), .ref ry, .int sp, .int lg, .ref ti, .int fo, .int pt, .ref po, .ref su, .ref sq, .ref ch, .ref vt, .ref sh])), (vt, .inl (cI, 4, .inl vf)), (ry, .inl (cI, 256, .inl (upd (upd (upd (upd (shd k (4 * n) yf) ((4 * k) + 0) (vf 0)) ((4 * k) + 1) (vf 1)) ((4 * k) + 2) (vf 2)) ((4 * k) + 3) (vf 3))))] H := hP
                  have hD : va_D A [(m0, .inr (7, [.int th, .int zz, .int rn, .ref rw, .int kn, .int rk, .int (nI n), .ref ry, .int sp, .int lg, .ref ti, .int fo, .int pt, .ref po, .ref su, .ref sq, .ref ch, .ref vt, .ref sh])), (vt, .inl (cI, 4, .inl vf)), (ry, .inl (cI, 256, .inl (upd (upd (upd (upd (shd k (4 * n) yf) ((4 * k) + 0) (vf 0)) ((4 * k) + 1) (vf 1)) ((4 * k) + 2) (vf 2)) ((4 * k) + 3) (vf 3))))] := hD
                  refine lv_iinc (lv' := [(2, .int (4 : Int32)), (1, .int (nI k)), (0, .ref m0)]) (k := 0) (v := (4 : Int32)) hx hb d_M_keepRay_112 hl rfl (by decide) (by decide) rfl (fun ls hl => ?_)
                  refine lv_goto (tgt := 91) hx hb d_M_keepRay_115 (by decide) ?_
                  refine lv_iload_n hx hb d_M_keepRay_91 rfl (lv_at hl 0 rfl) ?_
                  refine lv_iconst (v := (4 : Int32)) hx hb d_M_keepRay_92 (by decide) ?_
                  refine lv_icmp_ge (tgt := 118) hx hb d_M_keepRay_93 (by decide) (fun _ => ?_) (fun h99 => absurd h99 (by decide))
                  have hF : upd (upd (upd (upd (shd k (4 * n) yf) ((4 * k) + 0) (vf 0)) ((4 * k) + 1) (vf 1)) ((4 * k) + 2) (vf 2)) ((4 * k) + 3) (vf 3) = kpF n (kpl yf vf n 0) yf vf := by rw [hpv]; rfl
                  rw [hF] at hP hD
                  have hP : va_P D kl [(m0, .inr (7, [.int th, .int zz, .int rn, .ref rw, .int kn, .int rk, .int (nI n), .ref ry, .int sp, .int lg, .ref ti, .int fo, .int pt, .ref po, .ref su, .ref sq, .ref ch, .ref vt, .ref sh])), (vt, .inl (cI, 4, .inl vf)), (ry, .inl (cI, 256, .inl (kpF n (kpl yf vf n 0) yf vf)))] H := hP
                  have hD : va_D A [(m0, .inr (7, [.int th, .int zz, .int rn, .ref rw, .int kn, .int rk, .int (nI n), .ref ry, .int sp, .int lg, .ref ti, .int fo, .int pt, .ref po, .ref su, .ref sq, .ref ch, .ref vt, .ref sh])), (vt, .inl (cI, 4, .inl vf)), (ry, .inl (cI, 256, .inl (kpF n (kpl yf vf n 0) yf vf)))] := hD
                  refine lv_aload_n hx hb d_M_keepRay_118 rfl (lv_at hl 2 rfl) ?_
                  refine lv_dup hx hb d_M_keepRay_119 rfl ?_
                  refine va_get (D := D) (ci := 7) (v := .int (nI n)) (C := cn_M) (T := ft_M) (N := 19) hx hb hf_M (fun _ h => h) hown hK hP 0 rfl rfl 6 (by decide) (gw.at G hx0 mw_719 rfl _) (fun _ h9 => h9) rfl d_M_keepRay_120 ?_
                  refine lv_iconst (v := (1 : Int32)) hx hb d_M_keepRay_123 (by decide) ?_
                  refine lv_iadd hx hb d_M_keepRay_124 ?_
                  refine tp_i (y := nI (n + 1)) (nI_add n 1) ?_
                  refine va_put (D := D) (ci := 7) (v := .int (nI (n + 1))) (ty := .int) (C := cn_M) (T := ft_M) (N := 19) hx hb hf_M (fun _ h => h) fy_M fk_M fn_M hown hK hP hD hS 0 rfl rfl 6 (by decide) (gw.at G hx0 mw_719 rfl _) (fun _ h9 => h9) rfl (by decide +kernel) rfl rfl (Nat.le_of_ble_eq_true rfl) d_M_keepRay_125 (fun H locs hP hD hS => ?_)
                  have hP : va_P D kl [(m0, .inr (7, [.int th, .int zz, .int rn, .ref rw, .int kn, .int rk, .int (nI (n + 1)), .ref ry, .int sp, .int lg, .ref ti, .int fo, .int pt, .ref po, .ref su, .ref sq, .ref ch, .ref vt, .ref sh])), (vt, .inl (cI, 4, .inl vf)), (ry, .inl (cI, 256, .inl (kpF n (kpl yf vf n 0) yf vf)))] H := hP
                  have hD : va_D A [(m0, .inr (7, [.int th, .int zz, .int rn, .ref rw, .int kn, .int rk, .int (nI (n + 1)), .ref ry, .int sp, .int lg, .ref ti, .int fo, .int pt, .ref po, .ref su, .ref sq, .ref ch, .ref vt, .ref sh])), (vt, .inl (cI, 4, .inl vf)), (ry, .inl (cI, 256, .inl (kpF n (kpl yf vf n 0) yf vf)))] := hD
                  rw [← hQe]
                  exact tx_mono (fun _ h => tx_Z.of h) (W.vret hx hb hr (fun t ht hW => ⟨⟨[(m0, .inr (7, [.int th, .int zz, .int rn, .ref rw, .int kn, .int rk, .int (nI (n + 1)), .ref ry, .int sp, .int lg, .ref ti, .int fo, .int pt, .ref po, .ref su, .ref sq, .ref ch, .ref vt, .ref sh])), (vt, .inl (cI, 4, .inl vf)), (ry, .inl (cI, 256, .inl (kpF n (kpl yf vf n 0) yf vf)))], ⟨rfl, rfl⟩, by rw [ht]; exact hP.sub [0, 1, 2] rfl, hD.sub [0, 1, 2] (by decide) rfl⟩, hS.F ht⟩) hS.2.2 d_M_keepRay_128)
                · rw [show nI u - (1 : Int32) = nI (u - 1) from nI_sub (a := u) (b := 1) hup] at hl
                  refine lv_iload_n hx hb d_M_keepRay_62 rfl (lv_at hl 0 rfl) ?_
                  refine lv_iconst (v := (4 : Int32)) hx hb d_M_keepRay_63 (by decide) ?_
                  refine lv_iload_n hx hb d_M_keepRay_64 rfl (lv_at hl 1 rfl) ?_
                  refine lv_imul hx hb d_M_keepRay_65 ?_
                  refine tp_i (y := nI (4 * k)) (nI_mul 4 k) ?_
                  refine lv_icmp_lt (tgt := 89) hx hb d_M_keepRay_66 (by decide) (fun h_5 => ?_) (fun h_5 => ?_)
                  · have h_5 : (u - 1) < (4 * k) := (nI_ltI (a := u - 1) (b := 4 * k) (by omega) (by omega)).mp h_5
                    have hsf := hsh.trans (shd_e (k := k) (u := u) (f := f2) (by omega))
                    rw [← hsf] at hP hD
                    have hP : va_P D kl [(m0, .inr (7, [.int th, .int zz, .int rn, .ref rw, .int kn, .int rk, .int (nI n), .ref ry, .int sp, .int lg, .ref ti, .int fo, .int pt, .ref po, .ref su, .ref sq, .ref ch, .ref vt, .ref sh])), (vt, .inl (cI, 4, .inl vf)), (ry, .inl (cI, 256, .inl (shd k (4 * n) yf)))] H := hP
                    have hD : va_D A [(m0, .inr (7, [.int th, .int zz, .int rn, .ref rw, .int kn, .int rk, .int (nI n), .ref ry, .int sp, .int lg, .ref ti, .int fo, .int pt, .ref po, .ref su, .ref sq, .ref ch, .ref vt, .ref sh])), (vt, .inl (cI, 4, .inl vf)), (ry, .inl (cI, 256, .inl (shd k (4 * n) yf)))] := hD
                    refine lv_iconst (v := (0 : Int32)) hx hb d_M_keepRay_89 (by decide) ?_
                    refine lv_istore_n (lv' := [(2, .int (0 : Int32)), (1, .int (nI k)), (0, .ref m0)]) hx hb d_M_keepRay_90 rfl hl (by decide) rfl (fun ls hl => ?_)
                    refine lv_iload_n hx hb d_M_keepRay_91 rfl (lv_at hl 0 rfl) ?_
                    refine lv_iconst (v := (4 : Int32)) hx hb d_M_keepRay_92 (by decide) ?_
                    refine lv_icmp_ge (tgt := 118) hx hb d_M_keepRay_93 (by decide) (fun h99 => absurd h99 (by decide)) (fun _ => ?_)
                    refine lv_aload_n hx hb d_M_keepRay_96 rfl (lv_at hl 2 rfl) ?_
                    refine va_get (D := D) (ci := 7) (v := .ref ry) (C := cn_M) (T := ft_M) (N := 19) hx hb hf_M (fun _ h => h) hown hK hP 0 rfl rfl 7 (by decide) (gw.at G hx0 mw_720 rfl _) (fun _ h9 => h9) rfl d_M_keepRay_97 ?_
                    refine lv_iconst (v := (4 : Int32)) hx hb d_M_keepRay_100 (by decide) ?_
                    refine lv_iload_n hx hb d_M_keepRay_101 rfl (lv_at hl 1 rfl) ?_
                    refine lv_imul hx hb d_M_keepRay_102 ?_
                    refine tp_i (y := nI (4 * k)) (nI_mul 4 k) ?_
                    refine lv_iload_n hx hb d_M_keepRay_103 rfl (lv_at hl 0 rfl) ?_
                    refine lv_iadd hx hb d_M_keepRay_104 ?_
                    refine tp_i (y := nI ((4 * k) + 0)) (nI_add (4 * k) 0) ?_
                    refine lv_aload_n hx hb d_M_keepRay_105 rfl (lv_at hl 2 rfl) ?_
                    refine va_get (D := D) (ci := 7) (v := .ref vt) (C := cn_M) (T := ft_M) (N := 19) hx hb hf_M (fun _ h => h) hown hK hP 0 rfl rfl 17 (by decide) (gw.at G hx0 mw_730 rfl _) (fun _ h9 => h9) rfl d_M_keepRay_106 ?_
                    refine lv_iload_n hx hb d_M_keepRay_109 rfl (lv_at hl 0 rfl) ?_
                    refine va_iald hx hb hK hP 1 0 rfl rfl (vp_in_iff.mpr (by decide)) d_M_keepRay_110 ?_
                    refine tp_i (y := vf 0) (by rfl) ?_
                    refine va_iast hx hb hK hP hD hS 2 0 rfl rfl (vp_in_nI (n := (4 * k) + 0) (by omega) (by omega)) d_M_keepRay_111 (fun H locs hP hD hS => ?_)
                    rw [nI_clamp (n := (4 * k) + 0) (by omega)] at hP hD
                    have hP : va_P D kl [(m0, .inr (7, [.int th, .int zz, .int rn, .ref rw, .int kn, .int rk, .int (nI n), .ref ry, .int sp, .int lg, .ref ti, .int fo, .int pt, .ref po, .ref su, .ref sq, .ref ch, .ref vt, .ref sh])), (vt, .inl (cI, 4, .inl vf)), (ry, .inl (cI, 256, .inl (upd (shd k (4 * n) yf) ((4 * k) + 0) (vf 0))))] H := hP
                    have hD : va_D A [(m0, .inr (7, [.int th, .int zz, .int rn, .ref rw, .int kn, .int rk, .int (nI n), .ref ry, .int sp, .int lg, .ref ti, .int fo, .int pt, .ref po, .ref su, .ref sq, .ref ch, .ref vt, .ref sh])), (vt, .inl (cI, 4, .inl vf)), (ry, .inl (cI, 256, .inl (upd (shd k (4 * n) yf) ((4 * k) + 0) (vf 0))))] := hD
                    refine lv_iinc (lv' := [(2, .int (1 : Int32)), (1, .int (nI k)), (0, .ref m0)]) (k := 0) (v := (1 : Int32)) hx hb d_M_keepRay_112 hl rfl (by decide) (by decide) rfl (fun ls hl => ?_)
                    refine lv_goto (tgt := 91) hx hb d_M_keepRay_115 (by decide) ?_
                    refine lv_iload_n hx hb d_M_keepRay_91 rfl (lv_at hl 0 rfl) ?_
                    refine lv_iconst (v := (4 : Int32)) hx hb d_M_keepRay_92 (by decide) ?_
                    refine lv_icmp_ge (tgt := 118) hx hb d_M_keepRay_93 (by decide) (fun h99 => absurd h99 (by decide)) (fun _ => ?_)
                    refine lv_aload_n hx hb d_M_keepRay_96 rfl (lv_at hl 2 rfl) ?_
                    refine va_get (D := D) (ci := 7) (v := .ref ry) (C := cn_M) (T := ft_M) (N := 19) hx hb hf_M (fun _ h => h) hown hK hP 0 rfl rfl 7 (by decide) (gw.at G hx0 mw_720 rfl _) (fun _ h9 => h9) rfl d_M_keepRay_97 ?_
                    refine lv_iconst (v := (4 : Int32)) hx hb d_M_keepRay_100 (by decide) ?_
                    refine lv_iload_n hx hb d_M_keepRay_101 rfl (lv_at hl 1 rfl) ?_
                    refine lv_imul hx hb d_M_keepRay_102 ?_
                    refine tp_i (y := nI (4 * k)) (nI_mul 4 k) ?_
                    refine lv_iload_n hx hb d_M_keepRay_103 rfl (lv_at hl 0 rfl) ?_
                    refine lv_iadd hx hb d_M_keepRay_104 ?_
                    refine tp_i (y := nI ((4 * k) + 1)) (nI_add (4 * k) 1) ?_
                    refine lv_aload_n hx hb d_M_keepRay_105 rfl (lv_at hl 2 rfl) ?_
                    refine va_get (D := D) (ci := 7) (v := .ref vt) (C := cn_M) (T := ft_M) (N := 19) hx hb hf_M (fun _ h => h) hown hK hP 0 rfl rfl 17 (by decide) (gw.at G hx0 mw_730 rfl _) (fun _ h9 => h9) rfl d_M_keepRay_106 ?_
                    refine lv_iload_n hx hb d_M_keepRay_109 rfl (lv_at hl 0 rfl) ?_
                    refine va_iald hx hb hK hP 1 0 rfl rfl (vp_in_iff.mpr (by decide)) d_M_keepRay_110 ?_
                    refine tp_i (y := vf 1) (by rfl) ?_
                    refine va_iast hx hb hK hP hD hS 2 0 rfl rfl (vp_in_nI (n := (4 * k) + 1) (by omega) (by omega)) d_M_keepRay_111 (fun H locs hP hD hS => ?_)
                    rw [nI_clamp (n := (4 * k) + 1) (by omega)] at hP hD
                    have hP : va_P D kl [(m0, .inr (7, [.int th, .int zz, .int rn, .ref rw, .int kn, .int rk, .int (nI n), .ref ry, .int sp, .int lg, .ref ti, .int fo, .int pt, .ref po, .ref su, .ref sq, .ref ch, .ref vt, .ref sh])), (vt, .inl (cI, 4, .inl vf)), (ry, .inl (cI, 256, .inl (upd (upd (shd k (4 * n) yf) ((4 * k) + 0) (vf 0)) ((4 * k) + 1) (vf 1))))] H := hP
                    have hD : va_D A [(m0, .inr (7, [.int th, .int zz, .int rn, .ref rw, .int kn, .int rk, .int (nI n), .ref ry, .int sp, .int lg, .ref ti, .int fo, .int pt, .ref po, .ref su, .ref sq, .ref ch, .ref vt, .ref sh])), (vt, .inl (cI, 4, .inl vf)), (ry, .inl (cI, 256, .inl (upd (upd (shd k (4 * n) yf) ((4 * k) + 0) (vf 0)) ((4 * k) + 1) (vf 1))))] := hD
                    refine lv_iinc (lv' := [(2, .int (2 : Int32)), (1, .int (nI k)), (0, .ref m0)]) (k := 0) (v := (2 : Int32)) hx hb d_M_keepRay_112 hl rfl (by decide) (by decide) rfl (fun ls hl => ?_)
                    refine lv_goto (tgt := 91) hx hb d_M_keepRay_115 (by decide) ?_
                    refine lv_iload_n hx hb d_M_keepRay_91 rfl (lv_at hl 0 rfl) ?_
                    refine lv_iconst (v := (4 : Int32)) hx hb d_M_keepRay_92 (by decide) ?_
                    refine lv_icmp_ge (tgt := 118) hx hb d_M_keepRay_93 (by decide) (fun h99 => absurd h99 (by decide)) (fun _ => ?_)
                    refine lv_aload_n hx hb d_M_keepRay_96 rfl (lv_at hl 2 rfl) ?_
                    refine va_get (D := D) (ci := 7) (v := .ref ry) (C := cn_M) (T := ft_M) (N := 19) hx hb hf_M (fun _ h => h) hown hK hP 0 rfl rfl 7 (by decide) (gw.at G hx0 mw_720 rfl _) (fun _ h9 => h9) rfl d_M_keepRay_97 ?_
                    refine lv_iconst (v := (4 : Int32)) hx hb d_M_keepRay_100 (by decide) ?_
                    refine lv_iload_n hx hb d_M_keepRay_101 rfl (lv_at hl 1 rfl) ?_
                    refine lv_imul hx hb d_M_keepRay_102 ?_
                    refine tp_i (y := nI (4 * k)) (nI_mul 4 k) ?_
                    refine lv_iload_n hx hb d_M_keepRay_103 rfl (lv_at hl 0 rfl) ?_
                    refine lv_iadd hx hb d_M_keepRay_104 ?_
                    refine tp_i (y := nI ((4 * k) + 2)) (nI_add (4 * k) 2) ?_
                    refine lv_aload_n hx hb d_M_keepRay_105 rfl (lv_at hl 2 rfl) ?_
                    refine va_get (D := D) (ci := 7) (v := .ref vt) (C := cn_M) (T := ft_M) (N := 19) hx hb hf_M (fun _ h => h) hown hK hP 0 rfl rfl 17 (by decide) (gw.at G hx0 mw_730 rfl _) (fun _ h9 => h9) rfl d_M_keepRay_106 ?_
                    refine lv_iload_n hx hb d_M_keepRay_109 rfl (lv_at hl 0 rfl) ?_
                    refine va_iald hx hb hK hP 1 0 rfl rfl (vp_in_iff.mpr (by decide)) d_M_keepRay_110 ?_
                    refine tp_i (y := vf 2) (by rfl) ?_
                    refine va_iast hx hb hK hP hD hS 2 0 rfl rfl (vp_in_nI (n := (4 * k) + 2) (by omega) (by omega)) d_M_keepRay_111 (fun H locs hP hD hS => ?_)
                    rw [nI_clamp (n := (4 * k) + 2) (by omega)] at hP hD
                    have hP : va_P D kl [(m0, .inr (7, [.int th, .int zz, .int rn, .ref rw, .int kn, .int rk, .int (nI n), .ref ry, .int sp, .int lg, .ref ti, .int fo, .int pt, .ref po, .ref su, .ref sq, .ref ch, .ref vt, .ref sh])), (vt, .inl (cI, 4, .inl vf)), (ry, .inl (cI, 256, .inl (upd (upd (upd (shd k (4 * n) yf) ((4 * k) + 0) (vf 0)) ((4 * k) + 1) (vf 1)) ((4 * k) + 2) (vf 2))))] H := hP
                    have hD : va_D A [(m0, .inr (7, [.int th, .int zz, .int rn, .ref rw, .int kn, .int rk, .int (nI n), .ref ry, .int sp, .int lg, .ref ti, .int fo, .int pt, .ref po, .ref su, .ref sq, .ref ch, .ref vt, .ref sh])), (vt, .inl (cI, 4, .inl vf)), (ry, .inl (cI, 256, .inl (upd (upd (upd (shd k (4 * n) yf) ((4 * k) + 0) (vf 0)) ((4 * k) + 1) (vf 1)) ((4 * k) + 2) (vf 2))))] := hD
                    refine lv_iinc (lv' := [(2, .int (3 : Int32)), (1, .int (nI k)), (0, .ref m0)]) (k := 0) (v := (3 : Int32)) hx hb d_M_keepRay_112 hl rfl (by decide) (by decide) rfl (fun ls hl => ?_)
                    refine lv_goto (tgt := 91) hx hb d_M_keepRay_115 (by decide) ?_
                    refine lv_iload_n hx hb d_M_keepRay_91 rfl (lv_at hl 0 rfl) ?_
                    refine lv_iconst (v := (4 : Int32)) hx hb d_M_keepRay_92 (by decide) ?_
                    refine lv_icmp_ge (tgt := 118) hx hb d_M_keepRay_93 (by decide) (fun h99 => absurd h99 (by decide)) (fun _ => ?_)
                    refine lv_aload_n hx hb d_M_keepRay_96 rfl (lv_at hl 2 rfl) ?_
                    refine va_get (D := D) (ci := 7) (v := .ref ry) (C := cn_M) (T := ft_M) (N := 19) hx hb hf_M (fun _ h => h) hown hK hP 0 rfl rfl 7 (by decide) (gw.at G hx0 mw_720 rfl _) (fun _ h9 => h9) rfl d_M_keepRay_97 ?_
                    refine lv_iconst (v := (4 : Int32)) hx hb d_M_keepRay_100 (by decide) ?_
                    refine lv_iload_n hx hb d_M_keepRay_101 rfl (lv_at hl 1 rfl) ?_
                    refine lv_imul hx hb d_M_keepRay_102 ?_
                    refine tp_i (y := nI (4 * k)) (nI_mul 4 k) ?_
                    refine lv_iload_n hx hb d_M_keepRay_103 rfl (lv_at hl 0 rfl) ?_
                    refine lv_iadd hx hb d_M_keepRay_104 ?_
                    refine tp_i (y := nI ((4 * k) + 3)) (nI_add (4 * k) 3) ?_
                    refine lv_aload_n hx hb d_M_keepRay_105 rfl (lv_at hl 2 rfl) ?_
                    refine va_get (D := D) (ci := 7) (v := .ref vt) (C := cn_M) (T := ft_M) (N := 19) hx hb hf_M (fun _ h => h) hown hK hP 0 rfl rfl 17 (by decide) (gw.at G hx0 mw_730 rfl _) (fun _ h9 => h9) rfl d_M_keepRay_106 ?_
                    refine lv_iload_n hx hb d_M_keepRay_109 rfl (lv_at hl 0 rfl) ?_
                    refine va_iald hx hb hK hP 1 0 rfl rfl (vp_in_iff.mpr (by decide)) d_M_keepRay_110 ?_
                    refine tp_i (y := vf 3) (by rfl) ?_
                    refine va_iast hx hb hK hP hD hS 2 0 rfl rfl (vp_in_nI (n := (4 * k) + 3) (by omega) (by omega)) d_M_keepRay_111 (fun H locs hP hD hS => ?_)
                    rw [nI_clamp (n := (4 * k) + 3) (by omega)] at hP hD
                    have hP : va_P D kl [(m0, .inr (7, [.int th, .int zz, .int rn, .ref rw, .int kn, .int rk, .int (nI n), .ref ry, .int sp, .int lg, .ref ti, .int fo, .int pt, .ref po, .ref su, .ref sq, .ref ch, .ref vt, .ref sh])), (vt, .inl (cI, 4, .inl vf)), (ry, .inl (cI, 256, .inl (upd (upd (upd (upd (shd k (4 * n) yf) ((4 * k) + 0) (vf 0)) ((4 * k) + 1) (vf 1)) ((4 * k) + 2) (vf 2)) ((4 * k) + 3) (vf 3))))] H := hP
                    have hD : va_D A [(m0, .inr (7, [.int th, .int zz, .int rn, .ref rw, .int kn, .int rk, .int (nI n), .ref ry, .int sp, .int lg, .ref ti, .int fo, .int pt, .ref po, .ref su, .ref sq, .ref ch, .ref vt, .ref sh])), (vt, .inl (cI, 4, .inl vf)), (ry, .inl (cI, 256, .inl (upd (upd (upd (upd (shd k (4 * n) yf) ((4 * k) + 0) (vf 0)) ((4 * k) + 1) (vf 1)) ((4 * k) + 2) (vf 2)) ((4 * k) + 3) (vf 3))))] := hD
                    refine lv_iinc (lv' := [(2, .int (4 : Int32)), (1, .int (nI k)), (0, .ref m0)]) (k := 0) (v := (4 : Int32)) hx hb d_M_keepRay_112 hl rfl (by decide) (by decide) rfl (fun ls hl => ?_)
                    refine lv_goto (tgt := 91) hx hb d_M_keepRay_115 (by decide) ?_
                    refine lv_iload_n hx hb d_M_keepRay_91 rfl (lv_at hl 0 rfl) ?_
                    refine lv_iconst (v := (4 : Int32)) hx hb d_M_keepRay_92 (by decide) ?_
                    refine lv_icmp_ge (tgt := 118) hx hb d_M_keepRay_93 (by decide) (fun _ => ?_) (fun h99 => absurd h99 (by decide))
                    have hF : upd (upd (upd (upd (shd k (4 * n) yf) ((4 * k) + 0) (vf 0)) ((4 * k) + 1) (vf 1)) ((4 * k) + 2) (vf 2)) ((4 * k) + 3) (vf 3) = kpF n (kpl yf vf n 0) yf vf := by rw [hpv]; rfl
                    rw [hF] at hP hD
                    have hP : va_P D kl [(m0, .inr (7, [.int th, .int zz, .int rn, .ref rw, .int kn, .int rk, .int (nI n), .ref ry, .int sp, .int lg, .ref ti, .int fo, .int pt, .ref po, .ref su, .ref sq, .ref ch, .ref vt, .ref sh])), (vt, .inl (cI, 4, .inl vf)), (ry, .inl (cI, 256, .inl (kpF n (kpl yf vf n 0) yf vf)))] H := hP
                    have hD : va_D A [(m0, .inr (7, [.int th, .int zz, .int rn, .ref rw, .int kn, .int rk, .int (nI n), .ref ry, .int sp, .int lg, .ref ti, .int fo, .int pt, .ref po, .ref su, .ref sq, .ref ch, .ref vt, .ref sh])), (vt, .inl (cI, 4, .inl vf)), (ry, .inl (cI, 256, .inl (kpF n (kpl yf vf n 0) yf vf)))] := hD
                    refine lv_aload_n hx hb d_M_keepRay_118 rfl (lv_at hl 2 rfl) ?_
                    refine lv_dup hx hb d_M_keepRay_119 rfl ?_
                    refine va_get (D := D) (ci := 7) (v := .int (nI n)) (C := cn_M) (T := ft_M) (N := 19) hx hb hf_M (fun _ h => h) hown hK hP 0 rfl rfl 6 (by decide) (gw.at G hx0 mw_719 rfl _) (fun _ h9 => h9) rfl d_M_keepRay_120 ?_
                    refine lv_iconst (v := (1 : Int32)) hx hb d_M_keepRay_123 (by decide) ?_
                    refine lv_iadd hx hb d_M_keepRay_124 ?_
                    refine tp_i (y := nI (n + 1)) (nI_add n 1) ?_
                    refine va_put (D := D) (ci := 7) (v := .int (nI (n + 1))) (ty := .int) (C := cn_M) (T := ft_M) (N := 19) hx hb hf_M (fun _ h => h) fy_M fk_M fn_M hown hK hP hD hS 0 rfl rfl 6 (by decide) (gw.at G hx0 mw_719 rfl _) (fun _ h9 => h9) rfl (by decide +kernel) rfl rfl (Nat.le_of_ble_eq_true rfl) d_M_keepRay_125 (fun H locs hP hD hS => ?_)
                    have hP : va_P D kl [(m0, .inr (7, [.int th, .int zz, .int rn, .ref rw, .int kn, .int rk, .int (nI (n + 1)), .ref ry, .int sp, .int lg, .ref ti, .int fo, .int pt, .ref po, .ref su, .ref sq, .ref ch, .ref vt, .ref sh])), (vt, .inl (cI, 4, .inl vf)), (ry, .inl (cI, 256, .inl (kpF n (kpl yf vf n 0) yf vf)))] H := hP
                    have hD : va_D A [(m0, .inr (7, [.int th, .int zz, .int rn, .ref rw, .int kn, .int rk, .int (nI (n + 1)), .ref ry, .int sp, .int lg, .ref ti, .int fo, .int pt, .ref po, .ref su, .ref sq, .ref ch, .ref vt, .ref sh])), (vt, .inl (cI, 4, .inl vf)), (ry, .inl (cI, 256, .inl (kpF n (kpl yf vf n 0) yf vf)))] := hD
                    rw [← hQe]
                    exact tx_mono (fun _ h => tx_Z.of h) (W.vret hx hb hr (fun t ht hW => ⟨⟨[(m0, .inr (7, [.int th, .int zz, .int rn, .ref rw, .int kn, .int rk, .int (nI (n + 1)), .ref ry, .int sp, .int lg, .ref ti, .int fo, .int pt, .ref po, .ref su, .ref sq, .ref ch, .ref vt, .ref sh])), (vt, .inl (cI, 4, .inl vf)), (ry, .inl (cI, 256, .inl (kpF n (kpl yf vf n 0) yf vf)))], ⟨rfl, rfl⟩, by rw [ht]; exact hP.sub [0, 1, 2] rfl, hD.sub [0, 1, 2] (by decide) rfl⟩, hS.F ht⟩) hS.2.2 d_M_keepRay_128)
                  · have h_5 : ¬ ((u - 1) < (4 * k)) := fun z99 => h_5 ((nI_ltI (a := u - 1) (b := 4 * k) (by omega) (by omega)).mpr z99)
                    refine lv_aload_n hx hb d_M_keepRay_69 rfl (lv_at hl 2 rfl) ?_
                    refine va_get (D := D) (ci := 7) (v := .ref ry) (C := cn_M) (T := ft_M) (N := 19) hx hb hf_M (fun _ h => h) hown hK hP 0 rfl rfl 7 (by decide) (gw.at G hx0 mw_720 rfl _) (fun _ h9 => h9) rfl d_M_keepRay_70 ?_
                    refine lv_iload_n hx hb d_M_keepRay_73 rfl (lv_at hl 0 rfl) ?_
                    refine lv_iconst (v := (4 : Int32)) hx hb d_M_keepRay_74 (by decide) ?_
                    refine lv_iadd hx hb d_M_keepRay_75 ?_
                    refine tp_i (y := nI ((u - 1) + 4)) (nI_add (u - 1) 4) ?_
                    refine lv_aload_n hx hb d_M_keepRay_76 rfl (lv_at hl 2 rfl) ?_
                    refine va_get (D := D) (ci := 7) (v := .ref ry) (C := cn_M) (T := ft_M) (N := 19) hx hb hf_M (fun _ h => h) hown hK hP 0 rfl rfl 7 (by decide) (gw.at G hx0 mw_720 rfl _) (fun _ h9 => h9) rfl d_M_keepRay_77 ?_
                    refine lv_iload_n hx hb d_M_keepRay_80 rfl (lv_at hl 0 rfl) ?_
                    refine va_iald hx hb hK hP 2 0 rfl rfl (vp_in_nI (n := u - 1) (by omega) (by omega)) d_M_keepRay_81 ?_
                    refine tp_i (y := f2 (u - 1)) (congrArg f2 (nI_clamp (n := u - 1) (by omega))) ?_
                    refine va_iast hx hb hK hP hD hS 2 0 rfl rfl (vp_in_nI (n := (u - 1) + 4) (by omega) (by omega)) d_M_keepRay_82 (fun H locs hP hD hS => ?_)
                    rw [nI_clamp (n := (u - 1) + 4) (by omega)] at hP hD
                    have hP : va_P D kl [(m0, .inr (7, [.int th, .int zz, .int rn, .ref rw, .int kn, .int rk, .int (nI n), .ref ry, .int sp, .int lg, .ref ti, .int fo, .int pt, .ref po, .ref su, .ref sq, .ref ch, .ref vt, .ref sh])), (vt, .inl (cI, 4, .inl vf)), (ry, .inl (cI, 256, .inl (upd f2 ((u - 1) + 4) (f2 (u - 1)))))] H := hP
                    have hD : va_D A [(m0, .inr (7, [.int th, .int zz, .int rn, .ref rw, .int kn, .int rk, .int (nI n), .ref ry, .int sp, .int lg, .ref ti, .int fo, .int pt, .ref po, .ref su, .ref sq, .ref ch, .ref vt, .ref sh])), (vt, .inl (cI, 4, .inl vf)), (ry, .inl (cI, 256, .inl (upd f2 ((u - 1) + 4) (f2 (u - 1)))))] := hD
                    refine lv_iinc (lv' := [(2, .int (nI (u - 1) - (1 : Int32))), (1, .int (nI k)), (0, .ref m0)]) (k := 0) (v := nI (u - 1) - (1 : Int32)) hx hb d_M_keepRay_83 hl rfl (by rw [Int32.sub_eq_add_neg]; rfl) (by decide) rfl (fun ls hl => ?_)
                    refine lv_goto (tgt := 62) hx hb d_M_keepRay_86 (by decide) ?_
                    exact ih_62 _ (by omega) (u - 1) (upd f2 ((u - 1) + 4) (f2 (u - 1))) ls H locs rfl (hsh.trans (shd_s hup (by omega))) (by omega) (lv_sub hl [0, 1, 2] rfl) (hP.sub [0, 1, 2] rfl) (hD.sub [0, 1, 2] (by decide) rfl) hS
            exact lp_62 _ (4 * n) yf ls H locs rfl rfl (Nat.le_refl _) (lv_sub hl [0, 1, 2] rfl) (hP.sub [0, 1, 2] rfl) (hD.sub [0, 1, 2] (by decide) rfl) hS
          · exact absurd ⟨by rw [hpv]; omega, by rw [hpv]; exact h_4⟩ h
        · refine lv_iinc (lv' := [(1, .int (nI (k + 1))), (0, .ref m0)]) (k := 0) (v := nI (k + 1)) hx hb d_M_keepRay_24 hl rfl (nI_add k 1) (by decide) rfl (fun ls hl => ?_)
          refine lv_goto (tgt := 2) hx hb d_M_keepRay_27 (by decide) ?_
          exact ih_2 _ (by omega) (k + 1) ls H locs rfl (hpo.trans (kpl_s (by omega) (Int32.not_le.mp h_3))) (by omega) (lv_sub hl [0, 1] rfl) (hP.sub [0, 1, 2] rfl) (hD.sub [0, 1, 2] (by decide) rfl) hS
  exact lp_2 _ 0 ls s.heap [] rfl rfl (Nat.zero_le _) (lv_sub hl [0, 1] rfl) (hP.sub [0, 1, 2] rfl) (hD.sub [0, 1, 2] (by decide) rfl) hS

set_option maxHeartbeats 4000000 in
set_option maxRecDepth 100000 in
theorem c_M_keepPoint_y {l : Launch} {s0 : State} {b0 : Addr} {D : va_G} {cI cJ cZ : ClassId} {tC tS : Nat} (E : gE l s0 b0 D cI cJ cZ tC tS) (sz : Nat) (m0 : Nat) (rw : Nat) (ry : Nat) (ti : Nat) (po : Nat) (su : Nat) (sq : Nat) (ch : Nat) (vt : Nat) (sh : Nat) (th : Int32) (zz : Int32) (rn : Int32) (kn : Int32) (rk : Int32) (y1 : Int32) (sp : Int32) (lg : Int32) (fo : Int32) (n : Nat) (vf : Nat → Int32) (pf : Nat → Int32) (hn : n ≤ 1000) (h : (kpl pf vf n 0 < n ∧ cmp4 pf (4 * (kpl pf vf n 0)) vf = 0)) : cx_M l s0 D kl y_M_keepPoint b_M_keepPoint 3 none ({ frames := 1, cells := 0, slots := 0, locals := 23 } : Room) 0 0 [.ref m0] [(m0, .inr (7, [.int th, .int zz, .int rn, .ref rw, .int kn, .int rk, .int y1, .ref ry, .int sp, .int lg, .ref ti, .int fo, .int (nI n), .ref po, .ref su, .ref sq, .ref ch, .ref vt, .ref sh])), (vt, .inl (cI, 4, .inl vf)), (po, .inl (cI, 4000, .inl pf))] sz (fun o9 _ w9 => o9 = .returned none ∧ w9 = [(m0, .inr (7, [.int th, .int zz, .int rn, .ref rw, .int kn, .int rk, .int y1, .ref ry, .int sp, .int lg, .ref ti, .int fo, .int (nI n), .ref po, .ref su, .ref sq, .ref ch, .ref vt, .ref sh])), (vt, .inl (cI, 4, .inl vf)), (po, .inl (cI, 4000, .inl pf))]) := by
  refine tx_ofW (cc := b_M_keepPoint) (maxL := 3) (ret := none) (by decide) rfl ?_
  intro p e s m args below meth c s₁ B hml hT hv
  obtain ⟨rfl, hsz, hP, hD0, hx0⟩ := hv
  have hx := B.exec
  have hb := B.bytes
  have hr := B.returns
  have G := E.2.1
  have hown : s.vm.findClass cn_M = some m.cls := findClass_of_methodNamed B.named
  have hlocks := B.notSynchronized
  have hK := va_K.moved hx0.1.alike E.2.2.1
  have hf_M : ∀ w99 ∈ u_ws cn_M ft_M 19, w99.before ([.ref m0] : List Value).toArray s = true := fun w99 h99 => gw.at G hx0 (fw_M w99 h99) (fo_M w99 h99) _
  subst hsz
  have hA0 := cx_new hD0 hx0.2.1
  have hD := hD0.self (sz := s.heap.size)
  generalize hAe : va_A [(m0, .inr (7, [.int th, .int zz, .int rn, .ref rw, .int kn, .int rk, .int y1, .ref ry, .int sp, .int lg, .ref ti, .int fo, .int (nI n), .ref po, .ref su, .ref sq, .ref ch, .ref vt, .ref sh])), (vt, .inl (cI, 4, .inl vf)), (po, .inl (cI, 4000, .inl pf))] s.heap.size = A at hD hA0 ⊢
  have hA : ∀ q : Nat, s.heap.size ≤ q → A q := fun q h => by rw [← hAe]; exact Or.inr h
  have hS : va_S A s.heap s.heap [] := va_S.rf
  have hl := lv_entry ([.ref m0]) (n := 3) (Nat.le_of_ble_eq_true rfl)
  rw [lg_entry_eq]
  generalize (lg_sl ([.ref m0]) ++ List.replicate (3 - (lg_sl ([.ref m0])).length) Slot.unset).toArray = ls at hl ⊢
  have hl : lv_has ls 3 [(0, .ref m0)] := hl
  have hP : va_P D kl [(m0, .inr (7, [.int th, .int zz, .int rn, .ref rw, .int kn, .int rk, .int y1, .ref ry, .int sp, .int lg, .ref ti, .int fo, .int (nI n), .ref po, .ref su, .ref sq, .ref ch, .ref vt, .ref sh])), (vt, .inl (cI, 4, .inl vf)), (po, .inl (cI, 4000, .inl pf))] s.heap := hP
  have hml : c.maxLocals = 3 := hml
  generalize hQe : tx_Z below (cx_Q D kl A (fun o9 _ w9 => o9 = .returned none ∧ w9 = [(m0, .inr (7, [.int th, .int zz, .int rn, .ref rw, .int kn, .int rk, .int y1, .ref ry, .int sp, .int lg, .ref ti, .int fo, .int (nI n), .ref po, .ref su, .ref sq, .ref ch, .ref vt, .ref sh])), (vt, .inl (cI, 4, .inl vf)), (po, .inl (cI, 4000, .inl pf))])) ([.ref m0] : List Value).toArray s 0 0 A = Q
  refine lv_iconst (v := (0 : Int32)) hx hb d_M_keepPoint_0 (by decide) ?_
  refine lv_istore_n (lv' := [(1, .int (0 : Int32)), (0, .ref m0)]) hx hb d_M_keepPoint_1 rfl hl (by decide) rfl (fun ls hl => ?_)
  have lp_2 : ∀ (n9 : Nat) (k : Nat) (ls : Array Slot) (H : Heap) (locs : List Loc), n - k = n9 → (kpl pf vf n 0 = kpl pf vf (n - k) k) → (k ≤ n) → lv_has ls 3 [(1, .int (nI k)), (0, .ref m0)] → va_P D kl [(m0, .inr (7, [.int th, .int zz, .int rn, .ref rw, .int kn, .int rk, .int y1, .ref ry, .int sp, .int lg, .ref ti, .int fo, .int (nI n), .ref po, .ref su, .ref sq, .ref ch, .ref vt, .ref sh])), (vt, .inl (cI, 4, .inl vf)), (po, .inl (cI, 4000, .inl pf))] H → va_D A [(m0, .inr (7, [.int th, .int zz, .int rn, .ref rw, .int kn, .int rk, .int y1, .ref ry, .int sp, .int lg, .ref ti, .int fo, .int (nI n), .ref po, .ref su, .ref sq, .ref ch, .ref vt, .ref sh])), (vt, .inl (cI, 4, .inl vf)), (po, .inl (cI, 4000, .inl pf))] → va_S A s.heap H locs → W p l e ({ frames := 1, cells := 0, slots := 0, locals := 23 } : Room) s m ([.ref m0] : List Value).toArray below meth c H locs 0 0 Q (F0 m 2 ls []) := by
    intro n9
    induction n9 using Nat.strongRecOn with
    | ind n9 ih_2 =>
      intro k ls H locs hm_2 hpo hk9 hl hP hD hS
      refine lv_iload_n hx hb d_M_keepPoint_2 rfl (lv_at hl 0 rfl) ?_
      refine lv_aload_n hx hb d_M_keepPoint_3 rfl (lv_at hl 1 rfl) ?_
      refine va_get (D := D) (ci := 7) (v := .int (nI n)) (C := cn_M) (T := ft_M) (N := 19) hx hb hf_M (fun _ h => h) hown hK hP 0 rfl rfl 12 (by decide) (gw.at G hx0 mw_725 rfl _) (fun _ h9 => h9) rfl d_M_keepPoint_4 ?_
      refine lv_icmp_ge (tgt := 30) hx hb d_M_keepPoint_7 (by decide) (fun h_1 => ?_) (fun h_1 => ?_)
      · have h_1 : n ≤ k := (nI_leI (a := n) (b := k) (by omega) (by omega)).mp h_1
        have hpv : kpl pf vf n 0 = k := hpo.trans (kpl_n (by omega))
        refine lv_aload_n hx hb d_M_keepPoint_30 rfl (lv_at hl 1 rfl) ?_
        refine va_get (D := D) (ci := 7) (v := .int (nI n)) (C := cn_M) (T := ft_M) (N := 19) hx hb hf_M (fun _ h => h) hown hK hP 0 rfl rfl 12 (by decide) (gw.at G hx0 mw_725 rfl _) (fun _ h9 => h9) rfl d_M_keepPoint_31 ?_
        refine lv_sipush (v := (1000 : Int32)) hx hb d_M_keepPoint_34 (by decide) ?_
        refine lv_icmp_eq (tgt := 62) hx hb d_M_keepPoint_37 (by decide) (fun h_2 => ?_) (fun h_2 => ?_)
        · have h_2 : n = 1000 := (nI_eq (a := n) (b := 1000) (by omega) (by omega)).mp h_2
          rw [← hQe]
          exact tx_mono (fun _ h => tx_Z.of h) (W.vret hx hb hr (fun t ht hW => ⟨⟨[(m0, .inr (7, [.int th, .int zz, .int rn, .ref rw, .int kn, .int rk, .int y1, .ref ry, .int sp, .int lg, .ref ti, .int fo, .int (nI n), .ref po, .ref su, .ref sq, .ref ch, .ref vt, .ref sh])), (vt, .inl (cI, 4, .inl vf)), (po, .inl (cI, 4000, .inl pf))], ⟨rfl, rfl⟩, by rw [ht]; exact hP.sub [0, 1, 2] rfl, hD.sub [0, 1, 2] (by decide) rfl⟩, hS.F ht⟩) hS.2.2 d_M_keepPoint_62)
        · have h_2 : ¬ (n = 1000) := fun z99 => h_2 ((nI_eq (a := n) (b := 1000) (by omega) (by omega)).mpr z99)
          refine lv_iload_n hx hb d_M_keepPoint_40 rfl (lv_at hl 0 rfl) ?_
          refine lv_aload_n hx hb d_M_keepPoint_41 rfl (lv_at hl 1 rfl) ?_
          refine va_get (D := D) (ci := 7) (v := .int (nI n)) (C := cn_M) (T := ft_M) (N := 19) hx hb hf_M (fun _ h => h) hown hK hP 0 rfl rfl 12 (by decide) (gw.at G hx0 mw_725 rfl _) (fun _ h9 => h9) rfl d_M_keepPoint_42 ?_
          refine lv_icmp_ge (tgt := 63) hx hb d_M_keepPoint_45 (by decide) (fun _ => ?_) (fun h99 => absurd h99 (not_not_intro ((nI_leI (a := n) (b := k) (by omega) (by omega)).mpr (by omega))))
          exact absurd h.1 (by rw [hpv]; omega)
      · have h_1 : ¬ (n ≤ k) := fun z99 => h_1 ((nI_leI (a := n) (b := k) (by omega) (by omega)).mpr z99)
        refine lv_aload_n hx hb d_M_keepPoint_10 rfl (lv_at hl 1 rfl) ?_
        refine lv_aload_n hx hb d_M_keepPoint_11 rfl (lv_at hl 1 rfl) ?_
        refine va_get (D := D) (ci := 7) (v := .ref po) (C := cn_M) (T := ft_M) (N := 19) hx hb hf_M (fun _ h => h) hown hK hP 0 rfl rfl 13 (by decide) (gw.at G hx0 mw_726 rfl _) (fun _ h9 => h9) rfl d_M_keepPoint_12 ?_
        refine lv_iconst (v := (4 : Int32)) hx hb d_M_keepPoint_15 (by decide) ?_
        refine lv_iload_n hx hb d_M_keepPoint_16 rfl (lv_at hl 0 rfl) ?_
        refine lv_imul hx hb d_M_keepPoint_17 ?_
        refine tp_i (y := nI (4 * k)) (nI_mul 4 k) ?_
        refine cx_call (D := D) (cl := kl) (ws := _) (wc := [(m0, .inr (7, [.int th, .int zz, .int rn, .ref rw, .int kn, .int rk, .int y1, .ref ry, .int sp, .int lg, .ref ti, .int fo, .int (nI n), .ref po, .ref su, .ref sq, .ref ch, .ref vt, .ref sh])), (vt, .inl (cI, 4, .inl vf)), (po, .inl (cI, 4000, .inl pf))]) (wr := []) (tx_runV (C := cn_M) (b := m0) (As := [.ref po, .int (nI (4 * k))]) (rest := []) hx hb hml hown (c_M_compare E H.size m0 rw ry ti po su sq ch vt sh th zz rn kn rk y1 sp lg fo (nI n) vf po 4000 pf (4 * k) (by omega) (by decide)) (cx_C (b0 := b0) G hx0 mw_848 mw_9 ny_M_compare (by decide)) (gw.at G hx0 mw_845 rfl _) (gw.at G hx0 mw_847 rfl _) (gw.at G hx0 ms_M_compare rfl _) ⟨cx_blind, va_recv hK hP (q0 := 0) (ci := 7) (q := (cn_M, ft_M, 19)) rfl rfl, (cx_pre (s := s) hx0 hP hD hS hA0 [0, 1, 2] rfl rfl (by decide))⟩ rfl rfl hl.1 rfl (lv_room (Nat.le_of_ble_eq_true rfl)) d_M_keepPoint_18 ⟨by decide, by decide⟩) hP hD hS hA [0, 1, 2] [] rfl rfl (by decide) (by decide) (fun v t w1 H locs ht hW9 hp hP hD hS => ?_) (fun x t w1 H locs ht hW9 hp hP hD hS => by obtain ⟨h9, -⟩ := hp; cases h9)
        obtain ⟨h9, rfl⟩ := hp
        cases h9
        refine W.eq (g2 := F0 m 21 ls [.int (cmp4 pf (4 * k) vf)]) rfl ?_
        refine W.widen (k := 0) (n := 0) (by decide) (by decide) ?_
        have hP : va_P D kl [(m0, .inr (7, [.int th, .int zz, .int rn, .ref rw, .int kn, .int rk, .int y1, .ref ry, .int sp, .int lg, .ref ti, .int fo, .int (nI n), .ref po, .ref su, .ref sq, .ref ch, .ref vt, .ref sh])), (vt, .inl (cI, 4, .inl vf)), (po, .inl (cI, 4000, .inl pf))] H := hP
        have hD : va_D A [(m0, .inr (7, [.int th, .int zz, .int rn, .ref rw, .int kn, .int rk, .int y1, .ref ry, .int sp, .int lg, .ref ti, .int fo, .int (nI n), .ref po, .ref su, .ref sq, .ref ch, .ref vt, .ref sh])), (vt, .inl (cI, 4, .inl vf)), (po, .inl (cI, 4000, .inl pf))] := hD
        refine lv_if_ge (tgt := 30) hx hb d_M_keepPoint_21 (by decide) (fun h_3 => ?_) (fun h_3 => ?_)
        · have hpv : kpl pf vf n 0 = k := hpo.trans (kpl_y (by omega) (Int32.not_lt.mpr h_3))
          refine lv_aload_n hx hb d_M_keepPoint_30 rfl (lv_at hl 1 rfl) ?_
          refine va_get (D := D) (ci := 7) (v := .int (nI n)) (C := cn_M) (T := ft_M) (N := 19) hx hb hf_M (fun _ h => h) hown hK hP 0 rfl rfl 12 (by decide) (gw.at G hx0 mw_725 rfl _) (fun _ h9 => h9) rfl d_M_keepPoint_31 ?_
          refine lv_sipush (v := (1000 : Int32)) hx hb d_M_keepPoint_34 (by decide) ?_
          refine lv_icmp_eq (tgt := 62) hx hb d_M_keepPoint_37 (by decide) (fun h_4 => ?_) (fun h_4 => ?_)
          · have h_4 : n = 1000 := (nI_eq (a := n) (b := 1000) (by omega) (by omega)).mp h_4
            rw [← hQe]
            exact tx_mono (fun _ h => tx_Z.of h) (W.vret hx hb hr (fun t ht hW => ⟨⟨[(m0, .inr (7, [.int th, .int zz, .int rn, .ref rw, .int kn, .int rk, .int y1, .ref ry, .int sp, .int lg, .ref ti, .int fo, .int (nI n), .ref po, .ref su, .ref sq, .ref ch, .ref vt, .ref sh])), (vt, .inl (cI, 4, .inl vf)), (po, .inl (cI, 4000, .inl pf))], ⟨rfl, rfl⟩, by rw [ht]; exact hP.sub [0, 1, 2] rfl, hD.sub [0, 1, 2] (by decide) rfl⟩, hS.F ht⟩) hS.2.2 d_M_keepPoint_62)
          · have h_4 : ¬ (n = 1000) := fun z99 => h_4 ((nI_eq (a := n) (b := 1000) (by omega) (by omega)).mpr z99)
            refine lv_iload_n hx hb d_M_keepPoint_40 rfl (lv_at hl 0 rfl) ?_
            refine lv_aload_n hx hb d_M_keepPoint_41 rfl (lv_at hl 1 rfl) ?_
            refine va_get (D := D) (ci := 7) (v := .int (nI n)) (C := cn_M) (T := ft_M) (N := 19) hx hb hf_M (fun _ h => h) hown hK hP 0 rfl rfl 12 (by decide) (gw.at G hx0 mw_725 rfl _) (fun _ h9 => h9) rfl d_M_keepPoint_42 ?_
            refine lv_icmp_ge (tgt := 63) hx hb d_M_keepPoint_45 (by decide) (fun h99 => absurd h99 (fun z99 => absurd ((nI_leI (a := n) (b := k) (by omega) (by omega)).mp z99) (by omega))) (fun _ => ?_)
            refine lv_aload_n hx hb d_M_keepPoint_48 rfl (lv_at hl 1 rfl) ?_
            refine lv_aload_n hx hb d_M_keepPoint_49 rfl (lv_at hl 1 rfl) ?_
            refine va_get (D := D) (ci := 7) (v := .ref po) (C := cn_M) (T := ft_M) (N := 19) hx hb hf_M (fun _ h => h) hown hK hP 0 rfl rfl 13 (by decide) (gw.at G hx0 mw_726 rfl _) (fun _ h9 => h9) rfl d_M_keepPoint_50 ?_
            refine lv_iconst (v := (4 : Int32)) hx hb d_M_keepPoint_53 (by decide) ?_
            refine lv_iload_n hx hb d_M_keepPoint_54 rfl (lv_at hl 0 rfl) ?_
            refine lv_imul hx hb d_M_keepPoint_55 ?_
            refine tp_i (y := nI (4 * k)) (nI_mul 4 k) ?_
            refine cx_call (D := D) (cl := kl) (ws := _) (wc := [(m0, .inr (7, [.int th, .int zz, .int rn, .ref rw, .int kn, .int rk, .int y1, .ref ry, .int sp, .int lg, .ref ti, .int fo, .int (nI n), .ref po, .ref su, .ref sq, .ref ch, .ref vt, .ref sh])), (vt, .inl (cI, 4, .inl vf)), (po, .inl (cI, 4000, .inl pf))]) (wr := []) (tx_runV (C := cn_M) (b := m0) (As := [.ref po, .int (nI (4 * k))]) (rest := []) hx hb hml hown (c_M_compare E H.size m0 rw ry ti po su sq ch vt sh th zz rn kn rk y1 sp lg fo (nI n) vf po 4000 pf (4 * k) (by omega) (by decide)) (cx_C (b0 := b0) G hx0 mw_848 mw_9 ny_M_compare (by decide)) (gw.at G hx0 mw_845 rfl _) (gw.at G hx0 mw_847 rfl _) (gw.at G hx0 ms_M_compare rfl _) ⟨cx_blind, va_recv hK hP (q0 := 0) (ci := 7) (q := (cn_M, ft_M, 19)) rfl rfl, (cx_pre (s := s) hx0 hP hD hS hA0 [0, 1, 2] rfl rfl (by decide))⟩ rfl rfl hl.1 rfl (lv_room (Nat.le_of_ble_eq_true rfl)) d_M_keepPoint_56 ⟨by decide, by decide⟩) hP hD hS hA [0, 1, 2] [] rfl rfl (by decide) (by decide) (fun v t w1 H locs ht hW9 hp hP hD hS => ?_) (fun x t w1 H locs ht hW9 hp hP hD hS => by obtain ⟨h9, -⟩ := hp; cases h9)
            obtain ⟨h9, rfl⟩ := hp
            cases h9
            refine W.eq (g2 := F0 m 59 ls [.int (cmp4 pf (4 * k) vf)]) rfl ?_
            refine W.widen (k := 0) (n := 0) (by decide) (by decide) ?_
            have hP : va_P D kl [(m0, .inr (7, [.int th, .int zz, .int rn, .ref rw, .int kn, .int rk, .int y1, .ref ry, .int sp, .int lg, .ref ti, .int fo, .int (nI n), .ref po, .ref su, .ref sq, .ref ch, .ref vt, .ref sh])), (vt, .inl (cI, 4, .inl vf)), (po, .inl (cI, 4000, .inl pf))] H := hP
            have hD : va_D A [(m0, .inr (7, [.int th, .int zz, .int rn, .ref rw, .int kn, .int rk, .int y1, .ref ry, .int sp, .int lg, .ref ti, .int fo, .int (nI n), .ref po, .ref su, .ref sq, .ref ch, .ref vt, .ref sh])), (vt, .inl (cI, 4, .inl vf)), (po, .inl (cI, 4000, .inl pf))] := hD
            refine lv_if_ne (tgt := 63) hx hb d_M_keepPoint_59 (by decide) (fun h_5 => ?_) (fun h_5 => ?_)
            · exact absurd (by have z9 := h.2; rw [hpv] at z9; exact z9) h_5
            · rw [← hQe]
              exact tx_mono (fun _ h => tx_Z.of h) (W.vret hx hb hr (fun t ht hW => ⟨⟨[(m0, .inr (7, [.int th, .int zz, .int rn, .ref rw, .int kn, .int rk, .int y1, .ref ry, .int sp, .int lg, .ref ti, .int fo, .int (nI n), .ref po, .ref su, .ref sq, .ref ch, .ref vt, .ref sh])), (vt, .inl (cI, 4, .inl vf)), (po, .inl (cI, 4000, .inl pf))], ⟨rfl, rfl⟩, by rw [ht]; exact hP.sub [0, 1, 2] rfl, hD.sub [0, 1, 2] (by decide) rfl⟩, hS.F ht⟩) hS.2.2 d_M_keepPoint_62)
        · refine lv_iinc (lv' := [(1, .int (nI (k + 1))), (0, .ref m0)]) (k := 0) (v := nI (k + 1)) hx hb d_M_keepPoint_24 hl rfl (nI_add k 1) (by decide) rfl (fun ls hl => ?_)
          refine lv_goto (tgt := 2) hx hb d_M_keepPoint_27 (by decide) ?_
          exact ih_2 _ (by omega) (k + 1) ls H locs rfl (hpo.trans (kpl_s (by omega) (Int32.not_le.mp h_3))) (by omega) (lv_sub hl [0, 1] rfl) (hP.sub [0, 1, 2] rfl) (hD.sub [0, 1, 2] (by decide) rfl) hS
  exact lp_2 _ 0 ls s.heap [] rfl rfl (Nat.zero_le _) (lv_sub hl [0, 1] rfl) (hP.sub [0, 1, 2] rfl) (hD.sub [0, 1, 2] (by decide) rfl) hS

set_option maxHeartbeats 4000000 in
set_option maxRecDepth 100000 in
theorem c_M_keepPoint_n {l : Launch} {s0 : State} {b0 : Addr} {D : va_G} {cI cJ cZ : ClassId} {tC tS : Nat} (E : gE l s0 b0 D cI cJ cZ tC tS) (sz : Nat) (m0 : Nat) (rw : Nat) (ry : Nat) (ti : Nat) (po : Nat) (su : Nat) (sq : Nat) (ch : Nat) (vt : Nat) (sh : Nat) (th : Int32) (zz : Int32) (rn : Int32) (kn : Int32) (rk : Int32) (y1 : Int32) (sp : Int32) (lg : Int32) (fo : Int32) (n : Nat) (vf : Nat → Int32) (pf : Nat → Int32) (hn : n ≤ 999) (h : ¬ (kpl pf vf n 0 < n ∧ cmp4 pf (4 * (kpl pf vf n 0)) vf = 0)) : cx_M l s0 D kl y_M_keepPoint b_M_keepPoint 3 none ({ frames := 1, cells := 0, slots := 0, locals := 23 } : Room) 0 0 [.ref m0] [(m0, .inr (7, [.int th, .int zz, .int rn, .ref rw, .int kn, .int rk, .int y1, .ref ry, .int sp, .int lg, .ref ti, .int fo, .int (nI n), .ref po, .ref su, .ref sq, .ref ch, .ref vt, .ref sh])), (vt, .inl (cI, 4, .inl vf)), (po, .inl (cI, 4000, .inl pf))] sz (fun o9 _ w9 => o9 = .returned none ∧ w9 = [(m0, .inr (7, [.int th, .int zz, .int rn, .ref rw, .int kn, .int rk, .int y1, .ref ry, .int sp, .int lg, .ref ti, .int fo, .int (nI (n + 1)), .ref po, .ref su, .ref sq, .ref ch, .ref vt, .ref sh])), (vt, .inl (cI, 4, .inl vf)), (po, .inl (cI, 4000, .inl (kpF n (kpl pf vf n 0) pf vf)))]) := by
  refine tx_ofW (cc := b_M_keepPoint) (maxL := 3) (ret := none) (by decide) rfl ?_
  intro p e s m args below meth c s₁ B hml hT hv
  obtain ⟨rfl, hsz, hP, hD0, hx0⟩ := hv
  have hx := B.exec
  have hb := B.bytes
  have hr := B.returns
  have G := E.2.1
  have hown : s.vm.findClass cn_M = some m.cls := findClass_of_methodNamed B.named
  have hlocks := B.notSynchronized
  have hK := va_K.moved hx0.1.alike E.2.2.1
  have hf_M : ∀ w99 ∈ u_ws cn_M ft_M 19, w99.before ([.ref m0] : List Value).toArray s = true := fun w99 h99 => gw.at G hx0 (fw_M w99 h99) (fo_M w99 h99) _
  subst hsz
  have hA0 := cx_new hD0 hx0.2.1
  have hD := hD0.self (sz := s.heap.size)
  generalize hAe : va_A [(m0, .inr (7, [.int th, .int zz, .int rn, .ref rw, .int kn, .int rk, .int y1, .ref ry, .int sp, .int lg, .ref ti, .int fo, .int (nI n), .ref po, .ref su, .ref sq, .ref ch, .ref vt, .ref sh])), (vt, .inl (cI, 4, .inl vf)), (po, .inl (cI, 4000, .inl pf))] s.heap.size = A at hD hA0 ⊢
  have hA : ∀ q : Nat, s.heap.size ≤ q → A q := fun q h => by rw [← hAe]; exact Or.inr h
  have hS : va_S A s.heap s.heap [] := va_S.rf
  have hl := lv_entry ([.ref m0]) (n := 3) (Nat.le_of_ble_eq_true rfl)
  rw [lg_entry_eq]
  generalize (lg_sl ([.ref m0]) ++ List.replicate (3 - (lg_sl ([.ref m0])).length) Slot.unset).toArray = ls at hl ⊢
  have hl : lv_has ls 3 [(0, .ref m0)] := hl
  have hP : va_P D kl [(m0, .inr (7, [.int th, .int zz, .int rn, .ref rw, .int kn, .int rk, .int y1, .ref ry, .int sp, .int lg, .ref ti, .int fo, .int (nI n), .ref po, .ref su, .ref sq, .ref ch, .ref vt, .ref sh])), (vt, .inl (cI, 4, .inl vf)), (po, .inl (cI, 4000, .inl pf))] s.heap := hP
  have hml : c.maxLocals = 3 := hml
  generalize hQe : tx_Z below (cx_Q D kl A (fun o9 _ w9 => o9 = .returned none ∧ w9 = [(m0, .inr (7, [.int th, .int zz, .int rn, .ref rw, .int kn, .int rk, .int y1, .ref ry, .int sp, .int lg, .ref ti, .int fo, .int (nI (n + 1)), .ref po, .ref su, .ref sq, .ref ch, .ref vt, .ref sh])), (vt, .inl (cI, 4, .inl vf)), (po, .inl (cI, 4000, .inl (kpF n (kpl pf vf n 0) pf vf)))])) ([.ref m0] : List Value).toArray s 0 0 A = Q
  refine lv_iconst (v := (0 : Int32)) hx hb d_M_keepPoint_0 (by decide) ?_
  refine lv_istore_n (lv' := [(1, .int (0 : Int32)), (0, .ref m0)]) hx hb d_M_keepPoint_1 rfl hl (by decide) rfl (fun ls hl => ?_)
  have lp_2 : ∀ (n9 : Nat) (k : Nat) (ls : Array Slot) (H : Heap) (locs : List Loc), n - k = n9 → (kpl pf vf n 0 = kpl pf vf (n - k) k) → (k ≤ n) → lv_has ls 3 [(1, .int (nI k)), (0, .ref m0)] → va_P D kl [(m0, .inr (7, [.int th, .int zz, .int rn, .ref rw, .int kn, .int rk, .int y1, .ref ry, .int sp, .int lg, .ref ti, .int fo, .int (nI n), .ref po, .ref su, .ref sq, .ref ch, .ref vt, .ref sh])), (vt, .inl (cI, 4, .inl vf)), (po, .inl (cI, 4000, .inl pf))] H → va_D A [(m0, .inr (7, [.int th, .int zz, .int rn, .ref rw, .int kn, .int rk, .int y1, .ref ry, .int sp, .int lg, .ref ti, .int fo, .int (nI n), .ref po, .ref su, .ref sq, .ref ch, .ref vt, .ref sh])), (vt, .inl (cI, 4, .inl vf)), (po, .inl (cI, 4000, .inl pf))] → va_S A s.heap H locs → W p l e ({ frames := 1, cells := 0, slots := 0, locals := 23 } : Room) s m ([.ref m0] : List Value).toArray below meth c H locs 0 0 Q (F0 m 2 ls []) := by
    intro n9
    induction n9 using Nat.strongRecOn with
    | ind n9 ih_2 =>
      intro k ls H locs hm_2 hpo hk9 hl hP hD hS
      refine lv_iload_n hx hb d_M_keepPoint_2 rfl (lv_at hl 0 rfl) ?_
      refine lv_aload_n hx hb d_M_keepPoint_3 rfl (lv_at hl 1 rfl) ?_
      refine va_get (D := D) (ci := 7) (v := .int (nI n)) (C := cn_M) (T := ft_M) (N := 19) hx hb hf_M (fun _ h => h) hown hK hP 0 rfl rfl 12 (by decide) (gw.at G hx0 mw_725 rfl _) (fun _ h9 => h9) rfl d_M_keepPoint_4 ?_
      refine lv_icmp_ge (tgt := 30) hx hb d_M_keepPoint_7 (by decide) (fun h_1 => ?_) (fun h_1 => ?_)
      · have h_1 : n ≤ k := (nI_leI (a := n) (b := k) (by omega) (by omega)).mp h_1
        have hpv : kpl pf vf n 0 = k := hpo.trans (kpl_n (by omega))
        refine lv_aload_n hx hb d_M_keepPoint_30 rfl (lv_at hl 1 rfl) ?_
        refine va_get (D := D) (ci := 7) (v := .int (nI n)) (C := cn_M) (T := ft_M) (N := 19) hx hb hf_M (fun _ h => h) hown hK hP 0 rfl rfl 12 (by decide) (gw.at G hx0 mw_725 rfl _) (fun _ h9 => h9) rfl d_M_keepPoint_31 ?_
        refine lv_sipush (v := (1000 : Int32)) hx hb d_M_keepPoint_34 (by decide) ?_
        refine lv_icmp_eq (tgt := 62) hx hb d_M_keepPoint_37 (by decide) (fun h99 => absurd h99 (fun z99 => absurd ((nI_eq (a := n) (b := 1000) (by omega) (by omega)).mp z99) (by omega))) (fun _ => ?_)
        refine lv_iload_n hx hb d_M_keepPoint_40 rfl (lv_at hl 0 rfl) ?_
        refine lv_aload_n hx hb d_M_keepPoint_41 rfl (lv_at hl 1 rfl) ?_
        refine va_get (D := D) (ci := 7) (v := .int (nI n)) (C := cn_M) (T := ft_M) (N := 19) hx hb hf_M (fun _ h => h) hown hK hP 0 rfl rfl 12 (by decide) (gw.at G hx0 mw_725 rfl _) (fun _ h9 => h9) rfl d_M_keepPoint_42 ?_
        refine lv_icmp_ge (tgt := 63) hx hb d_M_keepPoint_45 (by decide) (fun _ => ?_) (fun h99 => absurd h99 (not_not_intro ((nI_leI (a := n) (b := k) (by omega) (by omega)).mpr (by omega))))
        refine lv_iconst (v := (4 : Int32)) hx hb d_M_keepPoint_63 (by decide) ?_
        refine lv_aload_n hx hb d_M_keepPoint_64 rfl (lv_at hl 1 rfl) ?_
        refine va_get (D := D) (ci := 7) (v := .int (nI n)) (C := cn_M) (T := ft_M) (N := 19) hx hb hf_M (fun _ h => h) hown hK hP 0 rfl rfl 12 (by decide) (gw.at G hx0 mw_725 rfl _) (fun _ h9 => h9) rfl d_M_keepPoint_65 ?_
        refine lv_imul hx hb d_M_keepPoint_68 ?_
        refine tp_i (y := nI (4 * n)) (nI_mul 4 n) ?_
        refine lv_iconst (v := (1 : Int32)) hx hb d_M_keepPoint_69 (by decide) ?_
        refine lv_isub hx hb d_M_keepPoint_70 ?_
        refine lv_istore_n (lv' := [(2, .int ((nI (4 * n)) - (1 : Int32))), (1, .int (nI k)), (0, .ref m0)]) hx hb d_M_keepPoint_71 rfl hl (by decide) rfl (fun ls hl => ?_)
        have lp_72 : ∀ (n9 : Nat) (u : Nat) (f2 : Nat → Int32) (ls : Array Slot) (H : Heap) (locs : List Loc), u = n9 → (shd k (4 * n) pf = shd k u f2) → (u ≤ 4 * n) → lv_has ls 3 [(2, .int (nI u - (1 : Int32))), (1, .int (nI k)), (0, .ref m0)] → va_P D kl [(m0, .inr (7, [.int th, .int zz, .int rn, .ref rw, .int kn, .int rk, .int y1, .ref ry, .int sp, .int lg, .ref ti, .int fo, .int (nI n), .ref po, .ref su, .ref sq, .ref ch, .ref vt, .ref sh])), (vt, .inl (cI, 4, .inl vf)), (po, .inl (cI, 4000, .inl f2))] H → va_D A [(m0, .inr (7, [.int th, .int zz, .int rn, .ref rw, .int kn, .int rk, .int y1, .ref ry, .int sp, .int lg, .ref ti, .int fo, .int (nI n), .ref po, .ref su, .ref sq, .ref ch, .ref vt, .ref sh])), (vt, .inl (cI, 4, .inl vf)), (po, .inl (cI, 4000, .inl f2))] → va_S A s.heap H locs → W p l e ({ frames := 1, cells := 0, slots := 0, locals := 23 } : Room) s m ([.ref m0] : List Value).toArray below meth c H locs 0 0 Q (F0 m 72 ls []) := by
          intro n9
          induction n9 using Nat.strongRecOn with
          | ind n9 ih_72 =>
            intro u f2 ls H locs hm_72 hsh hu9 hl hP hD hS
            rcases Nat.eq_zero_or_pos u with hup | hup
            · rw [show nI u - (1 : Int32) = (-1 : Int32) by rw [hup]; decide] at hl
              refine lv_iload_n hx hb d_M_keepPoint_72 rfl (lv_at hl 0 rfl) ?_
              refine lv_iconst (v := (4 : Int32)) hx hb d_M_keepPoint_73 (by decide) ?_
              refine lv_iload_n hx hb d_M_keepPoint_74 rfl (lv_at hl 1 rfl) ?_
              refine lv_imul hx hb d_M_keepPoint_75 ?_
              refine tp_i (y := nI (4 * k)) (nI_mul 4 k) ?_
              refine lv_icmp_lt (tgt := 99) hx hb d_M_keepPoint_76 (by decide) (fun _ => ?_) (fun h99 => absurd h99 (not_not_intro (m1_lt (n := 4 * k) (by omega))))
              have hsf := hsh.trans (shd_e (k := k) (u := u) (f := f2) (by omega))
              rw [← hsf] at hP hD
              have hP : va_P D kl [(m0, .inr (7, [.int th, .int zz, .int rn, .ref rw, .int kn, .int rk, .int y1, .ref ry, .int sp, .int lg, .ref ti, .int fo, .int (nI n), .ref po, .ref su, .ref sq, .ref ch, .ref vt, .ref sh])), (vt, .inl (cI, 4, .inl vf)), (po, .inl (cI, 4000, .inl (shd k (4 * n) pf)))] H := hP
              have hD : va_D A [(m0, .inr (7, [.int th, .int zz, .int rn, .ref rw, .int kn, .int rk, .int y1, .ref ry, .int sp, .int lg, .ref ti, .int fo, .int (nI n), .ref po, .ref su, .ref sq, .ref ch, .ref vt, .ref sh])), (vt, .inl (cI, 4, .inl vf)), (po, .inl (cI, 4000, .inl (shd k (4 * n) pf)))] := hD
              refine lv_iconst (v := (0 : Int32)) hx hb d_M_keepPoint_99 (by decide) ?_
              refine lv_istore_n (lv' := [(2, .int (0 : Int32)), (1, .int (nI k)), (0, .ref m0)]) hx hb d_M_keepPoint_100 rfl hl (by decide) rfl (fun ls hl => ?_)
              refine lv_iload_n hx hb d_M_keepPoint_101 rfl (lv_at hl 0 rfl) ?_
              refine lv_iconst (v := (4 : Int32)) hx hb d_M_keepPoint_102 (by decide) ?_
              refine lv_icmp_ge (tgt := 128) hx hb d_M_keepPoint_103 (by decide) (fun h99 => absurd h99 (by decide)) (fun _ => ?_)
              refine lv_aload_n hx hb d_M_keepPoint_106 rfl (lv_at hl 2 rfl) ?_
              refine va_get (D := D) (ci := 7) (v := .ref po) (C := cn_M) (T := ft_M) (N := 19) hx hb hf_M (fun _ h => h) hown hK hP 0 rfl rfl 13 (by decide) (gw.at G hx0 mw_726 rfl _) (fun _ h9 => h9) rfl d_M_keepPoint_107 ?_
              refine lv_iconst (v := (4 : Int32)) hx hb d_M_keepPoint_110 (by decide) ?_
              refine lv_iload_n hx hb d_M_keepPoint_111 rfl (lv_at hl 1 rfl) ?_
              refine lv_imul hx hb d_M_keepPoint_112 ?_
              refine tp_i (y := nI (4 * k)) (nI_mul 4 k) ?_
              refine lv_iload_n hx hb d_M_keepPoint_113 rfl (lv_at hl 0 rfl) ?_
              refine lv_iadd hx hb d_M_keepPoint_114 ?_
              refine tp_i (y := nI ((4 * k) + 0)) (nI_add (4 * k) 0) ?_
              refine lv_aload_n hx hb d_M_keepPoint_115 rfl (lv_at hl 2 rfl) ?_
              refine va_get (D := D) (ci := 7) (v := .ref vt) (C := cn_M) (T := ft_M) (N := 19) hx hb hf_M (fun _ h => h) hown hK hP 0 rfl rfl 17 (by decide) (gw.at G hx0 mw_730 rfl _) (fun _ h9 => h9) rfl d_M_keepPoint_116 ?_
              refine lv_iload_n hx hb d_M_keepPoint_119 rfl (lv_at hl 0 rfl) ?_
              refine va_iald hx hb hK hP 1 0 rfl rfl (vp_in_iff.mpr (by decide)) d_M_keepPoint_120 ?_
              refine tp_i (y := vf 0) (by rfl) ?_
              refine va_iast hx hb hK hP hD hS 2 0 rfl rfl (vp_in_nI (n := (4 * k) + 0) (by omega) (by omega)) d_M_keepPoint_121 (fun H locs hP hD hS => ?_)
              rw [nI_clamp (n := (4 * k) + 0) (by omega)] at hP hD
              have hP : va_P D kl [(m0, .inr (7, [.int th, .int zz, .int rn, .ref rw, .int kn, .int rk, .int y1, .ref ry, .int sp, .int lg, .ref ti, .int fo, .int (nI n), .ref po, .ref su, .ref sq, .ref ch, .ref vt, .ref sh])), (vt, .inl (cI, 4, .inl vf)), (po, .inl (cI, 4000, .inl (upd (shd k (4 * n) pf) ((4 * k) + 0) (vf 0))))] H := hP
              have hD : va_D A [(m0, .inr (7, [.int th, .int zz, .int rn, .ref rw, .int kn, .int rk, .int y1, .ref ry, .int sp, .int lg, .ref ti, .int fo, .int (nI n), .ref po, .ref su, .ref sq, .ref ch, .ref vt, .ref sh])), (vt, .inl (cI, 4, .inl vf)), (po, .inl (cI, 4000, .inl (upd (shd k (4 * n) pf) ((4 * k) + 0) (vf 0))))] := hD
              refine lv_iinc (lv' := [(2, .int (1 : Int32)), (1, .int (nI k)), (0, .ref m0)]) (k := 0) (v := (1 : Int32)) hx hb d_M_keepPoint_122 hl rfl (by decide) (by decide) rfl (fun ls hl => ?_)
              refine lv_goto (tgt := 101) hx hb d_M_keepPoint_125 (by decide) ?_
              refine lv_iload_n hx hb d_M_keepPoint_101 rfl (lv_at hl 0 rfl) ?_
              refine lv_iconst (v := (4 : Int32)) hx hb d_M_keepPoint_102 (by decide) ?_
              refine lv_icmp_ge (tgt := 128) hx hb d_M_keepPoint_103 (by decide) (fun h99 => absurd h99 (by decide)) (fun _ => ?_)
              refine lv_aload_n hx hb d_M_keepPoint_106 rfl (lv_at hl 2 rfl) ?_
              refine va_get (D := D) (ci := 7) (v := .ref po) (C := cn_M) (T := ft_M) (N := 19) hx hb hf_M (fun _ h => h) hown hK hP 0 rfl rfl 13 (by decide) (gw.at G hx0 mw_726 rfl _) (fun _ h9 => h9) rfl d_M_keepPoint_107 ?_
              refine lv_iconst (v := (4 : Int32)) hx hb d_M_keepPoint_110 (by decide) ?_
              refine lv_iload_n hx hb d_M_keepPoint_111 rfl (lv_at hl 1 rfl) ?_
              refine lv_imul hx hb d_M_keepPoint_112 ?_
              refine tp_i (y := nI (4 * k)) (nI_mul 4 k) ?_
              refine lv_iload_n hx hb d_M_keepPoint_113 rfl (lv_at hl 0 rfl) ?_
              refine lv_iadd hx hb d_M_keepPoint_114 ?_
              refine tp_i (y := nI ((4 * k) + 1)) (nI_add (4 * k) 1) ?_
              refine lv_aload_n hx hb d_M_keepPoint_115 rfl (lv_at hl 2 rfl) ?_
              refine va_get (D := D) (ci := 7) (v := .ref vt) (C := cn_M) (T := ft_M) (N := 19) hx hb hf_M (fun _ h => h) hown hK hP 0 rfl rfl 17 (by decide) (gw.at G hx0 mw_730 rfl _) (fun _ h9 => h9) rfl d_M_keepPoint_116 ?_
              refine lv_iload_n hx hb d_M_keepPoint_119 rfl (lv_at hl 0 rfl) ?_
              refine va_iald hx hb hK hP 1 0 rfl rfl (vp_in_iff.mpr (by decide)) d_M_keepPoint_120 ?_
              refine tp_i (y := vf 1) (by rfl) ?_
              refine va_iast hx hb hK hP hD hS 2 0 rfl rfl (vp_in_nI (n := (4 * k) + 1) (by omega) (by omega)) d_M_keepPoint_121 (fun H locs hP hD hS => ?_)
              rw [nI_clamp (n := (4 * k) + 1) (by omega)] at hP hD
              have hP : va_P D kl [(m0, .inr (7, [.int th, .int zz, .int rn, .ref rw, .int kn, .int rk, .int y1, .ref ry, .int sp, .int lg, .ref ti, .int fo, .int (nI n), .ref po, .ref su, .ref sq, .ref ch, .ref vt, .ref sh])), (vt, .inl (cI, 4, .inl vf)), (po, .inl (cI, 4000, .inl (upd (upd (shd k (4 * n) pf) ((4 * k) + 0) (vf 0)) ((4 * k) + 1) (vf 1))))] H := hP
              have hD : va_D A [(m0, .inr (7, [.int th, .int zz, .int rn, .ref rw, .int kn, .int rk, .int y1, .ref ry, .int sp, .int lg, .ref ti, .int fo, .int (nI n), .ref po, .ref su, .ref sq, .ref ch, .ref vt, .ref sh])), (vt, .inl (cI, 4, .inl vf)), (po, .inl (cI, 4000, .inl (upd (upd (shd k (4 * n) pf) ((4 * k) + 0) (vf 0)) ((4 * k) + 1) (vf 1))))] := hD
              refine lv_iinc (lv' := [(2, .int (2 : Int32)), (1, .int (nI k)), (0, .ref m0)]) (k := 0) (v := (2 : Int32)) hx hb d_M_keepPoint_122 hl rfl (by decide) (by decide) rfl (fun ls hl => ?_)
              refine lv_goto (tgt := 101) hx hb d_M_keepPoint_125 (by decide) ?_
              refine lv_iload_n hx hb d_M_keepPoint_101 rfl (lv_at hl 0 rfl) ?_
              refine lv_iconst (v := (4 : Int32)) hx hb d_M_keepPoint_102 (by decide) ?_
              refine lv_icmp_ge (tgt := 128) hx hb d_M_keepPoint_103 (by decide) (fun h99 => absurd h99 (by decide)) (fun _ => ?_)
              refine lv_aload_n hx hb d_M_keepPoint_106 rfl (lv_at hl 2 rfl) ?_
              refine va_get (D := D) (ci := 7) (v := .ref po) (C := cn_M) (T := ft_M) (N := 19) hx hb hf_M (fun _ h => h) hown hK hP 0 rfl rfl 13 (by decide) (gw.at G hx0 mw_726 rfl _) (fun _ h9 => h9) rfl d_M_keepPoint_107 ?_
              refine lv_iconst (v := (4 : Int32)) hx hb d_M_keepPoint_110 (by decide) ?_
              refine lv_iload_n hx hb d_M_keepPoint_111 rfl (lv_at hl 1 rfl) ?_
              refine lv_imul hx hb d_M_keepPoint_112 ?_
              refine tp_i (y := nI (4 * k)) (nI_mul 4 k) ?_
              refine lv_iload_n hx hb d_M_keepPoint_113 rfl (lv_at hl 0 rfl) ?_
              refine lv_iadd hx hb d_M_keepPoint_114 ?_
              refine tp_i (y := nI ((4 * k) + 2)) (nI_add (4 * k) 2) ?_
              refine lv_aload_n hx hb d_M_keepPoint_115 rfl (lv_at hl 2 rfl) ?_
              refine va_get (D := D) (ci := 7) (v := .ref vt) (C := cn_M) (T := ft_M) (N := 19) hx hb hf_M (fun _ h => h) hown hK hP 0 rfl rfl 17 (by decide) (gw.at G hx0 mw_730 rfl _) (fun _ h9 => h9) rfl d_M_keepPoint_116 ?_
              refine lv_iload_n hx hb d_M_keepPoint_119 rfl (lv_at hl 0 rfl) ?_
              refine va_iald hx hb hK hP 1 0 rfl rfl (vp_in_iff.mpr (by decide)) d_M_keepPoint_120 ?_
              refine tp_i (y := vf 2) (by rfl) ?_
              refine va_iast hx hb hK hP hD hS 2 0 rfl rfl (vp_in_nI (n := (4 * k) + 2) (by omega) (by omega)) d_M_keepPoint_121 (fun H locs hP hD hS => ?_)
              rw [nI_clamp (n := (4 * k) + 2) (by omega)] at hP hD
              have hP : va_P D kl [(m0, .inr (7, [.int th, .int zz, .int rn, .ref rw, .int kn, .int rk, .int y1, .ref ry, .int sp, .int lg, .ref ti, .int fo, .int (nI n), .ref po, .ref su, .ref sq, .ref ch, .ref vt, .ref sh])), (vt, .inl (cI, 4, .inl vf)), (po, .inl (cI, 4000, .inl (upd (upd (upd (shd k (4 * n) pf) ((4 * k) + 0) (vf 0)) ((4 * k) + 1) (vf 1)) ((4 * k) + 2) (vf 2))))] H := hP
              have hD : va_D A [(m0, .inr (7, [.int th, .int zz, .int rn, .ref rw, .int kn, .int rk, .int y1, .ref ry, .int sp, .int lg, .ref ti, .int fo, .int (nI n), .ref po, .ref su, .ref sq, .ref ch, .ref vt, .ref sh])), (vt, .inl (cI, 4, .inl vf)), (po, .inl (cI, 4000, .inl (upd (upd (upd (shd k (4 * n) pf) ((4 * k) + 0) (vf 0)) ((4 * k) + 1) (vf 1)) ((4 * k) + 2) (vf 2))))] := hD
              refine lv_iinc (lv' := [(2, .int (3 : Int32)), (1, .int (nI k)), (0, .ref m0)]) (k := 0) (v := (3 : Int32)) hx hb d_M_keepPoint_122 hl rfl (by decide) (by decide) rfl (fun ls hl => ?_)
              refine lv_goto (tgt := 101) hx hb d_M_keepPoint_125 (by decide) ?_
              refine lv_iload_n hx hb d_M_keepPoint_101 rfl (lv_at hl 0 rfl) ?_
              refine lv_iconst (v := (4 : Int32)) hx hb d_M_keepPoint_102 (by decide) ?_
              refine lv_icmp_ge (tgt := 128) hx hb d_M_keepPoint_103 (by decide) (fun h99 => absurd h99 (by decide)) (fun _ => ?_)
              refine lv_aload_n hx hb d_M_keepPoint_106 rfl (lv_at hl 2 rfl) ?_
              refine va_get (D := D) (ci := 7) (v := .ref po) (C := cn_M) (T := ft_M) (N := 19) hx hb hf_M (fun _ h => h) hown hK hP 0 rfl rfl 13 (by decide) (gw.at G hx0 mw_726 rfl _) (fun _ h9 => h9) rfl d_M_keepPoint_107 ?_
              refine lv_iconst (v := (4 : Int32)) hx hb d_M_keepPoint_110 (by decide) ?_
              refine lv_iload_n hx hb d_M_keepPoint_111 rfl (lv_at hl 1 rfl) ?_
              refine lv_imul hx hb d_M_keepPoint_112 ?_
              refine tp_i (y := nI (4 * k)) (nI_mul 4 k) ?_
              refine lv_iload_n hx hb d_M_keepPoint_113 rfl (lv_at hl 0 rfl) ?_
              refine lv_iadd hx hb d_M_keepPoint_114 ?_
              refine tp_i (y := nI ((4 * k) + 3)) (nI_add (4 * k) 3) ?_
              refine lv_aload_n hx hb d_M_keepPoint_115 rfl (lv_at hl 2 rfl) ?_
              refine va_get (D := D) (ci := 7) (v := .ref vt) (C := cn_M) (T := ft_M) (N := 19) hx hb hf_M (fun _ h => h) hown hK hP 0 rfl rfl 17 (by decide) (gw.at G hx0 mw_730 rfl _) (fun _ h9 => h9) rfl d_M_keepPoint_116 ?_
              refine lv_iload_n hx hb d_M_keepPoint_119 rfl (lv_at hl 0 rfl) ?_
              refine va_iald hx hb hK hP 1 0 rfl rfl (vp_in_iff.mpr (by decide)) d_M_keepPoint_120 ?_
              refine tp_i (y := vf 3) (by rfl) ?_
              refine va_iast hx hb hK hP hD hS 2 0 rfl rfl (vp_in_nI (n := (4 * k) + 3) (by omega) (by omega)) d_M_keepPoint_121 (fun H locs hP hD hS => ?_)
              rw [nI_clamp (n := (4 * k) + 3) (by omega)] at hP hD
              have hP : va_P D kl [(m0, .inr (7, [.int th, .int zz, .int rn, .ref rw, .int kn, .int rk, .int y1, .ref ry, .int sp, .int lg, .ref ti, .int fo, .int (nI n), .ref po, .ref su, .ref sq, .ref ch, .ref vt, .ref sh])), (vt, .inl (cI, 4, .inl vf)), (po, .inl (cI, 4000, .inl (upd (upd (upd (upd (shd k (4 * n) pf) ((4 * k) + 0) (vf 0)) ((4 * k) + 1) (vf 1)) ((4 * k) + 2) (vf 2)) ((4 * k) + 3) (vf 3))))] H := hP
              have hD : va_D A [(m0, .inr (7, [.int th, .int zz, .int rn, .ref rw, .int kn, .int rk, .int y1, .ref ry, .int sp, .int lg, .ref ti, .int fo, .int (nI n), .ref po, .ref su, .ref sq, .ref ch, .ref vt, .ref sh])), (vt, .inl (cI, 4, .inl vf)), (po, .inl (cI, 4000, .inl (upd (upd (upd (upd (shd k (4 * n) pf) ((4 * k) + 0) (vf 0)) ((4 * k) + 1) (vf 1)) ((4 * k) + 2) (vf 2)) ((4 * k) + 3) (vf 3))))] := hD
              refine lv_iinc (lv' := [(2, .int (4 : Int32)), (1, .int (nI k)), (0, .ref m0)]) (k := 0) (v := (4 : Int32)) hx hb d_M_keepPoint_122 hl rfl (by decide) (by decide) rfl (fun ls hl => ?_)
              refine lv_goto (tgt := 101) hx hb d_M_keepPoint_125 (by decide) ?_
              refine lv_iload_n hx hb d_M_keepPoint_101 rfl (lv_at hl 0 rfl) ?_
              refine lv_iconst (v := (4 : Int32)) hx hb d_M_keepPoint_102 (by decide) ?_
              refine lv_icmp_ge (tgt := 128) hx hb d_M_keepPoint_103 (by decide) (fun _ => ?_) (fun h99 => absurd h99 (by decide))
              have hF : upd (upd (upd (upd (shd k (4 * n) pf) ((4 * k) + 0) (vf 0)) ((4 * k) + 1) (vf 1)) ((4 * k) + 2) (vf 2)) ((4 * k) + 3) (vf 3) = kpF n (kpl pf vf n 0) pf vf := by rw [hpv]; rfl
              rw [hF] at hP hD
              have hP : va_P D kl [(m0, .inr (7, [.int th, .int zz, .int rn, .ref rw, .int kn, .int rk, .int y1, .ref ry, .int sp, .int lg, .ref ti, .int fo, .int (nI n), .ref po, .ref su, .ref sq, .ref ch, .ref vt, .ref sh])), (vt, .inl (cI, 4, .inl vf)), (po, .inl (cI, 4000, .inl (kpF n (kpl pf vf n 0) pf vf)))] H := hP
              have hD : va_D A [(m0, .inr (7, [.int th, .int zz, .int rn, .ref rw, .int kn, .int rk, .int y1, .ref ry, .int sp, .int lg, .ref ti, .int fo, .int (nI n), .ref po, .ref su, .ref sq, .ref ch, .ref vt, .ref sh])), (vt, .inl (cI, 4, .inl vf)), (po, .inl (cI, 4000, .inl (kpF n (kpl pf vf n 0) pf vf)))] := hD
              refine lv_aload_n hx hb d_M_keepPoint_128 rfl (lv_at hl 2 rfl) ?_
              refine lv_dup hx hb d_M_keepPoint_129 rfl ?_
              refine va_get (D := D) (ci := 7) (v := .int (nI n)) (C := cn_M) (T := ft_M) (N := 19) hx hb hf_M (fun _ h => h) hown hK hP 0 rfl rfl 12 (by decide) (gw.at G hx0 mw_725 rfl _) (fun _ h9 => h9) rfl d_M_keepPoint_130 ?_
              refine lv_iconst (v := (1 : Int32)) hx hb d_M_keepPoint_133 (by decide) ?_
              refine lv_iadd hx hb d_M_keepPoint_134 ?_
              refine tp_i (y := nI (n + 1)) (nI_add n 1) ?_
              refine va_put (D := D) (ci := 7) (v := .int (nI (n + 1))) (ty := .int) (C := cn_M) (T := ft_M) (N := 19) hx hb hf_M (fun _ h => h) fy_M fk_M fn_M hown hK hP hD hS 0 rfl rfl 12 (by decide) (gw.at G hx0 mw_725 rfl _) (fun _ h9 => h9) rfl (by decide +kernel) rfl rfl (Nat.le_of_ble_eq_true rfl) d_M_keepPoint_135 (fun H locs hP hD hS => ?_)
              have hP : va_P D kl [(m0, .inr (7, [.int th, .int zz, .int rn, .ref rw, .int kn, .int rk, .int y1, .ref ry, .int sp, .int lg, .ref ti, .int fo, .int (nI (n + 1)), .ref po, .ref su, .ref sq, .ref ch, .ref vt, .ref sh])), (vt, .inl (cI, 4, .inl vf)), (po, .inl (cI, 4000, .inl (kpF n (kpl pf vf n 0) pf vf)))] H := hP
              have hD : va_D A [(m0, .inr (7, [.int th, .int zz, .int rn, .ref rw, .int kn, .int rk, .int y1, .ref ry, .int sp, .int lg, .ref ti, .int fo, .int (nI (n + 1)), .ref po, .ref su, .ref sq, .ref ch, .ref vt, .ref sh])), (vt, .inl (cI, 4, .inl vf)), (po, .inl (cI, 4000, .inl (kpF n (kpl pf vf n 0) pf vf)))] := hD
              rw [← hQe]
              exact tx_mono (fun _ h => tx_Z.of h) (W.vret hx hb hr (fun t ht hW => ⟨⟨[(m0, .inr (7, [.int th, .int zz, .int rn, .ref rw, .int kn, .int rk, .int y1, .ref ry, .int sp, .int lg, .ref ti, .int fo, .int (nI (n + 1)), .ref po, .ref su, .ref sq, .ref ch, .ref vt, .ref sh])), (vt, .inl (cI, 4, .inl vf)), (po, .inl (cI, 4000, .inl (kpF n (kpl pf vf n 0) pf vf)))], ⟨rfl, rfl⟩, by rw [ht]; exact hP.sub [0, 1, 2] rfl, hD.sub [0, 1, 2] (by decide) rfl⟩, hS.F ht⟩) hS.2.2 d_M_keepPoint_138)
            · rw [show nI u - (1 : Int32) = nI (u - 1) from nI_sub (a := u) (b := 1) hup] at hl
              refine lv_iload_n hx hb d_M_keepPoint_72 rfl (lv_at hl 0 rfl) ?_
              refine lv_iconst (v := (4 : Int32)) hx hb d_M_keepPoint_73 (by decide) ?_
              refine lv_iload_n hx hb d_M_keepPoint_74 rfl (lv_at hl 1 rfl) ?_
              refine lv_imul hx hb d_M_keepPoint_75 ?_
              refine tp_i (y := nI (4 * k)) (nI_mul 4 k) ?_
              refine lv_icmp_lt (tgt := 99) hx hb d_M_keepPoint_76 (by decide) (fun h_2 => ?_) (fun h_2 => ?_)
              · have h_2 : (u - 1) < (4 * k) := (nI_ltI (a := u - 1) (b := 4 * k) (by omega) (by omega)).mp h_2
                have hsf := hsh.trans (shd_e (k := k) (u := u) (f := f2) (by omega))
                rw [← hsf] at hP hD
                have hP : va_P D kl [(m0, .inr (7, [.int th, .int zz, .int rn, .ref rw, .int kn, .int rk, .int y1, .ref ry, .int sp, .int lg, .ref ti, .int fo, .int (nI n), .ref po, .ref su, .ref sq, .ref ch, .ref vt, .ref sh])), (vt, .inl (cI, 4, .inl vf)), (po, .inl (cI, 4000, .inl (shd k (4 * n) pf)))] H := hP
                have hD : va_D A [(m0, .inr (7, [.int th, .int zz, .int rn, .ref rw, .int kn, .int rk, .int y1, .ref ry, .int sp, .int lg, .ref ti, .int fo, .int (nI n), .ref po, .ref su, .ref sq, .ref ch, .ref vt, .ref sh])), (vt, .inl (cI, 4, .inl vf)), (po, .inl (cI, 4000, .inl (shd k (4 * n) pf)))] := hD
                refine lv_iconst (v := (0 : Int32)) hx hb d_M_keepPoint_99 (by decide) ?_
                refine lv_istore_n (lv' := [(2, .int (0 : Int32)), (1, .int (nI k)), (0, .ref m0)]) hx hb d_M_keepPoint_100 rfl hl (by decide) rfl (fun ls hl => ?_)
                refine lv_iload_n hx hb d_M_keepPoint_101 rfl (lv_at hl 0 rfl) ?_
                refine lv_iconst (v := (4 : Int32)) hx hb d_M_keepPoint_102 (by decide) ?_
                refine lv_icmp_ge (tgt := 128) hx hb d_M_keepPoint_103 (by decide) (fun h99 => absurd h99 (by decide)) (fun _ => ?_)
                refine lv_aload_n hx hb d_M_keepPoint_106 rfl (lv_at hl 2 rfl) ?_
                refine va_get (D := D) (ci := 7) (v := .ref po) (C := cn_M) (T := ft_M) (N := 19) hx hb hf_M (fun _ h => h) hown hK hP 0 rfl rfl 13 (by decide) (gw.at G hx0 mw_726 rfl _) (fun _ h9 => h9) rfl d_M_keepPoint_107 ?_
                refine lv_iconst (v := (4 : Int32)) hx hb d_M_keepPoint_110 (by decide) ?_
                refine lv_iload_n hx hb d_M_keepPoint_111 rfl (lv_at hl 1 rfl) ?_
                refine lv_imul hx hb d_M_keepPoint_112 ?_
                refine tp_i (y := nI (4 * k)) (nI_mul 4 k) ?_
                refine lv_iload_n hx hb d_M_keepPoint_113 rfl (lv_at hl 0 rfl) ?_
                refine lv_iadd hx hb d_M_keepPoint_114 ?_
                refine tp_i (y := nI ((4 * k) + 0)) (nI_add (4 * k) 0) ?_
                refine lv_aload_n hx hb d_M_keepPoint_115 rfl (lv_at hl 2 rfl) ?_
                refine va_get (D := D) (ci := 7) (v := .ref vt) (C := cn_M) (T := ft_M) (N := 19) hx hb hf_M (fun _ h => h) hown hK hP 0 rfl rfl 17 (by decide) (gw.at G hx0 mw_730 rfl _) (fun _ h9 => h9) rfl d_M_keepPoint_116 ?_
                refine lv_iload_n hx hb d_M_keepPoint_119 rfl (lv_at hl 0 rfl) ?_
                refine va_iald hx hb hK hP 1 0 rfl rfl (vp_in_iff.mpr (by decide)) d_M_keepPoint_120 ?_
                refine tp_i (y := vf 0) (by rfl) ?_
                refine va_iast hx hb hK hP hD hS 2 0 rfl rfl (vp_in_nI (n := (4 * k) + 0) (by omega) (by omega)) d_M_keepPoint_121 (fun H locs hP hD hS => ?_)
                rw [nI_clamp (n := (4 * k) + 0) (by omega)] at hP hD
                have hP : va_P D kl [(m0, .inr (7, [.int th, .int zz, .int rn, .ref rw, .int kn, .int rk, .int y1, .ref ry, .int sp, .int lg, .ref ti, .int fo, .int (nI n), .ref po, .ref su, .ref sq, .ref ch, .ref vt, .ref sh])), (vt, .inl (cI, 4, .inl vf)), (po, .inl (cI, 4000, .inl (upd (shd k (4 * n) pf) ((4 * k) + 0) (vf 0))))] H := hP
                have hD : va_D A [(m0, .inr (7, [.int th, .int zz, .int rn, .ref rw, .int kn, .int rk, .int y1, .ref ry, .int sp, .int lg, .ref ti, .int fo, .int (nI n), .ref po, .ref su, .ref sq, .ref ch, .ref vt, .ref sh])), (vt, .inl (cI, 4, .inl vf)), (po, .inl (cI, 4000, .inl (upd (shd k (4 * n) pf) ((4 * k) + 0) (vf 0))))] := hD
                refine lv_iinc (lv' := [(2, .int (1 : Int32)), (1, .int (nI k)), (0, .ref m0)]) (k := 0) (v := (1 : Int32)) hx hb d_M_keepPoint_122 hl rfl (by decide) (by decide) rfl (fun ls hl => ?_)
                refine lv_goto (tgt := 101) hx hb d_M_keepPoint_125 (by decide) ?_
                refine lv_iload_n hx hb d_M_keepPoint_101 rfl (lv_at hl 0 rfl) ?_
                refine lv_iconst (v := (4 : Int32)) hx hb d_M_keepPoint_102 (by decide) ?_
                refine lv_icmp_ge (tgt := 128) hx hb d_M_keepPoint_103 (by decide) (fun h99 => absurd h99 (by decide)) (fun _ => ?_)
                refine lv_aload_n hx hb d_M_keepPoint_106 rfl (lv_at hl 2 rfl) ?_
                refine va_get (D := D) (ci := 7) (v := .ref po) (C := cn_M) (T := ft_M) (N := 19) hx hb hf_M (fun _ h => h) hown hK hP 0 rfl rfl 13 (by decide) (gw.at G hx0 mw_726 rfl _) (fun _ h9 => h9) rfl d_M_keepPoint_107 ?_
                refine lv_iconst (v := (4 : Int32)) hx hb d_M_keepPoint_110 (by decide) ?_
                refine lv_iload_n hx hb d_M_keepPoint_111 rfl (lv_at hl 1 rfl) ?_
                refine lv_imul hx hb d_M_keepPoint_112 ?_
                refine tp_i (y := nI (4 * k)) (nI_mul 4 k) ?_
                refine lv_iload_n hx hb d_M_keepPoint_113 rfl (lv_at hl 0 rfl) ?_
                refine lv_iadd hx hb d_M_keepPoint_114 ?_
                refine tp_i (y := nI ((4 * k) + 1)) (nI_add (4 * k) 1) ?_
                refine lv_aload_n hx hb d_M_keepPoint_115 rfl (lv_at hl 2 rfl) ?_
                refine va_get (D := D) (ci := 7) (v := .ref vt) (C := cn_M) (T := ft_M) (N := 19) hx hb hf_M (fun _ h => h) hown hK hP 0 rfl rfl 17 (by decide) (gw.at G hx0 mw_730 rfl _) (fun _ h9 => h9) rfl d_M_keepPoint_116 ?_
                refine lv_iload_n hx hb d_M_keepPoint_119 rfl (lv_at hl 0 rfl) ?_
                refine va_iald hx hb hK hP 1 0 rfl rfl (vp_in_iff.mpr (by decide)) d_M_keepPoint_120 ?_
                refine tp_i (y := vf 1) (by rfl) ?_
                refine va_iast hx hb hK hP hD hS 2 0 rfl rfl (vp_in_nI (n := (4 * k) + 1) (by omega) (by omega)) d_M_keepPoint_121 (fun H locs hP hD hS => ?_)
                rw [nI_clamp (n := (4 * k) + 1) (by omega)] at hP hD
                have hP : va_P D kl [(m0, .inr (7, [.int th, .int zz, .int rn, .ref rw, .int kn, .int rk, .int y1, .ref ry, .int sp, .int lg, .ref ti, .int fo, .int (nI n), .ref po, .ref su, .ref sq, .ref ch, .ref vt, .ref sh])), (vt, .inl (cI, 4, .inl vf)), (po, .inl (cI, 4000, .inl (upd (upd (shd k (4 * n) pf) ((4 * k) + 0) (vf 0)) ((4 * k) + 1) (vf 1))))] H := hP
                have hD : va_D A [(m0, .inr (7, [.int th, .int zz, .int rn, .ref rw, .int kn, .int rk, .int y1, .ref ry, .int sp, .int lg, .ref ti, .int fo, .int (nI n), .ref po, .ref su, .ref sq, .ref ch, .ref vt, .ref sh])), (vt, .inl (cI, 4, .inl vf)), (po, .inl (cI, 4000, .inl (upd (upd (shd k (4 * n) pf) ((4 * k) + 0) (vf 0)) ((4 * k) + 1) (vf 1))))] := hD
                refine lv_iinc (lv' := [(2, .int (2 : Int32)), (1, .int (nI k)), (0, .ref m0)]) (k := 0) (v := (2 : Int32)) hx hb d_M_keepPoint_122 hl rfl (by decide) (by decide) rfl (fun ls hl => ?_)
                refine lv_goto (tgt := 101) hx hb d_M_keepPoint_125 (by decide) ?_
                refine lv_iload_n hx hb d_M_keepPoint_101 rfl (lv_at hl 0 rfl) ?_
                refine lv_iconst (v := (4 : Int32)) hx hb d_M_keepPoint_102 (by decide) ?_
                refine lv_icmp_ge (tgt := 128) hx hb d_M_keepPoint_103 (by decide) (fun h99 => absurd h99 (by decide)) (fun _ => ?_)
                refine lv_aload_n hx hb d_M_keepPoint_106 rfl (lv_at hl 2 rfl) ?_
                refine va_get (D := D) (ci := 7) (v := .ref po) (C := cn_M) (T := ft_M) (N := 19) hx hb hf_M (fun _ h => h) hown hK hP 0 rfl rfl 13 (by decide) (gw.at G hx0 mw_726 rfl _) (fun _ h9 => h9) rfl d_M_keepPoint_107 ?_
                refine lv_iconst (v := (4 : Int32)) hx hb d_M_keepPoint_110 (by decide) ?_
                refine lv_iload_n hx hb d_M_keepPoint_111 rfl (lv_at hl 1 rfl) ?_
                refine lv_imul hx hb d_M_keepPoint_112 ?_
                refine tp_i (y := nI (4 * k)) (nI_mul 4 k) ?_
                refine lv_iload_n hx hb d_M_keepPoint_113 rfl (lv_at hl 0 rfl) ?_
                refine lv_iadd hx hb d_M_keepPoint_114 ?_
                refine tp_i (y := nI ((4 * k) + 2)) (nI_add (4 * k) 2) ?_
                refine lv_aload_n hx hb d_M_keepPoint_115 rfl (lv_at hl 2 rfl) ?_
                refine va_get (D := D) (ci := 7) (v := .ref vt) (C := cn_M) (T := ft_M) (N := 19) hx hb hf_M (fun _ h => h) hown hK hP 0 rfl rfl 17 (by decide) (gw.at G hx0 mw_730 rfl _) (fun _ h9 => h9) rfl d_M_keepPoint_116 ?_
                refine lv_iload_n hx hb d_M_keepPoint_119 rfl (lv_at hl 0 rfl) ?_
                refine va_iald hx hb hK hP 1 0 rfl rfl (vp_in_iff.mpr (by decide)) d_M_keepPoint_120 ?_
                refine tp_i (y := vf 2) (by rfl) ?_
                refine va_iast hx hb hK hP hD hS 2 0 rfl rfl (vp_in_nI (n := (4 * k) + 2) (by omega) (by omega)) d_M_keepPoint_121 (fun H locs hP hD hS => ?_)
                rw [nI_clamp (n := (4 * k) + 2) (by omega)] at hP hD
                have hP : va_P D kl [(m0, .inr (7, [.int th, .int zz, .int rn, .ref rw, .int kn, .int rk, .int y1, .ref ry, .int sp, .int lg, .ref ti, .int fo, .int (nI n), .ref po, .ref su, .ref sq, .ref ch, .ref vt, .ref sh])), (vt, .inl (cI, 4, .inl vf)), (po, .inl (cI, 4000, .inl (upd (upd (upd (shd k (4 * n) pf) ((4 * k) + 0) (vf 0)) ((4 * k) + 1) (vf 1)) ((4 * k) + 2) (vf 2))))] H := hP
                have hD : va_D A [(m0, .inr (7, [.int th, .int zz, .int rn, .ref rw, .int kn, .int rk, .int y1, .ref ry, .int sp, .int lg, .ref ti, .int fo, .int (nI n), .ref po, .ref su, .ref sq, .ref ch, .ref vt, .ref sh])), (vt, .inl (cI, 4, .inl vf)), (po, .inl (cI, 4000, .inl (upd (upd (upd (shd k (4 * n) pf) ((4 * k) + 0) (vf 0)) ((4 * k) + 1) (vf 1)) ((4 * k) + 2) (vf 2))))] := hD
                refine lv_iinc (lv' := [(2, .int (3 : Int32)), (1, .int (nI k)), (0, .ref m0)]) (k := 0) (v := (3 : Int32)) hx hb d_M_keepPoint_122 hl rfl (by decide) (by decide) rfl (fun ls hl => ?_)
                refine lv_goto (tgt := 101) hx hb d_M_keepPoint_125 (by decide) ?_
                refine lv_iload_n hx hb d_M_keepPoint_101 rfl (lv_at hl 0 rfl) ?_
                refine lv_iconst (v := (4 : Int32)) hx hb d_M_keepPoint_102 (by decide) ?_
                refine lv_icmp_ge (tgt := 128) hx hb d_M_keepPoint_103 (by decide) (fun h99 => absurd h99 (by decide)) (fun _ => ?_)
                refine lv_aload_n hx hb d_M_keepPoint_106 rfl (lv_at hl 2 rfl) ?_
                refine va_get (D := D) (ci := 7) (v := .ref po) (C := cn_M) (T := ft_M) (N := 19) hx hb hf_M (fun _ h => h) hown hK hP 0 rfl rfl 13 (by decide) (gw.at G hx0 mw_726 rfl _) (fun _ h9 => h9) rfl d_M_keepPoint_107 ?_
                refine lv_iconst (v := (4 : Int32)) hx hb d_M_keepPoint_110 (by decide) ?_
                refine lv_iload_n hx hb d_M_keepPoint_111 rfl (lv_at hl 1 rfl) ?_
                refine lv_imul hx hb d_M_keepPoint_112 ?_
                refine tp_i (y := nI (4 * k)) (nI_mul 4 k) ?_
                refine lv_iload_n hx hb d_M_keepPoint_113 rfl (lv_at hl 0 rfl) ?_
                refine lv_iadd hx hb d_M_keepPoint_114 ?_
                refine tp_i (y := nI ((4 * k) + 3)) (nI_add (4 * k) 3) ?_
                refine lv_aload_n hx hb d_M_keepPoint_115 rfl (lv_at hl 2 rfl) ?_
                refine va_get (D := D) (ci := 7) (v := .ref vt) (C := cn_M) (T := ft_M) (N := 19) hx hb hf_M (fun _ h => h) hown hK hP 0 rfl rfl 17 (by decide) (gw.at G hx0 mw_730 rfl _) (fun _ h9 => h9) rfl d_M_keepPoint_116 ?_
                refine lv_iload_n hx hb d_M_keepPoint_119 rfl (lv_at hl 0 rfl) ?_
                refine va_iald hx hb hK hP 1 0 rfl rfl (vp_in_iff.mpr (by decide)) d_M_keepPoint_120 ?_
                refine tp_i (y := vf 3) (by rfl) ?_
                refine va_iast hx hb hK hP hD hS 2 0 rfl rfl (vp_in_nI (n := (4 * k) + 3) (by omega) (by omega)) d_M_keepPoint_121 (fun H locs hP hD hS => ?_)
                rw [nI_clamp (n := (4 * k) + 3) (by omega)] at hP hD
                have hP : va_P D kl [(m0, .inr (7, [.int th, .int zz, .int rn, .ref rw, .int kn, .int rk, .int y1, .ref ry, .int sp, .int lg, .ref ti, .int fo, .int (nI n), .ref po, .ref su, .ref sq, .ref ch, .ref vt, .ref sh])), (vt, .inl (cI, 4, .inl vf)), (po, .inl (cI, 4000, .inl (upd (upd (upd (upd (shd k (4 * n) pf) ((4 * k) + 0) (vf 0)) ((4 * k) + 1) (vf 1)) ((4 * k) + 2) (vf 2)) ((4 * k) + 3) (vf 3))))] H := hP
                have hD : va_D A [(m0, .inr (7, [.int th, .int zz, .int rn, .ref rw, .int kn, .int rk, .int y1, .ref ry, .int sp, .int lg, .ref ti, .int fo, .int (nI n), .ref po, .ref su, .ref sq, .ref ch, .ref vt, .ref sh])), (vt, .inl (cI, 4, .inl vf)), (po, .inl (cI, 4000, .inl (upd (upd (upd (upd (shd k (4 * n) pf) ((4 * k) + 0) (vf 0)) ((4 * k) + 1) (vf 1)) ((4 * k) + 2) (vf 2)) ((4 * k) + 3) (vf 3))))] := hD
                refine lv_iinc (lv' := [(2, .int (4 : Int32)), (1, .int (nI k)), (0, .ref m0)]) (k := 0) (v := (4 : Int32)) hx hb d_M_keepPoint_122 hl rfl (by decide) (by decide) rfl (fun ls hl => ?_)
                refine lv_goto (tgt := 101) hx hb d_M_keepPoint_125 (by decide) ?_
                refine lv_iload_n hx hb d_M_keepPoint_101 rfl (lv_at hl 0 rfl) ?_
                refine lv_iconst (v := (4 : Int32)) hx hb d_M_keepPoint_102 (by decide) ?_
                refine lv_icmp_ge (tgt := 128) hx hb d_M_keepPoint_103 (by decide) (fun _ => ?_) (fun h99 => absurd h99 (by decide))
                have hF : upd (upd (upd (upd (shd k (4 * n) pf) ((4 * k) + 0) (vf 0)) ((4 * k) + 1) (vf 1)) ((4 * k) + 2) (vf 2)) ((4 * k) + 3) (vf 3) = kpF n (kpl pf vf n 0) pf vf := by rw [hpv]; rfl
                rw [hF] at hP hD
                have hP : va_P D kl [(m0, .inr (7, [.int th, .int zz, .int rn, .ref rw, .int kn, .int rk, .int y1, .ref ry, .int sp, .int lg, .ref ti, .int fo, .int (nI n), .ref po, .ref su, .ref sq, .ref ch, .ref vt, .ref sh])), (vt, .inl (cI, 4, .inl vf)), (po, .inl (cI, 4000, .inl (kpF n (kpl pf vf n 0) pf vf)))] H := hP
                have hD : va_D A [(m0, .inr (7, [.int th, .int zz, .int rn, .ref rw, .int kn, .int rk, .int y1, .ref ry, .int sp, .int lg, .ref ti, .int fo, .int (nI n), .ref po, .ref su, .ref sq, .ref ch, .ref vt, .ref sh])), (vt, .inl (cI, 4, .inl vf)), (po, .inl (cI, 4000, .inl (kpF n (kpl pf vf n 0) pf vf)))] := hD
                refine lv_aload_n hx hb d_M_keepPoint_128 rfl (lv_at hl 2 rfl) ?_
                refine lv_dup hx hb d_M_keepPoint_129 rfl ?_
                refine va_get (D := D) (ci := 7) (v := .int (nI n)) (C := cn_M) (T := ft_M) (N := 19) hx hb hf_M (fun _ h => h) hown hK hP 0 rfl rfl 12 (by decide) (gw.at G hx0 mw_725 rfl _) (fun _ h9 => h9) rfl d_M_keepPoint_130 ?_
                refine lv_iconst (v := (1 : Int32)) hx hb d_M_keepPoint_133 (by decide) ?_
                refine lv_iadd hx hb d_M_keepPoint_134 ?_
                refine tp_i (y := nI (n + 1)) (nI_add n 1) ?_
                refine va_put (D := D) (ci := 7) (v := .int (nI (n + 1))) (ty := .int) (C := cn_M) (T := ft_M) (N := 19) hx hb hf_M (fun _ h => h) fy_M fk_M fn_M hown hK hP hD hS 0 rfl rfl 12 (by decide) (gw.at G hx0 mw_725 rfl _) (fun _ h9 => h9) rfl (by decide +kernel) rfl rfl (Nat.le_of_ble_eq_true rfl) d_M_keepPoint_135 (fun H locs hP hD hS => ?_)
                have hP : va_P D kl [(m0, .inr (7, [.int th, .int zz, .int rn, .ref rw, .int kn, .int rk, .int y1, .ref ry, .int sp, .int lg, .ref ti, .int fo, .int (nI (n + 1)), .ref po, .ref su, .ref sq, .ref ch, .ref vt, .ref sh])), (vt, .inl (cI, 4, .inl vf)), (po, .inl (cI, 4000, .inl (kpF n (kpl pf vf n 0) pf vf)))] H := hP
                have hD : va_D A [(m0, .inr (7, [.int th, .int zz, .int rn, .ref rw, .int kn, .int rk, .int y1, .ref ry, .int sp, .int lg, .ref ti, .int fo, .int (nI (n + 1)), .ref po, .ref su, .ref sq, .ref ch, .ref vt, .ref sh])), (vt, .inl (cI, 4, .inl vf)), (po, .inl (cI, 4000, .inl (kpF n (kpl pf vf n 0) pf vf)))] := hD
                rw [← hQe]
                exact tx_mono (fun _ h => tx_Z.of h) (W.vret hx hb hr (fun t ht hW => ⟨⟨[(m0, .inr (7, [.int th, .int zz, .int rn, .ref rw, .int kn, .int rk, .int y1, .ref ry, .int sp, .int lg, .ref ti, .int fo, .int (nI (n + 1)), .ref po, .ref su, .ref sq, .ref ch, .ref vt, .ref sh])), (vt, .inl (cI, 4, .inl vf)), (po, .inl (cI, 4000, .inl (kpF n (kpl pf vf n 0) pf vf)))], ⟨rfl, rfl⟩, by rw [ht]; exact hP.sub [0, 1, 2] rfl, hD.sub [0, 1, 2] (by decide) rfl⟩, hS.F ht⟩) hS.2.2 d_M_keepPoint_138)
              · have h_2 : ¬ ((u - 1) < (4 * k)) := fun z99 => h_2 ((nI_ltI (a := u - 1) (b := 4 * k) (by omega) (by omega)).mpr z99)
                refine lv_aload_n hx hb d_M_keepPoint_79 rfl (lv_at hl 2 rfl) ?_
                refine va_get (D := D) (ci := 7) (v := .ref po) (C := cn_M) (T := ft_M) (N := 19) hx hb hf_M (fun _ h => h) hown hK hP 0 rfl rfl 13 (by decide) (gw.at G hx0 mw_726 rfl _) (fun _ h9 => h9) rfl d_M_keepPoint_80 ?_
                refine lv_iload_n hx hb d_M_keepPoint_83 rfl (lv_at hl 0 rfl) ?_
                refine lv_iconst (v := (4 : Int32)) hx hb d_M_keepPoint_84 (by decide) ?_
                refine lv_iadd hx hb d_M_keepPoint_85 ?_
                refine tp_i (y := nI ((u - 1) + 4)) (nI_add (u - 1) 4) ?_
                refine lv_aload_n hx hb d_M_keepPoint_86 rfl (lv_at hl 2 rfl) ?_
                refine va_get (D := D) (ci := 7) (v := .ref po) (C := cn_M) (T := ft_M) (N := 19) hx hb hf_M (fun _ h => h) hown hK hP 0 rfl rfl 13 (by decide) (gw.at G hx0 mw_726 rfl _) (fun _ h9 => h9) rfl d_M_keepPoint_87 ?_
                refine lv_iload_n hx hb d_M_keepPoint_90 rfl (lv_at hl 0 rfl) ?_
                refine va_iald hx hb hK hP 2 0 rfl rfl (vp_in_nI (n := u - 1) (by omega) (by omega)) d_M_keepPoint_91 ?_
                refine tp_i (y := f2 (u - 1)) (congrArg f2 (nI_clamp (n := u - 1) (by omega))) ?_
                refine va_iast hx hb hK hP hD hS 2 0 rfl rfl (vp_in_nI (n := (u - 1) + 4) (by omega) (by omega)) d_M_keepPoint_92 (fun H locs hP hD hS => ?_)
                rw [nI_clamp (n := (u - 1) + 4) (by omega)] at hP hD
                have hP : va_P D kl [(m0, .inr (7, [.int th, .int zz, .int rn, .ref rw, .int kn, .int rk, .int y1, .ref ry, .int sp, .int lg, .ref ti, .int fo, .int (nI n), .ref po, .ref su, .ref sq, .ref ch, .ref vt, .ref sh])), (vt, .inl (cI, 4, .inl vf)), (po, .inl (cI, 4000, .inl (upd f2 ((u - 1) + 4) (f2 (u - 1)))))] H := hP
                have hD : va_D A [(m0, .inr (7, [.int th, .int zz, .int rn, .ref rw, .int kn, .int rk, .int y1, .ref ry, .int sp, .int lg, .ref ti, .int fo, .int (nI n), .ref po, .ref su, .ref sq, .ref ch, .ref vt, .ref sh])), (vt, .inl (cI, 4, .inl vf)), (po, .inl (cI, 4000, .inl (upd f2 ((u - 1) + 4) (f2 (u - 1)))))] := hD
                refine lv_iinc (lv' := [(2, .int (nI (u - 1) - (1 : Int32))), (1, .int (nI k)), (0, .ref m0)]) (k := 0) (v := nI (u - 1) - (1 : Int32)) hx hb d_M_keepPoint_93 hl rfl (by rw [Int32.sub_eq_add_neg]; rfl) (by decide) rfl (fun ls hl => ?_)
                refine lv_goto (tgt := 72) hx hb d_M_keepPoint_96 (by decide) ?_
                exact ih_72 _ (by omega) (u - 1) (upd f2 ((u - 1) + 4) (f2 (u - 1))) ls H locs rfl (hsh.trans (shd_s hup (by omega))) (by omega) (lv_sub hl [0, 1, 2] rfl) (hP.sub [0, 1, 2] rfl) (hD.sub [0, 1, 2] (by decide) rfl) hS
        exact lp_72 _ (4 * n) pf ls H locs rfl rfl (Nat.le_refl _) (lv_sub hl [0, 1, 2] rfl) (hP.sub [0, 1, 2] rfl) (hD.sub [0, 1, 2] (by decide) rfl) hS
      · have h_1 : ¬ (n ≤ k) := fun z99 => h_1 ((nI_leI (a := n) (b := k) (by omega) (by omega)).mpr z99)
        refine lv_aload_n hx hb d_M_keepPoint_10 rfl (lv_at hl 1 rfl) ?_
        refine lv_aload_n hx hb d_M_keepPoint_11 rfl (lv_at hl 1 rfl) ?_
        refine va_get (D := D) (ci := 7) (v := .ref po) (C := cn_M) (T := ft_M) (N := 19) hx hb hf_M (fun _ h => h) hown hK hP 0 rfl rfl 13 (by decide) (gw.at G hx0 mw_726 rfl _) (fun _ h9 => h9) rfl d_M_keepPoint_12 ?_
        refine lv_iconst (v := (4 : Int32)) hx hb d_M_keepPoint_15 (by decide) ?_
        refine lv_iload_n hx hb d_M_keepPoint_16 rfl (lv_at hl 0 rfl) ?_
        refine lv_imul hx hb d_M_keepPoint_17 ?_
        refine tp_i (y := nI (4 * k)) (nI_mul 4 k) ?_
        refine cx_call (D := D) (cl := kl) (ws := _) (wc := [(m0, .inr (7, [.int th, .int zz, .int rn, .ref rw, .int kn, .int rk, .int y1, .ref ry, .int sp, .int lg, .ref ti, .int fo, .int (nI n), .ref po, .ref su, .ref sq, .ref ch, .ref vt, .ref sh])), (vt, .inl (cI, 4, .inl vf)), (po, .inl (cI, 4000, .inl pf))]) (wr := []) (tx_runV (C := cn_M) (b := m0) (As := [.ref po, .int (nI (4 * k))]) (rest := []) hx hb hml hown (c_M_compare E H.size m0 rw ry ti po su sq ch vt sh th zz rn kn rk y1 sp lg fo (nI n) vf po 4000 pf (4 * k) (by omega) (by decide)) (cx_C (b0 := b0) G hx0 mw_848 mw_9 ny_M_compare (by decide)) (gw.at G hx0 mw_845 rfl _) (gw.at G hx0 mw_847 rfl _) (gw.at G hx0 ms_M_compare rfl _) ⟨cx_blind, va_recv hK hP (q0 := 0) (ci := 7) (q := (cn_M, ft_M, 19)) rfl rfl, (cx_pre (s := s) hx0 hP hD hS hA0 [0, 1, 2] rfl rfl (by decide))⟩ rfl rfl hl.1 rfl (lv_room (Nat.le_of_ble_eq_true rfl)) d_M_keepPoint_18 ⟨by decide, by decide⟩) hP hD hS hA [0, 1, 2] [] rfl rfl (by decide) (by decide) (fun v t w1 H locs ht hW9 hp hP hD hS => ?_) (fun x t w1 H locs ht hW9 hp hP hD hS => by obtain ⟨h9, -⟩ := hp; cases h9)
        obtain ⟨h9, rfl⟩ := hp
        cases h9
        refine W.eq (g2 := F0 m 21 ls [.int (cmp4 pf (4 * k) vf)]) rfl ?_
        refine W.widen (k := 0) (n := 0) (by decide) (by decide) ?_
        have hP : va_P D kl [(m0, .inr (7, [.int th, .int zz, .int rn, .ref rw, .int kn, .int rk, .int y1, .ref ry, .int sp, .int lg, .ref ti, .int fo, .int (nI n), .ref po, .ref su, .ref sq, .ref ch, .ref vt, .ref sh])), (vt, .inl (cI, 4, .inl vf)), (po, .inl (cI, 4000, .inl pf))] H := hP
        have hD : va_D A [(m0, .inr (7, [.int th, .int zz, .int rn, .ref rw, .int kn, .int rk, .int y1, .ref ry, .int sp, .int lg, .ref ti, .int fo, .int (nI n), .ref po, .ref su, .ref sq, .ref ch, .ref vt, .ref sh])), (vt, .inl (cI, 4, .inl vf)), (po, .inl (cI, 4000, .inl pf))] := hD
        refine lv_if_ge (tgt := 30) hx hb d_M_keepPoint_21 (by decide) (fun h_3 => ?_) (fun h_3 => ?_)
        · have hpv : kpl pf vf n 0 = k := hpo.trans (kpl_y (by omega) (Int32.not_lt.mpr h_3))
          refine lv_aload_n hx hb d_M_keepPoint_30 rfl (lv_at hl 1 rfl) ?_
          refine va_get (D := D) (ci := 7) (v := .int (nI n)) (C := cn_M) (T := ft_M) (N := 19) hx hb hf_M (fun _ h => h) hown hK hP 0 rfl rfl 12 (by decide) (gw.at G hx0 mw_725 rfl _) (fun _ h9 => h9) rfl d_M_keepPoint_31 ?_
          refine lv_sipush (v := (1000 : Int32)) hx hb d_M_keepPoint_34 (by decide) ?_
          refine lv_icmp_eq (tgt := 62) hx hb d_M_keepPoint_37 (by decide) (fun h99 => absurd h99 (fun z99 => absurd ((nI_eq (a := n) (b := 1000) (by omega) (by omega)).mp z99) (by omega))) (fun _ => ?_)
          refine lv_iload_n hx hb d_M_keepPoint_40 rfl (lv_at hl 0 rfl) ?_
          refine lv_aload_n hx hb d_M_keepPoint_41 rfl (lv_at hl 1 rfl) ?_
          refine va_get (D := D) (ci := 7) (v := .int (nI n)) (C := cn_M) (T := ft_M) (N := 19) hx hb hf_M (fun _ h => h) hown hK hP 0 rfl rfl 12 (by decide) (gw.at G hx0 mw_725 rfl _) (fun _ h9 => h9) rfl d_M_keepPoint_42 ?_
          refine lv_icmp_ge (tgt := 63) hx hb d_M_keepPoint_45 (by decide) (fun h99 => absurd h99 (fun z99 => absurd ((nI_leI (a := n) (b := k) (by omega) (by omega)).mp z99) (by omega))) (fun _ => ?_)
          refine lv_aload_n hx hb d_M_keepPoint_48 rfl (lv_at hl 1 rfl) ?_
          refine lv_aload_n hx hb d_M_keepPoint_49 rfl (lv_at hl 1 rfl) ?_
          refine va_get (D := D) (ci := 7) (v := .ref po) (C := cn_M) (T := ft_M) (N := 19) hx hb hf_M (fun _ h => h) hown hK hP 0 rfl rfl 13 (by decide) (gw.at G hx0 mw_726 rfl _) (fun _ h9 => h9) rfl d_M_keepPoint_50 ?_
          refine lv_iconst (v := (4 : Int32)) hx hb d_M_keepPoint_53 (by decide) ?_
          refine lv_iload_n hx hb d_M_keepPoint_54 rfl (lv_at hl 0 rfl) ?_
          refine lv_imul hx hb d_M_keepPoint_55 ?_
          refine tp_i (y := nI (4 * k)) (nI_mul 4 k) ?_
          refine cx_call (D := D) (cl := kl) (ws := _) (wc := [(m0, .inr (7, [.int th, .int zz, .int rn, .ref rw, .int kn, .int rk, .int y1, .ref ry, .int sp, .int lg, .ref ti, .int fo, .int (nI n), .ref po, .ref su, .ref sq, .ref ch, .ref vt, .ref sh])), (vt, .inl (cI, 4, .inl vf)), (po, .inl (cI, 4000, .inl pf))]) (wr := []) (tx_runV (C := cn_M) (b := m0) (As := [.ref po, .int (nI (4 * k))]) (rest := []) hx hb hml hown (c_M_compare E H.size m0 rw ry ti po su sq ch vt sh th zz rn kn rk y1 sp lg fo (nI n) vf po 4000 pf (4 * k) (by omega) (by decide)) (cx_C (b0 := b0) G hx0 mw_848 mw_9 ny_M_compare (by decide)) (gw.at G hx0 mw_845 rfl _) (gw.at G hx0 mw_847 rfl _) (gw.at G hx0 ms_M_compare rfl _) ⟨cx_blind, va_recv hK hP (q0 := 0) (ci := 7) (q := (cn_M, ft_M, 19)) rfl rfl, (cx_pre (s := s) hx0 hP hD hS hA0 [0, 1, 2] rfl rfl (by decide))⟩ rfl rfl hl.1 rfl (lv_room (Nat.le_of_ble_eq_true rfl)) d_M_keepPoint_56 ⟨by decide, by decide⟩) hP hD hS hA [0, 1, 2] [] rfl rfl (by decide) (by decide) (fun v t w1 H locs ht hW9 hp hP hD hS => ?_) (fun x t w1 H locs ht hW9 hp hP hD hS => by obtain ⟨h9, -⟩ := hp; cases h9)
          obtain ⟨h9, rfl⟩ := hp
          cases h9
          refine W.eq (g2 := F0 m 59 ls [.int (cmp4 pf (4 * k) vf)]) rfl ?_
          refine W.widen (k := 0) (n := 0) (by decide) (by decide) ?_
          have hP : va_P D kl [(m0, .inr (7, [.int th, .int zz, .int rn, .ref rw, .int kn, .int rk, .int y1, .ref ry, .int sp, .int lg, .ref ti, .int fo, .int (nI n), .ref po, .ref su, .ref sq, .ref ch, .ref vt, .ref sh])), (vt, .inl (cI, 4, .inl vf)), (po, .inl (cI, 4000, .inl pf))] H := hP
          have hD : va_D A [(m0, .inr (7, [.int th, .int zz, .int rn, .ref rw, .int kn, .int rk, .int y1, .ref ry, .int sp, .int lg, .ref ti, .int fo, .int (nI n), .ref po, .ref su, .ref sq, .ref ch, .ref vt, .ref sh])), (vt, .inl (cI, 4, .inl vf)), (po, .inl (cI, 4000, .inl pf))] := hD
          refine lv_if_ne (tgt := 63) hx hb d_M_keepPoint_59 (by decide) (fun h_4 => ?_) (fun h_4 => ?_)
          · refine lv_iconst (v := (4 : Int32)) hx hb d_M_keepPoint_63 (by decide) ?_
            refine lv_aload_n hx hb d_M_keepPoint_64 rfl (lv_at hl 1 rfl) ?_
            refine va_get (D := D) (ci := 7) (v := .int (nI n)) (C := cn_M) (T := ft_M) (N := 19) hx hb hf_M (fun _ h => h) hown hK hP 0 rfl rfl 12 (by decide) (gw.at G hx0 mw_725 rfl _) (fun _ h9 => h9) rfl d_M_keepPoint_65 ?_
            refine lv_imul hx hb d_M_keepPoint_68 ?_
            refine tp_i (y := nI (4 * n)) (nI_mul 4 n) ?_
            refine lv_iconst (v := (1 : Int32)) hx hb d_M_keepPoint_69 (by decide) ?_
            refine lv_isub hx hb d_M_keepPoint_70 ?_
            refine lv_istore_n (lv' := [(2, .int ((nI (4 * n)) - (1 : Int32))), (1, .int (nI k)), (0, .ref m0)]) hx hb d_M_keepPoint_71 rfl hl (by decide) rfl (fun ls hl => ?_)
            have lp_72 : ∀ (n9 : Nat) (u : Nat) (f2 : Nat → Int32) (ls : Array Slot) (H : Heap) (locs : List Loc), u = n9 → (shd k (4 * n) pf = shd k u f2) → (u ≤ 4 * n) → lv_has ls 3 [(2, .int (nI u - (1 : Int32))), (1, .int (nI k)), (0, .ref m0)] → va_P D kl [(m0, .inr (7, [.int th, .int zz, .int rn, .ref rw, .int kn, .int rk, .int y1, .ref ry, .int sp, .int lg, .ref ti, .int fo, .int (nI n), .ref po, .ref su, .ref sq, .ref ch, .ref vt, .ref sh])), (vt, .inl (cI, 4, .inl vf)), (po, .inl (cI, 4000, .inl f2))] H → va_D A [(m0, .inr (7, [.int th, .int zz, .int rn, .ref rw, .int kn, .int rk, .int y1, .ref ry, .int sp, .int lg, .ref ti, .int fo, .int (nI n), .ref po, .ref su, .ref sq, .ref ch, .ref vt, .ref sh])), (vt, .inl (cI, 4, .inl vf)), (po, .inl (cI, 4000, .inl f2))] → va_S A s.heap H locs → W p l e ({ frames := 1, cells := 0, slots := 0, locals := 23 } : Room) s m ([.ref m0] : List Value).toArray below meth c H locs 0 0 Q (F0 m 72 ls []) := by
              intro n9
              induction n9 using Nat.strongRecOn with
              | ind n9 ih_72 =>
                intro u f2 ls H locs hm_72 hsh hu9 hl hP hD hS
                rcases Nat.eq_zero_or_pos u with hup | hup
                · rw [show nI u - (1 : Int32) = (-1 : Int32) by rw [hup]; decide] at hl
                  refine lv_iload_n hx hb d_M_keepPoint_72 rfl (lv_at hl 0 rfl) ?_
                  refine lv_iconst (v := (4 : Int32)) hx hb d_M_keepPoint_73 (by decide) ?_
                  refine lv_iload_n hx hb d_M_keepPoint_74 rfl (lv_at hl 1 rfl) ?_
                  refine lv_imul hx hb d_M_keepPoint_75 ?_
                  refine tp_i (y := nI (4 * k)) (nI_mul 4 k) ?_
                  refine lv_icmp_lt (tgt := 99) hx hb d_M_keepPoint_76 (by decide) (fun _ => ?_) (fun h99 => absurd h99 (not_not_intro (m1_lt (n := 4 * k) (by omega))))
                  have hsf := hsh.trans (shd_e (k := k) (u := u) (f := f2) (by omega))
                  rw [← hsf] at hP hD
                  have hP : va_P D kl [(m0, .inr (7, [.int th, .int zz, .int rn, .ref rw, .int kn, .int rk, .int y1, .ref ry, .int sp, .int lg, .ref ti, .int fo, .int (nI n), .ref po, .ref su, .ref sq, .ref ch, .ref vt, .ref sh])), (vt, .inl (cI, 4, .inl vf)), (po, .inl (cI, 4000, .inl (shd k (4 * n) pf)))] H := hP
                  have hD : va_D A [(m0, .inr (7, [.int th, .int zz, .int rn, .ref rw, .int kn, .int rk, .int y1, .ref ry, .int sp, .int lg, .ref ti, .int fo, .int (nI n), .ref po, .ref su, .ref sq, .ref ch, .ref vt, .ref sh])), (vt, .inl (cI, 4, .inl vf)), (po, .inl (cI, 4000, .inl (shd k (4 * n) pf)))] := hD
                  refine lv_iconst (v := (0 : Int32)) hx hb d_M_keepPoint_99 (by decide) ?_
                  refine lv_istore_n (lv' := [(2, .int (0 : Int32)), (1, .int (nI k)), (0, .ref m0)]) hx hb d_M_keepPoint_100 rfl hl (by decide) rfl (fun ls hl => ?_)
                  refine lv_iload_n hx hb d_M_keepPoint_101 rfl (lv_at hl 0 rfl) ?_
                  refine lv_iconst (v := (4 : Int32)) hx hb d_M_keepPoint_102 (by decide) ?_
                  refine lv_icmp_ge (tgt := 128) hx hb d_M_keepPoint_103 (by decide) (fun h99 => absurd h99 (by decide)) (fun _ => ?_)
                  refine lv_aload_n hx hb d_M_keepPoint_106 rfl (lv_at hl 2 rfl) ?_
                  refine va_get (D := D) (ci := 7) (v := .ref po) (C := cn_M) (T := ft_M) (N := 19) hx hb hf_M (fun _ h => h) hown hK hP 0 rfl rfl 13 (by decide) (gw.at G hx0 mw_726 rfl _) (fun _ h9 => h9) rfl d_M_keepPoint_107 ?_
                  refine lv_iconst (v := (4 : Int32)) hx hb d_M_keepPoint_110 (by decide) ?_
                  refine lv_iload_n hx hb d_M_keepPoint_111 rfl (lv_at hl 1 rfl) ?_
                  refine lv_imul hx hb d_M_keepPoint_112 ?_
                  refine tp_i (y := nI (4 * k)) (nI_mul 4 k) ?_
                  refine lv_iload_n hx hb d_M_keepPoint_113 rfl (lv_at hl 0 rfl) ?_
                  refine lv_iadd hx hb d_M_keepPoint_114 ?_
                  refine tp_i (y := nI ((4 * k) + 0)) (nI_add (4 * k) 0) ?_
                  refine lv_aload_n hx hb d_M_keepPoint_115 rfl (lv_at hl 2 rfl) ?_
                  refine va_get (D := D) (ci := 7) (v := .ref vt) (C := cn_M) (T := ft_M) (N := 19) hx hb hf_M (fun _ h => h) hown hK hP 0 rfl rfl 17 (by decide) (gw.at G hx0 mw_730 rfl _) (fun _ h9 => h9) rfl d_M_keepPoint_116 ?_
                  refine lv_iload_n hx hb d_M_keepPoint_119 rfl (lv_at hl 0 rfl) ?_
                  refine va_iald hx hb hK hP 1 0 rfl rfl (vp_in_iff.mpr (by decide)) d_M_keepPoint_120 ?_
                  refine tp_i (y := vf 0) (by rfl) ?_
                  refine va_iast hx hb hK hP hD hS 2 0 rfl rfl (vp_in_nI (n := (4 * k) + 0) (by omega) (by omega)) d_M_keepPoint_121 (fun H locs hP hD hS => ?_)
                  rw [nI_clamp (n := (4 * k) + 0) (by omega)] at hP hD
                  have hP : va_P D kl [(m0, .inr (7, [.int th, .int zz, .int rn, .ref rw, .int kn, .int rk, .int y1, .ref ry, .int sp, .int lg, .ref ti, .int fo, .int (nI n), .ref po, .ref su, .ref sq, .ref ch, .ref vt, .ref sh])), (vt, .inl (cI, 4, .inl vf)), (po, .inl (cI, 4000, .inl (upd (shd k (4 * n) pf) ((4 * k) + 0) (vf 0))))] H := hP
                  have hD : va_D A [(m0, .inr (7, [.int th, .int zz, .int rn, .ref rw, .int kn, .int rk, .int y1, .ref ry, .int sp, .int lg, .ref ti, .int fo, .int (nI n), .ref po, .ref su, .ref sq, .ref ch, .ref vt, .ref sh])), (vt, .inl (cI, 4, .inl vf)), (po, .inl (cI, 4000, .inl (upd (shd k (4 * n) pf) ((4 * k) + 0) (vf 0))))] := hD
                  refine lv_iinc (lv' := [(2, .int (1 : Int32)), (1, .int (nI k)), (0, .ref m0)]) (k := 0) (v := (1 : Int32)) hx hb d_M_keepPoint_122 hl rfl (by decide) (by decide) rfl (fun ls hl => ?_)
                  refine lv_goto (tgt := 101) hx hb d_M_keepPoint_125 (by decide) ?_
                  refine lv_iload_n hx hb d_M_keepPoint_101 rfl (lv_at hl 0 rfl) ?_
                  refine lv_iconst (v := (4 : Int32)) hx hb d_M_keepPoint_102 (by decide) ?_
                  refine lv_icmp_ge (tgt := 128) hx hb d_M_keepPoint_103 (by decide) (fun h99 => absurd h99 (by decide)) (fun _ => ?_)
                  refine lv_aload_n hx hb d_M_keepPoint_106 rfl (lv_at hl 2 rfl) ?_
                  refine va_get (D := D) (ci := 7) (v := .ref po) (C := cn_M) (T := ft_M) (N := 19) hx hb hf_M (fun _ h => h) hown hK hP 0 rfl rfl 13 (by decide) (gw.at G hx0 mw_726 rfl _) (fun _ h9 => h9) rfl d_M_keepPoint_107 ?_
                  refine lv_iconst (v := (4 : Int32)) hx hb d_M_keepPoint_110 (by decide) ?_
                  refine lv_iload_n hx hb d_M_keepPoint_111 rfl (lv_at hl 1 rfl) ?_
                  refine lv_imul hx hb d_M_keepPoint_112 ?_
                  refine tp_i (y := nI (4 * k)) (nI_mul 4 k) ?_
                  refine lv_iload_n hx hb d_M_keepPoint_113 rfl (lv_at hl 0 rfl) ?_
                  refine lv_iadd hx hb d_M_keepPoint_114 ?_
                  refine tp_i (y := nI ((4 * k) + 1)) (nI_add (4 * k) 1) ?_
                  refine lv_aload_n hx hb d_M_keepPoint_115 rfl (lv_at hl 2 rfl) ?_
                  refine va_get (D := D) (ci := 7) (v := .ref vt) (C := cn_M) (T := ft_M) (N := 19) hx hb hf_M (fun _ h => h) hown hK hP 0 rfl rfl 17 (by decide) (gw.at G hx0 mw_730 rfl _) (fun _ h9 => h9) rfl d_M_keepPoint_116 ?_
                  refine lv_iload_n hx hb d_M_keepPoint_119 rfl (lv_at hl 0 rfl) ?_
                  refine va_iald hx hb hK hP 1 0 rfl rfl (vp_in_iff.mpr (by decide)) d_M_keepPoint_120 ?_
                  refine tp_i (y := vf 1) (by rfl) ?_
                  refine va_iast hx hb hK hP hD hS 2 0 rfl rfl (vp_in_nI (n := (4 * k) + 1) (by omega) (by omega)) d_M_keepPoint_121 (fun H locs hP hD hS => ?_)
                  rw [nI_clamp (n := (4 * k) + 1) (by omega)] at hP hD
                  have hP : va_P D kl [(m0, .inr (7, [.int th, .int zz, .int rn, .ref rw, .int kn, .int rk, .int y1, .ref ry, .int sp, .int lg, .ref ti, .int fo, .int (nI n), .ref po, .ref su, .ref sq, .ref ch, .ref vt, .ref sh])), (vt, .inl (cI, 4, .inl vf)), (po, .inl (cI, 4000, .inl (upd (upd (shd k (4 * n) pf) ((4 * k) + 0) (vf 0)) ((4 * k) + 1) (vf 1))))] H := hP
                  have hD : va_D A [(m0, .inr (7, [.int th, .int zz, .int rn, .ref rw, .int kn, .int rk, .int y1, .ref ry, .int sp, .int lg, .ref ti, .int fo, .int (nI n), .ref po, .ref su, .ref sq, .ref ch, .ref vt, .ref sh])), (vt, .inl (cI, 4, .inl vf)), (po, .inl (cI, 4000, .inl (upd (upd (shd k (4 * n) pf) ((4 * k) + 0) (vf 0)) ((4 * k) + 1) (vf 1))))] := hD
                  refine lv_iinc (lv' := [(2, .int (2 : Int32)), (1, .int (nI k)), (0, .ref m0)]) (k := 0) (v := (2 : Int32)) hx hb d_M_keepPoint_122 hl rfl (by decide) (by decide) rfl (fun ls hl => ?_)
                  refine lv_goto (tgt := 101) hx hb d_M_keepPoint_125 (by decide) ?_
                  refine lv_iload_n hx hb d_M_keepPoint_101 rfl (lv_at hl 0 rfl) ?_
                  refine lv_iconst (v := (4 : Int32)) hx hb d_M_keepPoint_102 (by decide) ?_
                  refine lv_icmp_ge (tgt := 128) hx hb d_M_keepPoint_103 (by decide) (fun h99 => absurd h99 (by decide)) (fun _ => ?_)
                  refine lv_aload_n hx hb d_M_keepPoint_106 rfl (lv_at hl 2 rfl) ?_
                  refine va_get (D := D) (ci := 7) (v := .ref po) (C := cn_M) (T := ft_M) (N := 19) hx hb hf_M (fun _ h => h) hown hK hP 0 rfl rfl 13 (by decide) (gw.at G hx0 mw_726 rfl _) (fun _ h9 => h9) rfl d_M_keepPoint_107 ?_
                  refine lv_iconst (v := (4 : Int32)) hx hb d_M_keepPoint_110 (by decide) ?_
                  refine lv_iload_n hx hb d_M_keepPoint_111 rfl (lv_at hl 1 rfl) ?_
                  refine lv_imul hx hb d_M_keepPoint_112 ?_
                  refine tp_i (y := nI (4 * k)) (nI_mul 4 k) ?_
                  refine lv_iload_n hx hb d_M_keepPoint_113 rfl (lv_at hl 0 rfl) ?_
                  refine lv_iadd hx hb d_M_keepPoint_114 ?_
                  refine tp_i (y := nI ((4 * k) + 2)) (nI_add (4 * k) 2) ?_
                  refine lv_aload_n hx hb d_M_keepPoint_115 rfl (lv_at hl 2 rfl) ?_
                  refine va_get (D := D) (ci := 7) (v := .ref vt) (C := cn_M) (T := ft_M) (N := 19) hx hb hf_M (fun _ h => h) hown hK hP 0 rfl rfl 17 (by decide) (gw.at G hx0 mw_730 rfl _) (fun _ h9 => h9) rfl d_M_keepPoint_116 ?_
                  refine lv_iload_n hx hb d_M_keepPoint_119 rfl (lv_at hl 0 rfl) ?_
                  refine va_iald hx hb hK hP 1 0 rfl rfl (vp_in_iff.mpr (by decide)) d_M_keepPoint_120 ?_
                  refine tp_i (y := vf 2) (by rfl) ?_
                  refine va_iast hx hb hK hP hD hS 2 0 rfl rfl (vp_in_nI (n := (4 * k) + 2) (by omega) (by omega)) d_M_keepPoint_121 (fun H locs hP hD hS => ?_)
                  rw [nI_clamp (n := (4 * k) + 2) (by omega)] at hP hD
                  have hP : va_P D kl [(m0, .inr (7, [.int th, .int zz, .int rn, .ref rw, .int kn, .int rk, .int y1, .ref ry, .int sp, .int lg, .ref ti, .int fo, .int (nI n), .ref po, .ref su, .ref sq, .ref ch, .ref vt, .ref sh])), (vt, .inl (cI, 4, .inl vf)), (po, .inl (cI, 4000, .inl (upd (upd (upd (shd k (4 * n) pf) ((4 * k) + 0) (vf 0)) ((4 * k) + 1) (vf 1)) ((4 * k) + 2) (vf 2))))] H := hP
                  have hD : va_D A [(m0, .inr (7, [.int th, .int zz, .int rn, .ref rw, .int kn, .int rk, .int y1, .ref ry, .int sp, .int lg, .ref ti, .int fo, .int (nI n), .ref po, .ref su, .ref sq, .ref ch, .ref vt, .ref sh])), (vt, .inl (cI, 4, .inl vf)), (po, .inl (cI, 4000, .inl (upd (upd (upd (shd k (4 * n) pf) ((4 * k) + 0) (vf 0)) ((4 * k) + 1) (vf 1)) ((4 * k) + 2) (vf 2))))] := hD
                  refine lv_iinc (lv' := [(2, .int (3 : Int32)), (1, .int (nI k)), (0, .ref m0)]) (k := 0) (v := (3 : Int32)) hx hb d_M_keepPoint_122 hl rfl (by decide) (by decide) rfl (fun ls hl => ?_)
                  refine lv_goto (tgt := 101) hx hb d_M_keepPoint_125 (by decide) ?_
                  refine lv_iload_n hx hb d_M_keepPoint_101 rfl (lv_at hl 0 rfl) ?_
                  refine lv_iconst (v := (4 : Int32)) hx hb d_M_keepPoint_102 (by decide) ?_
                  refine lv_icmp_ge (tgt := 128) hx hb d_M_keepPoint_103 (by decide) (fun h99 => absurd h99 (by decide)) (fun _ => ?_)
                  refine lv_aload_n hx hb d_M_keepPoint_106 rfl (lv_at hl 2 rfl) ?_
                  refine va_get (D := D) (ci := 7) (v := .ref po) (C := cn_M) (T := ft_M) (N := 19) hx hb hf_M (fun _ h => h) hown hK hP 0 rfl rfl 13 (by decide) (gw.at G hx0 mw_726 rfl _) (fun _ h9 => h9) rfl d_M_keepPoint_107 ?_
                  refine lv_iconst (v := (4 : Int32)) hx hb d_M_keepPoint_110 (by decide) ?_
                  refine lv_iload_n hx hb d_M_keepPoint_111 rfl (lv_at hl 1 rfl) ?_
                  refine lv_imul hx hb d_M_keepPoint_112 ?_
                  refine tp_i (y := nI (4 * k)) (nI_mul 4 k) ?_
                  refine lv_iload_n hx hb d_M_keepPoint_113 rfl (lv_at hl 0 rfl) ?_
                  refine lv_iadd hx hb d_M_keepPoint_114 ?_
                  refine tp_i (y := nI ((4 * k) + 3)) (nI_add (4 * k) 3) ?_
                  refine lv_aload_n hx hb d_M_keepPoint_115 rfl (lv_at hl 2 rfl) ?_
                  refine va_get (D := D) (ci := 7) (v := .ref vt) (C := cn_M) (T := ft_M) (N := 19) hx hb hf_M (fun _ h => h) hown hK hP 0 rfl rfl 17 (by decide) (gw.at G hx0 mw_730 rfl _) (fun _ h9 => h9) rfl d_M_keepPoint_116 ?_
                  refine lv_iload_n hx hb d_M_keepPoint_119 rfl (lv_at hl 0 rfl) ?_
                  refine va_iald hx hb hK hP 1 0 rfl rfl (vp_in_iff.mpr (by decide)) d_M_keepPoint_120 ?_
                  refine tp_i (y := vf 3) (by rfl) ?_
                  refine va_iast hx hb hK hP hD hS 2 0 rfl rfl (vp_in_nI (n := (4 * k) + 3) (by omega) (by omega)) d_M_keepPoint_121 (fun H locs hP hD hS => ?_)
                  rw [nI_clamp (n := (4 * k) + 3) (by omega)] at hP hD
                  have hP : va_P D kl [(m0, .inr (7, [.int th, .int zz, .int rn, .ref rw, .int kn, .int rk, .int y1, .ref ry, .int sp, .int lg, .ref ti, .int fo, .int (nI n), .ref po, .ref su, .ref sq, .ref ch, .ref vt, .ref sh])), (vt, .inl (cI, 4, .inl vf)), (po, .inl (cI, 4000, .inl (upd (upd (upd (upd (shd k (4 * n) pf) ((4 * k) + 0) (vf 0)) ((4 * k) + 1) (vf 1)) ((4 * k) + 2) (vf 2)) ((4 * k) + 3) (vf 3))))] H := hP
                  have hD : va_D A [(m0, .inr (7, [.int th, .int zz, .int rn, .ref rw, .int kn, .int rk, .int y1, .ref ry, .int sp, .int lg, .ref ti, .int fo, .int (nI n), .ref po, .ref su, .ref sq, .ref ch, .ref vt, .ref sh])), (vt, .inl (cI, 4, .inl vf)), (po, .inl (cI, 4000, .inl (upd (upd (upd (upd (shd k (4 * n) pf) ((4 * k) + 0) (vf 0)) ((4 * k) + 1) (vf 1)) ((4 * k) + 2) (vf 2)) ((4 * k) + 3) (vf 3))))] := hD
                  refine lv_iinc (lv' := [(2, .int (4 : Int32)), (1, .int (nI k)), (0, .ref m0)]) (k := 0) (v := (4 : Int32)) hx hb d_M_keepPoint_122 hl rfl (by decide) (by decide) rfl (fun ls hl => ?_)
                  refine lv_goto (tgt := 101) hx hb d_M_keepPoint_125 (by decide) ?_
                  refine lv_iload_n hx hb d_M_keepPoint_101 rfl (lv_at hl 0 rfl) ?_
                  refine lv_iconst (v := (4 : Int32)) hx hb d_M_keepPoint_102 (by decide) ?_
                  refine lv_icmp_ge (tgt := 128) hx hb d_M_keepPoint_103 (by decide) (fun _ => ?_) (fun h99 => absurd h99 (by decide))
                  have hF : upd (upd (upd (upd (shd k (4 * n) pf) ((4 * k) + 0) (vf 0)) ((4 * k) + 1) (vf 1)) ((4 * k) + 2) (vf 2)) ((4 * k) + 3) (vf 3) = kpF n (kpl pf vf n 0) pf vf := by rw [hpv]; rfl
                  rw [hF] at hP hD
                  have hP : va_P D kl [(m0, .inr (7, [.int th, .int zz, .int rn, .ref rw, .int kn, .int rk, .int y1, .ref ry, .int sp, .int lg, .ref ti, .int fo, .int (nI n), .ref po, .ref su, .ref sq, .ref ch, .ref vt, .ref sh])), (vt, .inl (cI, 4, .inl vf)), (po, .inl (cI, 4000, .inl (kpF n (kpl pf vf n 0) pf vf)))] H := hP
                  have hD : va_D A [(m0, .inr (7, [.int th, .int zz, .int rn, .ref rw, .int kn, .int rk, .int y1, .ref ry, .int sp, .int lg, .ref ti, .int fo, .int (nI n), .ref po, .ref su, .ref sq, .ref ch, .ref vt, .ref sh])), (vt, .inl (cI, 4, .inl vf)), (po, .inl (cI, 4000, .inl (kpF n (kpl pf vf n 0) pf vf)))] := hD
                  refine lv_aload_n hx hb d_M_keepPoint_128 rfl (lv_at hl 2 rfl) ?_
                  refine lv_dup hx hb d_M_keepPoint_129 rfl ?_
                  refine va_get (D := D) (ci := 7) (v := .int (nI n)) (C := cn_M) (T := ft_M) (N := 19) hx hb hf_M (fun _ h => h) hown hK hP 0 rfl rfl 12 (by decide) (gw.at G hx0 mw_725 rfl _) (fun _ h9 => h9) rfl d_M_keepPoint_130 ?_
                  refine lv_iconst (v := (1 : Int32)) hx hb d_M_keepPoint_133 (by decide) ?_
                  refine lv_iadd hx hb d_M_keepPoint_134 ?_
                  refine tp_i (y := nI (n + 1)) (nI_add n 1) ?_
                  refine va_put (D := D) (ci := 7) (v := .int (nI (n + 1))) (ty := .int) (C := cn_M) (T := ft_M) (N := 19) hx hb hf_M (fun _ h => h) fy_M fk_M fn_M hown hK hP hD hS 0 rfl rfl 12 (by decide) (gw.at G hx0 mw_725 rfl _) (fun _ h9 => h9) rfl (by decide +kernel) rfl rfl (Nat.le_of_ble_eq_true rfl) d_M_keepPoint_135 (fun H locs hP hD hS => ?_)
                  have hP : va_P D kl [(m0, .inr (7, [.int th, .int zz, .int rn, .ref rw, .int kn, .int rk, .int y1, .ref ry, .int sp, .int lg, .ref ti, .int fo, .int (nI (n + 1)), .ref po, .ref su, .ref sq, .ref ch, .ref vt, .ref sh])), (vt, .inl (cI, 4, .inl vf)), (po, .inl (cI, 4000, .inl (kpF n (kpl pf vf n 0) pf vf)))] H := hP
                  have hD : va_D A [(m0, .inr (7, [.int th, .int zz, .int rn, .ref rw, .int kn, .int rk, .int y1, .ref ry, .int sp, .int lg, .ref ti, .int fo, .int (nI (n + 1)), .ref po, .ref su, .ref sq, .ref ch, .ref vt, .ref sh])), (vt, .inl (cI, 4, .inl vf)), (po, .inl (cI, 4000, .inl (kpF n (kpl pf vf n 0) pf vf)))] := hD
                  rw [← hQe]
                  exact tx_mono (fun _ h => tx_Z.of h) (W.vret hx hb hr (fun t ht hW => ⟨⟨[(m0, .inr (7, [.int th, .int zz, .int rn, .ref rw, .int kn, .int rk, .int y1, .ref ry, .int sp, .int lg, .ref ti, .int fo, .int (nI (n + 1)), .ref po, .ref su, .ref sq, .ref ch, .ref vt, .ref sh])), (vt, .inl (cI, 4, .inl vf)), (po, .inl (cI, 4000, .inl (kpF n (kpl pf vf n 0) pf vf)))], ⟨rfl, rfl⟩, by rw [ht]; exact hP.sub [0, 1, 2] rfl, hD.sub [0, 1, 2] (by decide) rfl⟩, hS.F ht⟩) hS.2.2 d_M_keepPoint_138)
                · rw [show nI u - (1 : Int32) = nI (u - 1) from nI_sub (a := u) (b := 1) hup] at hl
                  refine lv_iload_n hx hb d_M_keepPoint_72 rfl (lv_at hl 0 rfl) ?_
                  refine lv_iconst (v := (4 : Int32)) hx hb d_M_keepPoint_73 (by decide) ?_
                  refine lv_iload_n hx hb d_M_keepPoint_74 rfl (lv_at hl 1 rfl) ?_
                  refine lv_imul hx hb d_M_keepPoint_75 ?_
                  refine tp_i (y := nI (4 * k)) (nI_mul 4 k) ?_
                  refine lv_icmp_lt (tgt := 99) hx hb d_M_keepPoint_76 (by decide) (fun h_5 => ?_) (fun h_5 => ?_)
                  · have h_5 : (u - 1) < (4 * k) := (nI_ltI (a := u - 1) (b := 4 * k) (by omega) (by omega)).mp h_5
                    have hsf := hsh.trans (shd_e (k := k) (u := u) (f := f2) (by omega))
                    rw [← hsf] at hP hD
                    have hP : va_P D kl [(m0, .inr (7, [.int th, .int zz, .int rn, .ref rw, .int kn, .int rk, .int y1, .ref ry, .int sp, .int lg, .ref ti, .int fo, .int (nI n), .ref po, .ref su, .ref sq, .ref ch, .ref vt, .ref sh])), (vt, .inl (cI, 4, .inl vf)), (po, .inl (cI, 4000, .inl (shd k (4 * n) pf)))] H := hP
                    have hD : va_D A [(m0, .inr (7, [.int th, .int zz, .int rn, .ref rw, .int kn, .int rk, .int y1, .ref ry, .int sp, .int lg, .ref ti, .int fo, .int (nI n), .ref po, .ref su, .ref sq, .ref ch, .ref vt, .ref sh])), (vt, .inl (cI, 4, .inl vf)), (po, .inl (cI, 4000, .inl (shd k (4 * n) pf)))] := hD
                    refine lv_iconst (v := (0 : Int32)) hx hb d_M_keepPoint_99 (by decide) ?_
                    refine lv_istore_n (lv' := [(2, .int (0 : Int32)), (1, .int (nI k)), (0, .ref m0)]) hx hb d_M_keepPoint_100 rfl hl (by decide) rfl (fun ls hl => ?_)
                    refine lv_iload_n hx hb d_M_keepPoint_101 rfl (lv_at hl 0 rfl) ?_
                    refine lv_iconst (v := (4 : Int32)) hx hb d_M_keepPoint_102 (by decide) ?_
                    refine lv_icmp_ge (tgt := 128) hx hb d_M_keepPoint_103 (by decide) (fun h99 => absurd h99 (by decide)) (fun _ => ?_)
                    refine lv_aload_n hx hb d_M_keepPoint_106 rfl (lv_at hl 2 rfl) ?_
                    refine va_get (D := D) (ci := 7) (v := .ref po) (C := cn_M) (T := ft_M) (N := 19) hx hb hf_M (fun _ h => h) hown hK hP 0 rfl rfl 13 (by decide) (gw.at G hx0 mw_726 rfl _) (fun _ h9 => h9) rfl d_M_keepPoint_107 ?_
                    refine lv_iconst (v := (4 : Int32)) hx hb d_M_keepPoint_110 (by decide) ?_
                    refine lv_iload_n hx hb d_M_keepPoint_111 rfl (lv_at hl 1 rfl) ?_
                    refine lv_imul hx hb d_M_keepPoint_112 ?_
                    refine tp_i (y := nI (4 * k)) (nI_mul 4 k) ?_
                    refine lv_iload_n hx hb d_M_keepPoint_113 rfl (lv_at hl 0 rfl) ?_
                    refine lv_iadd hx hb d_M_keepPoint_114 ?_
                    refine tp_i (y := nI ((4 * k) + 0)) (nI_add (4 * k) 0) ?_
                    refine lv_aload_n hx hb d_M_keepPoint_115 rfl (lv_at hl 2 rfl) ?_
                    refine va_get (D := D) (ci := 7) (v := .ref vt) (C := cn_M) (T := ft_M) (N := 19) hx hb hf_M (fun _ h => h) hown hK hP 0 rfl rfl 17 (by decide) (gw.at G hx0 mw_730 rfl _) (fun _ h9 => h9) rfl d_M_keepPoint_116 ?_
                    refine lv_iload_n hx hb d_M_keepPoint_119 rfl (lv_at hl 0 rfl) ?_
                    refine va_iald hx hb hK hP 1 0 rfl rfl (vp_in_iff.mpr (by decide)) d_M_keepPoint_120 ?_
                    refine tp_i (y := vf 0) (by rfl) ?_
                    refine va_iast hx hb hK hP hD hS 2 0 rfl rfl (vp_in_nI (n := (4 * k) + 0) (by omega) (by omega)) d_M_keepPoint_121 (fun H locs hP hD hS => ?_)
                    rw [nI_clamp (n := (4 * k) + 0) (by omega)] at hP hD
                    have hP : va_P D kl [(m0, .inr (7, [.int th, .int zz, .int rn, .ref rw, .int kn, .int rk, .int y1, .ref ry, .int sp, .int lg, .ref ti, .int fo, .int (nI n), .ref po, .ref su, .ref sq, .ref ch, .ref vt, .ref sh])), (vt, .inl (cI, 4, .inl vf)), (po, .inl (cI, 4000, .inl (upd (shd k (4 * n) pf) ((4 * k) + 0) (vf 0))))] H := hP
                    have hD : va_D A [(m0, .inr (7, [.int th, .int zz, .int rn, .ref rw, .int kn, .int rk, .int y1, .ref ry, .int sp, .int lg, .ref ti, .int fo, .int (nI n), .ref po, .ref su, .ref sq, .ref ch, .ref vt, .ref sh])), (vt, .inl (cI, 4, .inl vf)), (po, .inl (cI, 4000, .inl (upd (shd k (4 * n) pf) ((4 * k) + 0) (vf 0))))] := hD
                    refine lv_iinc (lv' := [(2, .int (1 : Int32)), (1, .int (nI k)), (0, .ref m0)]) (k := 0) (v := (1 : Int32)) hx hb d_M_keepPoint_122 hl rfl (by decide) (by decide) rfl (fun ls hl => ?_)
                    refine lv_goto (tgt := 101) hx hb d_M_keepPoint_125 (by decide) ?_
                    refine lv_iload_n hx hb d_M_keepPoint_101 rfl (lv_at hl 0 rfl) ?_
                    refine lv_iconst (v := (4 : Int32)) hx hb d_M_keepPoint_102 (by decide) ?_
                    refine lv_icmp_ge (tgt := 128) hx hb d_M_keepPoint_103 (by decide) (fun h99 => absurd h99 (by decide)) (fun _ => ?_)
                    refine lv_aload_n hx hb d_M_keepPoint_106 rfl (lv_at hl 2 rfl) ?_
                    refine va_get (D := D) (ci := 7) (v := .ref po) (C := cn_M) (T := ft_M) (N := 19) hx hb hf_M (fun _ h => h) hown hK hP 0 rfl rfl 13 (by decide) (gw.at G hx0 mw_726 rfl _) (fun _ h9 => h9) rfl d_M_keepPoint_107 ?_
                    refine lv_iconst (v := (4 : Int32)) hx hb d_M_keepPoint_110 (by decide) ?_
                    refine lv_iload_n hx hb d_M_keepPoint_111 rfl (lv_at hl 1 rfl) ?_
                    refine lv_imul hx hb d_M_keepPoint_112 ?_
                    refine tp_i (y := nI (4 * k)) (nI_mul 4 k) ?_
                    refine lv_iload_n hx hb d_M_keepPoint_113 rfl (lv_at hl 0 rfl) ?_
                    refine lv_iadd hx hb d_M_keepPoint_114 ?_
                    refine tp_i (y := nI ((4 * k) + 1)) (nI_add (4 * k) 1) ?_
                    refine lv_aload_n hx hb d_M_keepPoint_115 rfl (lv_at hl 2 rfl) ?_
                    refine va_get (D := D) (ci := 7) (v := .ref vt) (C := cn_M) (T := ft_M) (N := 19) hx hb hf_M (fun _ h => h) hown hK hP 0 rfl rfl 17 (by decide) (gw.at G hx0 mw_730 rfl _) (fun _ h9 => h9) rfl d_M_keepPoint_116 ?_
                    refine lv_iload_n hx hb d_M_keepPoint_119 rfl (lv_at hl 0 rfl) ?_
                    refine va_iald hx hb hK hP 1 0 rfl rfl (vp_in_iff.mpr (by decide)) d_M_keepPoint_120 ?_
                    refine tp_i (y := vf 1) (by rfl) ?_
                    refine va_iast hx hb hK hP hD hS 2 0 rfl rfl (vp_in_nI (n := (4 * k) + 1) (by omega) (by omega)) d_M_keepPoint_121 (fun H locs hP hD hS => ?_)
                    rw [nI_clamp (n := (4 * k) + 1) (by omega)] at hP hD
                    have hP : va_P D kl [(m0, .inr (7, [.int th, .int zz, .int rn, .ref rw, .int kn, .int rk, .int y1, .ref ry, .int sp, .int lg, .ref ti, .int fo, .int (nI n), .ref po, .ref su, .ref sq, .ref ch, .ref vt, .ref sh])), (vt, .inl (cI, 4, .inl vf)), (po, .inl (cI, 4000, .inl (upd (upd (shd k (4 * n) pf) ((4 * k) + 0) (vf 0)) ((4 * k) + 1) (vf 1))))] H := hP
                    have hD : va_D A [(m0, .inr (7, [.int th, .int zz, .int rn, .ref rw, .int kn, .int rk, .int y1, .ref ry, .int sp, .int lg, .ref ti, .int fo, .int (nI n), .ref po, .ref su, .ref sq, .ref ch, .ref vt, .ref sh])), (vt, .inl (cI, 4, .inl vf)), (po, .inl (cI, 4000, .inl (upd (upd (shd k (4 * n) pf) ((4 * k) + 0) (vf 0)) ((4 * k) + 1) (vf 1))))] := hD
                    refine lv_iinc (lv' := [(2, .int (2 : Int32)), (1, .int (nI k)), (0, .ref m0)]) (k := 0) (v := (2 : Int32)) hx hb d_M_keepPoint_122 hl rfl (by decide) (by decide) rfl (fun ls hl => ?_)
                    refine lv_goto (tgt := 101) hx hb d_M_keepPoint_125 (by decide) ?_
                    refine lv_iload_n hx hb d_M_keepPoint_101 rfl (lv_at hl 0 rfl) ?_
                    refine lv_iconst (v := (4 : Int32)) hx hb d_M_keepPoint_102 (by decide) ?_
                    refine lv_icmp_ge (tgt := 128) hx hb d_M_keepPoint_103 (by decide) (fun h99 => absurd h99 (by decide)) (fun _ => ?_)
                    refine lv_aload_n hx hb d_M_keepPoint_106 rfl (lv_at hl 2 rfl) ?_
                    refine va_get (D := D) (ci := 7) (v := .ref po) (C := cn_M) (T := ft_M) (N := 19) hx hb hf_M (fun _ h => h) hown hK hP 0 rfl rfl 13 (by decide) (gw.at G hx0 mw_726 rfl _) (fun _ h9 => h9) rfl d_M_keepPoint_107 ?_
                    refine lv_iconst (v := (4 : Int32)) hx hb d_M_keepPoint_110 (by decide) ?_
                    refine lv_iload_n hx hb d_M_keepPoint_111 rfl (lv_at hl 1 rfl) ?_
                    refine lv_imul hx hb d_M_keepPoint_112 ?_
                    refine tp_i (y := nI (4 * k)) (nI_mul 4 k) ?_
                    refine lv_iload_n hx hb d_M_keepPoint_113 rfl (lv_at hl 0 rfl) ?_
                    refine lv_iadd hx hb d_M_keepPoint_114 ?_
                    refine tp_i (y := nI ((4 * k) + 2)) (nI_add (4 * k) 2) ?_
                    refine lv_aload_n hx hb d_M_keepPoint_115 rfl (lv_at hl 2 rfl) ?_
                    refine va_get (D := D) (ci := 7) (v := .ref vt) (C := cn_M) (T := ft_M) (N := 19) hx hb hf_M (fun _ h => h) hown hK hP 0 rfl rfl 17 (by decide) (gw.at G hx0 mw_730 rfl _) (fun _ h9 => h9) rfl d_M_keepPoint_116 ?_
                    refine lv_iload_n hx hb d_M_keepPoint_119 rfl (lv_at hl 0 rfl) ?_
                    refine va_iald hx hb hK hP 1 0 rfl rfl (vp_in_iff.mpr (by decide)) d_M_keepPoint_120 ?_
                    refine tp_i (y := vf 2) (by rfl) ?_
                    refine va_iast hx hb hK hP hD hS 2 0 rfl rfl (vp_in_nI (n := (4 * k) + 2) (by omega) (by omega)) d_M_keepPoint_121 (fun H locs hP hD hS => ?_)
                    rw [nI_clamp (n := (4 * k) + 2) (by omega)] at hP hD
                    have hP : va_P D kl [(m0, .inr (7, [.int th, .int zz, .int rn, .ref rw, .int kn, .int rk, .int y1, .ref ry, .int sp, .int lg, .ref ti, .int fo, .int (nI n), .ref po, .ref su, .ref sq, .ref ch, .ref vt, .ref sh])), (vt, .inl (cI, 4, .inl vf)), (po, .inl (cI, 4000, .inl (upd (upd (upd (shd k (4 * n) pf) ((4 * k) + 0) (vf 0)) ((4 * k) + 1) (vf 1)) ((4 * k) + 2) (vf 2))))] H := hP
                    have hD : va_D A [(m0, .inr (7, [.int th, .int zz, .int rn, .ref rw, .int kn, .int rk, .int y1, .ref ry, .int sp, .int lg, .ref ti, .int fo, .int (nI n), .ref po, .ref su, .ref sq, .ref ch, .ref vt, .ref sh])), (vt, .inl (cI, 4, .inl vf)), (po, .inl (cI, 4000, .inl (upd (upd (upd (shd k (4 * n) pf) ((4 * k) + 0) (vf 0)) ((4 * k) + 1) (vf 1)) ((4 * k) + 2) (vf 2))))] := hD
                    refine lv_iinc (lv' := [(2, .int (3 : Int32)), (1, .int (nI k)), (0, .ref m0)]) (k := 0) (v := (3 : Int32)) hx hb d_M_keepPoint_122 hl rfl (by decide) (by decide) rfl (fun ls hl => ?_)
                    refine lv_goto (tgt := 101) hx hb d_M_keepPoint_125 (by decide) ?_
                    refine lv_iload_n hx hb d_M_keepPoint_101 rfl (lv_at hl 0 rfl) ?_
                    refine lv_iconst (v := (4 : Int32)) hx hb d_M_keepPoint_102 (by decide) ?_
                    refine lv_icmp_ge (tgt := 128) hx hb d_M_keepPoint_103 (by decide) (fun h99 => absurd h99 (by decide)) (fun _ => ?_)
                    refine lv_aload_n hx hb d_M_keepPoint_106 rfl (lv_at hl 2 rfl) ?_
                    refine va_get (D := D) (ci := 7) (v := .ref po) (C := cn_M) (T := ft_M) (N := 19) hx hb hf_M (fun _ h => h) hown hK hP 0 rfl rfl 13 (by decide) (gw.at G hx0 mw_726 rfl _) (fun _ h9 => h9) rfl d_M_keepPoint_107 ?_
                    refine lv_iconst (v := (4 : Int32)) hx hb d_M_keepPoint_110 (by decide) ?_
                    refine lv_iload_n hx hb d_M_keepPoint_111 rfl (lv_at hl 1 rfl) ?_
                    refine lv_imul hx hb d_M_keepPoint_112 ?_
                    refine tp_i (y := nI (4 * k)) (nI_mul 4 k) ?_
                    refine lv_iload_n hx hb d_M_keepPoint_113 rfl (lv_at hl 0 rfl) ?_
                    refine lv_iadd hx hb d_M_keepPoint_114 ?_
                    refine tp_i (y := nI ((4 * k) + 3)) (nI_add (4 * k) 3) ?_
                    refine lv_aload_n hx hb d_M_keepPoint_115 rfl (lv_at hl 2 rfl) ?_
                    refine va_get (D := D) (ci := 7) (v := .ref vt) (C := cn_M) (T := ft_M) (N := 19) hx hb hf_M (fun _ h => h) hown hK hP 0 rfl rfl 17 (by decide) (gw.at G hx0 mw_730 rfl _) (fun _ h9 => h9) rfl d_M_keepPoint_116 ?_
                    refine lv_iload_n hx hb d_M_keepPoint_119 rfl (lv_at hl 0 rfl) ?_
                    refine va_iald hx hb hK hP 1 0 rfl rfl (vp_in_iff.mpr (by decide)) d_M_keepPoint_120 ?_
                    refine tp_i (y := vf 3) (by rfl) ?_
                    refine va_iast hx hb hK hP hD hS 2 0 rfl rfl (vp_in_nI (n := (4 * k) + 3) (by omega) (by omega)) d_M_keepPoint_121 (fun H locs hP hD hS => ?_)
                    rw [nI_clamp (n := (4 * k) + 3) (by omega)] at hP hD
                    have hP : va_P D kl [(m0, .inr (7, [.int th, .int zz, .int rn, .ref rw, .int kn, .int rk, .int y1, .ref ry, .int sp, .int lg, .ref ti, .int fo, .int (nI n), .ref po, .ref su, .ref sq, .ref ch, .ref vt, .ref sh])), (vt, .inl (cI, 4, .inl vf)), (po, .inl (cI, 4000, .inl (upd (upd (upd (upd (shd k (4 * n) pf) ((4 * k) + 0) (vf 0)) ((4 * k) + 1) (vf 1)) ((4 * k) + 2) (vf 2)) ((4 * k) + 3) (vf 3))))] H := hP
                    have hD : va_D A [(m0, .inr (7, [.int th, .int zz, .int rn, .ref rw, .int kn, .int rk, .int y1, .ref ry, .int sp, .int lg, .ref ti, .int fo, .int (nI n), .ref po, .ref su, .ref sq, .ref ch, .ref vt, .ref sh])), (vt, .inl (cI, 4, .inl vf)), (po, .inl (cI, 4000, .inl (upd (upd (upd (upd (shd k (4 * n) pf) ((4 * k) + 0) (vf 0)) ((4 * k) + 1) (vf 1)) ((4 * k) + 2) (vf 2)) ((4 * k) + 3) (vf 3))))] := hD
                    refine lv_iinc (lv' := [(2, .int (4 : Int32)), (1, .int (nI k)), (0, .ref m0)]) (k := 0) (v := (4 : Int32)) hx hb d_M_keepPoint_122 hl rfl (by decide) (by decide) rfl (fun ls hl => ?_)
                    refine lv_goto (tgt := 101) hx hb d_M_keepPoint_125 (by decide) ?_
                    refine lv_iload_n hx hb d_M_keepPoint_101 rfl (lv_at hl 0 rfl) ?_
                    refine lv_iconst (v := (4 : Int32)) hx hb d_M_keepPoint_102 (by decide) ?_
                    refine lv_icmp_ge (tgt := 128) hx hb d_M_keepPoint_103 (by decide) (fun _ => ?_) (fun h99 => absurd h99 (by decide))
                    have hF : upd (upd (upd (upd (shd k (4 * n) pf) ((4 * k) + 0) (vf 0)) ((4 * k) + 1) (vf 1)) ((4 * k) + 2) (vf 2)) ((4 * k) + 3) (vf 3) = kpF n (kpl pf vf n 0) pf vf := by rw [hpv]; rfl
                    rw [hF] at hP hD
                    have hP : va_P D kl [(m0, .inr (7, [.int th, .int zz, .int rn, .ref rw, .int kn, .int rk, .int y1, .ref ry, .int sp, .int lg, .ref ti, .int fo, .int (nI n), .ref po, .ref su, .ref sq, .ref ch, .ref vt, .ref sh])), (vt, .inl (cI, 4, .inl vf)), (po, .inl (cI, 4000, .inl (kpF n (kpl pf vf n 0) pf vf)))] H := hP
                    have hD : va_D A [(m0, .inr (7, [.int th, .int zz, .int rn, .ref rw, .int kn, .int rk, .int y1, .ref ry, .int sp, .int lg, .ref ti, .int fo, .int (nI n), .ref po, .ref su, .ref sq, .ref ch, .ref vt, .ref sh])), (vt, .inl (cI, 4, .inl vf)), (po, .inl (cI, 4000, .inl (kpF n (kpl pf vf n 0) pf vf)))] := hD
                    refine lv_aload_n hx hb d_M_keepPoint_128 rfl (lv_at hl 2 rfl) ?_
                    refine lv_dup hx hb d_M_keepPoint_129 rfl ?_
                    refine va_get (D := D) (ci := 7) (v := .int (nI n)) (C := cn_M) (T := ft_M) (N := 19) hx hb hf_M (fun _ h => h) hown hK hP 0 rfl rfl 12 (by decide) (gw.at G hx0 mw_725 rfl _) (fun _ h9 => h9) rfl d_M_keepPoint_130 ?_
                    refine lv_iconst (v := (1 : Int32)) hx hb d_M_keepPoint_133 (by decide) ?_
                    refine lv_iadd hx hb d_M_keepPoint_134 ?_
                    refine tp_i (y := nI (n + 1)) (nI_add n 1) ?_
                    refine va_put (D := D) (ci := 7) (v := .int (nI (n + 1))) (ty := .int) (C := cn_M) (T := ft_M) (N := 19) hx hb hf_M (fun _ h => h) fy_M fk_M fn_M hown hK hP hD hS 0 rfl rfl 12 (by decide) (gw.at G hx0 mw_725 rfl _) (fun _ h9 => h9) rfl (by decide +kernel) rfl rfl (Nat.le_of_ble_eq_true rfl) d_M_keepPoint_135 (fun H locs hP hD hS => ?_)
                    have hP : va_P D kl [(m0, .inr (7, [.int th, .int zz, .int rn, .ref rw, .int kn, .int rk, .int y1, .ref ry, .int sp, .int lg, .ref ti, .int fo, .int (nI (n + 1)), .ref po, .ref su, .ref sq, .ref ch, .ref vt, .ref sh])), (vt, .inl (cI, 4, .inl vf)), (po, .inl (cI, 4000, .inl (kpF n (kpl pf vf n 0) pf vf)))] H := hP
                    have hD : va_D A [(m0, .inr (7, [.int th, .int zz, .int rn, .ref rw, .int kn, .int rk, .int y1, .ref ry, .int sp, .int lg, .ref ti, .int fo, .int (nI (n + 1)), .ref po, .ref su, .ref sq, .ref ch, .ref vt, .ref sh])), (vt, .inl (cI, 4, .inl vf)), (po, .inl (cI, 4000, .inl (kpF n (kpl pf vf n 0) pf vf)))] := hD
                    rw [← hQe]
                    exact tx_mono (fun _ h => tx_Z.of h) (W.vret hx hb hr (fun t ht hW => ⟨⟨[(m0, .inr (7, [.int th, .int zz, .int rn, .ref rw, .int kn, .int rk, .int y1, .ref ry, .int sp, .int lg, .ref ti, .int fo, .int (nI (n + 1)), .ref po, .ref su, .ref sq, .ref ch, .ref vt, .ref sh])), (vt, .inl (cI, 4, .inl vf)), (po, .inl (cI, 4000, .inl (kpF n (kpl pf vf n 0) pf vf)))], ⟨rfl, rfl⟩, by rw [ht]; exact hP.sub [0, 1, 2] rfl, hD.sub [0, 1, 2] (by decide) rfl⟩, hS.F ht⟩) hS.2.2 d_M_keepPoint_138)
                  · have h_5 : ¬ ((u - 1) < (4 * k)) := fun z99 => h_5 ((nI_ltI (a := u - 1) (b := 4 * k) (by omega) (by omega)).mpr z99)
                    refine lv_aload_n hx hb d_M_keepPoint_79 rfl (lv_at hl 2 rfl) ?_
                    refine va_get (D := D) (ci := 7) (v := .ref po) (C := cn_M) (T := ft_M) (N := 19) hx hb hf_M (fun _ h => h) hown hK hP 0 rfl rfl 13 (by decide) (gw.at G hx0 mw_726 rfl _) (fun _ h9 => h9) rfl d_M_keepPoint_80 ?_
                    refine lv_iload_n hx hb d_M_keepPoint_83 rfl (lv_at hl 0 rfl) ?_
                    refine lv_iconst (v := (4 : Int32)) hx hb d_M_keepPoint_84 (by decide) ?_
                    refine lv_iadd hx hb d_M_keepPoint_85 ?_
                    refine tp_i (y := nI ((u - 1) + 4)) (nI_add (u - 1) 4) ?_
                    refine lv_aload_n hx hb d_M_keepPoint_86 rfl (lv_at hl 2 rfl) ?_
                    refine va_get (D := D) (ci := 7) (v := .ref po) (C := cn_M) (T := ft_M) (N := 19) hx hb hf_M (fun _ h => h) hown hK hP 0 rfl rfl 13 (by decide) (gw.at G hx0 mw_726 rfl _) (fun _ h9 => h9) rfl d_M_keepPoint_87 ?_
                    refine lv_iload_n hx hb d_M_keepPoint_90 rfl (lv_at hl 0 rfl) ?_
                    refine va_iald hx hb hK hP 2 0 rfl rfl (vp_in_nI (n := u - 1) (by omega) (by omega)) d_M_keepPoint_91 ?_
                    refine tp_i (y := f2 (u - 1)) (congrArg f2 (nI_clamp (n := u - 1) (by omega))) ?_
                    refine va_iast hx hb hK hP hD hS 2 0 rfl rfl (vp_in_nI (n := (u - 1) + 4) (by omega) (by omega)) d_M_keepPoint_92 (fun H locs hP hD hS => ?_)
                    rw [nI_clamp (n := (u - 1) + 4) (by omega)] at hP hD
                    have hP : va_P D kl [(m0, .inr (7, [.int th, .int zz, .int rn, .ref rw, .int kn, .int rk, .int y1, .ref ry, .int sp, .int lg, .ref ti, .int fo, .int (nI n), .ref po, .ref su, .ref sq, .ref ch, .ref vt, .ref sh])), (vt, .inl (cI, 4, .inl vf)), (po, .inl (cI, 4000, .inl (upd f2 ((u - 1) + 4) (f2 (u - 1)))))] H := hP
                    have hD : va_D A [(m0, .inr (7, [.int th, .int zz, .int rn, .ref rw, .int kn, .int rk, .int y1, .ref ry, .int sp, .int lg, .ref ti, .int fo, .int (nI n), .ref po, .ref su, .ref sq, .ref ch, .ref vt, .ref sh])), (vt, .inl (cI, 4, .inl vf)), (po, .inl (cI, 4000, .inl (upd f2 ((u - 1) + 4) (f2 (u - 1)))))] := hD
                    refine lv_iinc (lv' := [(2, .int (nI (u - 1) - (1 : Int32))), (1, .int (nI k)), (0, .ref m0)]) (k := 0) (v := nI (u - 1) - (1 : Int32)) hx hb d_M_keepPoint_93 hl rfl (by rw [Int32.sub_eq_add_neg]; rfl) (by decide) rfl (fun ls hl => ?_)
                    refine lv_goto (tgt := 72) hx hb d_M_keepPoint_96 (by decide) ?_
                    exact ih_72 _ (by omega) (u - 1) (upd f2 ((u - 1) + 4) (f2 (u - 1))) ls H locs rfl (hsh.trans (shd_s hup (by omega))) (by omega) (lv_sub hl [0, 1, 2] rfl) (hP.sub [0, 1, 2] rfl) (hD.sub [0, 1, 2] (by decide) rfl) hS
            exact lp_72 _ (4 * n) pf ls H locs rfl rfl (Nat.le_refl _) (lv_sub hl [0, 1, 2] rfl) (hP.sub [0, 1, 2] rfl) (hD.sub [0, 1, 2] (by decide) rfl) hS
          · exact absurd ⟨by rw [hpv]; omega, by rw [hpv]; exact h_4⟩ h
        · refine lv_iinc (lv' := [(1, .int (nI (k + 1))), (0, .ref m0)]) (k := 0) (v := nI (k + 1)) hx hb d_M_keepPoint_24 hl rfl (nI_add k 1) (by decide) rfl (fun ls hl => ?_)
          refine lv_goto (tgt := 2) hx hb d_M_keepPoint_27 (by decide) ?_
          exact ih_2 _ (by omega) (k + 1) ls H locs rfl (hpo.trans (kpl_s (by omega) (Int32.not_le.mp h_3))) (by omega) (lv_sub hl [0, 1] rfl) (hP.sub [0, 1, 2] rfl) (hD.sub [0, 1, 2] (by decide) rfl) hS
  exact lp_2 _ 0 ls s.heap [] rfl rfl (Nat.zero_le _) (lv_sub hl [0, 1] rfl) (hP.sub [0, 1, 2] rfl) (hD.sub [0, 1, 2] (by decide) rfl) hS

set_option maxHeartbeats 4000000 in
set_option maxRecDepth 100000 in
theorem c_M_keepPoint_f {l : Launch} {s0 : State} {b0 : Addr} {D : va_G} {cI cJ cZ : ClassId} {tC tS : Nat} (E : gE l s0 b0 D cI cJ cZ tC tS) (sz : Nat) (m0 : Nat) (rw : Nat) (ry : Nat) (ti : Nat) (po : Nat) (su : Nat) (sq : Nat) (ch : Nat) (vt : Nat) (sh : Nat) (th : Int32) (zz : Int32) (rn : Int32) (kn : Int32) (rk : Int32) (y1 : Int32) (sp : Int32) (lg : Int32) (fo : Int32) (n : Nat) (vf : Nat → Int32) (pf : Nat → Int32) (hn : n = 1000) : cx_M l s0 D kl y_M_keepPoint b_M_keepPoint 3 none ({ frames := 1, cells := 0, slots := 0, locals := 23 } : Room) 0 0 [.ref m0] [(m0, .inr (7, [.int th, .int zz, .int rn, .ref rw, .int kn, .int rk, .int y1, .ref ry, .int sp, .int lg, .ref ti, .int fo, .int (nI n), .ref po, .ref su, .ref sq, .ref ch, .ref vt, .ref sh])), (vt, .inl (cI, 4, .inl vf)), (po, .inl (cI, 4000, .inl pf))] sz (fun o9 _ w9 => o9 = .returned none ∧ w9 = [(m0, .inr (7, [.int th, .int zz, .int rn, .ref rw, .int kn, .int rk, .int y1, .ref ry, .int sp, .int lg, .ref ti, .int fo, .int (nI n), .ref po, .ref su, .ref sq, .ref ch, .ref vt, .ref sh])), (vt, .inl (cI, 4, .inl vf)), (po, .inl (cI, 4000, .inl pf))]) := by
  refine tx_ofW (cc := b_M_keepPoint) (maxL := 3) (ret := none) (by decide) rfl ?_
  intro p e s m args below meth c s₁ B hml hT hv
  obtain ⟨rfl, hsz, hP, hD0, hx0⟩ := hv
  have hx := B.exec
  have hb := B.bytes
  have hr := B.returns
  have G := E.2.1
  have hown : s.vm.findClass cn_M = some m.cls := findClass_of_methodNamed B.named
  have hlocks := B.notSynchronized
  have hK := va_K.moved hx0.1.alike E.2.2.1
  have hf_M : ∀ w99 ∈ u_ws cn_M ft_M 19, w99.before ([.ref m0] : List Value).toArray s = true := fun w99 h99 => gw.at G hx0 (fw_M w99 h99) (fo_M w99 h99) _
  subst hsz
  have hA0 := cx_new hD0 hx0.2.1
  have hD := hD0.self (sz := s.heap.size)
  generalize hAe : va_A [(m0, .inr (7, [.int th, .int zz, .int rn, .ref rw, .int kn, .int rk, .int y1, .ref ry, .int sp, .int lg, .ref ti, .int fo, .int (nI n), .ref po, .ref su, .ref sq, .ref ch, .ref vt, .ref sh])), (vt, .inl (cI, 4, .inl vf)), (po, .inl (cI, 4000, .inl pf))] s.heap.size = A at hD hA0 ⊢
  have hA : ∀ q : Nat, s.heap.size ≤ q → A q := fun q h => by rw [← hAe]; exact Or.inr h
  have hS : va_S A s.heap s.heap [] := va_S.rf
  have hl := lv_entry ([.ref m0]) (n := 3) (Nat.le_of_ble_eq_true rfl)
  rw [lg_entry_eq]
  generalize (lg_sl ([.ref m0]) ++ List.replicate (3 - (lg_sl ([.ref m0])).length) Slot.unset).toArray = ls at hl ⊢
  have hl : lv_has ls 3 [(0, .ref m0)] := hl
  have hP : va_P D kl [(m0, .inr (7, [.int th, .int zz, .int rn, .ref rw, .int kn, .int rk, .int y1, .ref ry, .int sp, .int lg, .ref ti, .int fo, .int (nI n), .ref po, .ref su, .ref sq, .ref ch, .ref vt, .ref sh])), (vt, .inl (cI, 4, .inl vf)), (po, .inl (cI, 4000, .inl pf))] s.heap := hP
  have hml : c.maxLocals = 3 := hml
  generalize hQe : tx_Z below (cx_Q D kl A (fun o9 _ w9 => o9 = .returned none ∧ w9 = [(m0, .inr (7, [.int th, .int zz, .int rn, .ref rw, .int kn, .int rk, .int y1, .ref ry, .int sp, .int lg, .ref ti, .int fo, .int (nI n), .ref po, .ref su, .ref sq, .ref ch, .ref vt, .ref sh])), (vt, .inl (cI, 4, .inl vf)), (po, .inl (cI, 4000, .inl pf))])) ([.ref m0] : List Value).toArray s 0 0 A = Q
  refine lv_iconst (v := (0 : Int32)) hx hb d_M_keepPoint_0 (by decide) ?_
  refine lv_istore_n (lv' := [(1, .int (0 : Int32)), (0, .ref m0)]) hx hb d_M_keepPoint_1 rfl hl (by decide) rfl (fun ls hl => ?_)
  have lp_2 : ∀ (n9 : Nat) (k : Nat) (ls : Array Slot) (H : Heap) (locs : List Loc), n - k = n9 → (kpl pf vf n 0 = kpl pf vf (n - k) k) → (k ≤ n) → lv_has ls 3 [(1, .int (nI k)), (0, .ref m0)] → va_P D kl [(m0, .inr (7, [.int th, .int zz, .int rn, .ref rw, .int kn, .int rk, .int y1, .ref ry, .int sp, .int lg, .ref ti, .int fo, .int (nI n), .ref po, .ref su, .ref sq, .ref ch, .ref vt, .ref sh])), (vt, .inl (cI, 4, .inl vf)), (po, .inl (cI, 4000, .inl pf))] H → va_D A [(m0, .inr (7, [.int th, .int zz, .int rn, .ref rw, .int kn, .int rk, .int y1, .ref ry, .int sp, .int lg, .ref ti, .int fo, .int (nI n), .ref po, .ref su, .ref sq, .ref ch, .ref vt, .ref sh])), (vt, .inl (cI, 4, .inl vf)), (po, .inl (cI, 4000, .inl pf))] → va_S A s.heap H locs → W p l e ({ frames := 1, cells := 0, slots := 0, locals := 23 } : Room) s m ([.ref m0] : List Value).toArray below meth c H locs 0 0 Q (F0 m 2 ls []) := by
    intro n9
    induction n9 using Nat.strongRecOn with
    | ind n9 ih_2 =>
      intro k ls H locs hm_2 hpo hk9 hl hP hD hS
      refine lv_iload_n hx hb d_M_keepPoint_2 rfl (lv_at hl 0 rfl) ?_
      refine lv_aload_n hx hb d_M_keepPoint_3 rfl (lv_at hl 1 rfl) ?_
      refine va_get (D := D) (ci := 7) (v := .int (nI n)) (C := cn_M) (T := ft_M) (N := 19) hx hb hf_M (fun _ h => h) hown hK hP 0 rfl rfl 12 (by decide) (gw.at G hx0 mw_725 rfl _) (fun _ h9 => h9) rfl d_M_keepPoint_4 ?_
      refine lv_icmp_ge (tgt := 30) hx hb d_M_keepPoint_7 (by decide) (fun h_1 => ?_) (fun h_1 => ?_)
      · have h_1 : n ≤ k := (nI_leI (a := n) (b := k) (by omega) (by omega)).mp h_1
        refine lv_aload_n hx hb d_M_keepPoint_30 rfl (lv_at hl 1 rfl) ?_
        refine va_get (D := D) (ci := 7) (v := .int (nI n)) (C := cn_M) (T := ft_M) (N := 19) hx hb hf_M (fun _ h => h) hown hK hP 0 rfl rfl 12 (by decide) (gw.at G hx0 mw_725 rfl _) (fun _ h9 => h9) rfl d_M_keepPoint_31 ?_
        refine lv_sipush (v := (1000 : Int32)) hx hb d_M_keepPoint_34 (by decide) ?_
        refine lv_icmp_eq (tgt := 62) hx hb d_M_keepPoint_37 (by decide) (fun _ => ?_) (fun h99 => absurd h99 (not_not_intro ((nI_eq (a := n) (b := 1000) (by omega) (by omega)).mpr (by omega))))
        rw [← hQe]
        exact tx_mono (fun _ h => tx_Z.of h) (W.vret hx hb hr (fun t ht hW => ⟨⟨[(m0, .inr (7, [.int th, .int zz, .int rn, .ref rw, .int kn, .int rk, .int y1, .ref ry, .int sp, .int lg, .ref ti, .int fo, .int (nI n), .ref po, .ref su, .ref sq, .ref ch, .ref vt, .ref sh])), (vt, .inl (cI, 4, .inl vf)), (po, .inl (cI, 4000, .inl pf))], ⟨rfl, rfl⟩, by rw [ht]; exact hP.sub [0, 1, 2] rfl, hD.sub [0, 1, 2] (by decide) rfl⟩, hS.F ht⟩) hS.2.2 d_M_keepPoint_62)
      · have h_1 : ¬ (n ≤ k) := fun z99 => h_1 ((nI_leI (a := n) (b := k) (by omega) (by omega)).mpr z99)
        refine lv_aload_n hx hb d_M_keepPoint_10 rfl (lv_at hl 1 rfl) ?_
        refine lv_aload_n hx hb d_M_keepPoint_11 rfl (lv_at hl 1 rfl) ?_
        refine va_get (D := D) (ci := 7) (v := .ref po) (C := cn_M) (T := ft_M) (N := 19) hx hb hf_M (fun _ h => h) hown hK hP 0 rfl rfl 13 (by decide) (gw.at G hx0 mw_726 rfl _) (fun _ h9 => h9) rfl d_M_keepPoint_12 ?_
        refine lv_iconst (v := (4 : Int32)) hx hb d_M_keepPoint_15 (by decide) ?_
        refine lv_iload_n hx hb d_M_keepPoint_16 rfl (lv_at hl 0 rfl) ?_
        refine lv_imul hx hb d_M_keepPoint_17 ?_
        refine tp_i (y := nI (4 * k)) (nI_mul 4 k) ?_
        refine cx_call (D := D) (cl := kl) (ws := _) (wc := [(m0, .inr (7, [.int th, .int zz, .int rn, .ref rw, .int kn, .int rk, .int y1, .ref ry, .int sp, .int lg, .ref ti, .int fo, .int (nI n), .ref po, .ref su, .ref sq, .ref ch, .ref vt, .ref sh])), (vt, .inl (cI, 4, .inl vf)), (po, .inl (cI, 4000, .inl pf))]) (wr := []) (tx_runV (C := cn_M) (b := m0) (As := [.ref po, .int (nI (4 * k))]) (rest := []) hx hb hml hown (c_M_compare E H.size m0 rw ry ti po su sq ch vt sh th zz rn kn rk y1 sp lg fo (nI n) vf po 4000 pf (4 * k) (by omega) (by decide)) (cx_C (b0 := b0) G hx0 mw_848 mw_9 ny_M_compare (by decide)) (gw.at G hx0 mw_845 rfl _) (gw.at G hx0 mw_847 rfl _) (gw.at G hx0 ms_M_compare rfl _) ⟨cx_blind, va_recv hK hP (q0 := 0) (ci := 7) (q := (cn_M, ft_M, 19)) rfl rfl, (cx_pre (s := s) hx0 hP hD hS hA0 [0, 1, 2] rfl rfl (by decide))⟩ rfl rfl hl.1 rfl (lv_room (Nat.le_of_ble_eq_true rfl)) d_M_keepPoint_18 ⟨by decide, by decide⟩) hP hD hS hA [0, 1, 2] [] rfl rfl (by decide) (by decide) (fun v t w1 H locs ht hW9 hp hP hD hS => ?_) (fun x t w1 H locs ht hW9 hp hP hD hS => by obtain ⟨h9, -⟩ := hp; cases h9)
        obtain ⟨h9, rfl⟩ := hp
        cases h9
        refine W.eq (g2 := F0 m 21 ls [.int (cmp4 pf (4 * k) vf)]) rfl ?_
        refine W.widen (k := 0) (n := 0) (by decide) (by decide) ?_
        have hP : va_P D kl [(m0, .inr (7, [.int th, .int zz, .int rn, .ref rw, .int kn, .int rk, .int y1, .ref ry, .int sp, .int lg, .ref ti, .int fo, .int (nI n), .ref po, .ref su, .ref sq, .ref ch, .ref vt, .ref sh])), (vt, .inl (cI, 4, .inl vf)), (po, .inl (cI, 4000, .inl pf))] H := hP
        have hD : va_D A [(m0, .inr (7, [.int th, .int zz, .int rn, .ref rw, .int kn, .int rk, .int y1, .ref ry, .int sp, .int lg, .ref ti, .int fo, .int (nI n), .ref po, .ref su, .ref sq, .ref ch, .ref vt, .ref sh])), (vt, .inl (cI, 4, .inl vf)), (po, .inl (cI, 4000, .inl pf))] := hD
        refine lv_if_ge (tgt := 30) hx hb d_M_keepPoint_21 (by decide) (fun h_2 => ?_) (fun h_2 => ?_)
        · refine lv_aload_n hx hb d_M_keepPoint_30 rfl (lv_at hl 1 rfl) ?_
          refine va_get (D := D) (ci := 7) (v := .int (nI n)) (C := cn_M) (T := ft_M) (N := 19) hx hb hf_M (fun _ h => h) hown hK hP 0 rfl rfl 12 (by decide) (gw.at G hx0 mw_725 rfl _) (fun _ h9 => h9) rfl d_M_keepPoint_31 ?_
          refine lv_sipush (v := (1000 : Int32)) hx hb d_M_keepPoint_34 (by decide) ?_
          refine lv_icmp_eq (tgt := 62) hx hb d_M_keepPoint_37 (by decide) (fun _ => ?_) (fun h99 => absurd h99 (not_not_intro ((nI_eq (a := n) (b := 1000) (by omega) (by omega)).mpr (by omega))))
          rw [← hQe]
          exact tx_mono (fun _ h => tx_Z.of h) (W.vret hx hb hr (fun t ht hW => ⟨⟨[(m0, .inr (7, [.int th, .int zz, .int rn, .ref rw, .int kn, .int rk, .int y1, .ref ry, .int sp, .int lg, .ref ti, .int fo, .int (nI n), .ref po, .ref su, .ref sq, .ref ch, .ref vt, .ref sh])), (vt, .inl (cI, 4, .inl vf)), (po, .inl (cI, 4000, .inl pf))], ⟨rfl, rfl⟩, by rw [ht]; exact hP.sub [0, 1, 2] rfl, hD.sub [0, 1, 2] (by decide) rfl⟩, hS.F ht⟩) hS.2.2 d_M_keepPoint_62)
        · refine lv_iinc (lv' := [(1, .int (nI (k + 1))), (0, .ref m0)]) (k := 0) (v := nI (k + 1)) hx hb d_M_keepPoint_24 hl rfl (nI_add k 1) (by decide) rfl (fun ls hl => ?_)
          refine lv_goto (tgt := 2) hx hb d_M_keepPoint_27 (by decide) ?_
          exact ih_2 _ (by omega) (k + 1) ls H locs rfl (hpo.trans (kpl_s (by omega) (Int32.not_le.mp h_2))) (by omega) (lv_sub hl [0, 1] rfl) (hP.sub [0, 1, 2] rfl) (hD.sub [0, 1, 2] (by decide) rfl) hS
  exact lp_2 _ 0 ls s.heap [] rfl rfl (Nat.zero_le _) (lv_sub hl [0, 1] rfl) (hP.sub [0, 1, 2] rfl) (hD.sub [0, 1, 2] (by decide) rfl) hS

