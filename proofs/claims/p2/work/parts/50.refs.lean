/-! ===== own rows, laid by wip/tools/g36.py: the reference's small methods ===== -/
/-- how many bits of a set -/
def mny (x : Nat) : Nat → Nat
  | 0 => 0
  | k + 1 => mny x k + (x / 2 ^ k) % 2
theorem mny_le (x : Nat) : ∀ k, mny x k ≤ k
  | 0 => Nat.le_refl 0
  | k + 1 => by
    show mny x k + (x / 2 ^ k) % 2 ≤ k + 1
    have := mny_le x k
    omega
theorem nI_and1 (a : Nat) : nI a &&& (1 : Int32) = nI (a % 2) := by
  rw [show (1 : Int32) = nI 1 from rfl, nI_and, Nat.and_one_is_mod]
def cmo (a b : Int32) : Int32 := if b ≤ a then 1 else -1
/-- the order of a point of a list and the vector -/
def cmp4 (f : Nat → Int32) (a : Nat) (g : Nat → Int32) : Int32 :=
  if f (a + 0) = g 0 then if f (a + 1) = g 1 then if f (a + 2) = g 2 then if f (a + 3) = g 3 then 0 else cmo (f (a + 3)) (g 3) else cmo (f (a + 2)) (g 2) else cmo (f (a + 1)) (g 1) else cmo (f (a + 0)) (g 0)
set_option maxHeartbeats 4000000 in
set_option maxRecDepth 100000 in
theorem c_M_many {l : Launch} {s0 : State} {b0 : Addr} {D : va_G} {cI cJ cZ : ClassId} {tC tS : Nat} (E : gE l s0 b0 D cI cJ cZ tC tS) (sz : Nat) (x : Nat) (hx3 : x < 2 ^ 31) : cx_M l s0 D kl y_M_many b_M_many 3 (some .int) ({ frames := 0, cells := 0, slots := 0, locals := 0 } : Room) 0 0 [.int (nI x)] [] sz (fun o9 _ w9 => o9 = .returned (some (.int (nI (mny x 16)))) ∧ mny x 16 ≤ 16 ∧ w9 = []) := by
  refine tx_ofW (cc := b_M_many) (maxL := 3) (ret := (some .int)) (by decide) rfl ?_
  intro p e s m args below meth c s₁ B hml hT hv
  obtain ⟨rfl, hsz, hP, hD0, hx0⟩ := hv
  have hx := B.exec
  have hb := B.bytes
  have hr := B.returns
  have G := E.2.1
  have hown : s.vm.findClass cn_M = some m.cls := findClass_of_methodNamed B.named
  have hlocks := B.notSynchronized
  have hK := va_K.moved hx0.1.alike E.2.2.1
  subst hsz
  have hA0 := cx_new hD0 hx0.2.1
  have hD := hD0.self (sz := s.heap.size)
  generalize hAe : va_A [] s.heap.size = A at hD hA0 ⊢
  have hA : ∀ q : Nat, s.heap.size ≤ q → A q := fun q h => by rw [← hAe]; exact Or.inr h
  have hS : va_S A s.heap s.heap [] := va_S.rf
  have hl := lv_entry ([.int (nI x)]) (n := 3) (Nat.le_of_ble_eq_true rfl)
  rw [lg_entry_eq]
  generalize (lg_sl ([.int (nI x)]) ++ List.replicate (3 - (lg_sl ([.int (nI x)])).length) Slot.unset).toArray = ls at hl ⊢
  have hl : lv_has ls 3 [(0, .int (nI x))] := hl
  have hP : va_P D kl [] s.heap := hP
  have hml : c.maxLocals = 3 := hml
  generalize hQe : tx_Z below (cx_Q D kl A (fun o9 _ w9 => o9 = .returned (some (.int (nI (mny x 16)))) ∧ mny x 16 ≤ 16 ∧ w9 = [])) ([.int (nI x)] : List Value).toArray s 0 0 A = Q
  refine lv_iconst (v := (0 : Int32)) hx hb d_M_many_0 (by decide) ?_
  refine lv_istore_n (lv' := [(1, .int (0 : Int32)), (0, .int (nI x))]) hx hb d_M_many_1 rfl hl (by decide) rfl (fun ls hl => ?_)
  refine lv_iconst (v := (0 : Int32)) hx hb d_M_many_2 (by decide) ?_
  refine lv_istore_n (lv' := [(2, .int (0 : Int32)), (1, .int (0 : Int32)), (0, .int (nI x))]) hx hb d_M_many_3 rfl hl (by decide) rfl (fun ls hl => ?_)
  have lp_4 : ∀ (n9 : Nat) (k : Nat) (v : Nat) (ls : Array Slot) (H : Heap) (locs : List Loc), 16 - k = n9 → (mny x k = v) → (k ≤ 16) → lv_has ls 3 [(2, .int (nI k)), (1, .int (nI v)), (0, .int (nI x))] → va_P D kl [] H → va_D A [] → va_S A s.heap H locs → W p l e ({ frames := 0, cells := 0, slots := 0, locals := 0 } : Room) s m ([.int (nI x)] : List Value).toArray below meth c H locs 0 0 Q (F0 m 4 ls []) := by
    intro n9
    induction n9 using Nat.strongRecOn with
    | ind n9 ih_4 =>
      intro k v ls H locs hm_4 hv hk hl hP hD hS
      refine lv_iload_n hx hb d_M_many_4 rfl (lv_at hl 0 rfl) ?_
      refine lv_bipush (v := (16 : Int32)) hx hb d_M_many_5 (by decide) ?_
      refine lv_icmp_ge (tgt := 24) hx hb d_M_many_7 (by decide) (fun h_1 => ?_) (fun h_1 => ?_)
      · have h_1 : 16 ≤ k := (nI_leI (a := 16) (b := k) (by omega) (by omega)).mp h_1
        refine lv_iload_n hx hb d_M_many_24 rfl (lv_at hl 1 rfl) ?_
        rw [← hQe]
        exact tx_mono (fun _ h => tx_Z.of h) (W.iret (v := nI v) hx hb hr (fun t ht hW => ⟨⟨[], ⟨(by rw [show 16 = k by omega, hv]), mny_le x 16, rfl⟩, by rw [ht]; exact hP.sub [] rfl, hD.sub [] (by decide) rfl⟩, hS.F ht⟩) hS.2.2 d_M_many_25)
      · have h_1 : ¬ (16 ≤ k) := fun z99 => h_1 ((nI_leI (a := 16) (b := k) (by omega) (by omega)).mpr z99)
        refine lv_iload_n hx hb d_M_many_10 rfl (lv_at hl 1 rfl) ?_
        refine lv_iload_n hx hb d_M_many_11 rfl (lv_at hl 2 rfl) ?_
        refine lv_iload_n hx hb d_M_many_12 rfl (lv_at hl 0 rfl) ?_
        refine lv_ishr hx hb d_M_many_13 ?_
        refine tp_i (y := nI (x / 2 ^ k)) (nI_shr (n := x) (p := k) (by omega) (by omega)) ?_
        refine lv_iconst (v := (1 : Int32)) hx hb d_M_many_14 (by decide) ?_
        refine lv_iand hx hb d_M_many_15 ?_
        refine tp_i (y := nI ((x / 2 ^ k) % 2)) (nI_and1 _) ?_
        refine lv_iadd hx hb d_M_many_16 ?_
        refine tp_i (y := nI (v + ((x / 2 ^ k) % 2))) (nI_add v ((x / 2 ^ k) % 2)) ?_
        refine lv_istore_n (lv' := [(1, .int (nI (v + ((x / 2 ^ k) % 2)))), (2, .int (nI k)), (0, .int (nI x))]) hx hb d_M_many_17 rfl hl (by decide) rfl (fun ls hl => ?_)
        refine lv_iinc (lv' := [(2, .int (nI (k + 1))), (1, .int (nI (v + ((x / 2 ^ k) % 2)))), (0, .int (nI x))]) (k := 1) (v := nI (k + 1)) hx hb d_M_many_18 hl rfl (nI_add k 1) (by decide) rfl (fun ls hl => ?_)
        refine lv_goto (tgt := 4) hx hb d_M_many_21 (by decide) ?_
        exact ih_4 _ (by omega) (k + 1) (v + (x / 2 ^ k) % 2) ls H locs rfl (by rw [← hv]; rfl) (by omega) (lv_sub hl [0, 1, 2] rfl) (hP.sub [] rfl) (hD.sub [] (by decide) rfl) hS
  exact lp_4 _ 0 0 ls s.heap [] rfl rfl (Nat.zero_le _) (lv_sub hl [0, 1, 2] rfl) (hP.sub [] rfl) (hD.sub [] (by decide) rfl) hS

set_option maxHeartbeats 4000000 in
set_option maxRecDepth 100000 in
theorem c_M_set {l : Launch} {s0 : State} {b0 : Addr} {D : va_G} {cI cJ cZ : ClassId} {tC tS : Nat} (E : gE l s0 b0 D cI cJ cZ tC tS) (sz : Nat) (m0 : Nat) (rw : Nat) (ry : Nat) (ti : Nat) (po : Nat) (su : Nat) (sq : Nat) (ch : Nat) (vt : Nat) (sh : Nat) (th : Int32) (zz : Int32) (rn : Int32) (kn : Int32) (rk : Int32) (y1 : Int32) (sp : Int32) (lg : Int32) (fo : Int32) (pt : Int32) (a : Int32) (b : Int32) (c2 : Int32) (d2 : Int32) (vf : Nat → Int32) : cx_M l s0 D kl y_M_set b_M_set 5 none ({ frames := 0, cells := 0, slots := 0, locals := 0 } : Room) 0 0 [.ref m0, .int a, .int b, .int c2, .int d2] [(m0, .inr (7, [.int th, .int zz, .int rn, .ref rw, .int kn, .int rk, .int y1, .ref ry, .int sp, .int lg, .ref ti, .int fo, .int pt, .ref po, .ref su, .ref sq, .ref ch, .ref vt, .ref sh])), (vt, .inl (cI, 4, .inl vf))] sz (fun o9 _ w9 => o9 = .returned none ∧ w9 = [(m0, .inr (7, [.int th, .int zz, .int rn, .ref rw, .int kn, .int rk, .int y1, .ref ry, .int sp, .int lg, .ref ti, .int fo, .int pt, .ref po, .ref su, .ref sq, .ref ch, .ref vt, .ref sh])), (vt, .inl (cI, 4, .inl (upd (upd (upd (upd vf 0 a) 1 b) 2 (tk_c zz c2)) 3 (tk_d zz d2))))]) := by
  refine tx_ofW (cc := b_M_set) (maxL := 5) (ret := none) (by decide) rfl ?_
  intro p e s m args below meth c s₁ B hml hT hv
  obtain ⟨rfl, hsz, hP, hD0, hx0⟩ := hv
  have hx := B.exec
  have hb := B.bytes
  have hr := B.returns
  have G := E.2.1
  have hown : s.vm.findClass cn_M = some m.cls := findClass_of_methodNamed B.named
  have hlocks := B.notSynchronized
  have hK := va_K.moved hx0.1.alike E.2.2.1
  have hf_M : ∀ w99 ∈ u_ws cn_M ft_M 19, w99.before ([.ref m0, .int a, .int b, .int c2, .int d2] : List Value).toArray s = true := fun w99 h99 => gw.at G hx0 (fw_M w99 h99) (fo_M w99 h99) _
  subst hsz
  have hA0 := cx_new hD0 hx0.2.1
  have hD := hD0.self (sz := s.heap.size)
  generalize hAe : va_A [(m0, .inr (7, [.int th, .int zz, .int rn, .ref rw, .int kn, .int rk, .int y1, .ref ry, .int sp, .int lg, .ref ti, .int fo, .int pt, .ref po, .ref su, .ref sq, .ref ch, .ref vt, .ref sh])), (vt, .inl (cI, 4, .inl vf))] s.heap.size = A at hD hA0 ⊢
  have hA : ∀ q : Nat, s.heap.size ≤ q → A q := fun q h => by rw [← hAe]; exact Or.inr h
  have hS : va_S A s.heap s.heap [] := va_S.rf
  have hl := lv_entry ([.ref m0, .int a, .int b, .int c2, .int d2]) (n := 5) (Nat.le_of_ble_eq_true rfl)
  rw [lg_entry_eq]
  generalize (lg_sl ([.ref m0, .int a, .int b, .int c2, .int d2]) ++ List.replicate (5 - (lg_sl ([.ref m0, .int a, .int b, .int c2, .int d2])).length) Slot.unset).toArray = ls at hl ⊢
  have hl : lv_has ls 5 [(0, .ref m0), (1, .int a), (2, .int b), (3, .int c2), (4, .int d2)] := hl
  have hP : va_P D kl [(m0, .inr (7, [.int th, .int zz, .int rn, .ref rw, .int kn, .int rk, .int y1, .ref ry, .int sp, .int lg, .ref ti, .int fo, .int pt, .ref po, .ref su, .ref sq, .ref ch, .ref vt, .ref sh])), (vt, .inl (cI, 4, .inl vf))] s.heap := hP
  have hml : c.maxLocals = 5 := hml
  refine lv_aload_n hx hb d_M_set_0 rfl (lv_at hl 0 rfl) ?_
  refine va_get (D := D) (ci := 7) (v := .ref vt) (C := cn_M) (T := ft_M) (N := 19) hx hb hf_M (fun _ h => h) hown hK hP 0 rfl rfl 17 (by decide) (gw.at G hx0 mw_730 rfl _) (fun _ h9 => h9) rfl d_M_set_1 ?_
  refine lv_iconst (v := (0 : Int32)) hx hb d_M_set_4 (by decide) ?_
  refine lv_iload_n hx hb d_M_set_5 rfl (lv_at hl 1 rfl) ?_
  refine va_iast hx hb hK hP hD hS 1 0 rfl rfl (vp_in_iff.mpr (by decide)) d_M_set_6 (fun H locs hP hD hS => ?_)
  have hP : va_P D kl [(m0, .inr (7, [.int th, .int zz, .int rn, .ref rw, .int kn, .int rk, .int y1, .ref ry, .int sp, .int lg, .ref ti, .int fo, .int pt, .ref po, .ref su, .ref sq, .ref ch, .ref vt, .ref sh])), (vt, .inl (cI, 4, .inl (upd vf 0 a)))] H := hP
  have hD : va_D A [(m0, .inr (7, [.int th, .int zz, .int rn, .ref rw, .int kn, .int rk, .int y1, .ref ry, .int sp, .int lg, .ref ti, .int fo, .int pt, .ref po, .ref su, .ref sq, .ref ch, .ref vt, .ref sh])), (vt, .inl (cI, 4, .inl (upd vf 0 a)))] := hD
  refine lv_aload_n hx hb d_M_set_7 rfl (lv_at hl 0 rfl) ?_
  refine va_get (D := D) (ci := 7) (v := .ref vt) (C := cn_M) (T := ft_M) (N := 19) hx hb hf_M (fun _ h => h) hown hK hP 0 rfl rfl 17 (by decide) (gw.at G hx0 mw_730 rfl _) (fun _ h9 => h9) rfl d_M_set_8 ?_
  refine lv_iconst (v := (1 : Int32)) hx hb d_M_set_11 (by decide) ?_
  refine lv_iload_n hx hb d_M_set_12 rfl (lv_at hl 2 rfl) ?_
  refine va_iast hx hb hK hP hD hS 1 0 rfl rfl (vp_in_iff.mpr (by decide)) d_M_set_13 (fun H locs hP hD hS => ?_)
  have hP : va_P D kl [(m0, .inr (7, [.int th, .int zz, .int rn, .ref rw, .int kn, .int rk, .int y1, .ref ry, .int sp, .int lg, .ref ti, .int fo, .int pt, .ref po, .ref su, .ref sq, .ref ch, .ref vt, .ref sh])), (vt, .inl (cI, 4, .inl (upd (upd vf 0 a) 1 b)))] H := hP
  have hD : va_D A [(m0, .inr (7, [.int th, .int zz, .int rn, .ref rw, .int kn, .int rk, .int y1, .ref ry, .int sp, .int lg, .ref ti, .int fo, .int pt, .ref po, .ref su, .ref sq, .ref ch, .ref vt, .ref sh])), (vt, .inl (cI, 4, .inl (upd (upd vf 0 a) 1 b)))] := hD
  refine lv_aload_n hx hb d_M_set_14 rfl (lv_at hl 0 rfl) ?_
  refine va_get (D := D) (ci := 7) (v := .ref vt) (C := cn_M) (T := ft_M) (N := 19) hx hb hf_M (fun _ h => h) hown hK hP 0 rfl rfl 17 (by decide) (gw.at G hx0 mw_730 rfl _) (fun _ h9 => h9) rfl d_M_set_15 ?_
  refine lv_iconst (v := (2 : Int32)) hx hb d_M_set_18 (by decide) ?_
  refine lv_aload_n hx hb d_M_set_19 rfl (lv_at hl 0 rfl) ?_
  refine va_get (D := D) (ci := 7) (v := .int zz) (C := cn_M) (T := ft_M) (N := 19) hx hb hf_M (fun _ h => h) hown hK hP 0 rfl rfl 1 (by decide) (gw.at G hx0 mw_714 rfl _) (fun _ h9 => h9) rfl d_M_set_20 ?_
  refine lv_iconst (v := (2 : Int32)) hx hb d_M_set_23 (by decide) ?_
  refine lv_icmp_le (tgt := 31) hx hb d_M_set_24 (by decide) (fun h_1 => ?_) (fun h_1 => ?_)
  · refine lv_iconst (v := (0 : Int32)) hx hb d_M_set_31 (by decide) ?_
    refine tp_i (y := tk_c zz c2) (by simp [tk_c, *]) ?_
    refine va_iast hx hb hK hP hD hS 1 0 rfl rfl (vp_in_iff.mpr (by decide)) d_M_set_32 (fun H locs hP hD hS => ?_)
    have hP : va_P D kl [(m0, .inr (7, [.int th, .int zz, .int rn, .ref rw, .int kn, .int rk, .int y1, .ref ry, .int sp, .int lg, .ref ti, .int fo, .int pt, .ref po, .ref su, .ref sq, .ref ch, .ref vt, .ref sh])), (vt, .inl (cI, 4, .inl (upd (upd (upd vf 0 a) 1 b) 2 (tk_c zz c2))))] H := hP
    have hD : va_D A [(m0, .inr (7, [.int th, .int zz, .int rn, .ref rw, .int kn, .int rk, .int y1, .ref ry, .int sp, .int lg, .ref ti, .int fo, .int pt, .ref po, .ref su, .ref sq, .ref ch, .ref vt, .ref sh])), (vt, .inl (cI, 4, .inl (upd (upd (upd vf 0 a) 1 b) 2 (tk_c zz c2))))] := hD
    refine lv_aload_n hx hb d_M_set_33 rfl (lv_at hl 0 rfl) ?_
    refine va_get (D := D) (ci := 7) (v := .ref vt) (C := cn_M) (T := ft_M) (N := 19) hx hb hf_M (fun _ h => h) hown hK hP 0 rfl rfl 17 (by decide) (gw.at G hx0 mw_730 rfl _) (fun _ h9 => h9) rfl d_M_set_34 ?_
    refine lv_iconst (v := (3 : Int32)) hx hb d_M_set_37 (by decide) ?_
    refine lv_aload_n hx hb d_M_set_38 rfl (lv_at hl 0 rfl) ?_
    refine va_get (D := D) (ci := 7) (v := .int zz) (C := cn_M) (T := ft_M) (N := 19) hx hb hf_M (fun _ h => h) hown hK hP 0 rfl rfl 1 (by decide) (gw.at G hx0 mw_714 rfl _) (fun _ h9 => h9) rfl d_M_set_39 ?_
    refine lv_iconst (v := (3 : Int32)) hx hb d_M_set_42 (by decide) ?_
    refine lv_icmp_le (tgt := 51) hx hb d_M_set_43 (by decide) (fun h_2 => ?_) (fun h_2 => ?_)
    · refine lv_iconst (v := (0 : Int32)) hx hb d_M_set_51 (by decide) ?_
      refine tp_i (y := tk_d zz d2) (by simp [tk_d, *]) ?_
      refine va_iast hx hb hK hP hD hS 1 0 rfl rfl (vp_in_iff.mpr (by decide)) d_M_set_52 (fun H locs hP hD hS => ?_)
      have hP : va_P D kl [(m0, .inr (7, [.int th, .int zz, .int rn, .ref rw, .int kn, .int rk, .int y1, .ref ry, .int sp, .int lg, .ref ti, .int fo, .int pt, .ref po, .ref su, .ref sq, .ref ch, .ref vt, .ref sh])), (vt, .inl (cI, 4, .inl (upd (upd (upd (upd vf 0 a) 1 b) 2 (tk_c zz c2)) 3 (tk_d zz d2))))] H := hP
      have hD : va_D A [(m0, .inr (7, [.int th, .int zz, .int rn, .ref rw, .int kn, .int rk, .int y1, .ref ry, .int sp, .int lg, .ref ti, .int fo, .int pt, .ref po, .ref su, .ref sq, .ref ch, .ref vt, .ref sh])), (vt, .inl (cI, 4, .inl (upd (upd (upd (upd vf 0 a) 1 b) 2 (tk_c zz c2)) 3 (tk_d zz d2))))] := hD
      exact tx_mono (fun _ h => tx_Z.of h) (W.vret hx hb hr (fun t ht hW => ⟨⟨[(m0, .inr (7, [.int th, .int zz, .int rn, .ref rw, .int kn, .int rk, .int y1, .ref ry, .int sp, .int lg, .ref ti, .int fo, .int pt, .ref po, .ref su, .ref sq, .ref ch, .ref vt, .ref sh])), (vt, .inl (cI, 4, .inl (upd (upd (upd (upd vf 0 a) 1 b) 2 (tk_c zz c2)) 3 (tk_d zz d2))))], ⟨rfl, rfl⟩, by rw [ht]; exact hP.sub [0, 1] rfl, hD.sub [0, 1] (by decide) rfl⟩, hS.F ht⟩) hS.2.2 d_M_set_53)
    · refine lv_iload hx hb d_M_set_46 (lv_at hl 4 rfl) ?_
      refine lv_goto (tgt := 52) hx hb d_M_set_48 (by decide) ?_
      refine tp_i (y := tk_d zz d2) (by simp [tk_d, *]) ?_
      refine va_iast hx hb hK hP hD hS 1 0 rfl rfl (vp_in_iff.mpr (by decide)) d_M_set_52 (fun H locs hP hD hS => ?_)
      have hP : va_P D kl [(m0, .inr (7, [.int th, .int zz, .int rn, .ref rw, .int kn, .int rk, .int y1, .ref ry, .int sp, .int lg, .ref ti, .int fo, .int pt, .ref po, .ref su, .ref sq, .ref ch, .ref vt, .ref sh])), (vt, .inl (cI, 4, .inl (upd (upd (upd (upd vf 0 a) 1 b) 2 (tk_c zz c2)) 3 (tk_d zz d2))))] H := hP
      have hD : va_D A [(m0, .inr (7, [.int th, .int zz, .int rn, .ref rw, .int kn, .int rk, .int y1, .ref ry, .int sp, .int lg, .ref ti, .int fo, .int pt, .ref po, .ref su, .ref sq, .ref ch, .ref vt, .ref sh])), (vt, .inl (cI, 4, .inl (upd (upd (upd (upd vf 0 a) 1 b) 2 (tk_c zz c2)) 3 (tk_d zz d2))))] := hD
      exact tx_mono (fun _ h => tx_Z.of h) (W.vret hx hb hr (fun t ht hW => ⟨⟨[(m0, .inr (7, [.int th, .int zz, .int rn, .ref rw, .int kn, .int rk, .int y1, .ref ry, .int sp, .int lg, .ref ti, .int fo, .int pt, .ref po, .ref su, .ref sq, .ref ch, .ref vt, .ref sh])), (vt, .inl (cI, 4, .inl (upd (upd (upd (upd vf 0 a) 1 b) 2 (tk_c zz c2)) 3 (tk_d zz d2))))], ⟨rfl, rfl⟩, by rw [ht]; exact hP.sub [0, 1] rfl, hD.sub [0, 1] (by decide) rfl⟩, hS.F ht⟩) hS.2.2 d_M_set_53)
  · refine lv_iload_n hx hb d_M_set_27 rfl (lv_at hl 3 rfl) ?_
    refine lv_goto (tgt := 32) hx hb d_M_set_28 (by decide) ?_
    refine tp_i (y := tk_c zz c2) (by simp [tk_c, *]) ?_
    refine va_iast hx hb hK hP hD hS 1 0 rfl rfl (vp_in_iff.mpr (by decide)) d_M_set_32 (fun H locs hP hD hS => ?_)
    have hP : va_P D kl [(m0, .inr (7, [.int th, .int zz, .int rn, .ref rw, .int kn, .int rk, .int y1, .ref ry, .int sp, .int lg, .ref ti, .int fo, .int pt, .ref po, .ref su, .ref sq, .ref ch, .ref vt, .ref sh])), (vt, .inl (cI, 4, .inl (upd (upd (upd vf 0 a) 1 b) 2 (tk_c zz c2))))] H := hP
    have hD : va_D A [(m0, .inr (7, [.int th, .int zz, .int rn, .ref rw, .int kn, .int rk, .int y1, .ref ry, .int sp, .int lg, .ref ti, .int fo, .int pt, .ref po, .ref su, .ref sq, .ref ch, .ref vt, .ref sh])), (vt, .inl (cI, 4, .inl (upd (upd (upd vf 0 a) 1 b) 2 (tk_c zz c2))))] := hD
    refine lv_aload_n hx hb d_M_set_33 rfl (lv_at hl 0 rfl) ?_
    refine va_get (D := D) (ci := 7) (v := .ref vt) (C := cn_M) (T := ft_M) (N := 19) hx hb hf_M (fun _ h => h) hown hK hP 0 rfl rfl 17 (by decide) (gw.at G hx0 mw_730 rfl _) (fun _ h9 => h9) rfl d_M_set_34 ?_
    refine lv_iconst (v := (3 : Int32)) hx hb d_M_set_37 (by decide) ?_
    refine lv_aload_n hx hb d_M_set_38 rfl (lv_at hl 0 rfl) ?_
    refine va_get (D := D) (ci := 7) (v := .int zz) (C := cn_M) (T := ft_M) (N := 19) hx hb hf_M (fun _ h => h) hown hK hP 0 rfl rfl 1 (by decide) (gw.at G hx0 mw_714 rfl _) (fun _ h9 => h9) rfl d_M_set_39 ?_
    refine lv_iconst (v := (3 : Int32)) hx hb d_M_set_42 (by decide) ?_
    refine lv_icmp_le (tgt := 51) hx hb d_M_set_43 (by decide) (fun h_3 => ?_) (fun h_3 => ?_)
    · refine lv_iconst (v := (0 : Int32)) hx hb d_M_set_51 (by decide) ?_
      refine tp_i (y := tk_d zz d2) (by simp [tk_d, *]) ?_
      refine va_iast hx hb hK hP hD hS 1 0 rfl rfl (vp_in_iff.mpr (by decide)) d_M_set_52 (fun H locs hP hD hS => ?_)
      have hP : va_P D kl [(m0, .inr (7, [.int th, .int zz, .int rn, .ref rw, .int kn, .int rk, .int y1, .ref ry, .int sp, .int lg, .ref ti, .int fo, .int pt, .ref po, .ref su, .ref sq, .ref ch, .ref vt, .ref sh])), (vt, .inl (cI, 4, .inl (upd (upd (upd (upd vf 0 a) 1 b) 2 (tk_c zz c2)) 3 (tk_d zz d2))))] H := hP
      have hD : va_D A [(m0, .inr (7, [.int th, .int zz, .int rn, .ref rw, .int kn, .int rk, .int y1, .ref ry, .int sp, .int lg, .ref ti, .int fo, .int pt, .ref po, .ref su, .ref sq, .ref ch, .ref vt, .ref sh])), (vt, .inl (cI, 4, .inl (upd (upd (upd (upd vf 0 a) 1 b) 2 (tk_c zz c2)) 3 (tk_d zz d2))))] := hD
      exact tx_mono (fun _ h => tx_Z.of h) (W.vret hx hb hr (fun t ht hW => ⟨⟨[(m0, .inr (7, [.int th, .int zz, .int rn, .ref rw, .int kn, .int rk, .int y1, .ref ry, .int sp, .int lg, .ref ti, .int fo, .int pt, .ref po, .ref su, .ref sq, .ref ch, .ref vt, .ref sh])), (vt, .inl (cI, 4, .inl (upd (upd (upd (upd vf 0 a) 1 b) 2 (tk_c zz c2)) 3 (tk_d zz d2))))], ⟨rfl, rfl⟩, by rw [ht]; exact hP.sub [0, 1] rfl, hD.sub [0, 1] (by decide) rfl⟩, hS.F ht⟩) hS.2.2 d_M_set_53)
    · refine lv_iload hx hb d_M_set_46 (lv_at hl 4 rfl) ?_
      refine lv_goto (tgt := 52) hx hb d_M_set_48 (by decide) ?_
      refine tp_i (y := tk_d zz d2) (by simp [tk_d, *]) ?_
      refine va_iast hx hb hK hP hD hS 1 0 rfl rfl (vp_in_iff.mpr (by decide)) d_M_set_52 (fun H locs hP hD hS => ?_)
      have hP : va_P D kl [(m0, .inr (7, [.int th, .int zz, .int rn, .ref rw, .int kn, .int rk, .int y1, .ref ry, .int sp, .int lg, .ref ti, .int fo, .int pt, .ref po, .ref su, .ref sq, .ref ch, .ref vt, .ref sh])), (vt, .inl (cI, 4, .inl (upd (upd (upd (upd vf 0 a) 1 b) 2 (tk_c zz c2)) 3 (tk_d zz d2))))] H := hP
      have hD : va_D A [(m0, .inr (7, [.int th, .int zz, .int rn, .ref rw, .int kn, .int rk, .int y1, .ref ry, .int sp, .int lg, .ref ti, .int fo, .int pt, .ref po, .ref su, .ref sq, .ref ch, .ref vt, .ref sh])), (vt, .inl (cI, 4, .inl (upd (upd (upd (upd vf 0 a) 1 b) 2 (tk_c zz c2)) 3 (tk_d zz d2))))] := hD
      exact tx_mono (fun _ h => tx_Z.of h) (W.vret hx hb hr (fun t ht hW => ⟨⟨[(m0, .inr (7, [.int th, .int zz, .int rn, .ref rw, .int kn, .int rk, .int y1, .ref ry, .int sp, .int lg, .ref ti, .int fo, .int pt, .ref po, .ref su, .ref sq, .ref ch, .ref vt, .ref sh])), (vt, .inl (cI, 4, .inl (upd (upd (upd (upd vf 0 a) 1 b) 2 (tk_c zz c2)) 3 (tk_d zz d2))))], ⟨rfl, rfl⟩, by rw [ht]; exact hP.sub [0, 1] rfl, hD.sub [0, 1] (by decide) rfl⟩, hS.F ht⟩) hS.2.2 d_M_set_53)

set_option maxHeartbeats 4000000 in
set_option maxRecDepth 100000 in
theorem c_M_in_y {l : Launch} {s0 : State} {b0 : Addr} {D : va_G} {cI cJ cZ : ClassId} {tC tS : Nat} (E : gE l s0 b0 D cI cJ cZ tC tS) (sz : Nat) (x : Int32) (r : Int32) (h : inw r x = true) : cx_M l s0 D kl y_M_in b_M_in 2 (some .boolean) ({ frames := 0, cells := 0, slots := 0, locals := 0 } : Room) 0 0 [.int x, .int r] [] sz (fun o9 _ w9 => o9 = .returned (some (.int (1 : Int32))) ∧ w9 = []) := by
  refine tx_ofW (cc := b_M_in) (maxL := 2) (ret := (some .boolean)) (by decide) rfl ?_
  intro p e s m args below meth c s₁ B hml hT hv
  obtain ⟨rfl, hsz, hP, hD0, hx0⟩ := hv
  have hx := B.exec
  have hb := B.bytes
  have hr := B.returns
  have G := E.2.1
  have hown : s.vm.findClass cn_M = some m.cls := findClass_of_methodNamed B.named
  have hlocks := B.notSynchronized
  have hK := va_K.moved hx0.1.alike E.2.2.1
  subst hsz
  have hA0 := cx_new hD0 hx0.2.1
  have hD := hD0.self (sz := s.heap.size)
  generalize hAe : va_A [] s.heap.size = A at hD hA0 ⊢
  have hA : ∀ q : Nat, s.heap.size ≤ q → A q := fun q h => by rw [← hAe]; exact Or.inr h
  have hS : va_S A s.heap s.heap [] := va_S.rf
  have hl := lv_entry ([.int x, .int r]) (n := 2) (Nat.le_of_ble_eq_true rfl)
  rw [lg_entry_eq]
  generalize (lg_sl ([.int x, .int r]) ++ List.replicate (2 - (lg_sl ([.int x, .int r])).length) Slot.unset).toArray = ls at hl ⊢
  have hl : lv_has ls 2 [(0, .int x), (1, .int r)] := hl
  have hP : va_P D kl [] s.heap := hP
  have hml : c.maxLocals = 2 := hml
  refine lv_iload_n hx hb d_M_in_0 rfl (lv_at hl 0 rfl) ?_
  refine lv_iload_n hx hb d_M_in_1 rfl (lv_at hl 1 rfl) ?_
  refine lv_ineg hx hb d_M_in_2 ?_
  refine lv_icmp_lt (tgt := 15) hx hb d_M_in_3 (by decide) (fun h99 => absurd h99 (inw_lt h)) (fun _ => ?_)
  refine lv_iload_n hx hb d_M_in_6 rfl (lv_at hl 0 rfl) ?_
  refine lv_iload_n hx hb d_M_in_7 rfl (lv_at hl 1 rfl) ?_
  refine lv_icmp_gt (tgt := 15) hx hb d_M_in_8 (by decide) (fun h99 => absurd h99 (Int32.not_lt.mpr (inw_le h))) (fun _ => ?_)
  refine lv_iconst (v := (1 : Int32)) hx hb d_M_in_11 (by decide) ?_
  refine lv_goto (tgt := 16) hx hb d_M_in_12 (by decide) ?_
  exact tx_mono (fun _ h => tx_Z.of h) (W.zret (v := (1 : Int32)) hx hb hr (by decide) (fun t ht hW => ⟨⟨[], ⟨rfl, rfl⟩, by rw [ht]; exact hP.sub [] rfl, hD.sub [] (by decide) rfl⟩, hS.F ht⟩) hS.2.2 d_M_in_16)

set_option maxHeartbeats 4000000 in
set_option maxRecDepth 100000 in
theorem c_M_in_n {l : Launch} {s0 : State} {b0 : Addr} {D : va_G} {cI cJ cZ : ClassId} {tC tS : Nat} (E : gE l s0 b0 D cI cJ cZ tC tS) (sz : Nat) (x : Int32) (r : Int32) (h : ¬ inw r x = true) : cx_M l s0 D kl y_M_in b_M_in 2 (some .boolean) ({ frames := 0, cells := 0, slots := 0, locals := 0 } : Room) 0 0 [.int x, .int r] [] sz (fun o9 _ w9 => o9 = .returned (some (.int (0 : Int32))) ∧ w9 = []) := by
  refine tx_ofW (cc := b_M_in) (maxL := 2) (ret := (some .boolean)) (by decide) rfl ?_
  intro p e s m args below meth c s₁ B hml hT hv
  obtain ⟨rfl, hsz, hP, hD0, hx0⟩ := hv
  have hx := B.exec
  have hb := B.bytes
  have hr := B.returns
  have G := E.2.1
  have hown : s.vm.findClass cn_M = some m.cls := findClass_of_methodNamed B.named
  have hlocks := B.notSynchronized
  have hK := va_K.moved hx0.1.alike E.2.2.1
  subst hsz
  have hA0 := cx_new hD0 hx0.2.1
  have hD := hD0.self (sz := s.heap.size)
  generalize hAe : va_A [] s.heap.size = A at hD hA0 ⊢
  have hA : ∀ q : Nat, s.heap.size ≤ q → A q := fun q h => by rw [← hAe]; exact Or.inr h
  have hS : va_S A s.heap s.heap [] := va_S.rf
  have hl := lv_entry ([.int x, .int r]) (n := 2) (Nat.le_of_ble_eq_true rfl)
  rw [lg_entry_eq]
  generalize (lg_sl ([.int x, .int r]) ++ List.replicate (2 - (lg_sl ([.int x, .int r])).length) Slot.unset).toArray = ls at hl ⊢
  have hl : lv_has ls 2 [(0, .int x), (1, .int r)] := hl
  have hP : va_P D kl [] s.heap := hP
  have hml : c.maxLocals = 2 := hml
  refine lv_iload_n hx hb d_M_in_0 rfl (lv_at hl 0 rfl) ?_
  refine lv_iload_n hx hb d_M_in_1 rfl (lv_at hl 1 rfl) ?_
  refine lv_ineg hx hb d_M_in_2 ?_
  refine lv_icmp_lt (tgt := 15) hx hb d_M_in_3 (by decide) (fun h_1 => ?_) (fun h_1 => ?_)
  · refine lv_iconst (v := (0 : Int32)) hx hb d_M_in_15 (by decide) ?_
    exact tx_mono (fun _ h => tx_Z.of h) (W.zret (v := (0 : Int32)) hx hb hr (by decide) (fun t ht hW => ⟨⟨[], ⟨rfl, rfl⟩, by rw [ht]; exact hP.sub [] rfl, hD.sub [] (by decide) rfl⟩, hS.F ht⟩) hS.2.2 d_M_in_16)
  · refine lv_iload_n hx hb d_M_in_6 rfl (lv_at hl 0 rfl) ?_
    refine lv_iload_n hx hb d_M_in_7 rfl (lv_at hl 1 rfl) ?_
    refine lv_icmp_gt (tgt := 15) hx hb d_M_in_8 (by decide) (fun h_2 => ?_) (fun h_2 => ?_)
    · refine lv_iconst (v := (0 : Int32)) hx hb d_M_in_15 (by decide) ?_
      exact tx_mono (fun _ h => tx_Z.of h) (W.zret (v := (0 : Int32)) hx hb hr (by decide) (fun t ht hW => ⟨⟨[], ⟨rfl, rfl⟩, by rw [ht]; exact hP.sub [] rfl, hD.sub [] (by decide) rfl⟩, hS.F ht⟩) hS.2.2 d_M_in_16)
    · refine lv_iconst (v := (1 : Int32)) hx hb d_M_in_11 (by decide) ?_
      refine lv_goto (tgt := 16) hx hb d_M_in_12 (by decide) ?_
      exact absurd (inw_of h_1 (Int32.not_lt.mp h_2)) h

set_option maxHeartbeats 4000000 in
set_option maxRecDepth 100000 in
theorem c_M_within_y {l : Launch} {s0 : State} {b0 : Addr} {D : va_G} {cI cJ cZ : ClassId} {tC tS : Nat} (E : gE l s0 b0 D cI cJ cZ tC tS) (sz : Nat) (m0 : Nat) (rw : Nat) (ry : Nat) (ti : Nat) (po : Nat) (su : Nat) (sq : Nat) (ch : Nat) (vt : Nat) (sh : Nat) (th : Int32) (rn : Int32) (kn : Int32) (rk : Int32) (y1 : Int32) (sp : Int32) (lg : Int32) (fo : Int32) (pt : Int32) (zs : Nat) (vf : Nat → Int32) (r : Int32) (hz : zs ≤ 4) (h : (∀ k, k < zs → inw r (vf k) = true)) : cx_M l s0 D kl y_M_within b_M_within 4 (some .boolean) ({ frames := 1, cells := 0, slots := 0, locals := 21 } : Room) 0 0 [.ref m0, .int r] [(m0, .inr (7, [.int th, .int (nI zs), .int rn, .ref rw, .int kn, .int rk, .int y1, .ref ry, .int sp, .int lg, .ref ti, .int fo, .int pt, .ref po, .ref su, .ref sq, .ref ch, .ref vt, .ref sh])), (vt, .inl (cI, 4, .inl vf))] sz (fun o9 _ w9 => o9 = .returned (some (.int (1 : Int32))) ∧ w9 = [(m0, .inr (7, [.int th, .int (nI zs), .int rn, .ref rw, .int kn, .int rk, .int y1, .ref ry, .int sp, .int lg, .ref ti, .int fo, .int pt, .ref po, .ref su, .ref sq, .ref ch, .ref vt, .ref sh])), (vt, .inl (cI, 4, .inl vf))]) := by
  refine tx_ofW (cc := b_M_within) (maxL := 4) (ret := (some .boolean)) (by decide) rfl ?_
  intro p e s m args below meth c s₁ B hml hT hv
  obtain ⟨rfl, hsz, hP, hD0, hx0⟩ := hv
  have hx := B.exec
  have hb := B.bytes
  have hr := B.returns
  have G := E.2.1
  have hown : s.vm.findClass cn_M = some m.cls := findClass_of_methodNamed B.named
  have hlocks := B.notSynchronized
  have hK := va_K.moved hx0.1.alike E.2.2.1
  have hf_M : ∀ w99 ∈ u_ws cn_M ft_M 19, w99.before ([.ref m0, .int r] : List Value).toArray s = true := fun w99 h99 => gw.at G hx0 (fw_M w99 h99) (fo_M w99 h99) _
  subst hsz
  have hA0 := cx_new hD0 hx0.2.1
  have hD := hD0.self (sz := s.heap.size)
  generalize hAe : va_A [(m0, .inr (7, [.int th, .int (nI zs), .int rn, .ref rw, .int kn, .int rk, .int y1, .ref ry, .int sp, .int lg, .ref ti, .int fo, .int pt, .ref po, .ref su, .ref sq, .ref ch, .ref vt, .ref sh])), (vt, .inl (cI, 4, .inl vf))] s.heap.size = A at hD hA0 ⊢
  have hA : ∀ q : Nat, s.heap.size ≤ q → A q := fun q h => by rw [← hAe]; exact Or.inr h
  have hS : va_S A s.heap s.heap [] := va_S.rf
  have hl := lv_entry ([.ref m0, .int r]) (n := 4) (Nat.le_of_ble_eq_true rfl)
  rw [lg_entry_eq]
  generalize (lg_sl ([.ref m0, .int r]) ++ List.replicate (4 - (lg_sl ([.ref m0, .int r])).length) Slot.unset).toArray = ls at hl ⊢
  have hl : lv_has ls 4 [(0, .ref m0), (1, .int r)] := hl
  have hP : va_P D kl [(m0, .inr (7, [.int th, .int (nI zs), .int rn, .ref rw, .int kn, .int rk, .int y1, .ref ry, .int sp, .int lg, .ref ti, .int fo, .int pt, .ref po, .ref su, .ref sq, .ref ch, .ref vt, .ref sh])), (vt, .inl (cI, 4, .inl vf))] s.heap := hP
  have hml : c.maxLocals = 4 := hml
  generalize hQe : tx_Z below (cx_Q D kl A (fun o9 _ w9 => o9 = .returned (some (.int (1 : Int32))) ∧ w9 = [(m0, .inr (7, [.int th, .int (nI zs), .int rn, .ref rw, .int kn, .int rk, .int y1, .ref ry, .int sp, .int lg, .ref ti, .int fo, .int pt, .ref po, .ref su, .ref sq, .ref ch, .ref vt, .ref sh])), (vt, .inl (cI, 4, .inl vf))])) ([.ref m0, .int r] : List Value).toArray s 0 0 A = Q
  refine lv_iconst (v := (1 : Int32)) hx hb d_M_within_0 (by decide) ?_
  refine lv_istore_n (lv' := [(2, .int (1 : Int32)), (0, .ref m0), (1, .int r)]) hx hb d_M_within_1 rfl hl (by decide) rfl (fun ls hl => ?_)
  refine lv_iconst (v := (0 : Int32)) hx hb d_M_within_2 (by decide) ?_
  refine lv_istore_n (lv' := [(3, .int (0 : Int32)), (2, .int (1 : Int32)), (0, .ref m0), (1, .int r)]) hx hb d_M_within_3 rfl hl (by decide) rfl (fun ls hl => ?_)
  have lp_4 : ∀ (n9 : Nat) (k : Nat) (ls : Array Slot) (H : Heap) (locs : List Loc), zs - k = n9 → (k ≤ zs) → lv_has ls 4 [(3, .int (nI k)), (2, .int (1 : Int32)), (0, .ref m0), (1, .int r)] → va_P D kl [(m0, .inr (7, [.int th, .int (nI zs), .int rn, .ref rw, .int kn, .int rk, .int y1, .ref ry, .int sp, .int lg, .ref ti, .int fo, .int pt, .ref po, .ref su, .ref sq, .ref ch, .ref vt, .ref sh])), (vt, .inl (cI, 4, .inl vf))] H → va_D A [(m0, .inr (7, [.int th, .int (nI zs), .int rn, .ref rw, .int kn, .int rk, .int y1, .ref ry, .int sp, .int lg, .ref ti, .int fo, .int pt, .ref po, .ref su, .ref sq, .ref ch, .ref vt, .ref sh])), (vt, .inl (cI, 4, .inl vf))] → va_S A s.heap H locs → W p l e ({ frames := 1, cells := 0, slots := 0, locals := 21 } : Room) s m ([.ref m0, .int r] : List Value).toArray below meth c H locs 0 0 Q (F0 m 4 ls []) := by
    intro n9
    induction n9 using Nat.strongRecOn with
    | ind n9 ih_4 =>
      intro k ls H locs hm_4 hk9 hl hP hD hS
      refine lv_iload_n hx hb d_M_within_4 rfl (lv_at hl 0 rfl) ?_
      refine lv_aload_n hx hb d_M_within_5 rfl (lv_at hl 2 rfl) ?_
      refine va_get (D := D) (ci := 7) (v := .int (nI zs)) (C := cn_M) (T := ft_M) (N := 19) hx hb hf_M (fun _ h => h) hown hK hP 0 rfl rfl 1 (by decide) (gw.at G hx0 mw_714 rfl _) (fun _ h9 => h9) rfl d_M_within_6 ?_
      refine lv_icmp_ge (tgt := 41) hx hb d_M_within_9 (by decide) (fun h_1 => ?_) (fun h_1 => ?_)
      · have h_1 : zs ≤ k := (nI_leI (a := zs) (b := k) (by omega) (by omega)).mp h_1
        refine lv_iload_n hx hb d_M_within_41 rfl (lv_at hl 1 rfl) ?_
        rw [← hQe]
        exact tx_mono (fun _ h => tx_Z.of h) (W.zret (v := (1 : Int32)) hx hb hr (by decide) (fun t ht hW => ⟨⟨[(m0, .inr (7, [.int th, .int (nI zs), .int rn, .ref rw, .int kn, .int rk, .int y1, .ref ry, .int sp, .int lg, .ref ti, .int fo, .int pt, .ref po, .ref su, .ref sq, .ref ch, .ref vt, .ref sh])), (vt, .inl (cI, 4, .inl vf))], ⟨rfl, rfl⟩, by rw [ht]; exact hP.sub [0, 1] rfl, hD.sub [0, 1] (by decide) rfl⟩, hS.F ht⟩) hS.2.2 d_M_within_42)
      · have h_1 : ¬ (zs ≤ k) := fun z99 => h_1 ((nI_leI (a := zs) (b := k) (by omega) (by omega)).mpr z99)
        refine lv_iload_n hx hb d_M_within_12 rfl (lv_at hl 1 rfl) ?_
        refine lv_if_eq (tgt := 33) hx hb d_M_within_13 (by decide) (fun h99 => absurd h99 (by decide)) (fun _ => ?_)
        refine lv_aload_n hx hb d_M_within_16 rfl (lv_at hl 2 rfl) ?_
        refine va_get (D := D) (ci := 7) (v := .ref vt) (C := cn_M) (T := ft_M) (N := 19) hx hb hf_M (fun _ h => h) hown hK hP 0 rfl rfl 17 (by decide) (gw.at G hx0 mw_730 rfl _) (fun _ h9 => h9) rfl d_M_within_17 ?_
        refine lv_iload_n hx hb d_M_within_20 rfl (lv_at hl 0 rfl) ?_
        refine va_iald hx hb hK hP 1 0 rfl rfl (vp_in_nI (n := k) (by omega) (by omega)) d_M_within_21 ?_
        refine tp_i (y := vf k) (congrArg vf (nI_clamp (n := k) (by omega))) ?_
        refine lv_iload_n hx hb d_M_within_22 rfl (lv_at hl 3 rfl) ?_
        refine cx_call (D := D) (cl := kl) (ws := _) (wc := []) (wr := [(m0, .inr (7, [.int th, .int (nI zs), .int rn, .ref rw, .int kn, .int rk, .int y1, .ref ry, .int sp, .int lg, .ref ti, .int fo, .int pt, .ref po, .ref su, .ref sq, .ref ch, .ref vt, .ref sh])), (vt, .inl (cI, 4, .inl vf))]) (tx_runS (As := [.int (vf k), .int r]) (rest := []) hx hb hml hown (c_M_in_y E H.size (vf k) r (h k (by omega))) (cx_C (b0 := b0) G hx0 mw_790 mw_9 ny_M_in (by decide)) (gw.at G hx0 mw_788 rfl _) (gw.at G hx0 mw_789 rfl _) (gw.at G hx0 mw_9 rfl _) ⟨cx_blind, (cx_pre (s := s) hx0 hP hD hS hA0 [] rfl rfl (by decide))⟩ rfl rfl hl.1 rfl (lv_room (Nat.le_of_ble_eq_true rfl)) d_M_within_23 ⟨by decide, by decide⟩) hP hD hS hA [] [0, 1] rfl rfl (by decide) (by decide) (fun v t w1 H locs ht hW9 hp hP hD hS => ?_) (fun x t w1 H locs ht hW9 hp hP hD hS => by obtain ⟨h9, -⟩ := hp; cases h9)
        obtain ⟨h9, rfl⟩ := hp
        cases h9
        refine W.eq (g2 := F0 m 26 ls [.int (1 : Int32)]) rfl ?_
        refine W.widen (k := 0) (n := 0) (by decide) (by decide) ?_
        have hP : va_P D kl [(m0, .inr (7, [.int th, .int (nI zs), .int rn, .ref rw, .int kn, .int rk, .int y1, .ref ry, .int sp, .int lg, .ref ti, .int fo, .int pt, .ref po, .ref su, .ref sq, .ref ch, .ref vt, .ref sh])), (vt, .inl (cI, 4, .inl vf))] H := hP
        have hD : va_D A [(m0, .inr (7, [.int th, .int (nI zs), .int rn, .ref rw, .int kn, .int rk, .int y1, .ref ry, .int sp, .int lg, .ref ti, .int fo, .int pt, .ref po, .ref su, .ref sq, .ref ch, .ref vt, .ref sh])), (vt, .inl (cI, 4, .inl vf))] := hD
        refine lv_if_eq (tgt := 33) hx hb d_M_within_26 (by decide) (fun h99 => absurd h99 (by decide)) (fun _ => ?_)
        refine lv_iconst (v := (1 : Int32)) hx hb d_M_within_29 (by decide) ?_
        refine lv_goto (tgt := 34) hx hb d_M_within_30 (by decide) ?_
        refine lv_istore_n (lv' := [(2, .int (1 : Int32)), (3, .int (nI k)), (0, .ref m0), (1, .int r)]) hx hb d_M_within_34 rfl hl (by decide) rfl (fun ls hl => ?_)
        refine lv_iinc (lv' := [(3, .int (nI (k + 1))), (2, .int (1 : Int32)), (0, .ref m0), (1, .int r)]) (k := 1) (v := nI (k + 1)) hx hb d_M_within_35 hl rfl (nI_add k 1) (by decide) rfl (fun ls hl => ?_)
        refine lv_goto (tgt := 4) hx hb d_M_within_38 (by decide) ?_
        exact ih_4 _ (by omega) (k + 1) ls H locs rfl (by omega) (lv_sub hl [0, 1, 2, 3] rfl) (hP.sub [0, 1] rfl) (hD.sub [0, 1] (by decide) rfl) hS
  exact lp_4 _ 0 ls s.heap [] rfl (Nat.zero_le _) (lv_sub hl [0, 1, 2, 3] rfl) (hP.sub [0, 1] rfl) (hD.sub [0, 1] (by decide) rfl) hS

set_option maxHeartbeats 4000000 in
set_option maxRecDepth 100000 in
theorem c_M_within_n {l : Launch} {s0 : State} {b0 : Addr} {D : va_G} {cI cJ cZ : ClassId} {tC tS : Nat} (E : gE l s0 b0 D cI cJ cZ tC tS) (sz : Nat) (m0 : Nat) (rw : Nat) (ry : Nat) (ti : Nat) (po : Nat) (su : Nat) (sq : Nat) (ch : Nat) (vt : Nat) (sh : Nat) (th : Int32) (rn : Int32) (kn : Int32) (rk : Int32) (y1 : Int32) (sp : Int32) (lg : Int32) (fo : Int32) (pt : Int32) (zs : Nat) (vf : Nat → Int32) (r : Int32) (hz : zs ≤ 4) (h : ¬ (∀ k, k < zs → inw r (vf k) = true)) : cx_M l s0 D kl y_M_within b_M_within 4 (some .boolean) ({ frames := 1, cells := 0, slots := 0, locals := 21 } : Room) 0 0 [.ref m0, .int r] [(m0, .inr (7, [.int th, .int (nI zs), .int rn, .ref rw, .int kn, .int rk, .int y1, .ref ry, .int sp, .int lg, .ref ti, .int fo, .int pt, .ref po, .ref su, .ref sq, .ref ch, .ref vt, .ref sh])), (vt, .inl (cI, 4, .inl vf))] sz (fun o9 _ w9 => o9 = .returned (some (.int (0 : Int32))) ∧ w9 = [(m0, .inr (7, [.int th, .int (nI zs), .int rn, .ref rw, .int kn, .int rk, .int y1, .ref ry, .int sp, .int lg, .ref ti, .int fo, .int pt, .ref po, .ref su, .ref sq, .ref ch, .ref vt, .ref sh])), (vt, .inl (cI, 4, .inl vf))]) := by
  refine tx_ofW (cc := b_M_within) (maxL := 4) (ret := (some .boolean)) (by decide) rfl ?_
  intro p e s m args below meth c s₁ B hml hT hv
  obtain ⟨rfl, hsz, hP, hD0, hx0⟩ := hv
  have hx := B.exec
  have hb := B.bytes
  have hr := B.returns
  have G := E.2.1
  have hown : s.vm.findClass cn_M = some m.cls := findClass_of_methodNamed B.named
  have hlocks := B.notSynchronized
  have hK := va_K.moved hx0.1.alike E.2.2.1
  have hf_M : ∀ w99 ∈ u_ws cn_M ft_M 19, w99.before ([.ref m0, .int r] : List Value).toArray s = true := fun w99 h99 => gw.at G hx0 (fw_M w99 h99) (fo_M w99 h99) _
  subst hsz
  have hA0 := cx_new hD0 hx0.2.1
  have hD := hD0.self (sz := s.heap.size)
  generalize hAe : va_A [(m0, .inr (7, [.int th, .int (nI zs), .int rn, .ref rw, .int kn, .int rk, .int y1, .ref ry, .int sp, .int lg, .ref ti, .int fo, .int pt, .ref po, .ref su, .ref sq, .ref ch, .ref vt, .ref sh])), (vt, .inl (cI, 4, .inl vf))] s.heap.size = A at hD hA0 ⊢
  have hA : ∀ q : Nat, s.heap.size ≤ q → A q := fun q h => by rw [← hAe]; exact Or.inr h
  have hS : va_S A s.heap s.heap [] := va_S.rf
  have hl := lv_entry ([.ref m0, .int r]) (n := 4) (Nat.le_of_ble_eq_true rfl)
  rw [lg_entry_eq]
  generalize (lg_sl ([.ref m0, .int r]) ++ List.replicate (4 - (lg_sl ([.ref m0, .int r])).length) Slot.unset).toArray = ls at hl ⊢
  have hl : lv_has ls 4 [(0, .ref m0), (1, .int r)] := hl
  have hP : va_P D kl [(m0, .inr (7, [.int th, .int (nI zs), .int rn, .ref rw, .int kn, .int rk, .int y1, .ref ry, .int sp, .int lg, .ref ti, .int fo, .int pt, .ref po, .ref su, .ref sq, .ref ch, .ref vt, .ref sh])), (vt, .inl (cI, 4, .inl vf))] s.heap := hP
  have hml : c.maxLocals = 4 := hml
  generalize hQe : tx_Z below (cx_Q D kl A (fun o9 _ w9 => o9 = .returned (some (.int (0 : Int32))) ∧ w9 = [(m0, .inr (7, [.int th, .int (nI zs), .int rn, .ref rw, .int kn, .int rk, .int y1, .ref ry, .int sp, .int lg, .ref ti, .int fo, .int pt, .ref po, .ref su, .ref sq, .ref ch, .ref vt, .ref sh])), (vt, .inl (cI, 4, .inl vf))])) ([.ref m0, .int r] : List Value).toArray s 0 0 A = Q
  refine lv_iconst (v := (1 : Int32)) hx hb d_M_within_0 (by decide) ?_
  refine lv_istore_n (lv' := [(2, .int (1 : Int32)), (0, .ref m0), (1, .int r)]) hx hb d_M_within_1 rfl hl (by decide) rfl (fun ls hl => ?_)
  refine lv_iconst (v := (0 : Int32)) hx hb d_M_within_2 (by decide) ?_
  refine lv_istore_n (lv' := [(3, .int (0 : Int32)), (2, .int (1 : Int32)), (0, .ref m0), (1, .int r)]) hx hb d_M_within_3 rfl hl (by decide) rfl (fun ls hl => ?_)
  have lp_4 : ∀ (n9 : Nat) (k : Nat) (v : Int32) (ls : Array Slot) (H : Heap) (locs : List Loc), zs - k = n9 → (k ≤ zs) → ((v = 1 ∧ ∀ q9, q9 < k → inw r (vf q9) = true) ∨ v = 0) → lv_has ls 4 [(3, .int (nI k)), (2, .int v), (0, .ref m0), (1, .int r)] → va_P D kl [(m0, .inr (7, [.int th, .int (nI zs), .int rn, .ref rw, .int kn, .int rk, .int y1, .ref ry, .int sp, .int lg, .ref ti, .int fo, .int pt, .ref po, .ref su, .ref sq, .ref ch, .ref vt, .ref sh])), (vt, .inl (cI, 4, .inl vf))] H → va_D A [(m0, .inr (7, [.int th, .int (nI zs), .int rn, .ref rw, .int kn, .int rk, .int y1, .ref ry, .int sp, .int lg, .ref ti, .int fo, .int pt, .ref po, .ref su, .ref sq, .ref ch, .ref vt, .ref sh])), (vt, .inl (cI, 4, .inl vf))] → va_S A s.heap H locs → W p l e ({ frames := 1, cells := 0, slots := 0, locals := 21 } : Room) s m ([.ref m0, .int r] : List Value).toArray below meth c H locs 0 0 Q (F0 m 4 ls []) := by
    intro n9
    induction n9 using Nat.strongRecOn with
    | ind n9 ih_4 =>
      intro k v ls H locs hm_4 hk9 hv9 hl hP hD hS
      refine lv_iload_n hx hb d_M_within_4 rfl (lv_at hl 0 rfl) ?_
      refine lv_aload_n hx hb d_M_within_5 rfl (lv_at hl 2 rfl) ?_
      refine va_get (D := D) (ci := 7) (v := .int (nI zs)) (C := cn_M) (T := ft_M) (N := 19) hx hb hf_M (fun _ h => h) hown hK hP 0 rfl rfl 1 (by decide) (gw.at G hx0 mw_714 rfl _) (fun _ h9 => h9) rfl d_M_within_6 ?_
      refine lv_icmp_ge (tgt := 41) hx hb d_M_within_9 (by decide) (fun h_1 => ?_) (fun h_1 => ?_)
      · have h_1 : zs ≤ k := (nI_leI (a := zs) (b := k) (by omega) (by omega)).mp h_1
        refine lv_iload_n hx hb d_M_within_41 rfl (lv_at hl 1 rfl) ?_
        have hk8 : k = zs := by omega
        refine tp_i (y := (0 : Int32)) (hv9.elim (fun z9 => absurd (hk8 ▸ z9.2) h) id) ?_
        rw [← hQe]
        exact tx_mono (fun _ h => tx_Z.of h) (W.zret (v := (0 : Int32)) hx hb hr (by decide) (fun t ht hW => ⟨⟨[(m0, .inr (7, [.int th, .int (nI zs), .int rn, .ref rw, .int kn, .int rk, .int y1, .ref ry, .int sp, .int lg, .ref ti, .int fo, .int pt, .ref po, .ref su, .ref sq, .ref ch, .ref vt, .ref sh])), (vt, .inl (cI, 4, .inl vf))], ⟨rfl, rfl⟩, by rw [ht]; exact hP.sub [0, 1] rfl, hD.sub [0, 1] (by decide) rfl⟩, hS.F ht⟩) hS.2.2 d_M_within_42)
      · have h_1 : ¬ (zs ≤ k) := fun z99 => h_1 ((nI_leI (a := zs) (b := k) (by omega) (by omega)).mpr z99)
        refine lv_iload_n hx hb d_M_within_12 rfl (lv_at hl 1 rfl) ?_
        refine lv_if_eq (tgt := 33) hx hb d_M_within_13 (by decide) (fun h_2 => ?_) (fun h_2 => ?_)
        · refine lv_iconst (v := (0 : Int32)) hx hb d_M_within_33 (by decide) ?_
          refine lv_istore_n (lv' := [(2, .int (0 : Int32)), (3, .int (nI k)), (0, .ref m0), (1, .int r)]) hx hb d_M_within_34 rfl hl (by decide) rfl (fun ls hl => ?_)
          refine lv_iinc (lv' := [(3, .int (nI (k + 1))), (2, .int (0 : Int32)), (0, .ref m0), (1, .int r)]) (k := 1) (v := nI (k + 1)) hx hb d_M_within_35 hl rfl (nI_add k 1) (by decide) rfl (fun ls hl => ?_)
          refine lv_goto (tgt := 4) hx hb d_M_within_38 (by decide) ?_
          exact ih_4 _ (by omega) (k + 1) 0 ls H locs rfl (by omega) (Or.inr rfl) (lv_sub hl [0, 1, 2, 3] rfl) (hP.sub [0, 1] rfl) (hD.sub [0, 1] (by decide) rfl) hS
        · refine lv_aload_n hx hb d_M_within_16 rfl (lv_at hl 2 rfl) ?_
          refine va_get (D := D) (ci := 7) (v := .ref vt) (C := cn_M) (T := ft_M) (N := 19) hx hb hf_M (fun _ h => h) hown hK hP 0 rfl rfl 17 (by decide) (gw.at G hx0 mw_730 rfl _) (fun _ h9 => h9) rfl d_M_within_17 ?_
          refine lv_iload_n hx hb d_M_within_20 rfl (lv_at hl 0 rfl) ?_
          refine va_iald hx hb hK hP 1 0 rfl rfl (vp_in_nI (n := k) (by omega) (by omega)) d_M_within_21 ?_
          refine tp_i (y := vf k) (congrArg vf (nI_clamp (n := k) (by omega))) ?_
          refine lv_iload_n hx hb d_M_within_22 rfl (lv_at hl 3 rfl) ?_
          by_cases h_3 : inw r (vf k) = true
          · refine cx_call (D := D) (cl := kl) (ws := _) (wc := []) (wr := [(m0, .inr (7, [.int th, .int (nI zs), .int rn, .ref rw, .int kn, .int rk, .int y1, .ref ry, .int sp, .int lg, .ref ti, .int fo, .int pt, .ref po, .ref su, .ref sq, .ref ch, .ref vt, .ref sh])), (vt, .inl (cI, 4, .inl vf))]) (tx_runS (As := [.int (vf k), .int r]) (rest := []) hx hb hml hown (c_M_in_y E H.size (vf k) r h_3) (cx_C (b0 := b0) G hx0 mw_790 mw_9 ny_M_in (by decide)) (gw.at G hx0 mw_788 rfl _) (gw.at G hx0 mw_789 rfl _) (gw.at G hx0 mw_9 rfl _) ⟨cx_blind, (cx_pre (s := s) hx0 hP hD hS hA0 [] rfl rfl (by decide))⟩ rfl rfl hl.1 rfl (lv_room (Nat.le_of_ble_eq_true rfl)) d_M_within_23 ⟨by decide, by decide⟩) hP hD hS hA [] [0, 1] rfl rfl (by decide) (by decide) (fun v t w1 H locs ht hW9 hp hP hD hS => ?_) (fun x t w1 H locs ht hW9 hp hP hD hS => by obtain ⟨h9, -⟩ := hp; cases h9)
            obtain ⟨h9, rfl⟩ := hp
            cases h9
            refine W.eq (g2 := F0 m 26 ls [.int (1 : Int32)]) rfl ?_
            refine W.widen (k := 0) (n := 0) (by decide) (by decide) ?_
            have hP : va_P D kl [(m0, .inr (7, [.int th, .int (nI zs), .int rn, .ref rw, .int kn, .int rk, .int y1, .ref ry, .int sp, .int lg, .ref ti, .int fo, .int pt, .ref po, .ref su, .ref sq, .ref ch, .ref vt, .ref sh])), (vt, .inl (cI, 4, .inl vf))] H := hP
            have hD : va_D A [(m0, .inr (7, [.int th, .int (nI zs), .int rn, .ref rw, .int kn, .int rk, .int y1, .ref ry, .int sp, .int lg, .ref ti, .int fo, .int pt, .ref po, .ref su, .ref sq, .ref ch, .ref vt, .ref sh])), (vt, .inl (cI, 4, .inl vf))] := hD
            refine lv_if_eq (tgt := 33) hx hb d_M_within_26 (by decide) (fun h99 => absurd h99 (by decide)) (fun _ => ?_)
            refine lv_iconst (v := (1 : Int32)) hx hb d_M_within_29 (by decide) ?_
            refine lv_goto (tgt := 34) hx hb d_M_within_30 (by decide) ?_
            refine lv_istore_n (lv' := [(2, .int (1 : Int32)), (3, .int (nI k)), (0, .ref m0), (1, .int r)]) hx hb d_M_within_34 rfl hl (by decide) rfl (fun ls hl => ?_)
            refine lv_iinc (lv' := [(3, .int (nI (k + 1))), (2, .int (1 : Int32)), (0, .ref m0), (1, .int r)]) (k := 1) (v := nI (k + 1)) hx hb d_M_within_35 hl rfl (nI_add k 1) (by decide) rfl (fun ls hl => ?_)
            refine lv_goto (tgt := 4) hx hb d_M_within_38 (by decide) ?_
            exact ih_4 _ (by omega) (k + 1) 1 ls H locs rfl (by omega) (Or.inl ⟨rfl, fun q9 hq9 => (Nat.lt_succ_iff_lt_or_eq.mp hq9).elim ((hv9.elim id (fun z9 => absurd z9 h_2)).2 q9) (fun e9 => by rw [e9]; exact h_3)⟩) (lv_sub hl [0, 1, 2, 3] rfl) (hP.sub [0, 1] rfl) (hD.sub [0, 1] (by decide) rfl) hS
          · refine cx_call (D := D) (cl := kl) (ws := _) (wc := []) (wr := [(m0, .inr (7, [.int th, .int (nI zs), .int rn, .ref rw, .int kn, .int rk, .int y1, .ref ry, .int sp, .int lg, .ref ti, .int fo, .int pt, .ref po, .ref su, .ref sq, .ref ch, .ref vt, .ref sh])), (vt, .inl (cI, 4, .inl vf))]) (tx_runS (As := [.int (vf k), .int r]) (rest := []) hx hb hml hown (c_M_in_n E H.size (vf k) r h_3) (cx_C (b0 := b0) G hx0 mw_790 mw_9 ny_M_in (by decide)) (gw.at G hx0 mw_788 rfl _) (gw.at G hx0 mw_789 rfl _) (gw.at G hx0 mw_9 rfl _) ⟨cx_blind, (cx_pre (s := s) hx0 hP hD hS hA0 [] rfl rfl (by decide))⟩ rfl rfl hl.1 rfl (lv_room (Nat.le_of_ble_eq_true rfl)) d_M_within_23 ⟨by decide, by decide⟩) hP hD hS hA [] [0, 1] rfl rfl (by decide) (by decide) (fun v t w1 H locs ht hW9 hp hP hD hS => ?_) (fun x t w1 H locs ht hW9 hp hP hD hS => by obtain ⟨h9, -⟩ := hp; cases h9)
            obtain ⟨h9, rfl⟩ := hp
            cases h9
            refine W.eq (g2 := F0 m 26 ls [.int (0 : Int32)]) rfl ?_
            refine W.widen (k := 0) (n := 0) (by decide) (by decide) ?_
            have hP : va_P D kl [(m0, .inr (7, [.int th, .int (nI zs), .int rn, .ref rw, .int kn, .int rk, .int y1, .ref ry, .int sp, .int lg, .ref ti, .int fo, .int pt, .ref po, .ref su, .ref sq, .ref ch, .ref vt, .ref sh])), (vt, .inl (cI, 4, .inl vf))] H := hP
            have hD : va_D A [(m0, .inr (7, [.int th, .int (nI zs), .int rn, .ref rw, .int kn, .int rk, .int y1, .ref ry, .int sp, .int lg, .ref ti, .int fo, .int pt, .ref po, .ref su, .ref sq, .ref ch, .ref vt, .ref sh])), (vt, .inl (cI, 4, .inl vf))] := hD
            refine lv_if_eq (tgt := 33) hx hb d_M_within_26 (by decide) (fun _ => ?_) (fun h99 => absurd h99 (by decide))
            refine lv_iconst (v := (0 : Int32)) hx hb d_M_within_33 (by decide) ?_
            refine lv_istore_n (lv' := [(2, .int (0 : Int32)), (3, .int (nI k)), (0, .ref m0), (1, .int r)]) hx hb d_M_within_34 rfl hl (by decide) rfl (fun ls hl => ?_)
            refine lv_iinc (lv' := [(3, .int (nI (k + 1))), (2, .int (0 : Int32)), (0, .ref m0), (1, .int r)]) (k := 1) (v := nI (k + 1)) hx hb d_M_within_35 hl rfl (nI_add k 1) (by decide) rfl (fun ls hl => ?_)
            refine lv_goto (tgt := 4) hx hb d_M_within_38 (by decide) ?_
            exact ih_4 _ (by omega) (k + 1) 0 ls H locs rfl (by omega) (Or.inr rfl) (lv_sub hl [0, 1, 2, 3] rfl) (hP.sub [0, 1] rfl) (hD.sub [0, 1] (by decide) rfl) hS
  exact lp_4 _ 0 1 ls s.heap [] rfl (Nat.zero_le _) (Or.inl ⟨rfl, fun q9 hq9 => absurd hq9 (Nat.not_lt_zero q9)⟩) (lv_sub hl [0, 1, 2, 3] rfl) (hP.sub [0, 1] rfl) (hD.sub [0, 1] (by decide) rfl) hS

def all4 (a b c d : Int32) : Prop := a = 0 ∧ b = 0 ∧ c = 0 ∧ d = 0
set_option maxHeartbeats 4000000 in
set_option maxRecDepth 100000 in
theorem c_M_nothing_y {l : Launch} {s0 : State} {b0 : Addr} {D : va_G} {cI cJ cZ : ClassId} {tC tS : Nat} (E : gE l s0 b0 D cI cJ cZ tC tS) (sz : Nat) (m0 : Nat) (rw : Nat) (ry : Nat) (ti : Nat) (po : Nat) (su : Nat) (sq : Nat) (ch : Nat) (vt : Nat) (sh : Nat) (th : Int32) (zz : Int32) (rn : Int32) (kn : Int32) (rk : Int32) (y1 : Int32) (sp : Int32) (lg : Int32) (fo : Int32) (pt : Int32) (vf : Nat → Int32) (h : all4 (vf 0) (vf 1) (vf 2) (vf 3)) : cx_M l s0 D kl y_M_nothing b_M_nothing 1 (some .boolean) ({ frames := 0, cells := 0, slots := 0, locals := 0 } : Room) 0 0 [.ref m0] [(m0, .inr (7, [.int th, .int zz, .int rn, .ref rw, .int kn, .int rk, .int y1, .ref ry, .int sp, .int lg, .ref ti, .int fo, .int pt, .ref po, .ref su, .ref sq, .ref ch, .ref vt, .ref sh])), (vt, .inl (cI, 4, .inl vf))] sz (fun o9 _ w9 => o9 = .returned (some (.int (1 : Int32))) ∧ w9 = [(m0, .inr (7, [.int th, .int zz, .int rn, .ref rw, .int kn, .int rk, .int y1, .ref ry, .int sp, .int lg, .ref ti, .int fo, .int pt, .ref po, .ref su, .ref sq, .ref ch, .ref vt, .ref sh])), (vt, .inl (cI, 4, .inl vf))]) := by
  refine tx_ofW (cc := b_M_nothing) (maxL := 1) (ret := (some .boolean)) (by decide) rfl ?_
  intro p e s m args below meth c s₁ B hml hT hv
  obtain ⟨rfl, hsz, hP, hD0, hx0⟩ := hv
  have hx := B.exec
  have hb := B.bytes
  have hr := B.returns
  have G := E.2.1
  have hown : s.vm.findClass cn_M = some m.cls := findClass_of_methodNamed B.named
  have hlocks := B.notSynchronized
  have hK := va_K.moved hx0.1.alike E.2.2.1
  have hf_M : ∀ w99 ∈ u_ws cn_M ft_M 19, w99.before ([.ref m0] : List Value).toArray s = true := fun w99 h99 => gw.at G hx0 (fw_M w99 h99) (fo_M w99 h99) _
  subst hsz
  have hA0 := cx_new hD0 hx0.2.1
  have hD := hD0.self (sz := s.heap.size)
  generalize hAe : va_A [(m0, .inr (7, [.int th, .int zz, .int rn, .ref rw, .int kn, .int rk, .int y1, .ref ry, .int sp, .int lg, .ref ti, .int fo, .int pt, .ref po, .ref su, .ref sq, .ref ch, .ref vt, .ref sh])), (vt, .inl (cI, 4, .inl vf))] s.heap.size = A at hD hA0 ⊢
  have hA : ∀ q : Nat, s.heap.size ≤ q → A q := fun q h => by rw [← hAe]; exact Or.inr h
  have hS : va_S A s.heap s.heap [] := va_S.rf
  have hl := lv_entry ([.ref m0]) (n := 1) (Nat.le_of_ble_eq_true rfl)
  rw [lg_entry_eq]
  generalize (lg_sl ([.ref m0]) ++ List.replicate (1 - (lg_sl ([.ref m0])).length) Slot.unset).toArray = ls at hl ⊢
  have hl : lv_has ls 1 [(0, .ref m0)] := hl
  have hP : va_P D kl [(m0, .inr (7, [.int th, .int zz, .int rn, .ref rw, .int kn, .int rk, .int y1, .ref ry, .int sp, .int lg, .ref ti, .int fo, .int pt, .ref po, .ref su, .ref sq, .ref ch, .ref vt, .ref sh])), (vt, .inl (cI, 4, .inl vf))] s.heap := hP
  have hml : c.maxLocals = 1 := hml
  refine lv_aload_n hx hb d_M_nothing_0 rfl (lv_at hl 0 rfl) ?_
  refine va_get (D := D) (ci := 7) (v := .ref vt) (C := cn_M) (T := ft_M) (N := 19) hx hb hf_M (fun _ h => h) hown hK hP 0 rfl rfl 17 (by decide) (gw.at G hx0 mw_730 rfl _) (fun _ h9 => h9) rfl d_M_nothing_1 ?_
  refine lv_iconst (v := (0 : Int32)) hx hb d_M_nothing_4 (by decide) ?_
  refine va_iald hx hb hK hP 1 0 rfl rfl (vp_in_iff.mpr (by decide)) d_M_nothing_5 ?_
  refine tp_i (y := vf 0) (by rfl) ?_
  refine lv_if_ne (tgt := 40) hx hb d_M_nothing_6 (by decide) (fun h99 => absurd h99 (not_not_intro h.1)) (fun _ => ?_)
  refine lv_aload_n hx hb d_M_nothing_9 rfl (lv_at hl 0 rfl) ?_
  refine va_get (D := D) (ci := 7) (v := .ref vt) (C := cn_M) (T := ft_M) (N := 19) hx hb hf_M (fun _ h => h) hown hK hP 0 rfl rfl 17 (by decide) (gw.at G hx0 mw_730 rfl _) (fun _ h9 => h9) rfl d_M_nothing_10 ?_
  refine lv_iconst (v := (1 : Int32)) hx hb d_M_nothing_13 (by decide) ?_
  refine va_iald hx hb hK hP 1 0 rfl rfl (vp_in_iff.mpr (by decide)) d_M_nothing_14 ?_
  refine tp_i (y := vf 1) (by rfl) ?_
  refine lv_if_ne (tgt := 40) hx hb d_M_nothing_15 (by decide) (fun h99 => absurd h99 (not_not_intro h.2.1)) (fun _ => ?_)
  refine lv_aload_n hx hb d_M_nothing_18 rfl (lv_at hl 0 rfl) ?_
  refine va_get (D := D) (ci := 7) (v := .ref vt) (C := cn_M) (T := ft_M) (N := 19) hx hb hf_M (fun _ h => h) hown hK hP 0 rfl rfl 17 (by decide) (gw.at G hx0 mw_730 rfl _) (fun _ h9 => h9) rfl d_M_nothing_19 ?_
  refine lv_iconst (v := (2 : Int32)) hx hb d_M_nothing_22 (by decide) ?_
  refine va_iald hx hb hK hP 1 0 rfl rfl (vp_in_iff.mpr (by decide)) d_M_nothing_23 ?_
  refine tp_i (y := vf 2) (by rfl) ?_
  refine lv_if_ne (tgt := 40) hx hb d_M_nothing_24 (by decide) (fun h99 => absurd h99 (not_not_intro h.2.2.1)) (fun _ => ?_)
  refine lv_aload_n hx hb d_M_nothing_27 rfl (lv_at hl 0 rfl) ?_
  refine va_get (D := D) (ci := 7) (v := .ref vt) (C := cn_M) (T := ft_M) (N := 19) hx hb hf_M (fun _ h => h) hown hK hP 0 rfl rfl 17 (by decide) (gw.at G hx0 mw_730 rfl _) (fun _ h9 => h9) rfl d_M_nothing_28 ?_
  refine lv_iconst (v := (3 : Int32)) hx hb d_M_nothing_31 (by decide) ?_
  refine va_iald hx hb hK hP 1 0 rfl rfl (vp_in_iff.mpr (by decide)) d_M_nothing_32 ?_
  refine tp_i (y := vf 3) (by rfl) ?_
  refine lv_if_ne (tgt := 40) hx hb d_M_nothing_33 (by decide) (fun h99 => absurd h99 (not_not_intro h.2.2.2)) (fun _ => ?_)
  refine lv_iconst (v := (1 : Int32)) hx hb d_M_nothing_36 (by decide) ?_
  refine lv_goto (tgt := 41) hx hb d_M_nothing_37 (by decide) ?_
  exact tx_mono (fun _ h => tx_Z.of h) (W.zret (v := (1 : Int32)) hx hb hr (by decide) (fun t ht hW => ⟨⟨[(m0, .inr (7, [.int th, .int zz, .int rn, .ref rw, .int kn, .int rk, .int y1, .ref ry, .int sp, .int lg, .ref ti, .int fo, .int pt, .ref po, .ref su, .ref sq, .ref ch, .ref vt, .ref sh])), (vt, .inl (cI, 4, .inl vf))], ⟨rfl, rfl⟩, by rw [ht]; exact hP.sub [0, 1] rfl, hD.sub [0, 1] (by decide) rfl⟩, hS.F ht⟩) hS.2.2 d_M_nothing_41)

set_option maxHeartbeats 4000000 in
set_option maxRecDepth 100000 in
theorem c_M_nothing_n {l : Launch} {s0 : State} {b0 : Addr} {D : va_G} {cI cJ cZ : ClassId} {tC tS : Nat} (E : gE l s0 b0 D cI cJ cZ tC tS) (sz : Nat) (m0 : Nat) (rw : Nat) (ry : Nat) (ti : Nat) (po : Nat) (su : Nat) (sq : Nat) (ch : Nat) (vt : Nat) (sh : Nat) (th : Int32) (zz : Int32) (rn : Int32) (kn : Int32) (rk : Int32) (y1 : Int32) (sp : Int32) (lg : Int32) (fo : Int32) (pt : Int32) (vf : Nat → Int32) (h : ¬ all4 (vf 0) (vf 1) (vf 2) (vf 3)) : cx_M l s0 D kl y_M_nothing b_M_nothing 1 (some .boolean) ({ frames := 0, cells := 0, slots := 0, locals := 0 } : Room) 0 0 [.ref m0] [(m0, .inr (7, [.int th, .int zz, .int rn, .ref rw, .int kn, .int rk, .int y1, .ref ry, .int sp, .int lg, .ref ti, .int fo, .int pt, .ref po, .ref su, .ref sq, .ref ch, .ref vt, .ref sh])), (vt, .inl (cI, 4, .inl vf))] sz (fun o9 _ w9 => o9 = .returned (some (.int (0 : Int32))) ∧ w9 = [(m0, .inr (7, [.int th, .int zz, .int rn, .ref rw, .int kn, .int rk, .int y1, .ref ry, .int sp, .int lg, .ref ti, .int fo, .int pt, .ref po, .ref su, .ref sq, .ref ch, .ref vt, .ref sh])), (vt, .inl (cI, 4, .inl vf))]) := by
  refine tx_ofW (cc := b_M_nothing) (maxL := 1) (ret := (some .boolean)) (by decide) rfl ?_
  intro p e s m args below meth c s₁ B hml hT hv
  obtain ⟨rfl, hsz, hP, hD0, hx0⟩ := hv
  have hx := B.exec
  have hb := B.bytes
  have hr := B.returns
  have G := E.2.1
  have hown : s.vm.findClass cn_M = some m.cls := findClass_of_methodNamed B.named
  have hlocks := B.notSynchronized
  have hK := va_K.moved hx0.1.alike E.2.2.1
  have hf_M : ∀ w99 ∈ u_ws cn_M ft_M 19, w99.before ([.ref m0] : List Value).toArray s = true := fun w99 h99 => gw.at G hx0 (fw_M w99 h99) (fo_M w99 h99) _
  subst hsz
  have hA0 := cx_new hD0 hx0.2.1
  have hD := hD0.self (sz := s.heap.size)
  generalize hAe : va_A [(m0, .inr (7, [.int th, .int zz, .int rn, .ref rw, .int kn, .int rk, .int y1, .ref ry, .int sp, .int lg, .ref ti, .int fo, .int pt, .ref po, .ref su, .ref sq, .ref ch, .ref vt, .ref sh])), (vt, .inl (cI, 4, .inl vf))] s.heap.size = A at hD hA0 ⊢
  have hA : ∀ q : Nat, s.heap.size ≤ q → A q := fun q h => by rw [← hAe]; exact Or.inr h
  have hS : va_S A s.heap s.heap [] := va_S.rf
  have hl := lv_entry ([.ref m0]) (n := 1) (Nat.le_of_ble_eq_true rfl)
  rw [lg_entry_eq]
  generalize (lg_sl ([.ref m0]) ++ List.replicate (1 - (lg_sl ([.ref m0])).length) Slot.unset).toArray = ls at hl ⊢
  have hl : lv_has ls 1 [(0, .ref m0)] := hl
  have hP : va_P D kl [(m0, .inr (7, [.int th, .int zz, .int rn, .ref rw, .int kn, .int rk, .int y1, .ref ry, .int sp, .int lg, .ref ti, .int fo, .int pt, .ref po, .ref su, .ref sq, .ref ch, .ref vt, .ref sh])), (vt, .inl (cI, 4, .inl vf))] s.heap := hP
  have hml : c.maxLocals = 1 := hml
  refine lv_aload_n hx hb d_M_nothing_0 rfl (lv_at hl 0 rfl) ?_
  refine va_get (D := D) (ci := 7) (v := .ref vt) (C := cn_M) (T := ft_M) (N := 19) hx hb hf_M (fun _ h => h) hown hK hP 0 rfl rfl 17 (by decide) (gw.at G hx0 mw_730 rfl _) (fun _ h9 => h9) rfl d_M_nothing_1 ?_
  refine lv_iconst (v := (0 : Int32)) hx hb d_M_nothing_4 (by decide) ?_
  refine va_iald hx hb hK hP 1 0 rfl rfl (vp_in_iff.mpr (by decide)) d_M_nothing_5 ?_
  refine tp_i (y := vf 0) (by rfl) ?_
  refine lv_if_ne (tgt := 40) hx hb d_M_nothing_6 (by decide) (fun h_1 => ?_) (fun h_1 => ?_)
  · refine lv_iconst (v := (0 : Int32)) hx hb d_M_nothing_40 (by decide) ?_
    exact tx_mono (fun _ h => tx_Z.of h) (W.zret (v := (0 : Int32)) hx hb hr (by decide) (fun t ht hW => ⟨⟨[(m0, .inr (7, [.int th, .int zz, .int rn, .ref rw, .int kn, .int rk, .int y1, .ref ry, .int sp, .int lg, .ref ti, .int fo, .int pt, .ref po, .ref su, .ref sq, .ref ch, .ref vt, .ref sh])), (vt, .inl (cI, 4, .inl vf))], ⟨rfl, rfl⟩, by rw [ht]; exact hP.sub [0, 1] rfl, hD.sub [0, 1] (by decide) rfl⟩, hS.F ht⟩) hS.2.2 d_M_nothing_41)
  · refine lv_aload_n hx hb d_M_nothing_9 rfl (lv_at hl 0 rfl) ?_
    refine va_get (D := D) (ci := 7) (v := .ref vt) (C := cn_M) (T := ft_M) (N := 19) hx hb hf_M (fun _ h => h) hown hK hP 0 rfl rfl 17 (by decide) (gw.at G hx0 mw_730 rfl _) (fun _ h9 => h9) rfl d_M_nothing_10 ?_
    refine lv_iconst (v := (1 : Int32)) hx hb d_M_nothing_13 (by decide) ?_
    refine va_iald hx hb hK hP 1 0 rfl rfl (vp_in_iff.mpr (by decide)) d_M_nothing_14 ?_
    refine tp_i (y := vf 1) (by rfl) ?_
    refine lv_if_ne (tgt := 40) hx hb d_M_nothing_15 (by decide) (fun h_2 => ?_) (fun h_2 => ?_)
    · refine lv_iconst (v := (0 : Int32)) hx hb d_M_nothing_40 (by decide) ?_
      exact tx_mono (fun _ h => tx_Z.of h) (W.zret (v := (0 : Int32)) hx hb hr (by decide) (fun t ht hW => ⟨⟨[(m0, .inr (7, [.int th, .int zz, .int rn, .ref rw, .int kn, .int rk, .int y1, .ref ry, .int sp, .int lg, .ref ti, .int fo, .int pt, .ref po, .ref su, .ref sq, .ref ch, .ref vt, .ref sh])), (vt, .inl (cI, 4, .inl vf))], ⟨rfl, rfl⟩, by rw [ht]; exact hP.sub [0, 1] rfl, hD.sub [0, 1] (by decide) rfl⟩, hS.F ht⟩) hS.2.2 d_M_nothing_41)
    · refine lv_aload_n hx hb d_M_nothing_18 rfl (lv_at hl 0 rfl) ?_
      refine va_get (D := D) (ci := 7) (v := .ref vt) (C := cn_M) (T := ft_M) (N := 19) hx hb hf_M (fun _ h => h) hown hK hP 0 rfl rfl 17 (by decide) (gw.at G hx0 mw_730 rfl _) (fun _ h9 => h9) rfl d_M_nothing_19 ?_
      refine lv_iconst (v := (2 : Int32)) hx hb d_M_nothing_22 (by decide) ?_
      refine va_iald hx hb hK hP 1 0 rfl rfl (vp_in_iff.mpr (by decide)) d_M_nothing_23 ?_
      refine tp_i (y := vf 2) (by rfl) ?_
      refine lv_if_ne (tgt := 40) hx hb d_M_nothing_24 (by decide) (fun h_3 => ?_) (fun h_3 => ?_)
      · refine lv_iconst (v := (0 : Int32)) hx hb d_M_nothing_40 (by decide) ?_
        exact tx_mono (fun _ h => tx_Z.of h) (W.zret (v := (0 : Int32)) hx hb hr (by decide) (fun t ht hW => ⟨⟨[(m0, .inr (7, [.int th, .int zz, .int rn, .ref rw, .int kn, .int rk, .int y1, .ref ry, .int sp, .int lg, .ref ti, .int fo, .int pt, .ref po, .ref su, .ref sq, .ref ch, .ref vt, .ref sh])), (vt, .inl (cI, 4, .inl vf))], ⟨rfl, rfl⟩, by rw [ht]; exact hP.sub [0, 1] rfl, hD.sub [0, 1] (by decide) rfl⟩, hS.F ht⟩) hS.2.2 d_M_nothing_41)
      · refine lv_aload_n hx hb d_M_nothing_27 rfl (lv_at hl 0 rfl) ?_
        refine va_get (D := D) (ci := 7) (v := .ref vt) (C := cn_M) (T := ft_M) (N := 19) hx hb hf_M (fun _ h => h) hown hK hP 0 rfl rfl 17 (by decide) (gw.at G hx0 mw_730 rfl _) (fun _ h9 => h9) rfl d_M_nothing_28 ?_
        refine lv_iconst (v := (3 : Int32)) hx hb d_M_nothing_31 (by decide) ?_
        refine va_iald hx hb hK hP 1 0 rfl rfl (vp_in_iff.mpr (by decide)) d_M_nothing_32 ?_
        refine tp_i (y := vf 3) (by rfl) ?_
        refine lv_if_ne (tgt := 40) hx hb d_M_nothing_33 (by decide) (fun h_4 => ?_) (fun h_4 => ?_)
        · refine lv_iconst (v := (0 : Int32)) hx hb d_M_nothing_40 (by decide) ?_
          exact tx_mono (fun _ h => tx_Z.of h) (W.zret (v := (0 : Int32)) hx hb hr (by decide) (fun t ht hW => ⟨⟨[(m0, .inr (7, [.int th, .int zz, .int rn, .ref rw, .int kn, .int rk, .int y1, .ref ry, .int sp, .int lg, .ref ti, .int fo, .int pt, .ref po, .ref su, .ref sq, .ref ch, .ref vt, .ref sh])), (vt, .inl (cI, 4, .inl vf))], ⟨rfl, rfl⟩, by rw [ht]; exact hP.sub [0, 1] rfl, hD.sub [0, 1] (by decide) rfl⟩, hS.F ht⟩) hS.2.2 d_M_nothing_41)
        · refine lv_iconst (v := (1 : Int32)) hx hb d_M_nothing_36 (by decide) ?_
          refine lv_goto (tgt := 41) hx hb d_M_nothing_37 (by decide) ?_
          exact absurd ⟨h_1, h_2, h_3, h_4⟩ h

set_option maxHeartbeats 4000000 in
set_option maxRecDepth 100000 in
theorem c_M_thrown {l : Launch} {s0 : State} {b0 : Addr} {D : va_G} {cI cJ cZ : ClassId} {tC tS : Nat} (E : gE l s0 b0 D cI cJ cZ tC tS) (sz : Nat) (m0 : Nat) (rw : Nat) (ry : Nat) (ti : Nat) (po : Nat) (su : Nat) (sq : Nat) (ch : Nat) (vt : Nat) (sh : Nat) (th : Int32) (zz : Int32) (rn : Int32) (kn : Int32) (rk : Int32) (y1 : Int32) (sp : Int32) (lg : Int32) (fo : Int32) (pt : Int32) : cx_M l s0 D kl y_M_thrown b_M_thrown 1 (some .int) ({ frames := 0, cells := 0, slots := 0, locals := 0 } : Room) 0 0 [.ref m0] [(m0, .inr (7, [.int th, .int zz, .int rn, .ref rw, .int kn, .int rk, .int y1, .ref ry, .int sp, .int lg, .ref ti, .int fo, .int pt, .ref po, .ref su, .ref sq, .ref ch, .ref vt, .ref sh]))] sz (fun o9 _ w9 => o9 = .returned (some (.int th)) ∧ w9 = [(m0, .inr (7, [.int th, .int zz, .int rn, .ref rw, .int kn, .int rk, .int y1, .ref ry, .int sp, .int lg, .ref ti, .int fo, .int pt, .ref po, .ref su, .ref sq, .ref ch, .ref vt, .ref sh]))]) := by
  refine tx_ofW (cc := b_M_thrown) (maxL := 1) (ret := (some .int)) (by decide) rfl ?_
  intro p e s m args below meth c s₁ B hml hT hv
  obtain ⟨rfl, hsz, hP, hD0, hx0⟩ := hv
  have hx := B.exec
  have hb := B.bytes
  have hr := B.returns
  have G := E.2.1
  have hown : s.vm.findClass cn_M = some m.cls := findClass_of_methodNamed B.named
  have hlocks := B.notSynchronized
  have hK := va_K.moved hx0.1.alike E.2.2.1
  have hf_M : ∀ w99 ∈ u_ws cn_M ft_M 19, w99.before ([.ref m0] : List Value).toArray s = true := fun w99 h99 => gw.at G hx0 (fw_M w99 h99) (fo_M w99 h99) _
  subst hsz
  have hA0 := cx_new hD0 hx0.2.1
  have hD := hD0.self (sz := s.heap.size)
  generalize hAe : va_A [(m0, .inr (7, [.int th, .int zz, .int rn, .ref rw, .int kn, .int rk, .int y1, .ref ry, .int sp, .int lg, .ref ti, .int fo, .int pt, .ref po, .ref su, .ref sq, .ref ch, .ref vt, .ref sh]))] s.heap.size = A at hD hA0 ⊢
  have hA : ∀ q : Nat, s.heap.size ≤ q → A q := fun q h => by rw [← hAe]; exact Or.inr h
  have hS : va_S A s.heap s.heap [] := va_S.rf
  have hl := lv_entry ([.ref m0]) (n := 1) (Nat.le_of_ble_eq_true rfl)
  rw [lg_entry_eq]
  generalize (lg_sl ([.ref m0]) ++ List.replicate (1 - (lg_sl ([.ref m0])).length) Slot.unset).toArray = ls at hl ⊢
  have hl : lv_has ls 1 [(0, .ref m0)] := hl
  have hP : va_P D kl [(m0, .inr (7, [.int th, .int zz, .int rn, .ref rw, .int kn, .int rk, .int y1, .ref ry, .int sp, .int lg, .ref ti, .int fo, .int pt, .ref po, .ref su, .ref sq, .ref ch, .ref vt, .ref sh]))] s.heap := hP
  have hml : c.maxLocals = 1 := hml
  refine lv_aload_n hx hb d_M_thrown_0 rfl (lv_at hl 0 rfl) ?_
  refine va_get (D := D) (ci := 7) (v := .int th) (C := cn_M) (T := ft_M) (N := 19) hx hb hf_M (fun _ h => h) hown hK hP 0 rfl rfl 0 (by decide) (gw.at G hx0 mw_713 rfl _) (fun _ h9 => h9) rfl d_M_thrown_1 ?_
  exact tx_mono (fun _ h => tx_Z.of h) (W.iret (v := th) hx hb hr (fun t ht hW => ⟨⟨[(m0, .inr (7, [.int th, .int zz, .int rn, .ref rw, .int kn, .int rk, .int y1, .ref ry, .int sp, .int lg, .ref ti, .int fo, .int pt, .ref po, .ref su, .ref sq, .ref ch, .ref vt, .ref sh]))], ⟨rfl, rfl⟩, by rw [ht]; exact hP.sub [0] rfl, hD.sub [0] (by decide) rfl⟩, hS.F ht⟩) hS.2.2 d_M_thrown_4)

set_option maxHeartbeats 4000000 in
set_option maxRecDepth 100000 in
theorem c_M_compare {l : Launch} {s0 : State} {b0 : Addr} {D : va_G} {cI cJ cZ : ClassId} {tC tS : Nat} (E : gE l s0 b0 D cI cJ cZ tC tS) (sz : Nat) (m0 : Nat) (rw : Nat) (ry : Nat) (ti : Nat) (po : Nat) (su : Nat) (sq : Nat) (ch : Nat) (vt : Nat) (sh : Nat) (th : Int32) (zz : Int32) (rn : Int32) (kn : Int32) (rk : Int32) (y1 : Int32) (sp : Int32) (lg : Int32) (fo : Int32) (pt : Int32) (vf : Nat → Int32) (yy : Nat) (yz : Nat) (g : Nat → Int32) (a : Nat) (ha : a + 4 ≤ yz) (hz : yz ≤ 4000) : cx_M l s0 D kl y_M_compare b_M_compare 4 (some .int) ({ frames := 0, cells := 0, slots := 0, locals := 0 } : Room) 0 0 [.ref m0, .ref yy, .int (nI a)] [(m0, .inr (7, [.int th, .int zz, .int rn, .ref rw, .int kn, .int rk, .int y1, .ref ry, .int sp, .int lg, .ref ti, .int fo, .int pt, .ref po, .ref su, .ref sq, .ref ch, .ref vt, .ref sh])), (vt, .inl (cI, 4, .inl vf)), (yy, .inl (cI, yz, .inl g))] sz (fun o9 _ w9 => o9 = .returned (some (.int (cmp4 g a vf))) ∧ w9 = [(m0, .inr (7, [.int th, .int zz, .int rn, .ref rw, .int kn, .int rk, .int y1, .ref ry, .int sp, .int lg, .ref ti, .int fo, .int pt, .ref po, .ref su, .ref sq, .ref ch, .ref vt, .ref sh])), (vt, .inl (cI, 4, .inl vf)), (yy, .inl (cI, yz, .inl g))]) := by
  refine tx_ofW (cc := b_M_compare) (maxL := 4) (ret := (some .int)) (by decide) rfl ?_
  intro p e s m args below meth c s₁ B hml hT hv
  obtain ⟨rfl, hsz, hP, hD0, hx0⟩ := hv
  have hx := B.exec
  have hb := B.bytes
  have hr := B.returns
  have G := E.2.1
  have hown : s.vm.findClass cn_M = some m.cls := findClass_of_methodNamed B.named
  have hlocks := B.notSynchronized
  have hK := va_K.moved hx0.1.alike E.2.2.1
  have hf_M : ∀ w99 ∈ u_ws cn_M ft_M 19, w99.before ([.ref m0, .ref yy, .int (nI a)] : List Value).toArray s = true := fun w99 h99 => gw.at G hx0 (fw_M w99 h99) (fo_M w99 h99) _
  subst hsz
  have hA0 := cx_new hD0 hx0.2.1
  have hD := hD0.self (sz := s.heap.size)
  generalize hAe : va_A [(m0, .inr (7, [.int th, .int zz, .int rn, .ref rw, .int kn, .int rk, .int y1, .ref ry, .int sp, .int lg, .ref ti, .int fo, .int pt, .ref po, .ref su, .ref sq, .ref ch, .ref vt, .ref sh])), (vt, .inl (cI, 4, .inl vf)), (yy, .inl (cI, yz, .inl g))] s.heap.size = A at hD hA0 ⊢
  have hA : ∀ q : Nat, s.heap.size ≤ q → A q := fun q h => by rw [← hAe]; exact Or.inr h
  have hS : va_S A s.heap s.heap [] := va_S.rf
  have hl := lv_entry ([.ref m0, .ref yy, .int (nI a)]) (n := 4) (Nat.le_of_ble_eq_true rfl)
  rw [lg_entry_eq]
  generalize (lg_sl ([.ref m0, .ref yy, .int (nI a)]) ++ List.replicate (4 - (lg_sl ([.ref m0, .ref yy, .int (nI a)])).length) Slot.unset).toArray = ls at hl ⊢
  have hl : lv_has ls 4 [(0, .ref m0), (1, .ref yy), (2, .int (nI a))] := hl
  have hP : va_P D kl [(m0, .inr (7, [.int th, .int zz, .int rn, .ref rw, .int kn, .int rk, .int y1, .ref ry, .int sp, .int lg, .ref ti, .int fo, .int pt, .ref po, .ref su, .ref sq, .ref ch, .ref vt, .ref sh])), (vt, .inl (cI, 4, .inl vf)), (yy, .inl (cI, yz, .inl g))] s.heap := hP
  have hml : c.maxLocals = 4 := hml
  refine lv_iconst (v := (0 : Int32)) hx hb d_M_compare_0 (by decide) ?_
  refine lv_istore_n (lv' := [(3, .int (0 : Int32)), (0, .ref m0), (1, .ref yy), (2, .int (nI a))]) hx hb d_M_compare_1 rfl hl (by decide) rfl (fun ls hl => ?_)
  refine lv_iload_n hx hb d_M_compare_2 rfl (lv_at hl 0 rfl) ?_
  refine lv_iconst (v := (4 : Int32)) hx hb d_M_compare_3 (by decide) ?_
  refine lv_icmp_ge (tgt := 47) hx hb d_M_compare_4 (by decide) (fun h99 => absurd h99 (by decide)) (fun _ => ?_)
  refine lv_aload_n hx hb d_M_compare_7 rfl (lv_at hl 2 rfl) ?_
  refine lv_iload_n hx hb d_M_compare_8 rfl (lv_at hl 3 rfl) ?_
  refine lv_iload_n hx hb d_M_compare_9 rfl (lv_at hl 0 rfl) ?_
  refine lv_iadd hx hb d_M_compare_10 ?_
  refine tp_i (y := nI (a + 0)) (nI_add a 0) ?_
  refine va_iald hx hb hK hP 2 0 rfl rfl (vp_in_nI (n := a + 0) (by omega) (by omega)) d_M_compare_11 ?_
  refine tp_i (y := g (a + 0)) (congrArg g (nI_clamp (n := a + 0) (by omega))) ?_
  refine lv_aload_n hx hb d_M_compare_12 rfl (lv_at hl 1 rfl) ?_
  refine va_get (D := D) (ci := 7) (v := .ref vt) (C := cn_M) (T := ft_M) (N := 19) hx hb hf_M (fun _ h => h) hown hK hP 0 rfl rfl 17 (by decide) (gw.at G hx0 mw_730 rfl _) (fun _ h9 => h9) rfl d_M_compare_13 ?_
  refine lv_iload_n hx hb d_M_compare_16 rfl (lv_at hl 0 rfl) ?_
  refine va_iald hx hb hK hP 1 0 rfl rfl (vp_in_iff.mpr (by decide)) d_M_compare_17 ?_
  refine tp_i (y := vf 0) (by rfl) ?_
  refine lv_icmp_eq (tgt := 41) hx hb d_M_compare_18 (by decide) (fun h_1 => ?_) (fun h_1 => ?_)
  · refine lv_iinc (lv' := [(3, .int (1 : Int32)), (0, .ref m0), (1, .ref yy), (2, .int (nI a))]) (k := 0) (v := (1 : Int32)) hx hb d_M_compare_41 hl rfl (by decide) (by decide) rfl (fun ls hl => ?_)
    refine lv_goto (tgt := 2) hx hb d_M_compare_44 (by decide) ?_
    refine lv_iload_n hx hb d_M_compare_2 rfl (lv_at hl 0 rfl) ?_
    refine lv_iconst (v := (4 : Int32)) hx hb d_M_compare_3 (by decide) ?_
    refine lv_icmp_ge (tgt := 47) hx hb d_M_compare_4 (by decide) (fun h99 => absurd h99 (by decide)) (fun _ => ?_)
    refine lv_aload_n hx hb d_M_compare_7 rfl (lv_at hl 2 rfl) ?_
    refine lv_iload_n hx hb d_M_compare_8 rfl (lv_at hl 3 rfl) ?_
    refine lv_iload_n hx hb d_M_compare_9 rfl (lv_at hl 0 rfl) ?_
    refine lv_iadd hx hb d_M_compare_10 ?_
    refine tp_i (y := nI (a + 1)) (nI_add a 1) ?_
    refine va_iald hx hb hK hP 2 0 rfl rfl (vp_in_nI (n := a + 1) (by omega) (by omega)) d_M_compare_11 ?_
    refine tp_i (y := g (a + 1)) (congrArg g (nI_clamp (n := a + 1) (by omega))) ?_
    refine lv_aload_n hx hb d_M_compare_12 rfl (lv_at hl 1 rfl) ?_
    refine va_get (D := D) (ci := 7) (v := .ref vt) (C := cn_M) (T := ft_M) (N := 19) hx hb hf_M (fun _ h => h) hown hK hP 0 rfl rfl 17 (by decide) (gw.at G hx0 mw_730 rfl _) (fun _ h9 => h9) rfl d_M_compare_13 ?_
    refine lv_iload_n hx hb d_M_compare_16 rfl (lv_at hl 0 rfl) ?_
    refine va_iald hx hb hK hP 1 0 rfl rfl (vp_in_iff.mpr (by decide)) d_M_compare_17 ?_
    refine tp_i (y := vf 1) (by rfl) ?_
    refine lv_icmp_eq (tgt := 41) hx hb d_M_compare_18 (by decide) (fun h_2 => ?_) (fun h_2 => ?_)
    · refine lv_iinc (lv' := [(3, .int (2 : Int32)), (0, .ref m0), (1, .ref yy), (2, .int (nI a))]) (k := 0) (v := (2 : Int32)) hx hb d_M_compare_41 hl rfl (by decide) (by decide) rfl (fun ls hl => ?_)
      refine lv_goto (tgt := 2) hx hb d_M_compare_44 (by decide) ?_
      refine lv_iload_n hx hb d_M_compare_2 rfl (lv_at hl 0 rfl) ?_
      refine lv_iconst (v := (4 : Int32)) hx hb d_M_compare_3 (by decide) ?_
      refine lv_icmp_ge (tgt := 47) hx hb d_M_compare_4 (by decide) (fun h99 => absurd h99 (by decide)) (fun _ => ?_)
      refine lv_aload_n hx hb d_M_compare_7 rfl (lv_at hl 2 rfl) ?_
      refine lv_iload_n hx hb d_M_compare_8 rfl (lv_at hl 3 rfl) ?_
      refine lv_iload_n hx hb d_M_compare_9 rfl (lv_at hl 0 rfl) ?_
      refine lv_iadd hx hb d_M_compare_10 ?_
      refine tp_i (y := nI (a + 2)) (nI_add a 2) ?_
      refine va_iald hx hb hK hP 2 0 rfl rfl (vp_in_nI (n := a + 2) (by omega) (by omega)) d_M_compare_11 ?_
      refine tp_i (y := g (a + 2)) (congrArg g (nI_clamp (n := a + 2) (by omega))) ?_
      refine lv_aload_n hx hb d_M_compare_12 rfl (lv_at hl 1 rfl) ?_
      refine va_get (D := D) (ci := 7) (v := .ref vt) (C := cn_M) (T := ft_M) (N := 19) hx hb hf_M (fun _ h => h) hown hK hP 0 rfl rfl 17 (by decide) (gw.at G hx0 mw_730 rfl _) (fun _ h9 => h9) rfl d_M_compare_13 ?_
      refine lv_iload_n hx hb d_M_compare_16 rfl (lv_at hl 0 rfl) ?_
      refine va_iald hx hb hK hP 1 0 rfl rfl (vp_in_iff.mpr (by decide)) d_M_compare_17 ?_
      refine tp_i (y := vf 2) (by rfl) ?_
      refine lv_icmp_eq (tgt := 41) hx hb d_M_compare_18 (by decide) (fun h_3 => ?_) (fun h_3 => ?_)
      · refine lv_iinc (lv' := [(3, .int (3 : Int32)), (0, .ref m0), (1, .ref yy), (2, .int (nI a))]) (k := 0) (v := (3 : Int32)) hx hb d_M_compare_41 hl rfl (by decide) (by decide) rfl (fun ls hl => ?_)
        refine lv_goto (tgt := 2) hx hb d_M_compare_44 (by decide) ?_
        refine lv_iload_n hx hb d_M_compare_2 rfl (lv_at hl 0 rfl) ?_
        refine lv_iconst (v := (4 : Int32)) hx hb d_M_compare_3 (by decide) ?_
        refine lv_icmp_ge (tgt := 47) hx hb d_M_compare_4 (by decide) (fun h99 => absurd h99 (by decide)) (fun _ => ?_)
        refine lv_aload_n hx hb d_M_compare_7 rfl (lv_at hl 2 rfl) ?_
        refine lv_iload_n hx hb d_M_compare_8 rfl (lv_at hl 3 rfl) ?_
        refine lv_iload_n hx hb d_M_compare_9 rfl (lv_at hl 0 rfl) ?_
        refine lv_iadd hx hb d_M_compare_10 ?_
        refine tp_i (y := nI (a + 3)) (nI_add a 3) ?_
        refine va_iald hx hb hK hP 2 0 rfl rfl (vp_in_nI (n := a + 3) (by omega) (by omega)) d_M_compare_11 ?_
        refine tp_i (y := g (a + 3)) (congrArg g (nI_clamp (n := a + 3) (by omega))) ?_
        refine lv_aload_n hx hb d_M_compare_12 rfl (lv_at hl 1 rfl) ?_
        refine va_get (D := D) (ci := 7) (v := .ref vt) (C := cn_M) (T := ft_M) (N := 19) hx hb hf_M (fun _ h => h) hown hK hP 0 rfl rfl 17 (by decide) (gw.at G hx0 mw_730 rfl _) (fun _ h9 => h9) rfl d_M_compare_13 ?_
        refine lv_iload_n hx hb d_M_compare_16 rfl (lv_at hl 0 rfl) ?_
        refine va_iald hx hb hK hP 1 0 rfl rfl (vp_in_iff.mpr (by decide)) d_M_compare_17 ?_
        refine tp_i (y := vf 3) (by rfl) ?_
        refine lv_icmp_eq (tgt := 41) hx hb d_M_compare_18 (by decide) (fun h_4 => ?_) (fun h_4 => ?_)
        · refine lv_iinc (lv' := [(3, .int (4 : Int32)), (0, .ref m0), (1, .ref yy), (2, .int (nI a))]) (k := 0) (v := (4 : Int32)) hx hb d_M_compare_41 hl rfl (by decide) (by decide) rfl (fun ls hl => ?_)
          refine lv_goto (tgt := 2) hx hb d_M_compare_44 (by decide) ?_
          refine lv_iload_n hx hb d_M_compare_2 rfl (lv_at hl 0 rfl) ?_
          refine lv_iconst (v := (4 : Int32)) hx hb d_M_compare_3 (by decide) ?_
          refine lv_icmp_ge (tgt := 47) hx hb d_M_compare_4 (by decide) (fun _ => ?_) (fun h99 => absurd h99 (by decide))
          refine lv_iconst (v := (0 : Int32)) hx hb d_M_compare_47 (by decide) ?_
          exact tx_mono (fun _ h => tx_Z.of h) (W.iret (v := (0 : Int32)) hx hb hr (fun t ht hW => ⟨⟨[(m0, .inr (7, [.int th, .int zz, .int rn, .ref rw, .int kn, .int rk, .int y1, .ref ry, .int sp, .int lg, .ref ti, .int fo, .int pt, .ref po, .ref su, .ref sq, .ref ch, .ref vt, .ref sh])), (vt, .inl (cI, 4, .inl vf)), (yy, .inl (cI, yz, .inl g))], ⟨(by unfold cmp4; rw [if_pos h_1, if_pos h_2, if_pos h_3, if_pos h_4]), rfl⟩, by rw [ht]; exact hP.sub [0, 1, 2] rfl, hD.sub [0, 1, 2] (by decide) rfl⟩, hS.F ht⟩) hS.2.2 d_M_compare_48)
        · refine lv_aload_n hx hb d_M_compare_21 rfl (lv_at hl 2 rfl) ?_
          refine lv_iload_n hx hb d_M_compare_22 rfl (lv_at hl 3 rfl) ?_
          refine lv_iload_n hx hb d_M_compare_23 rfl (lv_at hl 0 rfl) ?_
          refine lv_iadd hx hb d_M_compare_24 ?_
          refine tp_i (y := nI (a + 3)) (nI_add a 3) ?_
          refine va_iald hx hb hK hP 2 0 rfl rfl (vp_in_nI (n := a + 3) (by omega) (by omega)) d_M_compare_25 ?_
          refine tp_i (y := g (a + 3)) (congrArg g (nI_clamp (n := a + 3) (by omega))) ?_
          refine lv_aload_n hx hb d_M_compare_26 rfl (lv_at hl 1 rfl) ?_
          refine va_get (D := D) (ci := 7) (v := .ref vt) (C := cn_M) (T := ft_M) (N := 19) hx hb hf_M (fun _ h => h) hown hK hP 0 rfl rfl 17 (by decide) (gw.at G hx0 mw_730 rfl _) (fun _ h9 => h9) rfl d_M_compare_27 ?_
          refine lv_iload_n hx hb d_M_compare_30 rfl (lv_at hl 0 rfl) ?_
          refine va_iald hx hb hK hP 1 0 rfl rfl (vp_in_iff.mpr (by decide)) d_M_compare_31 ?_
          refine tp_i (y := vf 3) (by rfl) ?_
          refine lv_icmp_ge (tgt := 39) hx hb d_M_compare_32 (by decide) (fun h_5 => ?_) (fun h_5 => ?_)
          · refine lv_iconst (v := (1 : Int32)) hx hb d_M_compare_39 (by decide) ?_
            exact tx_mono (fun _ h => tx_Z.of h) (W.iret (v := (1 : Int32)) hx hb hr (fun t ht hW => ⟨⟨[(m0, .inr (7, [.int th, .int zz, .int rn, .ref rw, .int kn, .int rk, .int y1, .ref ry, .int sp, .int lg, .ref ti, .int fo, .int pt, .ref po, .ref su, .ref sq, .ref ch, .ref vt, .ref sh])), (vt, .inl (cI, 4, .inl vf)), (yy, .inl (cI, yz, .inl g))], ⟨(by unfold cmp4 cmo; rw [if_pos h_1, if_pos h_2, if_pos h_3, if_neg h_4, if_pos h_5]), rfl⟩, by rw [ht]; exact hP.sub [0, 1, 2] rfl, hD.sub [0, 1, 2] (by decide) rfl⟩, hS.F ht⟩) hS.2.2 d_M_compare_40)
          · refine lv_iconst (v := (-1 : Int32)) hx hb d_M_compare_35 (by decide) ?_
            refine lv_goto (tgt := 40) hx hb d_M_compare_36 (by decide) ?_
            exact tx_mono (fun _ h => tx_Z.of h) (W.iret (v := (-1 : Int32)) hx hb hr (fun t ht hW => ⟨⟨[(m0, .inr (7, [.int th, .int zz, .int rn, .ref rw, .int kn, .int rk, .int y1, .ref ry, .int sp, .int lg, .ref ti, .int fo, .int pt, .ref po, .ref su, .ref sq, .ref ch, .ref vt, .ref sh])), (vt, .inl (cI, 4, .inl vf)), (yy, .inl (cI, yz, .inl g))], ⟨(by unfold cmp4 cmo; rw [if_pos h_1, if_pos h_2, if_pos h_3, if_neg h_4, if_neg h_5]), rfl⟩, by rw [ht]; exact hP.sub [0, 1, 2] rfl, hD.sub [0, 1, 2] (by decide) rfl⟩, hS.F ht⟩) hS.2.2 d_M_compare_40)
      · refine lv_aload_n hx hb d_M_compare_21 rfl (lv_at hl 2 rfl) ?_
        refine lv_iload_n hx hb d_M_compare_22 rfl (lv_at hl 3 rfl) ?_
        refine lv_iload_n hx hb d_M_compare_23 rfl (lv_at hl 0 rfl) ?_
        refine lv_iadd hx hb d_M_compare_24 ?_
        refine tp_i (y := nI (a + 2)) (nI_add a 2) ?_
        refine va_iald hx hb hK hP 2 0 rfl rfl (vp_in_nI (n := a + 2) (by omega) (by omega)) d_M_compare_25 ?_
        refine tp_i (y := g (a + 2)) (congrArg g (nI_clamp (n := a + 2) (by omega))) ?_
        refine lv_aload_n hx hb d_M_compare_26 rfl (lv_at hl 1 rfl) ?_
        refine va_get (D := D) (ci := 7) (v := .ref vt) (C := cn_M) (T := ft_M) (N := 19) hx hb hf_M (fun _ h => h) hown hK hP 0 rfl rfl 17 (by decide) (gw.at G hx0 mw_730 rfl _) (fun _ h9 => h9) rfl d_M_compare_27 ?_
        refine lv_iload_n hx hb d_M_compare_30 rfl (lv_at hl 0 rfl) ?_
        refine va_iald hx hb hK hP 1 0 rfl rfl (vp_in_iff.mpr (by decide)) d_M_compare_31 ?_
        refine tp_i (y := vf 2) (by rfl) ?_
        refine lv_icmp_ge (tgt := 39) hx hb d_M_compare_32 (by decide) (fun h_6 => ?_) (fun h_6 => ?_)
        · refine lv_iconst (v := (1 : Int32)) hx hb d_M_compare_39 (by decide) ?_
          exact tx_mono (fun _ h => tx_Z.of h) (W.iret (v := (1 : Int32)) hx hb hr (fun t ht hW => ⟨⟨[(m0, .inr (7, [.int th, .int zz, .int rn, .ref rw, .int kn, .int rk, .int y1, .ref ry, .int sp, .int lg, .ref ti, .int fo, .int pt, .ref po, .ref su, .ref sq, .ref ch, .ref vt, .ref sh])), (vt, .inl (cI, 4, .inl vf)), (yy, .inl (cI, yz, .inl g))], ⟨(by unfold cmp4 cmo; rw [if_pos h_1, if_pos h_2, if_neg h_3, if_pos h_6]), rfl⟩, by rw [ht]; exact hP.sub [0, 1, 2] rfl, hD.sub [0, 1, 2] (by decide) rfl⟩, hS.F ht⟩) hS.2.2 d_M_compare_40)
        · refine lv_iconst (v := (-1 : Int32)) hx hb d_M_compare_35 (by decide) ?_
          refine lv_goto (tgt := 40) hx hb d_M_compare_36 (by decide) ?_
          exact tx_mono (fun _ h => tx_Z.of h) (W.iret (v := (-1 : Int32)) hx hb hr (fun t ht hW => ⟨⟨[(m0, .inr (7, [.int th, .int zz, .int rn, .ref rw, .int kn, .int rk, .int y1, .ref ry, .int sp, .int lg, .ref ti, .int fo, .int pt, .ref po, .ref su, .ref sq, .ref ch, .ref vt, .ref sh])), (vt, .inl (cI, 4, .inl vf)), (yy, .inl (cI, yz, .inl g))], ⟨(by unfold cmp4 cmo; rw [if_pos h_1, if_pos h_2, if_neg h_3, if_neg h_6]), rfl⟩, by rw [ht]; exact hP.sub [0, 1, 2] rfl, hD.sub [0, 1, 2] (by decide) rfl⟩, hS.F ht⟩) hS.2.2 d_M_compare_40)
    · refine lv_aload_n hx hb d_M_compare_21 rfl (lv_at hl 2 rfl) ?_
      refine lv_iload_n hx hb d_M_compare_22 rfl (lv_at hl 3 rfl) ?_
      refine lv_iload_n hx hb d_M_compare_23 rfl (lv_at hl 0 rfl) ?_
      refine lv_iadd hx hb d_M_compare_24 ?_
      refine tp_i (y := nI (a + 1)) (nI_add a 1) ?_
      refine va_iald hx hb hK hP 2 0 rfl rfl (vp_in_nI (n := a + 1) (by omega) (by omega)) d_M_compare_25 ?_
      refine tp_i (y := g (a + 1)) (congrArg g (nI_clamp (n := a + 1) (by omega))) ?_
      refine lv_aload_n hx hb d_M_compare_26 rfl (lv_at hl 1 rfl) ?_
      refine va_get (D := D) (ci := 7) (v := .ref vt) (C := cn_M) (T := ft_M) (N := 19) hx hb hf_M (fun _ h => h) hown hK hP 0 rfl rfl 17 (by decide) (gw.at G hx0 mw_730 rfl _) (fun _ h9 => h9) rfl d_M_compare_27 ?_
      refine lv_iload_n hx hb d_M_compare_30 rfl (lv_at hl 0 rfl) ?_
      refine va_iald hx hb hK hP 1 0 rfl rfl (vp_in_iff.mpr (by decide)) d_M_compare_31 ?_
      refine tp_i (y := vf 1) (by rfl) ?_
      refine lv_icmp_ge (tgt := 39) hx hb d_M_compare_32 (by decide) (fun h_7 => ?_) (fun h_7 => ?_)
      · refine lv_iconst (v := (1 : Int32)) hx hb d_M_compare_39 (by decide) ?_
        exact tx_mono (fun _ h => tx_Z.of h) (W.iret (v := (1 : Int32)) hx hb hr (fun t ht hW => ⟨⟨[(m0, .inr (7, [.int th, .int zz, .int rn, .ref rw, .int kn, .int rk, .int y1, .ref ry, .int sp, .int lg, .ref ti, .int fo, .int pt, .ref po, .ref su, .ref sq, .ref ch, .ref vt, .ref sh])), (vt, .inl (cI, 4, .inl vf)), (yy, .inl (cI, yz, .inl g))], ⟨(by unfold cmp4 cmo; rw [if_pos h_1, if_neg h_2, if_pos h_7]), rfl⟩, by rw [ht]; exact hP.sub [0, 1, 2] rfl, hD.sub [0, 1, 2] (by decide) rfl⟩, hS.F ht⟩) hS.2.2 d_M_compare_40)
      · refine lv_iconst (v := (-1 : Int32)) hx hb d_M_compare_35 (by decide) ?_
        refine lv_goto (tgt := 40) hx hb d_M_compare_36 (by decide) ?_
        exact tx_mono (fun _ h => tx_Z.of h) (W.iret (v := (-1 : Int32)) hx hb hr (fun t ht hW => ⟨⟨[(m0, .inr (7, [.int th, .int zz, .int rn, .ref rw, .int kn, .int rk, .int y1, .ref ry, .int sp, .int lg, .ref ti, .int fo, .int pt, .ref po, .ref su, .ref sq, .ref ch, .ref vt, .ref sh])), (vt, .inl (cI, 4, .inl vf)), (yy, .inl (cI, yz, .inl g))], ⟨(by unfold cmp4 cmo; rw [if_pos h_1, if_neg h_2, if_neg h_7]), rfl⟩, by rw [ht]; exact hP.sub [0, 1, 2] rfl, hD.sub [0, 1, 2] (by decide) rfl⟩, hS.F ht⟩) hS.2.2 d_M_compare_40)
  · refine lv_aload_n hx hb d_M_compare_21 rfl (lv_at hl 2 rfl) ?_
    refine lv_iload_n hx hb d_M_compare_22 rfl (lv_at hl 3 rfl) ?_
    refine lv_iload_n hx hb d_M_compare_23 rfl (lv_at hl 0 rfl) ?_
    refine lv_iadd hx hb d_M_compare_24 ?_
    refine tp_i (y := nI (a + 0)) (nI_add a 0) ?_
    refine va_iald hx hb hK hP 2 0 rfl rfl (vp_in_nI (n := a + 0) (by omega) (by omega)) d_M_compare_25 ?_
    refine tp_i (y := g (a + 0)) (congrArg g (nI_clamp (n := a + 0) (by omega))) ?_
    refine lv_aload_n hx hb d_M_compare_26 rfl (lv_at hl 1 rfl) ?_
    refine va_get (D := D) (ci := 7) (v := .ref vt) (C := cn_M) (T := ft_M) (N := 19) hx hb hf_M (fun _ h => h) hown hK hP 0 rfl rfl 17 (by decide) (gw.at G hx0 mw_730 rfl _) (fun _ h9 => h9) rfl d_M_compare_27 ?_
    refine lv_iload_n hx hb d_M_compare_30 rfl (lv_at hl 0 rfl) ?_
    refine va_iald hx hb hK hP 1 0 rfl rfl (vp_in_iff.mpr (by decide)) d_M_compare_31 ?_
    refine tp_i (y := vf 0) (by rfl) ?_
    refine lv_icmp_ge (tgt := 39) hx hb d_M_compare_32 (by decide) (fun h_8 => ?_) (fun h_8 => ?_)
    · refine lv_iconst (v := (1 : Int32)) hx hb d_M_compare_39 (by decide) ?_
      exact tx_mono (fun _ h => tx_Z.of h) (W.iret (v := (1 : Int32)) hx hb hr (fun t ht hW => ⟨⟨[(m0, .inr (7, [.int th, .int zz, .int rn, .ref rw, .int kn, .int rk, .int y1, .ref ry, .int sp, .int lg, .ref ti, .int fo, .int pt, .ref po, .ref su, .ref sq, .ref ch, .ref vt, .ref sh])), (vt, .inl (cI, 4, .inl vf)), (yy, .inl (cI, yz, .inl g))], ⟨(by unfold cmp4 cmo; rw [if_neg h_1, if_pos h_8]), rfl⟩, by rw [ht]; exact hP.sub [0, 1, 2] rfl, hD.sub [0, 1, 2] (by decide) rfl⟩, hS.F ht⟩) hS.2.2 d_M_compare_40)
    · refine lv_iconst (v := (-1 : Int32)) hx hb d_M_compare_35 (by decide) ?_
      refine lv_goto (tgt := 40) hx hb d_M_compare_36 (by decide) ?_
      exact tx_mono (fun _ h => tx_Z.of h) (W.iret (v := (-1 : Int32)) hx hb hr (fun t ht hW => ⟨⟨[(m0, .inr (7, [.int th, .int zz, .int rn, .ref rw, .int kn, .int rk, .int y1, .ref ry, .int sp, .int lg, .ref ti, .int fo, .int pt, .ref po, .ref su, .ref sq, .ref ch, .ref vt, .ref sh])), (vt, .inl (cI, 4, .inl vf)), (yy, .inl (cI, yz, .inl g))], ⟨(by unfold cmp4 cmo; rw [if_neg h_1, if_neg h_8]), rfl⟩, by rw [ht]; exact hP.sub [0, 1, 2] rfl, hD.sub [0, 1, 2] (by decide) rfl⟩, hS.F ht⟩) hS.2.2 d_M_compare_40)

set_option maxHeartbeats 4000000 in
set_option maxRecDepth 100000 in
theorem c_M_holdsAt_y {l : Launch} {s0 : State} {b0 : Addr} {D : va_G} {cI cJ cZ : ClassId} {tC tS : Nat} (E : gE l s0 b0 D cI cJ cZ tC tS) (sz : Nat) (m0 : Nat) (rw : Nat) (ry : Nat) (ti : Nat) (po : Nat) (su : Nat) (sq : Nat) (ch : Nat) (vt : Nat) (sh : Nat) (th : Int32) (zz : Int32) (kn : Int32) (rk : Int32) (y1 : Int32) (sp : Int32) (lg : Int32) (fo : Int32) (pt : Int32) (rn : Nat) (wf : Nat → Int32) (yy : Nat) (yz : Nat) (g : Nat → Int32) (a : Nat) (hr8 : rn ≤ 8) (ha : a + 4 ≤ yz) (hz : yz ≤ 4000) (h : (∀ k, k < rn → ¬ prm wf k g a < 0)) : cx_M l s0 D kl y_M_holdsAt b_M_holdsAt 5 (some .boolean) ({ frames := 1, cells := 0, slots := 0, locals := 26 } : Room) 0 0 [.ref m0, .ref yy, .int (nI a)] [(m0, .inr (7, [.int th, .int zz, .int (nI rn), .ref rw, .int kn, .int rk, .int y1, .ref ry, .int sp, .int lg, .ref ti, .int fo, .int pt, .ref po, .ref su, .ref sq, .ref ch, .ref vt, .ref sh])), (rw, .inl (cI, 32, .inl wf)), (yy, .inl (cI, yz, .inl g))] sz (fun o9 _ w9 => o9 = .returned (some (.int (1 : Int32))) ∧ w9 = [(m0, .inr (7, [.int th, .int zz, .int (nI rn), .ref rw, .int kn, .int rk, .int y1, .ref ry, .int sp, .int lg, .ref ti, .int fo, .int pt, .ref po, .ref su, .ref sq, .ref ch, .ref vt, .ref sh])), (rw, .inl (cI, 32, .inl wf)), (yy, .inl (cI, yz, .inl g))]) := by
  refine tx_ofW (cc := b_M_holdsAt) (maxL := 5) (ret := (some .boolean)) (by decide) rfl ?_
  intro p e s m args below meth c s₁ B hml hT hv
  obtain ⟨rfl, hsz, hP, hD0, hx0⟩ := hv
  have hx := B.exec
  have hb := B.bytes
  have hr := B.returns
  have G := E.2.1
  have hown : s.vm.findClass cn_M = some m.cls := findClass_of_methodNamed B.named
  have hlocks := B.notSynchronized
  have hK := va_K.moved hx0.1.alike E.2.2.1
  have hf_M : ∀ w99 ∈ u_ws cn_M ft_M 19, w99.before ([.ref m0, .ref yy, .int (nI a)] : List Value).toArray s = true := fun w99 h99 => gw.at G hx0 (fw_M w99 h99) (fo_M w99 h99) _
  subst hsz
  have hA0 := cx_new hD0 hx0.2.1
  have hD := hD0.self (sz := s.heap.size)
  generalize hAe : va_A [(m0, .inr (7, [.int th, .int zz, .int (nI rn), .ref rw, .int kn, .int rk, .int y1, .ref ry, .int sp, .int lg, .ref ti, .int fo, .int pt, .ref po, .ref su, .ref sq, .ref ch, .ref vt, .ref sh])), (rw, .inl (cI, 32, .inl wf)), (yy, .inl (cI, yz, .inl g))] s.heap.size = A at hD hA0 ⊢
  have hA : ∀ q : Nat, s.heap.size ≤ q → A q := fun q h => by rw [← hAe]; exact Or.inr h
  have hS : va_S A s.heap s.heap [] := va_S.rf
  have hl := lv_entry ([.ref m0, .ref yy, .int (nI a)]) (n := 5) (Nat.le_of_ble_eq_true rfl)
  rw [lg_entry_eq]
  generalize (lg_sl ([.ref m0, .ref yy, .int (nI a)]) ++ List.replicate (5 - (lg_sl ([.ref m0, .ref yy, .int (nI a)])).length) Slot.unset).toArray = ls at hl ⊢
  have hl : lv_has ls 5 [(0, .ref m0), (1, .ref yy), (2, .int (nI a))] := hl
  have hP : va_P D kl [(m0, .inr (7, [.int th, .int zz, .int (nI rn), .ref rw, .int kn, .int rk, .int y1, .ref ry, .int sp, .int lg, .ref ti, .int fo, .int pt, .ref po, .ref su, .ref sq, .ref ch, .ref vt, .ref sh])), (rw, .inl (cI, 32, .inl wf)), (yy, .inl (cI, yz, .inl g))] s.heap := hP
  have hml : c.maxLocals = 5 := hml
  generalize hQe : tx_Z below (cx_Q D kl A (fun o9 _ w9 => o9 = .returned (some (.int (1 : Int32))) ∧ w9 = [(m0, .inr (7, [.int th, .int zz, .int (nI rn), .ref rw, .int kn, .int rk, .int y1, .ref ry, .int sp, .int lg, .ref ti, .int fo, .int pt, .ref po, .ref su, .ref sq, .ref ch, .ref vt, .ref sh])), (rw, .inl (cI, 32, .inl wf)), (yy, .inl (cI, yz, .inl g))])) ([.ref m0, .ref yy, .int (nI a)] : List Value).toArray s 0 0 A = Q
  refine lv_iconst (v := (1 : Int32)) hx hb d_M_holdsAt_0 (by decide) ?_
  refine lv_istore_n (lv' := [(3, .int (1 : Int32)), (0, .ref m0), (1, .ref yy), (2, .int (nI a))]) hx hb d_M_holdsAt_1 rfl hl (by decide) rfl (fun ls hl => ?_)
  refine lv_iconst (v := (0 : Int32)) hx hb d_M_holdsAt_2 (by decide) ?_
  refine lv_istore (lv' := [(4, .int (0 : Int32)), (3, .int (1 : Int32)), (0, .ref m0), (1, .ref yy), (2, .int (nI a))]) hx hb d_M_holdsAt_3 hl (by decide) rfl (fun ls hl => ?_)
  have lp_5 : ∀ (n9 : Nat) (k : Nat) (ls : Array Slot) (H : Heap) (locs : List Loc), rn - k = n9 → (k ≤ rn) → lv_has ls 5 [(4, .int (nI k)), (3, .int (1 : Int32)), (0, .ref m0), (1, .ref yy), (2, .int (nI a))] → va_P D kl [(m0, .inr (7, [.int th, .int zz, .int (nI rn), .ref rw, .int kn, .int rk, .int y1, .ref ry, .int sp, .int lg, .ref ti, .int fo, .int pt, .ref po, .ref su, .ref sq, .ref ch, .ref vt, .ref sh])), (rw, .inl (cI, 32, .inl wf)), (yy, .inl (cI, yz, .inl g))] H → va_D A [(m0, .inr (7, [.int th, .int zz, .int (nI rn), .ref rw, .int kn, .int rk, .int y1, .ref ry, .int sp, .int lg, .ref ti, .int fo, .int pt, .ref po, .ref su, .ref sq, .ref ch, .ref vt, .ref sh])), (rw, .inl (cI, 32, .inl wf)), (yy, .inl (cI, yz, .inl g))] → va_S A s.heap H locs → W p l e ({ frames := 1, cells := 0, slots := 0, locals := 26 } : Room) s m ([.ref m0, .ref yy, .int (nI a)] : List Value).toArray below meth c H locs 0 0 Q (F0 m 5 ls []) := by
    intro n9
    induction n9 using Nat.strongRecOn with
    | ind n9 ih_5 =>
      intro k ls H locs hm_5 hk9 hl hP hD hS
      refine lv_iload hx hb d_M_holdsAt_5 (lv_at hl 0 rfl) ?_
      refine lv_aload_n hx hb d_M_holdsAt_7 rfl (lv_at hl 2 rfl) ?_
      refine va_get (D := D) (ci := 7) (v := .int (nI rn)) (C := cn_M) (T := ft_M) (N := 19) hx hb hf_M (fun _ h => h) hown hK hP 0 rfl rfl 2 (by decide) (gw.at G hx0 mw_715 rfl _) (fun _ h9 => h9) rfl d_M_holdsAt_8 ?_
      refine lv_icmp_ge (tgt := 43) hx hb d_M_holdsAt_11 (by decide) (fun h_1 => ?_) (fun h_1 => ?_)
      · have h_1 : rn ≤ k := (nI_leI (a := rn) (b := k) (by omega) (by omega)).mp h_1
        refine lv_iload_n hx hb d_M_holdsAt_43 rfl (lv_at hl 1 rfl) ?_
        rw [← hQe]
        exact tx_mono (fun _ h => tx_Z.of h) (W.zret (v := (1 : Int32)) hx hb hr (by decide) (fun t ht hW => ⟨⟨[(m0, .inr (7, [.int th, .int zz, .int (nI rn), .ref rw, .int kn, .int rk, .int y1, .ref ry, .int sp, .int lg, .ref ti, .int fo, .int pt, .ref po, .ref su, .ref sq, .ref ch, .ref vt, .ref sh])), (rw, .inl (cI, 32, .inl wf)), (yy, .inl (cI, yz, .inl g))], ⟨rfl, rfl⟩, by rw [ht]; exact hP.sub [0, 1, 2] rfl, hD.sub [0, 1, 2] (by decide) rfl⟩, hS.F ht⟩) hS.2.2 d_M_holdsAt_44)
      · have h_1 : ¬ (rn ≤ k) := fun z99 => h_1 ((nI_leI (a := rn) (b := k) (by omega) (by omega)).mpr z99)
        refine lv_iload_n hx hb d_M_holdsAt_14 rfl (lv_at hl 1 rfl) ?_
        refine lv_if_eq (tgt := 35) hx hb d_M_holdsAt_15 (by decide) (fun h99 => absurd h99 (by decide)) (fun _ => ?_)
        refine lv_aload_n hx hb d_M_holdsAt_18 rfl (lv_at hl 2 rfl) ?_
        refine lv_iload hx hb d_M_holdsAt_19 (lv_at hl 0 rfl) ?_
        refine lv_aload_n hx hb d_M_holdsAt_21 rfl (lv_at hl 3 rfl) ?_
        refine lv_iload_n hx hb d_M_holdsAt_22 rfl (lv_at hl 4 rfl) ?_
        refine cx_call (D := D) (cl := kl) (ws := _) (wc := [(m0, .inr (7, [.int th, .int zz, .int (nI rn), .ref rw, .int kn, .int rk, .int y1, .ref ry, .int sp, .int lg, .ref ti, .int fo, .int pt, .ref po, .ref su, .ref sq, .ref ch, .ref vt, .ref sh])), (rw, .inl (cI, 32, .inl wf)), (yy, .inl (cI, yz, .inl g))]) (wr := []) (tx_runV (C := cn_M) (b := m0) (As := [.int (nI k), .ref yy, .int (nI a)]) (rest := []) hx hb hml hown (c_M_product E H.size m0 rw ry ti po su sq ch vt sh th zz kn rk y1 sp lg fo pt rn wf k yy yz g a (by omega) ha hz) (cx_C (b0 := b0) G hx0 mw_840 mw_9 ny_M_product (by decide)) (gw.at G hx0 mw_837 rfl _) (gw.at G hx0 mw_839 rfl _) (gw.at G hx0 ms_M_product rfl _) ⟨cx_blind, va_recv hK hP (q0 := 0) (ci := 7) (q := (cn_M, ft_M, 19)) rfl rfl, (cx_pre (s := s) hx0 hP hD hS hA0 [0, 1, 2] rfl rfl (by decide))⟩ rfl rfl hl.1 rfl (lv_room (Nat.le_of_ble_eq_true rfl)) d_M_holdsAt_23 ⟨by decide, by decide⟩) hP hD hS hA [0, 1, 2] [] rfl rfl (by decide) (by decide) (fun v t w1 H locs ht hW9 hp hP hD hS => ?_) (fun x t w1 H locs ht hW9 hp hP hD hS => by obtain ⟨h9, -⟩ := hp; cases h9)
        obtain ⟨h9, rfl⟩ := hp
        cases h9
        refine W.eq (g2 := F0 m 26 ls [.long (prm wf k g a)]) rfl ?_
        refine W.widen (k := 0) (n := 0) (by decide) (by decide) ?_
        have hP : va_P D kl [(m0, .inr (7, [.int th, .int zz, .int (nI rn), .ref rw, .int kn, .int rk, .int y1, .ref ry, .int sp, .int lg, .ref ti, .int fo, .int pt, .ref po, .ref su, .ref sq, .ref ch, .ref vt, .ref sh])), (rw, .inl (cI, 32, .inl wf)), (yy, .inl (cI, yz, .inl g))] H := hP
        have hD : va_D A [(m0, .inr (7, [.int th, .int zz, .int (nI rn), .ref rw, .int kn, .int rk, .int y1, .ref ry, .int sp, .int lg, .ref ti, .int fo, .int pt, .ref po, .ref su, .ref sq, .ref ch, .ref vt, .ref sh])), (rw, .inl (cI, 32, .inl wf)), (yy, .inl (cI, yz, .inl g))] := hD
        refine lv_lconst (v := (0 : Int64)) hx hb d_M_holdsAt_26 (by decide) ?_
        refine W.lcmp hx hb d_M_holdsAt_27 ?_
        refine lv_if_lt (tgt := 35) hx hb d_M_holdsAt_28 (by decide) (fun h99 => absurd h99 (fun z9 => h k (by omega) ((lg_cmp_lt _ _).mp z9))) (fun _ => ?_)
        refine lv_iconst (v := (1 : Int32)) hx hb d_M_holdsAt_31 (by decide) ?_
        refine lv_goto (tgt := 36) hx hb d_M_holdsAt_32 (by decide) ?_
        refine lv_istore_n (lv' := [(3, .int (1 : Int32)), (4, .int (nI k)), (0, .ref m0), (1, .ref yy), (2, .int (nI a))]) hx hb d_M_holdsAt_36 rfl hl (by decide) rfl (fun ls hl => ?_)
        refine lv_iinc (lv' := [(4, .int (nI (k + 1))), (3, .int (1 : Int32)), (0, .ref m0), (1, .ref yy), (2, .int (nI a))]) (k := 1) (v := nI (k + 1)) hx hb d_M_holdsAt_37 hl rfl (nI_add k 1) (by decide) rfl (fun ls hl => ?_)
        refine lv_goto (tgt := 5) hx hb d_M_holdsAt_40 (by decide) ?_
        exact ih_5 _ (by omega) (k + 1) ls H locs rfl (by omega) (lv_sub hl [0, 1, 2, 3, 4] rfl) (hP.sub [0, 1, 2] rfl) (hD.sub [0, 1, 2] (by decide) rfl) hS
  exact lp_5 _ 0 ls s.heap [] rfl (Nat.zero_le _) (lv_sub hl [0, 1, 2, 3, 4] rfl) (hP.sub [0, 1, 2] rfl) (hD.sub [0, 1, 2] (by decide) rfl) hS

set_option maxHeartbeats 4000000 in
set_option maxRecDepth 100000 in
theorem c_M_holdsAt_n {l : Launch} {s0 : State} {b0 : Addr} {D : va_G} {cI cJ cZ : ClassId} {tC tS : Nat} (E : gE l s0 b0 D cI cJ cZ tC tS) (sz : Nat) (m0 : Nat) (rw : Nat) (ry : Nat) (ti : Nat) (po : Nat) (su : Nat) (sq : Nat) (ch : Nat) (vt : Nat) (sh : Nat) (th : Int32) (zz : Int32) (kn : Int32) (rk : Int32) (y1 : Int32) (sp : Int32) (lg : Int32) (fo : Int32) (pt : Int32) (rn : Nat) (wf : Nat → Int32) (yy : Nat) (yz : Nat) (g : Nat → Int32) (a : Nat) (hr8 : rn ≤ 8) (ha : a + 4 ≤ yz) (hz : yz ≤ 4000) (h : ¬ (∀ k, k < rn → ¬ prm wf k g a < 0)) : cx_M l s0 D kl y_M_holdsAt b_M_holdsAt 5 (some .boolean) ({ frames := 1, cells := 0, slots := 0, locals := 26 } : Room) 0 0 [.ref m0, .ref yy, .int (nI a)] [(m0, .inr (7, [.int th, .int zz, .int (nI rn), .ref rw, .int kn, .int rk, .int y1, .ref ry, .int sp, .int lg, .ref ti, .int fo, .int pt, .ref po, .ref su, .ref sq, .ref ch, .ref vt, .ref sh])), (rw, .inl (cI, 32, .inl wf)), (yy, .inl (cI, yz, .inl g))] sz (fun o9 _ w9 => o9 = .returned (some (.int (0 : Int32))) ∧ w9 = [(m0, .inr (7, [.int th, .int zz, .int (nI rn), .ref rw, .int kn, .int rk, .int y1, .ref ry, .int sp, .int lg, .ref ti, .int fo, .int pt, .ref po, .ref su, .ref sq, .ref ch, .ref vt, .ref sh])), (rw, .inl (cI, 32, .inl wf)), (yy, .inl (cI, yz, .inl g))]) := by
  refine tx_ofW (cc := b_M_holdsAt) (maxL := 5) (ret := (some .boolean)) (by decide) rfl ?_
  intro p e s m args below meth c s₁ B hml hT hv
  obtain ⟨rfl, hsz, hP, hD0, hx0⟩ := hv
  have hx := B.exec
  have hb := B.bytes
  have hr := B.returns
  have G := E.2.1
  have hown : s.vm.findClass cn_M = some m.cls := findClass_of_methodNamed B.named
  have hlocks := B.notSynchronized
  have hK := va_K.moved hx0.1.alike E.2.2.1
  have hf_M : ∀ w99 ∈ u_ws cn_M ft_M 19, w99.before ([.ref m0, .ref yy, .int (nI a)] : List Value).toArray s = true := fun w99 h99 => gw.at G hx0 (fw_M w99 h99) (fo_M w99 h99) _
  subst hsz
  have hA0 := cx_new hD0 hx0.2.1
  have hD := hD0.self (sz := s.heap.size)
  generalize hAe : va_A [(m0, .inr (7, [.int th, .int zz, .int (nI rn), .ref rw, .int kn, .int rk, .int y1, .ref ry, .int sp, .int lg, .ref ti, .int fo, .int pt, .ref po, .ref su, .ref sq, .ref ch, .ref vt, .ref sh])), (rw, .inl (cI, 32, .inl wf)), (yy, .inl (cI, yz, .inl g))] s.heap.size = A at hD hA0 ⊢
  have hA : ∀ q : Nat, s.heap.size ≤ q → A q := fun q h => by rw [← hAe]; exact Or.inr h
  have hS : va_S A s.heap s.heap [] := va_S.rf
  have hl := lv_entry ([.ref m0, .ref yy, .int (nI a)]) (n := 5) (Nat.le_of_ble_eq_true rfl)
  rw [lg_entry_eq]
  generalize (lg_sl ([.ref m0, .ref yy, .int (nI a)]) ++ List.replicate (5 - (lg_sl ([.ref m0, .ref yy, .int (nI a)])).length) Slot.unset).toArray = ls at hl ⊢
  have hl : lv_has ls 5 [(0, .ref m0), (1, .ref yy), (2, .int (nI a))] := hl
  have hP : va_P D kl [(m0, .inr (7, [.int th, .int zz, .int (nI rn), .ref rw, .int kn, .int rk, .int y1, .ref ry, .int sp, .int lg, .ref ti, .int fo, .int pt, .ref po, .ref su, .ref sq, .ref ch, .ref vt, .ref sh])), (rw, .inl (cI, 32, .inl wf)), (yy, .inl (cI, yz, .inl g))] s.heap := hP
  have hml : c.maxLocals = 5 := hml
  generalize hQe : tx_Z below (cx_Q D kl A (fun o9 _ w9 => o9 = .returned (some (.int (0 : Int32))) ∧ w9 = [(m0, .inr (7, [.int th, .int zz, .int (nI rn), .ref rw, .int kn, .int rk, .int y1, .ref ry, .int sp, .int lg, .ref ti, .int fo, .int pt, .ref po, .ref su, .ref sq, .ref ch, .ref vt, .ref sh])), (rw, .inl (cI, 32, .inl wf)), (yy, .inl (cI, yz, .inl g))])) ([.ref m0, .ref yy, .int (nI a)] : List Value).toArray s 0 0 A = Q
  refine lv_iconst (v := (1 : Int32)) hx hb d_M_holdsAt_0 (by decide) ?_
  refine lv_istore_n (lv' := [(3, .int (1 : Int32)), (0, .ref m0), (1, .ref yy), (2, .int (nI a))]) hx hb d_M_holdsAt_1 rfl hl (by decide) rfl (fun ls hl => ?_)
  refine lv_iconst (v := (0 : Int32)) hx hb d_M_holdsAt_2 (by decide) ?_
  refine lv_istore (lv' := [(4, .int (0 : Int32)), (3, .int (1 : Int32)), (0, .ref m0), (1, .ref yy), (2, .int (nI a))]) hx hb d_M_holdsAt_3 hl (by decide) rfl (fun ls hl => ?_)
  have lp_5 : ∀ (n9 : Nat) (k : Nat) (v : Int32) (ls : Array Slot) (H : Heap) (locs : List Loc), rn - k = n9 → (k ≤ rn) → ((v = 1 ∧ ∀ q9, q9 < k → ¬ prm wf q9 g a < 0) ∨ v = 0) → lv_has ls 5 [(4, .int (nI k)), (3, .int v), (0, .ref m0), (1, .ref yy), (2, .int (nI a))] → va_P D kl [(m0, .inr (7, [.int th, .int zz, .int (nI rn), .ref rw, .int kn, .int rk, .int y1, .ref ry, .int sp, .int lg, .ref ti, .int fo, .int pt, .ref po, .ref su, .ref sq, .ref ch, .ref vt, .ref sh])), (rw, .inl (cI, 32, .inl wf)), (yy, .inl (cI, yz, .inl g))] H → va_D A [(m0, .inr (7, [.int th, .int zz, .int (nI rn), .ref rw, .int kn, .int rk, .int y1, .ref ry, .int sp, .int lg, .ref ti, .int fo, .int pt, .ref po, .ref su, .ref sq, .ref ch, .ref vt, .ref sh])), (rw, .inl (cI, 32, .inl wf)), (yy, .inl (cI, yz, .inl g))] → va_S A s.heap H locs → W p l e ({ frames := 1, cells := 0, slots := 0, locals := 26 } : Room) s m ([.ref m0, .ref yy, .int (nI a)] : List Value).toArray below meth c H locs 0 0 Q (F0 m 5 ls []) := by
    intro n9
    induction n9 using Nat.strongRecOn with
    | ind n9 ih_5 =>
      intro k v ls H locs hm_5 hk9 hv9 hl hP hD hS
      refine lv_iload hx hb d_M_holdsAt_5 (lv_at hl 0 rfl) ?_
      refine lv_aload_n hx hb d_M_holdsAt_7 rfl (lv_at hl 2 rfl) ?_
      refine va_get (D := D) (ci := 7) (v := .int (nI rn)) (C := cn_M) (T := ft_M) (N := 19) hx hb hf_M (fun _ h => h) hown hK hP 0 rfl rfl 2 (by decide) (gw.at G hx0 mw_715 rfl _) (fun _ h9 => h9) rfl d_M_holdsAt_8 ?_
      refine lv_icmp_ge (tgt := 43) hx hb d_M_holdsAt_11 (by decide) (fun h_1 => ?_) (fun h_1 => ?_)
      · have h_1 : rn ≤ k := (nI_leI (a := rn) (b := k) (by omega) (by omega)).mp h_1
        refine lv_iload_n hx hb d_M_holdsAt_43 rfl (lv_at hl 1 rfl) ?_
        have hk8 : k = rn := by omega
        refine tp_i (y := (0 : Int32)) (hv9.elim (fun z9 => absurd (hk8 ▸ z9.2) h) id) ?_
        rw [← hQe]
        exact tx_mono (fun _ h => tx_Z.of h) (W.zret (v := (0 : Int32)) hx hb hr (by decide) (fun t ht hW => ⟨⟨[(m0, .inr (7, [.int th, .int zz, .int (nI rn), .ref rw, .int kn, .int rk, .int y1, .ref ry, .int sp, .int lg, .ref ti, .int fo, .int pt, .ref po, .ref su, .ref sq, .ref ch, .ref vt, .ref sh])), (rw, .inl (cI, 32, .inl wf)), (yy, .inl (cI, yz, .inl g))], ⟨rfl, rfl⟩, by rw [ht]; exact hP.sub [0, 1, 2] rfl, hD.sub [0, 1, 2] (by decide) rfl⟩, hS.F ht⟩) hS.2.2 d_M_holdsAt_44)
      · have h_1 : ¬ (rn ≤ k) := fun z99 => h_1 ((nI_leI (a := rn) (b := k) (by omega) (by omega)).mpr z99)
        refine lv_iload_n hx hb d_M_holdsAt_14 rfl (lv_at hl 1 rfl) ?_
        refine lv_if_eq (tgt := 35) hx hb d_M_holdsAt_15 (by decide) (fun h_2 => ?_) (fun h_2 => ?_)
        · refine lv_iconst (v := (0 : Int32)) hx hb d_M_holdsAt_35 (by decide) ?_
          refine lv_istore_n (lv' := [(3, .int (0 : Int32)), (4, .int (nI k)), (0, .ref m0), (1, .ref yy), (2, .int (nI a))]) hx hb d_M_holdsAt_36 rfl hl (by decide) rfl (fun ls hl => ?_)
          refine lv_iinc (lv' := [(4, .int (nI (k + 1))), (3, .int (0 : Int32)), (0, .ref m0), (1, .ref yy), (2, .int (nI a))]) (k := 1) (v := nI (k + 1)) hx hb d_M_holdsAt_37 hl rfl (nI_add k 1) (by decide) rfl (fun ls hl => ?_)
          refine lv_goto (tgt := 5) hx hb d_M_holdsAt_40 (by decide) ?_
          exact ih_5 _ (by omega) (k + 1) 0 ls H locs rfl (by omega) (Or.inr rfl) (lv_sub hl [0, 1, 2, 3, 4] rfl) (hP.sub [0, 1, 2] rfl) (hD.sub [0, 1, 2] (by decide) rfl) hS
        · refine lv_aload_n hx hb d_M_holdsAt_18 rfl (lv_at hl 2 rfl) ?_
          refine lv_iload hx hb d_M_holdsAt_19 (lv_at hl 0 rfl) ?_
          refine lv_aload_n hx hb d_M_holdsAt_21 rfl (lv_at hl 3 rfl) ?_
          refine lv_iload_n hx hb d_M_holdsAt_22 rfl (lv_at hl 4 rfl) ?_
          refine cx_call (D := D) (cl := kl) (ws := _) (wc := [(m0, .inr (7, [.int th, .int zz, .int (nI rn), .ref rw, .int kn, .int rk, .int y1, .ref ry, .int sp, .int lg, .ref ti, .int fo, .int pt, .ref po, .ref su, .ref sq, .ref ch, .ref vt, .ref sh])), (rw, .inl (cI, 32, .inl wf)), (yy, .inl (cI, yz, .inl g))]) (wr := []) (tx_runV (C := cn_M) (b := m0) (As := [.int (nI k), .ref yy, .int (nI a)]) (rest := []) hx hb hml hown (c_M_product E H.size m0 rw ry ti po su sq ch vt sh th zz kn rk y1 sp lg fo pt rn wf k yy yz g a (by omega) ha hz) (cx_C (b0 := b0) G hx0 mw_840 mw_9 ny_M_product (by decide)) (gw.at G hx0 mw_837 rfl _) (gw.at G hx0 mw_839 rfl _) (gw.at G hx0 ms_M_product rfl _) ⟨cx_blind, va_recv hK hP (q0 := 0) (ci := 7) (q := (cn_M, ft_M, 19)) rfl rfl, (cx_pre (s := s) hx0 hP hD hS hA0 [0, 1, 2] rfl rfl (by decide))⟩ rfl rfl hl.1 rfl (lv_room (Nat.le_of_ble_eq_true rfl)) d_M_holdsAt_23 ⟨by decide, by decide⟩) hP hD hS hA [0, 1, 2] [] rfl rfl (by decide) (by decide) (fun v t w1 H locs ht hW9 hp hP hD hS => ?_) (fun x t w1 H locs ht hW9 hp hP hD hS => by obtain ⟨h9, -⟩ := hp; cases h9)
          obtain ⟨h9, rfl⟩ := hp
          cases h9
          refine W.eq (g2 := F0 m 26 ls [.long (prm wf k g a)]) rfl ?_
          refine W.widen (k := 0) (n := 0) (by decide) (by decide) ?_
          have hP : va_P D kl [(m0, .inr (7, [.int th, .int zz, .int (nI rn), .ref rw, .int kn, .int rk, .int y1, .ref ry, .int sp, .int lg, .ref ti, .int fo, .int pt, .ref po, .ref su, .ref sq, .ref ch, .ref vt, .ref sh])), (rw, .inl (cI, 32, .inl wf)), (yy, .inl (cI, yz, .inl g))] H := hP
          have hD : va_D A [(m0, .inr (7, [.int th, .int zz, .int (nI rn), .ref rw, .int kn, .int rk, .int y1, .ref ry, .int sp, .int lg, .ref ti, .int fo, .int pt, .ref po, .ref su, .ref sq, .ref ch, .ref vt, .ref sh])), (rw, .inl (cI, 32, .inl wf)), (yy, .inl (cI, yz, .inl g))] := hD
          refine lv_lconst (v := (0 : Int64)) hx hb d_M_holdsAt_26 (by decide) ?_
          refine W.lcmp hx hb d_M_holdsAt_27 ?_
          refine lv_if_lt (tgt := 35) hx hb d_M_holdsAt_28 (by decide) (fun h_3 => ?_) (fun h_3 => ?_)
          · refine lv_iconst (v := (0 : Int32)) hx hb d_M_holdsAt_35 (by decide) ?_
            refine lv_istore_n (lv' := [(3, .int (0 : Int32)), (4, .int (nI k)), (0, .ref m0), (1, .ref yy), (2, .int (nI a))]) hx hb d_M_holdsAt_36 rfl hl (by decide) rfl (fun ls hl => ?_)
            refine lv_iinc (lv' := [(4, .int (nI (k + 1))), (3, .int (0 : Int32)), (0, .ref m0), (1, .ref yy), (2, .int (nI a))]) (k := 1) (v := nI (k + 1)) hx hb d_M_holdsAt_37 hl rfl (nI_add k 1) (by decide) rfl (fun ls hl => ?_)
            refine lv_goto (tgt := 5) hx hb d_M_holdsAt_40 (by decide) ?_
            exact ih_5 _ (by omega) (k + 1) 0 ls H locs rfl (by omega) (Or.inr rfl) (lv_sub hl [0, 1, 2, 3, 4] rfl) (hP.sub [0, 1, 2] rfl) (hD.sub [0, 1, 2] (by decide) rfl) hS
          · refine lv_iconst (v := (1 : Int32)) hx hb d_M_holdsAt_31 (by decide) ?_
            refine lv_goto (tgt := 36) hx hb d_M_holdsAt_32 (by decide) ?_
            refine lv_istore_n (lv' := [(3, .int (1 : Int32)), (4, .int (nI k)), (0, .ref m0), (1, .ref yy), (2, .int (nI a))]) hx hb d_M_holdsAt_36 rfl hl (by decide) rfl (fun ls hl => ?_)
            refine lv_iinc (lv' := [(4, .int (nI (k + 1))), (3, .int (1 : Int32)), (0, .ref m0), (1, .ref yy), (2, .int (nI a))]) (k := 1) (v := nI (k + 1)) hx hb d_M_holdsAt_37 hl rfl (nI_add k 1) (by decide) rfl (fun ls hl => ?_)
            refine lv_goto (tgt := 5) hx hb d_M_holdsAt_40 (by decide) ?_
            exact ih_5 _ (by omega) (k + 1) 1 ls H locs rfl (by omega) (Or.inl ⟨rfl, fun q9 hq9 => (Nat.lt_succ_iff_lt_or_eq.mp hq9).elim ((hv9.elim id (fun z9 => absurd z9 h_2)).2 q9) (fun e9 => by rw [e9]; exact (fun z9 => h_3 ((lg_cmp_lt _ _).mpr z9)))⟩) (lv_sub hl [0, 1, 2, 3, 4] rfl) (hP.sub [0, 1, 2] rfl) (hD.sub [0, 1, 2] (by decide) rfl) hS
  exact lp_5 _ 0 1 ls s.heap [] rfl (Nat.zero_le _) (Or.inl ⟨rfl, fun q9 hq9 => absurd hq9 (Nat.not_lt_zero q9)⟩) (lv_sub hl [0, 1, 2, 3, 4] rfl) (hP.sub [0, 1, 2] rfl) (hD.sub [0, 1, 2] (by decide) rfl) hS

