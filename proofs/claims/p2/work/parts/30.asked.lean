/-! ===== own rows, laid by wip/tools/sym.py: what is asked of the faces ===== -/
def cof (dk : Nat → Nat) (d : Int32) : Nat → Nat
  | 0 => 0
  | n + 1 => if nI (dk n) = d then cof dk d n + 1 else cof dk d n
theorem cof_le (dk : Nat → Nat) (d : Int32) : ∀ n, cof dk d n ≤ n
  | 0 => Nat.le_refl 0
  | n + 1 => by
    show (if nI (dk n) = d then cof dk d n + 1 else cof dk d n) ≤ n + 1
    have h := cof_le dk d n
    split <;> omega
theorem cof_y {dk : Nat → Nat} {d : Int32} {n : Nat} (h : nI (dk n) = d) : cof dk d (n + 1) = cof dk d n + 1 := by
  show (if nI (dk n) = d then cof dk d n + 1 else cof dk d n) = _
  rw [if_pos h]
theorem cof_n {dk : Nat → Nat} {d : Int32} {n : Nat} (h : ¬ nI (dk n) = d) : cof dk d (n + 1) = cof dk d n := by
  show (if nI (dk n) = d then cof dk d n + 1 else cof dk d n) = _
  rw [if_neg h]
/-- a face bounds another one and leaves a ray out -/
def sdw (mk dk : Nat → Nat) (a b : Nat) (rb : Int32) : Prop := nI (dk a) = nI (dk b) - (1 : Int32) ∧ nI (mk a) &&& (nI (mk b) ^^^ (-1 : Int32)) = 0 ∧ nI (mk a) &&& rb = 0
set_option maxHeartbeats 4000000 in
set_option maxRecDepth 100000 in
theorem c_FL_countOf {l : Launch} {s0 : State} {b0 : Addr} {D : va_G} {cI cJ cZ : ClassId} {tC tS : Nat} (E : gE l s0 b0 D cI cJ cZ tC tS) (sz : Nat) (fl : Nat) (fm : Nat) (fd : Nat) (ft : Nat) (fc : Nat) (fn : Nat) (dk : Nat → Nat) (d : Int32) (hdk : ∀ j, dk j < 4096) (hfn : fn ≤ 40) : cx_M l s0 D kl y_FL_countOf b_FL_countOf 4 (some .int) ({ frames := 0, cells := 0, slots := 0, locals := 0 } : Room) 0 0 [.ref fl, .int d] [(fl, .inr (3, [.ref fm, .int (nI fn), .ref fd, .ref ft, .ref fc])), (fd, .inl (cI, 40, .inl (nf dk)))] sz (fun o9 _ w9 => o9 = .returned (some (.int (nI (cof dk d fn)))) ∧ w9 = [(fl, .inr (3, [.ref fm, .int (nI fn), .ref fd, .ref ft, .ref fc])), (fd, .inl (cI, 40, .inl (nf dk)))]) := by
  refine tx_ofW (cc := b_FL_countOf) (maxL := 4) (ret := (some .int)) (by decide) rfl ?_
  intro p e s m args below meth c s₁ B hml hT hv
  obtain ⟨rfl, hsz, hP, hD0, hx0⟩ := hv
  have hx := B.exec
  have hb := B.bytes
  have hr := B.returns
  have G := E.2.1
  have hown : s.vm.findClass cn_FL = some m.cls := findClass_of_methodNamed B.named
  have hlocks := B.notSynchronized
  have hK := va_K.moved hx0.1.alike E.2.2.1
  have hf_FL : ∀ w99 ∈ u_ws cn_FL ft_FL 5, w99.before ([.ref fl, .int d] : List Value).toArray s = true := fun w99 h99 => gw.at G hx0 (fw_FL w99 h99) (fo_FL w99 h99) _
  subst hsz
  have hA0 := cx_new hD0 hx0.2.1
  have hD := hD0.self (sz := s.heap.size)
  generalize hAe : va_A [(fl, .inr (3, [.ref fm, .int (nI fn), .ref fd, .ref ft, .ref fc])), (fd, .inl (cI, 40, .inl (nf dk)))] s.heap.size = A at hD hA0 ⊢
  have hA : ∀ q : Nat, s.heap.size ≤ q → A q := fun q h => by rw [← hAe]; exact Or.inr h
  have hS : va_S A s.heap s.heap [] := va_S.rf
  have hl := lv_entry ([.ref fl, .int d]) (n := 4) (Nat.le_of_ble_eq_true rfl)
  rw [lg_entry_eq]
  generalize (lg_sl ([.ref fl, .int d]) ++ List.replicate (4 - (lg_sl ([.ref fl, .int d])).length) Slot.unset).toArray = ls at hl ⊢
  have hl : lv_has ls 4 [(0, .ref fl), (1, .int d)] := hl
  have hP : va_P D kl [(fl, .inr (3, [.ref fm, .int (nI fn), .ref fd, .ref ft, .ref fc])), (fd, .inl (cI, 40, .inl (nf dk)))] s.heap := hP
  have hml : c.maxLocals = 4 := hml
  generalize hQe : tx_Z below (cx_Q D kl A (fun o9 _ w9 => o9 = .returned (some (.int (nI (cof dk d fn)))) ∧ w9 = [(fl, .inr (3, [.ref fm, .int (nI fn), .ref fd, .ref ft, .ref fc])), (fd, .inl (cI, 40, .inl (nf dk)))])) ([.ref fl, .int d] : List Value).toArray s 0 0 A = Q
  refine lv_iconst (v := (0 : Int32)) hx hb d_FL_countOf_0 (by decide) ?_
  refine lv_istore_n (lv' := [(2, .int (0 : Int32)), (0, .ref fl), (1, .int d)]) hx hb d_FL_countOf_1 rfl hl (by decide) rfl (fun ls hl => ?_)
  refine lv_iconst (v := (0 : Int32)) hx hb d_FL_countOf_2 (by decide) ?_
  refine lv_istore_n (lv' := [(3, .int (0 : Int32)), (2, .int (0 : Int32)), (0, .ref fl), (1, .int d)]) hx hb d_FL_countOf_3 rfl hl (by decide) rfl (fun ls hl => ?_)
  have lp_4 : ∀ (n9 : Nat) (q : Nat) (v : Nat) (ls : Array Slot) (H : Heap) (locs : List Loc), fn - q = n9 → (cof dk d q = v) → (q ≤ fn) → (v ≤ q) → lv_has ls 4 [(3, .int (nI q)), (2, .int (nI v)), (0, .ref fl), (1, .int d)] → va_P D kl [(fl, .inr (3, [.ref fm, .int (nI fn), .ref fd, .ref ft, .ref fc])), (fd, .inl (cI, 40, .inl (nf dk)))] H → va_D A [(fl, .inr (3, [.ref fm, .int (nI fn), .ref fd, .ref ft, .ref fc])), (fd, .inl (cI, 40, .inl (nf dk)))] → va_S A s.heap H locs → W p l e ({ frames := 0, cells := 0, slots := 0, locals := 0 } : Room) s m ([.ref fl, .int d] : List Value).toArray below meth c H locs 0 0 Q (F0 m 4 ls []) := by
    intro n9
    induction n9 using Nat.strongRecOn with
    | ind n9 ih_4 =>
      intro q v ls H locs hm_4 hv hq hvq hl hP hD hS
      refine lv_iload_n hx hb d_FL_countOf_4 rfl (lv_at hl 0 rfl) ?_
      refine lv_aload_n hx hb d_FL_countOf_5 rfl (lv_at hl 2 rfl) ?_
      refine va_get (D := D) (ci := 3) (v := .int (nI fn)) (C := cn_FL) (T := ft_FL) (N := 5) hx hb hf_FL (fun _ h => h) hown hK hP 0 rfl rfl 1 (by decide) (gw.at G hx0 mw_83 rfl _) (fun _ h9 => h9) rfl d_FL_countOf_6 ?_
      refine lv_icmp_ge (tgt := 31) hx hb d_FL_countOf_9 (by decide) (fun h_1 => ?_) (fun h_1 => ?_)
      · have h_1 : fn ≤ q := (nI_leI (a := fn) (b := q) (by omega) (by omega)).mp h_1
        refine lv_iload_n hx hb d_FL_countOf_31 rfl (lv_at hl 1 rfl) ?_
        rw [← hQe]
        exact tx_mono (fun _ h => tx_Z.of h) (W.iret (v := nI v) hx hb hr (fun t ht hW => ⟨⟨[(fl, .inr (3, [.ref fm, .int (nI fn), .ref fd, .ref ft, .ref fc])), (fd, .inl (cI, 40, .inl (nf dk)))], ⟨(by rw [show fn = q by omega, hv]), rfl⟩, by rw [ht]; exact hP.sub [0, 1] rfl, hD.sub [0, 1] (by decide) rfl⟩, hS.F ht⟩) hS.2.2 d_FL_countOf_32)
      · have h_1 : ¬ (fn ≤ q) := fun z99 => h_1 ((nI_leI (a := fn) (b := q) (by omega) (by omega)).mpr z99)
        refine lv_aload_n hx hb d_FL_countOf_12 rfl (lv_at hl 2 rfl) ?_
        refine va_get (D := D) (ci := 3) (v := .ref fd) (C := cn_FL) (T := ft_FL) (N := 5) hx hb hf_FL (fun _ h => h) hown hK hP 0 rfl rfl 2 (by decide) (gw.at G hx0 mw_85 rfl _) (fun _ h9 => h9) rfl d_FL_countOf_13 ?_
        refine lv_iload_n hx hb d_FL_countOf_16 rfl (lv_at hl 0 rfl) ?_
        refine va_iald hx hb hK hP 1 0 rfl rfl (vp_in_nI (n := q) (by omega) (by omega)) d_FL_countOf_17 ?_
        refine tp_i (y := (nf dk) q) (congrArg (nf dk) (nI_clamp (n := q) (by omega))) ?_
        refine tp_i (y := nI (dk q)) rfl ?_
        have hb_2 := hdk q
        refine lv_iload_n hx hb d_FL_countOf_18 rfl (lv_at hl 3 rfl) ?_
        refine lv_icmp_ne (tgt := 25) hx hb d_FL_countOf_19 (by decide) (fun h_3 => ?_) (fun h_3 => ?_)
        · refine lv_iinc (lv' := [(3, .int (nI (q + 1))), (2, .int (nI v)), (0, .ref fl), (1, .int d)]) (k := 0) (v := nI (q + 1)) hx hb d_FL_countOf_25 hl rfl (nI_add q 1) (by decide) rfl (fun ls hl => ?_)
          refine lv_goto (tgt := 4) hx hb d_FL_countOf_28 (by decide) ?_
          exact ih_4 _ (by omega) (q + 1) v ls H locs rfl (by rw [cof_n h_3, hv]) (by omega) (by omega) (lv_sub hl [0, 1, 2, 3] rfl) (hP.sub [0, 1] rfl) (hD.sub [0, 1] (by decide) rfl) hS
        · refine lv_iinc (lv' := [(2, .int (nI (v + 1))), (3, .int (nI q)), (0, .ref fl), (1, .int d)]) (k := 1) (v := nI (v + 1)) hx hb d_FL_countOf_22 hl rfl (nI_add v 1) (by decide) rfl (fun ls hl => ?_)
          refine lv_iinc (lv' := [(3, .int (nI (q + 1))), (2, .int (nI (v + 1))), (0, .ref fl), (1, .int d)]) (k := 1) (v := nI (q + 1)) hx hb d_FL_countOf_25 hl rfl (nI_add q 1) (by decide) rfl (fun ls hl => ?_)
          refine lv_goto (tgt := 4) hx hb d_FL_countOf_28 (by decide) ?_
          exact ih_4 _ (by omega) (q + 1) (v + 1) ls H locs rfl (by rw [cof_y h_3, hv]) (by omega) (by omega) (lv_sub hl [0, 1, 2, 3] rfl) (hP.sub [0, 1] rfl) (hD.sub [0, 1] (by decide) rfl) hS
  exact lp_4 _ 0 0 ls s.heap [] rfl rfl (Nat.zero_le _) (Nat.le_refl _) (lv_sub hl [0, 1, 2, 3] rfl) (hP.sub [0, 1] rfl) (hD.sub [0, 1] (by decide) rfl) hS

set_option maxHeartbeats 4000000 in
set_option maxRecDepth 100000 in
theorem c_FL_first_y {l : Launch} {s0 : State} {b0 : Addr} {D : va_G} {cI cJ cZ : ClassId} {tC tS : Nat} (E : gE l s0 b0 D cI cJ cZ tC tS) (sz : Nat) (fl : Nat) (fm : Nat) (fd : Nat) (ft : Nat) (fc : Nat) (fn : Nat) (tn : Nat → Nat) (k : Nat) (htn : ∀ j, tn j < 4096) (hk : k < 8) (h : (∀ r, r < k → ¬ tn r = tn k)) : cx_M l s0 D kl y_FL_isFirstAtItsFace b_FL_isFirstAtItsFace 3 (some .boolean) ({ frames := 0, cells := 0, slots := 0, locals := 0 } : Room) 0 0 [.ref fl, .int (nI k)] [(fl, .inr (3, [.ref fm, .int (nI fn), .ref fd, .ref ft, .ref fc])), (ft, .inl (cI, 8, .inl (nf tn)))] sz (fun o9 _ w9 => o9 = .returned (some (.int (1 : Int32))) ∧ w9 = [(fl, .inr (3, [.ref fm, .int (nI fn), .ref fd, .ref ft, .ref fc])), (ft, .inl (cI, 8, .inl (nf tn)))]) := by
  refine tx_ofW (cc := b_FL_isFirstAtItsFace) (maxL := 3) (ret := (some .boolean)) (by decide) rfl ?_
  intro p e s m args below meth c s₁ B hml hT hv
  obtain ⟨rfl, hsz, hP, hD0, hx0⟩ := hv
  have hx := B.exec
  have hb := B.bytes
  have hr := B.returns
  have G := E.2.1
  have hown : s.vm.findClass cn_FL = some m.cls := findClass_of_methodNamed B.named
  have hlocks := B.notSynchronized
  have hK := va_K.moved hx0.1.alike E.2.2.1
  have hf_FL : ∀ w99 ∈ u_ws cn_FL ft_FL 5, w99.before ([.ref fl, .int (nI k)] : List Value).toArray s = true := fun w99 h99 => gw.at G hx0 (fw_FL w99 h99) (fo_FL w99 h99) _
  subst hsz
  have hA0 := cx_new hD0 hx0.2.1
  have hD := hD0.self (sz := s.heap.size)
  generalize hAe : va_A [(fl, .inr (3, [.ref fm, .int (nI fn), .ref fd, .ref ft, .ref fc])), (ft, .inl (cI, 8, .inl (nf tn)))] s.heap.size = A at hD hA0 ⊢
  have hA : ∀ q : Nat, s.heap.size ≤ q → A q := fun q h => by rw [← hAe]; exact Or.inr h
  have hS : va_S A s.heap s.heap [] := va_S.rf
  have hl := lv_entry ([.ref fl, .int (nI k)]) (n := 3) (Nat.le_of_ble_eq_true rfl)
  rw [lg_entry_eq]
  generalize (lg_sl ([.ref fl, .int (nI k)]) ++ List.replicate (3 - (lg_sl ([.ref fl, .int (nI k)])).length) Slot.unset).toArray = ls at hl ⊢
  have hl : lv_has ls 3 [(0, .ref fl), (1, .int (nI k))] := hl
  have hP : va_P D kl [(fl, .inr (3, [.ref fm, .int (nI fn), .ref fd, .ref ft, .ref fc])), (ft, .inl (cI, 8, .inl (nf tn)))] s.heap := hP
  have hml : c.maxLocals = 3 := hml
  generalize hQe : tx_Z below (cx_Q D kl A (fun o9 _ w9 => o9 = .returned (some (.int (1 : Int32))) ∧ w9 = [(fl, .inr (3, [.ref fm, .int (nI fn), .ref fd, .ref ft, .ref fc])), (ft, .inl (cI, 8, .inl (nf tn)))])) ([.ref fl, .int (nI k)] : List Value).toArray s 0 0 A = Q
  refine lv_iconst (v := (0 : Int32)) hx hb d_FL_isFirstAtItsFace_0 (by decide) ?_
  refine lv_istore_n (lv' := [(2, .int (0 : Int32)), (0, .ref fl), (1, .int (nI k))]) hx hb d_FL_isFirstAtItsFace_1 rfl hl (by decide) rfl (fun ls hl => ?_)
  have lp_2 : ∀ (n9 : Nat) (q : Nat) (ls : Array Slot) (H : Heap) (locs : List Loc), k - q = n9 → (∀ r, r < q → ¬ tn r = tn k) → (q ≤ k) → lv_has ls 3 [(2, .int (nI q)), (0, .ref fl), (1, .int (nI k))] → va_P D kl [(fl, .inr (3, [.ref fm, .int (nI fn), .ref fd, .ref ft, .ref fc])), (ft, .inl (cI, 8, .inl (nf tn)))] H → va_D A [(fl, .inr (3, [.ref fm, .int (nI fn), .ref fd, .ref ft, .ref fc])), (ft, .inl (cI, 8, .inl (nf tn)))] → va_S A s.heap H locs → W p l e ({ frames := 0, cells := 0, slots := 0, locals := 0 } : Room) s m ([.ref fl, .int (nI k)] : List Value).toArray below meth c H locs 0 0 Q (F0 m 2 ls []) := by
    intro n9
    induction n9 using Nat.strongRecOn with
    | ind n9 ih_2 =>
      intro q ls H locs hm_2 hi hq hl hP hD hS
      refine lv_iload_n hx hb d_FL_isFirstAtItsFace_2 rfl (lv_at hl 0 rfl) ?_
      refine lv_iload_n hx hb d_FL_isFirstAtItsFace_3 rfl (lv_at hl 2 rfl) ?_
      refine lv_icmp_ge (tgt := 30) hx hb d_FL_isFirstAtItsFace_4 (by decide) (fun h_1 => ?_) (fun h_1 => ?_)
      · have h_1 : k ≤ q := (nI_leI (a := k) (b := q) (by omega) (by omega)).mp h_1
        refine lv_iconst (v := (1 : Int32)) hx hb d_FL_isFirstAtItsFace_30 (by decide) ?_
        rw [← hQe]
        exact tx_mono (fun _ h => tx_Z.of h) (W.zret (v := (1 : Int32)) hx hb hr (by decide) (fun t ht hW => ⟨⟨[(fl, .inr (3, [.ref fm, .int (nI fn), .ref fd, .ref ft, .ref fc])), (ft, .inl (cI, 8, .inl (nf tn)))], ⟨rfl, rfl⟩, by rw [ht]; exact hP.sub [0, 1] rfl, hD.sub [0, 1] (by decide) rfl⟩, hS.F ht⟩) hS.2.2 d_FL_isFirstAtItsFace_31)
      · have h_1 : ¬ (k ≤ q) := fun z99 => h_1 ((nI_leI (a := k) (b := q) (by omega) (by omega)).mpr z99)
        refine lv_aload_n hx hb d_FL_isFirstAtItsFace_7 rfl (lv_at hl 1 rfl) ?_
        refine va_get (D := D) (ci := 3) (v := .ref ft) (C := cn_FL) (T := ft_FL) (N := 5) hx hb hf_FL (fun _ h => h) hown hK hP 0 rfl rfl 3 (by decide) (gw.at G hx0 mw_86 rfl _) (fun _ h9 => h9) rfl d_FL_isFirstAtItsFace_8 ?_
        refine lv_iload_n hx hb d_FL_isFirstAtItsFace_11 rfl (lv_at hl 0 rfl) ?_
        refine va_iald hx hb hK hP 1 0 rfl rfl (vp_in_nI (n := q) (by omega) (by omega)) d_FL_isFirstAtItsFace_12 ?_
        refine tp_i (y := (nf tn) q) (congrArg (nf tn) (nI_clamp (n := q) (by omega))) ?_
        refine tp_i (y := nI (tn q)) rfl ?_
        have hb_2 := htn q
        refine lv_aload_n hx hb d_FL_isFirstAtItsFace_13 rfl (lv_at hl 1 rfl) ?_
        refine va_get (D := D) (ci := 3) (v := .ref ft) (C := cn_FL) (T := ft_FL) (N := 5) hx hb hf_FL (fun _ h => h) hown hK hP 0 rfl rfl 3 (by decide) (gw.at G hx0 mw_86 rfl _) (fun _ h9 => h9) rfl d_FL_isFirstAtItsFace_14 ?_
        refine lv_iload_n hx hb d_FL_isFirstAtItsFace_17 rfl (lv_at hl 2 rfl) ?_
        refine va_iald hx hb hK hP 1 0 rfl rfl (vp_in_nI (n := k) (by omega) (by omega)) d_FL_isFirstAtItsFace_18 ?_
        refine tp_i (y := (nf tn) k) (congrArg (nf tn) (nI_clamp (n := k) (by omega))) ?_
        refine tp_i (y := nI (tn k)) rfl ?_
        have hb_3 := htn k
        refine lv_icmp_ne (tgt := 24) hx hb d_FL_isFirstAtItsFace_19 (by decide) (fun _ => ?_) (fun h99 => absurd h99 (fun z99 => h q (by omega) ((nI_eq (a := tn q) (b := tn k) (by omega) (by omega)).mp z99)))
        refine lv_iinc (lv' := [(2, .int (nI (q + 1))), (0, .ref fl), (1, .int (nI k))]) (k := 0) (v := nI (q + 1)) hx hb d_FL_isFirstAtItsFace_24 hl rfl (nI_add q 1) (by decide) rfl (fun ls hl => ?_)
        refine lv_goto (tgt := 2) hx hb d_FL_isFirstAtItsFace_27 (by decide) ?_
        exact ih_2 _ (by omega) (q + 1) ls H locs rfl (fun r hr => h r (by omega)) (by omega) (lv_sub hl [0, 1, 2] rfl) (hP.sub [0, 1] rfl) (hD.sub [0, 1] (by decide) rfl) hS
  exact lp_2 _ 0 ls s.heap [] rfl (fun r hr => absurd hr (Nat.not_lt_zero r)) (Nat.zero_le _) (lv_sub hl [0, 1, 2] rfl) (hP.sub [0, 1] rfl) (hD.sub [0, 1] (by decide) rfl) hS

set_option maxHeartbeats 4000000 in
set_option maxRecDepth 100000 in
theorem c_FL_first_n {l : Launch} {s0 : State} {b0 : Addr} {D : va_G} {cI cJ cZ : ClassId} {tC tS : Nat} (E : gE l s0 b0 D cI cJ cZ tC tS) (sz : Nat) (fl : Nat) (fm : Nat) (fd : Nat) (ft : Nat) (fc : Nat) (fn : Nat) (tn : Nat → Nat) (k : Nat) (htn : ∀ j, tn j < 4096) (hk : k < 8) (h : ¬ (∀ r, r < k → ¬ tn r = tn k)) : cx_M l s0 D kl y_FL_isFirstAtItsFace b_FL_isFirstAtItsFace 3 (some .boolean) ({ frames := 0, cells := 0, slots := 0, locals := 0 } : Room) 0 0 [.ref fl, .int (nI k)] [(fl, .inr (3, [.ref fm, .int (nI fn), .ref fd, .ref ft, .ref fc])), (ft, .inl (cI, 8, .inl (nf tn)))] sz (fun o9 _ w9 => o9 = .returned (some (.int (0 : Int32))) ∧ w9 = [(fl, .inr (3, [.ref fm, .int (nI fn), .ref fd, .ref ft, .ref fc])), (ft, .inl (cI, 8, .inl (nf tn)))]) := by
  refine tx_ofW (cc := b_FL_isFirstAtItsFace) (maxL := 3) (ret := (some .boolean)) (by decide) rfl ?_
  intro p e s m args below meth c s₁ B hml hT hv
  obtain ⟨rfl, hsz, hP, hD0, hx0⟩ := hv
  have hx := B.exec
  have hb := B.bytes
  have hr := B.returns
  have G := E.2.1
  have hown : s.vm.findClass cn_FL = some m.cls := findClass_of_methodNamed B.named
  have hlocks := B.notSynchronized
  have hK := va_K.moved hx0.1.alike E.2.2.1
  have hf_FL : ∀ w99 ∈ u_ws cn_FL ft_FL 5, w99.before ([.ref fl, .int (nI k)] : List Value).toArray s = true := fun w99 h99 => gw.at G hx0 (fw_FL w99 h99) (fo_FL w99 h99) _
  subst hsz
  have hA0 := cx_new hD0 hx0.2.1
  have hD := hD0.self (sz := s.heap.size)
  generalize hAe : va_A [(fl, .inr (3, [.ref fm, .int (nI fn), .ref fd, .ref ft, .ref fc])), (ft, .inl (cI, 8, .inl (nf tn)))] s.heap.size = A at hD hA0 ⊢
  have hA : ∀ q : Nat, s.heap.size ≤ q → A q := fun q h => by rw [← hAe]; exact Or.inr h
  have hS : va_S A s.heap s.heap [] := va_S.rf
  have hl := lv_entry ([.ref fl, .int (nI k)]) (n := 3) (Nat.le_of_ble_eq_true rfl)
  rw [lg_entry_eq]
  generalize (lg_sl ([.ref fl, .int (nI k)]) ++ List.replicate (3 - (lg_sl ([.ref fl, .int (nI k)])).length) Slot.unset).toArray = ls at hl ⊢
  have hl : lv_has ls 3 [(0, .ref fl), (1, .int (nI k))] := hl
  have hP : va_P D kl [(fl, .inr (3, [.ref fm, .int (nI fn), .ref fd, .ref ft, .ref fc])), (ft, .inl (cI, 8, .inl (nf tn)))] s.heap := hP
  have hml : c.maxLocals = 3 := hml
  generalize hQe : tx_Z below (cx_Q D kl A (fun o9 _ w9 => o9 = .returned (some (.int (0 : Int32))) ∧ w9 = [(fl, .inr (3, [.ref fm, .int (nI fn), .ref fd, .ref ft, .ref fc])), (ft, .inl (cI, 8, .inl (nf tn)))])) ([.ref fl, .int (nI k)] : List Value).toArray s 0 0 A = Q
  refine lv_iconst (v := (0 : Int32)) hx hb d_FL_isFirstAtItsFace_0 (by decide) ?_
  refine lv_istore_n (lv' := [(2, .int (0 : Int32)), (0, .ref fl), (1, .int (nI k))]) hx hb d_FL_isFirstAtItsFace_1 rfl hl (by decide) rfl (fun ls hl => ?_)
  have lp_2 : ∀ (n9 : Nat) (q : Nat) (ls : Array Slot) (H : Heap) (locs : List Loc), k - q = n9 → (∀ r, r < q → ¬ tn r = tn k) → (q ≤ k) → lv_has ls 3 [(2, .int (nI q)), (0, .ref fl), (1, .int (nI k))] → va_P D kl [(fl, .inr (3, [.ref fm, .int (nI fn), .ref fd, .ref ft, .ref fc])), (ft, .inl (cI, 8, .inl (nf tn)))] H → va_D A [(fl, .inr (3, [.ref fm, .int (nI fn), .ref fd, .ref ft, .ref fc])), (ft, .inl (cI, 8, .inl (nf tn)))] → va_S A s.heap H locs → W p l e ({ frames := 0, cells := 0, slots := 0, locals := 0 } : Room) s m ([.ref fl, .int (nI k)] : List Value).toArray below meth c H locs 0 0 Q (F0 m 2 ls []) := by
    intro n9
    induction n9 using Nat.strongRecOn with
    | ind n9 ih_2 =>
      intro q ls H locs hm_2 hi hq hl hP hD hS
      refine lv_iload_n hx hb d_FL_isFirstAtItsFace_2 rfl (lv_at hl 0 rfl) ?_
      refine lv_iload_n hx hb d_FL_isFirstAtItsFace_3 rfl (lv_at hl 2 rfl) ?_
      refine lv_icmp_ge (tgt := 30) hx hb d_FL_isFirstAtItsFace_4 (by decide) (fun h_1 => ?_) (fun h_1 => ?_)
      · have h_1 : k ≤ q := (nI_leI (a := k) (b := q) (by omega) (by omega)).mp h_1
        refine lv_iconst (v := (1 : Int32)) hx hb d_FL_isFirstAtItsFace_30 (by decide) ?_
        exact absurd (fun r hr => hi r (by omega)) h
      · have h_1 : ¬ (k ≤ q) := fun z99 => h_1 ((nI_leI (a := k) (b := q) (by omega) (by omega)).mpr z99)
        refine lv_aload_n hx hb d_FL_isFirstAtItsFace_7 rfl (lv_at hl 1 rfl) ?_
        refine va_get (D := D) (ci := 3) (v := .ref ft) (C := cn_FL) (T := ft_FL) (N := 5) hx hb hf_FL (fun _ h => h) hown hK hP 0 rfl rfl 3 (by decide) (gw.at G hx0 mw_86 rfl _) (fun _ h9 => h9) rfl d_FL_isFirstAtItsFace_8 ?_
        refine lv_iload_n hx hb d_FL_isFirstAtItsFace_11 rfl (lv_at hl 0 rfl) ?_
        refine va_iald hx hb hK hP 1 0 rfl rfl (vp_in_nI (n := q) (by omega) (by omega)) d_FL_isFirstAtItsFace_12 ?_
        refine tp_i (y := (nf tn) q) (congrArg (nf tn) (nI_clamp (n := q) (by omega))) ?_
        refine tp_i (y := nI (tn q)) rfl ?_
        have hb_2 := htn q
        refine lv_aload_n hx hb d_FL_isFirstAtItsFace_13 rfl (lv_at hl 1 rfl) ?_
        refine va_get (D := D) (ci := 3) (v := .ref ft) (C := cn_FL) (T := ft_FL) (N := 5) hx hb hf_FL (fun _ h => h) hown hK hP 0 rfl rfl 3 (by decide) (gw.at G hx0 mw_86 rfl _) (fun _ h9 => h9) rfl d_FL_isFirstAtItsFace_14 ?_
        refine lv_iload_n hx hb d_FL_isFirstAtItsFace_17 rfl (lv_at hl 2 rfl) ?_
        refine va_iald hx hb hK hP 1 0 rfl rfl (vp_in_nI (n := k) (by omega) (by omega)) d_FL_isFirstAtItsFace_18 ?_
        refine tp_i (y := (nf tn) k) (congrArg (nf tn) (nI_clamp (n := k) (by omega))) ?_
        refine tp_i (y := nI (tn k)) rfl ?_
        have hb_3 := htn k
        refine lv_icmp_ne (tgt := 24) hx hb d_FL_isFirstAtItsFace_19 (by decide) (fun h_4 => ?_) (fun h_4 => ?_)
        · have h_4 : ¬ ((tn q) = (tn k)) := fun z99 => h_4 ((nI_eq (a := tn q) (b := tn k) (by omega) (by omega)).mpr z99)
          refine lv_iinc (lv' := [(2, .int (nI (q + 1))), (0, .ref fl), (1, .int (nI k))]) (k := 0) (v := nI (q + 1)) hx hb d_FL_isFirstAtItsFace_24 hl rfl (nI_add q 1) (by decide) rfl (fun ls hl => ?_)
          refine lv_goto (tgt := 2) hx hb d_FL_isFirstAtItsFace_27 (by decide) ?_
          exact ih_2 _ (by omega) (q + 1) ls H locs rfl (fun r hr => (Nat.lt_succ_iff_lt_or_eq.mp hr).elim (hi r) (fun e => by rw [e]; exact h_4)) (by omega) (lv_sub hl [0, 1, 2] rfl) (hP.sub [0, 1] rfl) (hD.sub [0, 1] (by decide) rfl) hS
        · have h_4 : (tn q) = (tn k) := (nI_eq (a := tn q) (b := tn k) (by omega) (by omega)).mp h_4
          refine lv_iconst (v := (0 : Int32)) hx hb d_FL_isFirstAtItsFace_22 (by decide) ?_
          rw [← hQe]
          exact tx_mono (fun _ h => tx_Z.of h) (W.zret (v := (0 : Int32)) hx hb hr (by decide) (fun t ht hW => ⟨⟨[(fl, .inr (3, [.ref fm, .int (nI fn), .ref fd, .ref ft, .ref fc])), (ft, .inl (cI, 8, .inl (nf tn)))], ⟨rfl, rfl⟩, by rw [ht]; exact hP.sub [0, 1] rfl, hD.sub [0, 1] (by decide) rfl⟩, hS.F ht⟩) hS.2.2 d_FL_isFirstAtItsFace_23)
  exact lp_2 _ 0 ls s.heap [] rfl (fun r hr => absurd hr (Nat.not_lt_zero r)) (Nat.zero_le _) (lv_sub hl [0, 1, 2] rfl) (hP.sub [0, 1] rfl) (hD.sub [0, 1] (by decide) rfl) hS

set_option maxHeartbeats 4000000 in
set_option maxRecDepth 100000 in
theorem c_FL_dimAt_y {l : Launch} {s0 : State} {b0 : Addr} {D : va_G} {cI cJ cZ : ClassId} {tC tS : Nat} (E : gE l s0 b0 D cI cJ cZ tC tS) (sz : Nat) (fl : Nat) (fm : Nat) (fd : Nat) (ft : Nat) (fc : Nat) (fn : Nat) (mk : Nat → Nat) (tn : Nat → Nat) (dk : Nat → Nat) (k : Nat) (hmk : ∀ j, mk j < 4096) (htn : ∀ j, tn j < 4096) (hdk : ∀ j, dk j < 4096) (hfn : fn ≤ 40) (hk : k < 8) (h : idx mk (tn k) fn < fn) : cx_M l s0 D kl y_FL_dimensionAt b_FL_dimensionAt 3 (some .int) ({ frames := 1, cells := 0, slots := 0, locals := 22 } : Room) 0 0 [.ref fl, .int (nI k)] [(fl, .inr (3, [.ref fm, .int (nI fn), .ref fd, .ref ft, .ref fc])), (fm, .inl (cI, 40, .inl (nf mk))), (ft, .inl (cI, 8, .inl (nf tn))), (fd, .inl (cI, 40, .inl (nf dk)))] sz (fun o9 _ w9 => o9 = .returned (some (.int (nI (dk (idx mk (tn k) fn))))) ∧ w9 = [(fl, .inr (3, [.ref fm, .int (nI fn), .ref fd, .ref ft, .ref fc])), (fm, .inl (cI, 40, .inl (nf mk))), (ft, .inl (cI, 8, .inl (nf tn))), (fd, .inl (cI, 40, .inl (nf dk)))]) := by
  refine tx_ofW (cc := b_FL_dimensionAt) (maxL := 3) (ret := (some .int)) (by decide) rfl ?_
  intro p e s m args below meth c s₁ B hml hT hv
  obtain ⟨rfl, hsz, hP, hD0, hx0⟩ := hv
  have hx := B.exec
  have hb := B.bytes
  have hr := B.returns
  have G := E.2.1
  have hown : s.vm.findClass cn_FL = some m.cls := findClass_of_methodNamed B.named
  have hlocks := B.notSynchronized
  have hK := va_K.moved hx0.1.alike E.2.2.1
  have hf_FL : ∀ w99 ∈ u_ws cn_FL ft_FL 5, w99.before ([.ref fl, .int (nI k)] : List Value).toArray s = true := fun w99 h99 => gw.at G hx0 (fw_FL w99 h99) (fo_FL w99 h99) _
  subst hsz
  have hA0 := cx_new hD0 hx0.2.1
  have hD := hD0.self (sz := s.heap.size)
  generalize hAe : va_A [(fl, .inr (3, [.ref fm, .int (nI fn), .ref fd, .ref ft, .ref fc])), (fm, .inl (cI, 40, .inl (nf mk))), (ft, .inl (cI, 8, .inl (nf tn))), (fd, .inl (cI, 40, .inl (nf dk)))] s.heap.size = A at hD hA0 ⊢
  have hA : ∀ q : Nat, s.heap.size ≤ q → A q := fun q h => by rw [← hAe]; exact Or.inr h
  have hS : va_S A s.heap s.heap [] := va_S.rf
  have hl := lv_entry ([.ref fl, .int (nI k)]) (n := 3) (Nat.le_of_ble_eq_true rfl)
  rw [lg_entry_eq]
  generalize (lg_sl ([.ref fl, .int (nI k)]) ++ List.replicate (3 - (lg_sl ([.ref fl, .int (nI k)])).length) Slot.unset).toArray = ls at hl ⊢
  have hl : lv_has ls 3 [(0, .ref fl), (1, .int (nI k))] := hl
  have hP : va_P D kl [(fl, .inr (3, [.ref fm, .int (nI fn), .ref fd, .ref ft, .ref fc])), (fm, .inl (cI, 40, .inl (nf mk))), (ft, .inl (cI, 8, .inl (nf tn))), (fd, .inl (cI, 40, .inl (nf dk)))] s.heap := hP
  have hml : c.maxLocals = 3 := hml
  refine lv_aload_n hx hb d_FL_dimensionAt_0 rfl (lv_at hl 0 rfl) ?_
  refine lv_aload_n hx hb d_FL_dimensionAt_1 rfl (lv_at hl 0 rfl) ?_
  refine va_get (D := D) (ci := 3) (v := .ref ft) (C := cn_FL) (T := ft_FL) (N := 5) hx hb hf_FL (fun _ h => h) hown hK hP 0 rfl rfl 3 (by decide) (gw.at G hx0 mw_86 rfl _) (fun _ h9 => h9) rfl d_FL_dimensionAt_2 ?_
  refine lv_iload_n hx hb d_FL_dimensionAt_5 rfl (lv_at hl 1 rfl) ?_
  refine va_iald hx hb hK hP 2 0 rfl rfl (vp_in_nI (n := k) (by omega) (by omega)) d_FL_dimensionAt_6 ?_
  refine tp_i (y := (nf tn) k) (congrArg (nf tn) (nI_clamp (n := k) (by omega))) ?_
  refine tp_i (y := nI (tn k)) rfl ?_
  have hb_1 := htn k
  refine cx_call (D := D) (cl := kl) (ws := _) (wc := [(fl, .inr (3, [.ref fm, .int (nI fn), .ref fd, .ref ft, .ref fc])), (fm, .inl (cI, 40, .inl (nf mk)))]) (wr := [(ft, .inl (cI, 8, .inl (nf tn))), (fd, .inl (cI, 40, .inl (nf dk)))]) (tx_runV (C := cn_FL) (b := fl) (As := [.int (nI (tn k))]) (rest := []) hx hb hml hown (c_FL_indexOf E s.heap.size fl fm fd ft fc fn mk (tn k) hmk hfn (htn k)) (cx_C (b0 := b0) G hx0 mw_501 mw_5 ny_FL_indexOf (by decide)) (gw.at G hx0 mw_498 rfl _) (gw.at G hx0 mw_500 rfl _) (gw.at G hx0 ms_FL_indexOf rfl _) ⟨cx_blind, va_recv hK hP (q0 := 0) (ci := 3) (q := (cn_FL, ft_FL, 5)) rfl rfl, (cx_pre (s := s) hx0 hP hD hS hA0 [0, 1] rfl rfl (by decide))⟩ rfl rfl hl.1 rfl (lv_room (Nat.le_of_ble_eq_true rfl)) d_FL_dimensionAt_7 ⟨by decide, by decide⟩) hP hD hS hA [0, 1] [2, 3] rfl rfl (by decide) (by decide) (fun v t w1 H locs ht hW9 hp hP hD hS => ?_) (fun x t w1 H locs ht hW9 hp hP hD hS => by obtain ⟨h9, -⟩ := hp; cases h9)
  obtain ⟨h9, rfl⟩ := hp
  cases h9
  refine W.eq (g2 := F0 m 10 ls [.int (nI (idx mk (tn k) fn))]) rfl ?_
  refine W.widen (k := 0) (n := 0) (by decide) (by decide) ?_
  have hP : va_P D kl [(ft, .inl (cI, 8, .inl (nf tn))), (fd, .inl (cI, 40, .inl (nf dk))), (fl, .inr (3, [.ref fm, .int (nI fn), .ref fd, .ref ft, .ref fc])), (fm, .inl (cI, 40, .inl (nf mk)))] H := hP
  have hD : va_D A [(ft, .inl (cI, 8, .inl (nf tn))), (fd, .inl (cI, 40, .inl (nf dk))), (fl, .inr (3, [.ref fm, .int (nI fn), .ref fd, .ref ft, .ref fc])), (fm, .inl (cI, 40, .inl (nf mk)))] := hD
  refine lv_istore_n (lv' := [(2, .int (nI (idx mk (tn k) fn))), (0, .ref fl), (1, .int (nI k))]) hx hb d_FL_dimensionAt_10 rfl hl (by decide) rfl (fun ls hl => ?_)
  refine lv_iload_n hx hb d_FL_dimensionAt_11 rfl (lv_at hl 0 rfl) ?_
  refine lv_aload_n hx hb d_FL_dimensionAt_12 rfl (lv_at hl 1 rfl) ?_
  refine va_get (D := D) (ci := 3) (v := .int (nI fn)) (C := cn_FL) (T := ft_FL) (N := 5) hx hb hf_FL (fun _ h => h) hown hK hP 2 rfl rfl 1 (by decide) (gw.at G hx0 mw_83 rfl _) (fun _ h9 => h9) rfl d_FL_dimensionAt_13 ?_
  refine lv_icmp_ge (tgt := 28) hx hb d_FL_dimensionAt_16 (by decide) (fun h99 => absurd h99 (fun z99 => absurd ((nI_leI (a := fn) (b := idx mk (tn k) fn) (by omega) (by omega)).mp z99) (by omega))) (fun _ => ?_)
  refine lv_aload_n hx hb d_FL_dimensionAt_19 rfl (lv_at hl 1 rfl) ?_
  refine va_get (D := D) (ci := 3) (v := .ref fd) (C := cn_FL) (T := ft_FL) (N := 5) hx hb hf_FL (fun _ h => h) hown hK hP 2 rfl rfl 2 (by decide) (gw.at G hx0 mw_85 rfl _) (fun _ h9 => h9) rfl d_FL_dimensionAt_20 ?_
  refine lv_iload_n hx hb d_FL_dimensionAt_23 rfl (lv_at hl 0 rfl) ?_
  refine va_iald hx hb hK hP 1 0 rfl rfl (vp_in_nI (n := idx mk (tn k) fn) (by omega) (by omega)) d_FL_dimensionAt_24 ?_
  refine tp_i (y := (nf dk) (idx mk (tn k) fn)) (congrArg (nf dk) (nI_clamp (n := idx mk (tn k) fn) (by omega))) ?_
  refine tp_i (y := nI (dk (idx mk (tn k) fn))) rfl ?_
  have hb_2 := hdk (idx mk (tn k) fn)
  refine lv_goto (tgt := 29) hx hb d_FL_dimensionAt_25 (by decide) ?_
  exact tx_mono (fun _ h => tx_Z.of h) (W.iret (v := nI (dk (idx mk (tn k) fn))) hx hb hr (fun t ht hW => ⟨⟨[(fl, .inr (3, [.ref fm, .int (nI fn), .ref fd, .ref ft, .ref fc])), (fm, .inl (cI, 40, .inl (nf mk))), (ft, .inl (cI, 8, .inl (nf tn))), (fd, .inl (cI, 40, .inl (nf dk)))], ⟨rfl, rfl⟩, by rw [ht]; exact hP.sub [2, 3, 0, 1] rfl, hD.sub [2, 3, 0, 1] (by decide) rfl⟩, hS.F ht⟩) hS.2.2 d_FL_dimensionAt_29)

set_option maxHeartbeats 4000000 in
set_option maxRecDepth 100000 in
theorem c_FL_dimAt_n {l : Launch} {s0 : State} {b0 : Addr} {D : va_G} {cI cJ cZ : ClassId} {tC tS : Nat} (E : gE l s0 b0 D cI cJ cZ tC tS) (sz : Nat) (fl : Nat) (fm : Nat) (fd : Nat) (ft : Nat) (fc : Nat) (fn : Nat) (mk : Nat → Nat) (tn : Nat → Nat) (k : Nat) (hmk : ∀ j, mk j < 4096) (htn : ∀ j, tn j < 4096) (hfn : fn ≤ 40) (hk : k < 8) (h : idx mk (tn k) fn = fn) : cx_M l s0 D kl y_FL_dimensionAt b_FL_dimensionAt 3 (some .int) ({ frames := 1, cells := 0, slots := 0, locals := 22 } : Room) 0 0 [.ref fl, .int (nI k)] [(fl, .inr (3, [.ref fm, .int (nI fn), .ref fd, .ref ft, .ref fc])), (fm, .inl (cI, 40, .inl (nf mk))), (ft, .inl (cI, 8, .inl (nf tn)))] sz (fun o9 _ w9 => o9 = .returned (some (.int (-1 : Int32))) ∧ w9 = [(fl, .inr (3, [.ref fm, .int (nI fn), .ref fd, .ref ft, .ref fc])), (fm, .inl (cI, 40, .inl (nf mk))), (ft, .inl (cI, 8, .inl (nf tn)))]) := by
  refine tx_ofW (cc := b_FL_dimensionAt) (maxL := 3) (ret := (some .int)) (by decide) rfl ?_
  intro p e s m args below meth c s₁ B hml hT hv
  obtain ⟨rfl, hsz, hP, hD0, hx0⟩ := hv
  have hx := B.exec
  have hb := B.bytes
  have hr := B.returns
  have G := E.2.1
  have hown : s.vm.findClass cn_FL = some m.cls := findClass_of_methodNamed B.named
  have hlocks := B.notSynchronized
  have hK := va_K.moved hx0.1.alike E.2.2.1
  have hf_FL : ∀ w99 ∈ u_ws cn_FL ft_FL 5, w99.before ([.ref fl, .int (nI k)] : List Value).toArray s = true := fun w99 h99 => gw.at G hx0 (fw_FL w99 h99) (fo_FL w99 h99) _
  subst hsz
  have hA0 := cx_new hD0 hx0.2.1
  have hD := hD0.self (sz := s.heap.size)
  generalize hAe : va_A [(fl, .inr (3, [.ref fm, .int (nI fn), .ref fd, .ref ft, .ref fc])), (fm, .inl (cI, 40, .inl (nf mk))), (ft, .inl (cI, 8, .inl (nf tn)))] s.heap.size = A at hD hA0 ⊢
  have hA : ∀ q : Nat, s.heap.size ≤ q → A q := fun q h => by rw [← hAe]; exact Or.inr h
  have hS : va_S A s.heap s.heap [] := va_S.rf
  have hl := lv_entry ([.ref fl, .int (nI k)]) (n := 3) (Nat.le_of_ble_eq_true rfl)
  rw [lg_entry_eq]
  generalize (lg_sl ([.ref fl, .int (nI k)]) ++ List.replicate (3 - (lg_sl ([.ref fl, .int (nI k)])).length) Slot.unset).toArray = ls at hl ⊢
  have hl : lv_has ls 3 [(0, .ref fl), (1, .int (nI k))] := hl
  have hP : va_P D kl [(fl, .inr (3, [.ref fm, .int (nI fn), .ref fd, .ref ft, .ref fc])), (fm, .inl (cI, 40, .inl (nf mk))), (ft, .inl (cI, 8, .inl (nf tn)))] s.heap := hP
  have hml : c.maxLocals = 3 := hml
  refine lv_aload_n hx hb d_FL_dimensionAt_0 rfl (lv_at hl 0 rfl) ?_
  refine lv_aload_n hx hb d_FL_dimensionAt_1 rfl (lv_at hl 0 rfl) ?_
  refine va_get (D := D) (ci := 3) (v := .ref ft) (C := cn_FL) (T := ft_FL) (N := 5) hx hb hf_FL (fun _ h => h) hown hK hP 0 rfl rfl 3 (by decide) (gw.at G hx0 mw_86 rfl _) (fun _ h9 => h9) rfl d_FL_dimensionAt_2 ?_
  refine lv_iload_n hx hb d_FL_dimensionAt_5 rfl (lv_at hl 1 rfl) ?_
  refine va_iald hx hb hK hP 2 0 rfl rfl (vp_in_nI (n := k) (by omega) (by omega)) d_FL_dimensionAt_6 ?_
  refine tp_i (y := (nf tn) k) (congrArg (nf tn) (nI_clamp (n := k) (by omega))) ?_
  refine tp_i (y := nI (tn k)) rfl ?_
  have hb_1 := htn k
  refine cx_call (D := D) (cl := kl) (ws := _) (wc := [(fl, .inr (3, [.ref fm, .int (nI fn), .ref fd, .ref ft, .ref fc])), (fm, .inl (cI, 40, .inl (nf mk)))]) (wr := [(ft, .inl (cI, 8, .inl (nf tn)))]) (tx_runV (C := cn_FL) (b := fl) (As := [.int (nI (tn k))]) (rest := []) hx hb hml hown (c_FL_indexOf E s.heap.size fl fm fd ft fc fn mk (tn k) hmk hfn (htn k)) (cx_C (b0 := b0) G hx0 mw_501 mw_5 ny_FL_indexOf (by decide)) (gw.at G hx0 mw_498 rfl _) (gw.at G hx0 mw_500 rfl _) (gw.at G hx0 ms_FL_indexOf rfl _) ⟨cx_blind, va_recv hK hP (q0 := 0) (ci := 3) (q := (cn_FL, ft_FL, 5)) rfl rfl, (cx_pre (s := s) hx0 hP hD hS hA0 [0, 1] rfl rfl (by decide))⟩ rfl rfl hl.1 rfl (lv_room (Nat.le_of_ble_eq_true rfl)) d_FL_dimensionAt_7 ⟨by decide, by decide⟩) hP hD hS hA [0, 1] [2] rfl rfl (by decide) (by decide) (fun v t w1 H locs ht hW9 hp hP hD hS => ?_) (fun x t w1 H locs ht hW9 hp hP hD hS => by obtain ⟨h9, -⟩ := hp; cases h9)
  obtain ⟨h9, rfl⟩ := hp
  cases h9
  refine W.eq (g2 := F0 m 10 ls [.int (nI (idx mk (tn k) fn))]) rfl ?_
  refine W.widen (k := 0) (n := 0) (by decide) (by decide) ?_
  have hP : va_P D kl [(ft, .inl (cI, 8, .inl (nf tn))), (fl, .inr (3, [.ref fm, .int (nI fn), .ref fd, .ref ft, .ref fc])), (fm, .inl (cI, 40, .inl (nf mk)))] H := hP
  have hD : va_D A [(ft, .inl (cI, 8, .inl (nf tn))), (fl, .inr (3, [.ref fm, .int (nI fn), .ref fd, .ref ft, .ref fc])), (fm, .inl (cI, 40, .inl (nf mk)))] := hD
  refine lv_istore_n (lv' := [(2, .int (nI (idx mk (tn k) fn))), (0, .ref fl), (1, .int (nI k))]) hx hb d_FL_dimensionAt_10 rfl hl (by decide) rfl (fun ls hl => ?_)
  refine lv_iload_n hx hb d_FL_dimensionAt_11 rfl (lv_at hl 0 rfl) ?_
  refine lv_aload_n hx hb d_FL_dimensionAt_12 rfl (lv_at hl 1 rfl) ?_
  refine va_get (D := D) (ci := 3) (v := .int (nI fn)) (C := cn_FL) (T := ft_FL) (N := 5) hx hb hf_FL (fun _ h => h) hown hK hP 1 rfl rfl 1 (by decide) (gw.at G hx0 mw_83 rfl _) (fun _ h9 => h9) rfl d_FL_dimensionAt_13 ?_
  refine lv_icmp_ge (tgt := 28) hx hb d_FL_dimensionAt_16 (by decide) (fun _ => ?_) (fun h99 => absurd h99 (not_not_intro ((nI_leI (a := fn) (b := idx mk (tn k) fn) (by omega) (by omega)).mpr (by omega))))
  refine lv_iconst (v := (-1 : Int32)) hx hb d_FL_dimensionAt_28 (by decide) ?_
  exact tx_mono (fun _ h => tx_Z.of h) (W.iret (v := (-1 : Int32)) hx hb hr (fun t ht hW => ⟨⟨[(fl, .inr (3, [.ref fm, .int (nI fn), .ref fd, .ref ft, .ref fc])), (fm, .inl (cI, 40, .inl (nf mk))), (ft, .inl (cI, 8, .inl (nf tn)))], ⟨rfl, rfl⟩, by rw [ht]; exact hP.sub [1, 2, 0] rfl, hD.sub [1, 2, 0] (by decide) rfl⟩, hS.F ht⟩) hS.2.2 d_FL_dimensionAt_29)

set_option maxHeartbeats 4000000 in
set_option maxRecDepth 100000 in
theorem c_FL_side_y {l : Launch} {s0 : State} {b0 : Addr} {D : va_G} {cI cJ cZ : ClassId} {tC tS : Nat} (E : gE l s0 b0 D cI cJ cZ tC tS) (sz : Nat) (fl : Nat) (fm : Nat) (fd : Nat) (ft : Nat) (fc : Nat) (fn : Nat) (mk : Nat → Nat) (dk : Nat → Nat) (a : Nat) (b : Nat) (rb : Int32) (hmk : ∀ j, mk j < 4096) (hdk : ∀ j, dk j < 4096) (ha : a < 40) (hb4 : b < 40) (h : sdw mk dk a b rb) : cx_M l s0 D kl y_FL_isSideWithout b_FL_isSideWithout 4 (some .boolean) ({ frames := 0, cells := 0, slots := 0, locals := 0 } : Room) 0 0 [.ref fl, .int (nI a), .int (nI b), .int rb] [(fl, .inr (3, [.ref fm, .int (nI fn), .ref fd, .ref ft, .ref fc])), (fm, .inl (cI, 40, .inl (nf mk))), (fd, .inl (cI, 40, .inl (nf dk)))] sz (fun o9 _ w9 => o9 = .returned (some (.int (1 : Int32))) ∧ w9 = [(fl, .inr (3, [.ref fm, .int (nI fn), .ref fd, .ref ft, .ref fc])), (fm, .inl (cI, 40, .inl (nf mk))), (fd, .inl (cI, 40, .inl (nf dk)))]) := by
  refine tx_ofW (cc := b_FL_isSideWithout) (maxL := 4) (ret := (some .boolean)) (by decide) rfl ?_
  intro p e s m args below meth c s₁ B hml hT hv
  obtain ⟨rfl, hsz, hP, hD0, hx0⟩ := hv
  have hx := B.exec
  have hb := B.bytes
  have hr := B.returns
  have G := E.2.1
  have hown : s.vm.findClass cn_FL = some m.cls := findClass_of_methodNamed B.named
  have hlocks := B.notSynchronized
  have hK := va_K.moved hx0.1.alike E.2.2.1
  have hf_FL : ∀ w99 ∈ u_ws cn_FL ft_FL 5, w99.before ([.ref fl, .int (nI a), .int (nI b), .int rb] : List Value).toArray s = true := fun w99 h99 => gw.at G hx0 (fw_FL w99 h99) (fo_FL w99 h99) _
  subst hsz
  have hA0 := cx_new hD0 hx0.2.1
  have hD := hD0.self (sz := s.heap.size)
  generalize hAe : va_A [(fl, .inr (3, [.ref fm, .int (nI fn), .ref fd, .ref ft, .ref fc])), (fm, .inl (cI, 40, .inl (nf mk))), (fd, .inl (cI, 40, .inl (nf dk)))] s.heap.size = A at hD hA0 ⊢
  have hA : ∀ q : Nat, s.heap.size ≤ q → A q := fun q h => by rw [← hAe]; exact Or.inr h
  have hS : va_S A s.heap s.heap [] := va_S.rf
  have hl := lv_entry ([.ref fl, .int (nI a), .int (nI b), .int rb]) (n := 4) (Nat.le_of_ble_eq_true rfl)
  rw [lg_entry_eq]
  generalize (lg_sl ([.ref fl, .int (nI a), .int (nI b), .int rb]) ++ List.replicate (4 - (lg_sl ([.ref fl, .int (nI a), .int (nI b), .int rb])).length) Slot.unset).toArray = ls at hl ⊢
  have hl : lv_has ls 4 [(0, .ref fl), (1, .int (nI a)), (2, .int (nI b)), (3, .int rb)] := hl
  have hP : va_P D kl [(fl, .inr (3, [.ref fm, .int (nI fn), .ref fd, .ref ft, .ref fc])), (fm, .inl (cI, 40, .inl (nf mk))), (fd, .inl (cI, 40, .inl (nf dk)))] s.heap := hP
  have hml : c.maxLocals = 4 := hml
  refine lv_aload_n hx hb d_FL_isSideWithout_0 rfl (lv_at hl 0 rfl) ?_
  refine va_get (D := D) (ci := 3) (v := .ref fd) (C := cn_FL) (T := ft_FL) (N := 5) hx hb hf_FL (fun _ h => h) hown hK hP 0 rfl rfl 2 (by decide) (gw.at G hx0 mw_85 rfl _) (fun _ h9 => h9) rfl d_FL_isSideWithout_1 ?_
  refine lv_iload_n hx hb d_FL_isSideWithout_4 rfl (lv_at hl 1 rfl) ?_
  refine va_iald hx hb hK hP 2 0 rfl rfl (vp_in_nI (n := a) (by omega) (by omega)) d_FL_isSideWithout_5 ?_
  refine tp_i (y := (nf dk) a) (congrArg (nf dk) (nI_clamp (n := a) (by omega))) ?_
  refine tp_i (y := nI (dk a)) rfl ?_
  have hb_1 := hdk a
  refine lv_aload_n hx hb d_FL_isSideWithout_6 rfl (lv_at hl 0 rfl) ?_
  refine va_get (D := D) (ci := 3) (v := .ref fd) (C := cn_FL) (T := ft_FL) (N := 5) hx hb hf_FL (fun _ h => h) hown hK hP 0 rfl rfl 2 (by decide) (gw.at G hx0 mw_85 rfl _) (fun _ h9 => h9) rfl d_FL_isSideWithout_7 ?_
  refine lv_iload_n hx hb d_FL_isSideWithout_10 rfl (lv_at hl 2 rfl) ?_
  refine va_iald hx hb hK hP 2 0 rfl rfl (vp_in_nI (n := b) (by omega) (by omega)) d_FL_isSideWithout_11 ?_
  refine tp_i (y := (nf dk) b) (congrArg (nf dk) (nI_clamp (n := b) (by omega))) ?_
  refine tp_i (y := nI (dk b)) rfl ?_
  have hb_2 := hdk b
  refine lv_iconst (v := (1 : Int32)) hx hb d_FL_isSideWithout_12 (by decide) ?_
  refine lv_isub hx hb d_FL_isSideWithout_13 ?_
  refine lv_icmp_ne (tgt := 50) hx hb d_FL_isSideWithout_14 (by decide) (fun h99 => absurd h99 (not_not_intro h.1)) (fun _ => ?_)
  refine lv_aload_n hx hb d_FL_isSideWithout_17 rfl (lv_at hl 0 rfl) ?_
  refine va_get (D := D) (ci := 3) (v := .ref fm) (C := cn_FL) (T := ft_FL) (N := 5) hx hb hf_FL (fun _ h => h) hown hK hP 0 rfl rfl 0 (by decide) (gw.at G hx0 mw_81 rfl _) (fun _ h9 => h9) rfl d_FL_isSideWithout_18 ?_
  refine lv_iload_n hx hb d_FL_isSideWithout_21 rfl (lv_at hl 1 rfl) ?_
  refine va_iald hx hb hK hP 1 0 rfl rfl (vp_in_nI (n := a) (by omega) (by omega)) d_FL_isSideWithout_22 ?_
  refine tp_i (y := (nf mk) a) (congrArg (nf mk) (nI_clamp (n := a) (by omega))) ?_
  refine tp_i (y := nI (mk a)) rfl ?_
  have hb_3 := hmk a
  refine lv_aload_n hx hb d_FL_isSideWithout_23 rfl (lv_at hl 0 rfl) ?_
  refine va_get (D := D) (ci := 3) (v := .ref fm) (C := cn_FL) (T := ft_FL) (N := 5) hx hb hf_FL (fun _ h => h) hown hK hP 0 rfl rfl 0 (by decide) (gw.at G hx0 mw_81 rfl _) (fun _ h9 => h9) rfl d_FL_isSideWithout_24 ?_
  refine lv_iload_n hx hb d_FL_isSideWithout_27 rfl (lv_at hl 2 rfl) ?_
  refine va_iald hx hb hK hP 1 0 rfl rfl (vp_in_nI (n := b) (by omega) (by omega)) d_FL_isSideWithout_28 ?_
  refine tp_i (y := (nf mk) b) (congrArg (nf mk) (nI_clamp (n := b) (by omega))) ?_
  refine tp_i (y := nI (mk b)) rfl ?_
  have hb_4 := hmk b
  refine lv_iconst (v := (-1 : Int32)) hx hb d_FL_isSideWithout_29 (by decide) ?_
  refine lv_ixor hx hb d_FL_isSideWithout_30 ?_
  refine lv_iand hx hb d_FL_isSideWithout_31 ?_
  refine lv_if_ne (tgt := 50) hx hb d_FL_isSideWithout_32 (by decide) (fun h99 => absurd h99 (not_not_intro h.2.1)) (fun _ => ?_)
  refine lv_aload_n hx hb d_FL_isSideWithout_35 rfl (lv_at hl 0 rfl) ?_
  refine va_get (D := D) (ci := 3) (v := .ref fm) (C := cn_FL) (T := ft_FL) (N := 5) hx hb hf_FL (fun _ h => h) hown hK hP 0 rfl rfl 0 (by decide) (gw.at G hx0 mw_81 rfl _) (fun _ h9 => h9) rfl d_FL_isSideWithout_36 ?_
  refine lv_iload_n hx hb d_FL_isSideWithout_39 rfl (lv_at hl 1 rfl) ?_
  refine va_iald hx hb hK hP 1 0 rfl rfl (vp_in_nI (n := a) (by omega) (by omega)) d_FL_isSideWithout_40 ?_
  refine tp_i (y := (nf mk) a) (congrArg (nf mk) (nI_clamp (n := a) (by omega))) ?_
  refine tp_i (y := nI (mk a)) rfl ?_
  have hb_5 := hmk a
  refine lv_iload_n hx hb d_FL_isSideWithout_41 rfl (lv_at hl 3 rfl) ?_
  refine lv_iand hx hb d_FL_isSideWithout_42 ?_
  refine lv_if_ne (tgt := 50) hx hb d_FL_isSideWithout_43 (by decide) (fun h99 => absurd h99 (not_not_intro h.2.2)) (fun _ => ?_)
  refine lv_iconst (v := (1 : Int32)) hx hb d_FL_isSideWithout_46 (by decide) ?_
  refine lv_goto (tgt := 51) hx hb d_FL_isSideWithout_47 (by decide) ?_
  exact tx_mono (fun _ h => tx_Z.of h) (W.zret (v := (1 : Int32)) hx hb hr (by decide) (fun t ht hW => ⟨⟨[(fl, .inr (3, [.ref fm, .int (nI fn), .ref fd, .ref ft, .ref fc])), (fm, .inl (cI, 40, .inl (nf mk))), (fd, .inl (cI, 40, .inl (nf dk)))], ⟨rfl, rfl⟩, by rw [ht]; exact hP.sub [0, 1, 2] rfl, hD.sub [0, 1, 2] (by decide) rfl⟩, hS.F ht⟩) hS.2.2 d_FL_isSideWithout_51)

set_option maxHeartbeats 4000000 in
set_option maxRecDepth 100000 in
theorem c_FL_side_n {l : Launch} {s0 : State} {b0 : Addr} {D : va_G} {cI cJ cZ : ClassId} {tC tS : Nat} (E : gE l s0 b0 D cI cJ cZ tC tS) (sz : Nat) (fl : Nat) (fm : Nat) (fd : Nat) (ft : Nat) (fc : Nat) (fn : Nat) (mk : Nat → Nat) (dk : Nat → Nat) (a : Nat) (b : Nat) (rb : Int32) (hmk : ∀ j, mk j < 4096) (hdk : ∀ j, dk j < 4096) (ha : a < 40) (hb4 : b < 40) (h : ¬ sdw mk dk a b rb) : cx_M l s0 D kl y_FL_isSideWithout b_FL_isSideWithout 4 (some .boolean) ({ frames := 0, cells := 0, slots := 0, locals := 0 } : Room) 0 0 [.ref fl, .int (nI a), .int (nI b), .int rb] [(fl, .inr (3, [.ref fm, .int (nI fn), .ref fd, .ref ft, .ref fc])), (fm, .inl (cI, 40, .inl (nf mk))), (fd, .inl (cI, 40, .inl (nf dk)))] sz (fun o9 _ w9 => o9 = .returned (some (.int (0 : Int32))) ∧ w9 = [(fl, .inr (3, [.ref fm, .int (nI fn), .ref fd, .ref ft, .ref fc])), (fm, .inl (cI, 40, .inl (nf mk))), (fd, .inl (cI, 40, .inl (nf dk)))]) := by
  refine tx_ofW (cc := b_FL_isSideWithout) (maxL := 4) (ret := (some .boolean)) (by decide) rfl ?_
  intro p e s m args below meth c s₁ B hml hT hv
  obtain ⟨rfl, hsz, hP, hD0, hx0⟩ := hv
  have hx := B.exec
  have hb := B.bytes
  have hr := B.returns
  have G := E.2.1
  have hown : s.vm.findClass cn_FL = some m.cls := findClass_of_methodNamed B.named
  have hlocks := B.notSynchronized
  have hK := va_K.moved hx0.1.alike E.2.2.1
  have hf_FL : ∀ w99 ∈ u_ws cn_FL ft_FL 5, w99.before ([.ref fl, .int (nI a), .int (nI b), .int rb] : List Value).toArray s = true := fun w99 h99 => gw.at G hx0 (fw_FL w99 h99) (fo_FL w99 h99) _
  subst hsz
  have hA0 := cx_new hD0 hx0.2.1
  have hD := hD0.self (sz := s.heap.size)
  generalize hAe : va_A [(fl, .inr (3, [.ref fm, .int (nI fn), .ref fd, .ref ft, .ref fc])), (fm, .inl (cI, 40, .inl (nf mk))), (fd, .inl (cI, 40, .inl (nf dk)))] s.heap.size = A at hD hA0 ⊢
  have hA : ∀ q : Nat, s.heap.size ≤ q → A q := fun q h => by rw [← hAe]; exact Or.inr h
  have hS : va_S A s.heap s.heap [] := va_S.rf
  have hl := lv_entry ([.ref fl, .int (nI a), .int (nI b), .int rb]) (n := 4) (Nat.le_of_ble_eq_true rfl)
  rw [lg_entry_eq]
  generalize (lg_sl ([.ref fl, .int (nI a), .int (nI b), .int rb]) ++ List.replicate (4 - (lg_sl ([.ref fl, .int (nI a), .int (nI b), .int rb])).length) Slot.unset).toArray = ls at hl ⊢
  have hl : lv_has ls 4 [(0, .ref fl), (1, .int (nI a)), (2, .int (nI b)), (3, .int rb)] := hl
  have hP : va_P D kl [(fl, .inr (3, [.ref fm, .int (nI fn), .ref fd, .ref ft, .ref fc])), (fm, .inl (cI, 40, .inl (nf mk))), (fd, .inl (cI, 40, .inl (nf dk)))] s.heap := hP
  have hml : c.maxLocals = 4 := hml
  refine lv_aload_n hx hb d_FL_isSideWithout_0 rfl (lv_at hl 0 rfl) ?_
  refine va_get (D := D) (ci := 3) (v := .ref fd) (C := cn_FL) (T := ft_FL) (N := 5) hx hb hf_FL (fun _ h => h) hown hK hP 0 rfl rfl 2 (by decide) (gw.at G hx0 mw_85 rfl _) (fun _ h9 => h9) rfl d_FL_isSideWithout_1 ?_
  refine lv_iload_n hx hb d_FL_isSideWithout_4 rfl (lv_at hl 1 rfl) ?_
  refine va_iald hx hb hK hP 2 0 rfl rfl (vp_in_nI (n := a) (by omega) (by omega)) d_FL_isSideWithout_5 ?_
  refine tp_i (y := (nf dk) a) (congrArg (nf dk) (nI_clamp (n := a) (by omega))) ?_
  refine tp_i (y := nI (dk a)) rfl ?_
  have hb_1 := hdk a
  refine lv_aload_n hx hb d_FL_isSideWithout_6 rfl (lv_at hl 0 rfl) ?_
  refine va_get (D := D) (ci := 3) (v := .ref fd) (C := cn_FL) (T := ft_FL) (N := 5) hx hb hf_FL (fun _ h => h) hown hK hP 0 rfl rfl 2 (by decide) (gw.at G hx0 mw_85 rfl _) (fun _ h9 => h9) rfl d_FL_isSideWithout_7 ?_
  refine lv_iload_n hx hb d_FL_isSideWithout_10 rfl (lv_at hl 2 rfl) ?_
  refine va_iald hx hb hK hP 2 0 rfl rfl (vp_in_nI (n := b) (by omega) (by omega)) d_FL_isSideWithout_11 ?_
  refine tp_i (y := (nf dk) b) (congrArg (nf dk) (nI_clamp (n := b) (by omega))) ?_
  refine tp_i (y := nI (dk b)) rfl ?_
  have hb_2 := hdk b
  refine lv_iconst (v := (1 : Int32)) hx hb d_FL_isSideWithout_12 (by decide) ?_
  refine lv_isub hx hb d_FL_isSideWithout_13 ?_
  refine lv_icmp_ne (tgt := 50) hx hb d_FL_isSideWithout_14 (by decide) (fun h_3 => ?_) (fun h_3 => ?_)
  · refine lv_iconst (v := (0 : Int32)) hx hb d_FL_isSideWithout_50 (by decide) ?_
    exact tx_mono (fun _ h => tx_Z.of h) (W.zret (v := (0 : Int32)) hx hb hr (by decide) (fun t ht hW => ⟨⟨[(fl, .inr (3, [.ref fm, .int (nI fn), .ref fd, .ref ft, .ref fc])), (fm, .inl (cI, 40, .inl (nf mk))), (fd, .inl (cI, 40, .inl (nf dk)))], ⟨rfl, rfl⟩, by rw [ht]; exact hP.sub [0, 1, 2] rfl, hD.sub [0, 1, 2] (by decide) rfl⟩, hS.F ht⟩) hS.2.2 d_FL_isSideWithout_51)
  · refine lv_aload_n hx hb d_FL_isSideWithout_17 rfl (lv_at hl 0 rfl) ?_
    refine va_get (D := D) (ci := 3) (v := .ref fm) (C := cn_FL) (T := ft_FL) (N := 5) hx hb hf_FL (fun _ h => h) hown hK hP 0 rfl rfl 0 (by decide) (gw.at G hx0 mw_81 rfl _) (fun _ h9 => h9) rfl d_FL_isSideWithout_18 ?_
    refine lv_iload_n hx hb d_FL_isSideWithout_21 rfl (lv_at hl 1 rfl) ?_
    refine va_iald hx hb hK hP 1 0 rfl rfl (vp_in_nI (n := a) (by omega) (by omega)) d_FL_isSideWithout_22 ?_
    refine tp_i (y := (nf mk) a) (congrArg (nf mk) (nI_clamp (n := a) (by omega))) ?_
    refine tp_i (y := nI (mk a)) rfl ?_
    have hb_4 := hmk a
    refine lv_aload_n hx hb d_FL_isSideWithout_23 rfl (lv_at hl 0 rfl) ?_
    refine va_get (D := D) (ci := 3) (v := .ref fm) (C := cn_FL) (T := ft_FL) (N := 5) hx hb hf_FL (fun _ h => h) hown hK hP 0 rfl rfl 0 (by decide) (gw.at G hx0 mw_81 rfl _) (fun _ h9 => h9) rfl d_FL_isSideWithout_24 ?_
    refine lv_iload_n hx hb d_FL_isSideWithout_27 rfl (lv_at hl 2 rfl) ?_
    refine va_iald hx hb hK hP 1 0 rfl rfl (vp_in_nI (n := b) (by omega) (by omega)) d_FL_isSideWithout_28 ?_
    refine tp_i (y := (nf mk) b) (congrArg (nf mk) (nI_clamp (n := b) (by omega))) ?_
    refine tp_i (y := nI (mk b)) rfl ?_
    have hb_5 := hmk b
    refine lv_iconst (v := (-1 : Int32)) hx hb d_FL_isSideWithout_29 (by decide) ?_
    refine lv_ixor hx hb d_FL_isSideWithout_30 ?_
    refine lv_iand hx hb d_FL_isSideWithout_31 ?_
    refine lv_if_ne (tgt := 50) hx hb d_FL_isSideWithout_32 (by decide) (fun h_6 => ?_) (fun h_6 => ?_)
    · refine lv_iconst (v := (0 : Int32)) hx hb d_FL_isSideWithout_50 (by decide) ?_
      exact tx_mono (fun _ h => tx_Z.of h) (W.zret (v := (0 : Int32)) hx hb hr (by decide) (fun t ht hW => ⟨⟨[(fl, .inr (3, [.ref fm, .int (nI fn), .ref fd, .ref ft, .ref fc])), (fm, .inl (cI, 40, .inl (nf mk))), (fd, .inl (cI, 40, .inl (nf dk)))], ⟨rfl, rfl⟩, by rw [ht]; exact hP.sub [0, 1, 2] rfl, hD.sub [0, 1, 2] (by decide) rfl⟩, hS.F ht⟩) hS.2.2 d_FL_isSideWithout_51)
    · refine lv_aload_n hx hb d_FL_isSideWithout_35 rfl (lv_at hl 0 rfl) ?_
      refine va_get (D := D) (ci := 3) (v := .ref fm) (C := cn_FL) (T := ft_FL) (N := 5) hx hb hf_FL (fun _ h => h) hown hK hP 0 rfl rfl 0 (by decide) (gw.at G hx0 mw_81 rfl _) (fun _ h9 => h9) rfl d_FL_isSideWithout_36 ?_
      refine lv_iload_n hx hb d_FL_isSideWithout_39 rfl (lv_at hl 1 rfl) ?_
      refine va_iald hx hb hK hP 1 0 rfl rfl (vp_in_nI (n := a) (by omega) (by omega)) d_FL_isSideWithout_40 ?_
      refine tp_i (y := (nf mk) a) (congrArg (nf mk) (nI_clamp (n := a) (by omega))) ?_
      refine tp_i (y := nI (mk a)) rfl ?_
      have hb_7 := hmk a
      refine lv_iload_n hx hb d_FL_isSideWithout_41 rfl (lv_at hl 3 rfl) ?_
      refine lv_iand hx hb d_FL_isSideWithout_42 ?_
      refine lv_if_ne (tgt := 50) hx hb d_FL_isSideWithout_43 (by decide) (fun h_8 => ?_) (fun h_8 => ?_)
      · refine lv_iconst (v := (0 : Int32)) hx hb d_FL_isSideWithout_50 (by decide) ?_
        exact tx_mono (fun _ h => tx_Z.of h) (W.zret (v := (0 : Int32)) hx hb hr (by decide) (fun t ht hW => ⟨⟨[(fl, .inr (3, [.ref fm, .int (nI fn), .ref fd, .ref ft, .ref fc])), (fm, .inl (cI, 40, .inl (nf mk))), (fd, .inl (cI, 40, .inl (nf dk)))], ⟨rfl, rfl⟩, by rw [ht]; exact hP.sub [0, 1, 2] rfl, hD.sub [0, 1, 2] (by decide) rfl⟩, hS.F ht⟩) hS.2.2 d_FL_isSideWithout_51)
      · refine lv_iconst (v := (1 : Int32)) hx hb d_FL_isSideWithout_46 (by decide) ?_
        refine lv_goto (tgt := 51) hx hb d_FL_isSideWithout_47 (by decide) ?_
        exact absurd ⟨h_3, h_6, h_8⟩ h

