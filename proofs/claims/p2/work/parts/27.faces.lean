/-! ===== own rows, laid by wip/tools/sym.py: FaceList: indexOf, include, findTight ===== -/
theorem nI_or (a b : Nat) : nI a ||| nI b = nI (a ||| b) := by
  apply Int32.toBitVec_inj.mp
  show BitVec.ofNat 32 a ||| BitVec.ofNat 32 b = BitVec.ofNat 32 (a ||| b)
  apply BitVec.eq_of_toNat_eq
  rw [BitVec.toNat_or, BitVec.toNat_ofNat, BitVec.toNat_ofNat, BitVec.toNat_ofNat]
  exact (Nat.or_mod_two_pow (n := 32)).symm
/-- an array of masks -/
def nf (t : Nat → Nat) : Nat → Int32 := fun k => nI (t k)
def updN (t : Nat → Nat) (k v : Nat) : Nat → Nat := fun j => if j = k then v else t j
theorem nf_upd (t : Nat → Nat) (k v : Nat) : upd (nf t) k (nI v) = nf (updN t k v) := by
  funext j
  unfold upd nf updN
  split <;> rfl
theorem nf_upd0 (t : Nat → Nat) (k : Nat) : upd (nf t) k (0 : Int32) = nf (updN t k 0) := nf_upd t k 0
theorem updN_lt {t : Nat → Nat} {k v b : Nat} (h : ∀ j, t j < b) (hv : v < b) : ∀ j, updN t k v j < b := by
  intro j
  unfold updN
  split
  · exact hv
  · exact h j
/-- the first place below n that holds m, or n -/
def idx (t : Nat → Nat) (m : Nat) : Nat → Nat
  | 0 => 0
  | n + 1 => if idx t m n < n then idx t m n else if t n = m then n else n + 1
theorem idx_le (t : Nat → Nat) (m : Nat) : ∀ n, idx t m n ≤ n
  | 0 => Nat.le_refl 0
  | n + 1 => by
    show (if idx t m n < n then idx t m n else if t n = m then n else n + 1) ≤ n + 1
    have h := idx_le t m n
    split
    · omega
    · split <;> omega
theorem idx_all {t : Nat → Nat} {m : Nat} : ∀ n, (∀ k, k < n → ¬ t k = m) → idx t m n = n
  | 0, _ => rfl
  | n + 1, h => by
    have h1 := idx_all n (fun k hk => h k (by omega))
    show (if idx t m n < n then idx t m n else if t n = m then n else n + 1) = n + 1
    rw [if_neg (by omega), if_neg (h n (by omega))]
theorem idx_at {t : Nat → Nat} {m z : Nat} (hz : ∀ k, k < z → ¬ t k = m) (he : t z = m) : ∀ n, z < n → idx t m n = z
  | 0, h => absurd h (Nat.not_lt_zero _)
  | n + 1, h => by
    show (if idx t m n < n then idx t m n else if t n = m then n else n + 1) = z
    by_cases e : z = n
    · subst e
      rw [if_neg (by rw [idx_all z hz]; omega), if_pos he]
    · rw [idx_at hz he n (by omega), if_pos (by omega)]
/-- a mask comes into a list of faces, if it isn't there and there is room -/
def incC (c : Nat) (t : Nat → Nat) (m : Nat) : Prop := c < 40 ∧ idx t m c = c
noncomputable def incN (c : Nat) (t : Nat → Nat) (m : Nat) : Nat := @ite _ (incC c t m) (Classical.propDecidable _) (c + 1) c
noncomputable def incF (c : Nat) (t : Nat → Nat) (m : Nat) : Nat → Nat := @ite _ (incC c t m) (Classical.propDecidable _) (updN t c m) t
theorem incN_y {c : Nat} {t : Nat → Nat} {m : Nat} (h : incC c t m) : incN c t m = c + 1 := @if_pos _ (Classical.propDecidable _) h _ _ _
theorem incN_n {c : Nat} {t : Nat → Nat} {m : Nat} (h : ¬ incC c t m) : incN c t m = c := @if_neg _ (Classical.propDecidable _) h _ _ _
theorem incF_y {c : Nat} {t : Nat → Nat} {m : Nat} (h : incC c t m) : incF c t m = updN t c m := @if_pos _ (Classical.propDecidable _) h _ _ _
theorem incF_n {c : Nat} {t : Nat → Nat} {m : Nat} (h : ¬ incC c t m) : incF c t m = t := @if_neg _ (Classical.propDecidable _) h _ _ _
theorem incN_le {c : Nat} {t : Nat → Nat} {m : Nat} (h : c ≤ 40) : incN c t m ≤ 40 := by
  by_cases hc : incC c t m
  · rw [incN_y hc]; exact hc.1
  · rw [incN_n hc]; exact h
theorem incN_ge {c : Nat} {t : Nat → Nat} {m : Nat} : c ≤ incN c t m := by
  by_cases hc : incC c t m
  · rw [incN_y hc]; omega
  · rw [incN_n hc]; omega
theorem incF_lt {c : Nat} {t : Nat → Nat} {m b : Nat} (h : ∀ j, t j < b) (hm : m < b) : ∀ j, incF c t m j < b := by
  by_cases hc : incC c t m
  · rw [incF_y hc]; exact updN_lt h hm
  · rw [incF_n hc]; exact h
set_option maxHeartbeats 4000000 in
set_option maxRecDepth 100000 in
theorem c_FL_indexOf {l : Launch} {s0 : State} {b0 : Addr} {D : va_G} {cI cJ cZ : ClassId} {tC tS : Nat} (E : gE l s0 b0 D cI cJ cZ tC tS) (sz : Nat) (fl : Nat) (fm : Nat) (fd : Nat) (ft : Nat) (fc : Nat) (fn : Nat) (mk : Nat → Nat) (mm : Nat) (hmk : ∀ j, mk j < 4096) (hfn : fn ≤ 40) (hmm : mm < 4096) : cx_M l s0 D kl y_FL_indexOf b_FL_indexOf 3 (some .int) ({ frames := 0, cells := 0, slots := 0, locals := 0 } : Room) 0 0 [.ref fl, .int (nI mm)] [(fl, .inr (3, [.ref fm, .int (nI fn), .ref fd, .ref ft, .ref fc])), (fm, .inl (cI, 40, .inl (nf mk)))] sz (fun o9 _ w9 => o9 = .returned (some (.int (nI (idx mk mm fn)))) ∧ w9 = [(fl, .inr (3, [.ref fm, .int (nI fn), .ref fd, .ref ft, .ref fc])), (fm, .inl (cI, 40, .inl (nf mk)))]) := by
  refine tx_ofW (cc := b_FL_indexOf) (maxL := 3) (ret := (some .int)) (by decide) rfl ?_
  intro p e s m args below meth c s₁ B hml hT hv
  obtain ⟨rfl, hsz, hP, hD0, hx0⟩ := hv
  have hx := B.exec
  have hb := B.bytes
  have hr := B.returns
  have G := E.2.1
  have hown : s.vm.findClass cn_FL = some m.cls := findClass_of_methodNamed B.named
  have hlocks := B.notSynchronized
  have hK := va_K.moved hx0.1.alike E.2.2.1
  have hf_FL : ∀ w99 ∈ u_ws cn_FL ft_FL 5, w99.before ([.ref fl, .int (nI mm)] : List Value).toArray s = true := fun w99 h99 => gw.at G hx0 (fw_FL w99 h99) (fo_FL w99 h99) _
  subst hsz
  have hA0 := cx_new hD0 hx0.2.1
  have hD := hD0.self (sz := s.heap.size)
  generalize hAe : va_A [(fl, .inr (3, [.ref fm, .int (nI fn), .ref fd, .ref ft, .ref fc])), (fm, .inl (cI, 40, .inl (nf mk)))] s.heap.size = A at hD hA0 ⊢
  have hA : ∀ q : Nat, s.heap.size ≤ q → A q := fun q h => by rw [← hAe]; exact Or.inr h
  have hS : va_S A s.heap s.heap [] := va_S.rf
  have hl := lv_entry ([.ref fl, .int (nI mm)]) (n := 3) (Nat.le_of_ble_eq_true rfl)
  rw [lg_entry_eq]
  generalize (lg_sl ([.ref fl, .int (nI mm)]) ++ List.replicate (3 - (lg_sl ([.ref fl, .int (nI mm)])).length) Slot.unset).toArray = ls at hl ⊢
  have hl : lv_has ls 3 [(0, .ref fl), (1, .int (nI mm))] := hl
  have hP : va_P D kl [(fl, .inr (3, [.ref fm, .int (nI fn), .ref fd, .ref ft, .ref fc])), (fm, .inl (cI, 40, .inl (nf mk)))] s.heap := hP
  have hml : c.maxLocals = 3 := hml
  generalize hQe : tx_Z below (cx_Q D kl A (fun o9 _ w9 => o9 = .returned (some (.int (nI (idx mk mm fn)))) ∧ w9 = [(fl, .inr (3, [.ref fm, .int (nI fn), .ref fd, .ref ft, .ref fc])), (fm, .inl (cI, 40, .inl (nf mk)))])) ([.ref fl, .int (nI mm)] : List Value).toArray s 0 0 A = Q
  refine lv_iconst (v := (0 : Int32)) hx hb d_FL_indexOf_0 (by decide) ?_
  refine lv_istore_n (lv' := [(2, .int (0 : Int32)), (0, .ref fl), (1, .int (nI mm))]) hx hb d_FL_indexOf_1 rfl hl (by decide) rfl (fun ls hl => ?_)
  have lp_2 : ∀ (n9 : Nat) (q : Nat) (ls : Array Slot) (H : Heap) (locs : List Loc), fn - q = n9 → (∀ k, k < q → ¬ mk k = mm) → (q ≤ fn) → lv_has ls 3 [(2, .int (nI q)), (0, .ref fl), (1, .int (nI mm))] → va_P D kl [(fl, .inr (3, [.ref fm, .int (nI fn), .ref fd, .ref ft, .ref fc])), (fm, .inl (cI, 40, .inl (nf mk)))] H → va_D A [(fl, .inr (3, [.ref fm, .int (nI fn), .ref fd, .ref ft, .ref fc])), (fm, .inl (cI, 40, .inl (nf mk)))] → va_S A s.heap H locs → W p l e ({ frames := 0, cells := 0, slots := 0, locals := 0 } : Room) s m ([.ref fl, .int (nI mm)] : List Value).toArray below meth c H locs 0 0 Q (F0 m 2 ls []) := by
    intro n9
    induction n9 using Nat.strongRecOn with
    | ind n9 ih_2 =>
      intro q ls H locs hm_2 hi hq hl hP hD hS
      refine lv_iload_n hx hb d_FL_indexOf_2 rfl (lv_at hl 0 rfl) ?_
      refine lv_aload_n hx hb d_FL_indexOf_3 rfl (lv_at hl 1 rfl) ?_
      refine va_get (D := D) (ci := 3) (v := .int (nI fn)) (C := cn_FL) (T := ft_FL) (N := 5) hx hb hf_FL (fun _ h => h) hown hK hP 0 rfl rfl 1 (by decide) (gw.at G hx0 mw_83 rfl _) (fun _ h9 => h9) rfl d_FL_indexOf_4 ?_
      refine lv_icmp_ge (tgt := 26) hx hb d_FL_indexOf_7 (by decide) (fun h_1 => ?_) (fun h_1 => ?_)
      · have h_1 : fn ≤ q := (nI_leI (a := fn) (b := q) (by omega) (by omega)).mp h_1
        refine lv_iload_n hx hb d_FL_indexOf_26 rfl (lv_at hl 0 rfl) ?_
        rw [← hQe]
        exact tx_mono (fun _ h => tx_Z.of h) (W.iret (v := nI q) hx hb hr (fun t ht hW => ⟨⟨[(fl, .inr (3, [.ref fm, .int (nI fn), .ref fd, .ref ft, .ref fc])), (fm, .inl (cI, 40, .inl (nf mk)))], ⟨(by rw [show idx mk mm fn = q from (by rw [show fn = q by omega]; exact idx_all q hi)]), rfl⟩, by rw [ht]; exact hP.sub [0, 1] rfl, hD.sub [0, 1] (by decide) rfl⟩, hS.F ht⟩) hS.2.2 d_FL_indexOf_27)
      · have h_1 : ¬ (fn ≤ q) := fun z99 => h_1 ((nI_leI (a := fn) (b := q) (by omega) (by omega)).mpr z99)
        refine lv_aload_n hx hb d_FL_indexOf_10 rfl (lv_at hl 1 rfl) ?_
        refine va_get (D := D) (ci := 3) (v := .ref fm) (C := cn_FL) (T := ft_FL) (N := 5) hx hb hf_FL (fun _ h => h) hown hK hP 0 rfl rfl 0 (by decide) (gw.at G hx0 mw_81 rfl _) (fun _ h9 => h9) rfl d_FL_indexOf_11 ?_
        refine lv_iload_n hx hb d_FL_indexOf_14 rfl (lv_at hl 0 rfl) ?_
        refine va_iald hx hb hK hP 1 0 rfl rfl (vp_in_nI (n := q) (by omega) (by omega)) d_FL_indexOf_15 ?_
        refine tp_i (y := (nf mk) q) (congrArg (nf mk) (nI_clamp (n := q) (by omega))) ?_
        refine tp_i (y := nI (mk q)) rfl ?_
        have hb_2 := hmk q
        refine lv_iload_n hx hb d_FL_indexOf_16 rfl (lv_at hl 2 rfl) ?_
        refine lv_icmp_eq (tgt := 26) hx hb d_FL_indexOf_17 (by decide) (fun h_3 => ?_) (fun h_3 => ?_)
        · have h_3 : (mk q) = mm := (nI_eq (a := mk q) (b := mm) (by omega) (by omega)).mp h_3
          refine lv_iload_n hx hb d_FL_indexOf_26 rfl (lv_at hl 0 rfl) ?_
          rw [← hQe]
          exact tx_mono (fun _ h => tx_Z.of h) (W.iret (v := nI q) hx hb hr (fun t ht hW => ⟨⟨[(fl, .inr (3, [.ref fm, .int (nI fn), .ref fd, .ref ft, .ref fc])), (fm, .inl (cI, 40, .inl (nf mk)))], ⟨(by rw [show idx mk mm fn = q from idx_at hi h_3 fn (by omega)]), rfl⟩, by rw [ht]; exact hP.sub [0, 1] rfl, hD.sub [0, 1] (by decide) rfl⟩, hS.F ht⟩) hS.2.2 d_FL_indexOf_27)
        · have h_3 : ¬ ((mk q) = mm) := fun z99 => h_3 ((nI_eq (a := mk q) (b := mm) (by omega) (by omega)).mpr z99)
          refine lv_iinc (lv' := [(2, .int (nI (q + 1))), (0, .ref fl), (1, .int (nI mm))]) (k := 0) (v := nI (q + 1)) hx hb d_FL_indexOf_20 hl rfl (nI_add q 1) (by decide) rfl (fun ls hl => ?_)
          refine lv_goto (tgt := 2) hx hb d_FL_indexOf_23 (by decide) ?_
          exact ih_2 _ (by omega) (q + 1) ls H locs rfl (fun k hk => (Nat.lt_succ_iff_lt_or_eq.mp hk).elim (hi k) (fun e => by rw [e]; exact h_3)) (by omega) (lv_sub hl [0, 1, 2] rfl) (hP.sub [0, 1] rfl) (hD.sub [0, 1] (by decide) rfl) hS
  exact lp_2 _ 0 ls s.heap [] rfl (fun k hk => absurd hk (Nat.not_lt_zero k)) (Nat.zero_le _) (lv_sub hl [0, 1, 2] rfl) (hP.sub [0, 1] rfl) (hD.sub [0, 1] (by decide) rfl) hS

set_option maxHeartbeats 4000000 in
set_option maxRecDepth 100000 in
theorem c_FL_inc_y {l : Launch} {s0 : State} {b0 : Addr} {D : va_G} {cI cJ cZ : ClassId} {tC tS : Nat} (E : gE l s0 b0 D cI cJ cZ tC tS) (sz : Nat) (fl : Nat) (fm : Nat) (fd : Nat) (ft : Nat) (fc : Nat) (fn : Nat) (mk : Nat → Nat) (mm : Nat) (hmk : ∀ j, mk j < 4096) (hfn : fn ≤ 40) (hmm : mm < 4096) (h : incC fn mk mm) : cx_M l s0 D kl y_FL_include b_FL_include 2 none ({ frames := 1, cells := 0, slots := 0, locals := 22 } : Room) 0 0 [.ref fl, .int (nI mm)] [(fl, .inr (3, [.ref fm, .int (nI fn), .ref fd, .ref ft, .ref fc])), (fm, .inl (cI, 40, .inl (nf mk)))] sz (fun o9 _ w9 => o9 = .returned none ∧ w9 = [(fl, .inr (3, [.ref fm, .int (nI (fn + 1)), .ref fd, .ref ft, .ref fc])), (fm, .inl (cI, 40, .inl (nf (updN mk fn mm))))]) := by
  refine tx_ofW (cc := b_FL_include) (maxL := 2) (ret := none) (by decide) rfl ?_
  intro p e s m args below meth c s₁ B hml hT hv
  obtain ⟨rfl, hsz, hP, hD0, hx0⟩ := hv
  have hx := B.exec
  have hb := B.bytes
  have hr := B.returns
  have G := E.2.1
  have hown : s.vm.findClass cn_FL = some m.cls := findClass_of_methodNamed B.named
  have hlocks := B.notSynchronized
  have hK := va_K.moved hx0.1.alike E.2.2.1
  have hf_FL : ∀ w99 ∈ u_ws cn_FL ft_FL 5, w99.before ([.ref fl, .int (nI mm)] : List Value).toArray s = true := fun w99 h99 => gw.at G hx0 (fw_FL w99 h99) (fo_FL w99 h99) _
  subst hsz
  have hA0 := cx_new hD0 hx0.2.1
  have hD := hD0.self (sz := s.heap.size)
  generalize hAe : va_A [(fl, .inr (3, [.ref fm, .int (nI fn), .ref fd, .ref ft, .ref fc])), (fm, .inl (cI, 40, .inl (nf mk)))] s.heap.size = A at hD hA0 ⊢
  have hA : ∀ q : Nat, s.heap.size ≤ q → A q := fun q h => by rw [← hAe]; exact Or.inr h
  have hS : va_S A s.heap s.heap [] := va_S.rf
  have hl := lv_entry ([.ref fl, .int (nI mm)]) (n := 2) (Nat.le_of_ble_eq_true rfl)
  rw [lg_entry_eq]
  generalize (lg_sl ([.ref fl, .int (nI mm)]) ++ List.replicate (2 - (lg_sl ([.ref fl, .int (nI mm)])).length) Slot.unset).toArray = ls at hl ⊢
  have hl : lv_has ls 2 [(0, .ref fl), (1, .int (nI mm))] := hl
  have hP : va_P D kl [(fl, .inr (3, [.ref fm, .int (nI fn), .ref fd, .ref ft, .ref fc])), (fm, .inl (cI, 40, .inl (nf mk)))] s.heap := hP
  have hml : c.maxLocals = 2 := hml
  have hil := idx_le mk mm fn
  have hc1 := h.1
  have hc2 := h.2
  refine lv_aload_n hx hb d_FL_include_0 rfl (lv_at hl 0 rfl) ?_
  refine va_get (D := D) (ci := 3) (v := .int (nI fn)) (C := cn_FL) (T := ft_FL) (N := 5) hx hb hf_FL (fun _ h => h) hown hK hP 0 rfl rfl 1 (by decide) (gw.at G hx0 mw_83 rfl _) (fun _ h9 => h9) rfl d_FL_include_1 ?_
  refine lv_bipush (v := (40 : Int32)) hx hb d_FL_include_4 (by decide) ?_
  refine lv_icmp_ge (tgt := 41) hx hb d_FL_include_6 (by decide) (fun h99 => absurd h99 (fun z99 => absurd ((nI_leI (a := 40) (b := fn) (by omega) (by omega)).mp z99) (by omega))) (fun _ => ?_)
  refine lv_aload_n hx hb d_FL_include_9 rfl (lv_at hl 0 rfl) ?_
  refine lv_iload_n hx hb d_FL_include_10 rfl (lv_at hl 1 rfl) ?_
  refine cx_call (D := D) (cl := kl) (ws := _) (wc := [(fl, .inr (3, [.ref fm, .int (nI fn), .ref fd, .ref ft, .ref fc])), (fm, .inl (cI, 40, .inl (nf mk)))]) (wr := []) (tx_runV (C := cn_FL) (b := fl) (As := [.int (nI mm)]) (rest := []) hx hb hml hown (c_FL_indexOf E s.heap.size fl fm fd ft fc fn mk mm hmk hfn hmm) (cx_C (b0 := b0) G hx0 mw_501 mw_5 ny_FL_indexOf (by decide)) (gw.at G hx0 mw_498 rfl _) (gw.at G hx0 mw_500 rfl _) (gw.at G hx0 ms_FL_indexOf rfl _) ⟨cx_blind, va_recv hK hP (q0 := 0) (ci := 3) (q := (cn_FL, ft_FL, 5)) rfl rfl, (cx_pre (s := s) hx0 hP hD hS hA0 [0, 1] rfl rfl (by decide))⟩ rfl rfl hl.1 rfl (lv_room (Nat.le_of_ble_eq_true rfl)) d_FL_include_11 ⟨by decide, by decide⟩) hP hD hS hA [0, 1] [] rfl rfl (by decide) (by decide) (fun v t w1 H locs ht hW9 hp hP hD hS => ?_) (fun x t w1 H locs ht hW9 hp hP hD hS => by obtain ⟨h9, -⟩ := hp; cases h9)
  obtain ⟨h9, rfl⟩ := hp
  cases h9
  refine W.eq (g2 := F0 m 14 ls [.int (nI (idx mk mm fn))]) rfl ?_
  refine W.widen (k := 0) (n := 0) (by decide) (by decide) ?_
  have hP : va_P D kl [(fl, .inr (3, [.ref fm, .int (nI fn), .ref fd, .ref ft, .ref fc])), (fm, .inl (cI, 40, .inl (nf mk)))] H := hP
  have hD : va_D A [(fl, .inr (3, [.ref fm, .int (nI fn), .ref fd, .ref ft, .ref fc])), (fm, .inl (cI, 40, .inl (nf mk)))] := hD
  refine lv_aload_n hx hb d_FL_include_14 rfl (lv_at hl 0 rfl) ?_
  refine va_get (D := D) (ci := 3) (v := .int (nI fn)) (C := cn_FL) (T := ft_FL) (N := 5) hx hb hf_FL (fun _ h => h) hown hK hP 0 rfl rfl 1 (by decide) (gw.at G hx0 mw_83 rfl _) (fun _ h9 => h9) rfl d_FL_include_15 ?_
  refine lv_icmp_ne (tgt := 41) hx hb d_FL_include_18 (by decide) (fun h99 => absurd h99 (not_not_intro ((nI_eq (a := idx mk mm fn) (b := fn) (by omega) (by omega)).mpr (by omega)))) (fun _ => ?_)
  refine lv_aload_n hx hb d_FL_include_21 rfl (lv_at hl 0 rfl) ?_
  refine va_get (D := D) (ci := 3) (v := .ref fm) (C := cn_FL) (T := ft_FL) (N := 5) hx hb hf_FL (fun _ h => h) hown hK hP 0 rfl rfl 0 (by decide) (gw.at G hx0 mw_81 rfl _) (fun _ h9 => h9) rfl d_FL_include_22 ?_
  refine lv_aload_n hx hb d_FL_include_25 rfl (lv_at hl 0 rfl) ?_
  refine va_get (D := D) (ci := 3) (v := .int (nI fn)) (C := cn_FL) (T := ft_FL) (N := 5) hx hb hf_FL (fun _ h => h) hown hK hP 0 rfl rfl 1 (by decide) (gw.at G hx0 mw_83 rfl _) (fun _ h9 => h9) rfl d_FL_include_26 ?_
  refine lv_iload_n hx hb d_FL_include_29 rfl (lv_at hl 1 rfl) ?_
  refine va_iast hx hb hK hP hD hS 1 0 rfl rfl (vp_in_nI (n := fn) (by omega) (by omega)) d_FL_include_30 (fun H locs hP hD hS => ?_)
  rw [nI_clamp (n := fn) (by omega)] at hP hD
  rw [show upd (nf mk) fn (nI mm) = nf (updN mk fn mm) from nf_upd _ _ _] at hP hD
  have hP : va_P D kl [(fl, .inr (3, [.ref fm, .int (nI fn), .ref fd, .ref ft, .ref fc])), (fm, .inl (cI, 40, .inl (nf (updN mk fn mm))))] H := hP
  have hD : va_D A [(fl, .inr (3, [.ref fm, .int (nI fn), .ref fd, .ref ft, .ref fc])), (fm, .inl (cI, 40, .inl (nf (updN mk fn mm))))] := hD
  refine lv_aload_n hx hb d_FL_include_31 rfl (lv_at hl 0 rfl) ?_
  refine lv_dup hx hb d_FL_include_32 rfl ?_
  refine va_get (D := D) (ci := 3) (v := .int (nI fn)) (C := cn_FL) (T := ft_FL) (N := 5) hx hb hf_FL (fun _ h => h) hown hK hP 0 rfl rfl 1 (by decide) (gw.at G hx0 mw_83 rfl _) (fun _ h9 => h9) rfl d_FL_include_33 ?_
  refine lv_iconst (v := (1 : Int32)) hx hb d_FL_include_36 (by decide) ?_
  refine lv_iadd hx hb d_FL_include_37 ?_
  refine tp_i (y := nI (fn + 1)) (nI_add fn 1) ?_
  refine va_put (D := D) (ci := 3) (v := .int (nI (fn + 1))) (ty := .int) (C := cn_FL) (T := ft_FL) (N := 5) hx hb hf_FL (fun _ h => h) fy_FL fk_FL fn_FL hown hK hP hD hS 0 rfl rfl 1 (by decide) (gw.at G hx0 mw_83 rfl _) (fun _ h9 => h9) rfl (by decide +kernel) rfl rfl (Nat.le_of_ble_eq_true rfl) d_FL_include_38 (fun H locs hP hD hS => ?_)
  have hP : va_P D kl [(fl, .inr (3, [.ref fm, .int (nI (fn + 1)), .ref fd, .ref ft, .ref fc])), (fm, .inl (cI, 40, .inl (nf (updN mk fn mm))))] H := hP
  have hD : va_D A [(fl, .inr (3, [.ref fm, .int (nI (fn + 1)), .ref fd, .ref ft, .ref fc])), (fm, .inl (cI, 40, .inl (nf (updN mk fn mm))))] := hD
  exact tx_mono (fun _ h => tx_Z.of h) (W.vret hx hb hr (fun t ht hW => ⟨⟨[(fl, .inr (3, [.ref fm, .int (nI (fn + 1)), .ref fd, .ref ft, .ref fc])), (fm, .inl (cI, 40, .inl (nf (updN mk fn mm))))], ⟨rfl, rfl⟩, by rw [ht]; exact hP.sub [0, 1] rfl, hD.sub [0, 1] (by decide) rfl⟩, hS.F ht⟩) hS.2.2 d_FL_include_41)

set_option maxHeartbeats 4000000 in
set_option maxRecDepth 100000 in
theorem c_FL_inc_n {l : Launch} {s0 : State} {b0 : Addr} {D : va_G} {cI cJ cZ : ClassId} {tC tS : Nat} (E : gE l s0 b0 D cI cJ cZ tC tS) (sz : Nat) (fl : Nat) (fm : Nat) (fd : Nat) (ft : Nat) (fc : Nat) (fn : Nat) (mk : Nat → Nat) (mm : Nat) (hmk : ∀ j, mk j < 4096) (hfn : fn ≤ 40) (hmm : mm < 4096) (h : ¬ incC fn mk mm) : cx_M l s0 D kl y_FL_include b_FL_include 2 none ({ frames := 1, cells := 0, slots := 0, locals := 22 } : Room) 0 0 [.ref fl, .int (nI mm)] [(fl, .inr (3, [.ref fm, .int (nI fn), .ref fd, .ref ft, .ref fc])), (fm, .inl (cI, 40, .inl (nf mk)))] sz (fun o9 _ w9 => o9 = .returned none ∧ w9 = [(fl, .inr (3, [.ref fm, .int (nI fn), .ref fd, .ref ft, .ref fc])), (fm, .inl (cI, 40, .inl (nf mk)))]) := by
  refine tx_ofW (cc := b_FL_include) (maxL := 2) (ret := none) (by decide) rfl ?_
  intro p e s m args below meth c s₁ B hml hT hv
  obtain ⟨rfl, hsz, hP, hD0, hx0⟩ := hv
  have hx := B.exec
  have hb := B.bytes
  have hr := B.returns
  have G := E.2.1
  have hown : s.vm.findClass cn_FL = some m.cls := findClass_of_methodNamed B.named
  have hlocks := B.notSynchronized
  have hK := va_K.moved hx0.1.alike E.2.2.1
  have hf_FL : ∀ w99 ∈ u_ws cn_FL ft_FL 5, w99.before ([.ref fl, .int (nI mm)] : List Value).toArray s = true := fun w99 h99 => gw.at G hx0 (fw_FL w99 h99) (fo_FL w99 h99) _
  subst hsz
  have hA0 := cx_new hD0 hx0.2.1
  have hD := hD0.self (sz := s.heap.size)
  generalize hAe : va_A [(fl, .inr (3, [.ref fm, .int (nI fn), .ref fd, .ref ft, .ref fc])), (fm, .inl (cI, 40, .inl (nf mk)))] s.heap.size = A at hD hA0 ⊢
  have hA : ∀ q : Nat, s.heap.size ≤ q → A q := fun q h => by rw [← hAe]; exact Or.inr h
  have hS : va_S A s.heap s.heap [] := va_S.rf
  have hl := lv_entry ([.ref fl, .int (nI mm)]) (n := 2) (Nat.le_of_ble_eq_true rfl)
  rw [lg_entry_eq]
  generalize (lg_sl ([.ref fl, .int (nI mm)]) ++ List.replicate (2 - (lg_sl ([.ref fl, .int (nI mm)])).length) Slot.unset).toArray = ls at hl ⊢
  have hl : lv_has ls 2 [(0, .ref fl), (1, .int (nI mm))] := hl
  have hP : va_P D kl [(fl, .inr (3, [.ref fm, .int (nI fn), .ref fd, .ref ft, .ref fc])), (fm, .inl (cI, 40, .inl (nf mk)))] s.heap := hP
  have hml : c.maxLocals = 2 := hml
  have hil := idx_le mk mm fn
  refine lv_aload_n hx hb d_FL_include_0 rfl (lv_at hl 0 rfl) ?_
  refine va_get (D := D) (ci := 3) (v := .int (nI fn)) (C := cn_FL) (T := ft_FL) (N := 5) hx hb hf_FL (fun _ h => h) hown hK hP 0 rfl rfl 1 (by decide) (gw.at G hx0 mw_83 rfl _) (fun _ h9 => h9) rfl d_FL_include_1 ?_
  refine lv_bipush (v := (40 : Int32)) hx hb d_FL_include_4 (by decide) ?_
  refine lv_icmp_ge (tgt := 41) hx hb d_FL_include_6 (by decide) (fun h_1 => ?_) (fun h_1 => ?_)
  · have h_1 : 40 ≤ fn := (nI_leI (a := 40) (b := fn) (by omega) (by omega)).mp h_1
    exact tx_mono (fun _ h => tx_Z.of h) (W.vret hx hb hr (fun t ht hW => ⟨⟨[(fl, .inr (3, [.ref fm, .int (nI fn), .ref fd, .ref ft, .ref fc])), (fm, .inl (cI, 40, .inl (nf mk)))], ⟨rfl, rfl⟩, by rw [ht]; exact hP.sub [0, 1] rfl, hD.sub [0, 1] (by decide) rfl⟩, hS.F ht⟩) hS.2.2 d_FL_include_41)
  · have h_1 : ¬ (40 ≤ fn) := fun z99 => h_1 ((nI_leI (a := 40) (b := fn) (by omega) (by omega)).mpr z99)
    refine lv_aload_n hx hb d_FL_include_9 rfl (lv_at hl 0 rfl) ?_
    refine lv_iload_n hx hb d_FL_include_10 rfl (lv_at hl 1 rfl) ?_
    refine cx_call (D := D) (cl := kl) (ws := _) (wc := [(fl, .inr (3, [.ref fm, .int (nI fn), .ref fd, .ref ft, .ref fc])), (fm, .inl (cI, 40, .inl (nf mk)))]) (wr := []) (tx_runV (C := cn_FL) (b := fl) (As := [.int (nI mm)]) (rest := []) hx hb hml hown (c_FL_indexOf E s.heap.size fl fm fd ft fc fn mk mm hmk hfn hmm) (cx_C (b0 := b0) G hx0 mw_501 mw_5 ny_FL_indexOf (by decide)) (gw.at G hx0 mw_498 rfl _) (gw.at G hx0 mw_500 rfl _) (gw.at G hx0 ms_FL_indexOf rfl _) ⟨cx_blind, va_recv hK hP (q0 := 0) (ci := 3) (q := (cn_FL, ft_FL, 5)) rfl rfl, (cx_pre (s := s) hx0 hP hD hS hA0 [0, 1] rfl rfl (by decide))⟩ rfl rfl hl.1 rfl (lv_room (Nat.le_of_ble_eq_true rfl)) d_FL_include_11 ⟨by decide, by decide⟩) hP hD hS hA [0, 1] [] rfl rfl (by decide) (by decide) (fun v t w1 H locs ht hW9 hp hP hD hS => ?_) (fun x t w1 H locs ht hW9 hp hP hD hS => by obtain ⟨h9, -⟩ := hp; cases h9)
    obtain ⟨h9, rfl⟩ := hp
    cases h9
    refine W.eq (g2 := F0 m 14 ls [.int (nI (idx mk mm fn))]) rfl ?_
    refine W.widen (k := 0) (n := 0) (by decide) (by decide) ?_
    have hP : va_P D kl [(fl, .inr (3, [.ref fm, .int (nI fn), .ref fd, .ref ft, .ref fc])), (fm, .inl (cI, 40, .inl (nf mk)))] H := hP
    have hD : va_D A [(fl, .inr (3, [.ref fm, .int (nI fn), .ref fd, .ref ft, .ref fc])), (fm, .inl (cI, 40, .inl (nf mk)))] := hD
    refine lv_aload_n hx hb d_FL_include_14 rfl (lv_at hl 0 rfl) ?_
    refine va_get (D := D) (ci := 3) (v := .int (nI fn)) (C := cn_FL) (T := ft_FL) (N := 5) hx hb hf_FL (fun _ h => h) hown hK hP 0 rfl rfl 1 (by decide) (gw.at G hx0 mw_83 rfl _) (fun _ h9 => h9) rfl d_FL_include_15 ?_
    refine lv_icmp_ne (tgt := 41) hx hb d_FL_include_18 (by decide) (fun h_2 => ?_) (fun h_2 => ?_)
    · have h_2 : ¬ ((idx mk mm fn) = fn) := fun z99 => h_2 ((nI_eq (a := idx mk mm fn) (b := fn) (by omega) (by omega)).mpr z99)
      exact tx_mono (fun _ h => tx_Z.of h) (W.vret hx hb hr (fun t ht hW => ⟨⟨[(fl, .inr (3, [.ref fm, .int (nI fn), .ref fd, .ref ft, .ref fc])), (fm, .inl (cI, 40, .inl (nf mk)))], ⟨rfl, rfl⟩, by rw [ht]; exact hP.sub [0, 1] rfl, hD.sub [0, 1] (by decide) rfl⟩, hS.F ht⟩) hS.2.2 d_FL_include_41)
    · have h_2 : (idx mk mm fn) = fn := (nI_eq (a := idx mk mm fn) (b := fn) (by omega) (by omega)).mp h_2
      refine lv_aload_n hx hb d_FL_include_21 rfl (lv_at hl 0 rfl) ?_
      refine va_get (D := D) (ci := 3) (v := .ref fm) (C := cn_FL) (T := ft_FL) (N := 5) hx hb hf_FL (fun _ h => h) hown hK hP 0 rfl rfl 0 (by decide) (gw.at G hx0 mw_81 rfl _) (fun _ h9 => h9) rfl d_FL_include_22 ?_
      refine lv_aload_n hx hb d_FL_include_25 rfl (lv_at hl 0 rfl) ?_
      refine va_get (D := D) (ci := 3) (v := .int (nI fn)) (C := cn_FL) (T := ft_FL) (N := 5) hx hb hf_FL (fun _ h => h) hown hK hP 0 rfl rfl 1 (by decide) (gw.at G hx0 mw_83 rfl _) (fun _ h9 => h9) rfl d_FL_include_26 ?_
      refine lv_iload_n hx hb d_FL_include_29 rfl (lv_at hl 1 rfl) ?_
      refine va_iast hx hb hK hP hD hS 1 0 rfl rfl (vp_in_nI (n := fn) (by omega) (by omega)) d_FL_include_30 (fun H locs hP hD hS => ?_)
      rw [nI_clamp (n := fn) (by omega)] at hP hD
      rw [show upd (nf mk) fn (nI mm) = nf (updN mk fn mm) from nf_upd _ _ _] at hP hD
      have hP : va_P D kl [(fl, .inr (3, [.ref fm, .int (nI fn), .ref fd, .ref ft, .ref fc])), (fm, .inl (cI, 40, .inl (nf (updN mk fn mm))))] H := hP
      have hD : va_D A [(fl, .inr (3, [.ref fm, .int (nI fn), .ref fd, .ref ft, .ref fc])), (fm, .inl (cI, 40, .inl (nf (updN mk fn mm))))] := hD
      refine lv_aload_n hx hb d_FL_include_31 rfl (lv_at hl 0 rfl) ?_
      refine lv_dup hx hb d_FL_include_32 rfl ?_
      refine va_get (D := D) (ci := 3) (v := .int (nI fn)) (C := cn_FL) (T := ft_FL) (N := 5) hx hb hf_FL (fun _ h => h) hown hK hP 0 rfl rfl 1 (by decide) (gw.at G hx0 mw_83 rfl _) (fun _ h9 => h9) rfl d_FL_include_33 ?_
      refine lv_iconst (v := (1 : Int32)) hx hb d_FL_include_36 (by decide) ?_
      refine lv_iadd hx hb d_FL_include_37 ?_
      refine tp_i (y := nI (fn + 1)) (nI_add fn 1) ?_
      refine va_put (D := D) (ci := 3) (v := .int (nI (fn + 1))) (ty := .int) (C := cn_FL) (T := ft_FL) (N := 5) hx hb hf_FL (fun _ h => h) fy_FL fk_FL fn_FL hown hK hP hD hS 0 rfl rfl 1 (by decide) (gw.at G hx0 mw_83 rfl _) (fun _ h9 => h9) rfl (by decide +kernel) rfl rfl (Nat.le_of_ble_eq_true rfl) d_FL_include_38 (fun H locs hP hD hS => ?_)
      have hP : va_P D kl [(fl, .inr (3, [.ref fm, .int (nI (fn + 1)), .ref fd, .ref ft, .ref fc])), (fm, .inl (cI, 40, .inl (nf (updN mk fn mm))))] H := hP
      have hD : va_D A [(fl, .inr (3, [.ref fm, .int (nI (fn + 1)), .ref fd, .ref ft, .ref fc])), (fm, .inl (cI, 40, .inl (nf (updN mk fn mm))))] := hD
      exact absurd ⟨by omega, h_2⟩ h

theorem c_FL_include {l : Launch} {s0 : State} {b0 : Addr} {D : va_G} {cI cJ cZ : ClassId} {tC tS : Nat} (E : gE l s0 b0 D cI cJ cZ tC tS) (sz : Nat) (fl : Nat) (fm : Nat) (fd : Nat) (ft : Nat) (fc : Nat) (fn : Nat) (mk : Nat → Nat) (mm : Nat) (hmk : ∀ j, mk j < 4096) (hfn : fn ≤ 40) (hmm : mm < 4096) : cx_M l s0 D kl y_FL_include b_FL_include 2 none ({ frames := 1, cells := 0, slots := 0, locals := 22 } : Room) 0 0 [.ref fl, .int (nI mm)] [(fl, .inr (3, [.ref fm, .int (nI fn), .ref fd, .ref ft, .ref fc])), (fm, .inl (cI, 40, .inl (nf mk)))] sz (fun o9 _ w9 => o9 = .returned none ∧ w9 = [(fl, .inr (3, [.ref fm, .int (nI (incN fn mk mm)), .ref fd, .ref ft, .ref fc])), (fm, .inl (cI, 40, .inl (nf (incF fn mk mm))))]) := by
  by_cases hc : incC fn mk mm
  · rw [incN_y hc, incF_y hc]
    exact c_FL_inc_y E sz fl fm fd ft fc fn mk mm hmk hfn hmm hc
  · rw [incN_n hc, incF_n hc]
    exact c_FL_inc_n E sz fl fm fd ft fc fn mk mm hmk hfn hmm hc

