/-! ===== own rows, laid by wip/tools/sym.py: InnerPoints.findMixes, fillInner ===== -/
noncomputable def fmi (ix : Int32) (mc : Nat) (sf : Nat → Int32) (m : Nat) : Nat → Nat × (Nat → Int32) → Nat × (Nat → Int32)
  | 0, p => p
  | q + 1, p => if sf q = 0 then fmi ix mc sf m q p else (imN (fmi ix mc sf m q p).1 (fmi ix mc sf m q p).2 (smf ix ((fmi ix mc sf m q p).2 m) (sf q) mc), imF (fmi ix mc sf m q p).1 (fmi ix mc sf m q p).2 (smf ix ((fmi ix mc sf m q p).2 m) (sf q) mc))
noncomputable def fmo (ix : Int32) (mc : Nat) (sf : Nat → Int32) : Nat → Nat × (Nat → Int32) → Nat × (Nat → Int32)
  | 0, p => p
  | m + 1, p => if m < (fmo ix mc sf m p).1 then fmi ix mc sf m 16 (fmo ix mc sf m p) else fmo ix mc sf m p
theorem fmi_n {ix : Int32} {mc m q : Nat} {sf : Nat → Int32} {p : Nat × (Nat → Int32)} (h : sf q = 0) : fmi ix mc sf m (q + 1) p = fmi ix mc sf m q p := by
  show (if sf q = 0 then fmi ix mc sf m q p else _) = _
  rw [if_pos h]
theorem fmi_y {ix : Int32} {mc m q n : Nat} {sf f : Nat → Int32} {p : Nat × (Nat → Int32)} (hp : fmi ix mc sf m q p = (n, f)) (h : ¬ sf q = 0) : fmi ix mc sf m (q + 1) p = (imN n f (smf ix (f m) (sf q) mc), imF n f (smf ix (f m) (sf q) mc)) := by
  show (if sf q = 0 then _ else (imN (fmi ix mc sf m q p).1 (fmi ix mc sf m q p).2 (smf ix ((fmi ix mc sf m q p).2 m) (sf q) mc), imF (fmi ix mc sf m q p).1 (fmi ix mc sf m q p).2 (smf ix ((fmi ix mc sf m q p).2 m) (sf q) mc))) = _
  rw [if_neg h, hp]
theorem fmo_s {ix : Int32} {mc m n n4 : Nat} {sf f f4 : Nat → Int32} {p : Nat × (Nat → Int32)} (hp : fmo ix mc sf m p = (n, f)) (hm : m < n) (h4 : fmi ix mc sf m 16 (n, f) = (n4, f4)) : fmo ix mc sf (m + 1) p = (n4, f4) := by
  show (if m < (fmo ix mc sf m p).1 then fmi ix mc sf m 16 (fmo ix mc sf m p) else fmo ix mc sf m p) = _
  rw [hp, if_pos hm, h4]
theorem fmo_stay {ix : Int32} {mc z : Nat} {sf : Nat → Int32} {p : Nat × (Nat → Int32)} (h : (fmo ix mc sf z p).1 ≤ z) : ∀ y, z ≤ y → fmo ix mc sf y p = fmo ix mc sf z p := by
  intro y
  induction y with
  | zero => intro hy; rw [show z = 0 by omega]
  | succ y ih =>
    intro hy
    by_cases e : z = y + 1
    · rw [e]
    · have h1 := ih (by omega)
      show (if y < (fmo ix mc sf y p).1 then fmi ix mc sf y 16 (fmo ix mc sf y p) else fmo ix mc sf y p) = _
      rw [if_neg (by rw [h1]; omega), h1]
set_option maxHeartbeats 4000000 in
set_option maxRecDepth 100000 in
theorem c_IP_findMixes {l : Launch} {s0 : State} {b0 : Addr} {D : va_G} {cI cJ cZ : ClassId} {tC tS : Nat} (E : gE l s0 b0 D cI cJ cZ tC tS) (sz : Nat) (ip : Nat) (im : Nat) (ie : Nat) (is : Nat) (iy : Nat) (ii : Nat) (mc : Nat) (mx0 : Int32) (ix : Int32) (xf : Nat → Int32) (sf : Nat → Int32) (hmc : mc ≤ 4) : cx_M l s0 D kl y_IP_findMixes b_IP_findMixes 3 none ({ frames := 1, cells := 0, slots := 0, locals := 25 } : Room) 0 0 [.ref ip] [(ip, .inr (5, [.ref im, .ref ie, .ref is, .ref iy, .ref ii, .int (nI mc), .int mx0, .int ix])), (iy, .inl (cI, 12, .inl xf)), (is, .inl (cI, 16, .inl sf))] sz (fun o9 _ w9 => o9 = .returned none ∧ (fmo ix mc sf 12 (1, upd xf 0 (0 : Int32))).1 ≤ 12 ∧ w9 = [(ip, .inr (5, [.ref im, .ref ie, .ref is, .ref iy, .ref ii, .int (nI mc), .int (nI ((fmo ix mc sf 12 (1, upd xf 0 (0 : Int32))).1)), .int ix])), (iy, .inl (cI, 12, .inl ((fmo ix mc sf 12 (1, upd xf 0 (0 : Int32))).2))), (is, .inl (cI, 16, .inl sf))]) := by
  refine tx_ofW (cc := b_IP_findMixes) (maxL := 3) (ret := none) (by decide) rfl ?_
  intro p e s m args below meth c s₁ B hml hT hv
  obtain ⟨rfl, hsz, hP, hD0, hx0⟩ := hv
  have hx := B.exec
  have hb := B.bytes
  have hr := B.returns
  have G := E.2.1
  have hown : s.vm.findClass cn_IP = some m.cls := findClass_of_methodNamed B.named
  have hlocks := B.notSynchronized
  have hK := va_K.moved hx0.1.alike E.2.2.1
  have hf_IP : ∀ w99 ∈ u_ws cn_IP ft_IP 8, w99.before ([.ref ip] : List Value).toArray s = true := fun w99 h99 => gw.at G hx0 (fw_IP w99 h99) (fo_IP w99 h99) _
  subst hsz
  have hA0 := cx_new hD0 hx0.2.1
  have hD := hD0.self (sz := s.heap.size)
  generalize hAe : va_A [(ip, .inr (5, [.ref im, .ref ie, .ref is, .ref iy, .ref ii, .int (nI mc), .int mx0, .int ix])), (iy, .inl (cI, 12, .inl xf)), (is, .inl (cI, 16, .inl sf))] s.heap.size = A at hD hA0 ⊢
  have hA : ∀ q : Nat, s.heap.size ≤ q → A q := fun q h => by rw [← hAe]; exact Or.inr h
  have hS : va_S A s.heap s.heap [] := va_S.rf
  have hl := lv_entry ([.ref ip]) (n := 3) (Nat.le_of_ble_eq_true rfl)
  rw [lg_entry_eq]
  generalize (lg_sl ([.ref ip]) ++ List.replicate (3 - (lg_sl ([.ref ip])).length) Slot.unset).toArray = ls at hl ⊢
  have hl : lv_has ls 3 [(0, .ref ip)] := hl
  have hP : va_P D kl [(ip, .inr (5, [.ref im, .ref ie, .ref is, .ref iy, .ref ii, .int (nI mc), .int mx0, .int ix])), (iy, .inl (cI, 12, .inl xf)), (is, .inl (cI, 16, .inl sf))] s.heap := hP
  have hml : c.maxLocals = 3 := hml
  generalize hQe : tx_Z below (cx_Q D kl A (fun o9 _ w9 => o9 = .returned none ∧ (fmo ix mc sf 12 (1, upd xf 0 (0 : Int32))).1 ≤ 12 ∧ w9 = [(ip, .inr (5, [.ref im, .ref ie, .ref is, .ref iy, .ref ii, .int (nI mc), .int (nI ((fmo ix mc sf 12 (1, upd xf 0 (0 : Int32))).1)), .int ix])), (iy, .inl (cI, 12, .inl ((fmo ix mc sf 12 (1, upd xf 0 (0 : Int32))).2))), (is, .inl (cI, 16, .inl sf))])) ([.ref ip] : List Value).toArray s 0 0 A = Q
  refine lv_aload_n hx hb d_IP_findMixes_0 rfl (lv_at hl 0 rfl) ?_
  refine va_get (D := D) (ci := 5) (v := .ref iy) (C := cn_IP) (T := ft_IP) (N := 8) hx hb hf_IP (fun _ h => h) hown hK hP 0 rfl rfl 3 (by decide) (gw.at G hx0 mw_142 rfl _) (fun _ h9 => h9) rfl d_IP_findMixes_1 ?_
  refine lv_iconst (v := (0 : Int32)) hx hb d_IP_findMixes_4 (by decide) ?_
  refine lv_iconst (v := (0 : Int32)) hx hb d_IP_findMixes_5 (by decide) ?_
  refine va_iast hx hb hK hP hD hS 1 0 rfl rfl (vp_in_iff.mpr (by decide)) d_IP_findMixes_6 (fun H locs hP hD hS => ?_)
  have hP : va_P D kl [(ip, .inr (5, [.ref im, .ref ie, .ref is, .ref iy, .ref ii, .int (nI mc), .int mx0, .int ix])), (iy, .inl (cI, 12, .inl (upd xf 0 (0 : Int32)))), (is, .inl (cI, 16, .inl sf))] H := hP
  have hD : va_D A [(ip, .inr (5, [.ref im, .ref ie, .ref is, .ref iy, .ref ii, .int (nI mc), .int mx0, .int ix])), (iy, .inl (cI, 12, .inl (upd xf 0 (0 : Int32)))), (is, .inl (cI, 16, .inl sf))] := hD
  refine lv_aload_n hx hb d_IP_findMixes_7 rfl (lv_at hl 0 rfl) ?_
  refine lv_iconst (v := (1 : Int32)) hx hb d_IP_findMixes_8 (by decide) ?_
  refine va_put (D := D) (ci := 5) (v := .int (1 : Int32)) (ty := .int) (C := cn_IP) (T := ft_IP) (N := 8) hx hb hf_IP (fun _ h => h) fy_IP fk_IP fn_IP hown hK hP hD hS 0 rfl rfl 6 (by decide) (gw.at G hx0 mw_145 rfl _) (fun _ h9 => h9) rfl (by decide +kernel) rfl rfl (Nat.le_of_ble_eq_true rfl) d_IP_findMixes_9 (fun H locs hP hD hS => ?_)
  have hP : va_P D kl [(ip, .inr (5, [.ref im, .ref ie, .ref is, .ref iy, .ref ii, .int (nI mc), .int (1 : Int32), .int ix])), (iy, .inl (cI, 12, .inl (upd xf 0 (0 : Int32)))), (is, .inl (cI, 16, .inl sf))] H := hP
  have hD : va_D A [(ip, .inr (5, [.ref im, .ref ie, .ref is, .ref iy, .ref ii, .int (nI mc), .int (1 : Int32), .int ix])), (iy, .inl (cI, 12, .inl (upd xf 0 (0 : Int32)))), (is, .inl (cI, 16, .inl sf))] := hD
  refine lv_iconst (v := (0 : Int32)) hx hb d_IP_findMixes_12 (by decide) ?_
  refine lv_istore_n (lv' := [(1, .int (0 : Int32)), (0, .ref ip)]) hx hb d_IP_findMixes_13 rfl hl (by decide) rfl (fun ls hl => ?_)
  have lp_14 : ∀ (n9 : Nat) (z : Nat) (n2 : Nat) (f2 : Nat → Int32) (ls : Array Slot) (H : Heap) (locs : List Loc), 12 - z = n9 → (fmo ix mc sf z (1, upd xf 0 (0 : Int32)) = (n2, f2)) → (z ≤ 12) → (n2 ≤ 12) → lv_has ls 3 [(1, .int (nI z)), (0, .ref ip)] → va_P D kl [(ip, .inr (5, [.ref im, .ref ie, .ref is, .ref iy, .ref ii, .int (nI mc), .int (nI n2), .int ix])), (iy, .inl (cI, 12, .inl f2)), (is, .inl (cI, 16, .inl sf))] H → va_D A [(ip, .inr (5, [.ref im, .ref ie, .ref is, .ref iy, .ref ii, .int (nI mc), .int (nI n2), .int ix])), (iy, .inl (cI, 12, .inl f2)), (is, .inl (cI, 16, .inl sf))] → va_S A s.heap H locs → W p l e ({ frames := 1, cells := 0, slots := 0, locals := 25 } : Room) s m ([.ref ip] : List Value).toArray below meth c H locs 0 0 Q (F0 m 14 ls []) := by
    intro n9
    induction n9 using Nat.strongRecOn with
    | ind n9 ih_14 =>
      intro z n2 f2 ls H locs hm_14 hp2 hz9 hn2 hl hP hD hS
      refine lv_iload_n hx hb d_IP_findMixes_14 rfl (lv_at hl 0 rfl) ?_
      refine lv_aload_n hx hb d_IP_findMixes_15 rfl (lv_at hl 1 rfl) ?_
      refine va_get (D := D) (ci := 5) (v := .int (nI n2)) (C := cn_IP) (T := ft_IP) (N := 8) hx hb hf_IP (fun _ h => h) hown hK hP 0 rfl rfl 6 (by decide) (gw.at G hx0 mw_145 rfl _) (fun _ h9 => h9) rfl d_IP_findMixes_16 ?_
      refine lv_icmp_ge (tgt := 80) hx hb d_IP_findMixes_19 (by decide) (fun h_1 => ?_) (fun h_1 => ?_)
      · have h_1 : n2 ≤ z := (nI_leI (a := n2) (b := z) (by omega) (by omega)).mp h_1
        have ho9 : fmo ix mc sf 12 (1, upd xf 0 (0 : Int32)) = (n2, f2) := by
          exact (fmo_stay (by rw [hp2]; show n2 ≤ z; omega) 12 hz9).trans hp2
        have e1 : (fmo ix mc sf 12 (1, upd xf 0 (0 : Int32))).1 = n2 := by rw [ho9]
        have e2 : (fmo ix mc sf 12 (1, upd xf 0 (0 : Int32))).2 = f2 := by rw [ho9]
        clear hp2 ho9
        subst e1 e2
        rw [← hQe]
        exact tx_mono (fun _ h => tx_Z.of h) (W.vret hx hb hr (fun t ht hW => ⟨⟨[(ip, .inr (5, [.ref im, .ref ie, .ref is, .ref iy, .ref ii, .int (nI mc), .int (nI ((fmo ix mc sf 12 (1, upd xf 0 (0 : Int32))).1)), .int ix])), (iy, .inl (cI, 12, .inl ((fmo ix mc sf 12 (1, upd xf 0 (0 : Int32))).2))), (is, .inl (cI, 16, .inl sf))], ⟨rfl, hn2, rfl⟩, by rw [ht]; exact hP.sub [0, 1, 2] rfl, hD.sub [0, 1, 2] (by decide) rfl⟩, hS.F ht⟩) hS.2.2 d_IP_findMixes_80)
      · have h_1 : ¬ (n2 ≤ z) := fun z99 => h_1 ((nI_leI (a := n2) (b := z) (by omega) (by omega)).mpr z99)
        refine lv_iload_n hx hb d_IP_findMixes_22 rfl (lv_at hl 0 rfl) ?_
        refine lv_bipush (v := (12 : Int32)) hx hb d_IP_findMixes_23 (by decide) ?_
        refine lv_icmp_ge (tgt := 80) hx hb d_IP_findMixes_25 (by decide) (fun h_2 => ?_) (fun h_2 => ?_)
        · have h_2 : 12 ≤ z := (nI_leI (a := 12) (b := z) (by omega) (by omega)).mp h_2
          have ho9 : fmo ix mc sf 12 (1, upd xf 0 (0 : Int32)) = (n2, f2) := by
            have h0 : z = 12 := by omega
            exact h0 ▸ hp2
          have e1 : (fmo ix mc sf 12 (1, upd xf 0 (0 : Int32))).1 = n2 := by rw [ho9]
          have e2 : (fmo ix mc sf 12 (1, upd xf 0 (0 : Int32))).2 = f2 := by rw [ho9]
          clear hp2 ho9
          subst e1 e2
          rw [← hQe]
          exact tx_mono (fun _ h => tx_Z.of h) (W.vret hx hb hr (fun t ht hW => ⟨⟨[(ip, .inr (5, [.ref im, .ref ie, .ref is, .ref iy, .ref ii, .int (nI mc), .int (nI ((fmo ix mc sf 12 (1, upd xf 0 (0 : Int32))).1)), .int ix])), (iy, .inl (cI, 12, .inl ((fmo ix mc sf 12 (1, upd xf 0 (0 : Int32))).2))), (is, .inl (cI, 16, .inl sf))], ⟨rfl, hn2, rfl⟩, by rw [ht]; exact hP.sub [0, 1, 2] rfl, hD.sub [0, 1, 2] (by decide) rfl⟩, hS.F ht⟩) hS.2.2 d_IP_findMixes_80)
        · have h_2 : ¬ (12 ≤ z) := fun z99 => h_2 ((nI_leI (a := 12) (b := z) (by omega) (by omega)).mpr z99)
          refine lv_iconst (v := (0 : Int32)) hx hb d_IP_findMixes_28 (by decide) ?_
          refine lv_istore_n (lv' := [(2, .int (0 : Int32)), (1, .int (nI z)), (0, .ref ip)]) hx hb d_IP_findMixes_29 rfl hl (by decide) rfl (fun ls hl => ?_)
          have lp_30 : ∀ (n9 : Nat) (q : Nat) (n4 : Nat) (f4 : Nat → Int32) (ls : Array Slot) (H : Heap) (locs : List Loc), 16 - q = n9 → (fmi ix mc sf z q (n2, f2) = (n4, f4)) → (q ≤ 16) → (n4 ≤ 12) → lv_has ls 3 [(2, .int (nI q)), (1, .int (nI z)), (0, .ref ip)] → va_P D kl [(ip, .inr (5, [.ref im, .ref ie, .ref is, .ref iy, .ref ii, .int (nI mc), .int (nI n4), .int ix])), (iy, .inl (cI, 12, .inl f4)), (is, .inl (cI, 16, .inl sf))] H → va_D A [(ip, .inr (5, [.ref im, .ref ie, .ref is, .ref iy, .ref ii, .int (nI mc), .int (nI n4), .int ix])), (iy, .inl (cI, 12, .inl f4)), (is, .inl (cI, 16, .inl sf))] → va_S A s.heap H locs → W p l e ({ frames := 1, cells := 0, slots := 0, locals := 25 } : Room) s m ([.ref ip] : List Value).toArray below meth c H locs 0 0 Q (F0 m 30 ls []) := by
            intro n9
            induction n9 using Nat.strongRecOn with
            | ind n9 ih_30 =>
              intro q n4 f4 ls H locs hm_30 hp4 hq9 hn4 hl hP hD hS
              refine lv_iload_n hx hb d_IP_findMixes_30 rfl (lv_at hl 0 rfl) ?_
              refine lv_aload_n hx hb d_IP_findMixes_31 rfl (lv_at hl 2 rfl) ?_
              refine va_get (D := D) (ci := 5) (v := .ref is) (C := cn_IP) (T := ft_IP) (N := 8) hx hb hf_IP (fun _ h => h) hown hK hP 0 rfl rfl 2 (by decide) (gw.at G hx0 mw_141 rfl _) (fun _ h9 => h9) rfl d_IP_findMixes_32 ?_
              refine va_alen (v := (16 : Int32)) hx hb hK hP 2 0 rfl rfl (by rfl) d_IP_findMixes_35 ?_
              refine lv_icmp_ge (tgt := 74) hx hb d_IP_findMixes_36 (by decide) (fun h_3 => ?_) (fun h_3 => ?_)
              · have h_3 : 16 ≤ q := (nI_leI (a := 16) (b := q) (by omega) (by omega)).mp h_3
                refine lv_iinc (lv' := [(1, .int (nI (z + 1))), (2, .int (nI q)), (0, .ref ip)]) (k := 1) (v := nI (z + 1)) hx hb d_IP_findMixes_74 hl rfl (nI_add z 1) (by decide) rfl (fun ls hl => ?_)
                refine lv_goto (tgt := 14) hx hb d_IP_findMixes_77 (by decide) ?_
                exact ih_14 _ (by omega) (z + 1) n4 f4 ls H locs rfl (fmo_s hp2 (by omega) ((show q = 16 by omega) ▸ hp4)) (by omega) hn4 (lv_sub hl [0, 2] rfl) (hP.sub [0, 1, 2] rfl) (hD.sub [0, 1, 2] (by decide) rfl) hS
              · have h_3 : ¬ (16 ≤ q) := fun z99 => h_3 ((nI_leI (a := 16) (b := q) (by omega) (by omega)).mpr z99)
                refine lv_aload_n hx hb d_IP_findMixes_39 rfl (lv_at hl 2 rfl) ?_
                refine va_get (D := D) (ci := 5) (v := .ref is) (C := cn_IP) (T := ft_IP) (N := 8) hx hb hf_IP (fun _ h => h) hown hK hP 0 rfl rfl 2 (by decide) (gw.at G hx0 mw_141 rfl _) (fun _ h9 => h9) rfl d_IP_findMixes_40 ?_
                refine lv_iload_n hx hb d_IP_findMixes_43 rfl (lv_at hl 0 rfl) ?_
                refine va_iald hx hb hK hP 2 0 rfl rfl (vp_in_nI (n := q) (by omega) (by omega)) d_IP_findMixes_44 ?_
                refine tp_i (y := sf q) (congrArg sf (nI_clamp (n := q) (by omega))) ?_
                refine lv_if_eq (tgt := 68) hx hb d_IP_findMixes_45 (by decide) (fun h_4 => ?_) (fun h_4 => ?_)
                · refine lv_iinc (lv' := [(2, .int (nI (q + 1))), (1, .int (nI z)), (0, .ref ip)]) (k := 0) (v := nI (q + 1)) hx hb d_IP_findMixes_68 hl rfl (nI_add q 1) (by decide) rfl (fun ls hl => ?_)
                  refine lv_goto (tgt := 30) hx hb d_IP_findMixes_71 (by decide) ?_
                  exact ih_30 _ (by omega) (q + 1) n4 f4 ls H locs rfl (by rw [fmi_n h_4]; exact hp4) (by omega) hn4 (lv_sub hl [0, 1, 2] rfl) (hP.sub [0, 1, 2] rfl) (hD.sub [0, 1, 2] (by decide) rfl) hS
                · refine lv_aload_n hx hb d_IP_findMixes_48 rfl (lv_at hl 2 rfl) ?_
                  refine lv_aload_n hx hb d_IP_findMixes_49 rfl (lv_at hl 2 rfl) ?_
                  refine lv_aload_n hx hb d_IP_findMixes_50 rfl (lv_at hl 2 rfl) ?_
                  refine va_get (D := D) (ci := 5) (v := .ref iy) (C := cn_IP) (T := ft_IP) (N := 8) hx hb hf_IP (fun _ h => h) hown hK hP 0 rfl rfl 3 (by decide) (gw.at G hx0 mw_142 rfl _) (fun _ h9 => h9) rfl d_IP_findMixes_51 ?_
                  refine lv_iload_n hx hb d_IP_findMixes_54 rfl (lv_at hl 1 rfl) ?_
                  refine va_iald hx hb hK hP 1 0 rfl rfl (vp_in_nI (n := z) (by omega) (by omega)) d_IP_findMixes_55 ?_
                  refine tp_i (y := f4 z) (congrArg f4 (nI_clamp (n := z) (by omega))) ?_
                  refine lv_aload_n hx hb d_IP_findMixes_56 rfl (lv_at hl 2 rfl) ?_
                  refine va_get (D := D) (ci := 5) (v := .ref is) (C := cn_IP) (T := ft_IP) (N := 8) hx hb hf_IP (fun _ h => h) hown hK hP 0 rfl rfl 2 (by decide) (gw.at G hx0 mw_141 rfl _) (fun _ h9 => h9) rfl d_IP_findMixes_57 ?_
                  refine lv_iload_n hx hb d_IP_findMixes_60 rfl (lv_at hl 0 rfl) ?_
                  refine va_iald hx hb hK hP 2 0 rfl rfl (vp_in_nI (n := q) (by omega) (by omega)) d_IP_findMixes_61 ?_
                  refine tp_i (y := sf q) (congrArg sf (nI_clamp (n := q) (by omega))) ?_
                  refine cx_call (D := D) (cl := kl) (ws := _) (wc := [(ip, .inr (5, [.ref im, .ref ie, .ref is, .ref iy, .ref ii, .int (nI mc), .int (nI n4), .int ix]))]) (wr := [(iy, .inl (cI, 12, .inl f4)), (is, .inl (cI, 16, .inl sf))]) (tx_runV (C := cn_IP) (b := ip) (As := [.int (f4 z), .int (sf q)]) (rest := [.ref ip]) hx hb hml hown (c_IP_sumOf E H.size ip im ie is iy ii mc (nI n4) ix (f4 z) (sf q) hmc) (cx_C (b0 := b0) G hx0 mw_581 mw_8 ny_IP_sumOf (by decide)) (gw.at G hx0 mw_578 rfl _) (gw.at G hx0 mw_580 rfl _) (gw.at G hx0 ms_IP_sumOf rfl _) ⟨cx_blind, va_recv hK hP (q0 := 0) (ci := 5) (q := (cn_IP, ft_IP, 8)) rfl rfl, (cx_pre (s := s) hx0 hP hD hS hA0 [0] rfl rfl (by decide))⟩ rfl rfl hl.1 rfl (lv_room (Nat.le_of_ble_eq_true rfl)) d_IP_findMixes_62 ⟨by decide, by decide⟩) hP hD hS hA [0] [1, 2] rfl rfl (by decide) (by decide) (fun v t w1 H locs ht hW9 hp hP hD hS => ?_) (fun x t w1 H locs ht hW9 hp hP hD hS => by obtain ⟨h9, -⟩ := hp; cases h9)
                  obtain ⟨h9, rfl⟩ := hp
                  cases h9
                  refine W.eq (g2 := F0 m 65 ls [.int (smf ix (f4 z) (sf q) mc), .ref ip]) rfl ?_
                  refine W.widen (k := 0) (n := 0) (by decide) (by decide) ?_
                  have hP : va_P D kl [(iy, .inl (cI, 12, .inl f4)), (is, .inl (cI, 16, .inl sf)), (ip, .inr (5, [.ref im, .ref ie, .ref is, .ref iy, .ref ii, .int (nI mc), .int (nI n4), .int ix]))] H := hP
                  have hD : va_D A [(iy, .inl (cI, 12, .inl f4)), (is, .inl (cI, 16, .inl sf)), (ip, .inr (5, [.ref im, .ref ie, .ref is, .ref iy, .ref ii, .int (nI mc), .int (nI n4), .int ix]))] := hD
                  refine cx_call (D := D) (cl := kl) (ws := _) (wc := [(ip, .inr (5, [.ref im, .ref ie, .ref is, .ref iy, .ref ii, .int (nI mc), .int (nI n4), .int ix])), (iy, .inl (cI, 12, .inl f4))]) (wr := [(is, .inl (cI, 16, .inl sf))]) (tx_runV (C := cn_IP) (b := ip) (As := [.int (smf ix (f4 z) (sf q) mc)]) (rest := []) hx hb hml hown (c_IP_include E H.size ip im ie is iy ii (nI mc) n4 ix f4 (smf ix (f4 z) (sf q) mc) hn4) (cx_C (b0 := b0) G hx0 mw_585 mw_8 ny_IP_includeMix (by decide)) (gw.at G hx0 mw_582 rfl _) (gw.at G hx0 mw_584 rfl _) (gw.at G hx0 ms_IP_includeMix rfl _) ⟨cx_blind, va_recv hK hP (q0 := 2) (ci := 5) (q := (cn_IP, ft_IP, 8)) rfl rfl, (cx_pre (s := s) hx0 hP hD hS hA0 [2, 0] rfl rfl (by decide))⟩ rfl rfl hl.1 rfl (lv_room (Nat.le_of_ble_eq_true rfl)) d_IP_findMixes_65 ⟨by decide, by decide⟩) hP hD hS hA [2, 0] [1] rfl rfl (by decide) (by decide) (fun v t w1 H locs ht hW9 hp hP hD hS => ?_) (fun x t w1 H locs ht hW9 hp hP hD hS => by obtain ⟨h9, -⟩ := hp; cases h9)
                  obtain ⟨h9, rfl⟩ := hp
                  cases h9
                  refine W.eq (g2 := F0 m 68 ls []) rfl ?_
                  refine W.widen (k := 0) (n := 0) (by decide) (by decide) ?_
                  have hP : va_P D kl [(is, .inl (cI, 16, .inl sf)), (ip, .inr (5, [.ref im, .ref ie, .ref is, .ref iy, .ref ii, .int (nI mc), .int (nI (imN n4 f4 (smf ix (f4 z) (sf q) mc))), .int ix])), (iy, .inl (cI, 12, .inl (imF n4 f4 (smf ix (f4 z) (sf q) mc))))] H := hP
                  have hD : va_D A [(is, .inl (cI, 16, .inl sf)), (ip, .inr (5, [.ref im, .ref ie, .ref is, .ref iy, .ref ii, .int (nI mc), .int (nI (imN n4 f4 (smf ix (f4 z) (sf q) mc))), .int ix])), (iy, .inl (cI, 12, .inl (imF n4 f4 (smf ix (f4 z) (sf q) mc))))] := hD
                  refine lv_iinc (lv' := [(2, .int (nI (q + 1))), (1, .int (nI z)), (0, .ref ip)]) (k := 0) (v := nI (q + 1)) hx hb d_IP_findMixes_68 hl rfl (nI_add q 1) (by decide) rfl (fun ls hl => ?_)
                  refine lv_goto (tgt := 30) hx hb d_IP_findMixes_71 (by decide) ?_
                  exact ih_30 _ (by omega) (q + 1) (imN n4 f4 (smf ix (f4 z) (sf q) mc)) (imF n4 f4 (smf ix (f4 z) (sf q) mc)) ls H locs rfl (fmi_y hp4 h_4) (by omega) (imN_le hn4) (lv_sub hl [0, 1, 2] rfl) (hP.sub [1, 2, 0] rfl) (hD.sub [1, 2, 0] (by decide) rfl) hS
          exact lp_30 _ 0 n2 f2 ls H locs rfl rfl (Nat.zero_le _) hn2 (lv_sub hl [0, 1, 2] rfl) (hP.sub [0, 1, 2] rfl) (hD.sub [0, 1, 2] (by decide) rfl) hS
  exact lp_14 _ 0 1 (upd xf 0 (0 : Int32)) ls H locs rfl rfl (Nat.zero_le _) (by decide) (lv_sub hl [0, 1] rfl) (hP.sub [0, 1, 2] rfl) (hD.sub [0, 1, 2] (by decide) rfl) hS

