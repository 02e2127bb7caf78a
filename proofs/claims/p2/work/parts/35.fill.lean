/-! ===== own rows, laid by wip/tools/sym.py: InnerPoints.fillInner; choices by their number ===== -/
/-- the shares of the members, summed up in coordinate i -/
def fsum (mix : Int32) (ek : Nat → Nat) (yf : Nat → Int32) (i : Nat) : Nat → Int32
  | 0 => 0
  | k + 1 => fsum mix ek yf i k + (mix >>> (nI (k * 4) &&& 31) &&& 15) * yf (ek k * 4 + i)
theorem fsum_s {mix v : Int32} {ek : Nat → Nat} {yf : Nat → Int32} {i k : Nat} (h : fsum mix ek yf i k = v) : fsum mix ek yf i (k + 1) = v + (mix >>> (nI (k * 4) &&& 31) &&& 15) * yf (ek k * 4 + i) := by
  show fsum mix ek yf i k + (mix >>> (nI (k * 4) &&& 31) &&& 15) * yf (ek k * 4 + i) = _
  rw [h]
def csN (j : Nat) : Nat := [0, 1, 5, 11, 15, 16].getD j 0
def chN (q : Nat) : Nat := [0, 1, 2, 4, 8, 3, 5, 6, 9, 10, 12, 7, 11, 13, 14, 15].getD q 0
theorem ch_nat {q : Nat} (h : q < 16) : ch_t.getD q 0 = nI (chN q) := by
  have h1 : ∀ q, q < 16 → ch_t.getD q 0 = nI (chN q) := by decide +kernel
  exact h1 q h
theorem chN_lt {q : Nat} (h : q < 16) : chN q < 16 := by
  have h1 : ∀ q, q < 16 → chN q < 16 := by decide +kernel
  exact h1 q h
theorem csN_le {j : Nat} (h : j ≤ 5) : csN j ≤ 16 := by
  have h1 : ∀ j, j < 6 → csN j ≤ 16 := by decide +kernel
  exact h1 j (by omega)
set_option maxHeartbeats 4000000 in
set_option maxRecDepth 100000 in
theorem c_IP_fill_d {l : Launch} {s0 : State} {b0 : Addr} {D : va_G} {cI cJ cZ : ClassId} {tC tS : Nat} (E : gE l s0 b0 D cI cJ cZ tC tS) (sz : Nat) (ip : Nat) (im : Nat) (ie : Nat) (is : Nat) (iy : Nat) (ii : Nat) (mc : Nat) (mx0 : Int32) (ix : Int32) (ek : Nat → Nat) (ig : Nat → Int32) (yl : Nat) (ya : Nat) (yn : Nat) (yf : Nat → Int32) (mix : Int32) (hmc : mc ≤ 4) (hek : ∀ j, ek j < 12) (hyn : yn ≤ 12) (h0 : ¬ ix = 0) : cx_M l s0 D kl y_IP_fillInner b_IP_fillInner 6 none ({ frames := 1, cells := 0, slots := 0, locals := 22 } : Room) 0 0 [.ref ip, .ref yl, .int mix] [(ip, .inr (5, [.ref im, .ref ie, .ref is, .ref iy, .ref ii, .int (nI mc), .int mx0, .int ix])), (ie, .inl (cI, 4, .inl (nf ek))), (ii, .inl (cI, 4, .inl ig)), (yl, .inr (1, [.ref ya, .int (nI yn), .int (12 : Int32)])), (ya, .inl (cI, 48, .inl yf))] sz (fun o9 _ w9 => o9 = .returned none ∧ w9 = [(ip, .inr (5, [.ref im, .ref ie, .ref is, .ref iy, .ref ii, .int (nI mc), .int mx0, .int ix])), (ie, .inl (cI, 4, .inl (nf ek))), (ii, .inl (cI, 4, .inl (upd (upd (upd (upd ig 0 (fsum mix ek yf 0 mc / ix)) 1 (fsum mix ek yf 1 mc / ix)) 2 (fsum mix ek yf 2 mc / ix)) 3 (fsum mix ek yf 3 mc / ix)))), (yl, .inr (1, [.ref ya, .int (nI yn), .int (12 : Int32)])), (ya, .inl (cI, 48, .inl yf))]) := by
  refine tx_ofW (cc := b_IP_fillInner) (maxL := 6) (ret := none) (by decide) rfl ?_
  intro p e s m args below meth c s₁ B hml hT hv
  obtain ⟨rfl, hsz, hP, hD0, hx0⟩ := hv
  have hx := B.exec
  have hb := B.bytes
  have hr := B.returns
  have G := E.2.1
  have hown : s.vm.findClass cn_IP = some m.cls := findClass_of_methodNamed B.named
  have hlocks := B.notSynchronized
  have hK := va_K.moved hx0.1.alike E.2.2.1
  have hf_IP : ∀ w99 ∈ u_ws cn_IP ft_IP 8, w99.before ([.ref ip, .ref yl, .int mix] : List Value).toArray s = true := fun w99 h99 => gw.at G hx0 (fw_IP w99 h99) (fo_IP w99 h99) _
  subst hsz
  have hA0 := cx_new hD0 hx0.2.1
  have hD := hD0.self (sz := s.heap.size)
  generalize hAe : va_A [(ip, .inr (5, [.ref im, .ref ie, .ref is, .ref iy, .ref ii, .int (nI mc), .int mx0, .int ix])), (ie, .inl (cI, 4, .inl (nf ek))), (ii, .inl (cI, 4, .inl ig)), (yl, .inr (1, [.ref ya, .int (nI yn), .int (12 : Int32)])), (ya, .inl (cI, 48, .inl yf))] s.heap.size = A at hD hA0 ⊢
  have hA : ∀ q : Nat, s.heap.size ≤ q → A q := fun q h => by rw [← hAe]; exact Or.inr h
  have hS : va_S A s.heap s.heap [] := va_S.rf
  have hl := lv_entry ([.ref ip, .ref yl, .int mix]) (n := 6) (Nat.le_of_ble_eq_true rfl)
  rw [lg_entry_eq]
  generalize (lg_sl ([.ref ip, .ref yl, .int mix]) ++ List.replicate (6 - (lg_sl ([.ref ip, .ref yl, .int mix])).length) Slot.unset).toArray = ls at hl ⊢
  have hl : lv_has ls 6 [(0, .ref ip), (1, .ref yl), (2, .int mix)] := hl
  have hP : va_P D kl [(ip, .inr (5, [.ref im, .ref ie, .ref is, .ref iy, .ref ii, .int (nI mc), .int mx0, .int ix])), (ie, .inl (cI, 4, .inl (nf ek))), (ii, .inl (cI, 4, .inl ig)), (yl, .inr (1, [.ref ya, .int (nI yn), .int (12 : Int32)])), (ya, .inl (cI, 48, .inl yf))] s.heap := hP
  have hml : c.maxLocals = 6 := hml
  generalize hQe : tx_Z below (cx_Q D kl A (fun o9 _ w9 => o9 = .returned none ∧ w9 = [(ip, .inr (5, [.ref im, .ref ie, .ref is, .ref iy, .ref ii, .int (nI mc), .int mx0, .int ix])), (ie, .inl (cI, 4, .inl (nf ek))), (ii, .inl (cI, 4, .inl (upd (upd (upd (upd ig 0 (fsum mix ek yf 0 mc / ix)) 1 (fsum mix ek yf 1 mc / ix)) 2 (fsum mix ek yf 2 mc / ix)) 3 (fsum mix ek yf 3 mc / ix)))), (yl, .inr (1, [.ref ya, .int (nI yn), .int (12 : Int32)])), (ya, .inl (cI, 48, .inl yf))])) ([.ref ip, .ref yl, .int mix] : List Value).toArray s 0 0 A = Q
  refine lv_aload_n hx hb d_IP_fillInner_0 rfl (lv_at hl 0 rfl) ?_
  refine va_get (D := D) (ci := 5) (v := .int ix) (C := cn_IP) (T := ft_IP) (N := 8) hx hb hf_IP (fun _ h => h) hown hK hP 0 rfl rfl 7 (by decide) (gw.at G hx0 mw_146 rfl _) (fun _ h9 => h9) rfl d_IP_fillInner_1 ?_
  refine lv_if_ne (tgt := 8) hx hb d_IP_fillInner_4 (by decide) (fun _ => ?_) (fun h99 => absurd h99 h0)
  refine lv_iconst (v := (0 : Int32)) hx hb d_IP_fillInner_8 (by decide) ?_
  refine lv_istore_n (lv' := [(3, .int (0 : Int32)), (0, .ref ip), (1, .ref yl), (2, .int mix)]) hx hb d_IP_fillInner_9 rfl hl (by decide) rfl (fun ls hl => ?_)
  refine lv_iload_n hx hb d_IP_fillInner_10 rfl (lv_at hl 0 rfl) ?_
  refine lv_iconst (v := (4 : Int32)) hx hb d_IP_fillInner_11 (by decide) ?_
  refine lv_icmp_ge (tgt := 82) hx hb d_IP_fillInner_12 (by decide) (fun h99 => absurd h99 (by decide)) (fun _ => ?_)
  refine lv_iconst (v := (0 : Int32)) hx hb d_IP_fillInner_15 (by decide) ?_
  refine lv_istore (lv' := [(4, .int (0 : Int32)), (3, .int (0 : Int32)), (0, .ref ip), (1, .ref yl), (2, .int mix)]) hx hb d_IP_fillInner_16 hl (by decide) rfl (fun ls hl => ?_)
  refine lv_iconst (v := (0 : Int32)) hx hb d_IP_fillInner_18 (by decide) ?_
  refine lv_istore (lv' := [(5, .int (0 : Int32)), (4, .int (0 : Int32)), (3, .int (0 : Int32)), (0, .ref ip), (1, .ref yl), (2, .int mix)]) hx hb d_IP_fillInner_19 hl (by decide) rfl (fun ls hl => ?_)
  have lp_21 : ∀ (n9 : Nat) (k : Nat) (v : Int32) (ls : Array Slot) (H : Heap) (locs : List Loc), mc - k = n9 → (fsum mix ek yf 0 k = v) → (k ≤ mc) → lv_has ls 6 [(5, .int (nI k)), (4, .int v), (3, .int (0 : Int32)), (0, .ref ip), (1, .ref yl), (2, .int mix)] → va_P D kl [(ip, .inr (5, [.ref im, .ref ie, .ref is, .ref iy, .ref ii, .int (nI mc), .int mx0, .int ix])), (ie, .inl (cI, 4, .inl (nf ek))), (ii, .inl (cI, 4, .inl ig)), (yl, .inr (1, [.ref ya, .int (nI yn), .int (12 : Int32)])), (ya, .inl (cI, 48, .inl yf))] H → va_D A [(ip, .inr (5, [.ref im, .ref ie, .ref is, .ref iy, .ref ii, .int (nI mc), .int mx0, .int ix])), (ie, .inl (cI, 4, .inl (nf ek))), (ii, .inl (cI, 4, .inl ig)), (yl, .inr (1, [.ref ya, .int (nI yn), .int (12 : Int32)])), (ya, .inl (cI, 48, .inl yf))] → va_S A s.heap H locs → W p l e ({ frames := 1, cells := 0, slots := 0, locals := 22 } : Room) s m ([.ref ip, .ref yl, .int mix] : List Value).toArray below meth c H locs 0 0 Q (F0 m 21 ls []) := by
    intro n9
    induction n9 using Nat.strongRecOn with
    | ind n9 ih_21 =>
      intro k v ls H locs hm_21 hv hk hl hP hD hS
      refine lv_iload hx hb d_IP_fillInner_21 (lv_at hl 0 rfl) ?_
      refine lv_aload_n hx hb d_IP_fillInner_23 rfl (lv_at hl 3 rfl) ?_
      refine va_get (D := D) (ci := 5) (v := .int (nI mc)) (C := cn_IP) (T := ft_IP) (N := 8) hx hb hf_IP (fun _ h => h) hown hK hP 0 rfl rfl 5 (by decide) (gw.at G hx0 mw_144 rfl _) (fun _ h9 => h9) rfl d_IP_fillInner_24 ?_
      refine lv_icmp_ge (tgt := 63) hx hb d_IP_fillInner_27 (by decide) (fun h_1 => ?_) (fun h_1 => ?_)
      · have h_1 : mc ≤ k := (nI_leI (a := mc) (b := k) (by omega) (by omega)).mp h_1
        have hv9 : fsum mix ek yf 0 mc = v := (show k = mc by omega) ▸ hv
        clear hv
        subst hv9
        refine lv_aload_n hx hb d_IP_fillInner_63 rfl (lv_at hl 3 rfl) ?_
        refine va_get (D := D) (ci := 5) (v := .ref ii) (C := cn_IP) (T := ft_IP) (N := 8) hx hb hf_IP (fun _ h => h) hown hK hP 0 rfl rfl 4 (by decide) (gw.at G hx0 mw_143 rfl _) (fun _ h9 => h9) rfl d_IP_fillInner_64 ?_
        refine lv_iload_n hx hb d_IP_fillInner_67 rfl (lv_at hl 2 rfl) ?_
        refine lv_iload hx hb d_IP_fillInner_68 (lv_at hl 1 rfl) ?_
        refine lv_aload_n hx hb d_IP_fillInner_70 rfl (lv_at hl 3 rfl) ?_
        refine va_get (D := D) (ci := 5) (v := .int ix) (C := cn_IP) (T := ft_IP) (N := 8) hx hb hf_IP (fun _ h => h) hown hK hP 0 rfl rfl 7 (by decide) (gw.at G hx0 mw_146 rfl _) (fun _ h9 => h9) rfl d_IP_fillInner_71 ?_
        refine lv_idiv hx hb d_IP_fillInner_74 h0 ?_
        refine va_iast hx hb hK hP hD hS 2 0 rfl rfl (vp_in_iff.mpr (by decide)) d_IP_fillInner_75 (fun H locs hP hD hS => ?_)
        have hP : va_P D kl [(ip, .inr (5, [.ref im, .ref ie, .ref is, .ref iy, .ref ii, .int (nI mc), .int mx0, .int ix])), (ie, .inl (cI, 4, .inl (nf ek))), (ii, .inl (cI, 4, .inl (upd ig 0 ((fsum mix ek yf 0 mc) / ix)))), (yl, .inr (1, [.ref ya, .int (nI yn), .int (12 : Int32)])), (ya, .inl (cI, 48, .inl yf))] H := hP
        have hD : va_D A [(ip, .inr (5, [.ref im, .ref ie, .ref is, .ref iy, .ref ii, .int (nI mc), .int mx0, .int ix])), (ie, .inl (cI, 4, .inl (nf ek))), (ii, .inl (cI, 4, .inl (upd ig 0 ((fsum mix ek yf 0 mc) / ix)))), (yl, .inr (1, [.ref ya, .int (nI yn), .int (12 : Int32)])), (ya, .inl (cI, 48, .inl yf))] := hD
        refine lv_iinc (lv' := [(3, .int (1 : Int32)), (5, .int (nI k)), (4, .int (fsum mix ek yf 0 mc)), (0, .ref ip), (1, .ref yl), (2, .int mix)]) (k := 2) (v := (1 : Int32)) hx hb d_IP_fillInner_76 hl rfl (by decide) (by decide) rfl (fun ls hl => ?_)
        refine lv_goto (tgt := 10) hx hb d_IP_fillInner_79 (by decide) ?_
        refine lv_iload_n hx hb d_IP_fillInner_10 rfl (lv_at hl 0 rfl) ?_
        refine lv_iconst (v := (4 : Int32)) hx hb d_IP_fillInner_11 (by decide) ?_
        refine lv_icmp_ge (tgt := 82) hx hb d_IP_fillInner_12 (by decide) (fun h99 => absurd h99 (by decide)) (fun _ => ?_)
        refine lv_iconst (v := (0 : Int32)) hx hb d_IP_fillInner_15 (by decide) ?_
        refine lv_istore (lv' := [(4, .int (0 : Int32)), (3, .int (1 : Int32)), (5, .int (nI k)), (0, .ref ip), (1, .ref yl), (2, .int mix)]) hx hb d_IP_fillInner_16 hl (by decide) rfl (fun ls hl => ?_)
        refine lv_iconst (v := (0 : Int32)) hx hb d_IP_fillInner_18 (by decide) ?_
        refine lv_istore (lv' := [(5, .int (0 : Int32)), (4, .int (0 : Int32)), (3, .int (1 : Int32)), (0, .ref ip), (1, .ref yl), (2, .int mix)]) hx hb d_IP_fillInner_19 hl (by decide) rfl (fun ls hl => ?_)
        have lp_21 : ∀ (n9 : Nat) (k : Nat) (v : Int32) (ls : Array Slot) (H : Heap) (locs : List Loc), mc - k = n9 → (fsum mix ek yf 1 k = v) → (k ≤ mc) → lv_has ls 6 [(5, .int (nI k)), (4, .int v), (3, .int (1 : Int32)), (0, .ref ip), (1, .ref yl), (2, .int mix)] → va_P D kl [(ip, .inr (5, [.ref im, .ref ie, .ref is, .ref iy, .ref ii, .int (nI mc), .int mx0, .int ix])), (ie, .inl (cI, 4, .inl (nf ek))), (ii, .inl (cI, 4, .inl (upd ig 0 ((fsum mix ek yf 0 mc) / ix)))), (yl, .inr (1, [.ref ya, .int (nI yn), .int (12 : Int32)])), (ya, .inl (cI, 48, .inl yf))] H → va_D A [(ip, .inr (5, [.ref im, .ref ie, .ref is, .ref iy, .ref ii, .int (nI mc), .int mx0, .int ix])), (ie, .inl (cI, 4, .inl (nf ek))), (ii, .inl (cI, 4, .inl (upd ig 0 ((fsum mix ek yf 0 mc) / ix)))), (yl, .inr (1, [.ref ya, .int (nI yn), .int (12 : Int32)])), (ya, .inl (cI, 48, .inl yf))] → va_S A s.heap H locs → W p l e ({ frames := 1, cells := 0, slots := 0, locals := 22 } : Room) s m ([.ref ip, .ref yl, .int mix] : List Value).toArray below meth c H locs 0 0 Q (F0 m 21 ls []) := by
          intro n9
          induction n9 using Nat.strongRecOn with
          | ind n9 ih_21 =>
            intro k v ls H locs hm_21 hv hk hl hP hD hS
            refine lv_iload hx hb d_IP_fillInner_21 (lv_at hl 0 rfl) ?_
            refine lv_aload_n hx hb d_IP_fillInner_23 rfl (lv_at hl 3 rfl) ?_
            refine va_get (D := D) (ci := 5) (v := .int (nI mc)) (C := cn_IP) (T := ft_IP) (N := 8) hx hb hf_IP (fun _ h => h) hown hK hP 0 rfl rfl 5 (by decide) (gw.at G hx0 mw_144 rfl _) (fun _ h9 => h9) rfl d_IP_fillInner_24 ?_
            refine lv_icmp_ge (tgt := 63) hx hb d_IP_fillInner_27 (by decide) (fun h_2 => ?_) (fun h_2 => ?_)
            · have h_2 : mc ≤ k := (nI_leI (a := mc) (b := k) (by omega) (by omega)).mp h_2
              have hv9 : fsum mix ek yf 1 mc = v := (show k = mc by omega) ▸ hv
              clear hv
              subst hv9
              refine lv_aload_n hx hb d_IP_fillInner_63 rfl (lv_at hl 3 rfl) ?_
              refine va_get (D := D) (ci := 5) (v := .ref ii) (C := cn_IP) (T := ft_IP) (N := 8) hx hb hf_IP (fun _ h => h) hown hK hP 0 rfl rfl 4 (by decide) (gw.at G hx0 mw_143 rfl _) (fun _ h9 => h9) rfl d_IP_fillInner_64 ?_
              refine lv_iload_n hx hb d_IP_fillInner_67 rfl (lv_at hl 2 rfl) ?_
              refine lv_iload hx hb d_IP_fillInner_68 (lv_at hl 1 rfl) ?_
              refine lv_aload_n hx hb d_IP_fillInner_70 rfl (lv_at hl 3 rfl) ?_
              refine va_get (D := D) (ci := 5) (v := .int ix) (C := cn_IP) (T := ft_IP) (N := 8) hx hb hf_IP (fun _ h => h) hown hK hP 0 rfl rfl 7 (by decide) (gw.at G hx0 mw_146 rfl _) (fun _ h9 => h9) rfl d_IP_fillInner_71 ?_
              refine lv_idiv hx hb d_IP_fillInner_74 h0 ?_
              refine va_iast hx hb hK hP hD hS 2 0 rfl rfl (vp_in_iff.mpr (by decide)) d_IP_fillInner_75 (fun H locs hP hD hS => ?_)
              have hP : va_P D kl [(ip, .inr (5, [.ref im, .ref ie, .ref is, .ref iy, .ref ii, .int (nI mc), .int mx0, .int ix])), (ie, .inl (cI, 4, .inl (nf ek))), (ii, .inl (cI, 4, .inl (upd (upd ig 0 ((fsum mix ek yf 0 mc) / ix)) 1 ((fsum mix ek yf 1 mc) / ix)))), (yl, .inr (1, [.ref ya, .int (nI yn), .int (12 : Int32)])), (ya, .inl (cI, 48, .inl yf))] H := hP
              have hD : va_D A [(ip, .inr (5, [.ref im, .ref ie, .ref is, .ref iy, .ref ii, .int (nI mc), .int mx0, .int ix])), (ie, .inl (cI, 4, .inl (nf ek))), (ii, .inl (cI, 4, .inl (upd (upd ig 0 ((fsum mix ek yf 0 mc) / ix)) 1 ((fsum mix ek yf 1 mc) / ix)))), (yl, .inr (1, [.ref ya, .int (nI yn), .int (12 : Int32)])), (ya, .inl (cI, 48, .inl yf))] := hD
              refine lv_iinc (lv' := [(3, .int (2 : Int32)), (5, .int (nI k)), (4, .int (fsum mix ek yf 1 mc)), (0, .ref ip), (1, .ref yl), (2, .int mix)]) (k := 2) (v := (2 : Int32)) hx hb d_IP_fillInner_76 hl rfl (by decide) (by decide) rfl (fun ls hl => ?_)
              refine lv_goto (tgt := 10) hx hb d_IP_fillInner_79 (by decide) ?_
              refine lv_iload_n hx hb d_IP_fillInner_10 rfl (lv_at hl 0 rfl) ?_
              refine lv_iconst (v := (4 : Int32)) hx hb d_IP_fillInner_11 (by decide) ?_
              refine lv_icmp_ge (tgt := 82) hx hb d_IP_fillInner_12 (by decide) (fun h99 => absurd h99 (by decide)) (fun _ => ?_)
              refine lv_iconst (v := (0 : Int32)) hx hb d_IP_fillInner_15 (by decide) ?_
              refine lv_istore (lv' := [(4, .int (0 : Int32)), (3, .int (2 : Int32)), (5, .int (nI k)), (0, .ref ip), (1, .ref yl), (2, .int mix)]) hx hb d_IP_fillInner_16 hl (by decide) rfl (fun ls hl => ?_)
              refine lv_iconst (v := (0 : Int32)) hx hb d_IP_fillInner_18 (by decide) ?_
              refine lv_istore (lv' := [(5, .int (0 : Int32)), (4, .int (0 : Int32)), (3, .int (2 : Int32)), (0, .ref ip), (1, .ref yl), (2, .int mix)]) hx hb d_IP_fillInner_19 hl (by decide) rfl (fun ls hl => ?_)
              have lp_21 : ∀ (n9 : Nat) (k : Nat) (v : Int32) (ls : Array Slot) (H : Heap) (locs : List Loc), mc - k = n9 → (fsum mix ek yf 2 k = v) → (k ≤ mc) → lv_has ls 6 [(5, .int (nI k)), (4, .int v), (3, .int (2 : Int32)), (0, .ref ip), (1, .ref yl), (2, .int mix)] → va_P D kl [(ip, .inr (5, [.ref im, .ref ie, .ref is, .ref iy, .ref ii, .int (nI mc), .int mx0, .int ix])), (ie, .inl (cI, 4, .inl (nf ek))), (ii, .inl (cI, 4, .inl (upd (upd ig 0 ((fsum mix ek yf 0 mc) / ix)) 1 ((fsum mix ek yf 1 mc) / ix)))), (yl, .inr (1, [.ref ya, .int (nI yn), .int (12 : Int32)])), (ya, .inl (cI, 48, .inl yf))] H → va_D A [(ip, .inr (5, [.ref im, .ref ie, .ref is, .ref iy, .ref ii, .int (nI mc), .int mx0, .int ix])), (ie, .inl (cI, 4, .inl (nf ek))), (ii, .inl (cI, 4, .inl (upd (upd ig 0 ((fsum mix ek yf 0 mc) / ix)) 1 ((fsum mix ek yf 1 mc) / ix)))), (yl, .inr (1, [.ref ya, .int (nI yn), .int (12 : Int32)])), (ya, .inl (cI, 48, .inl yf))] → va_S A s.heap H locs → W p l e ({ frames := 1, cells := 0, slots := 0, locals := 22 } : Room) s m ([.ref ip, .ref yl, .int mix] : List Value).toArray below meth c H locs 0 0 Q (F0 m 21 ls []) := by
                intro n9
                induction n9 using Nat.strongRecOn with
                | ind n9 ih_21 =>
                  intro k v ls H locs hm_21 hv hk hl hP hD hS
                  refine lv_iload hx hb d_IP_fillInner_21 (lv_at hl 0 rfl) ?_
                  refine lv_aload_n hx hb d_IP_fillInner_23 rfl (lv_at hl 3 rfl) ?_
                  refine va_get (D := D) (ci := 5) (v := .int (nI mc)) (C := cn_IP) (T := ft_IP) (N := 8) hx hb hf_IP (fun _ h => h) hown hK hP 0 rfl rfl 5 (by decide) (gw.at G hx0 mw_144 rfl _) (fun _ h9 => h9) rfl d_IP_fillInner_24 ?_
                  refine lv_icmp_ge (tgt := 63) hx hb d_IP_fillInner_27 (by decide) (fun h_3 => ?_) (fun h_3 => ?_)
                  · have h_3 : mc ≤ k := (nI_leI (a := mc) (b := k) (by omega) (by omega)).mp h_3
                    have hv9 : fsum mix ek yf 2 mc = v := (show k = mc by omega) ▸ hv
                    clear hv
                    subst hv9
                    refine lv_aload_n hx hb d_IP_fillInner_63 rfl (lv_at hl 3 rfl) ?_
                    refine va_get (D := D) (ci := 5) (v := .ref ii) (C := cn_IP) (T := ft_IP) (N := 8) hx hb hf_IP (fun _ h => h) hown hK hP 0 rfl rfl 4 (by decide) (gw.at G hx0 mw_143 rfl _) (fun _ h9 => h9) rfl d_IP_fillInner_64 ?_
                    refine lv_iload_n hx hb d_IP_fillInner_67 rfl (lv_at hl 2 rfl) ?_
                    refine lv_iload hx hb d_IP_fillInner_68 (lv_at hl 1 rfl) ?_
                    refine lv_aload_n hx hb d_IP_fillInner_70 rfl (lv_at hl 3 rfl) ?_
                    refine va_get (D := D) (ci := 5) (v := .int ix) (C := cn_IP) (T := ft_IP) (N := 8) hx hb hf_IP (fun _ h => h) hown hK hP 0 rfl rfl 7 (by decide) (gw.at G hx0 mw_146 rfl _) (fun _ h9 => h9) rfl d_IP_fillInner_71 ?_
                    refine lv_idiv hx hb d_IP_fillInner_74 h0 ?_
                    refine va_iast hx hb hK hP hD hS 2 0 rfl rfl (vp_in_iff.mpr (by decide)) d_IP_fillInner_75 (fun H locs hP hD hS => ?_)
                    have hP : va_P D kl [(ip, .inr (5, [.ref im, .ref ie, .ref is, .ref iy, .ref ii, .int (nI mc), .int mx0, .int ix])), (ie, .inl (cI, 4, .inl (nf ek))), (ii, .inl (cI, 4, .inl (upd (upd (upd ig 0 ((fsum mix ek yf 0 mc) / ix)) 1 ((fsum mix ek yf 1 mc) / ix)) 2 ((fsum mix ek yf 2 mc) / ix)))), (yl, .inr (1, [.ref ya, .int (nI yn), .int (12 : Int32)])), (ya, .inl (cI, 48, .inl yf))] H := hP
                    have hD : va_D A [(ip, .inr (5, [.ref im, .ref ie, .ref is, .ref iy, .ref ii, .int (nI mc), .int mx0, .int ix])), (ie, .inl (cI, 4, .inl (nf ek))), (ii, .inl (cI, 4, .inl (upd (upd (upd ig 0 ((fsum mix ek yf 0 mc) / ix)) 1 ((fsum mix ek yf 1 mc) / ix)) 2 ((fsum mix ek yf 2 mc) / ix)))), (yl, .inr (1, [.ref ya, .int (nI yn), .int (12 : Int32)])), (ya, .inl (cI, 48, .inl yf))] := hD
                    refine lv_iinc (lv' := [(3, .int (3 : Int32)), (5, .int (nI k)), (4, .int (fsum mix ek yf 2 mc)), (0, .ref ip), (1, .ref yl), (2, .int mix)]) (k := 2) (v := (3 : Int32)) hx hb d_IP_fillInner_76 hl rfl (by decide) (by decide) rfl (fun ls hl => ?_)
                    refine lv_goto (tgt := 10) hx hb d_IP_fillInner_79 (by decide) ?_
                    refine lv_iload_n hx hb d_IP_fillInner_10 rfl (lv_at hl 0 rfl) ?_
                    refine lv_iconst (v := (4 : Int32)) hx hb d_IP_fillInner_11 (by decide) ?_
                    refine lv_icmp_ge (tgt := 82) hx hb d_IP_fillInner_12 (by decide) (fun h99 => absurd h99 (by decide)) (fun _ => ?_)
                    refine lv_iconst (v := (0 : Int32)) hx hb d_IP_fillInner_15 (by decide) ?_
                    refine lv_istore (lv' := [(4, .int (0 : Int32)), (3, .int (3 : Int32)), (5, .int (nI k)), (0, .ref ip), (1, .ref yl), (2, .int mix)]) hx hb d_IP_fillInner_16 hl (by decide) rfl (fun ls hl => ?_)
                    refine lv_iconst (v := (0 : Int32)) hx hb d_IP_fillInner_18 (by decide) ?_
                    refine lv_istore (lv' := [(5, .int (0 : Int32)), (4, .int (0 : Int32)), (3, .int (3 : Int32)), (0, .ref ip), (1, .ref yl), (2, .int mix)]) hx hb d_IP_fillInner_19 hl (by decide) rfl (fun ls hl => ?_)
                    have lp_21 : ∀ (n9 : Nat) (k : Nat) (v : Int32) (ls : Array Slot) (H : Heap) (locs : List Loc), mc - k = n9 → (fsum mix ek yf 3 k = v) → (k ≤ mc) → lv_has ls 6 [(5, .int (nI k)), (4, .int v), (3, .int (3 : Int32)), (0, .ref ip), (1, .ref yl), (2, .int mix)] → va_P D kl [(ip, .inr (5, [.ref im, .ref ie, .ref is, .ref iy, .ref ii, .int (nI mc), .int mx0, .int ix])), (ie, .inl (cI, 4, .inl (nf ek))), (ii, .inl (cI, 4, .inl (upd (upd (upd ig 0 ((fsum mix ek yf 0 mc) / ix)) 1 ((fsum mix ek yf 1 mc) / ix)) 2 ((fsum mix ek yf 2 mc) / ix)))), (yl, .inr (1, [.ref ya, .int (nI yn), .int (12 : Int32)])), (ya, .inl (cI, 48, .inl yf))] H → va_D A [(ip, .inr (5, [.ref im, .ref ie, .ref is, .ref iy, .ref ii, .int (nI mc), .int mx0, .int ix])), (ie, .inl (cI, 4, .inl (nf ek))), (ii, .inl (cI, 4, .inl (upd (upd (upd ig 0 ((fsum mix ek yf 0 mc) / ix)) 1 ((fsum mix ek yf 1 mc) / ix)) 2 ((fsum mix ek yf 2 mc) / ix)))), (yl, .inr (1, [.ref ya, .int (nI yn), .int (12 : Int32)])), (ya, .inl (cI, 48, .inl yf))] → va_S A s.heap H locs → W p l e ({ frames := 1, cells := 0, slots := 0, locals := 22 } : Room) s m ([.ref ip, .ref yl, .int mix] : List Value).toArray below meth c H locs 0 0 Q (F0 m 21 ls []) := by
                      intro n9
                      induction n9 using Nat.strongRecOn with
                      | ind n9 ih_21 =>
                        intro k v ls H locs hm_21 hv hk hl hP hD hS
                        refine lv_iload hx hb d_IP_fillInner_21 (lv_at hl 0 rfl) ?_
                        refine lv_aload_n hx hb d_IP_fillInner_23 rfl (lv_at hl 3 rfl) ?_
                        refine va_get (D := D) (ci := 5) (v := .int (nI mc)) (C := cn_IP) (T := ft_IP) (N := 8) hx hb hf_IP (fun _ h => h) hown hK hP 0 rfl rfl 5 (by decide) (gw.at G hx0 mw_144 rfl _) (fun _ h9 => h9) rfl d_IP_fillInner_24 ?_
                        refine lv_icmp_ge (tgt := 63) hx hb d_IP_fillInner_27 (by decide) (fun h_4 => ?_) (fun h_4 => ?_)
                        · have h_4 : mc ≤ k := (nI_leI (a := mc) (b := k) (by omega) (by omega)).mp h_4
                          have hv9 : fsum mix ek yf 3 mc = v := (show k = mc by omega) ▸ hv
                          clear hv
                          subst hv9
                          refine lv_aload_n hx hb d_IP_fillInner_63 rfl (lv_at hl 3 rfl) ?_
                          refine va_get (D := D) (ci := 5) (v := .ref ii) (C := cn_IP) (T := ft_IP) (N := 8) hx hb hf_IP (fun _ h => h) hown hK hP 0 rfl rfl 4 (by decide) (gw.at G hx0 mw_143 rfl _) (fun _ h9 => h9) rfl d_IP_fillInner_64 ?_
                          refine lv_iload_n hx hb d_IP_fillInner_67 rfl (lv_at hl 2 rfl) ?_
                          refine lv_iload hx hb d_IP_fillInner_68 (lv_at hl 1 rfl) ?_
                          refine lv_aload_n hx hb d_IP_fillInner_70 rfl (lv_at hl 3 rfl) ?_
                          refine va_get (D := D) (ci := 5) (v := .int ix) (C := cn_IP) (T := ft_IP) (N := 8) hx hb hf_IP (fun _ h => h) hown hK hP 0 rfl rfl 7 (by decide) (gw.at G hx0 mw_146 rfl _) (fun _ h9 => h9) rfl d_IP_fillInner_71 ?_
                          refine lv_idiv hx hb d_IP_fillInner_74 h0 ?_
                          refine va_iast hx hb hK hP hD hS 2 0 rfl rfl (vp_in_iff.mpr (by decide)) d_IP_fillInner_75 (fun H locs hP hD hS => ?_)
                          have hP : va_P D kl [(ip, .inr (5, [.ref im, .ref ie, .ref is, .ref iy, .ref ii, .int (nI mc), .int mx0, .int ix])), (ie, .inl (cI, 4, .inl (nf ek))), (ii, .inl (cI, 4, .inl (upd (upd (upd (upd ig 0 ((fsum mix ek yf 0 mc) / ix)) 1 ((fsum mix ek yf 1 mc) / ix)) 2 ((fsum mix ek yf 2 mc) / ix)) 3 ((fsum mix ek yf 3 mc) / ix)))), (yl, .inr (1, [.ref ya, .int (nI yn), .int (12 : Int32)])), (ya, .inl (cI, 48, .inl yf))] H := hP
                          have hD : va_D A [(ip, .inr (5, [.ref im, .ref ie, .ref is, .ref iy, .ref ii, .int (nI mc), .int mx0, .int ix])), (ie, .inl (cI, 4, .inl (nf ek))), (ii, .inl (cI, 4, .inl (upd (upd (upd (upd ig 0 ((fsum mix ek yf 0 mc) / ix)) 1 ((fsum mix ek yf 1 mc) / ix)) 2 ((fsum mix ek yf 2 mc) / ix)) 3 ((fsum mix ek yf 3 mc) / ix)))), (yl, .inr (1, [.ref ya, .int (nI yn), .int (12 : Int32)])), (ya, .inl (cI, 48, .inl yf))] := hD
                          refine lv_iinc (lv' := [(3, .int (4 : Int32)), (5, .int (nI k)), (4, .int (fsum mix ek yf 3 mc)), (0, .ref ip), (1, .ref yl), (2, .int mix)]) (k := 2) (v := (4 : Int32)) hx hb d_IP_fillInner_76 hl rfl (by decide) (by decide) rfl (fun ls hl => ?_)
                          refine lv_goto (tgt := 10) hx hb d_IP_fillInner_79 (by decide) ?_
                          refine lv_iload_n hx hb d_IP_fillInner_10 rfl (lv_at hl 0 rfl) ?_
                          refine lv_iconst (v := (4 : Int32)) hx hb d_IP_fillInner_11 (by decide) ?_
                          refine lv_icmp_ge (tgt := 82) hx hb d_IP_fillInner_12 (by decide) (fun _ => ?_) (fun h99 => absurd h99 (by decide))
                          rw [← hQe]
                          exact tx_mono (fun _ h => tx_Z.of h) (W.vret hx hb hr (fun t ht hW => ⟨⟨[(ip, .inr (5, [.ref im, .ref ie, .ref is, .ref iy, .ref ii, .int (nI mc), .int mx0, .int ix])), (ie, .inl (cI, 4, .inl (nf ek))), (ii, .inl (cI, 4, .inl (upd (upd (upd (upd ig 0 ((fsum mix ek yf 0 mc) / ix)) 1 ((fsum mix ek yf 1 mc) / ix)) 2 ((fsum mix ek yf 2 mc) / ix)) 3 ((fsum mix ek yf 3 mc) / ix)))), (yl, .inr (1, [.ref ya, .int (nI yn), .int (12 : Int32)])), (ya, .inl (cI, 48, .inl yf))], ⟨rfl, rfl⟩, by rw [ht]; exact hP.sub [0, 1, 2, 3, 4] rfl, hD.sub [0, 1, 2, 3, 4] (by decide) rfl⟩, hS.F ht⟩) hS.2.2 d_IP_fillInner_82)
                        · have h_4 : ¬ (mc ≤ k) := fun z99 => h_4 ((nI_leI (a := mc) (b := k) (by omega) (by omega)).mpr z99)
                          refine lv_iload hx hb d_IP_fillInner_30 (lv_at hl 1 rfl) ?_
                          refine lv_iload_n hx hb d_IP_fillInner_32 rfl (lv_at hl 5 rfl) ?_
                          refine lv_iload hx hb d_IP_fillInner_33 (lv_at hl 0 rfl) ?_
                          refine lv_iconst (v := (4 : Int32)) hx hb d_IP_fillInner_35 (by decide) ?_
                          refine lv_imul hx hb d_IP_fillInner_36 ?_
                          refine tp_i (y := nI (k * 4)) (nI_mul k 4) ?_
                          refine lv_ishr hx hb d_IP_fillInner_37 ?_
                          refine lv_bipush (v := (15 : Int32)) hx hb d_IP_fillInner_38 (by decide) ?_
                          refine lv_iand hx hb d_IP_fillInner_40 ?_
                          refine lv_aload_n hx hb d_IP_fillInner_41 rfl (lv_at hl 4 rfl) ?_
                          refine lv_aload_n hx hb d_IP_fillInner_42 rfl (lv_at hl 3 rfl) ?_
                          refine va_get (D := D) (ci := 5) (v := .ref ie) (C := cn_IP) (T := ft_IP) (N := 8) hx hb hf_IP (fun _ h => h) hown hK hP 0 rfl rfl 1 (by decide) (gw.at G hx0 mw_140 rfl _) (fun _ h9 => h9) rfl d_IP_fillInner_43 ?_
                          refine lv_iload hx hb d_IP_fillInner_46 (lv_at hl 0 rfl) ?_
                          refine va_iald hx hb hK hP 1 0 rfl rfl (vp_in_nI (n := k) (by omega) (by omega)) d_IP_fillInner_48 ?_
                          refine tp_i (y := (nf ek) k) (congrArg (nf ek) (nI_clamp (n := k) (by omega))) ?_
                          refine tp_i (y := nI (ek k)) rfl ?_
                          have hb_5 := hek k
                          refine lv_iload_n hx hb d_IP_fillInner_49 rfl (lv_at hl 2 rfl) ?_
                          refine cx_call (D := D) (cl := kl) (ws := _) (wc := [(yl, .inr (1, [.ref ya, .int (nI yn), .int (12 : Int32)])), (ya, .inl (cI, 48, .inl yf))]) (wr := [(ip, .inr (5, [.ref im, .ref ie, .ref is, .ref iy, .ref ii, .int (nI mc), .int mx0, .int ix])), (ie, .inl (cI, 4, .inl (nf ek))), (ii, .inl (cI, 4, .inl (upd (upd (upd ig 0 ((fsum mix ek yf 0 mc) / ix)) 1 ((fsum mix ek yf 1 mc) / ix)) 2 ((fsum mix ek yf 2 mc) / ix))))]) (tx_runV (C := cn_PL) (b := yl) (As := [.int (nI (ek k)), .int (3 : Int32)]) (rest := [.int ((mix >>> ((nI (k * 4)) &&& 31)) &&& (15 : Int32)), .int v]) hx hb hml hown (c_PL_at E H.size yl ya yn 12 48 yf (ek k) 3 (by decide) (by decide) hyn (hek k) (by decide)) (cx_C (b0 := b0) G hx0 mw_251 mw_3 ny_PL_at (by decide)) (gw.at G hx0 mw_590 rfl _) (gw.at G hx0 mw_249 rfl _) (gw.at G hx0 mw_250 rfl _) ⟨cx_blind, va_recv hK hP (q0 := 3) (ci := 1) (q := (cn_PL, ft_PL, 3)) rfl rfl, (cx_pre (s := s) hx0 hP hD hS hA0 [3, 4] rfl rfl (by decide))⟩ rfl rfl hl.1 rfl (lv_room (Nat.le_of_ble_eq_true rfl)) d_IP_fillInner_50 ⟨by decide, by decide⟩) hP hD hS hA [3, 4] [0, 1, 2] rfl rfl (by decide) (by decide) (fun v t w1 H locs ht hW9 hp hP hD hS => ?_) (fun x t w1 H locs ht hW9 hp hP hD hS => by obtain ⟨h9, -⟩ := hp; cases h9)
                          obtain ⟨h9, rfl⟩ := hp
                          cases h9
                          refine W.eq (g2 := F0 m 53 ls [.int (yf ((ek k) * 4 + 3)), .int ((mix >>> ((nI (k * 4)) &&& 31)) &&& (15 : Int32)), .int v]) rfl ?_
                          refine W.widen (k := 0) (n := 0) (by decide) (by decide) ?_
                          have hP : va_P D kl [(ip, .inr (5, [.ref im, .ref ie, .ref is, .ref iy, .ref ii, .int (nI mc), .int mx0, .int ix])), (ie, .inl (cI, 4, .inl (nf ek))), (ii, .inl (cI, 4, .inl (upd (upd (upd ig 0 ((fsum mix ek yf 0 mc) / ix)) 1 ((fsum mix ek yf 1 mc) / ix)) 2 ((fsum mix ek yf 2 mc) / ix)))), (yl, .inr (1, [.ref ya, .int (nI yn), .int (12 : Int32)])), (ya, .inl (cI, 48, .inl yf))] H := hP
                          have hD : va_D A [(ip, .inr (5, [.ref im, .ref ie, .ref is, .ref iy, .ref ii, .int (nI mc), .int mx0, .int ix])), (ie, .inl (cI, 4, .inl (nf ek))), (ii, .inl (cI, 4, .inl (upd (upd (upd ig 0 ((fsum mix ek yf 0 mc) / ix)) 1 ((fsum mix ek yf 1 mc) / ix)) 2 ((fsum mix ek yf 2 mc) / ix)))), (yl, .inr (1, [.ref ya, .int (nI yn), .int (12 : Int32)])), (ya, .inl (cI, 48, .inl yf))] := hD
                          refine lv_imul hx hb d_IP_fillInner_53 ?_
                          refine lv_iadd hx hb d_IP_fillInner_54 ?_
                          refine lv_istore (lv' := [(4, .int (v + (((mix >>> ((nI (k * 4)) &&& 31)) &&& (15 : Int32)) * (yf ((ek k) * 4 + 3))))), (5, .int (nI k)), (3, .int (3 : Int32)), (0, .ref ip), (1, .ref yl), (2, .int mix)]) hx hb d_IP_fillInner_55 hl (by decide) rfl (fun ls hl => ?_)
                          refine lv_iinc (lv' := [(5, .int (nI (k + 1))), (4, .int (v + (((mix >>> ((nI (k * 4)) &&& 31)) &&& (15 : Int32)) * (yf ((ek k) * 4 + 3))))), (3, .int (3 : Int32)), (0, .ref ip), (1, .ref yl), (2, .int mix)]) (k := 1) (v := nI (k + 1)) hx hb d_IP_fillInner_57 hl rfl (nI_add k 1) (by decide) rfl (fun ls hl => ?_)
                          refine lv_goto (tgt := 21) hx hb d_IP_fillInner_60 (by decide) ?_
                          exact ih_21 _ (by omega) (k + 1) (v + (((mix >>> ((nI (k * 4)) &&& 31)) &&& (15 : Int32)) * (yf ((ek k) * 4 + 3)))) ls H locs rfl (fsum_s hv) (by omega) (lv_sub hl [0, 1, 2, 3, 4, 5] rfl) (hP.sub [0, 1, 2, 3, 4] rfl) (hD.sub [0, 1, 2, 3, 4] (by decide) rfl) hS
                    exact lp_21 _ 0 0 ls H locs rfl rfl (Nat.zero_le _) (lv_sub hl [0, 1, 2, 3, 4, 5] rfl) (hP.sub [0, 1, 2, 3, 4] rfl) (hD.sub [0, 1, 2, 3, 4] (by decide) rfl) hS
                  · have h_3 : ¬ (mc ≤ k) := fun z99 => h_3 ((nI_leI (a := mc) (b := k) (by omega) (by omega)).mpr z99)
                    refine lv_iload hx hb d_IP_fillInner_30 (lv_at hl 1 rfl) ?_
                    refine lv_iload_n hx hb d_IP_fillInner_32 rfl (lv_at hl 5 rfl) ?_
                    refine lv_iload hx hb d_IP_fillInner_33 (lv_at hl 0 rfl) ?_
                    refine lv_iconst (v := (4 : Int32)) hx hb d_IP_fillInner_35 (by decide) ?_
                    refine lv_imul hx hb d_IP_fillInner_36 ?_
                    refine tp_i (y := nI (k * 4)) (nI_mul k 4) ?_
                    refine lv_ishr hx hb d_IP_fillInner_37 ?_
                    refine lv_bipush (v := (15 : Int32)) hx hb d_IP_fillInner_38 (by decide) ?_
                    refine lv_iand hx hb d_IP_fillInner_40 ?_
                    refine lv_aload_n hx hb d_IP_fillInner_41 rfl (lv_at hl 4 rfl) ?_
                    refine lv_aload_n hx hb d_IP_fillInner_42 rfl (lv_at hl 3 rfl) ?_
                    refine va_get (D := D) (ci := 5) (v := .ref ie) (C := cn_IP) (T := ft_IP) (N := 8) hx hb hf_IP (fun _ h => h) hown hK hP 0 rfl rfl 1 (by decide) (gw.at G hx0 mw_140 rfl _) (fun _ h9 => h9) rfl d_IP_fillInner_43 ?_
                    refine lv_iload hx hb d_IP_fillInner_46 (lv_at hl 0 rfl) ?_
                    refine va_iald hx hb hK hP 1 0 rfl rfl (vp_in_nI (n := k) (by omega) (by omega)) d_IP_fillInner_48 ?_
                    refine tp_i (y := (nf ek) k) (congrArg (nf ek) (nI_clamp (n := k) (by omega))) ?_
                    refine tp_i (y := nI (ek k)) rfl ?_
                    have hb_6 := hek k
                    refine lv_iload_n hx hb d_IP_fillInner_49 rfl (lv_at hl 2 rfl) ?_
                    refine cx_call (D := D) (cl := kl) (ws := _) (wc := [(yl, .inr (1, [.ref ya, .int (nI yn), .int (12 : Int32)])), (ya, .inl (cI, 48, .inl yf))]) (wr := [(ip, .inr (5, [.ref im, .ref ie, .ref is, .ref iy, .ref ii, .int (nI mc), .int mx0, .int ix])), (ie, .inl (cI, 4, .inl (nf ek))), (ii, .inl (cI, 4, .inl (upd (upd ig 0 ((fsum mix ek yf 0 mc) / ix)) 1 ((fsum mix ek yf 1 mc) / ix))))]) (tx_runV (C := cn_PL) (b := yl) (As := [.int (nI (ek k)), .int (2 : Int32)]) (rest := [.int ((mix >>> ((nI (k * 4)) &&& 31)) &&& (15 : Int32)), .int v]) hx hb hml hown (c_PL_at E H.size yl ya yn 12 48 yf (ek k) 2 (by decide) (by decide) hyn (hek k) (by decide)) (cx_C (b0 := b0) G hx0 mw_251 mw_3 ny_PL_at (by decide)) (gw.at G hx0 mw_590 rfl _) (gw.at G hx0 mw_249 rfl _) (gw.at G hx0 mw_250 rfl _) ⟨cx_blind, va_recv hK hP (q0 := 3) (ci := 1) (q := (cn_PL, ft_PL, 3)) rfl rfl, (cx_pre (s := s) hx0 hP hD hS hA0 [3, 4] rfl rfl (by decide))⟩ rfl rfl hl.1 rfl (lv_room (Nat.le_of_ble_eq_true rfl)) d_IP_fillInner_50 ⟨by decide, by decide⟩) hP hD hS hA [3, 4] [0, 1, 2] rfl rfl (by decide) (by decide) (fun v t w1 H locs ht hW9 hp hP hD hS => ?_) (fun x t w1 H locs ht hW9 hp hP hD hS => by obtain ⟨h9, -⟩ := hp; cases h9)
                    obtain ⟨h9, rfl⟩ := hp
                    cases h9
                    refine W.eq (g2 := F0 m 53 ls [.int (yf ((ek k) * 4 + 2)), .int ((mix >>> ((nI (k * 4)) &&& 31)) &&& (15 : Int32)), .int v]) rfl ?_
                    refine W.widen (k := 0) (n := 0) (by decide) (by decide) ?_
                    have hP : va_P D kl [(ip, .inr (5, [.ref im, .ref ie, .ref is, .ref iy, .ref ii, .int (nI mc), .int mx0, .int ix])), (ie, .inl (cI, 4, .inl (nf ek))), (ii, .inl (cI, 4, .inl (upd (upd ig 0 ((fsum mix ek yf 0 mc) / ix)) 1 ((fsum mix ek yf 1 mc) / ix)))), (yl, .inr (1, [.ref ya, .int (nI yn), .int (12 : Int32)])), (ya, .inl (cI, 48, .inl yf))] H := hP
                    have hD : va_D A [(ip, .inr (5, [.ref im, .ref ie, .ref is, .ref iy, .ref ii, .int (nI mc), .int mx0, .int ix])), (ie, .inl (cI, 4, .inl (nf ek))), (ii, .inl (cI, 4, .inl (upd (upd ig 0 ((fsum mix ek yf 0 mc) / ix)) 1 ((fsum mix ek yf 1 mc) / ix)))), (yl, .inr (1, [.ref ya, .int (nI yn), .int (12 : Int32)])), (ya, .inl (cI, 48, .inl yf))] := hD
                    refine lv_imul hx hb d_IP_fillInner_53 ?_
                    refine lv_iadd hx hb d_IP_fillInner_54 ?_
                    refine lv_istore (lv' := [(4, .int (v + (((mix >>> ((nI (k * 4)) &&& 31)) &&& (15 : Int32)) * (yf ((ek k) * 4 + 2))))), (5, .int (nI k)), (3, .int (2 : Int32)), (0, .ref ip), (1, .ref yl), (2, .int mix)]) hx hb d_IP_fillInner_55 hl (by decide) rfl (fun ls hl => ?_)
                    refine lv_iinc (lv' := [(5, .int (nI (k + 1))), (4, .int (v + (((mix >>> ((nI (k * 4)) &&& 31)) &&& (15 : Int32)) * (yf ((ek k) * 4 + 2))))), (3, .int (2 : Int32)), (0, .ref ip), (1, .ref yl), (2, .int mix)]) (k := 1) (v := nI (k + 1)) hx hb d_IP_fillInner_57 hl rfl (nI_add k 1) (by decide) rfl (fun ls hl => ?_)
                    refine lv_goto (tgt := 21) hx hb d_IP_fillInner_60 (by decide) ?_
                    exact ih_21 _ (by omega) (k + 1) (v + (((mix >>> ((nI (k * 4)) &&& 31)) &&& (15 : Int32)) * (yf ((ek k) * 4 + 2)))) ls H locs rfl (fsum_s hv) (by omega) (lv_sub hl [0, 1, 2, 3, 4, 5] rfl) (hP.sub [0, 1, 2, 3, 4] rfl) (hD.sub [0, 1, 2, 3, 4] (by decide) rfl) hS
              exact lp_21 _ 0 0 ls H locs rfl rfl (Nat.zero_le _) (lv_sub hl [0, 1, 2, 3, 4, 5] rfl) (hP.sub [0, 1, 2, 3, 4] rfl) (hD.sub [0, 1, 2, 3, 4] (by decide) rfl) hS
            · have h_2 : ¬ (mc ≤ k) := fun z99 => h_2 ((nI_leI (a := mc) (b := k) (by omega) (by omega)).mpr z99)
              refine lv_iload hx hb d_IP_fillInner_30 (lv_at hl 1 rfl) ?_
              refine lv_iload_n hx hb d_IP_fillInner_32 rfl (lv_at hl 5 rfl) ?_
              refine lv_iload hx hb d_IP_fillInner_33 (lv_at hl 0 rfl) ?_
              refine lv_iconst (v := (4 : Int32)) hx hb d_IP_fillInner_35 (by decide) ?_
              refine lv_imul hx hb d_IP_fillInner_36 ?_
              refine tp_i (y := nI (k * 4)) (nI_mul k 4) ?_
              refine lv_ishr hx hb d_IP_fillInner_37 ?_
              refine lv_bipush (v := (15 : Int32)) hx hb d_IP_fillInner_38 (by decide) ?_
              refine lv_iand hx hb d_IP_fillInner_40 ?_
              refine lv_aload_n hx hb d_IP_fillInner_41 rfl (lv_at hl 4 rfl) ?_
              refine lv_aload_n hx hb d_IP_fillInner_42 rfl (lv_at hl 3 rfl) ?_
              refine va_get (D := D) (ci := 5) (v := .ref ie) (C := cn_IP) (T := ft_IP) (N := 8) hx hb hf_IP (fun _ h => h) hown hK hP 0 rfl rfl 1 (by decide) (gw.at G hx0 mw_140 rfl _) (fun _ h9 => h9) rfl d_IP_fillInner_43 ?_
              refine lv_iload hx hb d_IP_fillInner_46 (lv_at hl 0 rfl) ?_
              refine va_iald hx hb hK hP 1 0 rfl rfl (vp_in_nI (n := k) (by omega) (by omega)) d_IP_fillInner_48 ?_
              refine tp_i (y := (nf ek) k) (congrArg (nf ek) (nI_clamp (n := k) (by omega))) ?_
              refine tp_i (y := nI (ek k)) rfl ?_
              have hb_7 := hek k
              refine lv_iload_n hx hb d_IP_fillInner_49 rfl (lv_at hl 2 rfl) ?_
              refine cx_call (D := D) (cl := kl) (ws := _) (wc := [(yl, .inr (1, [.ref ya, .int (nI yn), .int (12 : Int32)])), (ya, .inl (cI, 48, .inl yf))]) (wr := [(ip, .inr (5, [.ref im, .ref ie, .ref is, .ref iy, .ref ii, .int (nI mc), .int mx0, .int ix])), (ie, .inl (cI, 4, .inl (nf ek))), (ii, .inl (cI, 4, .inl (upd ig 0 ((fsum mix ek yf 0 mc) / ix))))]) (tx_runV (C := cn_PL) (b := yl) (As := [.int (nI (ek k)), .int (1 : Int32)]) (rest := [.int ((mix >>> ((nI (k * 4)) &&& 31)) &&& (15 : Int32)), .int v]) hx hb hml hown (c_PL_at E H.size yl ya yn 12 48 yf (ek k) 1 (by decide) (by decide) hyn (hek k) (by decide)) (cx_C (b0 := b0) G hx0 mw_251 mw_3 ny_PL_at (by decide)) (gw.at G hx0 mw_590 rfl _) (gw.at G hx0 mw_249 rfl _) (gw.at G hx0 mw_250 rfl _) ⟨cx_blind, va_recv hK hP (q0 := 3) (ci := 1) (q := (cn_PL, ft_PL, 3)) rfl rfl, (cx_pre (s := s) hx0 hP hD hS hA0 [3, 4] rfl rfl (by decide))⟩ rfl rfl hl.1 rfl (lv_room (Nat.le_of_ble_eq_true rfl)) d_IP_fillInner_50 ⟨by decide, by decide⟩) hP hD hS hA [3, 4] [0, 1, 2] rfl rfl (by decide) (by decide) (fun v t w1 H locs ht hW9 hp hP hD hS => ?_) (fun x t w1 H locs ht hW9 hp hP hD hS => by obtain ⟨h9, -⟩ := hp; cases h9)
              obtain ⟨h9, rfl⟩ := hp
              cases h9
              refine W.eq (g2 := F0 m 53 ls [.int (yf ((ek k) * 4 + 1)), .int ((mix >>> ((nI (k * 4)) &&& 31)) &&& (15 : Int32)), .int v]) rfl ?_
              refine W.widen (k := 0) (n := 0) (by decide) (by decide) ?_
              have hP : va_P D kl [(ip, .inr (5, [.ref im, .ref ie, .ref is, .ref iy, .ref ii, .int (nI mc), .int mx0, .int ix])), (ie, .inl (cI, 4, .inl (nf ek))), (ii, .inl (cI, 4, .inl (upd ig 0 ((fsum mix ek yf 0 mc) / ix)))), (yl, .inr (1, [.ref ya, .int (nI yn), .int (12 : Int32)])), (ya, .inl (cI, 48, .inl yf))] H := hP
              have hD : va_D A [(ip, .inr (5, [.ref im, .ref ie, .ref is, .ref iy, .ref ii, .int (nI mc), .int mx0, .int ix])), (ie, .inl (cI, 4, .inl (nf ek))), (ii, .inl (cI, 4, .inl (upd ig 0 ((fsum mix ek yf 0 mc) / ix)))), (yl, .inr (1, [.ref ya, .int (nI yn), .int (12 : Int32)])), (ya, .inl (cI, 48, .inl yf))] := hD
              refine lv_imul hx hb d_IP_fillInner_53 ?_
              refine lv_iadd hx hb d_IP_fillInner_54 ?_
              refine lv_istore (lv' := [(4, .int (v + (((mix >>> ((nI (k * 4)) &&& 31)) &&& (15 : Int32)) * (yf ((ek k) * 4 + 1))))), (5, .int (nI k)), (3, .int (1 : Int32)), (0, .ref ip), (1, .ref yl), (2, .int mix)]) hx hb d_IP_fillInner_55 hl (by decide) rfl (fun ls hl => ?_)
              refine lv_iinc (lv' := [(5, .int (nI (k + 1))), (4, .int (v + (((mix >>> ((nI (k * 4)) &&& 31)) &&& (15 : Int32)) * (yf ((ek k) * 4 + 1))))), (3, .int (1 : Int32)), (0, .ref ip), (1, .ref yl), (2, .int mix)]) (k := 1) (v := nI (k + 1)) hx hb d_IP_fillInner_57 hl rfl (nI_add k 1) (by decide) rfl (fun ls hl => ?_)
              refine lv_goto (tgt := 21) hx hb d_IP_fillInner_60 (by decide) ?_
              exact ih_21 _ (by omega) (k + 1) (v + (((mix >>> ((nI (k * 4)) &&& 31)) &&& (15 : Int32)) * (yf ((ek k) * 4 + 1)))) ls H locs rfl (fsum_s hv) (by omega) (lv_sub hl [0, 1, 2, 3, 4, 5] rfl) (hP.sub [0, 1, 2, 3, 4] rfl) (hD.sub [0, 1, 2, 3, 4] (by decide) rfl) hS
        exact lp_21 _ 0 0 ls H locs rfl rfl (Nat.zero_le _) (lv_sub hl [0, 1, 2, 3, 4, 5] rfl) (hP.sub [0, 1, 2, 3, 4] rfl) (hD.sub [0, 1, 2, 3, 4] (by decide) rfl) hS
      · have h_1 : ¬ (mc ≤ k) := fun z99 => h_1 ((nI_leI (a := mc) (b := k) (by omega) (by omega)).mpr z99)
        refine lv_iload hx hb d_IP_fillInner_30 (lv_at hl 1 rfl) ?_
        refine lv_iload_n hx hb d_IP_fillInner_32 rfl (lv_at hl 5 rfl) ?_
        refine lv_iload hx hb d_IP_fillInner_33 (lv_at hl 0 rfl) ?_
        refine lv_iconst (v := (4 : Int32)) hx hb d_IP_fillInner_35 (by decide) ?_
        refine lv_imul hx hb d_IP_fillInner_36 ?_
        refine tp_i (y := nI (k * 4)) (nI_mul k 4) ?_
        refine lv_ishr hx hb d_IP_fillInner_37 ?_
        refine lv_bipush (v := (15 : Int32)) hx hb d_IP_fillInner_38 (by decide) ?_
        refine lv_iand hx hb d_IP_fillInner_40 ?_
        refine lv_aload_n hx hb d_IP_fillInner_41 rfl (lv_at hl 4 rfl) ?_
        refine lv_aload_n hx hb d_IP_fillInner_42 rfl (lv_at hl 3 rfl) ?_
        refine va_get (D := D) (ci := 5) (v := .ref ie) (C := cn_IP) (T := ft_IP) (N := 8) hx hb hf_IP (fun _ h => h) hown hK hP 0 rfl rfl 1 (by decide) (gw.at G hx0 mw_140 rfl _) (fun _ h9 => h9) rfl d_IP_fillInner_43 ?_
        refine lv_iload hx hb d_IP_fillInner_46 (lv_at hl 0 rfl) ?_
        refine va_iald hx hb hK hP 1 0 rfl rfl (vp_in_nI (n := k) (by omega) (by omega)) d_IP_fillInner_48 ?_
        refine tp_i (y := (nf ek) k) (congrArg (nf ek) (nI_clamp (n := k) (by omega))) ?_
        refine tp_i (y := nI (ek k)) rfl ?_
        have hb_8 := hek k
        refine lv_iload_n hx hb d_IP_fillInner_49 rfl (lv_at hl 2 rfl) ?_
        refine cx_call (D := D) (cl := kl) (ws := _) (wc := [(yl, .inr (1, [.ref ya, .int (nI yn), .int (12 : Int32)])), (ya, .inl (cI, 48, .inl yf))]) (wr := [(ip, .inr (5, [.ref im, .ref ie, .ref is, .ref iy, .ref ii, .int (nI mc), .int mx0, .int ix])), (ie, .inl (cI, 4, .inl (nf ek))), (ii, .inl (cI, 4, .inl ig))]) (tx_runV (C := cn_PL) (b := yl) (As := [.int (nI (ek k)), .int (0 : Int32)]) (rest := [.int ((mix >>> ((nI (k * 4)) &&& 31)) &&& (15 : Int32)), .int v]) hx hb hml hown (c_PL_at E H.size yl ya yn 12 48 yf (ek k) 0 (by decide) (by decide) hyn (hek k) (by decide)) (cx_C (b0 := b0) G hx0 mw_251 mw_3 ny_PL_at (by decide)) (gw.at G hx0 mw_590 rfl _) (gw.at G hx0 mw_249 rfl _) (gw.at G hx0 mw_250 rfl _) ⟨cx_blind, va_recv hK hP (q0 := 3) (ci := 1) (q := (cn_PL, ft_PL, 3)) rfl rfl, (cx_pre (s := s) hx0 hP hD hS hA0 [3, 4] rfl rfl (by decide))⟩ rfl rfl hl.1 rfl (lv_room (Nat.le_of_ble_eq_true rfl)) d_IP_fillInner_50 ⟨by decide, by decide⟩) hP hD hS hA [3, 4] [0, 1, 2] rfl rfl (by decide) (by decide) (fun v t w1 H locs ht hW9 hp hP hD hS => ?_) (fun x t w1 H locs ht hW9 hp hP hD hS => by obtain ⟨h9, -⟩ := hp; cases h9)
        obtain ⟨h9, rfl⟩ := hp
        cases h9
        refine W.eq (g2 := F0 m 53 ls [.int (yf ((ek k) * 4 + 0)), .int ((mix >>> ((nI (k * 4)) &&& 31)) &&& (15 : Int32)), .int v]) rfl ?_
        refine W.widen (k := 0) (n := 0) (by decide) (by decide) ?_
        have hP : va_P D kl [(ip, .inr (5, [.ref im, .ref ie, .ref is, .ref iy, .ref ii, .int (nI mc), .int mx0, .int ix])), (ie, .inl (cI, 4, .inl (nf ek))), (ii, .inl (cI, 4, .inl ig)), (yl, .inr (1, [.ref ya, .int (nI yn), .int (12 : Int32)])), (ya, .inl (cI, 48, .inl yf))] H := hP
        have hD : va_D A [(ip, .inr (5, [.ref im, .ref ie, .ref is, .ref iy, .ref ii, .int (nI mc), .int mx0, .int ix])), (ie, .inl (cI, 4, .inl (nf ek))), (ii, .inl (cI, 4, .inl ig)), (yl, .inr (1, [.ref ya, .int (nI yn), .int (12 : Int32)])), (ya, .inl (cI, 48, .inl yf))] := hD
        refine lv_imul hx hb d_IP_fillInner_53 ?_
        refine lv_iadd hx hb d_IP_fillInner_54 ?_
        refine lv_istore (lv' := [(4, .int (v + (((mix >>> ((nI (k * 4)) &&& 31)) &&& (15 : Int32)) * (yf ((ek k) * 4 + 0))))), (5, .int (nI k)), (3, .int (0 : Int32)), (0, .ref ip), (1, .ref yl), (2, .int mix)]) hx hb d_IP_fillInner_55 hl (by decide) rfl (fun ls hl => ?_)
        refine lv_iinc (lv' := [(5, .int (nI (k + 1))), (4, .int (v + (((mix >>> ((nI (k * 4)) &&& 31)) &&& (15 : Int32)) * (yf ((ek k) * 4 + 0))))), (3, .int (0 : Int32)), (0, .ref ip), (1, .ref yl), (2, .int mix)]) (k := 1) (v := nI (k + 1)) hx hb d_IP_fillInner_57 hl rfl (nI_add k 1) (by decide) rfl (fun ls hl => ?_)
        refine lv_goto (tgt := 21) hx hb d_IP_fillInner_60 (by decide) ?_
        exact ih_21 _ (by omega) (k + 1) (v + (((mix >>> ((nI (k * 4)) &&& 31)) &&& (15 : Int32)) * (yf ((ek k) * 4 + 0)))) ls H locs rfl (fsum_s hv) (by omega) (lv_sub hl [0, 1, 2, 3, 4, 5] rfl) (hP.sub [0, 1, 2, 3, 4] rfl) (hD.sub [0, 1, 2, 3, 4] (by decide) rfl) hS
  exact lp_21 _ 0 0 ls s.heap [] rfl rfl (Nat.zero_le _) (lv_sub hl [0, 1, 2, 3, 4, 5] rfl) (hP.sub [0, 1, 2, 3, 4] rfl) (hD.sub [0, 1, 2, 3, 4] (by decide) rfl) hS

theorem c_MI_firstChoice {l : Launch} {s0 : State} {b0 : Addr} {D : va_G} {cI cJ cZ : ClassId} {tC tS : Nat} (E : gE l s0 b0 D cI cJ cZ tC tS) (sz : Nat) (mi : Nat) (cu : Nat) (nx : Nat) (j : Nat) (hj : j ≤ 4) : cx_M l s0 D kl y_MI_firstChoice b_MI_firstChoice 1 (some .int) ({ frames := 0, cells := 0, slots := 0, locals := 0 } : Room) 0 0 [.ref mi] [(mi, .inr (2, [.ref cu, .ref nx, .int (nI j)]))] sz (fun o9 _ w9 => o9 = .returned (some (.int (nI (csN j)))) ∧ w9 = [(mi, .inr (2, [.ref cu, .ref nx, .int (nI j)]))]) := by
  rcases (show j = 0 ∨ j = 1 ∨ j = 2 ∨ j = 3 ∨ j = 4 by omega) with rfl | rfl | rfl | rfl | rfl
  · exact c_MI_firstChoice0 E sz mi cu nx
  · exact c_MI_firstChoice1 E sz mi cu nx
  · exact c_MI_firstChoice2 E sz mi cu nx
  · exact c_MI_firstChoice3 E sz mi cu nx
  · exact c_MI_firstChoice4 E sz mi cu nx

theorem c_MI_endOfChoices {l : Launch} {s0 : State} {b0 : Addr} {D : va_G} {cI cJ cZ : ClassId} {tC tS : Nat} (E : gE l s0 b0 D cI cJ cZ tC tS) (sz : Nat) (mi : Nat) (cu : Nat) (nx : Nat) (j : Nat) (hj : j ≤ 4) : cx_M l s0 D kl y_MI_endOfChoices b_MI_endOfChoices 1 (some .int) ({ frames := 0, cells := 0, slots := 0, locals := 0 } : Room) 0 0 [.ref mi] [(mi, .inr (2, [.ref cu, .ref nx, .int (nI j)]))] sz (fun o9 _ w9 => o9 = .returned (some (.int (nI (csN (j + 1))))) ∧ w9 = [(mi, .inr (2, [.ref cu, .ref nx, .int (nI j)]))]) := by
  rcases (show j = 0 ∨ j = 1 ∨ j = 2 ∨ j = 3 ∨ j = 4 by omega) with rfl | rfl | rfl | rfl | rfl
  · exact c_MI_endOfChoices0 E sz mi cu nx
  · exact c_MI_endOfChoices1 E sz mi cu nx
  · exact c_MI_endOfChoices2 E sz mi cu nx
  · exact c_MI_endOfChoices3 E sz mi cu nx
  · exact c_MI_endOfChoices4 E sz mi cu nx

set_option maxHeartbeats 4000000 in
set_option maxRecDepth 100000 in
theorem c_MI_minor {l : Launch} {s0 : State} {b0 : Addr} {D : va_G} {cI cJ cZ : ClassId} {tC tS : Nat} (E : gE l s0 b0 D cI cJ cZ tC tS) (sz : Nat) (mi : Nat) (cu : Nat) (nx : Nat) (cf : Nat → Int64) (jz : Int32) (m9 : Nat) (hm : m9 < 16) : cx_M l s0 D kl y_MI_minor b_MI_minor 2 (some .long) ({ frames := 0, cells := 0, slots := 0, locals := 0 } : Room) 0 0 [.ref mi, .int (nI m9)] [(mi, .inr (2, [.ref cu, .ref nx, .int jz])), (cu, .inl (cJ, 16, .inr (.inl cf)))] sz (fun o9 _ w9 => o9 = .returned (some (.long (cf m9))) ∧ w9 = [(mi, .inr (2, [.ref cu, .ref nx, .int jz])), (cu, .inl (cJ, 16, .inr (.inl cf)))]) := by
  refine tx_ofW (cc := b_MI_minor) (maxL := 2) (ret := (some .long)) (by decide) rfl ?_
  intro p e s m args below meth c s₁ B hml hT hv
  obtain ⟨rfl, hsz, hP, hD0, hx0⟩ := hv
  have hx := B.exec
  have hb := B.bytes
  have hr := B.returns
  have G := E.2.1
  have hown : s.vm.findClass cn_MI = some m.cls := findClass_of_methodNamed B.named
  have hlocks := B.notSynchronized
  have hK := va_K.moved hx0.1.alike E.2.2.1
  have hf_MI : ∀ w99 ∈ u_ws cn_MI ft_MI 3, w99.before ([.ref mi, .int (nI m9)] : List Value).toArray s = true := fun w99 h99 => gw.at G hx0 (fw_MI w99 h99) (fo_MI w99 h99) _
  subst hsz
  have hA0 := cx_new hD0 hx0.2.1
  have hD := hD0.self (sz := s.heap.size)
  generalize hAe : va_A [(mi, .inr (2, [.ref cu, .ref nx, .int jz])), (cu, .inl (cJ, 16, .inr (.inl cf)))] s.heap.size = A at hD hA0 ⊢
  have hA : ∀ q : Nat, s.heap.size ≤ q → A q := fun q h => by rw [← hAe]; exact Or.inr h
  have hS : va_S A s.heap s.heap [] := va_S.rf
  have hl := lv_entry ([.ref mi, .int (nI m9)]) (n := 2) (Nat.le_of_ble_eq_true rfl)
  rw [lg_entry_eq]
  generalize (lg_sl ([.ref mi, .int (nI m9)]) ++ List.replicate (2 - (lg_sl ([.ref mi, .int (nI m9)])).length) Slot.unset).toArray = ls at hl ⊢
  have hl : lv_has ls 2 [(0, .ref mi), (1, .int (nI m9))] := hl
  have hP : va_P D kl [(mi, .inr (2, [.ref cu, .ref nx, .int jz])), (cu, .inl (cJ, 16, .inr (.inl cf)))] s.heap := hP
  have hml : c.maxLocals = 2 := hml
  refine lv_aload_n hx hb d_MI_minor_0 rfl (lv_at hl 0 rfl) ?_
  refine va_get (D := D) (ci := 2) (v := .ref cu) (C := cn_MI) (T := ft_MI) (N := 3) hx hb hf_MI (fun _ h => h) hown hK hP 0 rfl rfl 0 (by decide) (gw.at G hx0 mw_64 rfl _) (fun _ h9 => h9) rfl d_MI_minor_1 ?_
  refine lv_iload_n hx hb d_MI_minor_4 rfl (lv_at hl 1 rfl) ?_
  refine va_lald hx hb hK hP 1 1 rfl rfl (vp_in_nI (n := m9) (by omega) (by omega)) d_MI_minor_5 ?_
  refine tp_l (y := cf m9) (congrArg cf (nI_clamp (n := m9) (by omega))) ?_
  exact tx_mono (fun _ h => tx_Z.of h) (W.lret (v := cf m9) hx hb hr (fun t ht hW => ⟨⟨[(mi, .inr (2, [.ref cu, .ref nx, .int jz])), (cu, .inl (cJ, 16, .inr (.inl cf)))], ⟨rfl, rfl⟩, by rw [ht]; exact hP.sub [0, 1] rfl, hD.sub [0, 1] (by decide) rfl⟩, hS.F ht⟩) hS.2.2 d_MI_minor_6)

