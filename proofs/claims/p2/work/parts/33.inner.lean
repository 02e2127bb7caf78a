/-! ===== own rows, laid by wip/tools/sym.py: InnerPoints: members, rests, mixes ===== -/
/-- the members of a simplex among the first p rays -/
def mbr (ch : Nat) : Nat → Nat × (Nat → Nat) → Nat × (Nat → Nat)
  | 0, s => s
  | p + 1, s => if ch.testBit p = true ∧ (mbr ch p s).1 < 4 then ((mbr ch p s).1 + 1, updN (mbr ch p s).2 (mbr ch p s).1 p) else mbr ch p s
theorem mbr_y {ch p n : Nat} {s : Nat × (Nat → Nat)} {f : Nat → Nat} (h : mbr ch p s = (n, f)) (hb : ch.testBit p = true) (hn : n < 4) : mbr ch (p + 1) s = (n + 1, updN f n p) := by
  show (if ch.testBit p = true ∧ (mbr ch p s).1 < 4 then ((mbr ch p s).1 + 1, updN (mbr ch p s).2 (mbr ch p s).1 p) else mbr ch p s) = _
  rw [h]; exact if_pos ⟨hb, hn⟩
theorem mbr_n {ch p n : Nat} {s : Nat × (Nat → Nat)} {f : Nat → Nat} (h : mbr ch p s = (n, f)) (hb : ¬ (ch.testBit p = true ∧ n < 4)) : mbr ch (p + 1) s = (n, f) := by
  show (if ch.testBit p = true ∧ (mbr ch p s).1 < 4 then ((mbr ch p s).1 + 1, updN (mbr ch p s).2 (mbr ch p s).1 p) else mbr ch p s) = _
  rw [h]; exact if_neg hb
/-- a share's rest -/
def rs0 (ix : Int32) (sh : Int64) : Int32 := if ix = 0 then 0 else (sh - sh / ix.toInt64 * ix.toInt64).toInt32
def rsf (ix : Int32) (sh : Int64) : Int32 := if rs0 ix sh < 0 then rs0 ix sh + ix else rs0 ix sh
theorem i64_ne {x : Int32} (h : ¬ x = 0) : ¬ x.toInt64 = 0 := fun z => h (by
  apply Int32.toInt_inj.mp
  have h1 := congrArg Int64.toInt z
  rw [Int32.toInt_toInt64] at h1
  exact h1)
/-- a mix comes into the list -/
def imC (n : Nat) (f : Nat → Int32) (m : Int32) : Prop := (∀ k, k < n → ¬ f k = m) ∧ n < 12
noncomputable def imN (n : Nat) (f : Nat → Int32) (m : Int32) : Nat := @ite _ (imC n f m) (Classical.propDecidable _) (n + 1) n
noncomputable def imF (n : Nat) (f : Nat → Int32) (m : Int32) : Nat → Int32 := @ite _ (imC n f m) (Classical.propDecidable _) (upd f n m) f
theorem imN_y {n : Nat} {f : Nat → Int32} {m : Int32} (h : imC n f m) : imN n f m = n + 1 := @if_pos _ (Classical.propDecidable _) h _ _ _
theorem imN_n {n : Nat} {f : Nat → Int32} {m : Int32} (h : ¬ imC n f m) : imN n f m = n := @if_neg _ (Classical.propDecidable _) h _ _ _
theorem imF_y {n : Nat} {f : Nat → Int32} {m : Int32} (h : imC n f m) : imF n f m = upd f n m := @if_pos _ (Classical.propDecidable _) h _ _ _
theorem imF_n {n : Nat} {f : Nat → Int32} {m : Int32} (h : ¬ imC n f m) : imF n f m = f := @if_neg _ (Classical.propDecidable _) h _ _ _
theorem imN_le {n : Nat} {f : Nat → Int32} {m : Int32} (h : n ≤ 12) : imN n f m ≤ 12 := by
  by_cases hc : imC n f m
  · rw [imN_y hc]; exact hc.2
  · rw [imN_n hc]; exact h
/-- the sum of two mixes, share by share -/
def shr4 (mix stp : Int32) (k : Nat) : Int32 := (mix >>> (nI (4 * k) &&& 31) &&& 15) + (stp >>> (nI (4 * k) &&& 31) &&& 15)
def smf (ix mix stp : Int32) : Nat → Int32
  | 0 => 0
  | k + 1 => if shr4 mix stp k < ix then smf ix mix stp k ||| shr4 mix stp k <<< (nI (4 * k) &&& 31) else smf ix mix stp k ||| (shr4 mix stp k - ix) <<< (nI (4 * k) &&& 31)
theorem smf_y {ix mix stp v : Int32} {k : Nat} (h : smf ix mix stp k = v) (hs : shr4 mix stp k < ix) : smf ix mix stp (k + 1) = v ||| shr4 mix stp k <<< (nI (4 * k) &&& 31) := by
  show (if shr4 mix stp k < ix then smf ix mix stp k ||| shr4 mix stp k <<< (nI (4 * k) &&& 31) else smf ix mix stp k ||| (shr4 mix stp k - ix) <<< (nI (4 * k) &&& 31)) = _
  rw [if_pos hs, h]
theorem smf_n {ix mix stp v : Int32} {k : Nat} (h : smf ix mix stp k = v) (hs : ¬ shr4 mix stp k < ix) : smf ix mix stp (k + 1) = v ||| (shr4 mix stp k - ix) <<< (nI (4 * k) &&& 31) := by
  show (if shr4 mix stp k < ix then smf ix mix stp k ||| shr4 mix stp k <<< (nI (4 * k) &&& 31) else smf ix mix stp k ||| (shr4 mix stp k - ix) <<< (nI (4 * k) &&& 31)) = _
  rw [if_neg hs, h]
set_option maxHeartbeats 4000000 in
set_option maxRecDepth 100000 in
theorem c_IP_members {l : Launch} {s0 : State} {b0 : Addr} {D : va_G} {cI cJ cZ : ClassId} {tC tS : Nat} (E : gE l s0 b0 D cI cJ cZ tC tS) (sz : Nat) (ip : Nat) (im : Nat) (ie : Nat) (is : Nat) (iy : Nat) (ii : Nat) (mc0 : Int32) (mx0 : Int32) (ix : Int32) (ek : Nat → Nat) (pl : Nat) (pa : Nat) (ct : Nat) (mo : Nat) (pz : Nat) (pf : Nat → Int32) (ch : Nat) (hek : ∀ j, ek j < 12) (hpz : pz = mo * 4) (hmo : mo ≤ 107) (hct : ct ≤ mo) (hc12 : ct ≤ 12) (hch : ch < 2 ^ 31) : cx_M l s0 D kl y_IP_findMembers b_IP_findMembers 4 none ({ frames := 1, cells := 0, slots := 0, locals := 21 } : Room) 0 0 [.ref ip, .ref pl, .int (nI ch)] [(ip, .inr (5, [.ref im, .ref ie, .ref is, .ref iy, .ref ii, .int mc0, .int mx0, .int ix])), (ie, .inl (cI, 4, .inl (nf ek))), (pl, .inr (1, [.ref pa, .int (nI ct), .int (nI mo)])), (pa, .inl (cI, pz, .inl pf))] sz (fun o9 _ w9 => o9 = .returned none ∧ (mbr ch ct (0, ek)).1 ≤ 4 ∧ (∀ j, (mbr ch ct (0, ek)).2 j < 12) ∧ w9 = [(ip, .inr (5, [.ref im, .ref ie, .ref is, .ref iy, .ref ii, .int (nI ((mbr ch ct (0, ek)).1)), .int mx0, .int ix])), (ie, .inl (cI, 4, .inl (nf (mbr ch ct (0, ek)).2))), (pl, .inr (1, [.ref pa, .int (nI ct), .int (nI mo)])), (pa, .inl (cI, pz, .inl pf))]) := by
  refine tx_ofW (cc := b_IP_findMembers) (maxL := 4) (ret := none) (by decide) rfl ?_
  intro p e s m args below meth c s₁ B hml hT hv
  obtain ⟨rfl, hsz, hP, hD0, hx0⟩ := hv
  have hx := B.exec
  have hb := B.bytes
  have hr := B.returns
  have G := E.2.1
  have hown : s.vm.findClass cn_IP = some m.cls := findClass_of_methodNamed B.named
  have hlocks := B.notSynchronized
  have hK := va_K.moved hx0.1.alike E.2.2.1
  have hf_IP : ∀ w99 ∈ u_ws cn_IP ft_IP 8, w99.before ([.ref ip, .ref pl, .int (nI ch)] : List Value).toArray s = true := fun w99 h99 => gw.at G hx0 (fw_IP w99 h99) (fo_IP w99 h99) _
  have hf_PL : ∀ w99 ∈ u_ws cn_PL ft_PL 3, w99.before ([.ref ip, .ref pl, .int (nI ch)] : List Value).toArray s = true := fun w99 h99 => gw.at G hx0 (fw_PL w99 h99) (fo_PL w99 h99) _
  subst hsz
  have hA0 := cx_new hD0 hx0.2.1
  have hD := hD0.self (sz := s.heap.size)
  generalize hAe : va_A [(ip, .inr (5, [.ref im, .ref ie, .ref is, .ref iy, .ref ii, .int mc0, .int mx0, .int ix])), (ie, .inl (cI, 4, .inl (nf ek))), (pl, .inr (1, [.ref pa, .int (nI ct), .int (nI mo)])), (pa, .inl (cI, pz, .inl pf))] s.heap.size = A at hD hA0 ⊢
  have hA : ∀ q : Nat, s.heap.size ≤ q → A q := fun q h => by rw [← hAe]; exact Or.inr h
  have hS : va_S A s.heap s.heap [] := va_S.rf
  have hl := lv_entry ([.ref ip, .ref pl, .int (nI ch)]) (n := 4) (Nat.le_of_ble_eq_true rfl)
  rw [lg_entry_eq]
  generalize (lg_sl ([.ref ip, .ref pl, .int (nI ch)]) ++ List.replicate (4 - (lg_sl ([.ref ip, .ref pl, .int (nI ch)])).length) Slot.unset).toArray = ls at hl ⊢
  have hl : lv_has ls 4 [(0, .ref ip), (1, .ref pl), (2, .int (nI ch))] := hl
  have hP : va_P D kl [(ip, .inr (5, [.ref im, .ref ie, .ref is, .ref iy, .ref ii, .int mc0, .int mx0, .int ix])), (ie, .inl (cI, 4, .inl (nf ek))), (pl, .inr (1, [.ref pa, .int (nI ct), .int (nI mo)])), (pa, .inl (cI, pz, .inl pf))] s.heap := hP
  have hml : c.maxLocals = 4 := hml
  generalize hQe : tx_Z below (cx_Q D kl A (fun o9 _ w9 => o9 = .returned none ∧ (mbr ch ct (0, ek)).1 ≤ 4 ∧ (∀ j, (mbr ch ct (0, ek)).2 j < 12) ∧ w9 = [(ip, .inr (5, [.ref im, .ref ie, .ref is, .ref iy, .ref ii, .int (nI ((mbr ch ct (0, ek)).1)), .int mx0, .int ix])), (ie, .inl (cI, 4, .inl (nf (mbr ch ct (0, ek)).2))), (pl, .inr (1, [.ref pa, .int (nI ct), .int (nI mo)])), (pa, .inl (cI, pz, .inl pf))])) ([.ref ip, .ref pl, .int (nI ch)] : List Value).toArray s 0 0 A = Q
  refine lv_aload_n hx hb d_IP_findMembers_0 rfl (lv_at hl 0 rfl) ?_
  refine lv_iconst (v := (0 : Int32)) hx hb d_IP_findMembers_1 (by decide) ?_
  refine va_put (D := D) (ci := 5) (v := .int (0 : Int32)) (ty := .int) (C := cn_IP) (T := ft_IP) (N := 8) hx hb hf_IP (fun _ h => h) fy_IP fk_IP fn_IP hown hK hP hD hS 0 rfl rfl 5 (by decide) (gw.at G hx0 mw_144 rfl _) (fun _ h9 => h9) rfl (by decide +kernel) rfl rfl (Nat.le_of_ble_eq_true rfl) d_IP_findMembers_2 (fun H locs hP hD hS => ?_)
  have hP : va_P D kl [(ip, .inr (5, [.ref im, .ref ie, .ref is, .ref iy, .ref ii, .int (0 : Int32), .int mx0, .int ix])), (ie, .inl (cI, 4, .inl (nf ek))), (pl, .inr (1, [.ref pa, .int (nI ct), .int (nI mo)])), (pa, .inl (cI, pz, .inl pf))] H := hP
  have hD : va_D A [(ip, .inr (5, [.ref im, .ref ie, .ref is, .ref iy, .ref ii, .int (0 : Int32), .int mx0, .int ix])), (ie, .inl (cI, 4, .inl (nf ek))), (pl, .inr (1, [.ref pa, .int (nI ct), .int (nI mo)])), (pa, .inl (cI, pz, .inl pf))] := hD
  refine lv_iconst (v := (0 : Int32)) hx hb d_IP_findMembers_5 (by decide) ?_
  refine lv_istore_n (lv' := [(3, .int (0 : Int32)), (0, .ref ip), (1, .ref pl), (2, .int (nI ch))]) hx hb d_IP_findMembers_6 rfl hl (by decide) rfl (fun ls hl => ?_)
  have lp_7 : ∀ (n9 : Nat) (q : Nat) (n2 : Nat) (f2 : Nat → Nat) (ls : Array Slot) (H : Heap) (locs : List Loc), ct - q = n9 → (mbr ch q (0, ek) = (n2, f2)) → (q ≤ ct) → (n2 ≤ 4) → (∀ j, f2 j < 12) → lv_has ls 4 [(3, .int (nI q)), (0, .ref ip), (1, .ref pl), (2, .int (nI ch))] → va_P D kl [(ip, .inr (5, [.ref im, .ref ie, .ref is, .ref iy, .ref ii, .int (nI n2), .int mx0, .int ix])), (ie, .inl (cI, 4, .inl (nf f2))), (pl, .inr (1, [.ref pa, .int (nI ct), .int (nI mo)])), (pa, .inl (cI, pz, .inl pf))] H → va_D A [(ip, .inr (5, [.ref im, .ref ie, .ref is, .ref iy, .ref ii, .int (nI n2), .int mx0, .int ix])), (ie, .inl (cI, 4, .inl (nf f2))), (pl, .inr (1, [.ref pa, .int (nI ct), .int (nI mo)])), (pa, .inl (cI, pz, .inl pf))] → va_S A s.heap H locs → W p l e ({ frames := 1, cells := 0, slots := 0, locals := 21 } : Room) s m ([.ref ip, .ref pl, .int (nI ch)] : List Value).toArray below meth c H locs 0 0 Q (F0 m 7 ls []) := by
    intro n9
    induction n9 using Nat.strongRecOn with
    | ind n9 ih_7 =>
      intro q n2 f2 ls H locs hm_7 hp2 hq hn2 hf2 hl hP hD hS
      refine lv_iload_n hx hb d_IP_findMembers_7 rfl (lv_at hl 0 rfl) ?_
      refine lv_aload_n hx hb d_IP_findMembers_8 rfl (lv_at hl 2 rfl) ?_
      refine va_get (D := D) (ci := 1) (v := .int (nI ct)) (C := cn_PL) (T := ft_PL) (N := 3) hx hb hf_PL (fun _ h => h) hown hK hP 2 rfl rfl 1 (by decide) (gw.at G hx0 mw_46 rfl _) (fun _ h9 => h9) rfl d_IP_findMembers_9 ?_
      refine lv_icmp_ge (tgt := 57) hx hb d_IP_findMembers_12 (by decide) (fun h_1 => ?_) (fun h_1 => ?_)
      · have h_1 : ct ≤ q := (nI_leI (a := ct) (b := q) (by omega) (by omega)).mp h_1
        have ho9 : mbr ch ct (0, ek) = (n2, f2) := by
          have h0 : q = ct := by omega
          exact h0 ▸ hp2
        have e1 : (mbr ch ct (0, ek)).1 = n2 := by rw [ho9]
        have e2 : (mbr ch ct (0, ek)).2 = f2 := by rw [ho9]
        clear hp2 ho9
        subst e1 e2
        rw [← hQe]
        exact tx_mono (fun _ h => tx_Z.of h) (W.vret hx hb hr (fun t ht hW => ⟨⟨[(ip, .inr (5, [.ref im, .ref ie, .ref is, .ref iy, .ref ii, .int (nI ((mbr ch ct (0, ek)).1)), .int mx0, .int ix])), (ie, .inl (cI, 4, .inl (nf ((mbr ch ct (0, ek)).2)))), (pl, .inr (1, [.ref pa, .int (nI ct), .int (nI mo)])), (pa, .inl (cI, pz, .inl pf))], ⟨rfl, hn2, hf2, rfl⟩, by rw [ht]; exact hP.sub [0, 1, 2, 3] rfl, hD.sub [0, 1, 2, 3] (by decide) rfl⟩, hS.F ht⟩) hS.2.2 d_IP_findMembers_57)
      · have h_1 : ¬ (ct ≤ q) := fun z99 => h_1 ((nI_leI (a := ct) (b := q) (by omega) (by omega)).mpr z99)
        refine lv_iload_n hx hb d_IP_findMembers_15 rfl (lv_at hl 3 rfl) ?_
        refine lv_iload_n hx hb d_IP_findMembers_16 rfl (lv_at hl 0 rfl) ?_
        by_cases h_2 : ch.testBit q = true
        · refine cx_call (D := D) (cl := kl) (ws := _) (wc := []) (wr := [(ip, .inr (5, [.ref im, .ref ie, .ref is, .ref iy, .ref ii, .int (nI n2), .int mx0, .int ix])), (ie, .inl (cI, 4, .inl (nf f2))), (pl, .inr (1, [.ref pa, .int (nI ct), .int (nI mo)])), (pa, .inl (cI, pz, .inl pf))]) (tx_runSN (As := [.int (nI ch), .int (nI q)]) (rest := []) hx hb hml hown (c_D_hasBit_y E H.size ch q hch (by omega) h_2) (cx_C (b0 := b0) G hx0 mw_372 mw_1 ny_D_hasBit (by decide)) (gw.at G hx0 mw_558 rfl _) (gw.at G hx0 mw_371 rfl _) (gw.at G hx0 mw_1 rfl _) ⟨cx_blind, (cx_pre (s := s) hx0 hP hD hS hA0 [] rfl rfl (by decide))⟩ rfl rfl hl.1 rfl (lv_room (Nat.le_of_ble_eq_true rfl)) d_IP_findMembers_17 ⟨by decide, by decide⟩) hP hD hS hA [] [0, 1, 2, 3] rfl rfl (by decide) (by decide) (fun v t w1 H locs ht hW9 hp hP hD hS => ?_) (fun x t w1 H locs ht hW9 hp hP hD hS => by obtain ⟨h9, -⟩ := hp; cases h9)
          obtain ⟨h9, rfl⟩ := hp
          cases h9
          refine W.eq (g2 := F0 m 20 ls [.int (1 : Int32)]) rfl ?_
          refine W.widen (k := 0) (n := 0) (by decide) (by decide) ?_
          have hP : va_P D kl [(ip, .inr (5, [.ref im, .ref ie, .ref is, .ref iy, .ref ii, .int (nI n2), .int mx0, .int ix])), (ie, .inl (cI, 4, .inl (nf f2))), (pl, .inr (1, [.ref pa, .int (nI ct), .int (nI mo)])), (pa, .inl (cI, pz, .inl pf))] H := hP
          have hD : va_D A [(ip, .inr (5, [.ref im, .ref ie, .ref is, .ref iy, .ref ii, .int (nI n2), .int mx0, .int ix])), (ie, .inl (cI, 4, .inl (nf f2))), (pl, .inr (1, [.ref pa, .int (nI ct), .int (nI mo)])), (pa, .inl (cI, pz, .inl pf))] := hD
          refine lv_if_eq (tgt := 51) hx hb d_IP_findMembers_20 (by decide) (fun h99 => absurd h99 (by decide)) (fun _ => ?_)
          refine lv_aload_n hx hb d_IP_findMembers_23 rfl (lv_at hl 1 rfl) ?_
          refine va_get (D := D) (ci := 5) (v := .int (nI n2)) (C := cn_IP) (T := ft_IP) (N := 8) hx hb hf_IP (fun _ h => h) hown hK hP 0 rfl rfl 5 (by decide) (gw.at G hx0 mw_144 rfl _) (fun _ h9 => h9) rfl d_IP_findMembers_24 ?_
          refine lv_iconst (v := (4 : Int32)) hx hb d_IP_findMembers_27 (by decide) ?_
          refine lv_icmp_ge (tgt := 51) hx hb d_IP_findMembers_28 (by decide) (fun h_3 => ?_) (fun h_3 => ?_)
          · have h_3 : 4 ≤ n2 := (nI_leI (a := 4) (b := n2) (by omega) (by omega)).mp h_3
            refine lv_iinc (lv' := [(3, .int (nI (q + 1))), (0, .ref ip), (1, .ref pl), (2, .int (nI ch))]) (k := 0) (v := nI (q + 1)) hx hb d_IP_findMembers_51 hl rfl (nI_add q 1) (by decide) rfl (fun ls hl => ?_)
            refine lv_goto (tgt := 7) hx hb d_IP_findMembers_54 (by decide) ?_
            exact ih_7 _ (by omega) (q + 1) n2 f2 ls H locs rfl (mbr_n hp2 (fun z99 => absurd z99.2 (by omega))) (by omega) hn2 hf2 (lv_sub hl [0, 1, 2, 3] rfl) (hP.sub [0, 1, 2, 3] rfl) (hD.sub [0, 1, 2, 3] (by decide) rfl) hS
          · have h_3 : ¬ (4 ≤ n2) := fun z99 => h_3 ((nI_leI (a := 4) (b := n2) (by omega) (by omega)).mpr z99)
            refine lv_aload_n hx hb d_IP_findMembers_31 rfl (lv_at hl 1 rfl) ?_
            refine va_get (D := D) (ci := 5) (v := .ref ie) (C := cn_IP) (T := ft_IP) (N := 8) hx hb hf_IP (fun _ h => h) hown hK hP 0 rfl rfl 1 (by decide) (gw.at G hx0 mw_140 rfl _) (fun _ h9 => h9) rfl d_IP_findMembers_32 ?_
            refine lv_aload_n hx hb d_IP_findMembers_35 rfl (lv_at hl 1 rfl) ?_
            refine va_get (D := D) (ci := 5) (v := .int (nI n2)) (C := cn_IP) (T := ft_IP) (N := 8) hx hb hf_IP (fun _ h => h) hown hK hP 0 rfl rfl 5 (by decide) (gw.at G hx0 mw_144 rfl _) (fun _ h9 => h9) rfl d_IP_findMembers_36 ?_
            refine lv_iload_n hx hb d_IP_findMembers_39 rfl (lv_at hl 0 rfl) ?_
            refine va_iast hx hb hK hP hD hS 1 0 rfl rfl (vp_in_nI (n := n2) (by omega) (by omega)) d_IP_findMembers_40 (fun H locs hP hD hS => ?_)
            rw [nI_clamp (n := n2) (by omega)] at hP hD
            rw [show upd (nf f2) n2 (nI q) = nf (updN f2 n2 q) from nf_upd _ _ _] at hP hD
            have hP : va_P D kl [(ip, .inr (5, [.ref im, .ref ie, .ref is, .ref iy, .ref ii, .int (nI n2), .int mx0, .int ix])), (ie, .inl (cI, 4, .inl (nf (updN f2 n2 q)))), (pl, .inr (1, [.ref pa, .int (nI ct), .int (nI mo)])), (pa, .inl (cI, pz, .inl pf))] H := hP
            have hD : va_D A [(ip, .inr (5, [.ref im, .ref ie, .ref is, .ref iy, .ref ii, .int (nI n2), .int mx0, .int ix])), (ie, .inl (cI, 4, .inl (nf (updN f2 n2 q)))), (pl, .inr (1, [.ref pa, .int (nI ct), .int (nI mo)])), (pa, .inl (cI, pz, .inl pf))] := hD
            refine lv_aload_n hx hb d_IP_findMembers_41 rfl (lv_at hl 1 rfl) ?_
            refine lv_dup hx hb d_IP_findMembers_42 rfl ?_
            refine va_get (D := D) (ci := 5) (v := .int (nI n2)) (C := cn_IP) (T := ft_IP) (N := 8) hx hb hf_IP (fun _ h => h) hown hK hP 0 rfl rfl 5 (by decide) (gw.at G hx0 mw_144 rfl _) (fun _ h9 => h9) rfl d_IP_findMembers_43 ?_
            refine lv_iconst (v := (1 : Int32)) hx hb d_IP_findMembers_46 (by decide) ?_
            refine lv_iadd hx hb d_IP_findMembers_47 ?_
            refine tp_i (y := nI (n2 + 1)) (nI_add n2 1) ?_
            refine va_put (D := D) (ci := 5) (v := .int (nI (n2 + 1))) (ty := .int) (C := cn_IP) (T := ft_IP) (N := 8) hx hb hf_IP (fun _ h => h) fy_IP fk_IP fn_IP hown hK hP hD hS 0 rfl rfl 5 (by decide) (gw.at G hx0 mw_144 rfl _) (fun _ h9 => h9) rfl (by decide +kernel) rfl rfl (Nat.le_of_ble_eq_true rfl) d_IP_findMembers_48 (fun H locs hP hD hS => ?_)
            have hP : va_P D kl [(ip, .inr (5, [.ref im, .ref ie, .ref is, .ref iy, .ref ii, .int (nI (n2 + 1)), .int mx0, .int ix])), (ie, .inl (cI, 4, .inl (nf (updN f2 n2 q)))), (pl, .inr (1, [.ref pa, .int (nI ct), .int (nI mo)])), (pa, .inl (cI, pz, .inl pf))] H := hP
            have hD : va_D A [(ip, .inr (5, [.ref im, .ref ie, .ref is, .ref iy, .ref ii, .int (nI (n2 + 1)), .int mx0, .int ix])), (ie, .inl (cI, 4, .inl (nf (updN f2 n2 q)))), (pl, .inr (1, [.ref pa, .int (nI ct), .int (nI mo)])), (pa, .inl (cI, pz, .inl pf))] := hD
            refine lv_iinc (lv' := [(3, .int (nI (q + 1))), (0, .ref ip), (1, .ref pl), (2, .int (nI ch))]) (k := 0) (v := nI (q + 1)) hx hb d_IP_findMembers_51 hl rfl (nI_add q 1) (by decide) rfl (fun ls hl => ?_)
            refine lv_goto (tgt := 7) hx hb d_IP_findMembers_54 (by decide) ?_
            exact ih_7 _ (by omega) (q + 1) (n2 + 1) (updN f2 n2 q) ls H locs rfl (mbr_y hp2 h_2 (by omega)) (by omega) (by omega) (updN_lt hf2 (by omega)) (lv_sub hl [0, 1, 2, 3] rfl) (hP.sub [0, 1, 2, 3] rfl) (hD.sub [0, 1, 2, 3] (by decide) rfl) hS
        · refine cx_call (D := D) (cl := kl) (ws := _) (wc := []) (wr := [(ip, .inr (5, [.ref im, .ref ie, .ref is, .ref iy, .ref ii, .int (nI n2), .int mx0, .int ix])), (ie, .inl (cI, 4, .inl (nf f2))), (pl, .inr (1, [.ref pa, .int (nI ct), .int (nI mo)])), (pa, .inl (cI, pz, .inl pf))]) (tx_runSN (As := [.int (nI ch), .int (nI q)]) (rest := []) hx hb hml hown (c_D_hasBit_n E H.size ch q hch (by omega) h_2) (cx_C (b0 := b0) G hx0 mw_372 mw_1 ny_D_hasBit (by decide)) (gw.at G hx0 mw_558 rfl _) (gw.at G hx0 mw_371 rfl _) (gw.at G hx0 mw_1 rfl _) ⟨cx_blind, (cx_pre (s := s) hx0 hP hD hS hA0 [] rfl rfl (by decide))⟩ rfl rfl hl.1 rfl (lv_room (Nat.le_of_ble_eq_true rfl)) d_IP_findMembers_17 ⟨by decide, by decide⟩) hP hD hS hA [] [0, 1, 2, 3] rfl rfl (by decide) (by decide) (fun v t w1 H locs ht hW9 hp hP hD hS => ?_) (fun x t w1 H locs ht hW9 hp hP hD hS => by obtain ⟨h9, -⟩ := hp; cases h9)
          obtain ⟨h9, rfl⟩ := hp
          cases h9
          refine W.eq (g2 := F0 m 20 ls [.int (0 : Int32)]) rfl ?_
          refine W.widen (k := 0) (n := 0) (by decide) (by decide) ?_
          have hP : va_P D kl [(ip, .inr (5, [.ref im, .ref ie, .ref is, .ref iy, .ref ii, .int (nI n2), .int mx0, .int ix])), (ie, .inl (cI, 4, .inl (nf f2))), (pl, .inr (1, [.ref pa, .int (nI ct), .int (nI mo)])), (pa, .inl (cI, pz, .inl pf))] H := hP
          have hD : va_D A [(ip, .inr (5, [.ref im, .ref ie, .ref is, .ref iy, .ref ii, .int (nI n2), .int mx0, .int ix])), (ie, .inl (cI, 4, .inl (nf f2))), (pl, .inr (1, [.ref pa, .int (nI ct), .int (nI mo)])), (pa, .inl (cI, pz, .inl pf))] := hD
          refine lv_if_eq (tgt := 51) hx hb d_IP_findMembers_20 (by decide) (fun _ => ?_) (fun h99 => absurd h99 (by decide))
          refine lv_iinc (lv' := [(3, .int (nI (q + 1))), (0, .ref ip), (1, .ref pl), (2, .int (nI ch))]) (k := 0) (v := nI (q + 1)) hx hb d_IP_findMembers_51 hl rfl (nI_add q 1) (by decide) rfl (fun ls hl => ?_)
          refine lv_goto (tgt := 7) hx hb d_IP_findMembers_54 (by decide) ?_
          exact ih_7 _ (by omega) (q + 1) n2 f2 ls H locs rfl (mbr_n hp2 (fun z99 => h_2 z99.1)) (by omega) hn2 hf2 (lv_sub hl [0, 1, 2, 3] rfl) (hP.sub [0, 1, 2, 3] rfl) (hD.sub [0, 1, 2, 3] (by decide) rfl) hS
  exact lp_7 _ 0 0 ek ls H locs rfl rfl (Nat.zero_le _) (Nat.zero_le _) hek (lv_sub hl [0, 1, 2, 3] rfl) (hP.sub [0, 1, 2, 3] rfl) (hD.sub [0, 1, 2, 3] (by decide) rfl) hS

set_option maxHeartbeats 4000000 in
set_option maxRecDepth 100000 in
theorem c_IP_restOf {l : Launch} {s0 : State} {b0 : Addr} {D : va_G} {cI cJ cZ : ClassId} {tC tS : Nat} (E : gE l s0 b0 D cI cJ cZ tC tS) (sz : Nat) (ip : Nat) (im : Nat) (ie : Nat) (is : Nat) (iy : Nat) (ii : Nat) (mc0 : Int32) (mx0 : Int32) (ix : Int32) (sh : Int64) : cx_M l s0 D kl y_IP_restOf b_IP_restOf 4 (some .int) ({ frames := 0, cells := 0, slots := 0, locals := 0 } : Room) 0 0 [.ref ip, .long sh] [(ip, .inr (5, [.ref im, .ref ie, .ref is, .ref iy, .ref ii, .int mc0, .int mx0, .int ix]))] sz (fun o9 _ w9 => o9 = .returned (some (.int (rsf ix sh))) ∧ w9 = [(ip, .inr (5, [.ref im, .ref ie, .ref is, .ref iy, .ref ii, .int mc0, .int mx0, .int ix]))]) := by
  refine tx_ofW (cc := b_IP_restOf) (maxL := 4) (ret := (some .int)) (by decide) rfl ?_
  intro p e s m args below meth c s₁ B hml hT hv
  obtain ⟨rfl, hsz, hP, hD0, hx0⟩ := hv
  have hx := B.exec
  have hb := B.bytes
  have hr := B.returns
  have G := E.2.1
  have hown : s.vm.findClass cn_IP = some m.cls := findClass_of_methodNamed B.named
  have hlocks := B.notSynchronized
  have hK := va_K.moved hx0.1.alike E.2.2.1
  have hf_IP : ∀ w99 ∈ u_ws cn_IP ft_IP 8, w99.before ([.ref ip, .long sh] : List Value).toArray s = true := fun w99 h99 => gw.at G hx0 (fw_IP w99 h99) (fo_IP w99 h99) _
  subst hsz
  have hA0 := cx_new hD0 hx0.2.1
  have hD := hD0.self (sz := s.heap.size)
  generalize hAe : va_A [(ip, .inr (5, [.ref im, .ref ie, .ref is, .ref iy, .ref ii, .int mc0, .int mx0, .int ix]))] s.heap.size = A at hD hA0 ⊢
  have hA : ∀ q : Nat, s.heap.size ≤ q → A q := fun q h => by rw [← hAe]; exact Or.inr h
  have hS : va_S A s.heap s.heap [] := va_S.rf
  have hl := lv_entry ([.ref ip, .long sh]) (n := 4) (Nat.le_of_ble_eq_true rfl)
  rw [lg_entry_eq]
  generalize (lg_sl ([.ref ip, .long sh]) ++ List.replicate (4 - (lg_sl ([.ref ip, .long sh])).length) Slot.unset).toArray = ls at hl ⊢
  have hl : lv_has ls 4 [(0, .ref ip), (1, .long sh)] := hl
  have hP : va_P D kl [(ip, .inr (5, [.ref im, .ref ie, .ref is, .ref iy, .ref ii, .int mc0, .int mx0, .int ix]))] s.heap := hP
  have hml : c.maxLocals = 4 := hml
  refine lv_aload_n hx hb d_IP_restOf_0 rfl (lv_at hl 0 rfl) ?_
  refine va_get (D := D) (ci := 5) (v := .int ix) (C := cn_IP) (T := ft_IP) (N := 8) hx hb hf_IP (fun _ h => h) hown hK hP 0 rfl rfl 7 (by decide) (gw.at G hx0 mw_146 rfl _) (fun _ h9 => h9) rfl d_IP_restOf_1 ?_
  refine lv_if_ne (tgt := 11) hx hb d_IP_restOf_4 (by decide) (fun h_1 => ?_) (fun h_1 => ?_)
  · refine lv_lload_n hx hb d_IP_restOf_11 rfl (lv_at hl 1 rfl) ?_
    refine lv_aload_n hx hb d_IP_restOf_12 rfl (lv_at hl 0 rfl) ?_
    refine va_get (D := D) (ci := 5) (v := .int ix) (C := cn_IP) (T := ft_IP) (N := 8) hx hb hf_IP (fun _ h => h) hown hK hP 0 rfl rfl 7 (by decide) (gw.at G hx0 mw_146 rfl _) (fun _ h9 => h9) rfl d_IP_restOf_13 ?_
    refine lv_i2l (v := ix.toInt64) hx hb d_IP_restOf_16 rfl ?_
    refine lv_lrem hx hb d_IP_restOf_17 (i64_ne h_1) ?_
    refine lv_l2i (v := (sh - sh / ix.toInt64 * ix.toInt64).toInt32) hx hb d_IP_restOf_18 rfl ?_
    refine tp_i (y := rs0 ix sh) (by unfold rs0; rw [if_neg h_1]) ?_
    refine lv_istore_n (lv' := [(3, .int (rs0 ix sh)), (0, .ref ip), (1, .long sh)]) hx hb d_IP_restOf_19 rfl hl (by decide) rfl (fun ls hl => ?_)
    refine lv_iload_n hx hb d_IP_restOf_20 rfl (lv_at hl 0 rfl) ?_
    refine lv_if_ge (tgt := 33) hx hb d_IP_restOf_21 (by decide) (fun h_2 => ?_) (fun h_2 => ?_)
    · refine lv_iload_n hx hb d_IP_restOf_33 rfl (lv_at hl 0 rfl) ?_
      exact tx_mono (fun _ h => tx_Z.of h) (W.iret (v := rs0 ix sh) hx hb hr (fun t ht hW => ⟨⟨[(ip, .inr (5, [.ref im, .ref ie, .ref is, .ref iy, .ref ii, .int mc0, .int mx0, .int ix]))], ⟨(by unfold rsf; rw [if_neg (Int32.not_lt.mpr h_2)]), rfl⟩, by rw [ht]; exact hP.sub [0] rfl, hD.sub [0] (by decide) rfl⟩, hS.F ht⟩) hS.2.2 d_IP_restOf_34)
    · refine lv_iload_n hx hb d_IP_restOf_24 rfl (lv_at hl 0 rfl) ?_
      refine lv_aload_n hx hb d_IP_restOf_25 rfl (lv_at hl 1 rfl) ?_
      refine va_get (D := D) (ci := 5) (v := .int ix) (C := cn_IP) (T := ft_IP) (N := 8) hx hb hf_IP (fun _ h => h) hown hK hP 0 rfl rfl 7 (by decide) (gw.at G hx0 mw_146 rfl _) (fun _ h9 => h9) rfl d_IP_restOf_26 ?_
      refine lv_iadd hx hb d_IP_restOf_29 ?_
      refine lv_goto (tgt := 34) hx hb d_IP_restOf_30 (by decide) ?_
      exact tx_mono (fun _ h => tx_Z.of h) (W.iret (v := (rs0 ix sh) + ix) hx hb hr (fun t ht hW => ⟨⟨[(ip, .inr (5, [.ref im, .ref ie, .ref is, .ref iy, .ref ii, .int mc0, .int mx0, .int ix]))], ⟨(by unfold rsf; rw [if_pos (Int32.not_le.mp h_2)]), rfl⟩, by rw [ht]; exact hP.sub [0] rfl, hD.sub [0] (by decide) rfl⟩, hS.F ht⟩) hS.2.2 d_IP_restOf_34)
  · refine lv_iconst (v := (0 : Int32)) hx hb d_IP_restOf_7 (by decide) ?_
    refine lv_goto (tgt := 19) hx hb d_IP_restOf_8 (by decide) ?_
    refine tp_i (y := rs0 ix sh) (by unfold rs0; rw [if_pos h_1]) ?_
    refine lv_istore_n (lv' := [(3, .int (rs0 ix sh)), (0, .ref ip), (1, .long sh)]) hx hb d_IP_restOf_19 rfl hl (by decide) rfl (fun ls hl => ?_)
    refine lv_iload_n hx hb d_IP_restOf_20 rfl (lv_at hl 0 rfl) ?_
    refine lv_if_ge (tgt := 33) hx hb d_IP_restOf_21 (by decide) (fun h_3 => ?_) (fun h_3 => ?_)
    · refine lv_iload_n hx hb d_IP_restOf_33 rfl (lv_at hl 0 rfl) ?_
      exact tx_mono (fun _ h => tx_Z.of h) (W.iret (v := rs0 ix sh) hx hb hr (fun t ht hW => ⟨⟨[(ip, .inr (5, [.ref im, .ref ie, .ref is, .ref iy, .ref ii, .int mc0, .int mx0, .int ix]))], ⟨(by unfold rsf; rw [if_neg (Int32.not_lt.mpr h_3)]), rfl⟩, by rw [ht]; exact hP.sub [0] rfl, hD.sub [0] (by decide) rfl⟩, hS.F ht⟩) hS.2.2 d_IP_restOf_34)
    · refine lv_iload_n hx hb d_IP_restOf_24 rfl (lv_at hl 0 rfl) ?_
      refine lv_aload_n hx hb d_IP_restOf_25 rfl (lv_at hl 1 rfl) ?_
      refine va_get (D := D) (ci := 5) (v := .int ix) (C := cn_IP) (T := ft_IP) (N := 8) hx hb hf_IP (fun _ h => h) hown hK hP 0 rfl rfl 7 (by decide) (gw.at G hx0 mw_146 rfl _) (fun _ h9 => h9) rfl d_IP_restOf_26 ?_
      refine lv_iadd hx hb d_IP_restOf_29 ?_
      refine lv_goto (tgt := 34) hx hb d_IP_restOf_30 (by decide) ?_
      exact tx_mono (fun _ h => tx_Z.of h) (W.iret (v := (rs0 ix sh) + ix) hx hb hr (fun t ht hW => ⟨⟨[(ip, .inr (5, [.ref im, .ref ie, .ref is, .ref iy, .ref ii, .int mc0, .int mx0, .int ix]))], ⟨(by unfold rsf; rw [if_pos (Int32.not_le.mp h_3)]), rfl⟩, by rw [ht]; exact hP.sub [0] rfl, hD.sub [0] (by decide) rfl⟩, hS.F ht⟩) hS.2.2 d_IP_restOf_34)

set_option maxHeartbeats 4000000 in
set_option maxRecDepth 100000 in
theorem c_IP_inc_y {l : Launch} {s0 : State} {b0 : Addr} {D : va_G} {cI cJ cZ : ClassId} {tC tS : Nat} (E : gE l s0 b0 D cI cJ cZ tC tS) (sz : Nat) (ip : Nat) (im : Nat) (ie : Nat) (is : Nat) (iy : Nat) (ii : Nat) (mc0 : Int32) (mx : Nat) (ix : Int32) (xf : Nat → Int32) (mm : Int32) (hmx : mx ≤ 12) (h : imC mx xf mm) : cx_M l s0 D kl y_IP_includeMix b_IP_includeMix 3 none ({ frames := 0, cells := 0, slots := 0, locals := 0 } : Room) 0 0 [.ref ip, .int mm] [(ip, .inr (5, [.ref im, .ref ie, .ref is, .ref iy, .ref ii, .int mc0, .int (nI mx), .int ix])), (iy, .inl (cI, 12, .inl xf))] sz (fun o9 _ w9 => o9 = .returned none ∧ w9 = [(ip, .inr (5, [.ref im, .ref ie, .ref is, .ref iy, .ref ii, .int mc0, .int (nI (mx + 1)), .int ix])), (iy, .inl (cI, 12, .inl (upd xf mx mm)))]) := by
  refine tx_ofW (cc := b_IP_includeMix) (maxL := 3) (ret := none) (by decide) rfl ?_
  intro p e s m args below meth c s₁ B hml hT hv
  obtain ⟨rfl, hsz, hP, hD0, hx0⟩ := hv
  have hx := B.exec
  have hb := B.bytes
  have hr := B.returns
  have G := E.2.1
  have hown : s.vm.findClass cn_IP = some m.cls := findClass_of_methodNamed B.named
  have hlocks := B.notSynchronized
  have hK := va_K.moved hx0.1.alike E.2.2.1
  have hf_IP : ∀ w99 ∈ u_ws cn_IP ft_IP 8, w99.before ([.ref ip, .int mm] : List Value).toArray s = true := fun w99 h99 => gw.at G hx0 (fw_IP w99 h99) (fo_IP w99 h99) _
  subst hsz
  have hA0 := cx_new hD0 hx0.2.1
  have hD := hD0.self (sz := s.heap.size)
  generalize hAe : va_A [(ip, .inr (5, [.ref im, .ref ie, .ref is, .ref iy, .ref ii, .int mc0, .int (nI mx), .int ix])), (iy, .inl (cI, 12, .inl xf))] s.heap.size = A at hD hA0 ⊢
  have hA : ∀ q : Nat, s.heap.size ≤ q → A q := fun q h => by rw [← hAe]; exact Or.inr h
  have hS : va_S A s.heap s.heap [] := va_S.rf
  have hl := lv_entry ([.ref ip, .int mm]) (n := 3) (Nat.le_of_ble_eq_true rfl)
  rw [lg_entry_eq]
  generalize (lg_sl ([.ref ip, .int mm]) ++ List.replicate (3 - (lg_sl ([.ref ip, .int mm])).length) Slot.unset).toArray = ls at hl ⊢
  have hl : lv_has ls 3 [(0, .ref ip), (1, .int mm)] := hl
  have hP : va_P D kl [(ip, .inr (5, [.ref im, .ref ie, .ref is, .ref iy, .ref ii, .int mc0, .int (nI mx), .int ix])), (iy, .inl (cI, 12, .inl xf))] s.heap := hP
  have hml : c.maxLocals = 3 := hml
  have hm12 := h.2
  generalize hQe : tx_Z below (cx_Q D kl A (fun o9 _ w9 => o9 = .returned none ∧ w9 = [(ip, .inr (5, [.ref im, .ref ie, .ref is, .ref iy, .ref ii, .int mc0, .int (nI (mx + 1)), .int ix])), (iy, .inl (cI, 12, .inl (upd xf mx mm)))])) ([.ref ip, .int mm] : List Value).toArray s 0 0 A = Q
  refine lv_iconst (v := (0 : Int32)) hx hb d_IP_includeMix_0 (by decide) ?_
  refine lv_istore_n (lv' := [(2, .int (0 : Int32)), (0, .ref ip), (1, .int mm)]) hx hb d_IP_includeMix_1 rfl hl (by decide) rfl (fun ls hl => ?_)
  have lp_2 : ∀ (n9 : Nat) (q : Nat) (ls : Array Slot) (H : Heap) (locs : List Loc), mx - q = n9 → (∀ k, k < q → ¬ xf k = mm) → (q ≤ mx) → lv_has ls 3 [(2, .int (nI q)), (0, .ref ip), (1, .int mm)] → va_P D kl [(ip, .inr (5, [.ref im, .ref ie, .ref is, .ref iy, .ref ii, .int mc0, .int (nI mx), .int ix])), (iy, .inl (cI, 12, .inl xf))] H → va_D A [(ip, .inr (5, [.ref im, .ref ie, .ref is, .ref iy, .ref ii, .int mc0, .int (nI mx), .int ix])), (iy, .inl (cI, 12, .inl xf))] → va_S A s.heap H locs → W p l e ({ frames := 0, cells := 0, slots := 0, locals := 0 } : Room) s m ([.ref ip, .int mm] : List Value).toArray below meth c H locs 0 0 Q (F0 m 2 ls []) := by
    intro n9
    induction n9 using Nat.strongRecOn with
    | ind n9 ih_2 =>
      intro q ls H locs hm_2 hi hq hl hP hD hS
      refine lv_iload_n hx hb d_IP_includeMix_2 rfl (lv_at hl 0 rfl) ?_
      refine lv_aload_n hx hb d_IP_includeMix_3 rfl (lv_at hl 1 rfl) ?_
      refine va_get (D := D) (ci := 5) (v := .int (nI mx)) (C := cn_IP) (T := ft_IP) (N := 8) hx hb hf_IP (fun _ h => h) hown hK hP 0 rfl rfl 6 (by decide) (gw.at G hx0 mw_145 rfl _) (fun _ h9 => h9) rfl d_IP_includeMix_4 ?_
      refine lv_icmp_ge (tgt := 27) hx hb d_IP_includeMix_7 (by decide) (fun h_1 => ?_) (fun h_1 => ?_)
      · have h_1 : mx ≤ q := (nI_leI (a := mx) (b := q) (by omega) (by omega)).mp h_1
        refine lv_aload_n hx hb d_IP_includeMix_27 rfl (lv_at hl 1 rfl) ?_
        refine va_get (D := D) (ci := 5) (v := .int (nI mx)) (C := cn_IP) (T := ft_IP) (N := 8) hx hb hf_IP (fun _ h => h) hown hK hP 0 rfl rfl 6 (by decide) (gw.at G hx0 mw_145 rfl _) (fun _ h9 => h9) rfl d_IP_includeMix_28 ?_
        refine lv_bipush (v := (12 : Int32)) hx hb d_IP_includeMix_31 (by decide) ?_
        refine lv_icmp_ge (tgt := 56) hx hb d_IP_includeMix_33 (by decide) (fun h99 => absurd h99 (fun z99 => absurd ((nI_leI (a := 12) (b := mx) (by omega) (by omega)).mp z99) (by omega))) (fun _ => ?_)
        refine lv_aload_n hx hb d_IP_includeMix_36 rfl (lv_at hl 1 rfl) ?_
        refine va_get (D := D) (ci := 5) (v := .ref iy) (C := cn_IP) (T := ft_IP) (N := 8) hx hb hf_IP (fun _ h => h) hown hK hP 0 rfl rfl 3 (by decide) (gw.at G hx0 mw_142 rfl _) (fun _ h9 => h9) rfl d_IP_includeMix_37 ?_
        refine lv_aload_n hx hb d_IP_includeMix_40 rfl (lv_at hl 1 rfl) ?_
        refine va_get (D := D) (ci := 5) (v := .int (nI mx)) (C := cn_IP) (T := ft_IP) (N := 8) hx hb hf_IP (fun _ h => h) hown hK hP 0 rfl rfl 6 (by decide) (gw.at G hx0 mw_145 rfl _) (fun _ h9 => h9) rfl d_IP_includeMix_41 ?_
        refine lv_iload_n hx hb d_IP_includeMix_44 rfl (lv_at hl 2 rfl) ?_
        refine va_iast hx hb hK hP hD hS 1 0 rfl rfl (vp_in_nI (n := mx) (by omega) (by omega)) d_IP_includeMix_45 (fun H locs hP hD hS => ?_)
        rw [nI_clamp (n := mx) (by omega)] at hP hD
        have hP : va_P D kl [(ip, .inr (5, [.ref im, .ref ie, .ref is, .ref iy, .ref ii, .int mc0, .int (nI mx), .int ix])), (iy, .inl (cI, 12, .inl (upd xf mx mm)))] H := hP
        have hD : va_D A [(ip, .inr (5, [.ref im, .ref ie, .ref is, .ref iy, .ref ii, .int mc0, .int (nI mx), .int ix])), (iy, .inl (cI, 12, .inl (upd xf mx mm)))] := hD
        refine lv_aload_n hx hb d_IP_includeMix_46 rfl (lv_at hl 1 rfl) ?_
        refine lv_dup hx hb d_IP_includeMix_47 rfl ?_
        refine va_get (D := D) (ci := 5) (v := .int (nI mx)) (C := cn_IP) (T := ft_IP) (N := 8) hx hb hf_IP (fun _ h => h) hown hK hP 0 rfl rfl 6 (by decide) (gw.at G hx0 mw_145 rfl _) (fun _ h9 => h9) rfl d_IP_includeMix_48 ?_
        refine lv_iconst (v := (1 : Int32)) hx hb d_IP_includeMix_51 (by decide) ?_
        refine lv_iadd hx hb d_IP_includeMix_52 ?_
        refine tp_i (y := nI (mx + 1)) (nI_add mx 1) ?_
        refine va_put (D := D) (ci := 5) (v := .int (nI (mx + 1))) (ty := .int) (C := cn_IP) (T := ft_IP) (N := 8) hx hb hf_IP (fun _ h => h) fy_IP fk_IP fn_IP hown hK hP hD hS 0 rfl rfl 6 (by decide) (gw.at G hx0 mw_145 rfl _) (fun _ h9 => h9) rfl (by decide +kernel) rfl rfl (Nat.le_of_ble_eq_true rfl) d_IP_includeMix_53 (fun H locs hP hD hS => ?_)
        have hP : va_P D kl [(ip, .inr (5, [.ref im, .ref ie, .ref is, .ref iy, .ref ii, .int mc0, .int (nI (mx + 1)), .int ix])), (iy, .inl (cI, 12, .inl (upd xf mx mm)))] H := hP
        have hD : va_D A [(ip, .inr (5, [.ref im, .ref ie, .ref is, .ref iy, .ref ii, .int mc0, .int (nI (mx + 1)), .int ix])), (iy, .inl (cI, 12, .inl (upd xf mx mm)))] := hD
        rw [← hQe]
        exact tx_mono (fun _ h => tx_Z.of h) (W.vret hx hb hr (fun t ht hW => ⟨⟨[(ip, .inr (5, [.ref im, .ref ie, .ref is, .ref iy, .ref ii, .int mc0, .int (nI (mx + 1)), .int ix])), (iy, .inl (cI, 12, .inl (upd xf mx mm)))], ⟨rfl, rfl⟩, by rw [ht]; exact hP.sub [0, 1] rfl, hD.sub [0, 1] (by decide) rfl⟩, hS.F ht⟩) hS.2.2 d_IP_includeMix_56)
      · have h_1 : ¬ (mx ≤ q) := fun z99 => h_1 ((nI_leI (a := mx) (b := q) (by omega) (by omega)).mpr z99)
        refine lv_aload_n hx hb d_IP_includeMix_10 rfl (lv_at hl 1 rfl) ?_
        refine va_get (D := D) (ci := 5) (v := .ref iy) (C := cn_IP) (T := ft_IP) (N := 8) hx hb hf_IP (fun _ h => h) hown hK hP 0 rfl rfl 3 (by decide) (gw.at G hx0 mw_142 rfl _) (fun _ h9 => h9) rfl d_IP_includeMix_11 ?_
        refine lv_iload_n hx hb d_IP_includeMix_14 rfl (lv_at hl 0 rfl) ?_
        refine va_iald hx hb hK hP 1 0 rfl rfl (vp_in_nI (n := q) (by omega) (by omega)) d_IP_includeMix_15 ?_
        refine tp_i (y := xf q) (congrArg xf (nI_clamp (n := q) (by omega))) ?_
        refine lv_iload_n hx hb d_IP_includeMix_16 rfl (lv_at hl 2 rfl) ?_
        refine lv_icmp_ne (tgt := 21) hx hb d_IP_includeMix_17 (by decide) (fun _ => ?_) (fun h99 => absurd h99 (h.1 q (by omega)))
        refine lv_iinc (lv' := [(2, .int (nI (q + 1))), (0, .ref ip), (1, .int mm)]) (k := 0) (v := nI (q + 1)) hx hb d_IP_includeMix_21 hl rfl (nI_add q 1) (by decide) rfl (fun ls hl => ?_)
        refine lv_goto (tgt := 2) hx hb d_IP_includeMix_24 (by decide) ?_
        exact ih_2 _ (by omega) (q + 1) ls H locs rfl (fun k hk => h.1 k (by omega)) (by omega) (lv_sub hl [0, 1, 2] rfl) (hP.sub [0, 1] rfl) (hD.sub [0, 1] (by decide) rfl) hS
  exact lp_2 _ 0 ls s.heap [] rfl (fun k hk => absurd hk (Nat.not_lt_zero k)) (Nat.zero_le _) (lv_sub hl [0, 1, 2] rfl) (hP.sub [0, 1] rfl) (hD.sub [0, 1] (by decide) rfl) hS

set_option maxHeartbeats 4000000 in
set_option maxRecDepth 100000 in
theorem c_IP_inc_n {l : Launch} {s0 : State} {b0 : Addr} {D : va_G} {cI cJ cZ : ClassId} {tC tS : Nat} (E : gE l s0 b0 D cI cJ cZ tC tS) (sz : Nat) (ip : Nat) (im : Nat) (ie : Nat) (is : Nat) (iy : Nat) (ii : Nat) (mc0 : Int32) (mx : Nat) (ix : Int32) (xf : Nat → Int32) (mm : Int32) (hmx : mx ≤ 12) (h : ¬ imC mx xf mm) : cx_M l s0 D kl y_IP_includeMix b_IP_includeMix 3 none ({ frames := 0, cells := 0, slots := 0, locals := 0 } : Room) 0 0 [.ref ip, .int mm] [(ip, .inr (5, [.ref im, .ref ie, .ref is, .ref iy, .ref ii, .int mc0, .int (nI mx), .int ix])), (iy, .inl (cI, 12, .inl xf))] sz (fun o9 _ w9 => o9 = .returned none ∧ w9 = [(ip, .inr (5, [.ref im, .ref ie, .ref is, .ref iy, .ref ii, .int mc0, .int (nI mx), .int ix])), (iy, .inl (cI, 12, .inl xf))]) := by
  refine tx_ofW (cc := b_IP_includeMix) (maxL := 3) (ret := none) (by decide) rfl ?_
  intro p e s m args below meth c s₁ B hml hT hv
  obtain ⟨rfl, hsz, hP, hD0, hx0⟩ := hv
  have hx := B.exec
  have hb := B.bytes
  have hr := B.returns
  have G := E.2.1
  have hown : s.vm.findClass cn_IP = some m.cls := findClass_of_methodNamed B.named
  have hlocks := B.notSynchronized
  have hK := va_K.moved hx0.1.alike E.2.2.1
  have hf_IP : ∀ w99 ∈ u_ws cn_IP ft_IP 8, w99.before ([.ref ip, .int mm] : List Value).toArray s = true := fun w99 h99 => gw.at G hx0 (fw_IP w99 h99) (fo_IP w99 h99) _
  subst hsz
  have hA0 := cx_new hD0 hx0.2.1
  have hD := hD0.self (sz := s.heap.size)
  generalize hAe : va_A [(ip, .inr (5, [.ref im, .ref ie, .ref is, .ref iy, .ref ii, .int mc0, .int (nI mx), .int ix])), (iy, .inl (cI, 12, .inl xf))] s.heap.size = A at hD hA0 ⊢
  have hA : ∀ q : Nat, s.heap.size ≤ q → A q := fun q h => by rw [← hAe]; exact Or.inr h
  have hS : va_S A s.heap s.heap [] := va_S.rf
  have hl := lv_entry ([.ref ip, .int mm]) (n := 3) (Nat.le_of_ble_eq_true rfl)
  rw [lg_entry_eq]
  generalize (lg_sl ([.ref ip, .int mm]) ++ List.replicate (3 - (lg_sl ([.ref ip, .int mm])).length) Slot.unset).toArray = ls at hl ⊢
  have hl : lv_has ls 3 [(0, .ref ip), (1, .int mm)] := hl
  have hP : va_P D kl [(ip, .inr (5, [.ref im, .ref ie, .ref is, .ref iy, .ref ii, .int mc0, .int (nI mx), .int ix])), (iy, .inl (cI, 12, .inl xf))] s.heap := hP
  have hml : c.maxLocals = 3 := hml
  generalize hQe : tx_Z below (cx_Q D kl A (fun o9 _ w9 => o9 = .returned none ∧ w9 = [(ip, .inr (5, [.ref im, .ref ie, .ref is, .ref iy, .ref ii, .int mc0, .int (nI mx), .int ix])), (iy, .inl (cI, 12, .inl xf))])) ([.ref ip, .int mm] : List Value).toArray s 0 0 A = Q
  refine lv_iconst (v := (0 : Int32)) hx hb d_IP_includeMix_0 (by decide) ?_
  refine lv_istore_n (lv' := [(2, .int (0 : Int32)), (0, .ref ip), (1, .int mm)]) hx hb d_IP_includeMix_1 rfl hl (by decide) rfl (fun ls hl => ?_)
  have lp_2 : ∀ (n9 : Nat) (q : Nat) (ls : Array Slot) (H : Heap) (locs : List Loc), mx - q = n9 → (∀ k, k < q → ¬ xf k = mm) → (q ≤ mx) → lv_has ls 3 [(2, .int (nI q)), (0, .ref ip), (1, .int mm)] → va_P D kl [(ip, .inr (5, [.ref im, .ref ie, .ref is, .ref iy, .ref ii, .int mc0, .int (nI mx), .int ix])), (iy, .inl (cI, 12, .inl xf))] H → va_D A [(ip, .inr (5, [.ref im, .ref ie, .ref is, .ref iy, .ref ii, .int mc0, .int (nI mx), .int ix])), (iy, .inl (cI, 12, .inl xf))] → va_S A s.heap H locs → W p l e ({ frames := 0, cells := 0, slots := 0, locals := 0 } : Room) s m ([.ref ip, .int mm] : List Value).toArray below meth c H locs 0 0 Q (F0 m 2 ls []) := by
    intro n9
    induction n9 using Nat.strongRecOn with
    | ind n9 ih_2 =>
      intro q ls H locs hm_2 hi hq hl hP hD hS
      refine lv_iload_n hx hb d_IP_includeMix_2 rfl (lv_at hl 0 rfl) ?_
      refine lv_aload_n hx hb d_IP_includeMix_3 rfl (lv_at hl 1 rfl) ?_
      refine va_get (D := D) (ci := 5) (v := .int (nI mx)) (C := cn_IP) (T := ft_IP) (N := 8) hx hb hf_IP (fun _ h => h) hown hK hP 0 rfl rfl 6 (by decide) (gw.at G hx0 mw_145 rfl _) (fun _ h9 => h9) rfl d_IP_includeMix_4 ?_
      refine lv_icmp_ge (tgt := 27) hx hb d_IP_includeMix_7 (by decide) (fun h_1 => ?_) (fun h_1 => ?_)
      · have h_1 : mx ≤ q := (nI_leI (a := mx) (b := q) (by omega) (by omega)).mp h_1
        refine lv_aload_n hx hb d_IP_includeMix_27 rfl (lv_at hl 1 rfl) ?_
        refine va_get (D := D) (ci := 5) (v := .int (nI mx)) (C := cn_IP) (T := ft_IP) (N := 8) hx hb hf_IP (fun _ h => h) hown hK hP 0 rfl rfl 6 (by decide) (gw.at G hx0 mw_145 rfl _) (fun _ h9 => h9) rfl d_IP_includeMix_28 ?_
        refine lv_bipush (v := (12 : Int32)) hx hb d_IP_includeMix_31 (by decide) ?_
        refine lv_icmp_ge (tgt := 56) hx hb d_IP_includeMix_33 (by decide) (fun h_2 => ?_) (fun h_2 => ?_)
        · have h_2 : 12 ≤ mx := (nI_leI (a := 12) (b := mx) (by omega) (by omega)).mp h_2
          rw [← hQe]
          exact tx_mono (fun _ h => tx_Z.of h) (W.vret hx hb hr (fun t ht hW => ⟨⟨[(ip, .inr (5, [.ref im, .ref ie, .ref is, .ref iy, .ref ii, .int mc0, .int (nI mx), .int ix])), (iy, .inl (cI, 12, .inl xf))], ⟨rfl, rfl⟩, by rw [ht]; exact hP.sub [0, 1] rfl, hD.sub [0, 1] (by decide) rfl⟩, hS.F ht⟩) hS.2.2 d_IP_includeMix_56)
        · have h_2 : ¬ (12 ≤ mx) := fun z99 => h_2 ((nI_leI (a := 12) (b := mx) (by omega) (by omega)).mpr z99)
          exact absurd ⟨fun k hk => hi k (by omega), by omega⟩ h
      · have h_1 : ¬ (mx ≤ q) := fun z99 => h_1 ((nI_leI (a := mx) (b := q) (by omega) (by omega)).mpr z99)
        refine lv_aload_n hx hb d_IP_includeMix_10 rfl (lv_at hl 1 rfl) ?_
        refine va_get (D := D) (ci := 5) (v := .ref iy) (C := cn_IP) (T := ft_IP) (N := 8) hx hb hf_IP (fun _ h => h) hown hK hP 0 rfl rfl 3 (by decide) (gw.at G hx0 mw_142 rfl _) (fun _ h9 => h9) rfl d_IP_includeMix_11 ?_
        refine lv_iload_n hx hb d_IP_includeMix_14 rfl (lv_at hl 0 rfl) ?_
        refine va_iald hx hb hK hP 1 0 rfl rfl (vp_in_nI (n := q) (by omega) (by omega)) d_IP_includeMix_15 ?_
        refine tp_i (y := xf q) (congrArg xf (nI_clamp (n := q) (by omega))) ?_
        refine lv_iload_n hx hb d_IP_includeMix_16 rfl (lv_at hl 2 rfl) ?_
        refine lv_icmp_ne (tgt := 21) hx hb d_IP_includeMix_17 (by decide) (fun h_3 => ?_) (fun h_3 => ?_)
        · refine lv_iinc (lv' := [(2, .int (nI (q + 1))), (0, .ref ip), (1, .int mm)]) (k := 0) (v := nI (q + 1)) hx hb d_IP_includeMix_21 hl rfl (nI_add q 1) (by decide) rfl (fun ls hl => ?_)
          refine lv_goto (tgt := 2) hx hb d_IP_includeMix_24 (by decide) ?_
          exact ih_2 _ (by omega) (q + 1) ls H locs rfl (fun k hk => (Nat.lt_succ_iff_lt_or_eq.mp hk).elim (hi k) (fun e => by rw [e]; exact h_3)) (by omega) (lv_sub hl [0, 1, 2] rfl) (hP.sub [0, 1] rfl) (hD.sub [0, 1] (by decide) rfl) hS
        · rw [← hQe]
          exact tx_mono (fun _ h => tx_Z.of h) (W.vret hx hb hr (fun t ht hW => ⟨⟨[(ip, .inr (5, [.ref im, .ref ie, .ref is, .ref iy, .ref ii, .int mc0, .int (nI mx), .int ix])), (iy, .inl (cI, 12, .inl xf))], ⟨rfl, rfl⟩, by rw [ht]; exact hP.sub [0, 1] rfl, hD.sub [0, 1] (by decide) rfl⟩, hS.F ht⟩) hS.2.2 d_IP_includeMix_20)
  exact lp_2 _ 0 ls s.heap [] rfl (fun k hk => absurd hk (Nat.not_lt_zero k)) (Nat.zero_le _) (lv_sub hl [0, 1, 2] rfl) (hP.sub [0, 1] rfl) (hD.sub [0, 1] (by decide) rfl) hS

theorem c_IP_include {l : Launch} {s0 : State} {b0 : Addr} {D : va_G} {cI cJ cZ : ClassId} {tC tS : Nat} (E : gE l s0 b0 D cI cJ cZ tC tS) (sz : Nat) (ip : Nat) (im : Nat) (ie : Nat) (is : Nat) (iy : Nat) (ii : Nat) (mc0 : Int32) (mx : Nat) (ix : Int32) (xf : Nat → Int32) (mm : Int32) (hmx : mx ≤ 12) : cx_M l s0 D kl y_IP_includeMix b_IP_includeMix 3 none ({ frames := 0, cells := 0, slots := 0, locals := 0 } : Room) 0 0 [.ref ip, .int mm] [(ip, .inr (5, [.ref im, .ref ie, .ref is, .ref iy, .ref ii, .int mc0, .int (nI mx), .int ix])), (iy, .inl (cI, 12, .inl xf))] sz (fun o9 _ w9 => o9 = .returned none ∧ w9 = [(ip, .inr (5, [.ref im, .ref ie, .ref is, .ref iy, .ref ii, .int mc0, .int (nI (imN mx xf mm)), .int ix])), (iy, .inl (cI, 12, .inl (imF mx xf mm)))]) := by
  by_cases h : imC mx xf mm
  · rw [imN_y h, imF_y h]
    exact c_IP_inc_y E sz ip im ie is iy ii mc0 mx ix xf mm hmx h
  · rw [imN_n h, imF_n h]
    exact c_IP_inc_n E sz ip im ie is iy ii mc0 mx ix xf mm hmx h

set_option maxHeartbeats 4000000 in
set_option maxRecDepth 100000 in
theorem c_IP_sumOf {l : Launch} {s0 : State} {b0 : Addr} {D : va_G} {cI cJ cZ : ClassId} {tC tS : Nat} (E : gE l s0 b0 D cI cJ cZ tC tS) (sz : Nat) (ip : Nat) (im : Nat) (ie : Nat) (is : Nat) (iy : Nat) (ii : Nat) (mc : Nat) (mx0 : Int32) (ix : Int32) (mix : Int32) (stp : Int32) (hmc : mc ≤ 4) : cx_M l s0 D kl y_IP_sumOf b_IP_sumOf 6 (some .int) ({ frames := 0, cells := 0, slots := 0, locals := 0 } : Room) 0 0 [.ref ip, .int mix, .int stp] [(ip, .inr (5, [.ref im, .ref ie, .ref is, .ref iy, .ref ii, .int (nI mc), .int mx0, .int ix]))] sz (fun o9 _ w9 => o9 = .returned (some (.int (smf ix mix stp mc))) ∧ w9 = [(ip, .inr (5, [.ref im, .ref ie, .ref is, .ref iy, .ref ii, .int (nI mc), .int mx0, .int ix]))]) := by
  refine tx_ofW (cc := b_IP_sumOf) (maxL := 6) (ret := (some .int)) (by decide) rfl ?_
  intro p e s m args below meth c s₁ B hml hT hv
  obtain ⟨rfl, hsz, hP, hD0, hx0⟩ := hv
  have hx := B.exec
  have hb := B.bytes
  have hr := B.returns
  have G := E.2.1
  have hown : s.vm.findClass cn_IP = some m.cls := findClass_of_methodNamed B.named
  have hlocks := B.notSynchronized
  have hK := va_K.moved hx0.1.alike E.2.2.1
  have hf_IP : ∀ w99 ∈ u_ws cn_IP ft_IP 8, w99.before ([.ref ip, .int mix, .int stp] : List Value).toArray s = true := fun w99 h99 => gw.at G hx0 (fw_IP w99 h99) (fo_IP w99 h99) _
  subst hsz
  have hA0 := cx_new hD0 hx0.2.1
  have hD := hD0.self (sz := s.heap.size)
  generalize hAe : va_A [(ip, .inr (5, [.ref im, .ref ie, .ref is, .ref iy, .ref ii, .int (nI mc), .int mx0, .int ix]))] s.heap.size = A at hD hA0 ⊢
  have hA : ∀ q : Nat, s.heap.size ≤ q → A q := fun q h => by rw [← hAe]; exact Or.inr h
  have hS : va_S A s.heap s.heap [] := va_S.rf
  have hl := lv_entry ([.ref ip, .int mix, .int stp]) (n := 6) (Nat.le_of_ble_eq_true rfl)
  rw [lg_entry_eq]
  generalize (lg_sl ([.ref ip, .int mix, .int stp]) ++ List.replicate (6 - (lg_sl ([.ref ip, .int mix, .int stp])).length) Slot.unset).toArray = ls at hl ⊢
  have hl : lv_has ls 6 [(0, .ref ip), (1, .int mix), (2, .int stp)] := hl
  have hP : va_P D kl [(ip, .inr (5, [.ref im, .ref ie, .ref is, .ref iy, .ref ii, .int (nI mc), .int mx0, .int ix]))] s.heap := hP
  have hml : c.maxLocals = 6 := hml
  generalize hQe : tx_Z below (cx_Q D kl A (fun o9 _ w9 => o9 = .returned (some (.int (smf ix mix stp mc))) ∧ w9 = [(ip, .inr (5, [.ref im, .ref ie, .ref is, .ref iy, .ref ii, .int (nI mc), .int mx0, .int ix]))])) ([.ref ip, .int mix, .int stp] : List Value).toArray s 0 0 A = Q
  refine lv_iconst (v := (0 : Int32)) hx hb d_IP_sumOf_0 (by decide) ?_
  refine lv_istore_n (lv' := [(3, .int (0 : Int32)), (0, .ref ip), (1, .int mix), (2, .int stp)]) hx hb d_IP_sumOf_1 rfl hl (by decide) rfl (fun ls hl => ?_)
  refine lv_iconst (v := (0 : Int32)) hx hb d_IP_sumOf_2 (by decide) ?_
  refine lv_istore (lv' := [(4, .int (0 : Int32)), (3, .int (0 : Int32)), (0, .ref ip), (1, .int mix), (2, .int stp)]) hx hb d_IP_sumOf_3 hl (by decide) rfl (fun ls hl => ?_)
  have lp_5 : ∀ (n9 : Nat) (k : Nat) (v : Int32) (ls : Array Slot) (H : Heap) (locs : List Loc), mc - k = n9 → (smf ix mix stp k = v) → (k ≤ mc) → lv_has ls 6 [(4, .int (nI (4 * k))), (3, .int v), (0, .ref ip), (1, .int mix), (2, .int stp)] → va_P D kl [(ip, .inr (5, [.ref im, .ref ie, .ref is, .ref iy, .ref ii, .int (nI mc), .int mx0, .int ix]))] H → va_D A [(ip, .inr (5, [.ref im, .ref ie, .ref is, .ref iy, .ref ii, .int (nI mc), .int mx0, .int ix]))] → va_S A s.heap H locs → W p l e ({ frames := 0, cells := 0, slots := 0, locals := 0 } : Room) s m ([.ref ip, .int mix, .int stp] : List Value).toArray below meth c H locs 0 0 Q (F0 m 5 ls []) := by
    intro n9
    induction n9 using Nat.strongRecOn with
    | ind n9 ih_5 =>
      intro k v ls H locs hm_5 hv hk hl hP hD hS
      refine lv_iload hx hb d_IP_sumOf_5 (lv_at hl 0 rfl) ?_
      refine lv_aload_n hx hb d_IP_sumOf_7 rfl (lv_at hl 2 rfl) ?_
      refine va_get (D := D) (ci := 5) (v := .int (nI mc)) (C := cn_IP) (T := ft_IP) (N := 8) hx hb hf_IP (fun _ h => h) hown hK hP 0 rfl rfl 5 (by decide) (gw.at G hx0 mw_144 rfl _) (fun _ h9 => h9) rfl d_IP_sumOf_8 ?_
      refine lv_iconst (v := (4 : Int32)) hx hb d_IP_sumOf_11 (by decide) ?_
      refine lv_imul hx hb d_IP_sumOf_12 ?_
      refine tp_i (y := nI (mc * 4)) (nI_mul mc 4) ?_
      refine lv_icmp_ge (tgt := 66) hx hb d_IP_sumOf_13 (by decide) (fun h_1 => ?_) (fun h_1 => ?_)
      · have h_1 : (mc * 4) ≤ (4 * k) := (nI_leI (a := mc * 4) (b := 4 * k) (by omega) (by omega)).mp h_1
        refine lv_iload_n hx hb d_IP_sumOf_66 rfl (lv_at hl 1 rfl) ?_
        rw [← hQe]
        exact tx_mono (fun _ h => tx_Z.of h) (W.iret (v := v) hx hb hr (fun t ht hW => ⟨⟨[(ip, .inr (5, [.ref im, .ref ie, .ref is, .ref iy, .ref ii, .int (nI mc), .int mx0, .int ix]))], ⟨(by rw [← hv, show k = mc by omega]), rfl⟩, by rw [ht]; exact hP.sub [0] rfl, hD.sub [0] (by decide) rfl⟩, hS.F ht⟩) hS.2.2 d_IP_sumOf_67)
      · have h_1 : ¬ ((mc * 4) ≤ (4 * k)) := fun z99 => h_1 ((nI_leI (a := mc * 4) (b := 4 * k) (by omega) (by omega)).mpr z99)
        refine lv_iload_n hx hb d_IP_sumOf_16 rfl (lv_at hl 3 rfl) ?_
        refine lv_iload hx hb d_IP_sumOf_17 (lv_at hl 0 rfl) ?_
        refine lv_ishr hx hb d_IP_sumOf_19 ?_
        refine lv_bipush (v := (15 : Int32)) hx hb d_IP_sumOf_20 (by decide) ?_
        refine lv_iand hx hb d_IP_sumOf_22 ?_
        refine lv_iload_n hx hb d_IP_sumOf_23 rfl (lv_at hl 4 rfl) ?_
        refine lv_iload hx hb d_IP_sumOf_24 (lv_at hl 0 rfl) ?_
        refine lv_ishr hx hb d_IP_sumOf_26 ?_
        refine lv_bipush (v := (15 : Int32)) hx hb d_IP_sumOf_27 (by decide) ?_
        refine lv_iand hx hb d_IP_sumOf_29 ?_
        refine lv_iadd hx hb d_IP_sumOf_30 ?_
        refine tp_i (y := shr4 mix stp k) rfl ?_
        refine lv_istore (lv' := [(5, .int (shr4 mix stp k)), (4, .int (nI (4 * k))), (3, .int v), (0, .ref ip), (1, .int mix), (2, .int stp)]) hx hb d_IP_sumOf_31 hl (by decide) rfl (fun ls hl => ?_)
        refine lv_iload_n hx hb d_IP_sumOf_33 rfl (lv_at hl 2 rfl) ?_
        refine lv_iload hx hb d_IP_sumOf_34 (lv_at hl 0 rfl) ?_
        refine lv_aload_n hx hb d_IP_sumOf_36 rfl (lv_at hl 3 rfl) ?_
        refine va_get (D := D) (ci := 5) (v := .int ix) (C := cn_IP) (T := ft_IP) (N := 8) hx hb hf_IP (fun _ h => h) hown hK hP 0 rfl rfl 7 (by decide) (gw.at G hx0 mw_146 rfl _) (fun _ h9 => h9) rfl d_IP_sumOf_37 ?_
        refine lv_icmp_lt (tgt := 53) hx hb d_IP_sumOf_40 (by decide) (fun h_2 => ?_) (fun h_2 => ?_)
        · refine lv_iload hx hb d_IP_sumOf_53 (lv_at hl 0 rfl) ?_
          refine lv_iload hx hb d_IP_sumOf_55 (lv_at hl 1 rfl) ?_
          refine lv_ishl hx hb d_IP_sumOf_57 ?_
          refine lv_ior hx hb d_IP_sumOf_58 ?_
          refine lv_istore_n (lv' := [(3, .int (v ||| ((shr4 mix stp k) <<< ((nI (4 * k)) &&& 31)))), (5, .int (shr4 mix stp k)), (4, .int (nI (4 * k))), (0, .ref ip), (1, .int mix), (2, .int stp)]) hx hb d_IP_sumOf_59 rfl hl (by decide) rfl (fun ls hl => ?_)
          refine lv_iinc (lv' := [(4, .int (nI ((4 * k) + 4))), (3, .int (v ||| ((shr4 mix stp k) <<< ((nI (4 * k)) &&& 31)))), (5, .int (shr4 mix stp k)), (0, .ref ip), (1, .int mix), (2, .int stp)]) (k := 2) (v := nI ((4 * k) + 4)) hx hb d_IP_sumOf_60 hl rfl (nI_add (4 * k) 4) (by decide) rfl (fun ls hl => ?_)
          refine lv_goto (tgt := 5) hx hb d_IP_sumOf_63 (by decide) ?_
          exact ih_5 _ (by omega) (k + 1) (v ||| ((shr4 mix stp k) <<< ((nI (4 * k)) &&& 31))) ls H locs rfl (smf_y hv h_2) (by omega) (lv_sub hl [0, 1, 3, 4, 5] rfl) (hP.sub [0] rfl) (hD.sub [0] (by decide) rfl) hS
        · refine lv_iload hx hb d_IP_sumOf_43 (lv_at hl 0 rfl) ?_
          refine lv_aload_n hx hb d_IP_sumOf_45 rfl (lv_at hl 3 rfl) ?_
          refine va_get (D := D) (ci := 5) (v := .int ix) (C := cn_IP) (T := ft_IP) (N := 8) hx hb hf_IP (fun _ h => h) hown hK hP 0 rfl rfl 7 (by decide) (gw.at G hx0 mw_146 rfl _) (fun _ h9 => h9) rfl d_IP_sumOf_46 ?_
          refine lv_isub hx hb d_IP_sumOf_49 ?_
          refine lv_goto (tgt := 55) hx hb d_IP_sumOf_50 (by decide) ?_
          refine lv_iload hx hb d_IP_sumOf_55 (lv_at hl 1 rfl) ?_
          refine lv_ishl hx hb d_IP_sumOf_57 ?_
          refine lv_ior hx hb d_IP_sumOf_58 ?_
          refine lv_istore_n (lv' := [(3, .int (v ||| (((shr4 mix stp k) - ix) <<< ((nI (4 * k)) &&& 31)))), (5, .int (shr4 mix stp k)), (4, .int (nI (4 * k))), (0, .ref ip), (1, .int mix), (2, .int stp)]) hx hb d_IP_sumOf_59 rfl hl (by decide) rfl (fun ls hl => ?_)
          refine lv_iinc (lv' := [(4, .int (nI ((4 * k) + 4))), (3, .int (v ||| (((shr4 mix stp k) - ix) <<< ((nI (4 * k)) &&& 31)))), (5, .int (shr4 mix stp k)), (0, .ref ip), (1, .int mix), (2, .int stp)]) (k := 2) (v := nI ((4 * k) + 4)) hx hb d_IP_sumOf_60 hl rfl (nI_add (4 * k) 4) (by decide) rfl (fun ls hl => ?_)
          refine lv_goto (tgt := 5) hx hb d_IP_sumOf_63 (by decide) ?_
          exact ih_5 _ (by omega) (k + 1) (v ||| (((shr4 mix stp k) - ix) <<< ((nI (4 * k)) &&& 31))) ls H locs rfl (smf_n hv h_2) (by omega) (lv_sub hl [0, 1, 3, 4, 5] rfl) (hP.sub [0] rfl) (hD.sub [0] (by decide) rfl) hS
  exact lp_5 _ 0 0 ls s.heap [] rfl rfl (Nat.zero_le _) (lv_sub hl [0, 1, 2, 3, 4] rfl) (hP.sub [0] rfl) (hD.sub [0] (by decide) rfl) hS

