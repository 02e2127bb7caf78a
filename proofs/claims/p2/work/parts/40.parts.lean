/-! ===== own rows, laid by wip/tools/sym.py: leastProduct, timesInRest, countParts ===== -/
def jmin (a b : Int32) : Int32 := if b < a then b else a
def jmax (a b : Int32) : Int32 := if a < b then b else a
def lmn (x y : Int64) : Int64 := if y < x then y else x
def lpr (of g : Nat → Int32) : Nat → Int64
  | 0 => 0
  | p + 1 => if p = 0 then pr4 of p g else lmn (lpr of g p) (pr4 of p g)
theorem lpr_z {of g : Nat → Int32} {p : Nat} (h : p = 0) : lpr of g (p + 1) = pr4 of p g := by
  show (if p = 0 then pr4 of p g else lmn (lpr of g p) (pr4 of p g)) = _
  rw [if_pos h]
theorem lpr_s {of g : Nat → Int32} {p : Nat} {v : Int64} (e : lpr of g p = v) (h : ¬ p = 0) : lpr of g (p + 1) = lmn v (pr4 of p g) := by
  show (if p = 0 then pr4 of p g else lmn (lpr of g p) (pr4 of p g)) = _
  rw [if_neg h, e]
/-- how often a point goes into the rest -/
def tir (hh rs : Nat → Int32) (p : Nat) : Nat → Int32
  | 0 => -1
  | r + 1 => if hh (p * 8 + r) ≤ 0 then tir hh rs p r else if 0 ≤ tir hh rs p r then jmin (tir hh rs p r) (rs r / hh (p * 8 + r)) else rs r / hh (p * 8 + r)
theorem tir_n {hh rs : Nat → Int32} {p r : Nat} {v : Int32} (e : tir hh rs p r = v) (h : hh (p * 8 + r) ≤ 0) : tir hh rs p (r + 1) = v := by
  show (if hh (p * 8 + r) ≤ 0 then tir hh rs p r else _) = _
  rw [if_pos h, e]
theorem tir_y {hh rs : Nat → Int32} {p r : Nat} {v : Int32} (e : tir hh rs p r = v) (h : ¬ hh (p * 8 + r) ≤ 0) (h0 : 0 ≤ v) : tir hh rs p (r + 1) = jmin v (rs r / hh (p * 8 + r)) := by
  show (if hh (p * 8 + r) ≤ 0 then tir hh rs p r else if 0 ≤ tir hh rs p r then jmin (tir hh rs p r) (rs r / hh (p * 8 + r)) else rs r / hh (p * 8 + r)) = _
  rw [if_neg h, e, if_pos h0]
theorem tir_f {hh rs : Nat → Int32} {p r : Nat} {v : Int32} (e : tir hh rs p r = v) (h : ¬ hh (p * 8 + r) ≤ 0) (h0 : ¬ 0 ≤ v) : tir hh rs p (r + 1) = rs r / hh (p * 8 + r) := by
  show (if hh (p * 8 + r) ≤ 0 then tir hh rs p r else if 0 ≤ tir hh rs p r then jmin (tir hh rs p r) (rs r / hh (p * 8 + r)) else rs r / hh (p * 8 + r)) = _
  rw [if_neg h, e, if_neg h0]
theorem ne_of_le0 {x : Int32} (h : ¬ x ≤ 0) : ¬ x = 0 := fun z => h (by rw [z]; decide)
set_option maxHeartbeats 4000000 in
set_option maxRecDepth 100000 in
theorem c_BF_least {l : Launch} {s0 : State} {b0 : Addr} {D : va_G} {cI cJ cZ : ClassId} {tC tS : Nat} (E : gE l s0 b0 D cI cJ cZ tC tS) (sz : Nat) (bf : Nat) (fo : Nat) (bm : Nat) (bs : Nat) (ip : Nat) (bc : Nat) (bh : Nat) (br : Nat) (lg : Int32) (rc0 : Int32) (fq : Nat) (on : Nat) (of : Nat → Int32) (ga : Nat) (g : Nat → Int32) (hon : on ≤ 107) : cx_M l s0 D kl y_BF_leastProduct b_BF_leastProduct 7 (some .int) ({ frames := 2, cells := 0, slots := 0, locals := 47 } : Room) 0 0 [.ref bf, .ref ga] [(bf, .inr (6, [.ref fo, .int lg, .ref bm, .ref bs, .ref ip, .ref bc, .ref bh, .ref br, .int rc0])), (fo, .inr (1, [.ref fq, .int (nI on), .int (107 : Int32)])), (fq, .inl (cI, 428, .inl of)), (ga, .inl (cI, 4, .inl g))] sz (fun o9 _ w9 => o9 = .returned (some (.int ((lpr of g on).toInt32))) ∧ w9 = [(bf, .inr (6, [.ref fo, .int lg, .ref bm, .ref bs, .ref ip, .ref bc, .ref bh, .ref br, .int rc0])), (fo, .inr (1, [.ref fq, .int (nI on), .int (107 : Int32)])), (fq, .inl (cI, 428, .inl of)), (ga, .inl (cI, 4, .inl g))]) := by
  refine tx_ofW (cc := b_BF_leastProduct) (maxL := 7) (ret := (some .int)) (by decide) rfl ?_
  intro p e s m args below meth c s₁ B hml hT hv
  obtain ⟨rfl, hsz, hP, hD0, hx0⟩ := hv
  have hx := B.exec
  have hb := B.bytes
  have hr := B.returns
  have G := E.2.1
  have hown : s.vm.findClass cn_BF = some m.cls := findClass_of_methodNamed B.named
  have hlocks := B.notSynchronized
  have hK := va_K.moved hx0.1.alike E.2.2.1
  have hf_BF : ∀ w99 ∈ u_ws cn_BF ft_BF 9, w99.before ([.ref bf, .ref ga] : List Value).toArray s = true := fun w99 h99 => gw.at G hx0 (fw_BF w99 h99) (fo_BF w99 h99) _
  have hf_PL : ∀ w99 ∈ u_ws cn_PL ft_PL 3, w99.before ([.ref bf, .ref ga] : List Value).toArray s = true := fun w99 h99 => gw.at G hx0 (fw_PL w99 h99) (fo_PL w99 h99) _
  subst hsz
  have hA0 := cx_new hD0 hx0.2.1
  have hD := hD0.self (sz := s.heap.size)
  generalize hAe : va_A [(bf, .inr (6, [.ref fo, .int lg, .ref bm, .ref bs, .ref ip, .ref bc, .ref bh, .ref br, .int rc0])), (fo, .inr (1, [.ref fq, .int (nI on), .int (107 : Int32)])), (fq, .inl (cI, 428, .inl of)), (ga, .inl (cI, 4, .inl g))] s.heap.size = A at hD hA0 ⊢
  have hA : ∀ q : Nat, s.heap.size ≤ q → A q := fun q h => by rw [← hAe]; exact Or.inr h
  have hS : va_S A s.heap s.heap [] := va_S.rf
  have hl := lv_entry ([.ref bf, .ref ga]) (n := 7) (Nat.le_of_ble_eq_true rfl)
  rw [lg_entry_eq]
  generalize (lg_sl ([.ref bf, .ref ga]) ++ List.replicate (7 - (lg_sl ([.ref bf, .ref ga])).length) Slot.unset).toArray = ls at hl ⊢
  have hl : lv_has ls 7 [(0, .ref bf), (1, .ref ga)] := hl
  have hP : va_P D kl [(bf, .inr (6, [.ref fo, .int lg, .ref bm, .ref bs, .ref ip, .ref bc, .ref bh, .ref br, .int rc0])), (fo, .inr (1, [.ref fq, .int (nI on), .int (107 : Int32)])), (fq, .inl (cI, 428, .inl of)), (ga, .inl (cI, 4, .inl g))] s.heap := hP
  have hml : c.maxLocals = 7 := hml
  generalize hQe : tx_Z below (cx_Q D kl A (fun o9 _ w9 => o9 = .returned (some (.int ((lpr of g on).toInt32))) ∧ w9 = [(bf, .inr (6, [.ref fo, .int lg, .ref bm, .ref bs, .ref ip, .ref bc, .ref bh, .ref br, .int rc0])), (fo, .inr (1, [.ref fq, .int (nI on), .int (107 : Int32)])), (fq, .inl (cI, 428, .inl of)), (ga, .inl (cI, 4, .inl g))])) ([.ref bf, .ref ga] : List Value).toArray s 0 0 A = Q
  refine lv_lconst (v := (0 : Int64)) hx hb d_BF_leastProduct_0 (by decide) ?_
  refine lv_lstore_n (lv' := [(2, .long (0 : Int64)), (0, .ref bf), (1, .ref ga)]) hx hb d_BF_leastProduct_1 rfl hl (by decide) rfl (fun ls hl => ?_)
  refine lv_iconst (v := (0 : Int32)) hx hb d_BF_leastProduct_2 (by decide) ?_
  refine lv_istore (lv' := [(4, .int (0 : Int32)), (2, .long (0 : Int64)), (0, .ref bf), (1, .ref ga)]) hx hb d_BF_leastProduct_3 hl (by decide) rfl (fun ls hl => ?_)
  have lp_5 : ∀ (n9 : Nat) (p2 : Nat) (v : Int64) (ls : Array Slot) (H : Heap) (locs : List Loc), on - p2 = n9 → (lpr of g p2 = v) → (p2 ≤ on) → lv_has ls 7 [(4, .int (nI p2)), (2, .long v), (0, .ref bf), (1, .ref ga)] → va_P D kl [(bf, .inr (6, [.ref fo, .int lg, .ref bm, .ref bs, .ref ip, .ref bc, .ref bh, .ref br, .int rc0])), (fo, .inr (1, [.ref fq, .int (nI on), .int (107 : Int32)])), (fq, .inl (cI, 428, .inl of)), (ga, .inl (cI, 4, .inl g))] H → va_D A [(bf, .inr (6, [.ref fo, .int lg, .ref bm, .ref bs, .ref ip, .ref bc, .ref bh, .ref br, .int rc0])), (fo, .inr (1, [.ref fq, .int (nI on), .int (107 : Int32)])), (fq, .inl (cI, 428, .inl of)), (ga, .inl (cI, 4, .inl g))] → va_S A s.heap H locs → W p l e ({ frames := 2, cells := 0, slots := 0, locals := 47 } : Room) s m ([.ref bf, .ref ga] : List Value).toArray below meth c H locs 0 0 Q (F0 m 5 ls []) := by
    intro n9
    induction n9 using Nat.strongRecOn with
    | ind n9 ih_5 =>
      intro p2 v ls H locs hm_5 hv hpo hl hP hD hS
      refine lv_iload hx hb d_BF_leastProduct_5 (lv_at hl 0 rfl) ?_
      refine lv_aload_n hx hb d_BF_leastProduct_7 rfl (lv_at hl 2 rfl) ?_
      refine va_get (D := D) (ci := 6) (v := .ref fo) (C := cn_BF) (T := ft_BF) (N := 9) hx hb hf_BF (fun _ h => h) hown hK hP 0 rfl rfl 0 (by decide) (gw.at G hx0 mw_164 rfl _) (fun _ h9 => h9) rfl d_BF_leastProduct_8 ?_
      refine va_get (D := D) (ci := 1) (v := .int (nI on)) (C := cn_PL) (T := ft_PL) (N := 3) hx hb hf_PL (fun _ h => h) hown hK hP 1 rfl rfl 1 (by decide) (gw.at G hx0 mw_41 rfl _) (fun _ h9 => h9) rfl d_BF_leastProduct_11 ?_
      refine lv_icmp_ge (tgt := 52) hx hb d_BF_leastProduct_14 (by decide) (fun h_1 => ?_) (fun h_1 => ?_)
      · have h_1 : on ≤ p2 := (nI_leI (a := on) (b := p2) (by omega) (by omega)).mp h_1
        refine lv_lload_n hx hb d_BF_leastProduct_52 rfl (lv_at hl 1 rfl) ?_
        refine lv_l2i (v := v.toInt32) hx hb d_BF_leastProduct_53 rfl ?_
        rw [← hQe]
        exact tx_mono (fun _ h => tx_Z.of h) (W.iret (v := v.toInt32) hx hb hr (fun t ht hW => ⟨⟨[(bf, .inr (6, [.ref fo, .int lg, .ref bm, .ref bs, .ref ip, .ref bc, .ref bh, .ref br, .int rc0])), (fo, .inr (1, [.ref fq, .int (nI on), .int (107 : Int32)])), (fq, .inl (cI, 428, .inl of)), (ga, .inl (cI, 4, .inl g))], ⟨(by rw [show on = p2 by omega, hv]), rfl⟩, by rw [ht]; exact hP.sub [0, 1, 2, 3] rfl, hD.sub [0, 1, 2, 3] (by decide) rfl⟩, hS.F ht⟩) hS.2.2 d_BF_leastProduct_54)
      · have h_1 : ¬ (on ≤ p2) := fun z99 => h_1 ((nI_leI (a := on) (b := p2) (by omega) (by omega)).mpr z99)
        refine lv_aload_n hx hb d_BF_leastProduct_17 rfl (lv_at hl 2 rfl) ?_
        refine va_get (D := D) (ci := 6) (v := .ref fo) (C := cn_BF) (T := ft_BF) (N := 9) hx hb hf_BF (fun _ h => h) hown hK hP 0 rfl rfl 0 (by decide) (gw.at G hx0 mw_164 rfl _) (fun _ h9 => h9) rfl d_BF_leastProduct_18 ?_
        refine lv_iload hx hb d_BF_leastProduct_21 (lv_at hl 0 rfl) ?_
        refine lv_aload_n hx hb d_BF_leastProduct_23 rfl (lv_at hl 3 rfl) ?_
        refine cx_call (D := D) (cl := kl) (ws := _) (wc := [(fo, .inr (1, [.ref fq, .int (nI on), .int (107 : Int32)])), (fq, .inl (cI, 428, .inl of)), (ga, .inl (cI, 4, .inl g))]) (wr := [(bf, .inr (6, [.ref fo, .int lg, .ref bm, .ref bs, .ref ip, .ref bc, .ref bh, .ref br, .int rc0]))]) (tx_runV (C := cn_PL) (b := fo) (As := [.int (nI p2), .ref ga]) (rest := []) hx hb hml hown (c_PL_product E H.size fo fq on 107 428 of p2 ga g (by decide) (by decide) hon (by omega)) (cx_C (b0 := b0) G hx0 mw_247 mw_3 ny_PL_product (by decide)) (gw.at G hx0 mw_596 rfl _) (gw.at G hx0 mw_245 rfl _) (gw.at G hx0 mw_246 rfl _) ⟨cx_blind, va_recv hK hP (q0 := 1) (ci := 1) (q := (cn_PL, ft_PL, 3)) rfl rfl, (cx_pre (s := s) hx0 hP hD hS hA0 [1, 2, 3] rfl rfl (by decide))⟩ rfl rfl hl.1 rfl (lv_room (Nat.le_of_ble_eq_true rfl)) d_BF_leastProduct_24 ⟨by decide, by decide⟩) hP hD hS hA [1, 2, 3] [0] rfl rfl (by decide) (by decide) (fun v t w1 H locs ht hW9 hp hP hD hS => ?_) (fun x t w1 H locs ht hW9 hp hP hD hS => by obtain ⟨h9, -⟩ := hp; cases h9)
        obtain ⟨h9, rfl⟩ := hp
        cases h9
        refine W.eq (g2 := F0 m 27 ls [.long (pr4 of p2 g)]) rfl ?_
        refine W.widen (k := 0) (n := 0) (by decide) (by decide) ?_
        have hP : va_P D kl [(bf, .inr (6, [.ref fo, .int lg, .ref bm, .ref bs, .ref ip, .ref bc, .ref bh, .ref br, .int rc0])), (fo, .inr (1, [.ref fq, .int (nI on), .int (107 : Int32)])), (fq, .inl (cI, 428, .inl of)), (ga, .inl (cI, 4, .inl g))] H := hP
        have hD : va_D A [(bf, .inr (6, [.ref fo, .int lg, .ref bm, .ref bs, .ref ip, .ref bc, .ref bh, .ref br, .int rc0])), (fo, .inr (1, [.ref fq, .int (nI on), .int (107 : Int32)])), (fq, .inl (cI, 428, .inl of)), (ga, .inl (cI, 4, .inl g))] := hD
        refine lv_lstore (lv' := [(5, .long (pr4 of p2 g)), (4, .int (nI p2)), (2, .long v), (0, .ref bf), (1, .ref ga)]) hx hb d_BF_leastProduct_27 hl (by decide) rfl (fun ls hl => ?_)
        refine lv_iload hx hb d_BF_leastProduct_29 (lv_at hl 1 rfl) ?_
        refine lv_if_ne (tgt := 39) hx hb d_BF_leastProduct_31 (by decide) (fun h_2 => ?_) (fun h_2 => ?_)
        · have h_2 : ¬ (p2 = 0) := fun z99 => h_2 ((nI_eq (a := p2) (b := 0) (by omega) (by omega)).mpr z99)
          refine lv_lload_n hx hb d_BF_leastProduct_39 rfl (lv_at hl 2 rfl) ?_
          refine lv_lload hx hb d_BF_leastProduct_40 (lv_at hl 0 rfl) ?_
          refine va_mmin_long hx hb (hml.trans hl.1.symm) hown (gw.at G hx0 mw_704 rfl _) (gw.at G hx0 mw_705 rfl _) (gw.at G hx0 mw_2 rfl _) (gw.at G hx0 mw_706 rfl _) (by decide) (Nat.le_of_ble_eq_true rfl) (by decide) (by decide) d_BF_leastProduct_42 ?_
          refine tp_l (y := lmn v (pr4 of p2 g)) rfl ?_
          refine lv_lstore_n (lv' := [(2, .long (lmn v (pr4 of p2 g))), (5, .long (pr4 of p2 g)), (4, .int (nI p2)), (0, .ref bf), (1, .ref ga)]) hx hb d_BF_leastProduct_45 rfl hl (by decide) rfl (fun ls hl => ?_)
          refine lv_iinc (lv' := [(4, .int (nI (p2 + 1))), (2, .long (lmn v (pr4 of p2 g))), (5, .long (pr4 of p2 g)), (0, .ref bf), (1, .ref ga)]) (k := 2) (v := nI (p2 + 1)) hx hb d_BF_leastProduct_46 hl rfl (nI_add p2 1) (by decide) rfl (fun ls hl => ?_)
          refine lv_goto (tgt := 5) hx hb d_BF_leastProduct_49 (by decide) ?_
          exact ih_5 _ (by omega) (p2 + 1) (lmn v (pr4 of p2 g)) ls H locs rfl (lpr_s hv h_2) (by omega) (lv_sub hl [0, 1, 3, 4] rfl) (hP.sub [0, 1, 2, 3] rfl) (hD.sub [0, 1, 2, 3] (by decide) rfl) hS
        · have h_2 : p2 = 0 := (nI_eq (a := p2) (b := 0) (by omega) (by omega)).mp h_2
          refine lv_lload hx hb d_BF_leastProduct_34 (lv_at hl 0 rfl) ?_
          refine lv_goto (tgt := 45) hx hb d_BF_leastProduct_36 (by decide) ?_
          refine lv_lstore_n (lv' := [(2, .long (pr4 of p2 g)), (5, .long (pr4 of p2 g)), (4, .int (nI p2)), (0, .ref bf), (1, .ref ga)]) hx hb d_BF_leastProduct_45 rfl hl (by decide) rfl (fun ls hl => ?_)
          refine lv_iinc (lv' := [(4, .int (nI (p2 + 1))), (2, .long (pr4 of p2 g)), (5, .long (pr4 of p2 g)), (0, .ref bf), (1, .ref ga)]) (k := 2) (v := nI (p2 + 1)) hx hb d_BF_leastProduct_46 hl rfl (nI_add p2 1) (by decide) rfl (fun ls hl => ?_)
          refine lv_goto (tgt := 5) hx hb d_BF_leastProduct_49 (by decide) ?_
          exact ih_5 _ (by omega) (p2 + 1) (pr4 of p2 g) ls H locs rfl (lpr_z h_2) (by omega) (lv_sub hl [0, 1, 3, 4] rfl) (hP.sub [0, 1, 2, 3] rfl) (hD.sub [0, 1, 2, 3] (by decide) rfl) hS
  exact lp_5 _ 0 0 ls s.heap [] rfl rfl (Nat.zero_le _) (lv_sub hl [0, 1, 2, 3] rfl) (hP.sub [0, 1, 2, 3] rfl) (hD.sub [0, 1, 2, 3] (by decide) rfl) hS

set_option maxHeartbeats 4000000 in
set_option maxRecDepth 100000 in
theorem c_BF_times {l : Launch} {s0 : State} {b0 : Addr} {D : va_G} {cI cJ cZ : ClassId} {tC tS : Nat} (E : gE l s0 b0 D cI cJ cZ tC tS) (sz : Nat) (bf : Nat) (fo : Nat) (bm : Nat) (bs : Nat) (ip : Nat) (bc : Nat) (bh : Nat) (br : Nat) (lg : Int32) (rc : Nat) (hh : Nat → Int32) (rs : Nat → Int32) (p2 : Nat) (hrc : rc ≤ 8) (hp : p2 < 107) : cx_M l s0 D kl y_BF_timesInRest b_BF_timesInRest 6 (some .int) ({ frames := 1, cells := 0, slots := 0, locals := 21 } : Room) 0 0 [.ref bf, .int (nI p2)] [(bf, .inr (6, [.ref fo, .int lg, .ref bm, .ref bs, .ref ip, .ref bc, .ref bh, .ref br, .int (nI rc)])), (bh, .inl (cI, 856, .inl hh)), (br, .inl (cI, 8, .inl rs))] sz (fun o9 _ w9 => o9 = .returned (some (.int (jmax (tir hh rs p2 rc) (0 : Int32)))) ∧ w9 = [(bf, .inr (6, [.ref fo, .int lg, .ref bm, .ref bs, .ref ip, .ref bc, .ref bh, .ref br, .int (nI rc)])), (bh, .inl (cI, 856, .inl hh)), (br, .inl (cI, 8, .inl rs))]) := by
  refine tx_ofW (cc := b_BF_timesInRest) (maxL := 6) (ret := (some .int)) (by decide) rfl ?_
  intro p e s m args below meth c s₁ B hml hT hv
  obtain ⟨rfl, hsz, hP, hD0, hx0⟩ := hv
  have hx := B.exec
  have hb := B.bytes
  have hr := B.returns
  have G := E.2.1
  have hown : s.vm.findClass cn_BF = some m.cls := findClass_of_methodNamed B.named
  have hlocks := B.notSynchronized
  have hK := va_K.moved hx0.1.alike E.2.2.1
  have hf_BF : ∀ w99 ∈ u_ws cn_BF ft_BF 9, w99.before ([.ref bf, .int (nI p2)] : List Value).toArray s = true := fun w99 h99 => gw.at G hx0 (fw_BF w99 h99) (fo_BF w99 h99) _
  subst hsz
  have hA0 := cx_new hD0 hx0.2.1
  have hD := hD0.self (sz := s.heap.size)
  generalize hAe : va_A [(bf, .inr (6, [.ref fo, .int lg, .ref bm, .ref bs, .ref ip, .ref bc, .ref bh, .ref br, .int (nI rc)])), (bh, .inl (cI, 856, .inl hh)), (br, .inl (cI, 8, .inl rs))] s.heap.size = A at hD hA0 ⊢
  have hA : ∀ q : Nat, s.heap.size ≤ q → A q := fun q h => by rw [← hAe]; exact Or.inr h
  have hS : va_S A s.heap s.heap [] := va_S.rf
  have hl := lv_entry ([.ref bf, .int (nI p2)]) (n := 6) (Nat.le_of_ble_eq_true rfl)
  rw [lg_entry_eq]
  generalize (lg_sl ([.ref bf, .int (nI p2)]) ++ List.replicate (6 - (lg_sl ([.ref bf, .int (nI p2)])).length) Slot.unset).toArray = ls at hl ⊢
  have hl : lv_has ls 6 [(0, .ref bf), (1, .int (nI p2))] := hl
  have hP : va_P D kl [(bf, .inr (6, [.ref fo, .int lg, .ref bm, .ref bs, .ref ip, .ref bc, .ref bh, .ref br, .int (nI rc)])), (bh, .inl (cI, 856, .inl hh)), (br, .inl (cI, 8, .inl rs))] s.heap := hP
  have hml : c.maxLocals = 6 := hml
  generalize hQe : tx_Z below (cx_Q D kl A (fun o9 _ w9 => o9 = .returned (some (.int (jmax (tir hh rs p2 rc) (0 : Int32)))) ∧ w9 = [(bf, .inr (6, [.ref fo, .int lg, .ref bm, .ref bs, .ref ip, .ref bc, .ref bh, .ref br, .int (nI rc)])), (bh, .inl (cI, 856, .inl hh)), (br, .inl (cI, 8, .inl rs))])) ([.ref bf, .int (nI p2)] : List Value).toArray s 0 0 A = Q
  refine lv_iconst (v := (-1 : Int32)) hx hb d_BF_timesInRest_0 (by decide) ?_
  refine lv_istore_n (lv' := [(2, .int (-1 : Int32)), (0, .ref bf), (1, .int (nI p2))]) hx hb d_BF_timesInRest_1 rfl hl (by decide) rfl (fun ls hl => ?_)
  refine lv_iconst (v := (0 : Int32)) hx hb d_BF_timesInRest_2 (by decide) ?_
  refine lv_istore_n (lv' := [(3, .int (0 : Int32)), (2, .int (-1 : Int32)), (0, .ref bf), (1, .int (nI p2))]) hx hb d_BF_timesInRest_3 rfl hl (by decide) rfl (fun ls hl => ?_)
  have lp_4 : ∀ (n9 : Nat) (r : Nat) (v : Int32) (ls : Array Slot) (H : Heap) (locs : List Loc), rc - r = n9 → (tir hh rs p2 r = v) → (r ≤ rc) → lv_has ls 6 [(3, .int (nI r)), (2, .int v), (0, .ref bf), (1, .int (nI p2))] → va_P D kl [(bf, .inr (6, [.ref fo, .int lg, .ref bm, .ref bs, .ref ip, .ref bc, .ref bh, .ref br, .int (nI rc)])), (bh, .inl (cI, 856, .inl hh)), (br, .inl (cI, 8, .inl rs))] H → va_D A [(bf, .inr (6, [.ref fo, .int lg, .ref bm, .ref bs, .ref ip, .ref bc, .ref bh, .ref br, .int (nI rc)])), (bh, .inl (cI, 856, .inl hh)), (br, .inl (cI, 8, .inl rs))] → va_S A s.heap H locs → W p l e ({ frames := 1, cells := 0, slots := 0, locals := 21 } : Room) s m ([.ref bf, .int (nI p2)] : List Value).toArray below meth c H locs 0 0 Q (F0 m 4 ls []) := by
    intro n9
    induction n9 using Nat.strongRecOn with
    | ind n9 ih_4 =>
      intro r v ls H locs hm_4 hv hr9 hl hP hD hS
      refine lv_iload_n hx hb d_BF_timesInRest_4 rfl (lv_at hl 0 rfl) ?_
      refine lv_aload_n hx hb d_BF_timesInRest_5 rfl (lv_at hl 2 rfl) ?_
      refine va_get (D := D) (ci := 6) (v := .int (nI rc)) (C := cn_BF) (T := ft_BF) (N := 9) hx hb hf_BF (fun _ h => h) hown hK hP 0 rfl rfl 8 (by decide) (gw.at G hx0 mw_174 rfl _) (fun _ h9 => h9) rfl d_BF_timesInRest_6 ?_
      refine lv_icmp_ge (tgt := 63) hx hb d_BF_timesInRest_9 (by decide) (fun h_1 => ?_) (fun h_1 => ?_)
      · have h_1 : rc ≤ r := (nI_leI (a := rc) (b := r) (by omega) (by omega)).mp h_1
        refine lv_iload_n hx hb d_BF_timesInRest_63 rfl (lv_at hl 1 rfl) ?_
        refine lv_iconst (v := (0 : Int32)) hx hb d_BF_timesInRest_64 (by decide) ?_
        refine va_mmax hx hb (hml.trans hl.1.symm) hown (gw.at G hx0 mw_691 rfl _) (gw.at G hx0 mw_31 rfl _) (gw.at G hx0 mw_2 rfl _) (gw.at G hx0 mw_32 rfl _) (by decide) (Nat.le_of_ble_eq_true rfl) (by decide) (by decide) d_BF_timesInRest_65 ?_
        refine tp_i (y := jmax v (0 : Int32)) rfl ?_
        rw [← hQe]
        exact tx_mono (fun _ h => tx_Z.of h) (W.iret (v := jmax v (0 : Int32)) hx hb hr (fun t ht hW => ⟨⟨[(bf, .inr (6, [.ref fo, .int lg, .ref bm, .ref bs, .ref ip, .ref bc, .ref bh, .ref br, .int (nI rc)])), (bh, .inl (cI, 856, .inl hh)), (br, .inl (cI, 8, .inl rs))], ⟨(by rw [show rc = r by omega, hv]), rfl⟩, by rw [ht]; exact hP.sub [0, 1, 2] rfl, hD.sub [0, 1, 2] (by decide) rfl⟩, hS.F ht⟩) hS.2.2 d_BF_timesInRest_68)
      · have h_1 : ¬ (rc ≤ r) := fun z99 => h_1 ((nI_leI (a := rc) (b := r) (by omega) (by omega)).mpr z99)
        refine lv_aload_n hx hb d_BF_timesInRest_12 rfl (lv_at hl 2 rfl) ?_
        refine va_get (D := D) (ci := 6) (v := .ref bh) (C := cn_BF) (T := ft_BF) (N := 9) hx hb hf_BF (fun _ h => h) hown hK hP 0 rfl rfl 6 (by decide) (gw.at G hx0 mw_172 rfl _) (fun _ h9 => h9) rfl d_BF_timesInRest_13 ?_
        refine lv_iload_n hx hb d_BF_timesInRest_16 rfl (lv_at hl 3 rfl) ?_
        refine lv_bipush (v := (8 : Int32)) hx hb d_BF_timesInRest_17 (by decide) ?_
        refine lv_imul hx hb d_BF_timesInRest_19 ?_
        refine tp_i (y := nI (p2 * 8)) (nI_mul p2 8) ?_
        refine lv_iload_n hx hb d_BF_timesInRest_20 rfl (lv_at hl 0 rfl) ?_
        refine lv_iadd hx hb d_BF_timesInRest_21 ?_
        refine tp_i (y := nI ((p2 * 8) + r)) (nI_add (p2 * 8) r) ?_
        refine va_iald hx hb hK hP 1 0 rfl rfl (vp_in_nI (n := (p2 * 8) + r) (by omega) (by omega)) d_BF_timesInRest_22 ?_
        refine tp_i (y := hh ((p2 * 8) + r)) (congrArg hh (nI_clamp (n := (p2 * 8) + r) (by omega))) ?_
        refine lv_istore (lv' := [(4, .int (hh ((p2 * 8) + r))), (3, .int (nI r)), (2, .int v), (0, .ref bf), (1, .int (nI p2))]) hx hb d_BF_timesInRest_23 hl (by decide) rfl (fun ls hl => ?_)
        refine lv_iload hx hb d_BF_timesInRest_25 (lv_at hl 0 rfl) ?_
        refine lv_if_le (tgt := 57) hx hb d_BF_timesInRest_27 (by decide) (fun h_2 => ?_) (fun h_2 => ?_)
        · refine lv_iinc (lv' := [(3, .int (nI (r + 1))), (4, .int (hh ((p2 * 8) + r))), (2, .int v), (0, .ref bf), (1, .int (nI p2))]) (k := 1) (v := nI (r + 1)) hx hb d_BF_timesInRest_57 hl rfl (nI_add r 1) (by decide) rfl (fun ls hl => ?_)
          refine lv_goto (tgt := 4) hx hb d_BF_timesInRest_60 (by decide) ?_
          exact ih_4 _ (by omega) (r + 1) v ls H locs rfl (tir_n hv h_2) (by omega) (lv_sub hl [0, 2, 3, 4] rfl) (hP.sub [0, 1, 2] rfl) (hD.sub [0, 1, 2] (by decide) rfl) hS
        · refine lv_aload_n hx hb d_BF_timesInRest_30 rfl (lv_at hl 3 rfl) ?_
          refine va_get (D := D) (ci := 6) (v := .ref br) (C := cn_BF) (T := ft_BF) (N := 9) hx hb hf_BF (fun _ h => h) hown hK hP 0 rfl rfl 7 (by decide) (gw.at G hx0 mw_173 rfl _) (fun _ h9 => h9) rfl d_BF_timesInRest_31 ?_
          refine lv_iload_n hx hb d_BF_timesInRest_34 rfl (lv_at hl 1 rfl) ?_
          refine va_iald hx hb hK hP 2 0 rfl rfl (vp_in_nI (n := r) (by omega) (by omega)) d_BF_timesInRest_35 ?_
          refine tp_i (y := rs r) (congrArg rs (nI_clamp (n := r) (by omega))) ?_
          refine lv_iload hx hb d_BF_timesInRest_36 (lv_at hl 0 rfl) ?_
          refine lv_idiv hx hb d_BF_timesInRest_38 (ne_of_le0 h_2) ?_
          refine lv_istore (lv' := [(5, .int ((rs r) / (hh ((p2 * 8) + r)))), (4, .int (hh ((p2 * 8) + r))), (3, .int (nI r)), (2, .int v), (0, .ref bf), (1, .int (nI p2))]) hx hb d_BF_timesInRest_39 hl (by decide) rfl (fun ls hl => ?_)
          refine lv_iload_n hx hb d_BF_timesInRest_41 rfl (lv_at hl 3 rfl) ?_
          refine lv_if_ge (tgt := 50) hx hb d_BF_timesInRest_42 (by decide) (fun h_3 => ?_) (fun h_3 => ?_)
          · refine lv_iload_n hx hb d_BF_timesInRest_50 rfl (lv_at hl 3 rfl) ?_
            refine lv_iload hx hb d_BF_timesInRest_51 (lv_at hl 0 rfl) ?_
            refine va_mmin hx hb (hml.trans hl.1.symm) hown (gw.at G hx0 mw_690 rfl _) (gw.at G hx0 mw_28 rfl _) (gw.at G hx0 mw_2 rfl _) (gw.at G hx0 mw_29 rfl _) (by decide) (Nat.le_of_ble_eq_true rfl) (by decide) (by decide) d_BF_timesInRest_53 ?_
            refine tp_i (y := jmin v ((rs r) / (hh ((p2 * 8) + r)))) rfl ?_
            refine lv_istore_n (lv' := [(2, .int (jmin v ((rs r) / (hh ((p2 * 8) + r))))), (5, .int ((rs r) / (hh ((p2 * 8) + r)))), (4, .int (hh ((p2 * 8) + r))), (3, .int (nI r)), (0, .ref bf), (1, .int (nI p2))]) hx hb d_BF_timesInRest_56 rfl hl (by decide) rfl (fun ls hl => ?_)
            refine lv_iinc (lv' := [(3, .int (nI (r + 1))), (2, .int (jmin v ((rs r) / (hh ((p2 * 8) + r))))), (5, .int ((rs r) / (hh ((p2 * 8) + r)))), (4, .int (hh ((p2 * 8) + r))), (0, .ref bf), (1, .int (nI p2))]) (k := 3) (v := nI (r + 1)) hx hb d_BF_timesInRest_57 hl rfl (nI_add r 1) (by decide) rfl (fun ls hl => ?_)
            refine lv_goto (tgt := 4) hx hb d_BF_timesInRest_60 (by decide) ?_
            exact ih_4 _ (by omega) (r + 1) (jmin v ((rs r) / (hh ((p2 * 8) + r)))) ls H locs rfl (tir_y hv h_2 h_3) (by omega) (lv_sub hl [0, 1, 4, 5] rfl) (hP.sub [0, 1, 2] rfl) (hD.sub [0, 1, 2] (by decide) rfl) hS
          · refine lv_iload hx hb d_BF_timesInRest_45 (lv_at hl 0 rfl) ?_
            refine lv_goto (tgt := 56) hx hb d_BF_timesInRest_47 (by decide) ?_
            refine lv_istore_n (lv' := [(2, .int ((rs r) / (hh ((p2 * 8) + r)))), (5, .int ((rs r) / (hh ((p2 * 8) + r)))), (4, .int (hh ((p2 * 8) + r))), (3, .int (nI r)), (0, .ref bf), (1, .int (nI p2))]) hx hb d_BF_timesInRest_56 rfl hl (by decide) rfl (fun ls hl => ?_)
            refine lv_iinc (lv' := [(3, .int (nI (r + 1))), (2, .int ((rs r) / (hh ((p2 * 8) + r)))), (5, .int ((rs r) / (hh ((p2 * 8) + r)))), (4, .int (hh ((p2 * 8) + r))), (0, .ref bf), (1, .int (nI p2))]) (k := 3) (v := nI (r + 1)) hx hb d_BF_timesInRest_57 hl rfl (nI_add r 1) (by decide) rfl (fun ls hl => ?_)
            refine lv_goto (tgt := 4) hx hb d_BF_timesInRest_60 (by decide) ?_
            exact ih_4 _ (by omega) (r + 1) ((rs r) / (hh ((p2 * 8) + r))) ls H locs rfl (tir_f hv h_2 h_3) (by omega) (lv_sub hl [0, 1, 4, 5] rfl) (hP.sub [0, 1, 2] rfl) (hD.sub [0, 1, 2] (by decide) rfl) hS
  exact lp_4 _ 0 (-1) ls s.heap [] rfl rfl (Nat.zero_le _) (lv_sub hl [0, 1, 2, 3] rfl) (hP.sub [0, 1, 2] rfl) (hD.sub [0, 1, 2] (by decide) rfl) hS

