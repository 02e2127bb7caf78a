/-! ===== own rows, laid by wip/tools/sym.py: countParts ===== -/
def rsi (pf g : Nat → Int32) : Nat → (Nat → Int32) → (Nat → Int32)
  | 0, f => f
  | r + 1, f => upd (rsi pf g r f) r (pr4 pf r g).toInt32
theorem rsi_s {pf g f f2 : Nat → Int32} {r : Nat} (e : rsi pf g r f = f2) : rsi pf g (r + 1) f = upd f2 r (pr4 pf r g).toInt32 := by
  show upd (rsi pf g r f) r (pr4 pf r g).toInt32 = _
  rw [e]
def rsd (hh : Nat → Int32) (tm : Int32) (p : Nat) : Nat → (Nat → Int32) → (Nat → Int32)
  | 0, f => f
  | r + 1, f => upd (rsd hh tm p r f) r (rsd hh tm p r f r - tm * hh (p * 8 + r))
theorem rsd_s {hh f f4 : Nat → Int32} {tm : Int32} {p r : Nat} (e : rsd hh tm p r f = f4) : rsd hh tm p (r + 1) f = upd f4 r (f4 r - tm * hh (p * 8 + r)) := by
  show upd (rsd hh tm p r f) r (rsd hh tm p r f r - tm * hh (p * 8 + r)) = _
  rw [e]
/-- points taken away from the rest, from the u-th down: the rest, and how many -/
def cpd (hh : Nat → Int32) (rc : Nat) : Nat → (Nat → Int32) → Int32 → Int32
  | 0, _, v => v
  | u + 1, f, v => cpd hh rc u (rsd hh (jmax (tir hh f u rc) 0) u rc f) (v + jmax (tir hh f u rc) 0)
theorem cpd_s {hh f f4 : Nat → Int32} {rc u : Nat} {v : Int32} (hu : 0 < u) (e : rsd hh (jmax (tir hh f (u - 1) rc) 0) (u - 1) rc f = f4) : cpd hh rc u f v = cpd hh rc (u - 1) f4 (v + jmax (tir hh f (u - 1) rc) 0) := by
  obtain ⟨w, rfl⟩ : ∃ w, u = w + 1 := ⟨u - 1, by omega⟩
  rw [← e]
  rfl
set_option maxHeartbeats 4000000 in
set_option maxRecDepth 100000 in
theorem c_BF_count {l : Launch} {s0 : State} {b0 : Addr} {D : va_G} {cI cJ cZ : ClassId} {tC tS : Nat} (E : gE l s0 b0 D cI cJ cZ tC tS) (sz : Nat) (bf : Nat) (fo : Nat) (bm : Nat) (bs : Nat) (ip : Nat) (bc : Nat) (bh : Nat) (br : Nat) (lg : Int32) (rc : Nat) (hh : Nat → Int32) (rs : Nat → Int32) (fq : Nat) (on : Nat) (of : Nat → Int32) (pl : Nat) (pa : Nat) (ct : Nat) (mo : Nat) (pz : Nat) (pf : Nat → Int32) (ga : Nat) (g : Nat → Int32) (hrc : rc = ct) (hc8 : ct ≤ 8) (hon : on ≤ 107) (hpz : pz = mo * 4) (hmo : mo ≤ 107) (hct : ct ≤ mo) : cx_M l s0 D kl y_BF_countParts b_BF_countParts 7 (some .int) ({ frames := 2, cells := 0, slots := 0, locals := 47 } : Room) 0 0 [.ref bf, .ref pl, .ref ga] [(bf, .inr (6, [.ref fo, .int lg, .ref bm, .ref bs, .ref ip, .ref bc, .ref bh, .ref br, .int (nI rc)])), (bh, .inl (cI, 856, .inl hh)), (br, .inl (cI, 8, .inl rs)), (fo, .inr (1, [.ref fq, .int (nI on), .int (107 : Int32)])), (fq, .inl (cI, 428, .inl of)), (pl, .inr (1, [.ref pa, .int (nI ct), .int (nI mo)])), (pa, .inl (cI, pz, .inl pf)), (ga, .inl (cI, 4, .inl g))] sz (fun o9 _ w9 => ∃ (rz : Nat → Int32), o9 = .returned (some (.int (cpd hh rc on (rsi pf g rc rs) (0 : Int32)))) ∧ w9 = [(bf, .inr (6, [.ref fo, .int lg, .ref bm, .ref bs, .ref ip, .ref bc, .ref bh, .ref br, .int (nI rc)])), (bh, .inl (cI, 856, .inl hh)), (br, .inl (cI, 8, .inl rz)), (fo, .inr (1, [.ref fq, .int (nI on), .int (107 : Int32)])), (fq, .inl (cI, 428, .inl of)), (pl, .inr (1, [.ref pa, .int (nI ct), .int (nI mo)])), (pa, .inl (cI, pz, .inl pf)), (ga, .inl (cI, 4, .inl g))]) := by
  refine tx_ofW (cc := b_BF_countParts) (maxL := 7) (ret := (some .int)) (by decide) rfl ?_
  intro p e s m args below meth c s₁ B hml hT hv
  obtain ⟨rfl, hsz, hP, hD0, hx0⟩ := hv
  have hx := B.exec
  have hb := B.bytes
  have hr := B.returns
  have G := E.2.1
  have hown : s.vm.findClass cn_BF = some m.cls := findClass_of_methodNamed B.named
  have hlocks := B.notSynchronized
  have hK := va_K.moved hx0.1.alike E.2.2.1
  have hf_BF : ∀ w99 ∈ u_ws cn_BF ft_BF 9, w99.before ([.ref bf, .ref pl, .ref ga] : List Value).toArray s = true := fun w99 h99 => gw.at G hx0 (fw_BF w99 h99) (fo_BF w99 h99) _
  have hf_PL : ∀ w99 ∈ u_ws cn_PL ft_PL 3, w99.before ([.ref bf, .ref pl, .ref ga] : List Value).toArray s = true := fun w99 h99 => gw.at G hx0 (fw_PL w99 h99) (fo_PL w99 h99) _
  subst hsz
  have hA0 := cx_new hD0 hx0.2.1
  have hD := hD0.self (sz := s.heap.size)
  generalize hAe : va_A [(bf, .inr (6, [.ref fo, .int lg, .ref bm, .ref bs, .ref ip, .ref bc, .ref bh, .ref br, .int (nI rc)])), (bh, .inl (cI, 856, .inl hh)), (br, .inl (cI, 8, .inl rs)), (fo, .inr (1, [.ref fq, .int (nI on), .int (107 : Int32)])), (fq, .inl (cI, 428, .inl of)), (pl, .inr (1, [.ref pa, .int (nI ct), .int (nI mo)])), (pa, .inl (cI, pz, .inl pf)), (ga, .inl (cI, 4, .inl g))] s.heap.size = A at hD hA0 ⊢
  have hA : ∀ q : Nat, s.heap.size ≤ q → A q := fun q h => by rw [← hAe]; exact Or.inr h
  have hS : va_S A s.heap s.heap [] := va_S.rf
  have hl := lv_entry ([.ref bf, .ref pl, .ref ga]) (n := 7) (Nat.le_of_ble_eq_true rfl)
  rw [lg_entry_eq]
  generalize (lg_sl ([.ref bf, .ref pl, .ref ga]) ++ List.replicate (7 - (lg_sl ([.ref bf, .ref pl, .ref ga])).length) Slot.unset).toArray = ls at hl ⊢
  have hl : lv_has ls 7 [(0, .ref bf), (1, .ref pl), (2, .ref ga)] := hl
  have hP : va_P D kl [(bf, .inr (6, [.ref fo, .int lg, .ref bm, .ref bs, .ref ip, .ref bc, .ref bh, .ref br, .int (nI rc)])), (bh, .inl (cI, 856, .inl hh)), (br, .inl (cI, 8, .inl rs)), (fo, .inr (1, [.ref fq, .int (nI on), .int (107 : Int32)])), (fq, .inl (cI, 428, .inl of)), (pl, .inr (1, [.ref pa, .int (nI ct), .int (nI mo)])), (pa, .inl (cI, pz, .inl pf)), (ga, .inl (cI, 4, .inl g))] s.heap := hP
  have hml : c.maxLocals = 7 := hml
  generalize hQe : tx_Z below (cx_Q D kl A (fun o9 _ w9 => ∃ (rz : Nat → Int32), o9 = .returned (some (.int (cpd hh rc on (rsi pf g rc rs) (0 : Int32)))) ∧ w9 = [(bf, .inr (6, [.ref fo, .int lg, .ref bm, .ref bs, .ref ip, .ref bc, .ref bh, .ref br, .int (nI rc)])), (bh, .inl (cI, 856, .inl hh)), (br, .inl (cI, 8, .inl rz)), (fo, .inr (1, [.ref fq, .int (nI on), .int (107 : Int32)])), (fq, .inl (cI, 428, .inl of)), (pl, .inr (1, [.ref pa, .int (nI ct), .int (nI mo)])), (pa, .inl (cI, pz, .inl pf)), (ga, .inl (cI, 4, .inl g))])) ([.ref bf, .ref pl, .ref ga] : List Value).toArray s 0 0 A = Q
  refine lv_iconst (v := (0 : Int32)) hx hb d_BF_countParts_0 (by decide) ?_
  refine lv_istore_n (lv' := [(3, .int (0 : Int32)), (0, .ref bf), (1, .ref pl), (2, .ref ga)]) hx hb d_BF_countParts_1 rfl hl (by decide) rfl (fun ls hl => ?_)
  have lp_2 : ∀ (n9 : Nat) (r : Nat) (f2 : Nat → Int32) (ls : Array Slot) (H : Heap) (locs : List Loc), rc - r = n9 → (rsi pf g r rs = f2) → (r ≤ rc) → lv_has ls 7 [(3, .int (nI r)), (0, .ref bf), (1, .ref pl), (2, .ref ga)] → va_P D kl [(bf, .inr (6, [.ref fo, .int lg, .ref bm, .ref bs, .ref ip, .ref bc, .ref bh, .ref br, .int (nI rc)])), (bh, .inl (cI, 856, .inl hh)), (br, .inl (cI, 8, .inl f2)), (fo, .inr (1, [.ref fq, .int (nI on), .int (107 : Int32)])), (fq, .inl (cI, 428, .inl of)), (pl, .inr (1, [.ref pa, .int (nI ct), .int (nI mo)])), (pa, .inl (cI, pz, .inl pf)), (ga, .inl (cI, 4, .inl g))] H → va_D A [(bf, .inr (6, [.ref fo, .int lg, .ref bm, .ref bs, .ref ip, .ref bc, .ref bh, .ref br, .int (nI rc)])), (bh, .inl (cI, 856, .inl hh)), (br, .inl (cI, 8, .inl f2)), (fo, .inr (1, [.ref fq, .int (nI on), .int (107 : Int32)])), (fq, .inl (cI, 428, .inl of)), (pl, .inr (1, [.ref pa, .int (nI ct), .int (nI mo)])), (pa, .inl (cI, pz, .inl pf)), (ga, .inl (cI, 4, .inl g))] → va_S A s.heap H locs → W p l e ({ frames := 2, cells := 0, slots := 0, locals := 47 } : Room) s m ([.ref bf, .ref pl, .ref ga] : List Value).toArray below meth c H locs 0 0 Q (F0 m 2 ls []) := by
    intro n9
    induction n9 using Nat.strongRecOn with
    | ind n9 ih_2 =>
      intro r f2 ls H locs hm_2 he hr9 hl hP hD hS
      refine lv_iload_n hx hb d_BF_countParts_2 rfl (lv_at hl 0 rfl) ?_
      refine lv_aload_n hx hb d_BF_countParts_3 rfl (lv_at hl 1 rfl) ?_
      refine va_get (D := D) (ci := 6) (v := .int (nI rc)) (C := cn_BF) (T := ft_BF) (N := 9) hx hb hf_BF (fun _ h => h) hown hK hP 0 rfl rfl 8 (by decide) (gw.at G hx0 mw_174 rfl _) (fun _ h9 => h9) rfl d_BF_countParts_4 ?_
      refine lv_icmp_ge (tgt := 29) hx hb d_BF_countParts_7 (by decide) (fun h_1 => ?_) (fun h_1 => ?_)
      · have h_1 : rc ≤ r := (nI_leI (a := rc) (b := r) (by omega) (by omega)).mp h_1
        have he9 : rsi pf g rc rs = f2 := (show r = rc by omega) ▸ he
        clear he
        subst he9
        refine lv_iconst (v := (0 : Int32)) hx hb d_BF_countParts_29 (by decide) ?_
        refine lv_istore_n (lv' := [(3, .int (0 : Int32)), (0, .ref bf), (1, .ref pl), (2, .ref ga)]) hx hb d_BF_countParts_30 rfl hl (by decide) rfl (fun ls hl => ?_)
        refine lv_aload_n hx hb d_BF_countParts_31 rfl (lv_at hl 1 rfl) ?_
        refine va_get (D := D) (ci := 6) (v := .ref fo) (C := cn_BF) (T := ft_BF) (N := 9) hx hb hf_BF (fun _ h => h) hown hK hP 0 rfl rfl 0 (by decide) (gw.at G hx0 mw_164 rfl _) (fun _ h9 => h9) rfl d_BF_countParts_32 ?_
        refine va_get (D := D) (ci := 1) (v := .int (nI on)) (C := cn_PL) (T := ft_PL) (N := 3) hx hb hf_PL (fun _ h => h) hown hK hP 3 rfl rfl 1 (by decide) (gw.at G hx0 mw_41 rfl _) (fun _ h9 => h9) rfl d_BF_countParts_35 ?_
        refine lv_iconst (v := (1 : Int32)) hx hb d_BF_countParts_38 (by decide) ?_
        refine lv_isub hx hb d_BF_countParts_39 ?_
        refine lv_istore (lv' := [(4, .int ((nI on) - (1 : Int32))), (3, .int (0 : Int32)), (0, .ref bf), (1, .ref pl), (2, .ref ga)]) hx hb d_BF_countParts_40 hl (by decide) rfl (fun ls hl => ?_)
        have lp_42 : ∀ (n9 : Nat) (u : Nat) (f2 : Nat → Int32) (v : Int32) (ls : Array Slot) (H : Heap) (locs : List Loc), u = n9 → (cpd hh rc on (rsi pf g rc rs) (0 : Int32) = cpd hh rc u f2 v) → (u ≤ on) → lv_has ls 7 [(4, .int (nI u - (1 : Int32))), (3, .int v), (0, .ref bf), (1, .ref pl), (2, .ref ga)] → va_P D kl [(bf, .inr (6, [.ref fo, .int lg, .ref bm, .ref bs, .ref ip, .ref bc, .ref bh, .ref br, .int (nI rc)])), (bh, .inl (cI, 856, .inl hh)), (br, .inl (cI, 8, .inl f2)), (fo, .inr (1, [.ref fq, .int (nI on), .int (107 : Int32)])), (fq, .inl (cI, 428, .inl of)), (pl, .inr (1, [.ref pa, .int (nI ct), .int (nI mo)])), (pa, .inl (cI, pz, .inl pf)), (ga, .inl (cI, 4, .inl g))] H → va_D A [(bf, .inr (6, [.ref fo, .int lg, .ref bm, .ref bs, .ref ip, .ref bc, .ref bh, .ref br, .int (nI rc)])), (bh, .inl (cI, 856, .inl hh)), (br, .inl (cI, 8, .inl f2)), (fo, .inr (1, [.ref fq, .int (nI on), .int (107 : Int32)])), (fq, .inl (cI, 428, .inl of)), (pl, .inr (1, [.ref pa, .int (nI ct), .int (nI mo)])), (pa, .inl (cI, pz, .inl pf)), (ga, .inl (cI, 4, .inl g))] → va_S A s.heap H locs → W p l e ({ frames := 2, cells := 0, slots := 0, locals := 47 } : Room) s m ([.ref bf, .ref pl, .ref ga] : List Value).toArray below meth c H locs 0 0 Q (F0 m 42 ls []) := by
          intro n9
          induction n9 using Nat.strongRecOn with
          | ind n9 ih_42 =>
            intro u f2 v ls H locs hm_42 hc9 huo hl hP hD hS
            rcases Nat.eq_zero_or_pos u with hup | hup
            · rw [show nI u - (1 : Int32) = (-1 : Int32) by rw [hup]; decide] at hl
              refine lv_iload hx hb d_BF_countParts_42 (lv_at hl 0 rfl) ?_
              refine lv_if_lt (tgt := 110) hx hb d_BF_countParts_44 (by decide) (fun _ => ?_) (fun h99 => absurd h99 (by decide))
              refine lv_iload_n hx hb d_BF_countParts_110 rfl (lv_at hl 1 rfl) ?_
              rw [← hQe]
              exact tx_mono (fun _ h => tx_Z.of h) (W.iret (v := v) hx hb hr (fun t ht hW => ⟨⟨[(bf, .inr (6, [.ref fo, .int lg, .ref bm, .ref bs, .ref ip, .ref bc, .ref bh, .ref br, .int (nI rc)])), (bh, .inl (cI, 856, .inl hh)), (br, .inl (cI, 8, .inl f2)), (fo, .inr (1, [.ref fq, .int (nI on), .int (107 : Int32)])), (fq, .inl (cI, 428, .inl of)), (pl, .inr (1, [.ref pa, .int (nI ct), .int (nI mo)])), (pa, .inl (cI, pz, .inl pf)), (ga, .inl (cI, 4, .inl g))], ⟨f2, (by rw [hc9, hup]; rfl), rfl⟩, by rw [ht]; exact hP.sub [0, 1, 2, 3, 4, 5, 6, 7] rfl, hD.sub [0, 1, 2, 3, 4, 5, 6, 7] (by decide) rfl⟩, hS.F ht⟩) hS.2.2 d_BF_countParts_111)
            · rw [show nI u - (1 : Int32) = nI (u - 1) from nI_sub (a := u) (b := 1) hup] at hl
              refine lv_iload hx hb d_BF_countParts_42 (lv_at hl 0 rfl) ?_
              refine lv_if_lt (tgt := 110) hx hb d_BF_countParts_44 (by decide) (fun h99 => absurd h99 (fun z99 => absurd ((nI_ltI (a := u - 1) (b := 0) (by omega) (by omega)).mp z99) (by omega))) (fun _ => ?_)
              refine lv_aload_n hx hb d_BF_countParts_47 rfl (lv_at hl 2 rfl) ?_
              refine lv_iload hx hb d_BF_countParts_48 (lv_at hl 0 rfl) ?_
              refine cx_call (D := D) (cl := kl) (ws := _) (wc := [(bf, .inr (6, [.ref fo, .int lg, .ref bm, .ref bs, .ref ip, .ref bc, .ref bh, .ref br, .int (nI rc)])), (bh, .inl (cI, 856, .inl hh)), (br, .inl (cI, 8, .inl f2))]) (wr := [(fo, .inr (1, [.ref fq, .int (nI on), .int (107 : Int32)])), (fq, .inl (cI, 428, .inl of)), (pl, .inr (1, [.ref pa, .int (nI ct), .int (nI mo)])), (pa, .inl (cI, pz, .inl pf)), (ga, .inl (cI, 4, .inl g))]) (tx_runV (C := cn_BF) (b := bf) (As := [.int (nI (u - 1))]) (rest := []) hx hb hml hown (c_BF_times E H.size bf fo bm bs ip bc bh br lg rc hh f2 (u - 1) (by omega) (by omega)) (cx_C (b0 := b0) G hx0 mw_689 mw_6 ny_BF_timesInRest (by decide)) (gw.at G hx0 mw_686 rfl _) (gw.at G hx0 mw_688 rfl _) (gw.at G hx0 ms_BF_timesInRest rfl _) ⟨cx_blind, va_recv hK hP (q0 := 0) (ci := 6) (q := (cn_BF, ft_BF, 9)) rfl rfl, (cx_pre (s := s) hx0 hP hD hS hA0 [0, 1, 2] rfl rfl (by decide))⟩ rfl rfl hl.1 rfl (lv_room (Nat.le_of_ble_eq_true rfl)) d_BF_countParts_50 ⟨by decide, by decide⟩) hP hD hS hA [0, 1, 2] [3, 4, 5, 6, 7] rfl rfl (by decide) (by decide) (fun v t w1 H locs ht hW9 hp hP hD hS => ?_) (fun x t w1 H locs ht hW9 hp hP hD hS => by obtain ⟨h9, -⟩ := hp; cases h9)
              obtain ⟨h9, rfl⟩ := hp
              cases h9
              refine W.eq (g2 := F0 m 53 ls [.int (jmax (tir hh f2 (u - 1) rc) (0 : Int32))]) rfl ?_
              refine W.widen (k := 0) (n := 0) (by decide) (by decide) ?_
              have hP : va_P D kl [(fo, .inr (1, [.ref fq, .int (nI on), .int (107 : Int32)])), (fq, .inl (cI, 428, .inl of)), (pl, .inr (1, [.ref pa, .int (nI ct), .int (nI mo)])), (pa, .inl (cI, pz, .inl pf)), (ga, .inl (cI, 4, .inl g)), (bf, .inr (6, [.ref fo, .int lg, .ref bm, .ref bs, .ref ip, .ref bc, .ref bh, .ref br, .int (nI rc)])), (bh, .inl (cI, 856, .inl hh)), (br, .inl (cI, 8, .inl f2))] H := hP
              have hD : va_D A [(fo, .inr (1, [.ref fq, .int (nI on), .int (107 : Int32)])), (fq, .inl (cI, 428, .inl of)), (pl, .inr (1, [.ref pa, .int (nI ct), .int (nI mo)])), (pa, .inl (cI, pz, .inl pf)), (ga, .inl (cI, 4, .inl g)), (bf, .inr (6, [.ref fo, .int lg, .ref bm, .ref bs, .ref ip, .ref bc, .ref bh, .ref br, .int (nI rc)])), (bh, .inl (cI, 856, .inl hh)), (br, .inl (cI, 8, .inl f2))] := hD
              refine lv_istore (lv' := [(5, .int (jmax (tir hh f2 (u - 1) rc) (0 : Int32))), (4, .int (nI (u - 1))), (3, .int v), (0, .ref bf), (1, .ref pl), (2, .ref ga)]) hx hb d_BF_countParts_53 hl (by decide) rfl (fun ls hl => ?_)
              refine lv_iconst (v := (0 : Int32)) hx hb d_BF_countParts_55 (by decide) ?_
              refine lv_istore (lv' := [(6, .int (0 : Int32)), (5, .int (jmax (tir hh f2 (u - 1) rc) (0 : Int32))), (4, .int (nI (u - 1))), (3, .int v), (0, .ref bf), (1, .ref pl), (2, .ref ga)]) hx hb d_BF_countParts_56 hl (by decide) rfl (fun ls hl => ?_)
              have lp_58 : ∀ (n9 : Nat) (r : Nat) (f4 : Nat → Int32) (ls : Array Slot) (H : Heap) (locs : List Loc), rc - r = n9 → (rsd hh (jmax (tir hh f2 (u - 1) rc) (0 : Int32)) (u - 1) r f2 = f4) → (r ≤ rc) → lv_has ls 7 [(6, .int (nI r)), (5, .int (jmax (tir hh f2 (u - 1) rc) (0 : Int32))), (4, .int (nI (u - 1))), (3, .int v), (0, .ref bf), (1, .ref pl), (2, .ref ga)] → va_P D kl [(fo, .inr (1, [.ref fq, .int (nI on), .int (107 : Int32)])), (fq, .inl (cI, 428, .inl of)), (pl, .inr (1, [.ref pa, .int (nI ct), .int (nI mo)])), (pa, .inl (cI, pz, .inl pf)), (ga, .inl (cI, 4, .inl g)), (bf, .inr (6, [.ref fo, .int lg, .ref bm, .ref bs, .ref ip, .ref bc, .ref bh, .ref br, .int (nI rc)])), (bh, .inl (cI, 856, .inl hh)), (br, .inl (cI, 8, .inl f4))] H → va_D A [(fo, .inr (1, [.ref fq, .int (nI on), .int (107 : Int32)])), (fq, .inl (cI, 428, .inl of)), (pl, .inr (1, [.ref pa, .int (nI ct), .int (nI mo)])), (pa, .inl (cI, pz, .inl pf)), (ga, .inl (cI, 4, .inl g)), (bf, .inr (6, [.ref fo, .int lg, .ref bm, .ref bs, .ref ip, .ref bc, .ref bh, .ref br, .int (nI rc)])), (bh, .inl (cI, 856, .inl hh)), (br, .inl (cI, 8, .inl f4))] → va_S A s.heap H locs → W p l e ({ frames := 2, cells := 0, slots := 0, locals := 47 } : Room) s m ([.ref bf, .ref pl, .ref ga] : List Value).toArray below meth c H locs 0 0 Q (F0 m 58 ls []) := by
                intro n9
                induction n9 using Nat.strongRecOn with
                | ind n9 ih_58 =>
                  intro r f4 ls H locs hm_58 he4 hr9 hl hP hD hS
                  refine lv_iload hx hb d_BF_countParts_58 (lv_at hl 0 rfl) ?_
                  refine lv_aload_n hx hb d_BF_countParts_60 rfl (lv_at hl 4 rfl) ?_
                  refine va_get (D := D) (ci := 6) (v := .int (nI rc)) (C := cn_BF) (T := ft_BF) (N := 9) hx hb hf_BF (fun _ h => h) hown hK hP 5 rfl rfl 8 (by decide) (gw.at G hx0 mw_174 rfl _) (fun _ h9 => h9) rfl d_BF_countParts_61 ?_
                  refine lv_icmp_ge (tgt := 99) hx hb d_BF_countParts_64 (by decide) (fun h_2 => ?_) (fun h_2 => ?_)
                  · have h_2 : rc ≤ r := (nI_leI (a := rc) (b := r) (by omega) (by omega)).mp h_2
                    refine lv_iload_n hx hb d_BF_countParts_99 rfl (lv_at hl 3 rfl) ?_
                    refine lv_iload hx hb d_BF_countParts_100 (lv_at hl 1 rfl) ?_
                    refine lv_iadd hx hb d_BF_countParts_102 ?_
                    refine lv_istore_n (lv' := [(3, .int (v + (jmax (tir hh f2 (u - 1) rc) (0 : Int32)))), (6, .int (nI r)), (5, .int (jmax (tir hh f2 (u - 1) rc) (0 : Int32))), (4, .int (nI (u - 1))), (0, .ref bf), (1, .ref pl), (2, .ref ga)]) hx hb d_BF_countParts_103 rfl hl (by decide) rfl (fun ls hl => ?_)
                    refine lv_iinc (lv' := [(4, .int (nI (u - 1) - (1 : Int32))), (3, .int (v + (jmax (tir hh f2 (u - 1) rc) (0 : Int32)))), (6, .int (nI r)), (5, .int (jmax (tir hh f2 (u - 1) rc) (0 : Int32))), (0, .ref bf), (1, .ref pl), (2, .ref ga)]) (k := 3) (v := nI (u - 1) - (1 : Int32)) hx hb d_BF_countParts_104 hl rfl (by rw [Int32.sub_eq_add_neg]; rfl) (by decide) rfl (fun ls hl => ?_)
                    refine lv_goto (tgt := 42) hx hb d_BF_countParts_107 (by decide) ?_
                    exact ih_42 _ (by omega) (u - 1) f4 (v + jmax (tir hh f2 (u - 1) rc) (0 : Int32)) ls H locs rfl (hc9.trans (cpd_s hup ((show r = rc by omega) ▸ he4))) (by omega) (lv_sub hl [0, 1, 4, 5, 6] rfl) (hP.sub [5, 6, 7, 0, 1, 2, 3, 4] rfl) (hD.sub [5, 6, 7, 0, 1, 2, 3, 4] (by decide) rfl) hS
                  · have h_2 : ¬ (rc ≤ r) := fun z99 => h_2 ((nI_leI (a := rc) (b := r) (by omega) (by omega)).mpr z99)
                    refine lv_aload_n hx hb d_BF_countParts_67 rfl (lv_at hl 4 rfl) ?_
                    refine va_get (D := D) (ci := 6) (v := .ref br) (C := cn_BF) (T := ft_BF) (N := 9) hx hb hf_BF (fun _ h => h) hown hK hP 5 rfl rfl 7 (by decide) (gw.at G hx0 mw_173 rfl _) (fun _ h9 => h9) rfl d_BF_countParts_68 ?_
                    refine lv_iload hx hb d_BF_countParts_71 (lv_at hl 0 rfl) ?_
                    refine lv_dup2_11 hx hb d_BF_countParts_73 rfl rfl ?_
                    refine va_iald hx hb hK hP 7 0 rfl rfl (vp_in_nI (n := r) (by omega) (by omega)) d_BF_countParts_74 ?_
                    refine tp_i (y := f4 r) (congrArg f4 (nI_clamp (n := r) (by omega))) ?_
                    refine lv_iload hx hb d_BF_countParts_75 (lv_at hl 1 rfl) ?_
                    refine lv_aload_n hx hb d_BF_countParts_77 rfl (lv_at hl 4 rfl) ?_
                    refine va_get (D := D) (ci := 6) (v := .ref bh) (C := cn_BF) (T := ft_BF) (N := 9) hx hb hf_BF (fun _ h => h) hown hK hP 5 rfl rfl 6 (by decide) (gw.at G hx0 mw_172 rfl _) (fun _ h9 => h9) rfl d_BF_countParts_78 ?_
                    refine lv_iload hx hb d_BF_countParts_81 (lv_at hl 2 rfl) ?_
                    refine lv_bipush (v := (8 : Int32)) hx hb d_BF_countParts_83 (by decide) ?_
                    refine lv_imul hx hb d_BF_countParts_85 ?_
                    refine tp_i (y := nI ((u - 1) * 8)) (nI_mul (u - 1) 8) ?_
                    refine lv_iload hx hb d_BF_countParts_86 (lv_at hl 0 rfl) ?_
                    refine lv_iadd hx hb d_BF_countParts_88 ?_
                    refine tp_i (y := nI (((u - 1) * 8) + r)) (nI_add ((u - 1) * 8) r) ?_
                    refine va_iald hx hb hK hP 6 0 rfl rfl (vp_in_nI (n := ((u - 1) * 8) + r) (by omega) (by omega)) d_BF_countParts_89 ?_
                    refine tp_i (y := hh (((u - 1) * 8) + r)) (congrArg hh (nI_clamp (n := ((u - 1) * 8) + r) (by omega))) ?_
                    refine lv_imul hx hb d_BF_countParts_90 ?_
                    refine lv_isub hx hb d_BF_countParts_91 ?_
                    refine va_iast hx hb hK hP hD hS 7 0 rfl rfl (vp_in_nI (n := r) (by omega) (by omega)) d_BF_countParts_92 (fun H locs hP hD hS => ?_)
                    rw [nI_clamp (n := r) (by omega)] at hP hD
                    have hP : va_P D kl [(fo, .inr (1, [.ref fq, .int (nI on), .int (107 : Int32)])), (fq, .inl (cI, 428, .inl of)), (pl, .inr (1, [.ref pa, .int (nI ct), .int (nI mo)])), (pa, .inl (cI, pz, .inl pf)), (ga, .inl (cI, 4, .inl g)), (bf, .inr (6, [.ref fo, .int lg, .ref bm, .ref bs, .ref ip, .ref bc, .ref bh, .ref br, .int (nI rc)])), (bh, .inl (cI, 856, .inl hh)), (br, .inl (cI, 8, .inl (upd f4 r ((f4 r) - ((jmax (tir hh f2 (u - 1) rc) (0 : Int32)) * (hh (((u - 1) * 8) + r)))))))] H := hP
                    have hD : va_D A [(fo, .inr (1, [.ref fq, .int (nI on), .int (107 : Int32)])), (fq, .inl (cI, 428, .inl of)), (pl, .inr (1, [.ref pa, .int (nI ct), .int (nI mo)])), (pa, .inl (cI, pz, .inl pf)), (ga, .inl (cI, 4, .inl g)), (bf, .inr (6, [.ref fo, .int lg, .ref bm, .ref bs, .ref ip, .ref bc, .ref bh, .ref br, .int (nI rc)])), (bh, .inl (cI, 856, .inl hh)), (br, .inl (cI, 8, .inl (upd f4 r ((f4 r) - ((jmax (tir hh f2 (u - 1) rc) (0 : Int32)) * (hh (((u - 1) * 8) + r)))))))] := hD
                    refine lv_iinc (lv' := [(6, .int (nI (r + 1))), (5, .int (jmax (tir hh f2 (u - 1) rc) (0 : Int32))), (4, .int (nI (u - 1))), (3, .int v), (0, .ref bf), (1, .ref pl), (2, .ref ga)]) (k := 0) (v := nI (r + 1)) hx hb d_BF_countParts_93 hl rfl (nI_add r 1) (by decide) rfl (fun ls hl => ?_)
                    refine lv_goto (tgt := 58) hx hb d_BF_countParts_96 (by decide) ?_
                    exact ih_58 _ (by omega) (r + 1) (upd f4 r ((f4 r) - ((jmax (tir hh f2 (u - 1) rc) (0 : Int32)) * (hh (((u - 1) * 8) + r))))) ls H locs rfl (rsd_s he4) (by omega) (lv_sub hl [0, 1, 2, 3, 4, 5, 6] rfl) (hP.sub [0, 1, 2, 3, 4, 5, 6, 7] rfl) (hD.sub [0, 1, 2, 3, 4, 5, 6, 7] (by decide) rfl) hS
              exact lp_58 _ 0 f2 ls H locs rfl rfl (Nat.zero_le _) (lv_sub hl [0, 1, 2, 3, 4, 5, 6] rfl) (hP.sub [0, 1, 2, 3, 4, 5, 6, 7] rfl) (hD.sub [0, 1, 2, 3, 4, 5, 6, 7] (by decide) rfl) hS
        exact lp_42 _ on (rsi pf g rc rs) 0 ls H locs rfl rfl (Nat.le_refl _) (lv_sub hl [0, 1, 2, 3, 4] rfl) (hP.sub [0, 1, 2, 3, 4, 5, 6, 7] rfl) (hD.sub [0, 1, 2, 3, 4, 5, 6, 7] (by decide) rfl) hS
      · have h_1 : ¬ (rc ≤ r) := fun z99 => h_1 ((nI_leI (a := rc) (b := r) (by omega) (by omega)).mpr z99)
        refine lv_aload_n hx hb d_BF_countParts_10 rfl (lv_at hl 1 rfl) ?_
        refine va_get (D := D) (ci := 6) (v := .ref br) (C := cn_BF) (T := ft_BF) (N := 9) hx hb hf_BF (fun _ h => h) hown hK hP 0 rfl rfl 7 (by decide) (gw.at G hx0 mw_173 rfl _) (fun _ h9 => h9) rfl d_BF_countParts_11 ?_
        refine lv_iload_n hx hb d_BF_countParts_14 rfl (lv_at hl 0 rfl) ?_
        refine lv_aload_n hx hb d_BF_countParts_15 rfl (lv_at hl 2 rfl) ?_
        refine lv_iload_n hx hb d_BF_countParts_16 rfl (lv_at hl 0 rfl) ?_
        refine lv_aload_n hx hb d_BF_countParts_17 rfl (lv_at hl 3 rfl) ?_
        refine cx_call (D := D) (cl := kl) (ws := _) (wc := [(pl, .inr (1, [.ref pa, .int (nI ct), .int (nI mo)])), (pa, .inl (cI, pz, .inl pf)), (ga, .inl (cI, 4, .inl g))]) (wr := [(bf, .inr (6, [.ref fo, .int lg, .ref bm, .ref bs, .ref ip, .ref bc, .ref bh, .ref br, .int (nI rc)])), (bh, .inl (cI, 856, .inl hh)), (br, .inl (cI, 8, .inl f2)), (fo, .inr (1, [.ref fq, .int (nI on), .int (107 : Int32)])), (fq, .inl (cI, 428, .inl of))]) (tx_runV (C := cn_PL) (b := pl) (As := [.int (nI r), .ref ga]) (rest := [.int (nI r), .ref br]) hx hb hml hown (c_PL_product E H.size pl pa ct mo pz pf r ga g hpz hmo hct (by omega)) (cx_C (b0 := b0) G hx0 mw_247 mw_3 ny_PL_product (by decide)) (gw.at G hx0 mw_596 rfl _) (gw.at G hx0 mw_245 rfl _) (gw.at G hx0 mw_246 rfl _) ⟨cx_blind, va_recv hK hP (q0 := 5) (ci := 1) (q := (cn_PL, ft_PL, 3)) rfl rfl, (cx_pre (s := s) hx0 hP hD hS hA0 [5, 6, 7] rfl rfl (by decide))⟩ rfl rfl hl.1 rfl (lv_room (Nat.le_of_ble_eq_true rfl)) d_BF_countParts_18 ⟨by decide, by decide⟩) hP hD hS hA [5, 6, 7] [0, 1, 2, 3, 4] rfl rfl (by decide) (by decide) (fun v t w1 H locs ht hW9 hp hP hD hS => ?_) (fun x t w1 H locs ht hW9 hp hP hD hS => by obtain ⟨h9, -⟩ := hp; cases h9)
        obtain ⟨h9, rfl⟩ := hp
        cases h9
        refine W.eq (g2 := F0 m 21 ls [.long (pr4 pf r g), .int (nI r), .ref br]) rfl ?_
        refine W.widen (k := 0) (n := 0) (by decide) (by decide) ?_
        have hP : va_P D kl [(bf, .inr (6, [.ref fo, .int lg, .ref bm, .ref bs, .ref ip, .ref bc, .ref bh, .ref br, .int (nI rc)])), (bh, .inl (cI, 856, .inl hh)), (br, .inl (cI, 8, .inl f2)), (fo, .inr (1, [.ref fq, .int (nI on), .int (107 : Int32)])), (fq, .inl (cI, 428, .inl of)), (pl, .inr (1, [.ref pa, .int (nI ct), .int (nI mo)])), (pa, .inl (cI, pz, .inl pf)), (ga, .inl (cI, 4, .inl g))] H := hP
        have hD : va_D A [(bf, .inr (6, [.ref fo, .int lg, .ref bm, .ref bs, .ref ip, .ref bc, .ref bh, .ref br, .int (nI rc)])), (bh, .inl (cI, 856, .inl hh)), (br, .inl (cI, 8, .inl f2)), (fo, .inr (1, [.ref fq, .int (nI on), .int (107 : Int32)])), (fq, .inl (cI, 428, .inl of)), (pl, .inr (1, [.ref pa, .int (nI ct), .int (nI mo)])), (pa, .inl (cI, pz, .inl pf)), (ga, .inl (cI, 4, .inl g))] := hD
        refine lv_l2i (v := (pr4 pf r g).toInt32) hx hb d_BF_countParts_21 rfl ?_
        refine va_iast hx hb hK hP hD hS 2 0 rfl rfl (vp_in_nI (n := r) (by omega) (by omega)) d_BF_countParts_22 (fun H locs hP hD hS => ?_)
        rw [nI_clamp (n := r) (by omega)] at hP hD
        have hP : va_P D kl [(bf, .inr (6, [.ref fo, .int lg, .ref bm, .ref bs, .ref ip, .ref bc, .ref bh, .ref br, .int (nI rc)])), (bh, .inl (cI, 856, .inl hh)), (br, .inl (cI, 8, .inl (upd f2 r ((pr4 pf r g).toInt32)))), (fo, .inr (1, [.ref fq, .int (nI on), .int (107 : Int32)])), (fq, .inl (cI, 428, .inl of)), (pl, .inr (1, [.ref pa, .int (nI ct), .int (nI mo)])), (pa, .inl (cI, pz, .inl pf)), (ga, .inl (cI, 4, .inl g))] H := hP
        have hD : va_D A [(bf, .inr (6, [.ref fo, .int lg, .ref bm, .ref bs, .ref ip, .ref bc, .ref bh, .ref br, .int (nI rc)])), (bh, .inl (cI, 856, .inl hh)), (br, .inl (cI, 8, .inl (upd f2 r ((pr4 pf r g).toInt32)))), (fo, .inr (1, [.ref fq, .int (nI on), .int (107 : Int32)])), (fq, .inl (cI, 428, .inl of)), (pl, .inr (1, [.ref pa, .int (nI ct), .int (nI mo)])), (pa, .inl (cI, pz, .inl pf)), (ga, .inl (cI, 4, .inl g))] := hD
        refine lv_iinc (lv' := [(3, .int (nI (r + 1))), (0, .ref bf), (1, .ref pl), (2, .ref ga)]) (k := 0) (v := nI (r + 1)) hx hb d_BF_countParts_23 hl rfl (nI_add r 1) (by decide) rfl (fun ls hl => ?_)
        refine lv_goto (tgt := 2) hx hb d_BF_countParts_26 (by decide) ?_
        exact ih_2 _ (by omega) (r + 1) (upd f2 r ((pr4 pf r g).toInt32)) ls H locs rfl (rsi_s he) (by omega) (lv_sub hl [0, 1, 2, 3] rfl) (hP.sub [0, 1, 2, 3, 4, 5, 6, 7] rfl) (hD.sub [0, 1, 2, 3, 4, 5, 6, 7] (by decide) rfl) hS
  exact lp_2 _ 0 rs ls s.heap [] rfl rfl (Nat.zero_le _) (lv_sub hl [0, 1, 2, 3] rfl) (hP.sub [0, 1, 2, 3, 4, 5, 6, 7] rfl) (hD.sub [0, 1, 2, 3, 4, 5, 6, 7] (by decide) rfl) hS

