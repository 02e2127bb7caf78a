/-! ===== own rows, laid by wip/tools/g45.py: the reference's calls ===== -/
def inR (w : Int32) (n : Nat) : Prop := ¬ w < 0 ∧ w < nI n
theorem in_ne {w : Int32} {n : Nat} (h : ¬ inR w n) : w < 0 ∨ nI n ≤ w := by
  by_cases h1 : w < 0
  · exact Or.inl h1
  · exact Or.inr (Int32.not_lt.mp (fun z => h ⟨h1, z⟩))
set_option maxHeartbeats 4000000 in
set_option maxRecDepth 100000 in
theorem c_M_rays {l : Launch} {s0 : State} {b0 : Addr} {D : va_G} {cI cJ cZ : ClassId} {tC tS : Nat} (E : gE l s0 b0 D cI cJ cZ tC tS) (sz : Nat) (am : MA) (cm : MC) (hT9 : MTH) (hJ : MJ cm) : cx_M l s0 D kl y_M_rays b_M_rays 1 (some .int) ({ frames := 6, cells := 0, slots := 0, locals := 153 } : Room) 0 0 [.ref am.m0] [(am.m0, .inr (7, [.int cm.th, .int (nI cm.zs), .int (nI cm.rn), .ref am.rw, .int (nI cm.kn), .int (nI cm.rk), .int (nI cm.yn), .ref am.ry, .int (nI cm.sp), .int (nI cm.lg), .ref am.ti, .int (nI cm.fo), .int (nI cm.pt), .ref am.po, .ref am.su, .ref am.sq, .ref am.ch, .ref am.vt, .ref am.sh])), (am.rw, .inl (cI, 32, .inl cm.wf)), (am.ry, .inl (cI, 256, .inl cm.yf)), (am.ti, .inl (cI, 8, .inl cm.tf)), (am.po, .inl (cI, 4000, .inl cm.pf)), (am.su, .inl (cZ, 1000, .inl cm.sf)), (am.sq, .inl (cJ, 256, .inr (.inl cm.qf))), (am.ch, .inl (cI, 8, .inl (nf cm.ck))), (am.vt, .inl (cI, 4, .inl cm.vf)), (am.sh, .inl (cI, 4, .inl (nf cm.sk)))] sz (fun o9 t9 w9 => (∃ (c9 : MC), o9 = .returned (some (.int (0 : Int32))) ∧ MJ c9 ∧ MS cm c9 ∧ c9.kn = 1 ∧ c9.rk < c9.zs ∧ c9.th = 1 ∧ w9 = [(am.m0, .inr (7, [.int c9.th, .int (nI c9.zs), .int (nI c9.rn), .ref am.rw, .int (nI c9.kn), .int (nI c9.rk), .int (nI c9.yn), .ref am.ry, .int (nI c9.sp), .int (nI c9.lg), .ref am.ti, .int (nI c9.fo), .int (nI c9.pt), .ref am.po, .ref am.su, .ref am.sq, .ref am.ch, .ref am.vt, .ref am.sh])), (am.rw, .inl (cI, 32, .inl c9.wf)), (am.ry, .inl (cI, 256, .inl c9.yf)), (am.ti, .inl (cI, 8, .inl c9.tf)), (am.po, .inl (cI, 4000, .inl c9.pf)), (am.su, .inl (cZ, 1000, .inl c9.sf)), (am.sq, .inl (cJ, 256, .inr (.inl c9.qf))), (am.ch, .inl (cI, 8, .inl (nf c9.ck))), (am.vt, .inl (cI, 4, .inl c9.vf)), (am.sh, .inl (cI, 4, .inl (nf c9.sk)))]) ∨ (∃ (c9 : MC), o9 = .returned (some (.int (nI c9.yn))) ∧ MJ c9 ∧ MS cm c9 ∧ c9.kn = 1 ∧ c9.zs ≤ c9.rk ∧ c9.th = 0 ∧ w9 = [(am.m0, .inr (7, [.int c9.th, .int (nI c9.zs), .int (nI c9.rn), .ref am.rw, .int (nI c9.kn), .int (nI c9.rk), .int (nI c9.yn), .ref am.ry, .int (nI c9.sp), .int (nI c9.lg), .ref am.ti, .int (nI c9.fo), .int (nI c9.pt), .ref am.po, .ref am.su, .ref am.sq, .ref am.ch, .ref am.vt, .ref am.sh])), (am.rw, .inl (cI, 32, .inl c9.wf)), (am.ry, .inl (cI, 256, .inl c9.yf)), (am.ti, .inl (cI, 8, .inl c9.tf)), (am.po, .inl (cI, 4000, .inl c9.pf)), (am.su, .inl (cZ, 1000, .inl c9.sf)), (am.sq, .inl (cJ, 256, .inr (.inl c9.qf))), (am.ch, .inl (cI, 8, .inl (nf c9.ck))), (am.vt, .inl (cI, 4, .inl c9.vf)), (am.sh, .inl (cI, 4, .inl (nf c9.sk)))])) := by
  refine tx_ofW (cc := b_M_rays) (maxL := 1) (ret := (some .int)) (by decide) rfl ?_
  intro p e s m args below meth c s₁ B hml hT hv
  obtain ⟨rfl, hsz, hP, hD0, hx0⟩ := hv
  have hx := B.exec
  have hb := B.bytes
  have hr := B.returns
  have G := E.2.1
  have hown : s.vm.findClass cn_M = some m.cls := findClass_of_methodNamed B.named
  have hlocks := B.notSynchronized
  have hK := va_K.moved hx0.1.alike E.2.2.1
  have hf_M : ∀ w99 ∈ u_ws cn_M ft_M 19, w99.before ([.ref am.m0] : List Value).toArray s = true := fun w99 h99 => gw.at G hx0 (fw_M w99 h99) (fo_M w99 h99) _
  subst hsz
  have hA0 := cx_new hD0 hx0.2.1
  have hD := hD0.self (sz := s.heap.size)
  generalize hAe : va_A [(am.m0, .inr (7, [.int cm.th, .int (nI cm.zs), .int (nI cm.rn), .ref am.rw, .int (nI cm.kn), .int (nI cm.rk), .int (nI cm.yn), .ref am.ry, .int (nI cm.sp), .int (nI cm.lg), .ref am.ti, .int (nI cm.fo), .int (nI cm.pt), .ref am.po, .ref am.su, .ref am.sq, .ref am.ch, .ref am.vt, .ref am.sh])), (am.rw, .inl (cI, 32, .inl cm.wf)), (am.ry, .inl (cI, 256, .inl cm.yf)), (am.ti, .inl (cI, 8, .inl cm.tf)), (am.po, .inl (cI, 4000, .inl cm.pf)), (am.su, .inl (cZ, 1000, .inl cm.sf)), (am.sq, .inl (cJ, 256, .inr (.inl cm.qf))), (am.ch, .inl (cI, 8, .inl (nf cm.ck))), (am.vt, .inl (cI, 4, .inl cm.vf)), (am.sh, .inl (cI, 4, .inl (nf cm.sk)))] s.heap.size = A at hD hA0 ⊢
  have hA : ∀ q : Nat, s.heap.size ≤ q → A q := fun q h => by rw [← hAe]; exact Or.inr h
  have hS : va_S A s.heap s.heap [] := va_S.rf
  have hl := lv_entry ([.ref am.m0]) (n := 1) (Nat.le_of_ble_eq_true rfl)
  rw [lg_entry_eq]
  generalize (lg_sl ([.ref am.m0]) ++ List.replicate (1 - (lg_sl ([.ref am.m0])).length) Slot.unset).toArray = ls at hl ⊢
  have hl : lv_has ls 1 [(0, .ref am.m0)] := hl
  have hP : va_P D kl [(am.m0, .inr (7, [.int cm.th, .int (nI cm.zs), .int (nI cm.rn), .ref am.rw, .int (nI cm.kn), .int (nI cm.rk), .int (nI cm.yn), .ref am.ry, .int (nI cm.sp), .int (nI cm.lg), .ref am.ti, .int (nI cm.fo), .int (nI cm.pt), .ref am.po, .ref am.su, .ref am.sq, .ref am.ch, .ref am.vt, .ref am.sh])), (am.rw, .inl (cI, 32, .inl cm.wf)), (am.ry, .inl (cI, 256, .inl cm.yf)), (am.ti, .inl (cI, 8, .inl cm.tf)), (am.po, .inl (cI, 4000, .inl cm.pf)), (am.su, .inl (cZ, 1000, .inl cm.sf)), (am.sq, .inl (cJ, 256, .inr (.inl cm.qf))), (am.ch, .inl (cI, 8, .inl (nf cm.ck))), (am.vt, .inl (cI, 4, .inl cm.vf)), (am.sh, .inl (cI, 4, .inl (nf cm.sk)))] s.heap := hP
  have hml : c.maxLocals = 1 := hml
  have hz2 := hJ.z2
  have hz4 := hJ.z4
  have hr8 := hJ.r8
  have hkn := hJ.kn
  have hrk := hJ.rk
  have hyn := hJ.yn
  have hsp := hJ.sp
  have hlg := hJ.lg
  have hfo := hJ.fo
  have hpt := hJ.pt
  have hck := hJ.ck
  have hsk := hJ.sk
  have hro := hJ.ro
  refine lv_aload_n hx hb d_M_rays_0 rfl (lv_at hl 0 rfl) ?_
  refine lv_iconst (v := (1 : Int32)) hx hb d_M_rays_1 (by decide) ?_
  refine cx_call (D := D) (cl := kl) (ws := _) (wc := [(am.m0, .inr (7, [.int cm.th, .int (nI cm.zs), .int (nI cm.rn), .ref am.rw, .int (nI cm.kn), .int (nI cm.rk), .int (nI cm.yn), .ref am.ry, .int (nI cm.sp), .int (nI cm.lg), .ref am.ti, .int (nI cm.fo), .int (nI cm.pt), .ref am.po, .ref am.su, .ref am.sq, .ref am.ch, .ref am.vt, .ref am.sh])), (am.rw, .inl (cI, 32, .inl cm.wf)), (am.ry, .inl (cI, 256, .inl cm.yf)), (am.ti, .inl (cI, 8, .inl cm.tf)), (am.po, .inl (cI, 4000, .inl cm.pf)), (am.su, .inl (cZ, 1000, .inl cm.sf)), (am.sq, .inl (cJ, 256, .inr (.inl cm.qf))), (am.ch, .inl (cI, 8, .inl (nf cm.ck))), (am.vt, .inl (cI, 4, .inl cm.vf)), (am.sh, .inl (cI, 4, .inl (nf cm.sk)))]) (wr := []) (tx_runV (C := cn_M) (b := am.m0) (As := [.int (1 : Int32)]) (rest := []) hx hb hml hown (c_M_pointed1 E s.heap.size am cm hT9 hJ) (cx_C (b0 := b0) G hx0 mw_881 mw_9 ny_M_pointed (by decide)) (gw.at G hx0 mw_878 rfl _) (gw.at G hx0 mw_880 rfl _) (gw.at G hx0 ms_M_pointed rfl _) ⟨cx_blind, va_recv hK hP (q0 := 0) (ci := 7) (q := (cn_M, ft_M, 19)) rfl rfl, (cx_pre (s := s) hx0 hP hD hS hA0 [0, 1, 2, 3, 4, 5, 6, 7, 8, 9] rfl rfl (by decide))⟩ rfl rfl hl.1 rfl (lv_room (Nat.le_of_ble_eq_true rfl)) d_M_rays_2 ⟨by decide, by decide⟩) hP hD hS hA [0, 1, 2, 3, 4, 5, 6, 7, 8, 9] [] rfl rfl (by decide) (by decide) (fun v t w1 H locs ht hW9 hp hP hD hS => ?_) (fun x t w1 H locs ht hW9 hp hP hD hS => ?_)
  · rcases hp with hp | hp
    · obtain ⟨c9_1, h9, f_2, f_3, f_4, f_5, f_6, rfl⟩ := hp
      cases h9
      refine W.eq (g2 := F0 m 5 ls [.int (1 : Int32)]) rfl ?_
      refine W.widen (k := 0) (n := 0) (by decide) (by decide) ?_
      have hP : va_P D kl [(am.m0, .inr (7, [.int c9_1.th, .int (nI c9_1.zs), .int (nI c9_1.rn), .ref am.rw, .int (nI c9_1.kn), .int (nI c9_1.rk), .int (nI c9_1.yn), .ref am.ry, .int (nI c9_1.sp), .int (nI c9_1.lg), .ref am.ti, .int (nI c9_1.fo), .int (nI c9_1.pt), .ref am.po, .ref am.su, .ref am.sq, .ref am.ch, .ref am.vt, .ref am.sh])), (am.rw, .inl (cI, 32, .inl c9_1.wf)), (am.ry, .inl (cI, 256, .inl c9_1.yf)), (am.ti, .inl (cI, 8, .inl c9_1.tf)), (am.po, .inl (cI, 4000, .inl c9_1.pf)), (am.su, .inl (cZ, 1000, .inl c9_1.sf)), (am.sq, .inl (cJ, 256, .inr (.inl c9_1.qf))), (am.ch, .inl (cI, 8, .inl (nf c9_1.ck))), (am.vt, .inl (cI, 4, .inl c9_1.vf)), (am.sh, .inl (cI, 4, .inl (nf c9_1.sk)))] H := hP
      have hD : va_D A [(am.m0, .inr (7, [.int c9_1.th, .int (nI c9_1.zs), .int (nI c9_1.rn), .ref am.rw, .int (nI c9_1.kn), .int (nI c9_1.rk), .int (nI c9_1.yn), .ref am.ry, .int (nI c9_1.sp), .int (nI c9_1.lg), .ref am.ti, .int (nI c9_1.fo), .int (nI c9_1.pt), .ref am.po, .ref am.su, .ref am.sq, .ref am.ch, .ref am.vt, .ref am.sh])), (am.rw, .inl (cI, 32, .inl c9_1.wf)), (am.ry, .inl (cI, 256, .inl c9_1.yf)), (am.ti, .inl (cI, 8, .inl c9_1.tf)), (am.po, .inl (cI, 4000, .inl c9_1.pf)), (am.su, .inl (cZ, 1000, .inl c9_1.sf)), (am.sq, .inl (cJ, 256, .inr (.inl c9_1.qf))), (am.ch, .inl (cI, 8, .inl (nf c9_1.ck))), (am.vt, .inl (cI, 4, .inl c9_1.vf)), (am.sh, .inl (cI, 4, .inl (nf c9_1.sk)))] := hD
      have hJ1 := f_2
      have hS1 := f_3
      have hk1 : c9_1.kn = 1 := f_4
      have hz2 := hJ1.z2
      have hz4 := hJ1.z4
      have hr8 := hJ1.r8
      have hkn := hJ1.kn
      have hrk := hJ1.rk
      have hyn := hJ1.yn
      have hsp := hJ1.sp
      have hlg := hJ1.lg
      have hfo := hJ1.fo
      have hpt := hJ1.pt
      have hck := hJ1.ck
      have hsk := hJ1.sk
      have hro := hJ1.ro
      refine lv_if_eq (tgt := 15) hx hb d_M_rays_5 (by decide) (fun h99 => absurd h99 (by decide)) (fun _ => ?_)
      refine lv_aload_n hx hb d_M_rays_8 rfl (lv_at hl 0 rfl) ?_
      refine va_get (D := D) (ci := 7) (v := .int (nI c9_1.yn)) (C := cn_M) (T := ft_M) (N := 19) hx hb hf_M (fun _ h => h) hown hK hP 0 rfl rfl 6 (by decide) (gw.at G hx0 mw_719 rfl _) (fun _ h9 => h9) rfl d_M_rays_9 ?_
      refine lv_goto (tgt := 16) hx hb d_M_rays_12 (by decide) ?_
      exact tx_mono (fun _ h => tx_Z.of h) (W.iret (v := nI c9_1.yn) hx hb hr (fun t ht hW => ⟨⟨[(am.m0, .inr (7, [.int c9_1.th, .int (nI c9_1.zs), .int (nI c9_1.rn), .ref am.rw, .int (nI c9_1.kn), .int (nI c9_1.rk), .int (nI c9_1.yn), .ref am.ry, .int (nI c9_1.sp), .int (nI c9_1.lg), .ref am.ti, .int (nI c9_1.fo), .int (nI c9_1.pt), .ref am.po, .ref am.su, .ref am.sq, .ref am.ch, .ref am.vt, .ref am.sh])), (am.rw, .inl (cI, 32, .inl c9_1.wf)), (am.ry, .inl (cI, 256, .inl c9_1.yf)), (am.ti, .inl (cI, 8, .inl c9_1.tf)), (am.po, .inl (cI, 4000, .inl c9_1.pf)), (am.su, .inl (cZ, 1000, .inl c9_1.sf)), (am.sq, .inl (cJ, 256, .inr (.inl c9_1.qf))), (am.ch, .inl (cI, 8, .inl (nf c9_1.ck))), (am.vt, .inl (cI, 4, .inl c9_1.vf)), (am.sh, .inl (cI, 4, .inl (nf c9_1.sk)))], Or.inr (⟨c9_1, rfl, hJ1, hS1, hk1, f_5, f_6, rfl⟩), by rw [ht]; exact hP.sub [0, 1, 2, 3, 4, 5, 6, 7, 8, 9] rfl, hD.sub [0, 1, 2, 3, 4, 5, 6, 7, 8, 9] (by decide) rfl⟩, hS.F ht⟩) hS.2.2 d_M_rays_16)
    · obtain ⟨c9_7, h9, f_8, f_9, f_10, f_11, f_12, rfl⟩ := hp
      cases h9
      refine W.eq (g2 := F0 m 5 ls [.int (0 : Int32)]) rfl ?_
      refine W.widen (k := 0) (n := 0) (by decide) (by decide) ?_
      have hP : va_P D kl [(am.m0, .inr (7, [.int c9_7.th, .int (nI c9_7.zs), .int (nI c9_7.rn), .ref am.rw, .int (nI c9_7.kn), .int (nI c9_7.rk), .int (nI c9_7.yn), .ref am.ry, .int (nI c9_7.sp), .int (nI c9_7.lg), .ref am.ti, .int (nI c9_7.fo), .int (nI c9_7.pt), .ref am.po, .ref am.su, .ref am.sq, .ref am.ch, .ref am.vt, .ref am.sh])), (am.rw, .inl (cI, 32, .inl c9_7.wf)), (am.ry, .inl (cI, 256, .inl c9_7.yf)), (am.ti, .inl (cI, 8, .inl c9_7.tf)), (am.po, .inl (cI, 4000, .inl c9_7.pf)), (am.su, .inl (cZ, 1000, .inl c9_7.sf)), (am.sq, .inl (cJ, 256, .inr (.inl c9_7.qf))), (am.ch, .inl (cI, 8, .inl (nf c9_7.ck))), (am.vt, .inl (cI, 4, .inl c9_7.vf)), (am.sh, .inl (cI, 4, .inl (nf c9_7.sk)))] H := hP
      have hD : va_D A [(am.m0, .inr (7, [.int c9_7.th, .int (nI c9_7.zs), .int (nI c9_7.rn), .ref am.rw, .int (nI c9_7.kn), .int (nI c9_7.rk), .int (nI c9_7.yn), .ref am.ry, .int (nI c9_7.sp), .int (nI c9_7.lg), .ref am.ti, .int (nI c9_7.fo), .int (nI c9_7.pt), .ref am.po, .ref am.su, .ref am.sq, .ref am.ch, .ref am.vt, .ref am.sh])), (am.rw, .inl (cI, 32, .inl c9_7.wf)), (am.ry, .inl (cI, 256, .inl c9_7.yf)), (am.ti, .inl (cI, 8, .inl c9_7.tf)), (am.po, .inl (cI, 4000, .inl c9_7.pf)), (am.su, .inl (cZ, 1000, .inl c9_7.sf)), (am.sq, .inl (cJ, 256, .inr (.inl c9_7.qf))), (am.ch, .inl (cI, 8, .inl (nf c9_7.ck))), (am.vt, .inl (cI, 4, .inl c9_7.vf)), (am.sh, .inl (cI, 4, .inl (nf c9_7.sk)))] := hD
      have hJ1 := f_8
      have hS1 := f_9
      have hk1 : c9_7.kn = 1 := f_10
      have hz2 := hJ1.z2
      have hz4 := hJ1.z4
      have hr8 := hJ1.r8
      have hkn := hJ1.kn
      have hrk := hJ1.rk
      have hyn := hJ1.yn
      have hsp := hJ1.sp
      have hlg := hJ1.lg
      have hfo := hJ1.fo
      have hpt := hJ1.pt
      have hck := hJ1.ck
      have hsk := hJ1.sk
      have hro := hJ1.ro
      refine lv_if_eq (tgt := 15) hx hb d_M_rays_5 (by decide) (fun _ => ?_) (fun h99 => absurd h99 (by decide))
      refine lv_iconst (v := (0 : Int32)) hx hb d_M_rays_15 (by decide) ?_
      exact tx_mono (fun _ h => tx_Z.of h) (W.iret (v := (0 : Int32)) hx hb hr (fun t ht hW => ⟨⟨[(am.m0, .inr (7, [.int c9_7.th, .int (nI c9_7.zs), .int (nI c9_7.rn), .ref am.rw, .int (nI c9_7.kn), .int (nI c9_7.rk), .int (nI c9_7.yn), .ref am.ry, .int (nI c9_7.sp), .int (nI c9_7.lg), .ref am.ti, .int (nI c9_7.fo), .int (nI c9_7.pt), .ref am.po, .ref am.su, .ref am.sq, .ref am.ch, .ref am.vt, .ref am.sh])), (am.rw, .inl (cI, 32, .inl c9_7.wf)), (am.ry, .inl (cI, 256, .inl c9_7.yf)), (am.ti, .inl (cI, 8, .inl c9_7.tf)), (am.po, .inl (cI, 4000, .inl c9_7.pf)), (am.su, .inl (cZ, 1000, .inl c9_7.sf)), (am.sq, .inl (cJ, 256, .inr (.inl c9_7.qf))), (am.ch, .inl (cI, 8, .inl (nf c9_7.ck))), (am.vt, .inl (cI, 4, .inl c9_7.vf)), (am.sh, .inl (cI, 4, .inl (nf c9_7.sk)))], Or.inl (⟨c9_7, rfl, hJ1, hS1, hk1, f_11, f_12, rfl⟩), by rw [ht]; exact hP.sub [0, 1, 2, 3, 4, 5, 6, 7, 8, 9] rfl, hD.sub [0, 1, 2, 3, 4, 5, 6, 7, 8, 9] (by decide) rfl⟩, hS.F ht⟩) hS.2.2 d_M_rays_16)
  · rcases hp with hp | hp
    · obtain ⟨_, h9, -⟩ := hp; cases h9
    · obtain ⟨_, h9, -⟩ := hp; cases h9

set_option maxHeartbeats 4000000 in
set_option maxRecDepth 100000 in
theorem c_M_size {l : Launch} {s0 : State} {b0 : Addr} {D : va_G} {cI cJ cZ : ClassId} {tC tS : Nat} (E : gE l s0 b0 D cI cJ cZ tC tS) (sz : Nat) (am : MA) (cm : MC) (hT9 : MTH) (hJ : MJ cm) : cx_M l s0 D kl y_M_size b_M_size 1 (some .int) ({ frames := 6, cells := 0, slots := 0, locals := 153 } : Room) 0 0 [.ref am.m0] [(am.m0, .inr (7, [.int cm.th, .int (nI cm.zs), .int (nI cm.rn), .ref am.rw, .int (nI cm.kn), .int (nI cm.rk), .int (nI cm.yn), .ref am.ry, .int (nI cm.sp), .int (nI cm.lg), .ref am.ti, .int (nI cm.fo), .int (nI cm.pt), .ref am.po, .ref am.su, .ref am.sq, .ref am.ch, .ref am.vt, .ref am.sh])), (am.rw, .inl (cI, 32, .inl cm.wf)), (am.ry, .inl (cI, 256, .inl cm.yf)), (am.ti, .inl (cI, 8, .inl cm.tf)), (am.po, .inl (cI, 4000, .inl cm.pf)), (am.su, .inl (cZ, 1000, .inl cm.sf)), (am.sq, .inl (cJ, 256, .inr (.inl cm.qf))), (am.ch, .inl (cI, 8, .inl (nf cm.ck))), (am.vt, .inl (cI, 4, .inl cm.vf)), (am.sh, .inl (cI, 4, .inl (nf cm.sk)))] sz (fun o9 t9 w9 => (∃ (c9 : MC), o9 = .returned (some (.int (0 : Int32))) ∧ MJ c9 ∧ MS cm c9 ∧ c9.kn = 1 ∧ c9.rk < c9.zs ∧ c9.th = 1 ∧ w9 = [(am.m0, .inr (7, [.int c9.th, .int (nI c9.zs), .int (nI c9.rn), .ref am.rw, .int (nI c9.kn), .int (nI c9.rk), .int (nI c9.yn), .ref am.ry, .int (nI c9.sp), .int (nI c9.lg), .ref am.ti, .int (nI c9.fo), .int (nI c9.pt), .ref am.po, .ref am.su, .ref am.sq, .ref am.ch, .ref am.vt, .ref am.sh])), (am.rw, .inl (cI, 32, .inl c9.wf)), (am.ry, .inl (cI, 256, .inl c9.yf)), (am.ti, .inl (cI, 8, .inl c9.tf)), (am.po, .inl (cI, 4000, .inl c9.pf)), (am.su, .inl (cZ, 1000, .inl c9.sf)), (am.sq, .inl (cJ, 256, .inr (.inl c9.qf))), (am.ch, .inl (cI, 8, .inl (nf c9.ck))), (am.vt, .inl (cI, 4, .inl c9.vf)), (am.sh, .inl (cI, 4, .inl (nf c9.sk)))]) ∨ (∃ (c9 : MC), o9 = .returned (some (.int (nI c9.sp))) ∧ MJ c9 ∧ MS cm c9 ∧ c9.kn = 1 ∧ c9.zs ≤ c9.rk ∧ c9.th = 0 ∧ w9 = [(am.m0, .inr (7, [.int c9.th, .int (nI c9.zs), .int (nI c9.rn), .ref am.rw, .int (nI c9.kn), .int (nI c9.rk), .int (nI c9.yn), .ref am.ry, .int (nI c9.sp), .int (nI c9.lg), .ref am.ti, .int (nI c9.fo), .int (nI c9.pt), .ref am.po, .ref am.su, .ref am.sq, .ref am.ch, .ref am.vt, .ref am.sh])), (am.rw, .inl (cI, 32, .inl c9.wf)), (am.ry, .inl (cI, 256, .inl c9.yf)), (am.ti, .inl (cI, 8, .inl c9.tf)), (am.po, .inl (cI, 4000, .inl c9.pf)), (am.su, .inl (cZ, 1000, .inl c9.sf)), (am.sq, .inl (cJ, 256, .inr (.inl c9.qf))), (am.ch, .inl (cI, 8, .inl (nf c9.ck))), (am.vt, .inl (cI, 4, .inl c9.vf)), (am.sh, .inl (cI, 4, .inl (nf c9.sk)))])) := by
  refine tx_ofW (cc := b_M_size) (maxL := 1) (ret := (some .int)) (by decide) rfl ?_
  intro p e s m args below meth c s₁ B hml hT hv
  obtain ⟨rfl, hsz, hP, hD0, hx0⟩ := hv
  have hx := B.exec
  have hb := B.bytes
  have hr := B.returns
  have G := E.2.1
  have hown : s.vm.findClass cn_M = some m.cls := findClass_of_methodNamed B.named
  have hlocks := B.notSynchronized
  have hK := va_K.moved hx0.1.alike E.2.2.1
  have hf_M : ∀ w99 ∈ u_ws cn_M ft_M 19, w99.before ([.ref am.m0] : List Value).toArray s = true := fun w99 h99 => gw.at G hx0 (fw_M w99 h99) (fo_M w99 h99) _
  subst hsz
  have hA0 := cx_new hD0 hx0.2.1
  have hD := hD0.self (sz := s.heap.size)
  generalize hAe : va_A [(am.m0, .inr (7, [.int cm.th, .int (nI cm.zs), .int (nI cm.rn), .ref am.rw, .int (nI cm.kn), .int (nI cm.rk), .int (nI cm.yn), .ref am.ry, .int (nI cm.sp), .int (nI cm.lg), .ref am.ti, .int (nI cm.fo), .int (nI cm.pt), .ref am.po, .ref am.su, .ref am.sq, .ref am.ch, .ref am.vt, .ref am.sh])), (am.rw, .inl (cI, 32, .inl cm.wf)), (am.ry, .inl (cI, 256, .inl cm.yf)), (am.ti, .inl (cI, 8, .inl cm.tf)), (am.po, .inl (cI, 4000, .inl cm.pf)), (am.su, .inl (cZ, 1000, .inl cm.sf)), (am.sq, .inl (cJ, 256, .inr (.inl cm.qf))), (am.ch, .inl (cI, 8, .inl (nf cm.ck))), (am.vt, .inl (cI, 4, .inl cm.vf)), (am.sh, .inl (cI, 4, .inl (nf cm.sk)))] s.heap.size = A at hD hA0 ⊢
  have hA : ∀ q : Nat, s.heap.size ≤ q → A q := fun q h => by rw [← hAe]; exact Or.inr h
  have hS : va_S A s.heap s.heap [] := va_S.rf
  have hl := lv_entry ([.ref am.m0]) (n := 1) (Nat.le_of_ble_eq_true rfl)
  rw [lg_entry_eq]
  generalize (lg_sl ([.ref am.m0]) ++ List.replicate (1 - (lg_sl ([.ref am.m0])).length) Slot.unset).toArray = ls at hl ⊢
  have hl : lv_has ls 1 [(0, .ref am.m0)] := hl
  have hP : va_P D kl [(am.m0, .inr (7, [.int cm.th, .int (nI cm.zs), .int (nI cm.rn), .ref am.rw, .int (nI cm.kn), .int (nI cm.rk), .int (nI cm.yn), .ref am.ry, .int (nI cm.sp), .int (nI cm.lg), .ref am.ti, .int (nI cm.fo), .int (nI cm.pt), .ref am.po, .ref am.su, .ref am.sq, .ref am.ch, .ref am.vt, .ref am.sh])), (am.rw, .inl (cI, 32, .inl cm.wf)), (am.ry, .inl (cI, 256, .inl cm.yf)), (am.ti, .inl (cI, 8, .inl cm.tf)), (am.po, .inl (cI, 4000, .inl cm.pf)), (am.su, .inl (cZ, 1000, .inl cm.sf)), (am.sq, .inl (cJ, 256, .inr (.inl cm.qf))), (am.ch, .inl (cI, 8, .inl (nf cm.ck))), (am.vt, .inl (cI, 4, .inl cm.vf)), (am.sh, .inl (cI, 4, .inl (nf cm.sk)))] s.heap := hP
  have hml : c.maxLocals = 1 := hml
  have hz2 := hJ.z2
  have hz4 := hJ.z4
  have hr8 := hJ.r8
  have hkn := hJ.kn
  have hrk := hJ.rk
  have hyn := hJ.yn
  have hsp := hJ.sp
  have hlg := hJ.lg
  have hfo := hJ.fo
  have hpt := hJ.pt
  have hck := hJ.ck
  have hsk := hJ.sk
  have hro := hJ.ro
  refine lv_aload_n hx hb d_M_size_0 rfl (lv_at hl 0 rfl) ?_
  refine lv_iconst (v := (1 : Int32)) hx hb d_M_size_1 (by decide) ?_
  refine cx_call (D := D) (cl := kl) (ws := _) (wc := [(am.m0, .inr (7, [.int cm.th, .int (nI cm.zs), .int (nI cm.rn), .ref am.rw, .int (nI cm.kn), .int (nI cm.rk), .int (nI cm.yn), .ref am.ry, .int (nI cm.sp), .int (nI cm.lg), .ref am.ti, .int (nI cm.fo), .int (nI cm.pt), .ref am.po, .ref am.su, .ref am.sq, .ref am.ch, .ref am.vt, .ref am.sh])), (am.rw, .inl (cI, 32, .inl cm.wf)), (am.ry, .inl (cI, 256, .inl cm.yf)), (am.ti, .inl (cI, 8, .inl cm.tf)), (am.po, .inl (cI, 4000, .inl cm.pf)), (am.su, .inl (cZ, 1000, .inl cm.sf)), (am.sq, .inl (cJ, 256, .inr (.inl cm.qf))), (am.ch, .inl (cI, 8, .inl (nf cm.ck))), (am.vt, .inl (cI, 4, .inl cm.vf)), (am.sh, .inl (cI, 4, .inl (nf cm.sk)))]) (wr := []) (tx_runV (C := cn_M) (b := am.m0) (As := [.int (1 : Int32)]) (rest := []) hx hb hml hown (c_M_pointed1 E s.heap.size am cm hT9 hJ) (cx_C (b0 := b0) G hx0 mw_881 mw_9 ny_M_pointed (by decide)) (gw.at G hx0 mw_878 rfl _) (gw.at G hx0 mw_880 rfl _) (gw.at G hx0 ms_M_pointed rfl _) ⟨cx_blind, va_recv hK hP (q0 := 0) (ci := 7) (q := (cn_M, ft_M, 19)) rfl rfl, (cx_pre (s := s) hx0 hP hD hS hA0 [0, 1, 2, 3, 4, 5, 6, 7, 8, 9] rfl rfl (by decide))⟩ rfl rfl hl.1 rfl (lv_room (Nat.le_of_ble_eq_true rfl)) d_M_size_2 ⟨by decide, by decide⟩) hP hD hS hA [0, 1, 2, 3, 4, 5, 6, 7, 8, 9] [] rfl rfl (by decide) (by decide) (fun v t w1 H locs ht hW9 hp hP hD hS => ?_) (fun x t w1 H locs ht hW9 hp hP hD hS => ?_)
  · rcases hp with hp | hp
    · obtain ⟨c9_1, h9, f_2, f_3, f_4, f_5, f_6, rfl⟩ := hp
      cases h9
      refine W.eq (g2 := F0 m 5 ls [.int (1 : Int32)]) rfl ?_
      refine W.widen (k := 0) (n := 0) (by decide) (by decide) ?_
      have hP : va_P D kl [(am.m0, .inr (7, [.int c9_1.th, .int (nI c9_1.zs), .int (nI c9_1.rn), .ref am.rw, .int (nI c9_1.kn), .int (nI c9_1.rk), .int (nI c9_1.yn), .ref am.ry, .int (nI c9_1.sp), .int (nI c9_1.lg), .ref am.ti, .int (nI c9_1.fo), .int (nI c9_1.pt), .ref am.po, .ref am.su, .ref am.sq, .ref am.ch, .ref am.vt, .ref am.sh])), (am.rw, .inl (cI, 32, .inl c9_1.wf)), (am.ry, .inl (cI, 256, .inl c9_1.yf)), (am.ti, .inl (cI, 8, .inl c9_1.tf)), (am.po, .inl (cI, 4000, .inl c9_1.pf)), (am.su, .inl (cZ, 1000, .inl c9_1.sf)), (am.sq, .inl (cJ, 256, .inr (.inl c9_1.qf))), (am.ch, .inl (cI, 8, .inl (nf c9_1.ck))), (am.vt, .inl (cI, 4, .inl c9_1.vf)), (am.sh, .inl (cI, 4, .inl (nf c9_1.sk)))] H := hP
      have hD : va_D A [(am.m0, .inr (7, [.int c9_1.th, .int (nI c9_1.zs), .int (nI c9_1.rn), .ref am.rw, .int (nI c9_1.kn), .int (nI c9_1.rk), .int (nI c9_1.yn), .ref am.ry, .int (nI c9_1.sp), .int (nI c9_1.lg), .ref am.ti, .int (nI c9_1.fo), .int (nI c9_1.pt), .ref am.po, .ref am.su, .ref am.sq, .ref am.ch, .ref am.vt, .ref am.sh])), (am.rw, .inl (cI, 32, .inl c9_1.wf)), (am.ry, .inl (cI, 256, .inl c9_1.yf)), (am.ti, .inl (cI, 8, .inl c9_1.tf)), (am.po, .inl (cI, 4000, .inl c9_1.pf)), (am.su, .inl (cZ, 1000, .inl c9_1.sf)), (am.sq, .inl (cJ, 256, .inr (.inl c9_1.qf))), (am.ch, .inl (cI, 8, .inl (nf c9_1.ck))), (am.vt, .inl (cI, 4, .inl c9_1.vf)), (am.sh, .inl (cI, 4, .inl (nf c9_1.sk)))] := hD
      have hJ1 := f_2
      have hS1 := f_3
      have hk1 : c9_1.kn = 1 := f_4
      have hz2 := hJ1.z2
      have hz4 := hJ1.z4
      have hr8 := hJ1.r8
      have hkn := hJ1.kn
      have hrk := hJ1.rk
      have hyn := hJ1.yn
      have hsp := hJ1.sp
      have hlg := hJ1.lg
      have hfo := hJ1.fo
      have hpt := hJ1.pt
      have hck := hJ1.ck
      have hsk := hJ1.sk
      have hro := hJ1.ro
      refine lv_if_eq (tgt := 15) hx hb d_M_size_5 (by decide) (fun h99 => absurd h99 (by decide)) (fun _ => ?_)
      refine lv_aload_n hx hb d_M_size_8 rfl (lv_at hl 0 rfl) ?_
      refine va_get (D := D) (ci := 7) (v := .int (nI c9_1.sp)) (C := cn_M) (T := ft_M) (N := 19) hx hb hf_M (fun _ h => h) hown hK hP 0 rfl rfl 8 (by decide) (gw.at G hx0 mw_721 rfl _) (fun _ h9 => h9) rfl d_M_size_9 ?_
      refine lv_goto (tgt := 16) hx hb d_M_size_12 (by decide) ?_
      exact tx_mono (fun _ h => tx_Z.of h) (W.iret (v := nI c9_1.sp) hx hb hr (fun t ht hW => ⟨⟨[(am.m0, .inr (7, [.int c9_1.th, .int (nI c9_1.zs), .int (nI c9_1.rn), .ref am.rw, .int (nI c9_1.kn), .int (nI c9_1.rk), .int (nI c9_1.yn), .ref am.ry, .int (nI c9_1.sp), .int (nI c9_1.lg), .ref am.ti, .int (nI c9_1.fo), .int (nI c9_1.pt), .ref am.po, .ref am.su, .ref am.sq, .ref am.ch, .ref am.vt, .ref am.sh])), (am.rw, .inl (cI, 32, .inl c9_1.wf)), (am.ry, .inl (cI, 256, .inl c9_1.yf)), (am.ti, .inl (cI, 8, .inl c9_1.tf)), (am.po, .inl (cI, 4000, .inl c9_1.pf)), (am.su, .inl (cZ, 1000, .inl c9_1.sf)), (am.sq, .inl (cJ, 256, .inr (.inl c9_1.qf))), (am.ch, .inl (cI, 8, .inl (nf c9_1.ck))), (am.vt, .inl (cI, 4, .inl c9_1.vf)), (am.sh, .inl (cI, 4, .inl (nf c9_1.sk)))], Or.inr (⟨c9_1, rfl, hJ1, hS1, hk1, f_5, f_6, rfl⟩), by rw [ht]; exact hP.sub [0, 1, 2, 3, 4, 5, 6, 7, 8, 9] rfl, hD.sub [0, 1, 2, 3, 4, 5, 6, 7, 8, 9] (by decide) rfl⟩, hS.F ht⟩) hS.2.2 d_M_size_16)
    · obtain ⟨c9_7, h9, f_8, f_9, f_10, f_11, f_12, rfl⟩ := hp
      cases h9
      refine W.eq (g2 := F0 m 5 ls [.int (0 : Int32)]) rfl ?_
      refine W.widen (k := 0) (n := 0) (by decide) (by decide) ?_
      have hP : va_P D kl [(am.m0, .inr (7, [.int c9_7.th, .int (nI c9_7.zs), .int (nI c9_7.rn), .ref am.rw, .int (nI c9_7.kn), .int (nI c9_7.rk), .int (nI c9_7.yn), .ref am.ry, .int (nI c9_7.sp), .int (nI c9_7.lg), .ref am.ti, .int (nI c9_7.fo), .int (nI c9_7.pt), .ref am.po, .ref am.su, .ref am.sq, .ref am.ch, .ref am.vt, .ref am.sh])), (am.rw, .inl (cI, 32, .inl c9_7.wf)), (am.ry, .inl (cI, 256, .inl c9_7.yf)), (am.ti, .inl (cI, 8, .inl c9_7.tf)), (am.po, .inl (cI, 4000, .inl c9_7.pf)), (am.su, .inl (cZ, 1000, .inl c9_7.sf)), (am.sq, .inl (cJ, 256, .inr (.inl c9_7.qf))), (am.ch, .inl (cI, 8, .inl (nf c9_7.ck))), (am.vt, .inl (cI, 4, .inl c9_7.vf)), (am.sh, .inl (cI, 4, .inl (nf c9_7.sk)))] H := hP
      have hD : va_D A [(am.m0, .inr (7, [.int c9_7.th, .int (nI c9_7.zs), .int (nI c9_7.rn), .ref am.rw, .int (nI c9_7.kn), .int (nI c9_7.rk), .int (nI c9_7.yn), .ref am.ry, .int (nI c9_7.sp), .int (nI c9_7.lg), .ref am.ti, .int (nI c9_7.fo), .int (nI c9_7.pt), .ref am.po, .ref am.su, .ref am.sq, .ref am.ch, .ref am.vt, .ref am.sh])), (am.rw, .inl (cI, 32, .inl c9_7.wf)), (am.ry, .inl (cI, 256, .inl c9_7.yf)), (am.ti, .inl (cI, 8, .inl c9_7.tf)), (am.po, .inl (cI, 4000, .inl c9_7.pf)), (am.su, .inl (cZ, 1000, .inl c9_7.sf)), (am.sq, .inl (cJ, 256, .inr (.inl c9_7.qf))), (am.ch, .inl (cI, 8, .inl (nf c9_7.ck))), (am.vt, .inl (cI, 4, .inl c9_7.vf)), (am.sh, .inl (cI, 4, .inl (nf c9_7.sk)))] := hD
      have hJ1 := f_8
      have hS1 := f_9
      have hk1 : c9_7.kn = 1 := f_10
      have hz2 := hJ1.z2
      have hz4 := hJ1.z4
      have hr8 := hJ1.r8
      have hkn := hJ1.kn
      have hrk := hJ1.rk
      have hyn := hJ1.yn
      have hsp := hJ1.sp
      have hlg := hJ1.lg
      have hfo := hJ1.fo
      have hpt := hJ1.pt
      have hck := hJ1.ck
      have hsk := hJ1.sk
      have hro := hJ1.ro
      refine lv_if_eq (tgt := 15) hx hb d_M_size_5 (by decide) (fun _ => ?_) (fun h99 => absurd h99 (by decide))
      refine lv_iconst (v := (0 : Int32)) hx hb d_M_size_15 (by decide) ?_
      exact tx_mono (fun _ h => tx_Z.of h) (W.iret (v := (0 : Int32)) hx hb hr (fun t ht hW => ⟨⟨[(am.m0, .inr (7, [.int c9_7.th, .int (nI c9_7.zs), .int (nI c9_7.rn), .ref am.rw, .int (nI c9_7.kn), .int (nI c9_7.rk), .int (nI c9_7.yn), .ref am.ry, .int (nI c9_7.sp), .int (nI c9_7.lg), .ref am.ti, .int (nI c9_7.fo), .int (nI c9_7.pt), .ref am.po, .ref am.su, .ref am.sq, .ref am.ch, .ref am.vt, .ref am.sh])), (am.rw, .inl (cI, 32, .inl c9_7.wf)), (am.ry, .inl (cI, 256, .inl c9_7.yf)), (am.ti, .inl (cI, 8, .inl c9_7.tf)), (am.po, .inl (cI, 4000, .inl c9_7.pf)), (am.su, .inl (cZ, 1000, .inl c9_7.sf)), (am.sq, .inl (cJ, 256, .inr (.inl c9_7.qf))), (am.ch, .inl (cI, 8, .inl (nf c9_7.ck))), (am.vt, .inl (cI, 4, .inl c9_7.vf)), (am.sh, .inl (cI, 4, .inl (nf c9_7.sk)))], Or.inl (⟨c9_7, rfl, hJ1, hS1, hk1, f_11, f_12, rfl⟩), by rw [ht]; exact hP.sub [0, 1, 2, 3, 4, 5, 6, 7, 8, 9] rfl, hD.sub [0, 1, 2, 3, 4, 5, 6, 7, 8, 9] (by decide) rfl⟩, hS.F ht⟩) hS.2.2 d_M_size_16)
  · rcases hp with hp | hp
    · obtain ⟨_, h9, -⟩ := hp; cases h9
    · obtain ⟨_, h9, -⟩ := hp; cases h9

set_option maxHeartbeats 4000000 in
set_option maxRecDepth 100000 in
theorem c_M_ray {l : Launch} {s0 : State} {b0 : Addr} {D : va_G} {cI cJ cZ : ClassId} {tC tS : Nat} (E : gE l s0 b0 D cI cJ cZ tC tS) (sz : Nat) (am : MA) (cm : MC) (w : Int32) (v2 : Int32) (hT9 : MTH) (hJ : MJ cm) : cx_M l s0 D kl y_M_ray b_M_ray 3 (some .int) ({ frames := 6, cells := 0, slots := 0, locals := 153 } : Room) 0 0 [.ref am.m0, .int w, .int v2] [(am.m0, .inr (7, [.int cm.th, .int (nI cm.zs), .int (nI cm.rn), .ref am.rw, .int (nI cm.kn), .int (nI cm.rk), .int (nI cm.yn), .ref am.ry, .int (nI cm.sp), .int (nI cm.lg), .ref am.ti, .int (nI cm.fo), .int (nI cm.pt), .ref am.po, .ref am.su, .ref am.sq, .ref am.ch, .ref am.vt, .ref am.sh])), (am.rw, .inl (cI, 32, .inl cm.wf)), (am.ry, .inl (cI, 256, .inl cm.yf)), (am.ti, .inl (cI, 8, .inl cm.tf)), (am.po, .inl (cI, 4000, .inl cm.pf)), (am.su, .inl (cZ, 1000, .inl cm.sf)), (am.sq, .inl (cJ, 256, .inr (.inl cm.qf))), (am.ch, .inl (cI, 8, .inl (nf cm.ck))), (am.vt, .inl (cI, 4, .inl cm.vf)), (am.sh, .inl (cI, 4, .inl (nf cm.sk)))] sz (fun o9 t9 w9 => (∃ (c9 : MC), o9 = .returned (some (.int (0 : Int32))) ∧ MJ c9 ∧ MS cm c9 ∧ c9.kn = 1 ∧ c9.rk < c9.zs ∧ c9.th = 1 ∧ w9 = [(am.m0, .inr (7, [.int c9.th, .int (nI c9.zs), .int (nI c9.rn), .ref am.rw, .int (nI c9.kn), .int (nI c9.rk), .int (nI c9.yn), .ref am.ry, .int (nI c9.sp), .int (nI c9.lg), .ref am.ti, .int (nI c9.fo), .int (nI c9.pt), .ref am.po, .ref am.su, .ref am.sq, .ref am.ch, .ref am.vt, .ref am.sh])), (am.rw, .inl (cI, 32, .inl c9.wf)), (am.ry, .inl (cI, 256, .inl c9.yf)), (am.ti, .inl (cI, 8, .inl c9.tf)), (am.po, .inl (cI, 4000, .inl c9.pf)), (am.su, .inl (cZ, 1000, .inl c9.sf)), (am.sq, .inl (cJ, 256, .inr (.inl c9.qf))), (am.ch, .inl (cI, 8, .inl (nf c9.ck))), (am.vt, .inl (cI, 4, .inl c9.vf)), (am.sh, .inl (cI, 4, .inl (nf c9.sk)))]) ∨ (∃ (c9 : MC), o9 = .returned (some (.int (0 : Int32))) ∧ MJ c9 ∧ MS cm c9 ∧ c9.kn = 1 ∧ c9.zs ≤ c9.rk ∧ c9.th = 2 ∧ ¬ (inR w c9.yn ∧ inR v2 c9.zs) ∧ w9 = [(am.m0, .inr (7, [.int c9.th, .int (nI c9.zs), .int (nI c9.rn), .ref am.rw, .int (nI c9.kn), .int (nI c9.rk), .int (nI c9.yn), .ref am.ry, .int (nI c9.sp), .int (nI c9.lg), .ref am.ti, .int (nI c9.fo), .int (nI c9.pt), .ref am.po, .ref am.su, .ref am.sq, .ref am.ch, .ref am.vt, .ref am.sh])), (am.rw, .inl (cI, 32, .inl c9.wf)), (am.ry, .inl (cI, 256, .inl c9.yf)), (am.ti, .inl (cI, 8, .inl c9.tf)), (am.po, .inl (cI, 4000, .inl c9.pf)), (am.su, .inl (cZ, 1000, .inl c9.sf)), (am.sq, .inl (cJ, 256, .inr (.inl c9.qf))), (am.ch, .inl (cI, 8, .inl (nf c9.ck))), (am.vt, .inl (cI, 4, .inl c9.vf)), (am.sh, .inl (cI, 4, .inl (nf c9.sk)))]) ∨ (∃ (c9 : MC) (k : Nat) (i : Nat), o9 = .returned (some (.int (c9.yf (4 * k + i)))) ∧ MJ c9 ∧ MS cm c9 ∧ c9.kn = 1 ∧ c9.zs ≤ c9.rk ∧ c9.th = 0 ∧ k < c9.yn ∧ i < c9.zs ∧ w = nI k ∧ v2 = nI i ∧ w9 = [(am.m0, .inr (7, [.int c9.th, .int (nI c9.zs), .int (nI c9.rn), .ref am.rw, .int (nI c9.kn), .int (nI c9.rk), .int (nI c9.yn), .ref am.ry, .int (nI c9.sp), .int (nI c9.lg), .ref am.ti, .int (nI c9.fo), .int (nI c9.pt), .ref am.po, .ref am.su, .ref am.sq, .ref am.ch, .ref am.vt, .ref am.sh])), (am.rw, .inl (cI, 32, .inl c9.wf)), (am.ry, .inl (cI, 256, .inl c9.yf)), (am.ti, .inl (cI, 8, .inl c9.tf)), (am.po, .inl (cI, 4000, .inl c9.pf)), (am.su, .inl (cZ, 1000, .inl c9.sf)), (am.sq, .inl (cJ, 256, .inr (.inl c9.qf))), (am.ch, .inl (cI, 8, .inl (nf c9.ck))), (am.vt, .inl (cI, 4, .inl c9.vf)), (am.sh, .inl (cI, 4, .inl (nf c9.sk)))])) := by
  refine tx_ofW (cc := b_M_ray) (maxL := 3) (ret := (some .int)) (by decide) rfl ?_
  intro p e s m args below meth c s₁ B hml hT hv
  obtain ⟨rfl, hsz, hP, hD0, hx0⟩ := hv
  have hx := B.exec
  have hb := B.bytes
  have hr := B.returns
  have G := E.2.1
  have hown : s.vm.findClass cn_M = some m.cls := findClass_of_methodNamed B.named
  have hlocks := B.notSynchronized
  have hK := va_K.moved hx0.1.alike E.2.2.1
  have hf_M : ∀ w99 ∈ u_ws cn_M ft_M 19, w99.before ([.ref am.m0, .int w, .int v2] : List Value).toArray s = true := fun w99 h99 => gw.at G hx0 (fw_M w99 h99) (fo_M w99 h99) _
  subst hsz
  have hA0 := cx_new hD0 hx0.2.1
  have hD := hD0.self (sz := s.heap.size)
  generalize hAe : va_A [(am.m0, .inr (7, [.int cm.th, .int (nI cm.zs), .int (nI cm.rn), .ref am.rw, .int (nI cm.kn), .int (nI cm.rk), .int (nI cm.yn), .ref am.ry, .int (nI cm.sp), .int (nI cm.lg), .ref am.ti, .int (nI cm.fo), .int (nI cm.pt), .ref am.po, .ref am.su, .ref am.sq, .ref am.ch, .ref am.vt, .ref am.sh])), (am.rw, .inl (cI, 32, .inl cm.wf)), (am.ry, .inl (cI, 256, .inl cm.yf)), (am.ti, .inl (cI, 8, .inl cm.tf)), (am.po, .inl (cI, 4000, .inl cm.pf)), (am.su, .inl (cZ, 1000, .inl cm.sf)), (am.sq, .inl (cJ, 256, .inr (.inl cm.qf))), (am.ch, .inl (cI, 8, .inl (nf cm.ck))), (am.vt, .inl (cI, 4, .inl cm.vf)), (am.sh, .inl (cI, 4, .inl (nf cm.sk)))] s.heap.size = A at hD hA0 ⊢
  have hA : ∀ q : Nat, s.heap.size ≤ q → A q := fun q h => by rw [← hAe]; exact Or.inr h
  have hS : va_S A s.heap s.heap [] := va_S.rf
  have hl := lv_entry ([.ref am.m0, .int w, .int v2]) (n := 3) (Nat.le_of_ble_eq_true rfl)
  rw [lg_entry_eq]
  generalize (lg_sl ([.ref am.m0, .int w, .int v2]) ++ List.replicate (3 - (lg_sl ([.ref am.m0, .int w, .int v2])).length) Slot.unset).toArray = ls at hl ⊢
  have hl : lv_has ls 3 [(0, .ref am.m0), (1, .int w), (2, .int v2)] := hl
  have hP : va_P D kl [(am.m0, .inr (7, [.int cm.th, .int (nI cm.zs), .int (nI cm.rn), .ref am.rw, .int (nI cm.kn), .int (nI cm.rk), .int (nI cm.yn), .ref am.ry, .int (nI cm.sp), .int (nI cm.lg), .ref am.ti, .int (nI cm.fo), .int (nI cm.pt), .ref am.po, .ref am.su, .ref am.sq, .ref am.ch, .ref am.vt, .ref am.sh])), (am.rw, .inl (cI, 32, .inl cm.wf)), (am.ry, .inl (cI, 256, .inl cm.yf)), (am.ti, .inl (cI, 8, .inl cm.tf)), (am.po, .inl (cI, 4000, .inl cm.pf)), (am.su, .inl (cZ, 1000, .inl cm.sf)), (am.sq, .inl (cJ, 256, .inr (.inl cm.qf))), (am.ch, .inl (cI, 8, .inl (nf cm.ck))), (am.vt, .inl (cI, 4, .inl cm.vf)), (am.sh, .inl (cI, 4, .inl (nf cm.sk)))] s.heap := hP
  have hml : c.maxLocals = 3 := hml
  have hz2 := hJ.z2
  have hz4 := hJ.z4
  have hr8 := hJ.r8
  have hkn := hJ.kn
  have hrk := hJ.rk
  have hyn := hJ.yn
  have hsp := hJ.sp
  have hlg := hJ.lg
  have hfo := hJ.fo
  have hpt := hJ.pt
  have hck := hJ.ck
  have hsk := hJ.sk
  have hro := hJ.ro
  refine lv_aload_n hx hb d_M_ray_0 rfl (lv_at hl 0 rfl) ?_
  refine lv_iconst (v := (1 : Int32)) hx hb d_M_ray_1 (by decide) ?_
  refine cx_call (D := D) (cl := kl) (ws := _) (wc := [(am.m0, .inr (7, [.int cm.th, .int (nI cm.zs), .int (nI cm.rn), .ref am.rw, .int (nI cm.kn), .int (nI cm.rk), .int (nI cm.yn), .ref am.ry, .int (nI cm.sp), .int (nI cm.lg), .ref am.ti, .int (nI cm.fo), .int (nI cm.pt), .ref am.po, .ref am.su, .ref am.sq, .ref am.ch, .ref am.vt, .ref am.sh])), (am.rw, .inl (cI, 32, .inl cm.wf)), (am.ry, .inl (cI, 256, .inl cm.yf)), (am.ti, .inl (cI, 8, .inl cm.tf)), (am.po, .inl (cI, 4000, .inl cm.pf)), (am.su, .inl (cZ, 1000, .inl cm.sf)), (am.sq, .inl (cJ, 256, .inr (.inl cm.qf))), (am.ch, .inl (cI, 8, .inl (nf cm.ck))), (am.vt, .inl (cI, 4, .inl cm.vf)), (am.sh, .inl (cI, 4, .inl (nf cm.sk)))]) (wr := []) (tx_runV (C := cn_M) (b := am.m0) (As := [.int (1 : Int32)]) (rest := []) hx hb hml hown (c_M_pointed1 E s.heap.size am cm hT9 hJ) (cx_C (b0 := b0) G hx0 mw_881 mw_9 ny_M_pointed (by decide)) (gw.at G hx0 mw_878 rfl _) (gw.at G hx0 mw_880 rfl _) (gw.at G hx0 ms_M_pointed rfl _) ⟨cx_blind, va_recv hK hP (q0 := 0) (ci := 7) (q := (cn_M, ft_M, 19)) rfl rfl, (cx_pre (s := s) hx0 hP hD hS hA0 [0, 1, 2, 3, 4, 5, 6, 7, 8, 9] rfl rfl (by decide))⟩ rfl rfl hl.1 rfl (lv_room (Nat.le_of_ble_eq_true rfl)) d_M_ray_2 ⟨by decide, by decide⟩) hP hD hS hA [0, 1, 2, 3, 4, 5, 6, 7, 8, 9] [] rfl rfl (by decide) (by decide) (fun v t w1 H locs ht hW9 hp hP hD hS => ?_) (fun x t w1 H locs ht hW9 hp hP hD hS => ?_)
  · rcases hp with hp | hp
    · obtain ⟨c9_1, h9, f_2, f_3, f_4, f_5, f_6, rfl⟩ := hp
      cases h9
      refine W.eq (g2 := F0 m 5 ls [.int (1 : Int32)]) rfl ?_
      refine W.widen (k := 0) (n := 0) (by decide) (by decide) ?_
      have hP : va_P D kl [(am.m0, .inr (7, [.int c9_1.th, .int (nI c9_1.zs), .int (nI c9_1.rn), .ref am.rw, .int (nI c9_1.kn), .int (nI c9_1.rk), .int (nI c9_1.yn), .ref am.ry, .int (nI c9_1.sp), .int (nI c9_1.lg), .ref am.ti, .int (nI c9_1.fo), .int (nI c9_1.pt), .ref am.po, .ref am.su, .ref am.sq, .ref am.ch, .ref am.vt, .ref am.sh])), (am.rw, .inl (cI, 32, .inl c9_1.wf)), (am.ry, .inl (cI, 256, .inl c9_1.yf)), (am.ti, .inl (cI, 8, .inl c9_1.tf)), (am.po, .inl (cI, 4000, .inl c9_1.pf)), (am.su, .inl (cZ, 1000, .inl c9_1.sf)), (am.sq, .inl (cJ, 256, .inr (.inl c9_1.qf))), (am.ch, .inl (cI, 8, .inl (nf c9_1.ck))), (am.vt, .inl (cI, 4, .inl c9_1.vf)), (am.sh, .inl (cI, 4, .inl (nf c9_1.sk)))] H := hP
      have hD : va_D A [(am.m0, .inr (7, [.int c9_1.th, .int (nI c9_1.zs), .int (nI c9_1.rn), .ref am.rw, .int (nI c9_1.kn), .int (nI c9_1.rk), .int (nI c9_1.yn), .ref am.ry, .int (nI c9_1.sp), .int (nI c9_1.lg), .ref am.ti, .int (nI c9_1.fo), .int (nI c9_1.pt), .ref am.po, .ref am.su, .ref am.sq, .ref am.ch, .ref am.vt, .ref am.sh])), (am.rw, .inl (cI, 32, .inl c9_1.wf)), (am.ry, .inl (cI, 256, .inl c9_1.yf)), (am.ti, .inl (cI, 8, .inl c9_1.tf)), (am.po, .inl (cI, 4000, .inl c9_1.pf)), (am.su, .inl (cZ, 1000, .inl c9_1.sf)), (am.sq, .inl (cJ, 256, .inr (.inl c9_1.qf))), (am.ch, .inl (cI, 8, .inl (nf c9_1.ck))), (am.vt, .inl (cI, 4, .inl c9_1.vf)), (am.sh, .inl (cI, 4, .inl (nf c9_1.sk)))] := hD
      have hJ1 := f_2
      have hS1 := f_3
      have hk1 : c9_1.kn = 1 := f_4
      have hz2 := hJ1.z2
      have hz4 := hJ1.z4
      have hr8 := hJ1.r8
      have hkn := hJ1.kn
      have hrk := hJ1.rk
      have hyn := hJ1.yn
      have hsp := hJ1.sp
      have hlg := hJ1.lg
      have hfo := hJ1.fo
      have hpt := hJ1.pt
      have hck := hJ1.ck
      have hsk := hJ1.sk
      have hro := hJ1.ro
      refine lv_if_ne (tgt := 10) hx hb d_M_ray_5 (by decide) (fun _ => ?_) (fun h99 => absurd h99 (by decide))
      refine lv_aload_n hx hb d_M_ray_10 rfl (lv_at hl 0 rfl) ?_
      refine lv_iload_n hx hb d_M_ray_11 rfl (lv_at hl 1 rfl) ?_
      refine lv_if_lt (tgt := 35) hx hb d_M_ray_12 (by decide) (fun h_7 => ?_) (fun h_7 => ?_)
      · refine lv_iconst (v := (2 : Int32)) hx hb d_M_ray_35 (by decide) ?_
        refine lv_goto (tgt := 40) hx hb d_M_ray_36 (by decide) ?_
        refine va_put (D := D) (ci := 7) (v := .int (2 : Int32)) (ty := .int) (C := cn_M) (T := ft_M) (N := 19) hx hb hf_M (fun _ h => h) fy_M fk_M fn_M hown hK hP hD hS 0 rfl rfl 0 (by decide) (gw.at G hx0 mw_713 rfl _) (fun _ h9 => h9) rfl (by decide +kernel) rfl rfl (Nat.le_of_ble_eq_true rfl) d_M_ray_40 (fun H locs hP hD hS => ?_)
        have hP : va_P D kl [(am.m0, .inr (7, [.int (2 : Int32), .int (nI c9_1.zs), .int (nI c9_1.rn), .ref am.rw, .int (nI c9_1.kn), .int (nI c9_1.rk), .int (nI c9_1.yn), .ref am.ry, .int (nI c9_1.sp), .int (nI c9_1.lg), .ref am.ti, .int (nI c9_1.fo), .int (nI c9_1.pt), .ref am.po, .ref am.su, .ref am.sq, .ref am.ch, .ref am.vt, .ref am.sh])), (am.rw, .inl (cI, 32, .inl c9_1.wf)), (am.ry, .inl (cI, 256, .inl c9_1.yf)), (am.ti, .inl (cI, 8, .inl c9_1.tf)), (am.po, .inl (cI, 4000, .inl c9_1.pf)), (am.su, .inl (cZ, 1000, .inl c9_1.sf)), (am.sq, .inl (cJ, 256, .inr (.inl c9_1.qf))), (am.ch, .inl (cI, 8, .inl (nf c9_1.ck))), (am.vt, .inl (cI, 4, .inl c9_1.vf)), (am.sh, .inl (cI, 4, .inl (nf c9_1.sk)))] H := hP
        have hD : va_D A [(am.m0, .inr (7, [.int (2 : Int32), .int (nI c9_1.zs), .int (nI c9_1.rn), .ref am.rw, .int (nI c9_1.kn), .int (nI c9_1.rk), .int (nI c9_1.yn), .ref am.ry, .int (nI c9_1.sp), .int (nI c9_1.lg), .ref am.ti, .int (nI c9_1.fo), .int (nI c9_1.pt), .ref am.po, .ref am.su, .ref am.sq, .ref am.ch, .ref am.vt, .ref am.sh])), (am.rw, .inl (cI, 32, .inl c9_1.wf)), (am.ry, .inl (cI, 256, .inl c9_1.yf)), (am.ti, .inl (cI, 8, .inl c9_1.tf)), (am.po, .inl (cI, 4000, .inl c9_1.pf)), (am.su, .inl (cZ, 1000, .inl c9_1.sf)), (am.sq, .inl (cJ, 256, .inr (.inl c9_1.qf))), (am.ch, .inl (cI, 8, .inl (nf c9_1.ck))), (am.vt, .inl (cI, 4, .inl c9_1.vf)), (am.sh, .inl (cI, 4, .inl (nf c9_1.sk)))] := hD
        refine lv_aload_n hx hb d_M_ray_43 rfl (lv_at hl 0 rfl) ?_
        refine va_get (D := D) (ci := 7) (v := .int (2 : Int32)) (C := cn_M) (T := ft_M) (N := 19) hx hb hf_M (fun _ h => h) hown hK hP 0 rfl rfl 0 (by decide) (gw.at G hx0 mw_713 rfl _) (fun _ h9 => h9) rfl d_M_ray_44 ?_
        refine lv_if_le (tgt := 54) hx hb d_M_ray_47 (by decide) (fun h99 => absurd h99 (by decide)) (fun _ => ?_)
        refine lv_iconst (v := (0 : Int32)) hx hb d_M_ray_50 (by decide) ?_
        refine lv_goto (tgt := 64) hx hb d_M_ray_51 (by decide) ?_
        exact tx_mono (fun _ h => tx_Z.of h) (W.iret (v := (0 : Int32)) hx hb hr (fun t ht hW => ⟨⟨[(am.m0, .inr (7, [.int (2 : Int32), .int (nI c9_1.zs), .int (nI c9_1.rn), .ref am.rw, .int (nI c9_1.kn), .int (nI c9_1.rk), .int (nI c9_1.yn), .ref am.ry, .int (nI c9_1.sp), .int (nI c9_1.lg), .ref am.ti, .int (nI c9_1.fo), .int (nI c9_1.pt), .ref am.po, .ref am.su, .ref am.sq, .ref am.ch, .ref am.vt, .ref am.sh])), (am.rw, .inl (cI, 32, .inl c9_1.wf)), (am.ry, .inl (cI, 256, .inl c9_1.yf)), (am.ti, .inl (cI, 8, .inl c9_1.tf)), (am.po, .inl (cI, 4000, .inl c9_1.pf)), (am.su, .inl (cZ, 1000, .inl c9_1.sf)), (am.sq, .inl (cJ, 256, .inr (.inl c9_1.qf))), (am.ch, .inl (cI, 8, .inl (nf c9_1.ck))), (am.vt, .inl (cI, 4, .inl c9_1.vf)), (am.sh, .inl (cI, 4, .inl (nf c9_1.sk)))], Or.inr (Or.inl (⟨(MCmk (2 : Int32) c9_1.zs c9_1.rn c9_1.kn c9_1.rk c9_1.yn c9_1.sp c9_1.lg c9_1.fo c9_1.pt c9_1.wf c9_1.yf c9_1.tf c9_1.pf c9_1.sf c9_1.qf c9_1.ck c9_1.vf c9_1.sk), rfl, hJ1, hS1, hk1, f_5, rfl, fun z9 => z9.1.1 h_7, rfl⟩)), by rw [ht]; exact hP.sub [0, 1, 2, 3, 4, 5, 6, 7, 8, 9] rfl, hD.sub [0, 1, 2, 3, 4, 5, 6, 7, 8, 9] (by decide) rfl⟩, hS.F ht⟩) hS.2.2 d_M_ray_64)
      · refine lv_iload_n hx hb d_M_ray_15 rfl (lv_at hl 1 rfl) ?_
        refine lv_aload_n hx hb d_M_ray_16 rfl (lv_at hl 0 rfl) ?_
        refine va_get (D := D) (ci := 7) (v := .int (nI c9_1.yn)) (C := cn_M) (T := ft_M) (N := 19) hx hb hf_M (fun _ h => h) hown hK hP 0 rfl rfl 6 (by decide) (gw.at G hx0 mw_719 rfl _) (fun _ h9 => h9) rfl d_M_ray_17 ?_
        refine lv_icmp_ge (tgt := 35) hx hb d_M_ray_20 (by decide) (fun h_8 => ?_) (fun h_8 => ?_)
        · refine lv_iconst (v := (2 : Int32)) hx hb d_M_ray_35 (by decide) ?_
          refine lv_goto (tgt := 40) hx hb d_M_ray_36 (by decide) ?_
          refine va_put (D := D) (ci := 7) (v := .int (2 : Int32)) (ty := .int) (C := cn_M) (T := ft_M) (N := 19) hx hb hf_M (fun _ h => h) fy_M fk_M fn_M hown hK hP hD hS 0 rfl rfl 0 (by decide) (gw.at G hx0 mw_713 rfl _) (fun _ h9 => h9) rfl (by decide +kernel) rfl rfl (Nat.le_of_ble_eq_true rfl) d_M_ray_40 (fun H locs hP hD hS => ?_)
          have hP : va_P D kl [(am.m0, .inr (7, [.int (2 : Int32), .int (nI c9_1.zs), .int (nI c9_1.rn), .ref am.rw, .int (nI c9_1.kn), .int (nI c9_1.rk), .int (nI c9_1.yn), .ref am.ry, .int (nI c9_1.sp), .int (nI c9_1.lg), .ref am.ti, .int (nI c9_1.fo), .int (nI c9_1.pt), .ref am.po, .ref am.su, .ref am.sq, .ref am.ch, .ref am.vt, .ref am.sh])), (am.rw, .inl (cI, 32, .inl c9_1.wf)), (am.ry, .inl (cI, 256, .inl c9_1.yf)), (am.ti, .inl (cI, 8, .inl c9_1.tf)), (am.po, .inl (cI, 4000, .inl c9_1.pf)), (am.su, .inl (cZ, 1000, .inl c9_1.sf)), (am.sq, .inl (cJ, 256, .inr (.inl c9_1.qf))), (am.ch, .inl (cI, 8, .inl (nf c9_1.ck))), (am.vt, .inl (cI, 4, .inl c9_1.vf)), (am.sh, .inl (cI, 4, .inl (nf c9_1.sk)))] H := hP
          have hD : va_D A [(am.m0, .inr (7, [.int (2 : Int32), .int (nI c9_1.zs), .int (nI c9_1.rn), .ref am.rw, .int (nI c9_1.kn), .int (nI c9_1.rk), .int (nI c9_1.yn), .ref am.ry, .int (nI c9_1.sp), .int (nI c9_1.lg), .ref am.ti, .int (nI c9_1.fo), .int (nI c9_1.pt), .ref am.po, .ref am.su, .ref am.sq, .ref am.ch, .ref am.vt, .ref am.sh])), (am.rw, .inl (cI, 32, .inl c9_1.wf)), (am.ry, .inl (cI, 256, .inl c9_1.yf)), (am.ti, .inl (cI, 8, .inl c9_1.tf)), (am.po, .inl (cI, 4000, .inl c9_1.pf)), (am.su, .inl (cZ, 1000, .inl c9_1.sf)), (am.sq, .inl (cJ, 256, .inr (.inl c9_1.qf))), (am.ch, .inl (cI, 8, .inl (nf c9_1.ck))), (am.vt, .inl (cI, 4, .inl c9_1.vf)), (am.sh, .inl (cI, 4, .inl (nf c9_1.sk)))] := hD
          refine lv_aload_n hx hb d_M_ray_43 rfl (lv_at hl 0 rfl) ?_
          refine va_get (D := D) (ci := 7) (v := .int (2 : Int32)) (C := cn_M) (T := ft_M) (N := 19) hx hb hf_M (fun _ h => h) hown hK hP 0 rfl rfl 0 (by decide) (gw.at G hx0 mw_713 rfl _) (fun _ h9 => h9) rfl d_M_ray_44 ?_
          refine lv_if_le (tgt := 54) hx hb d_M_ray_47 (by decide) (fun h99 => absurd h99 (by decide)) (fun _ => ?_)
          refine lv_iconst (v := (0 : Int32)) hx hb d_M_ray_50 (by decide) ?_
          refine lv_goto (tgt := 64) hx hb d_M_ray_51 (by decide) ?_
          exact tx_mono (fun _ h => tx_Z.of h) (W.iret (v := (0 : Int32)) hx hb hr (fun t ht hW => ⟨⟨[(am.m0, .inr (7, [.int (2 : Int32), .int (nI c9_1.zs), .int (nI c9_1.rn), .ref am.rw, .int (nI c9_1.kn), .int (nI c9_1.rk), .int (nI c9_1.yn), .ref am.ry, .int (nI c9_1.sp), .int (nI c9_1.lg), .ref am.ti, .int (nI c9_1.fo), .int (nI c9_1.pt), .ref am.po, .ref am.su, .ref am.sq, .ref am.ch, .ref am.vt, .ref am.sh])), (am.rw, .inl (cI, 32, .inl c9_1.wf)), (am.ry, .inl (cI, 256, .inl c9_1.yf)), (am.ti, .inl (cI, 8, .inl c9_1.tf)), (am.po, .inl (cI, 4000, .inl c9_1.pf)), (am.su, .inl (cZ, 1000, .inl c9_1.sf)), (am.sq, .inl (cJ, 256, .inr (.inl c9_1.qf))), (am.ch, .inl (cI, 8, .inl (nf c9_1.ck))), (am.vt, .inl (cI, 4, .inl c9_1.vf)), (am.sh, .inl (cI, 4, .inl (nf c9_1.sk)))], Or.inr (Or.inl (⟨(MCmk (2 : Int32) c9_1.zs c9_1.rn c9_1.kn c9_1.rk c9_1.yn c9_1.sp c9_1.lg c9_1.fo c9_1.pt c9_1.wf c9_1.yf c9_1.tf c9_1.pf c9_1.sf c9_1.qf c9_1.ck c9_1.vf c9_1.sk), rfl, hJ1, hS1, hk1, f_5, rfl, fun z9 => absurd z9.1.2 (Int32.not_lt.mpr h_8), rfl⟩)), by rw [ht]; exact hP.sub [0, 1, 2, 3, 4, 5, 6, 7, 8, 9] rfl, hD.sub [0, 1, 2, 3, 4, 5, 6, 7, 8, 9] (by decide) rfl⟩, hS.F ht⟩) hS.2.2 d_M_ray_64)
        · refine lv_iload_n hx hb d_M_ray_23 rfl (lv_at hl 2 rfl) ?_
          refine lv_if_lt (tgt := 35) hx hb d_M_ray_24 (by decide) (fun h_9 => ?_) (fun h_9 => ?_)
          · refine lv_iconst (v := (2 : Int32)) hx hb d_M_ray_35 (by decide) ?_
            refine lv_goto (tgt := 40) hx hb d_M_ray_36 (by decide) ?_
            refine va_put (D := D) (ci := 7) (v := .int (2 : Int32)) (ty := .int) (C := cn_M) (T := ft_M) (N := 19) hx hb hf_M (fun _ h => h) fy_M fk_M fn_M hown hK hP hD hS 0 rfl rfl 0 (by decide) (gw.at G hx0 mw_713 rfl _) (fun _ h9 => h9) rfl (by decide +kernel) rfl rfl (Nat.le_of_ble_eq_true rfl) d_M_ray_40 (fun H locs hP hD hS => ?_)
            have hP : va_P D kl [(am.m0, .inr (7, [.int (2 : Int32), .int (nI c9_1.zs), .int (nI c9_1.rn), .ref am.rw, .int (nI c9_1.kn), .int (nI c9_1.rk), .int (nI c9_1.yn), .ref am.ry, .int (nI c9_1.sp), .int (nI c9_1.lg), .ref am.ti, .int (nI c9_1.fo), .int (nI c9_1.pt), .ref am.po, .ref am.su, .ref am.sq, .ref am.ch, .ref am.vt, .ref am.sh])), (am.rw, .inl (cI, 32, .inl c9_1.wf)), (am.ry, .inl (cI, 256, .inl c9_1.yf)), (am.ti, .inl (cI, 8, .inl c9_1.tf)), (am.po, .inl (cI, 4000, .inl c9_1.pf)), (am.su, .inl (cZ, 1000, .inl c9_1.sf)), (am.sq, .inl (cJ, 256, .inr (.inl c9_1.qf))), (am.ch, .inl (cI, 8, .inl (nf c9_1.ck))), (am.vt, .inl (cI, 4, .inl c9_1.vf)), (am.sh, .inl (cI, 4, .inl (nf c9_1.sk)))] H := hP
            have hD : va_D A [(am.m0, .inr (7, [.int (2 : Int32), .int (nI c9_1.zs), .int (nI c9_1.rn), .ref am.rw, .int (nI c9_1.kn), .int (nI c9_1.rk), .int (nI c9_1.yn), .ref am.ry, .int (nI c9_1.sp), .int (nI c9_1.lg), .ref am.ti, .int (nI c9_1.fo), .int (nI c9_1.pt), .ref am.po, .ref am.su, .ref am.sq, .ref am.ch, .ref am.vt, .ref am.sh])), (am.rw, .inl (cI, 32, .inl c9_1.wf)), (am.ry, .inl (cI, 256, .inl c9_1.yf)), (am.ti, .inl (cI, 8, .inl c9_1.tf)), (am.po, .inl (cI, 4000, .inl c9_1.pf)), (am.su, .inl (cZ, 1000, .inl c9_1.sf)), (am.sq, .inl (cJ, 256, .inr (.inl c9_1.qf))), (am.ch, .inl (cI, 8, .inl (nf c9_1.ck))), (am.vt, .inl (cI, 4, .inl c9_1.vf)), (am.sh, .inl (cI, 4, .inl (nf c9_1.sk)))] := hD
            refine lv_aload_n hx hb d_M_ray_43 rfl (lv_at hl 0 rfl) ?_
            refine va_get (D := D) (ci := 7) (v := .int (2 : Int32)) (C := cn_M) (T := ft_M) (N := 19) hx hb hf_M (fun _ h => h) hown hK hP 0 rfl rfl 0 (by decide) (gw.at G hx0 mw_713 rfl _) (fun _ h9 => h9) rfl d_M_ray_44 ?_
            refine lv_if_le (tgt := 54) hx hb d_M_ray_47 (by decide) (fun h99 => absurd h99 (by decide)) (fun _ => ?_)
            refine lv_iconst (v := (0 : Int32)) hx hb d_M_ray_50 (by decide) ?_
            refine lv_goto (tgt := 64) hx hb d_M_ray_51 (by decide) ?_
            exact tx_mono (fun _ h => tx_Z.of h) (W.iret (v := (0 : Int32)) hx hb hr (fun t ht hW => ⟨⟨[(am.m0, .inr (7, [.int (2 : Int32), .int (nI c9_1.zs), .int (nI c9_1.rn), .ref am.rw, .int (nI c9_1.kn), .int (nI c9_1.rk), .int (nI c9_1.yn), .ref am.ry, .int (nI c9_1.sp), .int (nI c9_1.lg), .ref am.ti, .int (nI c9_1.fo), .int (nI c9_1.pt), .ref am.po, .ref am.su, .ref am.sq, .ref am.ch, .ref am.vt, .ref am.sh])), (am.rw, .inl (cI, 32, .inl c9_1.wf)), (am.ry, .inl (cI, 256, .inl c9_1.yf)), (am.ti, .inl (cI, 8, .inl c9_1.tf)), (am.po, .inl (cI, 4000, .inl c9_1.pf)), (am.su, .inl (cZ, 1000, .inl c9_1.sf)), (am.sq, .inl (cJ, 256, .inr (.inl c9_1.qf))), (am.ch, .inl (cI, 8, .inl (nf c9_1.ck))), (am.vt, .inl (cI, 4, .inl c9_1.vf)), (am.sh, .inl (cI, 4, .inl (nf c9_1.sk)))], Or.inr (Or.inl (⟨(MCmk (2 : Int32) c9_1.zs c9_1.rn c9_1.kn c9_1.rk c9_1.yn c9_1.sp c9_1.lg c9_1.fo c9_1.pt c9_1.wf c9_1.yf c9_1.tf c9_1.pf c9_1.sf c9_1.qf c9_1.ck c9_1.vf c9_1.sk), rfl, hJ1, hS1, hk1, f_5, rfl, fun z9 => z9.2.1 h_9, rfl⟩)), by rw [ht]; exact hP.sub [0, 1, 2, 3, 4, 5, 6, 7, 8, 9] rfl, hD.sub [0, 1, 2, 3, 4, 5, 6, 7, 8, 9] (by decide) rfl⟩, hS.F ht⟩) hS.2.2 d_M_ray_64)
          · refine lv_iload_n hx hb d_M_ray_27 rfl (lv_at hl 2 rfl) ?_
            refine lv_aload_n hx hb d_M_ray_28 rfl (lv_at hl 0 rfl) ?_
            refine va_get (D := D) (ci := 7) (v := .int (nI c9_1.zs)) (C := cn_M) (T := ft_M) (N := 19) hx hb hf_M (fun _ h => h) hown hK hP 0 rfl rfl 1 (by decide) (gw.at G hx0 mw_714 rfl _) (fun _ h9 => h9) rfl d_M_ray_29 ?_
            refine lv_icmp_lt (tgt := 39) hx hb d_M_ray_32 (by decide) (fun h_10 => ?_) (fun h_10 => ?_)
            · refine lv_iconst (v := (0 : Int32)) hx hb d_M_ray_39 (by decide) ?_
              refine va_put (D := D) (ci := 7) (v := .int (0 : Int32)) (ty := .int) (C := cn_M) (T := ft_M) (N := 19) hx hb hf_M (fun _ h => h) fy_M fk_M fn_M hown hK hP hD hS 0 rfl rfl 0 (by decide) (gw.at G hx0 mw_713 rfl _) (fun _ h9 => h9) rfl (by decide +kernel) rfl rfl (Nat.le_of_ble_eq_true rfl) d_M_ray_40 (fun H locs hP hD hS => ?_)
              have hP : va_P D kl [(am.m0, .inr (7, [.int (0 : Int32), .int (nI c9_1.zs), .int (nI c9_1.rn), .ref am.rw, .int (nI c9_1.kn), .int (nI c9_1.rk), .int (nI c9_1.yn), .ref am.ry, .int (nI c9_1.sp), .int (nI c9_1.lg), .ref am.ti, .int (nI c9_1.fo), .int (nI c9_1.pt), .ref am.po, .ref am.su, .ref am.sq, .ref am.ch, .ref am.vt, .ref am.sh])), (am.rw, .inl (cI, 32, .inl c9_1.wf)), (am.ry, .inl (cI, 256, .inl c9_1.yf)), (am.ti, .inl (cI, 8, .inl c9_1.tf)), (am.po, .inl (cI, 4000, .inl c9_1.pf)), (am.su, .inl (cZ, 1000, .inl c9_1.sf)), (am.sq, .inl (cJ, 256, .inr (.inl c9_1.qf))), (am.ch, .inl (cI, 8, .inl (nf c9_1.ck))), (am.vt, .inl (cI, 4, .inl c9_1.vf)), (am.sh, .inl (cI, 4, .inl (nf c9_1.sk)))] H := hP
              have hD : va_D A [(am.m0, .inr (7, [.int (0 : Int32), .int (nI c9_1.zs), .int (nI c9_1.rn), .ref am.rw, .int (nI c9_1.kn), .int (nI c9_1.rk), .int (nI c9_1.yn), .ref am.ry, .int (nI c9_1.sp), .int (nI c9_1.lg), .ref am.ti, .int (nI c9_1.fo), .int (nI c9_1.pt), .ref am.po, .ref am.su, .ref am.sq, .ref am.ch, .ref am.vt, .ref am.sh])), (am.rw, .inl (cI, 32, .inl c9_1.wf)), (am.ry, .inl (cI, 256, .inl c9_1.yf)), (am.ti, .inl (cI, 8, .inl c9_1.tf)), (am.po, .inl (cI, 4000, .inl c9_1.pf)), (am.su, .inl (cZ, 1000, .inl c9_1.sf)), (am.sq, .inl (cJ, 256, .inr (.inl c9_1.qf))), (am.ch, .inl (cI, 8, .inl (nf c9_1.ck))), (am.vt, .inl (cI, 4, .inl c9_1.vf)), (am.sh, .inl (cI, 4, .inl (nf c9_1.sk)))] := hD
              refine lv_aload_n hx hb d_M_ray_43 rfl (lv_at hl 0 rfl) ?_
              refine va_get (D := D) (ci := 7) (v := .int (0 : Int32)) (C := cn_M) (T := ft_M) (N := 19) hx hb hf_M (fun _ h => h) hown hK hP 0 rfl rfl 0 (by decide) (gw.at G hx0 mw_713 rfl _) (fun _ h9 => h9) rfl d_M_ray_44 ?_
              refine lv_if_le (tgt := 54) hx hb d_M_ray_47 (by decide) (fun _ => ?_) (fun h99 => absurd h99 (by decide))
              obtain ⟨k_11, hk_12, hw_13⟩ := nI_ex (n := c9_1.yn) h_7 (Int32.not_le.mp h_8) (by omega)
              rw [hw_13] at hl
              obtain ⟨k_14, hk_15, hw_16⟩ := nI_ex (n := c9_1.zs) h_9 h_10 (by omega)
              rw [hw_16] at hl
              refine lv_aload_n hx hb d_M_ray_54 rfl (lv_at hl 0 rfl) ?_
              refine va_get (D := D) (ci := 7) (v := .ref am.ry) (C := cn_M) (T := ft_M) (N := 19) hx hb hf_M (fun _ h => h) hown hK hP 0 rfl rfl 7 (by decide) (gw.at G hx0 mw_720 rfl _) (fun _ h9 => h9) rfl d_M_ray_55 ?_
              refine lv_iconst (v := (4 : Int32)) hx hb d_M_ray_58 (by decide) ?_
              refine lv_iload_n hx hb d_M_ray_59 rfl (lv_at hl 1 rfl) ?_
              refine lv_imul hx hb d_M_ray_60 ?_
              refine tp_i (y := nI (4 * k_11)) (nI_mul 4 k_11) ?_
              refine lv_iload_n hx hb d_M_ray_61 rfl (lv_at hl 2 rfl) ?_
              refine lv_iadd hx hb d_M_ray_62 ?_
              refine tp_i (y := nI ((4 * k_11) + k_14)) (nI_add (4 * k_11) k_14) ?_
              refine va_iald hx hb hK hP 2 0 rfl rfl (vp_in_nI (n := (4 * k_11) + k_14) (by omega) (by omega)) d_M_ray_63 ?_
              refine tp_i (y := c9_1.yf ((4 * k_11) + k_14)) (congrArg c9_1.yf (nI_clamp (n := (4 * k_11) + k_14) (by omega))) ?_
              exact tx_mono (fun _ h => tx_Z.of h) (W.iret (v := c9_1.yf ((4 * k_11) + k_14)) hx hb hr (fun t ht hW => ⟨⟨[(am.m0, .inr (7, [.int (0 : Int32), .int (nI c9_1.zs), .int (nI c9_1.rn), .ref am.rw, .int (nI c9_1.kn), .int (nI c9_1.rk), .int (nI c9_1.yn), .ref am.ry, .int (nI c9_1.sp), .int (nI c9_1.lg), .ref am.ti, .int (nI c9_1.fo), .int (nI c9_1.pt), .ref am.po, .ref am.su, .ref am.sq, .ref am.ch, .ref am.vt, .ref am.sh])), (am.rw, .inl (cI, 32, .inl c9_1.wf)), (am.ry, .inl (cI, 256, .inl c9_1.yf)), (am.ti, .inl (cI, 8, .inl c9_1.tf)), (am.po, .inl (cI, 4000, .inl c9_1.pf)), (am.su, .inl (cZ, 1000, .inl c9_1.sf)), (am.sq, .inl (cJ, 256, .inr (.inl c9_1.qf))), (am.ch, .inl (cI, 8, .inl (nf c9_1.ck))), (am.vt, .inl (cI, 4, .inl c9_1.vf)), (am.sh, .inl (cI, 4, .inl (nf c9_1.sk)))], Or.inr (Or.inr (⟨(MCmk (0 : Int32) c9_1.zs c9_1.rn c9_1.kn c9_1.rk c9_1.yn c9_1.sp c9_1.lg c9_1.fo c9_1.pt c9_1.wf c9_1.yf c9_1.tf c9_1.pf c9_1.sf c9_1.qf c9_1.ck c9_1.vf c9_1.sk), k_11, k_14, rfl, hJ1, hS1, hk1, f_5, rfl, hk_12, hk_15, hw_13, hw_16, rfl⟩)), by rw [ht]; exact hP.sub [0, 1, 2, 3, 4, 5, 6, 7, 8, 9] rfl, hD.sub [0, 1, 2, 3, 4, 5, 6, 7, 8, 9] (by decide) rfl⟩, hS.F ht⟩) hS.2.2 d_M_ray_64)
            · refine lv_iconst (v := (2 : Int32)) hx hb d_M_ray_35 (by decide) ?_
              refine lv_goto (tgt := 40) hx hb d_M_ray_36 (by decide) ?_
              refine va_put (D := D) (ci := 7) (v := .int (2 : Int32)) (ty := .int) (C := cn_M) (T := ft_M) (N := 19) hx hb hf_M (fun _ h => h) fy_M fk_M fn_M hown hK hP hD hS 0 rfl rfl 0 (by decide) (gw.at G hx0 mw_713 rfl _) (fun _ h9 => h9) rfl (by decide +kernel) rfl rfl (Nat.le_of_ble_eq_true rfl) d_M_ray_40 (fun H locs hP hD hS => ?_)
              have hP : va_P D kl [(am.m0, .inr (7, [.int (2 : Int32), .int (nI c9_1.zs), .int (nI c9_1.rn), .ref am.rw, .int (nI c9_1.kn), .int (nI c9_1.rk), .int (nI c9_1.yn), .ref am.ry, .int (nI c9_1.sp), .int (nI c9_1.lg), .ref am.ti, .int (nI c9_1.fo), .int (nI c9_1.pt), .ref am.po, .ref am.su, .ref am.sq, .ref am.ch, .ref am.vt, .ref am.sh])), (am.rw, .inl (cI, 32, .inl c9_1.wf)), (am.ry, .inl (cI, 256, .inl c9_1.yf)), (am.ti, .inl (cI, 8, .inl c9_1.tf)), (am.po, .inl (cI, 4000, .inl c9_1.pf)), (am.su, .inl (cZ, 1000, .inl c9_1.sf)), (am.sq, .inl (cJ, 256, .inr (.inl c9_1.qf))), (am.ch, .inl (cI, 8, .inl (nf c9_1.ck))), (am.vt, .inl (cI, 4, .inl c9_1.vf)), (am.sh, .inl (cI, 4, .inl (nf c9_1.sk)))] H := hP
              have hD : va_D A [(am.m0, .inr (7, [.int (2 : Int32), .int (nI c9_1.zs), .int (nI c9_1.rn), .ref am.rw, .int (nI c9_1.kn), .int (nI c9_1.rk), .int (nI c9_1.yn), .ref am.ry, .int (nI c9_1.sp), .int (nI c9_1.lg), .ref am.ti, .int (nI c9_1.fo), .int (nI c9_1.pt), .ref am.po, .ref am.su, .ref am.sq, .ref am.ch, .ref am.vt, .ref am.sh])), (am.rw, .inl (cI, 32, .inl c9_1.wf)), (am.ry, .inl (cI, 256, .inl c9_1.yf)), (am.ti, .inl (cI, 8, .inl c9_1.tf)), (am.po, .inl (cI, 4000, .inl c9_1.pf)), (am.su, .inl (cZ, 1000, .inl c9_1.sf)), (am.sq, .inl (cJ, 256, .inr (.inl c9_1.qf))), (am.ch, .inl (cI, 8, .inl (nf c9_1.ck))), (am.vt, .inl (cI, 4, .inl c9_1.vf)), (am.sh, .inl (cI, 4, .inl (nf c9_1.sk)))] := hD
              refine lv_aload_n hx hb d_M_ray_43 rfl (lv_at hl 0 rfl) ?_
              refine va_get (D := D) (ci := 7) (v := .int (2 : Int32)) (C := cn_M) (T := ft_M) (N := 19) hx hb hf_M (fun _ h => h) hown hK hP 0 rfl rfl 0 (by decide) (gw.at G hx0 mw_713 rfl _) (fun _ h9 => h9) rfl d_M_ray_44 ?_
              refine lv_if_le (tgt := 54) hx hb d_M_ray_47 (by decide) (fun h99 => absurd h99 (by decide)) (fun _ => ?_)
              refine lv_iconst (v := (0 : Int32)) hx hb d_M_ray_50 (by decide) ?_
              refine lv_goto (tgt := 64) hx hb d_M_ray_51 (by decide) ?_
              exact tx_mono (fun _ h => tx_Z.of h) (W.iret (v := (0 : Int32)) hx hb hr (fun t ht hW => ⟨⟨[(am.m0, .inr (7, [.int (2 : Int32), .int (nI c9_1.zs), .int (nI c9_1.rn), .ref am.rw, .int (nI c9_1.kn), .int (nI c9_1.rk), .int (nI c9_1.yn), .ref am.ry, .int (nI c9_1.sp), .int (nI c9_1.lg), .ref am.ti, .int (nI c9_1.fo), .int (nI c9_1.pt), .ref am.po, .ref am.su, .ref am.sq, .ref am.ch, .ref am.vt, .ref am.sh])), (am.rw, .inl (cI, 32, .inl c9_1.wf)), (am.ry, .inl (cI, 256, .inl c9_1.yf)), (am.ti, .inl (cI, 8, .inl c9_1.tf)), (am.po, .inl (cI, 4000, .inl c9_1.pf)), (am.su, .inl (cZ, 1000, .inl c9_1.sf)), (am.sq, .inl (cJ, 256, .inr (.inl c9_1.qf))), (am.ch, .inl (cI, 8, .inl (nf c9_1.ck))), (am.vt, .inl (cI, 4, .inl c9_1.vf)), (am.sh, .inl (cI, 4, .inl (nf c9_1.sk)))], Or.inr (Or.inl (⟨(MCmk (2 : Int32) c9_1.zs c9_1.rn c9_1.kn c9_1.rk c9_1.yn c9_1.sp c9_1.lg c9_1.fo c9_1.pt c9_1.wf c9_1.yf c9_1.tf c9_1.pf c9_1.sf c9_1.qf c9_1.ck c9_1.vf c9_1.sk), rfl, hJ1, hS1, hk1, f_5, rfl, fun z9 => h_10 z9.2.2, rfl⟩)), by rw [ht]; exact hP.sub [0, 1, 2, 3, 4, 5, 6, 7, 8, 9] rfl, hD.sub [0, 1, 2, 3, 4, 5, 6, 7, 8, 9] (by decide) rfl⟩, hS.F ht⟩) hS.2.2 d_M_ray_64)
    · obtain ⟨c9_17, h9, f_18, f_19, f_20, f_21, f_22, rfl⟩ := hp
      cases h9
      refine W.eq (g2 := F0 m 5 ls [.int (0 : Int32)]) rfl ?_
      refine W.widen (k := 0) (n := 0) (by decide) (by decide) ?_
      have hP : va_P D kl [(am.m0, .inr (7, [.int c9_17.th, .int (nI c9_17.zs), .int (nI c9_17.rn), .ref am.rw, .int (nI c9_17.kn), .int (nI c9_17.rk), .int (nI c9_17.yn), .ref am.ry, .int (nI c9_17.sp), .int (nI c9_17.lg), .ref am.ti, .int (nI c9_17.fo), .int (nI c9_17.pt), .ref am.po, .ref am.su, .ref am.sq, .ref am.ch, .ref am.vt, .ref am.sh])), (am.rw, .inl (cI, 32, .inl c9_17.wf)), (am.ry, .inl (cI, 256, .inl c9_17.yf)), (am.ti, .inl (cI, 8, .inl c9_17.tf)), (am.po, .inl (cI, 4000, .inl c9_17.pf)), (am.su, .inl (cZ, 1000, .inl c9_17.sf)), (am.sq, .inl (cJ, 256, .inr (.inl c9_17.qf))), (am.ch, .inl (cI, 8, .inl (nf c9_17.ck))), (am.vt, .inl (cI, 4, .inl c9_17.vf)), (am.sh, .inl (cI, 4, .inl (nf c9_17.sk)))] H := hP
      have hD : va_D A [(am.m0, .inr (7, [.int c9_17.th, .int (nI c9_17.zs), .int (nI c9_17.rn), .ref am.rw, .int (nI c9_17.kn), .int (nI c9_17.rk), .int (nI c9_17.yn), .ref am.ry, .int (nI c9_17.sp), .int (nI c9_17.lg), .ref am.ti, .int (nI c9_17.fo), .int (nI c9_17.pt), .ref am.po, .ref am.su, .ref am.sq, .ref am.ch, .ref am.vt, .ref am.sh])), (am.rw, .inl (cI, 32, .inl c9_17.wf)), (am.ry, .inl (cI, 256, .inl c9_17.yf)), (am.ti, .inl (cI, 8, .inl c9_17.tf)), (am.po, .inl (cI, 4000, .inl c9_17.pf)), (am.su, .inl (cZ, 1000, .inl c9_17.sf)), (am.sq, .inl (cJ, 256, .inr (.inl c9_17.qf))), (am.ch, .inl (cI, 8, .inl (nf c9_17.ck))), (am.vt, .inl (cI, 4, .inl c9_17.vf)), (am.sh, .inl (cI, 4, .inl (nf c9_17.sk)))] := hD
      have hJ1 := f_18
      have hS1 := f_19
      have hk1 : c9_17.kn = 1 := f_20
      have hz2 := hJ1.z2
      have hz4 := hJ1.z4
      have hr8 := hJ1.r8
      have hkn := hJ1.kn
      have hrk := hJ1.rk
      have hyn := hJ1.yn
      have hsp := hJ1.sp
      have hlg := hJ1.lg
      have hfo := hJ1.fo
      have hpt := hJ1.pt
      have hck := hJ1.ck
      have hsk := hJ1.sk
      have hro := hJ1.ro
      refine lv_if_ne (tgt := 10) hx hb d_M_ray_5 (by decide) (fun h99 => absurd h99 (by decide)) (fun _ => ?_)
      refine lv_iconst (v := (0 : Int32)) hx hb d_M_ray_8 (by decide) ?_
      exact tx_mono (fun _ h => tx_Z.of h) (W.iret (v := (0 : Int32)) hx hb hr (fun t ht hW => ⟨⟨[(am.m0, .inr (7, [.int c9_17.th, .int (nI c9_17.zs), .int (nI c9_17.rn), .ref am.rw, .int (nI c9_17.kn), .int (nI c9_17.rk), .int (nI c9_17.yn), .ref am.ry, .int (nI c9_17.sp), .int (nI c9_17.lg), .ref am.ti, .int (nI c9_17.fo), .int (nI c9_17.pt), .ref am.po, .ref am.su, .ref am.sq, .ref am.ch, .ref am.vt, .ref am.sh])), (am.rw, .inl (cI, 32, .inl c9_17.wf)), (am.ry, .inl (cI, 256, .inl c9_17.yf)), (am.ti, .inl (cI, 8, .inl c9_17.tf)), (am.po, .inl (cI, 4000, .inl c9_17.pf)), (am.su, .inl (cZ, 1000, .inl c9_17.sf)), (am.sq, .inl (cJ, 256, .inr (.inl c9_17.qf))), (am.ch, .inl (cI, 8, .inl (nf c9_17.ck))), (am.vt, .inl (cI, 4, .inl c9_17.vf)), (am.sh, .inl (cI, 4, .inl (nf c9_17.sk)))], Or.inl (⟨c9_17, rfl, hJ1, hS1, hk1, f_21, f_22, rfl⟩), by rw [ht]; exact hP.sub [0, 1, 2, 3, 4, 5, 6, 7, 8, 9] rfl, hD.sub [0, 1, 2, 3, 4, 5, 6, 7, 8, 9] (by decide) rfl⟩, hS.F ht⟩) hS.2.2 d_M_ray_9)
  · rcases hp with hp | hp
    · obtain ⟨_, h9, -⟩ := hp; cases h9
    · obtain ⟨_, h9, -⟩ := hp; cases h9

set_option maxHeartbeats 4000000 in
set_option maxRecDepth 100000 in
theorem c_M_point {l : Launch} {s0 : State} {b0 : Addr} {D : va_G} {cI cJ cZ : ClassId} {tC tS : Nat} (E : gE l s0 b0 D cI cJ cZ tC tS) (sz : Nat) (am : MA) (cm : MC) (w : Int32) (v2 : Int32) (hT9 : MTH) (hJ : MJ cm) : cx_M l s0 D kl y_M_point b_M_point 3 (some .int) ({ frames := 7, cells := 0, slots := 0, locals := 174 } : Room) 0 0 [.ref am.m0, .int w, .int v2] [(am.m0, .inr (7, [.int cm.th, .int (nI cm.zs), .int (nI cm.rn), .ref am.rw, .int (nI cm.kn), .int (nI cm.rk), .int (nI cm.yn), .ref am.ry, .int (nI cm.sp), .int (nI cm.lg), .ref am.ti, .int (nI cm.fo), .int (nI cm.pt), .ref am.po, .ref am.su, .ref am.sq, .ref am.ch, .ref am.vt, .ref am.sh])), (am.rw, .inl (cI, 32, .inl cm.wf)), (am.ry, .inl (cI, 256, .inl cm.yf)), (am.ti, .inl (cI, 8, .inl cm.tf)), (am.po, .inl (cI, 4000, .inl cm.pf)), (am.su, .inl (cZ, 1000, .inl cm.sf)), (am.sq, .inl (cJ, 256, .inr (.inl cm.qf))), (am.ch, .inl (cI, 8, .inl (nf cm.ck))), (am.vt, .inl (cI, 4, .inl cm.vf)), (am.sh, .inl (cI, 4, .inl (nf cm.sk)))] sz (fun o9 t9 w9 => (∃ (c9 : MC), o9 = .returned (some (.int (0 : Int32))) ∧ MJ c9 ∧ MS cm c9 ∧ c9.kn = 1 ∧ (c9.rk < c9.zs ∨ (c9.zs ≤ c9.rk ∧ c9.lg = 1)) ∧ c9.th = 1 ∧ w9 = [(am.m0, .inr (7, [.int c9.th, .int (nI c9.zs), .int (nI c9.rn), .ref am.rw, .int (nI c9.kn), .int (nI c9.rk), .int (nI c9.yn), .ref am.ry, .int (nI c9.sp), .int (nI c9.lg), .ref am.ti, .int (nI c9.fo), .int (nI c9.pt), .ref am.po, .ref am.su, .ref am.sq, .ref am.ch, .ref am.vt, .ref am.sh])), (am.rw, .inl (cI, 32, .inl c9.wf)), (am.ry, .inl (cI, 256, .inl c9.yf)), (am.ti, .inl (cI, 8, .inl c9.tf)), (am.po, .inl (cI, 4000, .inl c9.pf)), (am.su, .inl (cZ, 1000, .inl c9.sf)), (am.sq, .inl (cJ, 256, .inr (.inl c9.qf))), (am.ch, .inl (cI, 8, .inl (nf c9.ck))), (am.vt, .inl (cI, 4, .inl c9.vf)), (am.sh, .inl (cI, 4, .inl (nf c9.sk)))]) ∨ (∃ (c9 : MC), o9 = .returned (some (.int (0 : Int32))) ∧ MJ c9 ∧ MS cm c9 ∧ c9.kn = 1 ∧ c9.zs ≤ c9.rk ∧ c9.lg = 0 ∧ c9.fo = 1 ∧ c9.th = 2 ∧ ¬ (inR w c9.pt ∧ inR v2 c9.zs) ∧ w9 = [(am.m0, .inr (7, [.int c9.th, .int (nI c9.zs), .int (nI c9.rn), .ref am.rw, .int (nI c9.kn), .int (nI c9.rk), .int (nI c9.yn), .ref am.ry, .int (nI c9.sp), .int (nI c9.lg), .ref am.ti, .int (nI c9.fo), .int (nI c9.pt), .ref am.po, .ref am.su, .ref am.sq, .ref am.ch, .ref am.vt, .ref am.sh])), (am.rw, .inl (cI, 32, .inl c9.wf)), (am.ry, .inl (cI, 256, .inl c9.yf)), (am.ti, .inl (cI, 8, .inl c9.tf)), (am.po, .inl (cI, 4000, .inl c9.pf)), (am.su, .inl (cZ, 1000, .inl c9.sf)), (am.sq, .inl (cJ, 256, .inr (.inl c9.qf))), (am.ch, .inl (cI, 8, .inl (nf c9.ck))), (am.vt, .inl (cI, 4, .inl c9.vf)), (am.sh, .inl (cI, 4, .inl (nf c9.sk)))]) ∨ (∃ (c9 : MC) (k : Nat) (i : Nat), o9 = .returned (some (.int (c9.pf (4 * k + i)))) ∧ MJ c9 ∧ MS cm c9 ∧ c9.kn = 1 ∧ c9.zs ≤ c9.rk ∧ c9.lg = 0 ∧ c9.fo = 1 ∧ c9.th = 0 ∧ k < c9.pt ∧ i < c9.zs ∧ w = nI k ∧ v2 = nI i ∧ w9 = [(am.m0, .inr (7, [.int c9.th, .int (nI c9.zs), .int (nI c9.rn), .ref am.rw, .int (nI c9.kn), .int (nI c9.rk), .int (nI c9.yn), .ref am.ry, .int (nI c9.sp), .int (nI c9.lg), .ref am.ti, .int (nI c9.fo), .int (nI c9.pt), .ref am.po, .ref am.su, .ref am.sq, .ref am.ch, .ref am.vt, .ref am.sh])), (am.rw, .inl (cI, 32, .inl c9.wf)), (am.ry, .inl (cI, 256, .inl c9.yf)), (am.ti, .inl (cI, 8, .inl c9.tf)), (am.po, .inl (cI, 4000, .inl c9.pf)), (am.su, .inl (cZ, 1000, .inl c9.sf)), (am.sq, .inl (cJ, 256, .inr (.inl c9.qf))), (am.ch, .inl (cI, 8, .inl (nf c9.ck))), (am.vt, .inl (cI, 4, .inl c9.vf)), (am.sh, .inl (cI, 4, .inl (nf c9.sk)))])) := by
  refine tx_ofW (cc := b_M_point) (maxL := 3) (ret := (some .int)) (by decide) rfl ?_
  intro p e s m args below meth c s₁ B hml hT hv
  obtain ⟨rfl, hsz, hP, hD0, hx0⟩ := hv
  have hx := B.exec
  have hb := B.bytes
  have hr := B.returns
  have G := E.2.1
  have hown : s.vm.findClass cn_M = some m.cls := findClass_of_methodNamed B.named
  have hlocks := B.notSynchronized
  have hK := va_K.moved hx0.1.alike E.2.2.1
  have hf_M : ∀ w99 ∈ u_ws cn_M ft_M 19, w99.before ([.ref am.m0, .int w, .int v2] : List Value).toArray s = true := fun w99 h99 => gw.at G hx0 (fw_M w99 h99) (fo_M w99 h99) _
  subst hsz
  have hA0 := cx_new hD0 hx0.2.1
  have hD := hD0.self (sz := s.heap.size)
  generalize hAe : va_A [(am.m0, .inr (7, [.int cm.th, .int (nI cm.zs), .int (nI cm.rn), .ref am.rw, .int (nI cm.kn), .int (nI cm.rk), .int (nI cm.yn), .ref am.ry, .int (nI cm.sp), .int (nI cm.lg), .ref am.ti, .int (nI cm.fo), .int (nI cm.pt), .ref am.po, .ref am.su, .ref am.sq, .ref am.ch, .ref am.vt, .ref am.sh])), (am.rw, .inl (cI, 32, .inl cm.wf)), (am.ry, .inl (cI, 256, .inl cm.yf)), (am.ti, .inl (cI, 8, .inl cm.tf)), (am.po, .inl (cI, 4000, .inl cm.pf)), (am.su, .inl (cZ, 1000, .inl cm.sf)), (am.sq, .inl (cJ, 256, .inr (.inl cm.qf))), (am.ch, .inl (cI, 8, .inl (nf cm.ck))), (am.vt, .inl (cI, 4, .inl cm.vf)), (am.sh, .inl (cI, 4, .inl (nf cm.sk)))] s.heap.size = A at hD hA0 ⊢
  have hA : ∀ q : Nat, s.heap.size ≤ q → A q := fun q h => by rw [← hAe]; exact Or.inr h
  have hS : va_S A s.heap s.heap [] := va_S.rf
  have hl := lv_entry ([.ref am.m0, .int w, .int v2]) (n := 3) (Nat.le_of_ble_eq_true rfl)
  rw [lg_entry_eq]
  generalize (lg_sl ([.ref am.m0, .int w, .int v2]) ++ List.replicate (3 - (lg_sl ([.ref am.m0, .int w, .int v2])).length) Slot.unset).toArray = ls at hl ⊢
  have hl : lv_has ls 3 [(0, .ref am.m0), (1, .int w), (2, .int v2)] := hl
  have hP : va_P D kl [(am.m0, .inr (7, [.int cm.th, .int (nI cm.zs), .int (nI cm.rn), .ref am.rw, .int (nI cm.kn), .int (nI cm.rk), .int (nI cm.yn), .ref am.ry, .int (nI cm.sp), .int (nI cm.lg), .ref am.ti, .int (nI cm.fo), .int (nI cm.pt), .ref am.po, .ref am.su, .ref am.sq, .ref am.ch, .ref am.vt, .ref am.sh])), (am.rw, .inl (cI, 32, .inl cm.wf)), (am.ry, .inl (cI, 256, .inl cm.yf)), (am.ti, .inl (cI, 8, .inl cm.tf)), (am.po, .inl (cI, 4000, .inl cm.pf)), (am.su, .inl (cZ, 1000, .inl cm.sf)), (am.sq, .inl (cJ, 256, .inr (.inl cm.qf))), (am.ch, .inl (cI, 8, .inl (nf cm.ck))), (am.vt, .inl (cI, 4, .inl cm.vf)), (am.sh, .inl (cI, 4, .inl (nf cm.sk)))] s.heap := hP
  have hml : c.maxLocals = 3 := hml
  have hz2 := hJ.z2
  have hz4 := hJ.z4
  have hr8 := hJ.r8
  have hkn := hJ.kn
  have hrk := hJ.rk
  have hyn := hJ.yn
  have hsp := hJ.sp
  have hlg := hJ.lg
  have hfo := hJ.fo
  have hpt := hJ.pt
  have hck := hJ.ck
  have hsk := hJ.sk
  have hro := hJ.ro
  refine lv_aload_n hx hb d_M_point_0 rfl (lv_at hl 0 rfl) ?_
  refine lv_iconst (v := (1 : Int32)) hx hb d_M_point_1 (by decide) ?_
  refine cx_call (D := D) (cl := kl) (ws := _) (wc := [(am.m0, .inr (7, [.int cm.th, .int (nI cm.zs), .int (nI cm.rn), .ref am.rw, .int (nI cm.kn), .int (nI cm.rk), .int (nI cm.yn), .ref am.ry, .int (nI cm.sp), .int (nI cm.lg), .ref am.ti, .int (nI cm.fo), .int (nI cm.pt), .ref am.po, .ref am.su, .ref am.sq, .ref am.ch, .ref am.vt, .ref am.sh])), (am.rw, .inl (cI, 32, .inl cm.wf)), (am.ry, .inl (cI, 256, .inl cm.yf)), (am.ti, .inl (cI, 8, .inl cm.tf)), (am.po, .inl (cI, 4000, .inl cm.pf)), (am.su, .inl (cZ, 1000, .inl cm.sf)), (am.sq, .inl (cJ, 256, .inr (.inl cm.qf))), (am.ch, .inl (cI, 8, .inl (nf cm.ck))), (am.vt, .inl (cI, 4, .inl cm.vf)), (am.sh, .inl (cI, 4, .inl (nf cm.sk)))]) (wr := []) (tx_runV (C := cn_M) (b := am.m0) (As := [.int (1 : Int32)]) (rest := []) hx hb hml hown (c_M_based1 E s.heap.size am cm hT9 hJ) (cx_C (b0 := b0) G hx0 mw_929 mw_9 ny_M_based (by decide)) (gw.at G hx0 mw_926 rfl _) (gw.at G hx0 mw_928 rfl _) (gw.at G hx0 ms_M_based rfl _) ⟨cx_blind, va_recv hK hP (q0 := 0) (ci := 7) (q := (cn_M, ft_M, 19)) rfl rfl, (cx_pre (s := s) hx0 hP hD hS hA0 [0, 1, 2, 3, 4, 5, 6, 7, 8, 9] rfl rfl (by decide))⟩ rfl rfl hl.1 rfl (lv_room (Nat.le_of_ble_eq_true rfl)) d_M_point_2 ⟨by decide, by decide⟩) hP hD hS hA [0, 1, 2, 3, 4, 5, 6, 7, 8, 9] [] rfl rfl (by decide) (by decide) (fun v t w1 H locs ht hW9 hp hP hD hS => ?_) (fun x t w1 H locs ht hW9 hp hP hD hS => ?_)
  · rcases hp with hp | hp
    · obtain ⟨c9_1, h9, f_2, f_3, f_4, f_5, f_6, f_7, f_8, rfl⟩ := hp
      cases h9
      refine W.eq (g2 := F0 m 5 ls [.int (1 : Int32)]) rfl ?_
      refine W.widen (k := 0) (n := 0) (by decide) (by decide) ?_
      have hP : va_P D kl [(am.m0, .inr (7, [.int c9_1.th, .int (nI c9_1.zs), .int (nI c9_1.rn), .ref am.rw, .int (nI c9_1.kn), .int (nI c9_1.rk), .int (nI c9_1.yn), .ref am.ry, .int (nI c9_1.sp), .int (nI c9_1.lg), .ref am.ti, .int (nI c9_1.fo), .int (nI c9_1.pt), .ref am.po, .ref am.su, .ref am.sq, .ref am.ch, .ref am.vt, .ref am.sh])), (am.rw, .inl (cI, 32, .inl c9_1.wf)), (am.ry, .inl (cI, 256, .inl c9_1.yf)), (am.ti, .inl (cI, 8, .inl c9_1.tf)), (am.po, .inl (cI, 4000, .inl c9_1.pf)), (am.su, .inl (cZ, 1000, .inl c9_1.sf)), (am.sq, .inl (cJ, 256, .inr (.inl c9_1.qf))), (am.ch, .inl (cI, 8, .inl (nf c9_1.ck))), (am.vt, .inl (cI, 4, .inl c9_1.vf)), (am.sh, .inl (cI, 4, .inl (nf c9_1.sk)))] H := hP
      have hD : va_D A [(am.m0, .inr (7, [.int c9_1.th, .int (nI c9_1.zs), .int (nI c9_1.rn), .ref am.rw, .int (nI c9_1.kn), .int (nI c9_1.rk), .int (nI c9_1.yn), .ref am.ry, .int (nI c9_1.sp), .int (nI c9_1.lg), .ref am.ti, .int (nI c9_1.fo), .int (nI c9_1.pt), .ref am.po, .ref am.su, .ref am.sq, .ref am.ch, .ref am.vt, .ref am.sh])), (am.rw, .inl (cI, 32, .inl c9_1.wf)), (am.ry, .inl (cI, 256, .inl c9_1.yf)), (am.ti, .inl (cI, 8, .inl c9_1.tf)), (am.po, .inl (cI, 4000, .inl c9_1.pf)), (am.su, .inl (cZ, 1000, .inl c9_1.sf)), (am.sq, .inl (cJ, 256, .inr (.inl c9_1.qf))), (am.ch, .inl (cI, 8, .inl (nf c9_1.ck))), (am.vt, .inl (cI, 4, .inl c9_1.vf)), (am.sh, .inl (cI, 4, .inl (nf c9_1.sk)))] := hD
      have hJ1 := f_2
      have hS1 := f_3
      have hk1 : c9_1.kn = 1 := f_4
      have hz2 := hJ1.z2
      have hz4 := hJ1.z4
      have hr8 := hJ1.r8
      have hkn := hJ1.kn
      have hrk := hJ1.rk
      have hyn := hJ1.yn
      have hsp := hJ1.sp
      have hlg := hJ1.lg
      have hfo := hJ1.fo
      have hpt := hJ1.pt
      have hck := hJ1.ck
      have hsk := hJ1.sk
      have hro := hJ1.ro
      refine lv_if_ne (tgt := 10) hx hb d_M_point_5 (by decide) (fun _ => ?_) (fun h99 => absurd h99 (by decide))
      refine lv_aload_n hx hb d_M_point_10 rfl (lv_at hl 0 rfl) ?_
      refine lv_iload_n hx hb d_M_point_11 rfl (lv_at hl 1 rfl) ?_
      refine lv_if_lt (tgt := 35) hx hb d_M_point_12 (by decide) (fun h_9 => ?_) (fun h_9 => ?_)
      · refine lv_iconst (v := (2 : Int32)) hx hb d_M_point_35 (by decide) ?_
        refine lv_goto (tgt := 40) hx hb d_M_point_36 (by decide) ?_
        refine va_put (D := D) (ci := 7) (v := .int (2 : Int32)) (ty := .int) (C := cn_M) (T := ft_M) (N := 19) hx hb hf_M (fun _ h => h) fy_M fk_M fn_M hown hK hP hD hS 0 rfl rfl 0 (by decide) (gw.at G hx0 mw_713 rfl _) (fun _ h9 => h9) rfl (by decide +kernel) rfl rfl (Nat.le_of_ble_eq_true rfl) d_M_point_40 (fun H locs hP hD hS => ?_)
        have hP : va_P D kl [(am.m0, .inr (7, [.int (2 : Int32), .int (nI c9_1.zs), .int (nI c9_1.rn), .ref am.rw, .int (nI c9_1.kn), .int (nI c9_1.rk), .int (nI c9_1.yn), .ref am.ry, .int (nI c9_1.sp), .int (nI c9_1.lg), .ref am.ti, .int (nI c9_1.fo), .int (nI c9_1.pt), .ref am.po, .ref am.su, .ref am.sq, .ref am.ch, .ref am.vt, .ref am.sh])), (am.rw, .inl (cI, 32, .inl c9_1.wf)), (am.ry, .inl (cI, 256, .inl c9_1.yf)), (am.ti, .inl (cI, 8, .inl c9_1.tf)), (am.po, .inl (cI, 4000, .inl c9_1.pf)), (am.su, .inl (cZ, 1000, .inl c9_1.sf)), (am.sq, .inl (cJ, 256, .inr (.inl c9_1.qf))), (am.ch, .inl (cI, 8, .inl (nf c9_1.ck))), (am.vt, .inl (cI, 4, .inl c9_1.vf)), (am.sh, .inl (cI, 4, .inl (nf c9_1.sk)))] H := hP
        have hD : va_D A [(am.m0, .inr (7, [.int (2 : Int32), .int (nI c9_1.zs), .int (nI c9_1.rn), .ref am.rw, .int (nI c9_1.kn), .int (nI c9_1.rk), .int (nI c9_1.yn), .ref am.ry, .int (nI c9_1.sp), .int (nI c9_1.lg), .ref am.ti, .int (nI c9_1.fo), .int (nI c9_1.pt), .ref am.po, .ref am.su, .ref am.sq, .ref am.ch, .ref am.vt, .ref am.sh])), (am.rw, .inl (cI, 32, .inl c9_1.wf)), (am.ry, .inl (cI, 256, .inl c9_1.yf)), (am.ti, .inl (cI, 8, .inl c9_1.tf)), (am.po, .inl (cI, 4000, .inl c9_1.pf)), (am.su, .inl (cZ, 1000, .inl c9_1.sf)), (am.sq, .inl (cJ, 256, .inr (.inl c9_1.qf))), (am.ch, .inl (cI, 8, .inl (nf c9_1.ck))), (am.vt, .inl (cI, 4, .inl c9_1.vf)), (am.sh, .inl (cI, 4, .inl (nf c9_1.sk)))] := hD
        refine lv_aload_n hx hb d_M_point_43 rfl (lv_at hl 0 rfl) ?_
        refine va_get (D := D) (ci := 7) (v := .int (2 : Int32)) (C := cn_M) (T := ft_M) (N := 19) hx hb hf_M (fun _ h => h) hown hK hP 0 rfl rfl 0 (by decide) (gw.at G hx0 mw_713 rfl _) (fun _ h9 => h9) rfl d_M_point_44 ?_
        refine lv_if_le (tgt := 54) hx hb d_M_point_47 (by decide) (fun h99 => absurd h99 (by decide)) (fun _ => ?_)
        refine lv_iconst (v := (0 : Int32)) hx hb d_M_point_50 (by decide) ?_
        refine lv_goto (tgt := 64) hx hb d_M_point_51 (by decide) ?_
        exact tx_mono (fun _ h => tx_Z.of h) (W.iret (v := (0 : Int32)) hx hb hr (fun t ht hW => ⟨⟨[(am.m0, .inr (7, [.int (2 : Int32), .int (nI c9_1.zs), .int (nI c9_1.rn), .ref am.rw, .int (nI c9_1.kn), .int (nI c9_1.rk), .int (nI c9_1.yn), .ref am.ry, .int (nI c9_1.sp), .int (nI c9_1.lg), .ref am.ti, .int (nI c9_1.fo), .int (nI c9_1.pt), .ref am.po, .ref am.su, .ref am.sq, .ref am.ch, .ref am.vt, .ref am.sh])), (am.rw, .inl (cI, 32, .inl c9_1.wf)), (am.ry, .inl (cI, 256, .inl c9_1.yf)), (am.ti, .inl (cI, 8, .inl c9_1.tf)), (am.po, .inl (cI, 4000, .inl c9_1.pf)), (am.su, .inl (cZ, 1000, .inl c9_1.sf)), (am.sq, .inl (cJ, 256, .inr (.inl c9_1.qf))), (am.ch, .inl (cI, 8, .inl (nf c9_1.ck))), (am.vt, .inl (cI, 4, .inl c9_1.vf)), (am.sh, .inl (cI, 4, .inl (nf c9_1.sk)))], Or.inr (Or.inl (⟨(MCmk (2 : Int32) c9_1.zs c9_1.rn c9_1.kn c9_1.rk c9_1.yn c9_1.sp c9_1.lg c9_1.fo c9_1.pt c9_1.wf c9_1.yf c9_1.tf c9_1.pf c9_1.sf c9_1.qf c9_1.ck c9_1.vf c9_1.sk), rfl, hJ1, hS1, hk1, f_5, f_6, f_7, rfl, fun z9 => z9.1.1 h_9, rfl⟩)), by rw [ht]; exact hP.sub [0, 1, 2, 3, 4, 5, 6, 7, 8, 9] rfl, hD.sub [0, 1, 2, 3, 4, 5, 6, 7, 8, 9] (by decide) rfl⟩, hS.F ht⟩) hS.2.2 d_M_point_64)
      · refine lv_iload_n hx hb d_M_point_15 rfl (lv_at hl 1 rfl) ?_
        refine lv_aload_n hx hb d_M_point_16 rfl (lv_at hl 0 rfl) ?_
        refine va_get (D := D) (ci := 7) (v := .int (nI c9_1.pt)) (C := cn_M) (T := ft_M) (N := 19) hx hb hf_M (fun _ h => h) hown hK hP 0 rfl rfl 12 (by decide) (gw.at G hx0 mw_725 rfl _) (fun _ h9 => h9) rfl d_M_point_17 ?_
        refine lv_icmp_ge (tgt := 35) hx hb d_M_point_20 (by decide) (fun h_10 => ?_) (fun h_10 => ?_)
        · refine lv_iconst (v := (2 : Int32)) hx hb d_M_point_35 (by decide) ?_
          refine lv_goto (tgt := 40) hx hb d_M_point_36 (by decide) ?_
          refine va_put (D := D) (ci := 7) (v := .int (2 : Int32)) (ty := .int) (C := cn_M) (T := ft_M) (N := 19) hx hb hf_M (fun _ h => h) fy_M fk_M fn_M hown hK hP hD hS 0 rfl rfl 0 (by decide) (gw.at G hx0 mw_713 rfl _) (fun _ h9 => h9) rfl (by decide +kernel) rfl rfl (Nat.le_of_ble_eq_true rfl) d_M_point_40 (fun H locs hP hD hS => ?_)
          have hP : va_P D kl [(am.m0, .inr (7, [.int (2 : Int32), .int (nI c9_1.zs), .int (nI c9_1.rn), .ref am.rw, .int (nI c9_1.kn), .int (nI c9_1.rk), .int (nI c9_1.yn), .ref am.ry, .int (nI c9_1.sp), .int (nI c9_1.lg), .ref am.ti, .int (nI c9_1.fo), .int (nI c9_1.pt), .ref am.po, .ref am.su, .ref am.sq, .ref am.ch, .ref am.vt, .ref am.sh])), (am.rw, .inl (cI, 32, .inl c9_1.wf)), (am.ry, .inl (cI, 256, .inl c9_1.yf)), (am.ti, .inl (cI, 8, .inl c9_1.tf)), (am.po, .inl (cI, 4000, .inl c9_1.pf)), (am.su, .inl (cZ, 1000, .inl c9_1.sf)), (am.sq, .inl (cJ, 256, .inr (.inl c9_1.qf))), (am.ch, .inl (cI, 8, .inl (nf c9_1.ck))), (am.vt, .inl (cI, 4, .inl c9_1.vf)), (am.sh, .inl (cI, 4, .inl (nf c9_1.sk)))] H := hP
          have hD : va_D A [(am.m0, .inr (7, [.int (2 : Int32), .int (nI c9_1.zs), .int (nI c9_1.rn), .ref am.rw, .int (nI c9_1.kn), .int (nI c9_1.rk), .int (nI c9_1.yn), .ref am.ry, .int (nI c9_1.sp), .int (nI c9_1.lg), .ref am.ti, .int (nI c9_1.fo), .int (nI c9_1.pt), .ref am.po, .ref am.su, .ref am.sq, .ref am.ch, .ref am.vt, .ref am.sh])), (am.rw, .inl (cI, 32, .inl c9_1.wf)), (am.ry, .inl (cI, 256, .inl c9_1.yf)), (am.ti, .inl (cI, 8, .inl c9_1.tf)), (am.po, .inl (cI, 4000, .inl c9_1.pf)), (am.su, .inl (cZ, 1000, .inl c9_1.sf)), (am.sq, .inl (cJ, 256, .inr (.inl c9_1.qf))), (am.ch, .inl (cI, 8, .inl (nf c9_1.ck))), (am.vt, .inl (cI, 4, .inl c9_1.vf)), (am.sh, .inl (cI, 4, .inl (nf c9_1.sk)))] := hD
          refine lv_aload_n hx hb d_M_point_43 rfl (lv_at hl 0 rfl) ?_
          refine va_get (D := D) (ci := 7) (v := .int (2 : Int32)) (C := cn_M) (T := ft_M) (N := 19) hx hb hf_M (fun _ h => h) hown hK hP 0 rfl rfl 0 (by decide) (gw.at G hx0 mw_713 rfl _) (fun _ h9 => h9) rfl d_M_point_44 ?_
          refine lv_if_le (tgt := 54) hx hb d_M_point_47 (by decide) (fun h99 => absurd h99 (by decide)) (fun _ => ?_)
          refine lv_iconst (v := (0 : Int32)) hx hb d_M_point_50 (by decide) ?_
          refine lv_goto (tgt := 64) hx hb d_M_point_51 (by decide) ?_
          exact tx_mono (fun _ h => tx_Z.of h) (W.iret (v := (0 : Int32)) hx hb hr (fun t ht hW => ⟨⟨[(am.m0, .inr (7, [.int (2 : Int32), .int (nI c9_1.zs), .int (nI c9_1.rn), .ref am.rw, .int (nI c9_1.kn), .int (nI c9_1.rk), .int (nI c9_1.yn), .ref am.ry, .int (nI c9_1.sp), .int (nI c9_1.lg), .ref am.ti, .int (nI c9_1.fo), .int (nI c9_1.pt), .ref am.po, .ref am.su, .ref am.sq, .ref am.ch, .ref am.vt, .ref am.sh])), (am.rw, .inl (cI, 32, .inl c9_1.wf)), (am.ry, .inl (cI, 256, .inl c9_1.yf)), (am.ti, .inl (cI, 8, .inl c9_1.tf)), (am.po, .inl (cI, 4000, .inl c9_1.pf)), (am.su, .inl (cZ, 1000, .inl c9_1.sf)), (am.sq, .inl (cJ, 256, .inr (.inl c9_1.qf))), (am.ch, .inl (cI, 8, .inl (nf c9_1.ck))), (am.vt, .inl (cI, 4, .inl c9_1.vf)), (am.sh, .inl (cI, 4, .inl (nf c9_1.sk)))], Or.inr (Or.inl (⟨(MCmk (2 : Int32) c9_1.zs c9_1.rn c9_1.kn c9_1.rk c9_1.yn c9_1.sp c9_1.lg c9_1.fo c9_1.pt c9_1.wf c9_1.yf c9_1.tf c9_1.pf c9_1.sf c9_1.qf c9_1.ck c9_1.vf c9_1.sk), rfl, hJ1, hS1, hk1, f_5, f_6, f_7, rfl, fun z9 => absurd z9.1.2 (Int32.not_lt.mpr h_10), rfl⟩)), by rw [ht]; exact hP.sub [0, 1, 2, 3, 4, 5, 6, 7, 8, 9] rfl, hD.sub [0, 1, 2, 3, 4, 5, 6, 7, 8, 9] (by decide) rfl⟩, hS.F ht⟩) hS.2.2 d_M_point_64)
        · refine lv_iload_n hx hb d_M_point_23 rfl (lv_at hl 2 rfl) ?_
          refine lv_if_lt (tgt := 35) hx hb d_M_point_24 (by decide) (fun h_11 => ?_) (fun h_11 => ?_)
          · refine lv_iconst (v := (2 : Int32)) hx hb d_M_point_35 (by decide) ?_
            refine lv_goto (tgt := 40) hx hb d_M_point_36 (by decide) ?_
            refine va_put (D := D) (ci := 7) (v := .int (2 : Int32)) (ty := .int) (C := cn_M) (T := ft_M) (N := 19) hx hb hf_M (fun _ h => h) fy_M fk_M fn_M hown hK hP hD hS 0 rfl rfl 0 (by decide) (gw.at G hx0 mw_713 rfl _) (fun _ h9 => h9) rfl (by decide +kernel) rfl rfl (Nat.le_of_ble_eq_true rfl) d_M_point_40 (fun H locs hP hD hS => ?_)
            have hP : va_P D kl [(am.m0, .inr (7, [.int (2 : Int32), .int (nI c9_1.zs), .int (nI c9_1.rn), .ref am.rw, .int (nI c9_1.kn), .int (nI c9_1.rk), .int (nI c9_1.yn), .ref am.ry, .int (nI c9_1.sp), .int (nI c9_1.lg), .ref am.ti, .int (nI c9_1.fo), .int (nI c9_1.pt), .ref am.po, .ref am.su, .ref am.sq, .ref am.ch, .ref am.vt, .ref am.sh])), (am.rw, .inl (cI, 32, .inl c9_1.wf)), (am.ry, .inl (cI, 256, .inl c9_1.yf)), (am.ti, .inl (cI, 8, .inl c9_1.tf)), (am.po, .inl (cI, 4000, .inl c9_1.pf)), (am.su, .inl (cZ, 1000, .inl c9_1.sf)), (am.sq, .inl (cJ, 256, .inr (.inl c9_1.qf))), (am.ch, .inl (cI, 8, .inl (nf c9_1.ck))), (am.vt, .inl (cI, 4, .inl c9_1.vf)), (am.sh, .inl (cI, 4, .inl (nf c9_1.sk)))] H := hP
            have hD : va_D A [(am.m0, .inr (7, [.int (2 : Int32), .int (nI c9_1.zs), .int (nI c9_1.rn), .ref am.rw, .int (nI c9_1.kn), .int (nI c9_1.rk), .int (nI c9_1.yn), .ref am.ry, .int (nI c9_1.sp), .int (nI c9_1.lg), .ref am.ti, .int (nI c9_1.fo), .int (nI c9_1.pt), .ref am.po, .ref am.su, .ref am.sq, .ref am.ch, .ref am.vt, .ref am.sh])), (am.rw, .inl (cI, 32, .inl c9_1.wf)), (am.ry, .inl (cI, 256, .inl c9_1.yf)), (am.ti, .inl (cI, 8, .inl c9_1.tf)), (am.po, .inl (cI, 4000, .inl c9_1.pf)), (am.su, .inl (cZ, 1000, .inl c9_1.sf)), (am.sq, .inl (cJ, 256, .inr (.inl c9_1.qf))), (am.ch, .inl (cI, 8, .inl (nf c9_1.ck))), (am.vt, .inl (cI, 4, .inl c9_1.vf)), (am.sh, .inl (cI, 4, .inl (nf c9_1.sk)))] := hD
            refine lv_aload_n hx hb d_M_point_43 rfl (lv_at hl 0 rfl) ?_
            refine va_get (D := D) (ci := 7) (v := .int (2 : Int32)) (C := cn_M) (T := ft_M) (N := 19) hx hb hf_M (fun _ h => h) hown hK hP 0 rfl rfl 0 (by decide) (gw.at G hx0 mw_713 rfl _) (fun _ h9 => h9) rfl d_M_point_44 ?_
            refine lv_if_le (tgt := 54) hx hb d_M_point_47 (by decide) (fun h99 => absurd h99 (by decide)) (fun _ => ?_)
            refine lv_iconst (v := (0 : Int32)) hx hb d_M_point_50 (by decide) ?_
            refine lv_goto (tgt := 64) hx hb d_M_point_51 (by decide) ?_
            exact tx_mono (fun _ h => tx_Z.of h) (W.iret (v := (0 : Int32)) hx hb hr (fun t ht hW => ⟨⟨[(am.m0, .inr (7, [.int (2 : Int32), .int (nI c9_1.zs), .int (nI c9_1.rn), .ref am.rw, .int (nI c9_1.kn), .int (nI c9_1.rk), .int (nI c9_1.yn), .ref am.ry, .int (nI c9_1.sp), .int (nI c9_1.lg), .ref am.ti, .int (nI c9_1.fo), .int (nI c9_1.pt), .ref am.po, .ref am.su, .ref am.sq, .ref am.ch, .ref am.vt, .ref am.sh])), (am.rw, .inl (cI, 32, .inl c9_1.wf)), (am.ry, .inl (cI, 256, .inl c9_1.yf)), (am.ti, .inl (cI, 8, .inl c9_1.tf)), (am.po, .inl (cI, 4000, .inl c9_1.pf)), (am.su, .inl (cZ, 1000, .inl c9_1.sf)), (am.sq, .inl (cJ, 256, .inr (.inl c9_1.qf))), (am.ch, .inl (cI, 8, .inl (nf c9_1.ck))), (am.vt, .inl (cI, 4, .inl c9_1.vf)), (am.sh, .inl (cI, 4, .inl (nf c9_1.sk)))], Or.inr (Or.inl (⟨(MCmk (2 : Int32) c9_1.zs c9_1.rn c9_1.kn c9_1.rk c9_1.yn c9_1.sp c9_1.lg c9_1.fo c9_1.pt c9_1.wf c9_1.yf c9_1.tf c9_1.pf c9_1.sf c9_1.qf c9_1.ck c9_1.vf c9_1.sk), rfl, hJ1, hS1, hk1, f_5, f_6, f_7, rfl, fun z9 => z9.2.1 h_11, rfl⟩)), by rw [ht]; exact hP.sub [0, 1, 2, 3, 4, 5, 6, 7, 8, 9] rfl, hD.sub [0, 1, 2, 3, 4, 5, 6, 7, 8, 9] (by decide) rfl⟩, hS.F ht⟩) hS.2.2 d_M_point_64)
          · refine lv_iload_n hx hb d_M_point_27 rfl (lv_at hl 2 rfl) ?_
            refine lv_aload_n hx hb d_M_point_28 rfl (lv_at hl 0 rfl) ?_
            refine va_get (D := D) (ci := 7) (v := .int (nI c9_1.zs)) (C := cn_M) (T := ft_M) (N := 19) hx hb hf_M (fun _ h => h) hown hK hP 0 rfl rfl 1 (by decide) (gw.at G hx0 mw_714 rfl _) (fun _ h9 => h9) rfl d_M_point_29 ?_
            refine lv_icmp_lt (tgt := 39) hx hb d_M_point_32 (by decide) (fun h_12 => ?_) (fun h_12 => ?_)
            · refine lv_iconst (v := (0 : Int32)) hx hb d_M_point_39 (by decide) ?_
              refine va_put (D := D) (ci := 7) (v := .int (0 : Int32)) (ty := .int) (C := cn_M) (T := ft_M) (N := 19) hx hb hf_M (fun _ h => h) fy_M fk_M fn_M hown hK hP hD hS 0 rfl rfl 0 (by decide) (gw.at G hx0 mw_713 rfl _) (fun _ h9 => h9) rfl (by decide +kernel) rfl rfl (Nat.le_of_ble_eq_true rfl) d_M_point_40 (fun H locs hP hD hS => ?_)
              have hP : va_P D kl [(am.m0, .inr (7, [.int (0 : Int32), .int (nI c9_1.zs), .int (nI c9_1.rn), .ref am.rw, .int (nI c9_1.kn), .int (nI c9_1.rk), .int (nI c9_1.yn), .ref am.ry, .int (nI c9_1.sp), .int (nI c9_1.lg), .ref am.ti, .int (nI c9_1.fo), .int (nI c9_1.pt), .ref am.po, .ref am.su, .ref am.sq, .ref am.ch, .ref am.vt, .ref am.sh])), (am.rw, .inl (cI, 32, .inl c9_1.wf)), (am.ry, .inl (cI, 256, .inl c9_1.yf)), (am.ti, .inl (cI, 8, .inl c9_1.tf)), (am.po, .inl (cI, 4000, .inl c9_1.pf)), (am.su, .inl (cZ, 1000, .inl c9_1.sf)), (am.sq, .inl (cJ, 256, .inr (.inl c9_1.qf))), (am.ch, .inl (cI, 8, .inl (nf c9_1.ck))), (am.vt, .inl (cI, 4, .inl c9_1.vf)), (am.sh, .inl (cI, 4, .inl (nf c9_1.sk)))] H := hP
              have hD : va_D A [(am.m0, .inr (7, [.int (0 : Int32), .int (nI c9_1.zs), .int (nI c9_1.rn), .ref am.rw, .int (nI c9_1.kn), .int (nI c9_1.rk), .int (nI c9_1.yn), .ref am.ry, .int (nI c9_1.sp), .int (nI c9_1.lg), .ref am.ti, .int (nI c9_1.fo), .int (nI c9_1.pt), .ref am.po, .ref am.su, .ref am.sq, .ref am.ch, .ref am.vt, .ref am.sh])), (am.rw, .inl (cI, 32, .inl c9_1.wf)), (am.ry, .inl (cI, 256, .inl c9_1.yf)), (am.ti, .inl (cI, 8, .inl c9_1.tf)), (am.po, .inl (cI, 4000, .inl c9_1.pf)), (am.su, .inl (cZ, 1000, .inl c9_1.sf)), (am.sq, .inl (cJ, 256, .inr (.inl c9_1.qf))), (am.ch, .inl (cI, 8, .inl (nf c9_1.ck))), (am.vt, .inl (cI, 4, .inl c9_1.vf)), (am.sh, .inl (cI, 4, .inl (nf c9_1.sk)))] := hD
              refine lv_aload_n hx hb d_M_point_43 rfl (lv_at hl 0 rfl) ?_
              refine va_get (D := D) (ci := 7) (v := .int (0 : Int32)) (C := cn_M) (T := ft_M) (N := 19) hx hb hf_M (fun _ h => h) hown hK hP 0 rfl rfl 0 (by decide) (gw.at G hx0 mw_713 rfl _) (fun _ h9 => h9) rfl d_M_point_44 ?_
              refine lv_if_le (tgt := 54) hx hb d_M_point_47 (by decide) (fun _ => ?_) (fun h99 => absurd h99 (by decide))
              obtain ⟨k_13, hk_14, hw_15⟩ := nI_ex (n := c9_1.pt) h_9 (Int32.not_le.mp h_10) (by omega)
              rw [hw_15] at hl
              obtain ⟨k_16, hk_17, hw_18⟩ := nI_ex (n := c9_1.zs) h_11 h_12 (by omega)
              rw [hw_18] at hl
              refine lv_aload_n hx hb d_M_point_54 rfl (lv_at hl 0 rfl) ?_
              refine va_get (D := D) (ci := 7) (v := .ref am.po) (C := cn_M) (T := ft_M) (N := 19) hx hb hf_M (fun _ h => h) hown hK hP 0 rfl rfl 13 (by decide) (gw.at G hx0 mw_726 rfl _) (fun _ h9 => h9) rfl d_M_point_55 ?_
              refine lv_iconst (v := (4 : Int32)) hx hb d_M_point_58 (by decide) ?_
              refine lv_iload_n hx hb d_M_point_59 rfl (lv_at hl 1 rfl) ?_
              refine lv_imul hx hb d_M_point_60 ?_
              refine tp_i (y := nI (4 * k_13)) (nI_mul 4 k_13) ?_
              refine lv_iload_n hx hb d_M_point_61 rfl (lv_at hl 2 rfl) ?_
              refine lv_iadd hx hb d_M_point_62 ?_
              refine tp_i (y := nI ((4 * k_13) + k_16)) (nI_add (4 * k_13) k_16) ?_
              refine va_iald hx hb hK hP 4 0 rfl rfl (vp_in_nI (n := (4 * k_13) + k_16) (by omega) (by omega)) d_M_point_63 ?_
              refine tp_i (y := c9_1.pf ((4 * k_13) + k_16)) (congrArg c9_1.pf (nI_clamp (n := (4 * k_13) + k_16) (by omega))) ?_
              exact tx_mono (fun _ h => tx_Z.of h) (W.iret (v := c9_1.pf ((4 * k_13) + k_16)) hx hb hr (fun t ht hW => ⟨⟨[(am.m0, .inr (7, [.int (0 : Int32), .int (nI c9_1.zs), .int (nI c9_1.rn), .ref am.rw, .int (nI c9_1.kn), .int (nI c9_1.rk), .int (nI c9_1.yn), .ref am.ry, .int (nI c9_1.sp), .int (nI c9_1.lg), .ref am.ti, .int (nI c9_1.fo), .int (nI c9_1.pt), .ref am.po, .ref am.su, .ref am.sq, .ref am.ch, .ref am.vt, .ref am.sh])), (am.rw, .inl (cI, 32, .inl c9_1.wf)), (am.ry, .inl (cI, 256, .inl c9_1.yf)), (am.ti, .inl (cI, 8, .inl c9_1.tf)), (am.po, .inl (cI, 4000, .inl c9_1.pf)), (am.su, .inl (cZ, 1000, .inl c9_1.sf)), (am.sq, .inl (cJ, 256, .inr (.inl c9_1.qf))), (am.ch, .inl (cI, 8, .inl (nf c9_1.ck))), (am.vt, .inl (cI, 4, .inl c9_1.vf)), (am.sh, .inl (cI, 4, .inl (nf c9_1.sk)))], Or.inr (Or.inr (⟨(MCmk (0 : Int32) c9_1.zs c9_1.rn c9_1.kn c9_1.rk c9_1.yn c9_1.sp c9_1.lg c9_1.fo c9_1.pt c9_1.wf c9_1.yf c9_1.tf c9_1.pf c9_1.sf c9_1.qf c9_1.ck c9_1.vf c9_1.sk), k_13, k_16, rfl, hJ1, hS1, hk1, f_5, f_6, f_7, rfl, hk_14, hk_17, hw_15, hw_18, rfl⟩)), by rw [ht]; exact hP.sub [0, 1, 2, 3, 4, 5, 6, 7, 8, 9] rfl, hD.sub [0, 1, 2, 3, 4, 5, 6, 7, 8, 9] (by decide) rfl⟩, hS.F ht⟩) hS.2.2 d_M_point_64)
            · refine lv_iconst (v := (2 : Int32)) hx hb d_M_point_35 (by decide) ?_
              refine lv_goto (tgt := 40) hx hb d_M_point_36 (by decide) ?_
              refine va_put (D := D) (ci := 7) (v := .int (2 : Int32)) (ty := .int) (C := cn_M) (T := ft_M) (N := 19) hx hb hf_M (fun _ h => h) fy_M fk_M fn_M hown hK hP hD hS 0 rfl rfl 0 (by decide) (gw.at G hx0 mw_713 rfl _) (fun _ h9 => h9) rfl (by decide +kernel) rfl rfl (Nat.le_of_ble_eq_true rfl) d_M_point_40 (fun H locs hP hD hS => ?_)
              have hP : va_P D kl [(am.m0, .inr (7, [.int (2 : Int32), .int (nI c9_1.zs), .int (nI c9_1.rn), .ref am.rw, .int (nI c9_1.kn), .int (nI c9_1.rk), .int (nI c9_1.yn), .ref am.ry, .int (nI c9_1.sp), .int (nI c9_1.lg), .ref am.ti, .int (nI c9_1.fo), .int (nI c9_1.pt), .ref am.po, .ref am.su, .ref am.sq, .ref am.ch, .ref am.vt, .ref am.sh])), (am.rw, .inl (cI, 32, .inl c9_1.wf)), (am.ry, .inl (cI, 256, .inl c9_1.yf)), (am.ti, .inl (cI, 8, .inl c9_1.tf)), (am.po, .inl (cI, 4000, .inl c9_1.pf)), (am.su, .inl (cZ, 1000, .inl c9_1.sf)), (am.sq, .inl (cJ, 256, .inr (.inl c9_1.qf))), (am.ch, .inl (cI, 8, .inl (nf c9_1.ck))), (am.vt, .inl (cI, 4, .inl c9_1.vf)), (am.sh, .inl (cI, 4, .inl (nf c9_1.sk)))] H := hP
              have hD : va_D A [(am.m0, .inr (7, [.int (2 : Int32), .int (nI c9_1.zs), .int (nI c9_1.rn), .ref am.rw, .int (nI c9_1.kn), .int (nI c9_1.rk), .int (nI c9_1.yn), .ref am.ry, .int (nI c9_1.sp), .int (nI c9_1.lg), .ref am.ti, .int (nI c9_1.fo), .int (nI c9_1.pt), .ref am.po, .ref am.su, .ref am.sq, .ref am.ch, .ref am.vt, .ref am.sh])), (am.rw, .inl (cI, 32, .inl c9_1.wf)), (am.ry, .inl (cI, 256, .inl c9_1.yf)), (am.ti, .inl (cI, 8, .inl c9_1.tf)), (am.po, .inl (cI, 4000, .inl c9_1.pf)), (am.su, .inl (cZ, 1000, .inl c9_1.sf)), (am.sq, .inl (cJ, 256, .inr (.inl c9_1.qf))), (am.ch, .inl (cI, 8, .inl (nf c9_1.ck))), (am.vt, .inl (cI, 4, .inl c9_1.vf)), (am.sh, .inl (cI, 4, .inl (nf c9_1.sk)))] := hD
              refine lv_aload_n hx hb d_M_point_43 rfl (lv_at hl 0 rfl) ?_
              refine va_get (D := D) (ci := 7) (v := .int (2 : Int32)) (C := cn_M) (T := ft_M) (N := 19) hx hb hf_M (fun _ h => h) hown hK hP 0 rfl rfl 0 (by decide) (gw.at G hx0 mw_713 rfl _) (fun _ h9 => h9) rfl d_M_point_44 ?_
              refine lv_if_le (tgt := 54) hx hb d_M_point_47 (by decide) (fun h99 => absurd h99 (by decide)) (fun _ => ?_)
              refine lv_iconst (v := (0 : Int32)) hx hb d_M_point_50 (by decide) ?_
              refine lv_goto (tgt := 64) hx hb d_M_point_51 (by decide) ?_
              exact tx_mono (fun _ h => tx_Z.of h) (W.iret (v := (0 : Int32)) hx hb hr (fun t ht hW => ⟨⟨[(am.m0, .inr (7, [.int (2 : Int32), .int (nI c9_1.zs), .int (nI c9_1.rn), .ref am.rw, .int (nI c9_1.kn), .int (nI c9_1.rk), .int (nI c9_1.yn), .ref am.ry, .int (nI c9_1.sp), .int (nI c9_1.lg), .ref am.ti, .int (nI c9_1.fo), .int (nI c9_1.pt), .ref am.po, .ref am.su, .ref am.sq, .ref am.ch, .ref am.vt, .ref am.sh])), (am.rw, .inl (cI, 32, .inl c9_1.wf)), (am.ry, .inl (cI, 256, .inl c9_1.yf)), (am.ti, .inl (cI, 8, .inl c9_1.tf)), (am.po, .inl (cI, 4000, .inl c9_1.pf)), (am.su, .inl (cZ, 1000, .inl c9_1.sf)), (am.sq, .inl (cJ, 256, .inr (.inl c9_1.qf))), (am.ch, .inl (cI, 8, .inl (nf c9_1.ck))), (am.vt, .inl (cI, 4, .inl c9_1.vf)), (am.sh, .inl (cI, 4, .inl (nf c9_1.sk)))], Or.inr (Or.inl (⟨(MCmk (2 : Int32) c9_1.zs c9_1.rn c9_1.kn c9_1.rk c9_1.yn c9_1.sp c9_1.lg c9_1.fo c9_1.pt c9_1.wf c9_1.yf c9_1.tf c9_1.pf c9_1.sf c9_1.qf c9_1.ck c9_1.vf c9_1.sk), rfl, hJ1, hS1, hk1, f_5, f_6, f_7, rfl, fun z9 => h_12 z9.2.2, rfl⟩)), by rw [ht]; exact hP.sub [0, 1, 2, 3, 4, 5, 6, 7, 8, 9] rfl, hD.sub [0, 1, 2, 3, 4, 5, 6, 7, 8, 9] (by decide) rfl⟩, hS.F ht⟩) hS.2.2 d_M_point_64)
    · obtain ⟨c9_19, h9, f_20, f_21, f_22, f_23, f_24, rfl⟩ := hp
      cases h9
      refine W.eq (g2 := F0 m 5 ls [.int (0 : Int32)]) rfl ?_
      refine W.widen (k := 0) (n := 0) (by decide) (by decide) ?_
      have hP : va_P D kl [(am.m0, .inr (7, [.int c9_19.th, .int (nI c9_19.zs), .int (nI c9_19.rn), .ref am.rw, .int (nI c9_19.kn), .int (nI c9_19.rk), .int (nI c9_19.yn), .ref am.ry, .int (nI c9_19.sp), .int (nI c9_19.lg), .ref am.ti, .int (nI c9_19.fo), .int (nI c9_19.pt), .ref am.po, .ref am.su, .ref am.sq, .ref am.ch, .ref am.vt, .ref am.sh])), (am.rw, .inl (cI, 32, .inl c9_19.wf)), (am.ry, .inl (cI, 256, .inl c9_19.yf)), (am.ti, .inl (cI, 8, .inl c9_19.tf)), (am.po, .inl (cI, 4000, .inl c9_19.pf)), (am.su, .inl (cZ, 1000, .inl c9_19.sf)), (am.sq, .inl (cJ, 256, .inr (.inl c9_19.qf))), (am.ch, .inl (cI, 8, .inl (nf c9_19.ck))), (am.vt, .inl (cI, 4, .inl c9_19.vf)), (am.sh, .inl (cI, 4, .inl (nf c9_19.sk)))] H := hP
      have hD : va_D A [(am.m0, .inr (7, [.int c9_19.th, .int (nI c9_19.zs), .int (nI c9_19.rn), .ref am.rw, .int (nI c9_19.kn), .int (nI c9_19.rk), .int (nI c9_19.yn), .ref am.ry, .int (nI c9_19.sp), .int (nI c9_19.lg), .ref am.ti, .int (nI c9_19.fo), .int (nI c9_19.pt), .ref am.po, .ref am.su, .ref am.sq, .ref am.ch, .ref am.vt, .ref am.sh])), (am.rw, .inl (cI, 32, .inl c9_19.wf)), (am.ry, .inl (cI, 256, .inl c9_19.yf)), (am.ti, .inl (cI, 8, .inl c9_19.tf)), (am.po, .inl (cI, 4000, .inl c9_19.pf)), (am.su, .inl (cZ, 1000, .inl c9_19.sf)), (am.sq, .inl (cJ, 256, .inr (.inl c9_19.qf))), (am.ch, .inl (cI, 8, .inl (nf c9_19.ck))), (am.vt, .inl (cI, 4, .inl c9_19.vf)), (am.sh, .inl (cI, 4, .inl (nf c9_19.sk)))] := hD
      have hJ1 := f_20
      have hS1 := f_21
      have hk1 : c9_19.kn = 1 := f_22
      have hz2 := hJ1.z2
      have hz4 := hJ1.z4
      have hr8 := hJ1.r8
      have hkn := hJ1.kn
      have hrk := hJ1.rk
      have hyn := hJ1.yn
      have hsp := hJ1.sp
      have hlg := hJ1.lg
      have hfo := hJ1.fo
      have hpt := hJ1.pt
      have hck := hJ1.ck
      have hsk := hJ1.sk
      have hro := hJ1.ro
      refine lv_if_ne (tgt := 10) hx hb d_M_point_5 (by decide) (fun h99 => absurd h99 (by decide)) (fun _ => ?_)
      refine lv_iconst (v := (0 : Int32)) hx hb d_M_point_8 (by decide) ?_
      exact tx_mono (fun _ h => tx_Z.of h) (W.iret (v := (0 : Int32)) hx hb hr (fun t ht hW => ⟨⟨[(am.m0, .inr (7, [.int c9_19.th, .int (nI c9_19.zs), .int (nI c9_19.rn), .ref am.rw, .int (nI c9_19.kn), .int (nI c9_19.rk), .int (nI c9_19.yn), .ref am.ry, .int (nI c9_19.sp), .int (nI c9_19.lg), .ref am.ti, .int (nI c9_19.fo), .int (nI c9_19.pt), .ref am.po, .ref am.su, .ref am.sq, .ref am.ch, .ref am.vt, .ref am.sh])), (am.rw, .inl (cI, 32, .inl c9_19.wf)), (am.ry, .inl (cI, 256, .inl c9_19.yf)), (am.ti, .inl (cI, 8, .inl c9_19.tf)), (am.po, .inl (cI, 4000, .inl c9_19.pf)), (am.su, .inl (cZ, 1000, .inl c9_19.sf)), (am.sq, .inl (cJ, 256, .inr (.inl c9_19.qf))), (am.ch, .inl (cI, 8, .inl (nf c9_19.ck))), (am.vt, .inl (cI, 4, .inl c9_19.vf)), (am.sh, .inl (cI, 4, .inl (nf c9_19.sk)))], Or.inl (⟨c9_19, rfl, hJ1, hS1, hk1, f_23, f_24, rfl⟩), by rw [ht]; exact hP.sub [0, 1, 2, 3, 4, 5, 6, 7, 8, 9] rfl, hD.sub [0, 1, 2, 3, 4, 5, 6, 7, 8, 9] (by decide) rfl⟩, hS.F ht⟩) hS.2.2 d_M_point_9)
  · rcases hp with hp | hp
    · obtain ⟨_, h9, -⟩ := hp; cases h9
    · obtain ⟨_, h9, -⟩ := hp; cases h9

set_option maxHeartbeats 4000000 in
set_option maxRecDepth 100000 in
theorem c_M_row {l : Launch} {s0 : State} {b0 : Addr} {D : va_G} {cI cJ cZ : ClassId} {tC tS : Nat} (E : gE l s0 b0 D cI cJ cZ tC tS) (sz : Nat) (am : MA) (cm : MC) (w : Int32) (v2 : Int32) (hT9 : MTH) (hJ : MJ cm) : cx_M l s0 D kl y_M_row b_M_row 3 (some .int) ({ frames := 0, cells := 0, slots := 0, locals := 0 } : Room) 0 0 [.ref am.m0, .int w, .int v2] [(am.m0, .inr (7, [.int cm.th, .int (nI cm.zs), .int (nI cm.rn), .ref am.rw, .int (nI cm.kn), .int (nI cm.rk), .int (nI cm.yn), .ref am.ry, .int (nI cm.sp), .int (nI cm.lg), .ref am.ti, .int (nI cm.fo), .int (nI cm.pt), .ref am.po, .ref am.su, .ref am.sq, .ref am.ch, .ref am.vt, .ref am.sh])), (am.rw, .inl (cI, 32, .inl cm.wf)), (am.ry, .inl (cI, 256, .inl cm.yf)), (am.ti, .inl (cI, 8, .inl cm.tf)), (am.po, .inl (cI, 4000, .inl cm.pf)), (am.su, .inl (cZ, 1000, .inl cm.sf)), (am.sq, .inl (cJ, 256, .inr (.inl cm.qf))), (am.ch, .inl (cI, 8, .inl (nf cm.ck))), (am.vt, .inl (cI, 4, .inl cm.vf)), (am.sh, .inl (cI, 4, .inl (nf cm.sk)))] sz (fun o9 t9 w9 => (∃ (c9 : MC), o9 = .returned (some (.int (0 : Int32))) ∧ MJ c9 ∧ MS cm c9 ∧ c9.th = 1 ∧ ¬ (inR w cm.rn ∧ inR v2 cm.zs) ∧ w9 = [(am.m0, .inr (7, [.int c9.th, .int (nI c9.zs), .int (nI c9.rn), .ref am.rw, .int (nI c9.kn), .int (nI c9.rk), .int (nI c9.yn), .ref am.ry, .int (nI c9.sp), .int (nI c9.lg), .ref am.ti, .int (nI c9.fo), .int (nI c9.pt), .ref am.po, .ref am.su, .ref am.sq, .ref am.ch, .ref am.vt, .ref am.sh])), (am.rw, .inl (cI, 32, .inl c9.wf)), (am.ry, .inl (cI, 256, .inl c9.yf)), (am.ti, .inl (cI, 8, .inl c9.tf)), (am.po, .inl (cI, 4000, .inl c9.pf)), (am.su, .inl (cZ, 1000, .inl c9.sf)), (am.sq, .inl (cJ, 256, .inr (.inl c9.qf))), (am.ch, .inl (cI, 8, .inl (nf c9.ck))), (am.vt, .inl (cI, 4, .inl c9.vf)), (am.sh, .inl (cI, 4, .inl (nf c9.sk)))]) ∨ (∃ (c9 : MC) (k : Nat) (i : Nat), o9 = .returned (some (.int (cm.wf (4 * k + i)))) ∧ MJ c9 ∧ MS cm c9 ∧ c9.th = 0 ∧ k < cm.rn ∧ i < cm.zs ∧ w = nI k ∧ v2 = nI i ∧ w9 = [(am.m0, .inr (7, [.int c9.th, .int (nI c9.zs), .int (nI c9.rn), .ref am.rw, .int (nI c9.kn), .int (nI c9.rk), .int (nI c9.yn), .ref am.ry, .int (nI c9.sp), .int (nI c9.lg), .ref am.ti, .int (nI c9.fo), .int (nI c9.pt), .ref am.po, .ref am.su, .ref am.sq, .ref am.ch, .ref am.vt, .ref am.sh])), (am.rw, .inl (cI, 32, .inl c9.wf)), (am.ry, .inl (cI, 256, .inl c9.yf)), (am.ti, .inl (cI, 8, .inl c9.tf)), (am.po, .inl (cI, 4000, .inl c9.pf)), (am.su, .inl (cZ, 1000, .inl c9.sf)), (am.sq, .inl (cJ, 256, .inr (.inl c9.qf))), (am.ch, .inl (cI, 8, .inl (nf c9.ck))), (am.vt, .inl (cI, 4, .inl c9.vf)), (am.sh, .inl (cI, 4, .inl (nf c9.sk)))])) := by
  refine tx_ofW (cc := b_M_row) (maxL := 3) (ret := (some .int)) (by decide) rfl ?_
  intro p e s m args below meth c s₁ B hml hT hv
  obtain ⟨rfl, hsz, hP, hD0, hx0⟩ := hv
  have hx := B.exec
  have hb := B.bytes
  have hr := B.returns
  have G := E.2.1
  have hown : s.vm.findClass cn_M = some m.cls := findClass_of_methodNamed B.named
  have hlocks := B.notSynchronized
  have hK := va_K.moved hx0.1.alike E.2.2.1
  have hf_M : ∀ w99 ∈ u_ws cn_M ft_M 19, w99.before ([.ref am.m0, .int w, .int v2] : List Value).toArray s = true := fun w99 h99 => gw.at G hx0 (fw_M w99 h99) (fo_M w99 h99) _
  subst hsz
  have hA0 := cx_new hD0 hx0.2.1
  have hD := hD0.self (sz := s.heap.size)
  generalize hAe : va_A [(am.m0, .inr (7, [.int cm.th, .int (nI cm.zs), .int (nI cm.rn), .ref am.rw, .int (nI cm.kn), .int (nI cm.rk), .int (nI cm.yn), .ref am.ry, .int (nI cm.sp), .int (nI cm.lg), .ref am.ti, .int (nI cm.fo), .int (nI cm.pt), .ref am.po, .ref am.su, .ref am.sq, .ref am.ch, .ref am.vt, .ref am.sh])), (am.rw, .inl (cI, 32, .inl cm.wf)), (am.ry, .inl (cI, 256, .inl cm.yf)), (am.ti, .inl (cI, 8, .inl cm.tf)), (am.po, .inl (cI, 4000, .inl cm.pf)), (am.su, .inl (cZ, 1000, .inl cm.sf)), (am.sq, .inl (cJ, 256, .inr (.inl cm.qf))), (am.ch, .inl (cI, 8, .inl (nf cm.ck))), (am.vt, .inl (cI, 4, .inl cm.vf)), (am.sh, .inl (cI, 4, .inl (nf cm.sk)))] s.heap.size = A at hD hA0 ⊢
  have hA : ∀ q : Nat, s.heap.size ≤ q → A q := fun q h => by rw [← hAe]; exact Or.inr h
  have hS : va_S A s.heap s.heap [] := va_S.rf
  have hl := lv_entry ([.ref am.m0, .int w, .int v2]) (n := 3) (Nat.le_of_ble_eq_true rfl)
  rw [lg_entry_eq]
  generalize (lg_sl ([.ref am.m0, .int w, .int v2]) ++ List.replicate (3 - (lg_sl ([.ref am.m0, .int w, .int v2])).length) Slot.unset).toArray = ls at hl ⊢
  have hl : lv_has ls 3 [(0, .ref am.m0), (1, .int w), (2, .int v2)] := hl
  have hP : va_P D kl [(am.m0, .inr (7, [.int cm.th, .int (nI cm.zs), .int (nI cm.rn), .ref am.rw, .int (nI cm.kn), .int (nI cm.rk), .int (nI cm.yn), .ref am.ry, .int (nI cm.sp), .int (nI cm.lg), .ref am.ti, .int (nI cm.fo), .int (nI cm.pt), .ref am.po, .ref am.su, .ref am.sq, .ref am.ch, .ref am.vt, .ref am.sh])), (am.rw, .inl (cI, 32, .inl cm.wf)), (am.ry, .inl (cI, 256, .inl cm.yf)), (am.ti, .inl (cI, 8, .inl cm.tf)), (am.po, .inl (cI, 4000, .inl cm.pf)), (am.su, .inl (cZ, 1000, .inl cm.sf)), (am.sq, .inl (cJ, 256, .inr (.inl cm.qf))), (am.ch, .inl (cI, 8, .inl (nf cm.ck))), (am.vt, .inl (cI, 4, .inl cm.vf)), (am.sh, .inl (cI, 4, .inl (nf cm.sk)))] s.heap := hP
  have hml : c.maxLocals = 3 := hml
  have hz2 := hJ.z2
  have hz4 := hJ.z4
  have hr8 := hJ.r8
  have hkn := hJ.kn
  have hrk := hJ.rk
  have hyn := hJ.yn
  have hsp := hJ.sp
  have hlg := hJ.lg
  have hfo := hJ.fo
  have hpt := hJ.pt
  have hck := hJ.ck
  have hsk := hJ.sk
  have hro := hJ.ro
  refine lv_aload_n hx hb d_M_row_0 rfl (lv_at hl 0 rfl) ?_
  refine lv_iload_n hx hb d_M_row_1 rfl (lv_at hl 1 rfl) ?_
  refine lv_if_lt (tgt := 25) hx hb d_M_row_2 (by decide) (fun h_1 => ?_) (fun h_1 => ?_)
  · refine lv_iconst (v := (1 : Int32)) hx hb d_M_row_25 (by decide) ?_
    refine lv_goto (tgt := 30) hx hb d_M_row_26 (by decide) ?_
    refine va_put (D := D) (ci := 7) (v := .int (1 : Int32)) (ty := .int) (C := cn_M) (T := ft_M) (N := 19) hx hb hf_M (fun _ h => h) fy_M fk_M fn_M hown hK hP hD hS 0 rfl rfl 0 (by decide) (gw.at G hx0 mw_713 rfl _) (fun _ h9 => h9) rfl (by decide +kernel) rfl rfl (Nat.le_of_ble_eq_true rfl) d_M_row_30 (fun H locs hP hD hS => ?_)
    have hP : va_P D kl [(am.m0, .inr (7, [.int (1 : Int32), .int (nI cm.zs), .int (nI cm.rn), .ref am.rw, .int (nI cm.kn), .int (nI cm.rk), .int (nI cm.yn), .ref am.ry, .int (nI cm.sp), .int (nI cm.lg), .ref am.ti, .int (nI cm.fo), .int (nI cm.pt), .ref am.po, .ref am.su, .ref am.sq, .ref am.ch, .ref am.vt, .ref am.sh])), (am.rw, .inl (cI, 32, .inl cm.wf)), (am.ry, .inl (cI, 256, .inl cm.yf)), (am.ti, .inl (cI, 8, .inl cm.tf)), (am.po, .inl (cI, 4000, .inl cm.pf)), (am.su, .inl (cZ, 1000, .inl cm.sf)), (am.sq, .inl (cJ, 256, .inr (.inl cm.qf))), (am.ch, .inl (cI, 8, .inl (nf cm.ck))), (am.vt, .inl (cI, 4, .inl cm.vf)), (am.sh, .inl (cI, 4, .inl (nf cm.sk)))] H := hP
    have hD : va_D A [(am.m0, .inr (7, [.int (1 : Int32), .int (nI cm.zs), .int (nI cm.rn), .ref am.rw, .int (nI cm.kn), .int (nI cm.rk), .int (nI cm.yn), .ref am.ry, .int (nI cm.sp), .int (nI cm.lg), .ref am.ti, .int (nI cm.fo), .int (nI cm.pt), .ref am.po, .ref am.su, .ref am.sq, .ref am.ch, .ref am.vt, .ref am.sh])), (am.rw, .inl (cI, 32, .inl cm.wf)), (am.ry, .inl (cI, 256, .inl cm.yf)), (am.ti, .inl (cI, 8, .inl cm.tf)), (am.po, .inl (cI, 4000, .inl cm.pf)), (am.su, .inl (cZ, 1000, .inl cm.sf)), (am.sq, .inl (cJ, 256, .inr (.inl cm.qf))), (am.ch, .inl (cI, 8, .inl (nf cm.ck))), (am.vt, .inl (cI, 4, .inl cm.vf)), (am.sh, .inl (cI, 4, .inl (nf cm.sk)))] := hD
    refine lv_aload_n hx hb d_M_row_33 rfl (lv_at hl 0 rfl) ?_
    refine va_get (D := D) (ci := 7) (v := .int (1 : Int32)) (C := cn_M) (T := ft_M) (N := 19) hx hb hf_M (fun _ h => h) hown hK hP 0 rfl rfl 0 (by decide) (gw.at G hx0 mw_713 rfl _) (fun _ h9 => h9) rfl d_M_row_34 ?_
    refine lv_if_le (tgt := 44) hx hb d_M_row_37 (by decide) (fun h99 => absurd h99 (by decide)) (fun _ => ?_)
    refine lv_iconst (v := (0 : Int32)) hx hb d_M_row_40 (by decide) ?_
    refine lv_goto (tgt := 54) hx hb d_M_row_41 (by decide) ?_
    exact tx_mono (fun _ h => tx_Z.of h) (W.iret (v := (0 : Int32)) hx hb hr (fun t ht hW => ⟨⟨[(am.m0, .inr (7, [.int (1 : Int32), .int (nI cm.zs), .int (nI cm.rn), .ref am.rw, .int (nI cm.kn), .int (nI cm.rk), .int (nI cm.yn), .ref am.ry, .int (nI cm.sp), .int (nI cm.lg), .ref am.ti, .int (nI cm.fo), .int (nI cm.pt), .ref am.po, .ref am.su, .ref am.sq, .ref am.ch, .ref am.vt, .ref am.sh])), (am.rw, .inl (cI, 32, .inl cm.wf)), (am.ry, .inl (cI, 256, .inl cm.yf)), (am.ti, .inl (cI, 8, .inl cm.tf)), (am.po, .inl (cI, 4000, .inl cm.pf)), (am.su, .inl (cZ, 1000, .inl cm.sf)), (am.sq, .inl (cJ, 256, .inr (.inl cm.qf))), (am.ch, .inl (cI, 8, .inl (nf cm.ck))), (am.vt, .inl (cI, 4, .inl cm.vf)), (am.sh, .inl (cI, 4, .inl (nf cm.sk)))], Or.inl (⟨(MCmk (1 : Int32) cm.zs cm.rn cm.kn cm.rk cm.yn cm.sp cm.lg cm.fo cm.pt cm.wf cm.yf cm.tf cm.pf cm.sf cm.qf cm.ck cm.vf cm.sk), rfl, hJ, MS.rf cm, rfl, fun z9 => z9.1.1 h_1, rfl⟩), by rw [ht]; exact hP.sub [0, 1, 2, 3, 4, 5, 6, 7, 8, 9] rfl, hD.sub [0, 1, 2, 3, 4, 5, 6, 7, 8, 9] (by decide) rfl⟩, hS.F ht⟩) hS.2.2 d_M_row_54)
  · refine lv_iload_n hx hb d_M_row_5 rfl (lv_at hl 1 rfl) ?_
    refine lv_aload_n hx hb d_M_row_6 rfl (lv_at hl 0 rfl) ?_
    refine va_get (D := D) (ci := 7) (v := .int (nI cm.rn)) (C := cn_M) (T := ft_M) (N := 19) hx hb hf_M (fun _ h => h) hown hK hP 0 rfl rfl 2 (by decide) (gw.at G hx0 mw_715 rfl _) (fun _ h9 => h9) rfl d_M_row_7 ?_
    refine lv_icmp_ge (tgt := 25) hx hb d_M_row_10 (by decide) (fun h_2 => ?_) (fun h_2 => ?_)
    · refine lv_iconst (v := (1 : Int32)) hx hb d_M_row_25 (by decide) ?_
      refine lv_goto (tgt := 30) hx hb d_M_row_26 (by decide) ?_
      refine va_put (D := D) (ci := 7) (v := .int (1 : Int32)) (ty := .int) (C := cn_M) (T := ft_M) (N := 19) hx hb hf_M (fun _ h => h) fy_M fk_M fn_M hown hK hP hD hS 0 rfl rfl 0 (by decide) (gw.at G hx0 mw_713 rfl _) (fun _ h9 => h9) rfl (by decide +kernel) rfl rfl (Nat.le_of_ble_eq_true rfl) d_M_row_30 (fun H locs hP hD hS => ?_)
      have hP : va_P D kl [(am.m0, .inr (7, [.int (1 : Int32), .int (nI cm.zs), .int (nI cm.rn), .ref am.rw, .int (nI cm.kn), .int (nI cm.rk), .int (nI cm.yn), .ref am.ry, .int (nI cm.sp), .int (nI cm.lg), .ref am.ti, .int (nI cm.fo), .int (nI cm.pt), .ref am.po, .ref am.su, .ref am.sq, .ref am.ch, .ref am.vt, .ref am.sh])), (am.rw, .inl (cI, 32, .inl cm.wf)), (am.ry, .inl (cI, 256, .inl cm.yf)), (am.ti, .inl (cI, 8, .inl cm.tf)), (am.po, .inl (cI, 4000, .inl cm.pf)), (am.su, .inl (cZ, 1000, .inl cm.sf)), (am.sq, .inl (cJ, 256, .inr (.inl cm.qf))), (am.ch, .inl (cI, 8, .inl (nf cm.ck))), (am.vt, .inl (cI, 4, .inl cm.vf)), (am.sh, .inl (cI, 4, .inl (nf cm.sk)))] H := hP
      have hD : va_D A [(am.m0, .inr (7, [.int (1 : Int32), .int (nI cm.zs), .int (nI cm.rn), .ref am.rw, .int (nI cm.kn), .int (nI cm.rk), .int (nI cm.yn), .ref am.ry, .int (nI cm.sp), .int (nI cm.lg), .ref am.ti, .int (nI cm.fo), .int (nI cm.pt), .ref am.po, .ref am.su, .ref am.sq, .ref am.ch, .ref am.vt, .ref am.sh])), (am.rw, .inl (cI, 32, .inl cm.wf)), (am.ry, .inl (cI, 256, .inl cm.yf)), (am.ti, .inl (cI, 8, .inl cm.tf)), (am.po, .inl (cI, 4000, .inl cm.pf)), (am.su, .inl (cZ, 1000, .inl cm.sf)), (am.sq, .inl (cJ, 256, .inr (.inl cm.qf))), (am.ch, .inl (cI, 8, .inl (nf cm.ck))), (am.vt, .inl (cI, 4, .inl cm.vf)), (am.sh, .inl (cI, 4, .inl (nf cm.sk)))] := hD
      refine lv_aload_n hx hb d_M_row_33 rfl (lv_at hl 0 rfl) ?_
      refine va_get (D := D) (ci := 7) (v := .int (1 : Int32)) (C := cn_M) (T := ft_M) (N := 19) hx hb hf_M (fun _ h => h) hown hK hP 0 rfl rfl 0 (by decide) (gw.at G hx0 mw_713 rfl _) (fun _ h9 => h9) rfl d_M_row_34 ?_
      refine lv_if_le (tgt := 44) hx hb d_M_row_37 (by decide) (fun h99 => absurd h99 (by decide)) (fun _ => ?_)
      refine lv_iconst (v := (0 : Int32)) hx hb d_M_row_40 (by decide) ?_
      refine lv_goto (tgt := 54) hx hb d_M_row_41 (by decide) ?_
      exact tx_mono (fun _ h => tx_Z.of h) (W.iret (v := (0 : Int32)) hx hb hr (fun t ht hW => ⟨⟨[(am.m0, .inr (7, [.int (1 : Int32), .int (nI cm.zs), .int (nI cm.rn), .ref am.rw, .int (nI cm.kn), .int (nI cm.rk), .int (nI cm.yn), .ref am.ry, .int (nI cm.sp), .int (nI cm.lg), .ref am.ti, .int (nI cm.fo), .int (nI cm.pt), .ref am.po, .ref am.su, .ref am.sq, .ref am.ch, .ref am.vt, .ref am.sh])), (am.rw, .inl (cI, 32, .inl cm.wf)), (am.ry, .inl (cI, 256, .inl cm.yf)), (am.ti, .inl (cI, 8, .inl cm.tf)), (am.po, .inl (cI, 4000, .inl cm.pf)), (am.su, .inl (cZ, 1000, .inl cm.sf)), (am.sq, .inl (cJ, 256, .inr (.inl cm.qf))), (am.ch, .inl (cI, 8, .inl (nf cm.ck))), (am.vt, .inl (cI, 4, .inl cm.vf)), (am.sh, .inl (cI, 4, .inl (nf cm.sk)))], Or.inl (⟨(MCmk (1 : Int32) cm.zs cm.rn cm.kn cm.rk cm.yn cm.sp cm.lg cm.fo cm.pt cm.wf cm.yf cm.tf cm.pf cm.sf cm.qf cm.ck cm.vf cm.sk), rfl, hJ, MS.rf cm, rfl, fun z9 => absurd z9.1.2 (Int32.not_lt.mpr h_2), rfl⟩), by rw [ht]; exact hP.sub [0, 1, 2, 3, 4, 5, 6, 7, 8, 9] rfl, hD.sub [0, 1, 2, 3, 4, 5, 6, 7, 8, 9] (by decide) rfl⟩, hS.F ht⟩) hS.2.2 d_M_row_54)
    · refine lv_iload_n hx hb d_M_row_13 rfl (lv_at hl 2 rfl) ?_
      refine lv_if_lt (tgt := 25) hx hb d_M_row_14 (by decide) (fun h_3 => ?_) (fun h_3 => ?_)
      · refine lv_iconst (v := (1 : Int32)) hx hb d_M_row_25 (by decide) ?_
        refine lv_goto (tgt := 30) hx hb d_M_row_26 (by decide) ?_
        refine va_put (D := D) (ci := 7) (v := .int (1 : Int32)) (ty := .int) (C := cn_M) (T := ft_M) (N := 19) hx hb hf_M (fun _ h => h) fy_M fk_M fn_M hown hK hP hD hS 0 rfl rfl 0 (by decide) (gw.at G hx0 mw_713 rfl _) (fun _ h9 => h9) rfl (by decide +kernel) rfl rfl (Nat.le_of_ble_eq_true rfl) d_M_row_30 (fun H locs hP hD hS => ?_)
        have hP : va_P D kl [(am.m0, .inr (7, [.int (1 : Int32), .int (nI cm.zs), .int (nI cm.rn), .ref am.rw, .int (nI cm.kn), .int (nI cm.rk), .int (nI cm.yn), .ref am.ry, .int (nI cm.sp), .int (nI cm.lg), .ref am.ti, .int (nI cm.fo), .int (nI cm.pt), .ref am.po, .ref am.su, .ref am.sq, .ref am.ch, .ref am.vt, .ref am.sh])), (am.rw, .inl (cI, 32, .inl cm.wf)), (am.ry, .inl (cI, 256, .inl cm.yf)), (am.ti, .inl (cI, 8, .inl cm.tf)), (am.po, .inl (cI, 4000, .inl cm.pf)), (am.su, .inl (cZ, 1000, .inl cm.sf)), (am.sq, .inl (cJ, 256, .inr (.inl cm.qf))), (am.ch, .inl (cI, 8, .inl (nf cm.ck))), (am.vt, .inl (cI, 4, .inl cm.vf)), (am.sh, .inl (cI, 4, .inl (nf cm.sk)))] H := hP
        have hD : va_D A [(am.m0, .inr (7, [.int (1 : Int32), .int (nI cm.zs), .int (nI cm.rn), .ref am.rw, .int (nI cm.kn), .int (nI cm.rk), .int (nI cm.yn), .ref am.ry, .int (nI cm.sp), .int (nI cm.lg), .ref am.ti, .int (nI cm.fo), .int (nI cm.pt), .ref am.po, .ref am.su, .ref am.sq, .ref am.ch, .ref am.vt, .ref am.sh])), (am.rw, .inl (cI, 32, .inl cm.wf)), (am.ry, .inl (cI, 256, .inl cm.yf)), (am.ti, .inl (cI, 8, .inl cm.tf)), (am.po, .inl (cI, 4000, .inl cm.pf)), (am.su, .inl (cZ, 1000, .inl cm.sf)), (am.sq, .inl (cJ, 256, .inr (.inl cm.qf))), (am.ch, .inl (cI, 8, .inl (nf cm.ck))), (am.vt, .inl (cI, 4, .inl cm.vf)), (am.sh, .inl (cI, 4, .inl (nf cm.sk)))] := hD
        refine lv_aload_n hx hb d_M_row_33 rfl (lv_at hl 0 rfl) ?_
        refine va_get (D := D) (ci := 7) (v := .int (1 : Int32)) (C := cn_M) (T := ft_M) (N := 19) hx hb hf_M (fun _ h => h) hown hK hP 0 rfl rfl 0 (by decide) (gw.at G hx0 mw_713 rfl _) (fun _ h9 => h9) rfl d_M_row_34 ?_
        refine lv_if_le (tgt := 44) hx hb d_M_row_37 (by decide) (fun h99 => absurd h99 (by decide)) (fun _ => ?_)
        refine lv_iconst (v := (0 : Int32)) hx hb d_M_row_40 (by decide) ?_
        refine lv_goto (tgt := 54) hx hb d_M_row_41 (by decide) ?_
        exact tx_mono (fun _ h => tx_Z.of h) (W.iret (v := (0 : Int32)) hx hb hr (fun t ht hW => ⟨⟨[(am.m0, .inr (7, [.int (1 : Int32), .int (nI cm.zs), .int (nI cm.rn), .ref am.rw, .int (nI cm.kn), .int (nI cm.rk), .int (nI cm.yn), .ref am.ry, .int (nI cm.sp), .int (nI cm.lg), .ref am.ti, .int (nI cm.fo), .int (nI cm.pt), .ref am.po, .ref am.su, .ref am.sq, .ref am.ch, .ref am.vt, .ref am.sh])), (am.rw, .inl (cI, 32, .inl cm.wf)), (am.ry, .inl (cI, 256, .inl cm.yf)), (am.ti, .inl (cI, 8, .inl cm.tf)), (am.po, .inl (cI, 4000, .inl cm.pf)), (am.su, .inl (cZ, 1000, .inl cm.sf)), (am.sq, .inl (cJ, 256, .inr (.inl cm.qf))), (am.ch, .inl (cI, 8, .inl (nf cm.ck))), (am.vt, .inl (cI, 4, .inl cm.vf)), (am.sh, .inl (cI, 4, .inl (nf cm.sk)))], Or.inl (⟨(MCmk (1 : Int32) cm.zs cm.rn cm.kn cm.rk cm.yn cm.sp cm.lg cm.fo cm.pt cm.wf cm.yf cm.tf cm.pf cm.sf cm.qf cm.ck cm.vf cm.sk), rfl, hJ, MS.rf cm, rfl, fun z9 => z9.2.1 h_3, rfl⟩), by rw [ht]; exact hP.sub [0, 1, 2, 3, 4, 5, 6, 7, 8, 9] rfl, hD.sub [0, 1, 2, 3, 4, 5, 6, 7, 8, 9] (by decide) rfl⟩, hS.F ht⟩) hS.2.2 d_M_row_54)
      · refine lv_iload_n hx hb d_M_row_17 rfl (lv_at hl 2 rfl) ?_
        refine lv_aload_n hx hb d_M_row_18 rfl (lv_at hl 0 rfl) ?_
        refine va_get (D := D) (ci := 7) (v := .int (nI cm.zs)) (C := cn_M) (T := ft_M) (N := 19) hx hb hf_M (fun _ h => h) hown hK hP 0 rfl rfl 1 (by decide) (gw.at G hx0 mw_714 rfl _) (fun _ h9 => h9) rfl d_M_row_19 ?_
        refine lv_icmp_lt (tgt := 29) hx hb d_M_row_22 (by decide) (fun h_4 => ?_) (fun h_4 => ?_)
        · refine lv_iconst (v := (0 : Int32)) hx hb d_M_row_29 (by decide) ?_
          refine va_put (D := D) (ci := 7) (v := .int (0 : Int32)) (ty := .int) (C := cn_M) (T := ft_M) (N := 19) hx hb hf_M (fun _ h => h) fy_M fk_M fn_M hown hK hP hD hS 0 rfl rfl 0 (by decide) (gw.at G hx0 mw_713 rfl _) (fun _ h9 => h9) rfl (by decide +kernel) rfl rfl (Nat.le_of_ble_eq_true rfl) d_M_row_30 (fun H locs hP hD hS => ?_)
          have hP : va_P D kl [(am.m0, .inr (7, [.int (0 : Int32), .int (nI cm.zs), .int (nI cm.rn), .ref am.rw, .int (nI cm.kn), .int (nI cm.rk), .int (nI cm.yn), .ref am.ry, .int (nI cm.sp), .int (nI cm.lg), .ref am.ti, .int (nI cm.fo), .int (nI cm.pt), .ref am.po, .ref am.su, .ref am.sq, .ref am.ch, .ref am.vt, .ref am.sh])), (am.rw, .inl (cI, 32, .inl cm.wf)), (am.ry, .inl (cI, 256, .inl cm.yf)), (am.ti, .inl (cI, 8, .inl cm.tf)), (am.po, .inl (cI, 4000, .inl cm.pf)), (am.su, .inl (cZ, 1000, .inl cm.sf)), (am.sq, .inl (cJ, 256, .inr (.inl cm.qf))), (am.ch, .inl (cI, 8, .inl (nf cm.ck))), (am.vt, .inl (cI, 4, .inl cm.vf)), (am.sh, .inl (cI, 4, .inl (nf cm.sk)))] H := hP
          have hD : va_D A [(am.m0, .inr (7, [.int (0 : Int32), .int (nI cm.zs), .int (nI cm.rn), .ref am.rw, .int (nI cm.kn), .int (nI cm.rk), .int (nI cm.yn), .ref am.ry, .int (nI cm.sp), .int (nI cm.lg), .ref am.ti, .int (nI cm.fo), .int (nI cm.pt), .ref am.po, .ref am.su, .ref am.sq, .ref am.ch, .ref am.vt, .ref am.sh])), (am.rw, .inl (cI, 32, .inl cm.wf)), (am.ry, .inl (cI, 256, .inl cm.yf)), (am.ti, .inl (cI, 8, .inl cm.tf)), (am.po, .inl (cI, 4000, .inl cm.pf)), (am.su, .inl (cZ, 1000, .inl cm.sf)), (am.sq, .inl (cJ, 256, .inr (.inl cm.qf))), (am.ch, .inl (cI, 8, .inl (nf cm.ck))), (am.vt, .inl (cI, 4, .inl cm.vf)), (am.sh, .inl (cI, 4, .inl (nf cm.sk)))] := hD
          refine lv_aload_n hx hb d_M_row_33 rfl (lv_at hl 0 rfl) ?_
          refine va_get (D := D) (ci := 7) (v := .int (0 : Int32)) (C := cn_M) (T := ft_M) (N := 19) hx hb hf_M (fun _ h => h) hown hK hP 0 rfl rfl 0 (by decide) (gw.at G hx0 mw_713 rfl _) (fun _ h9 => h9) rfl d_M_row_34 ?_
          refine lv_if_le (tgt := 44) hx hb d_M_row_37 (by decide) (fun _ => ?_) (fun h99 => absurd h99 (by decide))
          obtain ⟨k_5, hk_6, hw_7⟩ := nI_ex (n := cm.rn) h_1 (Int32.not_le.mp h_2) (by omega)
          rw [hw_7] at hl
          obtain ⟨k_8, hk_9, hw_10⟩ := nI_ex (n := cm.zs) h_3 h_4 (by omega)
          rw [hw_10] at hl
          refine lv_aload_n hx hb d_M_row_44 rfl (lv_at hl 0 rfl) ?_
          refine va_get (D := D) (ci := 7) (v := .ref am.rw) (C := cn_M) (T := ft_M) (N := 19) hx hb hf_M (fun _ h => h) hown hK hP 0 rfl rfl 3 (by decide) (gw.at G hx0 mw_716 rfl _) (fun _ h9 => h9) rfl d_M_row_45 ?_
          refine lv_iconst (v := (4 : Int32)) hx hb d_M_row_48 (by decide) ?_
          refine lv_iload_n hx hb d_M_row_49 rfl (lv_at hl 1 rfl) ?_
          refine lv_imul hx hb d_M_row_50 ?_
          refine tp_i (y := nI (4 * k_5)) (nI_mul 4 k_5) ?_
          refine lv_iload_n hx hb d_M_row_51 rfl (lv_at hl 2 rfl) ?_
          refine lv_iadd hx hb d_M_row_52 ?_
          refine tp_i (y := nI ((4 * k_5) + k_8)) (nI_add (4 * k_5) k_8) ?_
          refine va_iald hx hb hK hP 1 0 rfl rfl (vp_in_nI (n := (4 * k_5) + k_8) (by omega) (by omega)) d_M_row_53 ?_
          refine tp_i (y := cm.wf ((4 * k_5) + k_8)) (congrArg cm.wf (nI_clamp (n := (4 * k_5) + k_8) (by omega))) ?_
          exact tx_mono (fun _ h => tx_Z.of h) (W.iret (v := cm.wf ((4 * k_5) + k_8)) hx hb hr (fun t ht hW => ⟨⟨[(am.m0, .inr (7, [.int (0 : Int32), .int (nI cm.zs), .int (nI cm.rn), .ref am.rw, .int (nI cm.kn), .int (nI cm.rk), .int (nI cm.yn), .ref am.ry, .int (nI cm.sp), .int (nI cm.lg), .ref am.ti, .int (nI cm.fo), .int (nI cm.pt), .ref am.po, .ref am.su, .ref am.sq, .ref am.ch, .ref am.vt, .ref am.sh])), (am.rw, .inl (cI, 32, .inl cm.wf)), (am.ry, .inl (cI, 256, .inl cm.yf)), (am.ti, .inl (cI, 8, .inl cm.tf)), (am.po, .inl (cI, 4000, .inl cm.pf)), (am.su, .inl (cZ, 1000, .inl cm.sf)), (am.sq, .inl (cJ, 256, .inr (.inl cm.qf))), (am.ch, .inl (cI, 8, .inl (nf cm.ck))), (am.vt, .inl (cI, 4, .inl cm.vf)), (am.sh, .inl (cI, 4, .inl (nf cm.sk)))], Or.inr (⟨(MCmk (0 : Int32) cm.zs cm.rn cm.kn cm.rk cm.yn cm.sp cm.lg cm.fo cm.pt cm.wf cm.yf cm.tf cm.pf cm.sf cm.qf cm.ck cm.vf cm.sk), k_5, k_8, rfl, hJ, MS.rf cm, rfl, hk_6, hk_9, hw_7, hw_10, rfl⟩), by rw [ht]; exact hP.sub [0, 1, 2, 3, 4, 5, 6, 7, 8, 9] rfl, hD.sub [0, 1, 2, 3, 4, 5, 6, 7, 8, 9] (by decide) rfl⟩, hS.F ht⟩) hS.2.2 d_M_row_54)
        · refine lv_iconst (v := (1 : Int32)) hx hb d_M_row_25 (by decide) ?_
          refine lv_goto (tgt := 30) hx hb d_M_row_26 (by decide) ?_
          refine va_put (D := D) (ci := 7) (v := .int (1 : Int32)) (ty := .int) (C := cn_M) (T := ft_M) (N := 19) hx hb hf_M (fun _ h => h) fy_M fk_M fn_M hown hK hP hD hS 0 rfl rfl 0 (by decide) (gw.at G hx0 mw_713 rfl _) (fun _ h9 => h9) rfl (by decide +kernel) rfl rfl (Nat.le_of_ble_eq_true rfl) d_M_row_30 (fun H locs hP hD hS => ?_)
          have hP : va_P D kl [(am.m0, .inr (7, [.int (1 : Int32), .int (nI cm.zs), .int (nI cm.rn), .ref am.rw, .int (nI cm.kn), .int (nI cm.rk), .int (nI cm.yn), .ref am.ry, .int (nI cm.sp), .int (nI cm.lg), .ref am.ti, .int (nI cm.fo), .int (nI cm.pt), .ref am.po, .ref am.su, .ref am.sq, .ref am.ch, .ref am.vt, .ref am.sh])), (am.rw, .inl (cI, 32, .inl cm.wf)), (am.ry, .inl (cI, 256, .inl cm.yf)), (am.ti, .inl (cI, 8, .inl cm.tf)), (am.po, .inl (cI, 4000, .inl cm.pf)), (am.su, .inl (cZ, 1000, .inl cm.sf)), (am.sq, .inl (cJ, 256, .inr (.inl cm.qf))), (am.ch, .inl (cI, 8, .inl (nf cm.ck))), (am.vt, .inl (cI, 4, .inl cm.vf)), (am.sh, .inl (cI, 4, .inl (nf cm.sk)))] H := hP
          have hD : va_D A [(am.m0, .inr (7, [.int (1 : Int32), .int (nI cm.zs), .int (nI cm.rn), .ref am.rw, .int (nI cm.kn), .int (nI cm.rk), .int (nI cm.yn), .ref am.ry, .int (nI cm.sp), .int (nI cm.lg), .ref am.ti, .int (nI cm.fo), .int (nI cm.pt), .ref am.po, .ref am.su, .ref am.sq, .ref am.ch, .ref am.vt, .ref am.sh])), (am.rw, .inl (cI, 32, .inl cm.wf)), (am.ry, .inl (cI, 256, .inl cm.yf)), (am.ti, .inl (cI, 8, .inl cm.tf)), (am.po, .inl (cI, 4000, .inl cm.pf)), (am.su, .inl (cZ, 1000, .inl cm.sf)), (am.sq, .inl (cJ, 256, .inr (.inl cm.qf))), (am.ch, .inl (cI, 8, .inl (nf cm.ck))), (am.vt, .inl (cI, 4, .inl cm.vf)), (am.sh, .inl (cI, 4, .inl (nf cm.sk)))] := hD
          refine lv_aload_n hx hb d_M_row_33 rfl (lv_at hl 0 rfl) ?_
          refine va_get (D := D) (ci := 7) (v := .int (1 : Int32)) (C := cn_M) (T := ft_M) (N := 19) hx hb hf_M (fun _ h => h) hown hK hP 0 rfl rfl 0 (by decide) (gw.at G hx0 mw_713 rfl _) (fun _ h9 => h9) rfl d_M_row_34 ?_
          refine lv_if_le (tgt := 44) hx hb d_M_row_37 (by decide) (fun h99 => absurd h99 (by decide)) (fun _ => ?_)
          refine lv_iconst (v := (0 : Int32)) hx hb d_M_row_40 (by decide) ?_
          refine lv_goto (tgt := 54) hx hb d_M_row_41 (by decide) ?_
          exact tx_mono (fun _ h => tx_Z.of h) (W.iret (v := (0 : Int32)) hx hb hr (fun t ht hW => ⟨⟨[(am.m0, .inr (7, [.int (1 : Int32), .int (nI cm.zs), .int (nI cm.rn), .ref am.rw, .int (nI cm.kn), .int (nI cm.rk), .int (nI cm.yn), .ref am.ry, .int (nI cm.sp), .int (nI cm.lg), .ref am.ti, .int (nI cm.fo), .int (nI cm.pt), .ref am.po, .ref am.su, .ref am.sq, .ref am.ch, .ref am.vt, .ref am.sh])), (am.rw, .inl (cI, 32, .inl cm.wf)), (am.ry, .inl (cI, 256, .inl cm.yf)), (am.ti, .inl (cI, 8, .inl cm.tf)), (am.po, .inl (cI, 4000, .inl cm.pf)), (am.su, .inl (cZ, 1000, .inl cm.sf)), (am.sq, .inl (cJ, 256, .inr (.inl cm.qf))), (am.ch, .inl (cI, 8, .inl (nf cm.ck))), (am.vt, .inl (cI, 4, .inl cm.vf)), (am.sh, .inl (cI, 4, .inl (nf cm.sk)))], Or.inl (⟨(MCmk (1 : Int32) cm.zs cm.rn cm.kn cm.rk cm.yn cm.sp cm.lg cm.fo cm.pt cm.wf cm.yf cm.tf cm.pf cm.sf cm.qf cm.ck cm.vf cm.sk), rfl, hJ, MS.rf cm, rfl, fun z9 => h_4 z9.2.2, rfl⟩), by rw [ht]; exact hP.sub [0, 1, 2, 3, 4, 5, 6, 7, 8, 9] rfl, hD.sub [0, 1, 2, 3, 4, 5, 6, 7, 8, 9] (by decide) rfl⟩, hS.F ht⟩) hS.2.2 d_M_row_54)

set_option maxHeartbeats 4000000 in
set_option maxRecDepth 100000 in
theorem c_M_holds {l : Launch} {s0 : State} {b0 : Addr} {D : va_G} {cI cJ cZ : ClassId} {tC tS : Nat} (E : gE l s0 b0 D cI cJ cZ tC tS) (sz : Nat) (am : MA) (cm : MC) (p0 : Int32) (p1 : Int32) (p2 : Int32) (p3 : Int32) (hT9 : MTH) (hJ : MJ cm) : cx_M l s0 D kl y_M_holds b_M_holds 5 (some .boolean) ({ frames := 2, cells := 0, slots := 0, locals := 50 } : Room) 0 0 [.ref am.m0, .int p0, .int p1, .int p2, .int p3] [(am.m0, .inr (7, [.int cm.th, .int (nI cm.zs), .int (nI cm.rn), .ref am.rw, .int (nI cm.kn), .int (nI cm.rk), .int (nI cm.yn), .ref am.ry, .int (nI cm.sp), .int (nI cm.lg), .ref am.ti, .int (nI cm.fo), .int (nI cm.pt), .ref am.po, .ref am.su, .ref am.sq, .ref am.ch, .ref am.vt, .ref am.sh])), (am.rw, .inl (cI, 32, .inl cm.wf)), (am.ry, .inl (cI, 256, .inl cm.yf)), (am.ti, .inl (cI, 8, .inl cm.tf)), (am.po, .inl (cI, 4000, .inl cm.pf)), (am.su, .inl (cZ, 1000, .inl cm.sf)), (am.sq, .inl (cJ, 256, .inr (.inl cm.qf))), (am.ch, .inl (cI, 8, .inl (nf cm.ck))), (am.vt, .inl (cI, 4, .inl cm.vf)), (am.sh, .inl (cI, 4, .inl (nf cm.sk)))] sz (fun o9 t9 w9 => (∃ (c9 : MC), o9 = .returned (some (.int (1 : Int32))) ∧ MJ c9 ∧ MS cm c9 ∧ c9.th = 0 ∧ (∀ k, k < cm.rn → ¬ prm cm.wf k (vst (nI cm.zs) cm.vf p0 p1 p2 p3) 0 < 0) ∧ w9 = [(am.m0, .inr (7, [.int c9.th, .int (nI c9.zs), .int (nI c9.rn), .ref am.rw, .int (nI c9.kn), .int (nI c9.rk), .int (nI c9.yn), .ref am.ry, .int (nI c9.sp), .int (nI c9.lg), .ref am.ti, .int (nI c9.fo), .int (nI c9.pt), .ref am.po, .ref am.su, .ref am.sq, .ref am.ch, .ref am.vt, .ref am.sh])), (am.rw, .inl (cI, 32, .inl c9.wf)), (am.ry, .inl (cI, 256, .inl c9.yf)), (am.ti, .inl (cI, 8, .inl c9.tf)), (am.po, .inl (cI, 4000, .inl c9.pf)), (am.su, .inl (cZ, 1000, .inl c9.sf)), (am.sq, .inl (cJ, 256, .inr (.inl c9.qf))), (am.ch, .inl (cI, 8, .inl (nf c9.ck))), (am.vt, .inl (cI, 4, .inl c9.vf)), (am.sh, .inl (cI, 4, .inl (nf c9.sk)))]) ∨ (∃ (c9 : MC), o9 = .returned (some (.int (0 : Int32))) ∧ MJ c9 ∧ MS cm c9 ∧ c9.th = 0 ∧ ¬ (∀ k, k < cm.rn → ¬ prm cm.wf k (vst (nI cm.zs) cm.vf p0 p1 p2 p3) 0 < 0) ∧ w9 = [(am.m0, .inr (7, [.int c9.th, .int (nI c9.zs), .int (nI c9.rn), .ref am.rw, .int (nI c9.kn), .int (nI c9.rk), .int (nI c9.yn), .ref am.ry, .int (nI c9.sp), .int (nI c9.lg), .ref am.ti, .int (nI c9.fo), .int (nI c9.pt), .ref am.po, .ref am.su, .ref am.sq, .ref am.ch, .ref am.vt, .ref am.sh])), (am.rw, .inl (cI, 32, .inl c9.wf)), (am.ry, .inl (cI, 256, .inl c9.yf)), (am.ti, .inl (cI, 8, .inl c9.tf)), (am.po, .inl (cI, 4000, .inl c9.pf)), (am.su, .inl (cZ, 1000, .inl c9.sf)), (am.sq, .inl (cJ, 256, .inr (.inl c9.qf))), (am.ch, .inl (cI, 8, .inl (nf c9.ck))), (am.vt, .inl (cI, 4, .inl c9.vf)), (am.sh, .inl (cI, 4, .inl (nf c9.sk)))])) := by
  refine tx_ofW (cc := b_M_holds) (maxL := 5) (ret := (some .boolean)) (by decide) rfl ?_
  intro p e s m args below meth c s₁ B hml hT hv
  obtain ⟨rfl, hsz, hP, hD0, hx0⟩ := hv
  have hx := B.exec
  have hb := B.bytes
  have hr := B.returns
  have G := E.2.1
  have hown : s.vm.findClass cn_M = some m.cls := findClass_of_methodNamed B.named
  have hlocks := B.notSynchronized
  have hK := va_K.moved hx0.1.alike E.2.2.1
  have hf_M : ∀ w99 ∈ u_ws cn_M ft_M 19, w99.before ([.ref am.m0, .int p0, .int p1, .int p2, .int p3] : List Value).toArray s = true := fun w99 h99 => gw.at G hx0 (fw_M w99 h99) (fo_M w99 h99) _
  subst hsz
  have hA0 := cx_new hD0 hx0.2.1
  have hD := hD0.self (sz := s.heap.size)
  generalize hAe : va_A [(am.m0, .inr (7, [.int cm.th, .int (nI cm.zs), .int (nI cm.rn), .ref am.rw, .int (nI cm.kn), .int (nI cm.rk), .int (nI cm.yn), .ref am.ry, .int (nI cm.sp), .int (nI cm.lg), .ref am.ti, .int (nI cm.fo), .int (nI cm.pt), .ref am.po, .ref am.su, .ref am.sq, .ref am.ch, .ref am.vt, .ref am.sh])), (am.rw, .inl (cI, 32, .inl cm.wf)), (am.ry, .inl (cI, 256, .inl cm.yf)), (am.ti, .inl (cI, 8, .inl cm.tf)), (am.po, .inl (cI, 4000, .inl cm.pf)), (am.su, .inl (cZ, 1000, .inl cm.sf)), (am.sq, .inl (cJ, 256, .inr (.inl cm.qf))), (am.ch, .inl (cI, 8, .inl (nf cm.ck))), (am.vt, .inl (cI, 4, .inl cm.vf)), (am.sh, .inl (cI, 4, .inl (nf cm.sk)))] s.heap.size = A at hD hA0 ⊢
  have hA : ∀ q : Nat, s.heap.size ≤ q → A q := fun q h => by rw [← hAe]; exact Or.inr h
  have hS : va_S A s.heap s.heap [] := va_S.rf
  have hl := lv_entry ([.ref am.m0, .int p0, .int p1, .int p2, .int p3]) (n := 5) (Nat.le_of_ble_eq_true rfl)
  rw [lg_entry_eq]
  generalize (lg_sl ([.ref am.m0, .int p0, .int p1, .int p2, .int p3]) ++ List.replicate (5 - (lg_sl ([.ref am.m0, .int p0, .int p1, .int p2, .int p3])).length) Slot.unset).toArray = ls at hl ⊢
  have hl : lv_has ls 5 [(0, .ref am.m0), (1, .int p0), (2, .int p1), (3, .int p2), (4, .int p3)] := hl
  have hP : va_P D kl [(am.m0, .inr (7, [.int cm.th, .int (nI cm.zs), .int (nI cm.rn), .ref am.rw, .int (nI cm.kn), .int (nI cm.rk), .int (nI cm.yn), .ref am.ry, .int (nI cm.sp), .int (nI cm.lg), .ref am.ti, .int (nI cm.fo), .int (nI cm.pt), .ref am.po, .ref am.su, .ref am.sq, .ref am.ch, .ref am.vt, .ref am.sh])), (am.rw, .inl (cI, 32, .inl cm.wf)), (am.ry, .inl (cI, 256, .inl cm.yf)), (am.ti, .inl (cI, 8, .inl cm.tf)), (am.po, .inl (cI, 4000, .inl cm.pf)), (am.su, .inl (cZ, 1000, .inl cm.sf)), (am.sq, .inl (cJ, 256, .inr (.inl cm.qf))), (am.ch, .inl (cI, 8, .inl (nf cm.ck))), (am.vt, .inl (cI, 4, .inl cm.vf)), (am.sh, .inl (cI, 4, .inl (nf cm.sk)))] s.heap := hP
  have hml : c.maxLocals = 5 := hml
  have hz2 := hJ.z2
  have hz4 := hJ.z4
  have hr8 := hJ.r8
  have hkn := hJ.kn
  have hrk := hJ.rk
  have hyn := hJ.yn
  have hsp := hJ.sp
  have hlg := hJ.lg
  have hfo := hJ.fo
  have hpt := hJ.pt
  have hck := hJ.ck
  have hsk := hJ.sk
  have hro := hJ.ro
  refine lv_aload_n hx hb d_M_holds_0 rfl (lv_at hl 0 rfl) ?_
  refine lv_iconst (v := (0 : Int32)) hx hb d_M_holds_1 (by decide) ?_
  refine va_put (D := D) (ci := 7) (v := .int (0 : Int32)) (ty := .int) (C := cn_M) (T := ft_M) (N := 19) hx hb hf_M (fun _ h => h) fy_M fk_M fn_M hown hK hP hD hS 0 rfl rfl 0 (by decide) (gw.at G hx0 mw_713 rfl _) (fun _ h9 => h9) rfl (by decide +kernel) rfl rfl (Nat.le_of_ble_eq_true rfl) d_M_holds_2 (fun H locs hP hD hS => ?_)
  have hP : va_P D kl [(am.m0, .inr (7, [.int (0 : Int32), .int (nI cm.zs), .int (nI cm.rn), .ref am.rw, .int (nI cm.kn), .int (nI cm.rk), .int (nI cm.yn), .ref am.ry, .int (nI cm.sp), .int (nI cm.lg), .ref am.ti, .int (nI cm.fo), .int (nI cm.pt), .ref am.po, .ref am.su, .ref am.sq, .ref am.ch, .ref am.vt, .ref am.sh])), (am.rw, .inl (cI, 32, .inl cm.wf)), (am.ry, .inl (cI, 256, .inl cm.yf)), (am.ti, .inl (cI, 8, .inl cm.tf)), (am.po, .inl (cI, 4000, .inl cm.pf)), (am.su, .inl (cZ, 1000, .inl cm.sf)), (am.sq, .inl (cJ, 256, .inr (.inl cm.qf))), (am.ch, .inl (cI, 8, .inl (nf cm.ck))), (am.vt, .inl (cI, 4, .inl cm.vf)), (am.sh, .inl (cI, 4, .inl (nf cm.sk)))] H := hP
  have hD : va_D A [(am.m0, .inr (7, [.int (0 : Int32), .int (nI cm.zs), .int (nI cm.rn), .ref am.rw, .int (nI cm.kn), .int (nI cm.rk), .int (nI cm.yn), .ref am.ry, .int (nI cm.sp), .int (nI cm.lg), .ref am.ti, .int (nI cm.fo), .int (nI cm.pt), .ref am.po, .ref am.su, .ref am.sq, .ref am.ch, .ref am.vt, .ref am.sh])), (am.rw, .inl (cI, 32, .inl cm.wf)), (am.ry, .inl (cI, 256, .inl cm.yf)), (am.ti, .inl (cI, 8, .inl cm.tf)), (am.po, .inl (cI, 4000, .inl cm.pf)), (am.su, .inl (cZ, 1000, .inl cm.sf)), (am.sq, .inl (cJ, 256, .inr (.inl cm.qf))), (am.ch, .inl (cI, 8, .inl (nf cm.ck))), (am.vt, .inl (cI, 4, .inl cm.vf)), (am.sh, .inl (cI, 4, .inl (nf cm.sk)))] := hD
  refine lv_aload_n hx hb d_M_holds_5 rfl (lv_at hl 0 rfl) ?_
  refine lv_iload_n hx hb d_M_holds_6 rfl (lv_at hl 1 rfl) ?_
  refine lv_iload_n hx hb d_M_holds_7 rfl (lv_at hl 2 rfl) ?_
  refine lv_iload_n hx hb d_M_holds_8 rfl (lv_at hl 3 rfl) ?_
  refine lv_iload hx hb d_M_holds_9 (lv_at hl 4 rfl) ?_
  refine cx_call (D := D) (cl := kl) (ws := _) (wc := [(am.m0, .inr (7, [.int (0 : Int32), .int (nI cm.zs), .int (nI cm.rn), .ref am.rw, .int (nI cm.kn), .int (nI cm.rk), .int (nI cm.yn), .ref am.ry, .int (nI cm.sp), .int (nI cm.lg), .ref am.ti, .int (nI cm.fo), .int (nI cm.pt), .ref am.po, .ref am.su, .ref am.sq, .ref am.ch, .ref am.vt, .ref am.sh])), (am.vt, .inl (cI, 4, .inl cm.vf))]) (wr := [(am.rw, .inl (cI, 32, .inl cm.wf)), (am.ry, .inl (cI, 256, .inl cm.yf)), (am.ti, .inl (cI, 8, .inl cm.tf)), (am.po, .inl (cI, 4000, .inl cm.pf)), (am.su, .inl (cZ, 1000, .inl cm.sf)), (am.sq, .inl (cJ, 256, .inr (.inl cm.qf))), (am.ch, .inl (cI, 8, .inl (nf cm.ck))), (am.sh, .inl (cI, 4, .inl (nf cm.sk)))]) (tx_runV (C := cn_M) (b := am.m0) (As := [.int p0, .int p1, .int p2, .int p3]) (rest := []) hx hb hml hown (c_M_set E H.size am.m0 am.rw am.ry am.ti am.po am.su am.sq am.ch am.vt am.sh (0 : Int32) (nI cm.zs) (nI cm.rn) (nI cm.kn) (nI cm.rk) (nI cm.yn) (nI cm.sp) (nI cm.lg) (nI cm.fo) (nI cm.pt) p0 p1 p2 p3 cm.vf ) (cx_C (b0 := b0) G hx0 mw_783 mw_9 ny_M_set (by decide)) (gw.at G hx0 mw_780 rfl _) (gw.at G hx0 mw_782 rfl _) (gw.at G hx0 ms_M_set rfl _) ⟨cx_blind, va_recv hK hP (q0 := 0) (ci := 7) (q := (cn_M, ft_M, 19)) rfl rfl, (cx_pre (s := s) hx0 hP hD hS hA0 [0, 8] rfl rfl (by decide))⟩ rfl rfl hl.1 rfl (lv_room (Nat.le_of_ble_eq_true rfl)) d_M_holds_11 ⟨by decide, by decide⟩) hP hD hS hA [0, 8] [1, 2, 3, 4, 5, 6, 7, 9] rfl rfl (by decide) (by decide) (fun v t w1 H locs ht hW9 hp hP hD hS => ?_) (fun x t w1 H locs ht hW9 hp hP hD hS => by obtain ⟨h9, -⟩ := hp; cases h9)
  obtain ⟨h9, rfl⟩ := hp
  cases h9
  refine W.eq (g2 := F0 m 14 ls []) rfl ?_
  refine W.widen (k := 0) (n := 0) (by decide) (by decide) ?_
  have hP : va_P D kl [(am.rw, .inl (cI, 32, .inl cm.wf)), (am.ry, .inl (cI, 256, .inl cm.yf)), (am.ti, .inl (cI, 8, .inl cm.tf)), (am.po, .inl (cI, 4000, .inl cm.pf)), (am.su, .inl (cZ, 1000, .inl cm.sf)), (am.sq, .inl (cJ, 256, .inr (.inl cm.qf))), (am.ch, .inl (cI, 8, .inl (nf cm.ck))), (am.sh, .inl (cI, 4, .inl (nf cm.sk))), (am.m0, .inr (7, [.int (0 : Int32), .int (nI cm.zs), .int (nI cm.rn), .ref am.rw, .int (nI cm.kn), .int (nI cm.rk), .int (nI cm.yn), .ref am.ry, .int (nI cm.sp), .int (nI cm.lg), .ref am.ti, .int (nI cm.fo), .int (nI cm.pt), .ref am.po, .ref am.su, .ref am.sq, .ref am.ch, .ref am.vt, .ref am.sh])), (am.vt, .inl (cI, 4, .inl (upd (upd (upd (upd cm.vf 0 p0) 1 p1) 2 (tk_c (nI cm.zs) p2)) 3 (tk_d (nI cm.zs) p3))))] H := hP
  have hD : va_D A [(am.rw, .inl (cI, 32, .inl cm.wf)), (am.ry, .inl (cI, 256, .inl cm.yf)), (am.ti, .inl (cI, 8, .inl cm.tf)), (am.po, .inl (cI, 4000, .inl cm.pf)), (am.su, .inl (cZ, 1000, .inl cm.sf)), (am.sq, .inl (cJ, 256, .inr (.inl cm.qf))), (am.ch, .inl (cI, 8, .inl (nf cm.ck))), (am.sh, .inl (cI, 4, .inl (nf cm.sk))), (am.m0, .inr (7, [.int (0 : Int32), .int (nI cm.zs), .int (nI cm.rn), .ref am.rw, .int (nI cm.kn), .int (nI cm.rk), .int (nI cm.yn), .ref am.ry, .int (nI cm.sp), .int (nI cm.lg), .ref am.ti, .int (nI cm.fo), .int (nI cm.pt), .ref am.po, .ref am.su, .ref am.sq, .ref am.ch, .ref am.vt, .ref am.sh])), (am.vt, .inl (cI, 4, .inl (upd (upd (upd (upd cm.vf 0 p0) 1 p1) 2 (tk_c (nI cm.zs) p2)) 3 (tk_d (nI cm.zs) p3))))] := hD
  rw [show upd (upd (upd (upd cm.vf 0 p0) 1 p1) 2 (tk_c (nI cm.zs) p2)) 3 (tk_d (nI cm.zs) p3) = vst (nI cm.zs) cm.vf p0 p1 p2 p3 from rfl] at hP hD
  have hP : va_P D kl [(am.rw, .inl (cI, 32, .inl cm.wf)), (am.ry, .inl (cI, 256, .inl cm.yf)), (am.ti, .inl (cI, 8, .inl cm.tf)), (am.po, .inl (cI, 4000, .inl cm.pf)), (am.su, .inl (cZ, 1000, .inl cm.sf)), (am.sq, .inl (cJ, 256, .inr (.inl cm.qf))), (am.ch, .inl (cI, 8, .inl (nf cm.ck))), (am.sh, .inl (cI, 4, .inl (nf cm.sk))), (am.m0, .inr (7, [.int (0 : Int32), .int (nI cm.zs), .int (nI cm.rn), .ref am.rw, .int (nI cm.kn), .int (nI cm.rk), .int (nI cm.yn), .ref am.ry, .int (nI cm.sp), .int (nI cm.lg), .ref am.ti, .int (nI cm.fo), .int (nI cm.pt), .ref am.po, .ref am.su, .ref am.sq, .ref am.ch, .ref am.vt, .ref am.sh])), (am.vt, .inl (cI, 4, .inl (vst (nI cm.zs) cm.vf p0 p1 p2 p3)))] H := hP
  have hD : va_D A [(am.rw, .inl (cI, 32, .inl cm.wf)), (am.ry, .inl (cI, 256, .inl cm.yf)), (am.ti, .inl (cI, 8, .inl cm.tf)), (am.po, .inl (cI, 4000, .inl cm.pf)), (am.su, .inl (cZ, 1000, .inl cm.sf)), (am.sq, .inl (cJ, 256, .inr (.inl cm.qf))), (am.ch, .inl (cI, 8, .inl (nf cm.ck))), (am.sh, .inl (cI, 4, .inl (nf cm.sk))), (am.m0, .inr (7, [.int (0 : Int32), .int (nI cm.zs), .int (nI cm.rn), .ref am.rw, .int (nI cm.kn), .int (nI cm.rk), .int (nI cm.yn), .ref am.ry, .int (nI cm.sp), .int (nI cm.lg), .ref am.ti, .int (nI cm.fo), .int (nI cm.pt), .ref am.po, .ref am.su, .ref am.sq, .ref am.ch, .ref am.vt, .ref am.sh])), (am.vt, .inl (cI, 4, .inl (vst (nI cm.zs) cm.vf p0 p1 p2 p3)))] := hD
  refine lv_aload_n hx hb d_M_holds_14 rfl (lv_at hl 0 rfl) ?_
  refine lv_aload_n hx hb d_M_holds_15 rfl (lv_at hl 0 rfl) ?_
  refine va_get (D := D) (ci := 7) (v := .ref am.vt) (C := cn_M) (T := ft_M) (N := 19) hx hb hf_M (fun _ h => h) hown hK hP 8 rfl rfl 17 (by decide) (gw.at G hx0 mw_730 rfl _) (fun _ h9 => h9) rfl d_M_holds_16 ?_
  refine lv_iconst (v := (0 : Int32)) hx hb d_M_holds_19 (by decide) ?_
  by_cases h_1 : (∀ k, k < cm.rn → ¬ prm cm.wf k (vst (nI cm.zs) cm.vf p0 p1 p2 p3) 0 < 0)
  · refine cx_call (D := D) (cl := kl) (ws := _) (wc := [(am.m0, .inr (7, [.int (0 : Int32), .int (nI cm.zs), .int (nI cm.rn), .ref am.rw, .int (nI cm.kn), .int (nI cm.rk), .int (nI cm.yn), .ref am.ry, .int (nI cm.sp), .int (nI cm.lg), .ref am.ti, .int (nI cm.fo), .int (nI cm.pt), .ref am.po, .ref am.su, .ref am.sq, .ref am.ch, .ref am.vt, .ref am.sh])), (am.rw, .inl (cI, 32, .inl cm.wf)), (am.vt, .inl (cI, 4, .inl (vst (nI cm.zs) cm.vf p0 p1 p2 p3)))]) (wr := [(am.ry, .inl (cI, 256, .inl cm.yf)), (am.ti, .inl (cI, 8, .inl cm.tf)), (am.po, .inl (cI, 4000, .inl cm.pf)), (am.su, .inl (cZ, 1000, .inl cm.sf)), (am.sq, .inl (cJ, 256, .inr (.inl cm.qf))), (am.ch, .inl (cI, 8, .inl (nf cm.ck))), (am.sh, .inl (cI, 4, .inl (nf cm.sk)))]) (tx_runV (C := cn_M) (b := am.m0) (As := [.ref am.vt, .int (0 : Int32)]) (rest := []) hx hb hml hown (c_M_holdsAt_y E H.size am.m0 am.rw am.ry am.ti am.po am.su am.sq am.ch am.vt am.sh (0 : Int32) (nI cm.zs) (nI cm.kn) (nI cm.rk) (nI cm.yn) (nI cm.sp) (nI cm.lg) (nI cm.fo) (nI cm.pt) cm.rn cm.wf am.vt 4 (vst (nI cm.zs) cm.vf p0 p1 p2 p3) 0 hr8 (by decide) (by decide) h_1) (cx_C (b0 := b0) G hx0 mw_836 mw_9 ny_M_holdsAt (by decide)) (gw.at G hx0 mw_833 rfl _) (gw.at G hx0 mw_835 rfl _) (gw.at G hx0 ms_M_holdsAt rfl _) ⟨cx_blind, va_recv hK hP (q0 := 8) (ci := 7) (q := (cn_M, ft_M, 19)) rfl rfl, (cx_pre (s := s) hx0 hP hD hS hA0 [8, 0, 9] rfl rfl (by decide))⟩ rfl rfl hl.1 rfl (lv_room (Nat.le_of_ble_eq_true rfl)) d_M_holds_20 ⟨by decide, by decide⟩) hP hD hS hA [8, 0, 9] [1, 2, 3, 4, 5, 6, 7] rfl rfl (by decide) (by decide) (fun v t w1 H locs ht hW9 hp hP hD hS => ?_) (fun x t w1 H locs ht hW9 hp hP hD hS => by obtain ⟨h9, -⟩ := hp; cases h9)
    obtain ⟨h9, rfl⟩ := hp
    cases h9
    refine W.eq (g2 := F0 m 23 ls [.int (1 : Int32)]) rfl ?_
    refine W.widen (k := 0) (n := 0) (by decide) (by decide) ?_
    have hP : va_P D kl [(am.ry, .inl (cI, 256, .inl cm.yf)), (am.ti, .inl (cI, 8, .inl cm.tf)), (am.po, .inl (cI, 4000, .inl cm.pf)), (am.su, .inl (cZ, 1000, .inl cm.sf)), (am.sq, .inl (cJ, 256, .inr (.inl cm.qf))), (am.ch, .inl (cI, 8, .inl (nf cm.ck))), (am.sh, .inl (cI, 4, .inl (nf cm.sk))), (am.m0, .inr (7, [.int (0 : Int32), .int (nI cm.zs), .int (nI cm.rn), .ref am.rw, .int (nI cm.kn), .int (nI cm.rk), .int (nI cm.yn), .ref am.ry, .int (nI cm.sp), .int (nI cm.lg), .ref am.ti, .int (nI cm.fo), .int (nI cm.pt), .ref am.po, .ref am.su, .ref am.sq, .ref am.ch, .ref am.vt, .ref am.sh])), (am.rw, .inl (cI, 32, .inl cm.wf)), (am.vt, .inl (cI, 4, .inl (vst (nI cm.zs) cm.vf p0 p1 p2 p3)))] H := hP
    have hD : va_D A [(am.ry, .inl (cI, 256, .inl cm.yf)), (am.ti, .inl (cI, 8, .inl cm.tf)), (am.po, .inl (cI, 4000, .inl cm.pf)), (am.su, .inl (cZ, 1000, .inl cm.sf)), (am.sq, .inl (cJ, 256, .inr (.inl cm.qf))), (am.ch, .inl (cI, 8, .inl (nf cm.ck))), (am.sh, .inl (cI, 4, .inl (nf cm.sk))), (am.m0, .inr (7, [.int (0 : Int32), .int (nI cm.zs), .int (nI cm.rn), .ref am.rw, .int (nI cm.kn), .int (nI cm.rk), .int (nI cm.yn), .ref am.ry, .int (nI cm.sp), .int (nI cm.lg), .ref am.ti, .int (nI cm.fo), .int (nI cm.pt), .ref am.po, .ref am.su, .ref am.sq, .ref am.ch, .ref am.vt, .ref am.sh])), (am.rw, .inl (cI, 32, .inl cm.wf)), (am.vt, .inl (cI, 4, .inl (vst (nI cm.zs) cm.vf p0 p1 p2 p3)))] := hD
    exact tx_mono (fun _ h => tx_Z.of h) (W.zret (v := (1 : Int32)) hx hb hr (by decide) (fun t ht hW => ⟨⟨[(am.m0, .inr (7, [.int (0 : Int32), .int (nI cm.zs), .int (nI cm.rn), .ref am.rw, .int (nI cm.kn), .int (nI cm.rk), .int (nI cm.yn), .ref am.ry, .int (nI cm.sp), .int (nI cm.lg), .ref am.ti, .int (nI cm.fo), .int (nI cm.pt), .ref am.po, .ref am.su, .ref am.sq, .ref am.ch, .ref am.vt, .ref am.sh])), (am.rw, .inl (cI, 32, .inl cm.wf)), (am.ry, .inl (cI, 256, .inl cm.yf)), (am.ti, .inl (cI, 8, .inl cm.tf)), (am.po, .inl (cI, 4000, .inl cm.pf)), (am.su, .inl (cZ, 1000, .inl cm.sf)), (am.sq, .inl (cJ, 256, .inr (.inl cm.qf))), (am.ch, .inl (cI, 8, .inl (nf cm.ck))), (am.vt, .inl (cI, 4, .inl (vst (nI cm.zs) cm.vf p0 p1 p2 p3))), (am.sh, .inl (cI, 4, .inl (nf cm.sk)))], Or.inl (⟨(MCmk (0 : Int32) cm.zs cm.rn cm.kn cm.rk cm.yn cm.sp cm.lg cm.fo cm.pt cm.wf cm.yf cm.tf cm.pf cm.sf cm.qf cm.ck (vst (nI cm.zs) cm.vf p0 p1 p2 p3) cm.sk), rfl, hJ, MS.rf cm, rfl, h_1, rfl⟩), by rw [ht]; exact hP.sub [7, 8, 0, 1, 2, 3, 4, 5, 9, 6] rfl, hD.sub [7, 8, 0, 1, 2, 3, 4, 5, 9, 6] (by decide) rfl⟩, hS.F ht⟩) hS.2.2 d_M_holds_23)
  · refine cx_call (D := D) (cl := kl) (ws := _) (wc := [(am.m0, .inr (7, [.int (0 : Int32), .int (nI cm.zs), .int (nI cm.rn), .ref am.rw, .int (nI cm.kn), .int (nI cm.rk), .int (nI cm.yn), .ref am.ry, .int (nI cm.sp), .int (nI cm.lg), .ref am.ti, .int (nI cm.fo), .int (nI cm.pt), .ref am.po, .ref am.su, .ref am.sq, .ref am.ch, .ref am.vt, .ref am.sh])), (am.rw, .inl (cI, 32, .inl cm.wf)), (am.vt, .inl (cI, 4, .inl (vst (nI cm.zs) cm.vf p0 p1 p2 p3)))]) (wr := [(am.ry, .inl (cI, 256, .inl cm.yf)), (am.ti, .inl (cI, 8, .inl cm.tf)), (am.po, .inl (cI, 4000, .inl cm.pf)), (am.su, .inl (cZ, 1000, .inl cm.sf)), (am.sq, .inl (cJ, 256, .inr (.inl cm.qf))), (am.ch, .inl (cI, 8, .inl (nf cm.ck))), (am.sh, .inl (cI, 4, .inl (nf cm.sk)))]) (tx_runV (C := cn_M) (b := am.m0) (As := [.ref am.vt, .int (0 : Int32)]) (rest := []) hx hb hml hown (c_M_holdsAt_n E H.size am.m0 am.rw am.ry am.ti am.po am.su am.sq am.ch am.vt am.sh (0 : Int32) (nI cm.zs) (nI cm.kn) (nI cm.rk) (nI cm.yn) (nI cm.sp) (nI cm.lg) (nI cm.fo) (nI cm.pt) cm.rn cm.wf am.vt 4 (vst (nI cm.zs) cm.vf p0 p1 p2 p3) 0 hr8 (by decide) (by decide) h_1) (cx_C (b0 := b0) G hx0 mw_836 mw_9 ny_M_holdsAt (by decide)) (gw.at G hx0 mw_833 rfl _) (gw.at G hx0 mw_835 rfl _) (gw.at G hx0 ms_M_holdsAt rfl _) ⟨cx_blind, va_recv hK hP (q0 := 8) (ci := 7) (q := (cn_M, ft_M, 19)) rfl rfl, (cx_pre (s := s) hx0 hP hD hS hA0 [8, 0, 9] rfl rfl (by decide))⟩ rfl rfl hl.1 rfl (lv_room (Nat.le_of_ble_eq_true rfl)) d_M_holds_20 ⟨by decide, by decide⟩) hP hD hS hA [8, 0, 9] [1, 2, 3, 4, 5, 6, 7] rfl rfl (by decide) (by decide) (fun v t w1 H locs ht hW9 hp hP hD hS => ?_) (fun x t w1 H locs ht hW9 hp hP hD hS => by obtain ⟨h9, -⟩ := hp; cases h9)
    obtain ⟨h9, rfl⟩ := hp
    cases h9
    refine W.eq (g2 := F0 m 23 ls [.int (0 : Int32)]) rfl ?_
    refine W.widen (k := 0) (n := 0) (by decide) (by decide) ?_
    have hP : va_P D kl [(am.ry, .inl (cI, 256, .inl cm.yf)), (am.ti, .inl (cI, 8, .inl cm.tf)), (am.po, .inl (cI, 4000, .inl cm.pf)), (am.su, .inl (cZ, 1000, .inl cm.sf)), (am.sq, .inl (cJ, 256, .inr (.inl cm.qf))), (am.ch, .inl (cI, 8, .inl (nf cm.ck))), (am.sh, .inl (cI, 4, .inl (nf cm.sk))), (am.m0, .inr (7, [.int (0 : Int32), .int (nI cm.zs), .int (nI cm.rn), .ref am.rw, .int (nI cm.kn), .int (nI cm.rk), .int (nI cm.yn), .ref am.ry, .int (nI cm.sp), .int (nI cm.lg), .ref am.ti, .int (nI cm.fo), .int (nI cm.pt), .ref am.po, .ref am.su, .ref am.sq, .ref am.ch, .ref am.vt, .ref am.sh])), (am.rw, .inl (cI, 32, .inl cm.wf)), (am.vt, .inl (cI, 4, .inl (vst (nI cm.zs) cm.vf p0 p1 p2 p3)))] H := hP
    have hD : va_D A [(am.ry, .inl (cI, 256, .inl cm.yf)), (am.ti, .inl (cI, 8, .inl cm.tf)), (am.po, .inl (cI, 4000, .inl cm.pf)), (am.su, .inl (cZ, 1000, .inl cm.sf)), (am.sq, .inl (cJ, 256, .inr (.inl cm.qf))), (am.ch, .inl (cI, 8, .inl (nf cm.ck))), (am.sh, .inl (cI, 4, .inl (nf cm.sk))), (am.m0, .inr (7, [.int (0 : Int32), .int (nI cm.zs), .int (nI cm.rn), .ref am.rw, .int (nI cm.kn), .int (nI cm.rk), .int (nI cm.yn), .ref am.ry, .int (nI cm.sp), .int (nI cm.lg), .ref am.ti, .int (nI cm.fo), .int (nI cm.pt), .ref am.po, .ref am.su, .ref am.sq, .ref am.ch, .ref am.vt, .ref am.sh])), (am.rw, .inl (cI, 32, .inl cm.wf)), (am.vt, .inl (cI, 4, .inl (vst (nI cm.zs) cm.vf p0 p1 p2 p3)))] := hD
    exact tx_mono (fun _ h => tx_Z.of h) (W.zret (v := (0 : Int32)) hx hb hr (by decide) (fun t ht hW => ⟨⟨[(am.m0, .inr (7, [.int (0 : Int32), .int (nI cm.zs), .int (nI cm.rn), .ref am.rw, .int (nI cm.kn), .int (nI cm.rk), .int (nI cm.yn), .ref am.ry, .int (nI cm.sp), .int (nI cm.lg), .ref am.ti, .int (nI cm.fo), .int (nI cm.pt), .ref am.po, .ref am.su, .ref am.sq, .ref am.ch, .ref am.vt, .ref am.sh])), (am.rw, .inl (cI, 32, .inl cm.wf)), (am.ry, .inl (cI, 256, .inl cm.yf)), (am.ti, .inl (cI, 8, .inl cm.tf)), (am.po, .inl (cI, 4000, .inl cm.pf)), (am.su, .inl (cZ, 1000, .inl cm.sf)), (am.sq, .inl (cJ, 256, .inr (.inl cm.qf))), (am.ch, .inl (cI, 8, .inl (nf cm.ck))), (am.vt, .inl (cI, 4, .inl (vst (nI cm.zs) cm.vf p0 p1 p2 p3))), (am.sh, .inl (cI, 4, .inl (nf cm.sk)))], Or.inr (⟨(MCmk (0 : Int32) cm.zs cm.rn cm.kn cm.rk cm.yn cm.sp cm.lg cm.fo cm.pt cm.wf cm.yf cm.tf cm.pf cm.sf cm.qf cm.ck (vst (nI cm.zs) cm.vf p0 p1 p2 p3) cm.sk), rfl, hJ, MS.rf cm, rfl, h_1, rfl⟩), by rw [ht]; exact hP.sub [7, 8, 0, 1, 2, 3, 4, 5, 9, 6] rfl, hD.sub [7, 8, 0, 1, 2, 3, 4, 5, 9, 6] (by decide) rfl⟩, hS.F ht⟩) hS.2.2 d_M_holds_23)

set_option maxHeartbeats 4000000 in
set_option maxRecDepth 100000 in
theorem c_M_basis {l : Launch} {s0 : State} {b0 : Addr} {D : va_G} {cI cJ cZ : ClassId} {tC tS : Nat} (E : gE l s0 b0 D cI cJ cZ tC tS) (sz : Nat) (am : MA) (cm : MC) (hT9 : MTH) (hJ : MJ cm) : cx_M l s0 D kl y_M_basis b_M_basis 1 (some .int) ({ frames := 6, cells := 0, slots := 0, locals := 153 } : Room) 0 0 [.ref am.m0] [(am.m0, .inr (7, [.int cm.th, .int (nI cm.zs), .int (nI cm.rn), .ref am.rw, .int (nI cm.kn), .int (nI cm.rk), .int (nI cm.yn), .ref am.ry, .int (nI cm.sp), .int (nI cm.lg), .ref am.ti, .int (nI cm.fo), .int (nI cm.pt), .ref am.po, .ref am.su, .ref am.sq, .ref am.ch, .ref am.vt, .ref am.sh])), (am.rw, .inl (cI, 32, .inl cm.wf)), (am.ry, .inl (cI, 256, .inl cm.yf)), (am.ti, .inl (cI, 8, .inl cm.tf)), (am.po, .inl (cI, 4000, .inl cm.pf)), (am.su, .inl (cZ, 1000, .inl cm.sf)), (am.sq, .inl (cJ, 256, .inr (.inl cm.qf))), (am.ch, .inl (cI, 8, .inl (nf cm.ck))), (am.vt, .inl (cI, 4, .inl cm.vf)), (am.sh, .inl (cI, 4, .inl (nf cm.sk)))] sz (fun o9 t9 w9 => (∃ (c9 : MC), o9 = .returned (some (.int (0 : Int32))) ∧ MJ c9 ∧ MS cm c9 ∧ c9.kn = 1 ∧ c9.rk < c9.zs ∧ c9.th = 1 ∧ w9 = [(am.m0, .inr (7, [.int c9.th, .int (nI c9.zs), .int (nI c9.rn), .ref am.rw, .int (nI c9.kn), .int (nI c9.rk), .int (nI c9.yn), .ref am.ry, .int (nI c9.sp), .int (nI c9.lg), .ref am.ti, .int (nI c9.fo), .int (nI c9.pt), .ref am.po, .ref am.su, .ref am.sq, .ref am.ch, .ref am.vt, .ref am.sh])), (am.rw, .inl (cI, 32, .inl c9.wf)), (am.ry, .inl (cI, 256, .inl c9.yf)), (am.ti, .inl (cI, 8, .inl c9.tf)), (am.po, .inl (cI, 4000, .inl c9.pf)), (am.su, .inl (cZ, 1000, .inl c9.sf)), (am.sq, .inl (cJ, 256, .inr (.inl c9.qf))), (am.ch, .inl (cI, 8, .inl (nf c9.ck))), (am.vt, .inl (cI, 4, .inl c9.vf)), (am.sh, .inl (cI, 4, .inl (nf c9.sk)))]) ∨ (∃ (c9 : MC), o9 = .returned (some (.int (-1 : Int32))) ∧ MJ c9 ∧ MS cm c9 ∧ c9.kn = 1 ∧ c9.zs ≤ c9.rk ∧ c9.lg = 1 ∧ c9.th = 0 ∧ w9 = [(am.m0, .inr (7, [.int c9.th, .int (nI c9.zs), .int (nI c9.rn), .ref am.rw, .int (nI c9.kn), .int (nI c9.rk), .int (nI c9.yn), .ref am.ry, .int (nI c9.sp), .int (nI c9.lg), .ref am.ti, .int (nI c9.fo), .int (nI c9.pt), .ref am.po, .ref am.su, .ref am.sq, .ref am.ch, .ref am.vt, .ref am.sh])), (am.rw, .inl (cI, 32, .inl c9.wf)), (am.ry, .inl (cI, 256, .inl c9.yf)), (am.ti, .inl (cI, 8, .inl c9.tf)), (am.po, .inl (cI, 4000, .inl c9.pf)), (am.su, .inl (cZ, 1000, .inl c9.sf)), (am.sq, .inl (cJ, 256, .inr (.inl c9.qf))), (am.ch, .inl (cI, 8, .inl (nf c9.ck))), (am.vt, .inl (cI, 4, .inl c9.vf)), (am.sh, .inl (cI, 4, .inl (nf c9.sk)))]) ∨ (∃ (c9 : MC), o9 = .returned (some (.int (nI c9.pt))) ∧ MJ c9 ∧ MS cm c9 ∧ c9.kn = 1 ∧ c9.zs ≤ c9.rk ∧ c9.lg = 0 ∧ c9.fo = 1 ∧ c9.th = 0 ∧ w9 = [(am.m0, .inr (7, [.int c9.th, .int (nI c9.zs), .int (nI c9.rn), .ref am.rw, .int (nI c9.kn), .int (nI c9.rk), .int (nI c9.yn), .ref am.ry, .int (nI c9.sp), .int (nI c9.lg), .ref am.ti, .int (nI c9.fo), .int (nI c9.pt), .ref am.po, .ref am.su, .ref am.sq, .ref am.ch, .ref am.vt, .ref am.sh])), (am.rw, .inl (cI, 32, .inl c9.wf)), (am.ry, .inl (cI, 256, .inl c9.yf)), (am.ti, .inl (cI, 8, .inl c9.tf)), (am.po, .inl (cI, 4000, .inl c9.pf)), (am.su, .inl (cZ, 1000, .inl c9.sf)), (am.sq, .inl (cJ, 256, .inr (.inl c9.qf))), (am.ch, .inl (cI, 8, .inl (nf c9.ck))), (am.vt, .inl (cI, 4, .inl c9.vf)), (am.sh, .inl (cI, 4, .inl (nf c9.sk)))])) := by
  refine tx_ofW (cc := b_M_basis) (maxL := 1) (ret := (some .int)) (by decide) rfl ?_
  intro p e s m args below meth c s₁ B hml hT hv
  obtain ⟨rfl, hsz, hP, hD0, hx0⟩ := hv
  have hx := B.exec
  have hb := B.bytes
  have hr := B.returns
  have G := E.2.1
  have hown : s.vm.findClass cn_M = some m.cls := findClass_of_methodNamed B.named
  have hlocks := B.notSynchronized
  have hK := va_K.moved hx0.1.alike E.2.2.1
  have hf_M : ∀ w99 ∈ u_ws cn_M ft_M 19, w99.before ([.ref am.m0] : List Value).toArray s = true := fun w99 h99 => gw.at G hx0 (fw_M w99 h99) (fo_M w99 h99) _
  subst hsz
  have hA0 := cx_new hD0 hx0.2.1
  have hD := hD0.self (sz := s.heap.size)
  generalize hAe : va_A [(am.m0, .inr (7, [.int cm.th, .int (nI cm.zs), .int (nI cm.rn), .ref am.rw, .int (nI cm.kn), .int (nI cm.rk), .int (nI cm.yn), .ref am.ry, .int (nI cm.sp), .int (nI cm.lg), .ref am.ti, .int (nI cm.fo), .int (nI cm.pt), .ref am.po, .ref am.su, .ref am.sq, .ref am.ch, .ref am.vt, .ref am.sh])), (am.rw, .inl (cI, 32, .inl cm.wf)), (am.ry, .inl (cI, 256, .inl cm.yf)), (am.ti, .inl (cI, 8, .inl cm.tf)), (am.po, .inl (cI, 4000, .inl cm.pf)), (am.su, .inl (cZ, 1000, .inl cm.sf)), (am.sq, .inl (cJ, 256, .inr (.inl cm.qf))), (am.ch, .inl (cI, 8, .inl (nf cm.ck))), (am.vt, .inl (cI, 4, .inl cm.vf)), (am.sh, .inl (cI, 4, .inl (nf cm.sk)))] s.heap.size = A at hD hA0 ⊢
  have hA : ∀ q : Nat, s.heap.size ≤ q → A q := fun q h => by rw [← hAe]; exact Or.inr h
  have hS : va_S A s.heap s.heap [] := va_S.rf
  have hl := lv_entry ([.ref am.m0]) (n := 1) (Nat.le_of_ble_eq_true rfl)
  rw [lg_entry_eq]
  generalize (lg_sl ([.ref am.m0]) ++ List.replicate (1 - (lg_sl ([.ref am.m0])).length) Slot.unset).toArray = ls at hl ⊢
  have hl : lv_has ls 1 [(0, .ref am.m0)] := hl
  have hP : va_P D kl [(am.m0, .inr (7, [.int cm.th, .int (nI cm.zs), .int (nI cm.rn), .ref am.rw, .int (nI cm.kn), .int (nI cm.rk), .int (nI cm.yn), .ref am.ry, .int (nI cm.sp), .int (nI cm.lg), .ref am.ti, .int (nI cm.fo), .int (nI cm.pt), .ref am.po, .ref am.su, .ref am.sq, .ref am.ch, .ref am.vt, .ref am.sh])), (am.rw, .inl (cI, 32, .inl cm.wf)), (am.ry, .inl (cI, 256, .inl cm.yf)), (am.ti, .inl (cI, 8, .inl cm.tf)), (am.po, .inl (cI, 4000, .inl cm.pf)), (am.su, .inl (cZ, 1000, .inl cm.sf)), (am.sq, .inl (cJ, 256, .inr (.inl cm.qf))), (am.ch, .inl (cI, 8, .inl (nf cm.ck))), (am.vt, .inl (cI, 4, .inl cm.vf)), (am.sh, .inl (cI, 4, .inl (nf cm.sk)))] s.heap := hP
  have hml : c.maxLocals = 1 := hml
  have hz2 := hJ.z2
  have hz4 := hJ.z4
  have hr8 := hJ.r8
  have hkn := hJ.kn
  have hrk := hJ.rk
  have hyn := hJ.yn
  have hsp := hJ.sp
  have hlg := hJ.lg
  have hfo := hJ.fo
  have hpt := hJ.pt
  have hck := hJ.ck
  have hsk := hJ.sk
  have hro := hJ.ro
  refine lv_aload_n hx hb d_M_basis_0 rfl (lv_at hl 0 rfl) ?_
  refine lv_iconst (v := (1 : Int32)) hx hb d_M_basis_1 (by decide) ?_
  refine cx_call (D := D) (cl := kl) (ws := _) (wc := [(am.m0, .inr (7, [.int cm.th, .int (nI cm.zs), .int (nI cm.rn), .ref am.rw, .int (nI cm.kn), .int (nI cm.rk), .int (nI cm.yn), .ref am.ry, .int (nI cm.sp), .int (nI cm.lg), .ref am.ti, .int (nI cm.fo), .int (nI cm.pt), .ref am.po, .ref am.su, .ref am.sq, .ref am.ch, .ref am.vt, .ref am.sh])), (am.rw, .inl (cI, 32, .inl cm.wf)), (am.ry, .inl (cI, 256, .inl cm.yf)), (am.ti, .inl (cI, 8, .inl cm.tf)), (am.po, .inl (cI, 4000, .inl cm.pf)), (am.su, .inl (cZ, 1000, .inl cm.sf)), (am.sq, .inl (cJ, 256, .inr (.inl cm.qf))), (am.ch, .inl (cI, 8, .inl (nf cm.ck))), (am.vt, .inl (cI, 4, .inl cm.vf)), (am.sh, .inl (cI, 4, .inl (nf cm.sk)))]) (wr := []) (tx_runV (C := cn_M) (b := am.m0) (As := [.int (1 : Int32)]) (rest := []) hx hb hml hown (c_M_pointed1 E s.heap.size am cm hT9 hJ) (cx_C (b0 := b0) G hx0 mw_881 mw_9 ny_M_pointed (by decide)) (gw.at G hx0 mw_878 rfl _) (gw.at G hx0 mw_880 rfl _) (gw.at G hx0 ms_M_pointed rfl _) ⟨cx_blind, va_recv hK hP (q0 := 0) (ci := 7) (q := (cn_M, ft_M, 19)) rfl rfl, (cx_pre (s := s) hx0 hP hD hS hA0 [0, 1, 2, 3, 4, 5, 6, 7, 8, 9] rfl rfl (by decide))⟩ rfl rfl hl.1 rfl (lv_room (Nat.le_of_ble_eq_true rfl)) d_M_basis_2 ⟨by decide, by decide⟩) hP hD hS hA [0, 1, 2, 3, 4, 5, 6, 7, 8, 9] [] rfl rfl (by decide) (by decide) (fun v t w1 H locs ht hW9 hp hP hD hS => ?_) (fun x t w1 H locs ht hW9 hp hP hD hS => ?_)
  · rcases hp with hp | hp
    · obtain ⟨c9_1, h9, f_2, f_3, f_4, f_5, f_6, rfl⟩ := hp
      cases h9
      refine W.eq (g2 := F0 m 5 ls [.int (1 : Int32)]) rfl ?_
      refine W.widen (k := 0) (n := 0) (by decide) (by decide) ?_
      have hP : va_P D kl [(am.m0, .inr (7, [.int c9_1.th, .int (nI c9_1.zs), .int (nI c9_1.rn), .ref am.rw, .int (nI c9_1.kn), .int (nI c9_1.rk), .int (nI c9_1.yn), .ref am.ry, .int (nI c9_1.sp), .int (nI c9_1.lg), .ref am.ti, .int (nI c9_1.fo), .int (nI c9_1.pt), .ref am.po, .ref am.su, .ref am.sq, .ref am.ch, .ref am.vt, .ref am.sh])), (am.rw, .inl (cI, 32, .inl c9_1.wf)), (am.ry, .inl (cI, 256, .inl c9_1.yf)), (am.ti, .inl (cI, 8, .inl c9_1.tf)), (am.po, .inl (cI, 4000, .inl c9_1.pf)), (am.su, .inl (cZ, 1000, .inl c9_1.sf)), (am.sq, .inl (cJ, 256, .inr (.inl c9_1.qf))), (am.ch, .inl (cI, 8, .inl (nf c9_1.ck))), (am.vt, .inl (cI, 4, .inl c9_1.vf)), (am.sh, .inl (cI, 4, .inl (nf c9_1.sk)))] H := hP
      have hD : va_D A [(am.m0, .inr (7, [.int c9_1.th, .int (nI c9_1.zs), .int (nI c9_1.rn), .ref am.rw, .int (nI c9_1.kn), .int (nI c9_1.rk), .int (nI c9_1.yn), .ref am.ry, .int (nI c9_1.sp), .int (nI c9_1.lg), .ref am.ti, .int (nI c9_1.fo), .int (nI c9_1.pt), .ref am.po, .ref am.su, .ref am.sq, .ref am.ch, .ref am.vt, .ref am.sh])), (am.rw, .inl (cI, 32, .inl c9_1.wf)), (am.ry, .inl (cI, 256, .inl c9_1.yf)), (am.ti, .inl (cI, 8, .inl c9_1.tf)), (am.po, .inl (cI, 4000, .inl c9_1.pf)), (am.su, .inl (cZ, 1000, .inl c9_1.sf)), (am.sq, .inl (cJ, 256, .inr (.inl c9_1.qf))), (am.ch, .inl (cI, 8, .inl (nf c9_1.ck))), (am.vt, .inl (cI, 4, .inl c9_1.vf)), (am.sh, .inl (cI, 4, .inl (nf c9_1.sk)))] := hD
      have hJ1 := f_2
      have hS1 := f_3
      have hk1 : c9_1.kn = 1 := f_4
      have hz2 := hJ1.z2
      have hz4 := hJ1.z4
      have hr8 := hJ1.r8
      have hkn := hJ1.kn
      have hrk := hJ1.rk
      have hyn := hJ1.yn
      have hsp := hJ1.sp
      have hlg := hJ1.lg
      have hfo := hJ1.fo
      have hpt := hJ1.pt
      have hck := hJ1.ck
      have hsk := hJ1.sk
      have hro := hJ1.ro
      refine lv_if_ne (tgt := 10) hx hb d_M_basis_5 (by decide) (fun _ => ?_) (fun h99 => absurd h99 (by decide))
      refine lv_aload_n hx hb d_M_basis_10 rfl (lv_at hl 0 rfl) ?_
      refine va_get (D := D) (ci := 7) (v := .int (nI c9_1.lg)) (C := cn_M) (T := ft_M) (N := 19) hx hb hf_M (fun _ h => h) hown hK hP 0 rfl rfl 9 (by decide) (gw.at G hx0 mw_722 rfl _) (fun _ h9 => h9) rfl d_M_basis_11 ?_
      refine lv_if_eq (tgt := 19) hx hb d_M_basis_14 (by decide) (fun h_7 => ?_) (fun h_7 => ?_)
      · have h_7 : c9_1.lg = 0 := (nI_eq (a := c9_1.lg) (b := 0) (by omega) (by omega)).mp h_7
        have hlg0 : c9_1.lg = 0 := by have z9 := h_7; omega
        have hyn8 : c9_1.yn ≤ 8 := by obtain ⟨-, -, z9⟩ := hJ1.k1 hk1; obtain ⟨-, -, -, z8⟩ := z9 f_5; rcases z8 with z7 | z7; exact absurd z7.1 (by rw [hlg0]; decide); exact z7.2.1
        refine lv_aload_n hx hb d_M_basis_19 rfl (lv_at hl 0 rfl) ?_
        by_cases h_8 : c9_1.fo = 0
        · refine cx_call (D := D) (cl := kl) (ws := _) (wc := [(am.m0, .inr (7, [.int c9_1.th, .int (nI c9_1.zs), .int (nI c9_1.rn), .ref am.rw, .int (nI c9_1.kn), .int (nI c9_1.rk), .int (nI c9_1.yn), .ref am.ry, .int (nI c9_1.sp), .int (nI c9_1.lg), .ref am.ti, .int (nI c9_1.fo), .int (nI c9_1.pt), .ref am.po, .ref am.su, .ref am.sq, .ref am.ch, .ref am.vt, .ref am.sh])), (am.rw, .inl (cI, 32, .inl c9_1.wf)), (am.ry, .inl (cI, 256, .inl c9_1.yf)), (am.po, .inl (cI, 4000, .inl c9_1.pf)), (am.vt, .inl (cI, 4, .inl c9_1.vf)), (am.su, .inl (cZ, 1000, .inl c9_1.sf)), (am.sq, .inl (cJ, 256, .inr (.inl c9_1.qf))), (am.ch, .inl (cI, 8, .inl (nf c9_1.ck))), (am.sh, .inl (cI, 4, .inl (nf c9_1.sk)))]) (wr := [(am.ti, .inl (cI, 8, .inl c9_1.tf))]) (tx_runV (C := cn_M) (b := am.m0) (As := []) (rest := []) hx hb hml hown (c_M_find_u E H.size am.m0 am.rw am.ry am.ti am.po am.su am.sq am.ch am.vt am.sh c9_1.th (nI c9_1.rk) (nI c9_1.lg) (nI c9_1.pt) c9_1.zs c9_1.rn c9_1.kn c9_1.fo c9_1.yn c9_1.sp c9_1.wf c9_1.yf c9_1.pf c9_1.vf c9_1.sf c9_1.qf c9_1.ck c9_1.sk hk1 h_8 hz4 hr8 hyn8 hsp hck hsk (hT9.2.1 _ _ _ _ _ _ _ _ _ hz2 hz4 hr8 hro (hJ1.k1 hk1) f_5 hlg0)) (cx_C (b0 := b0) G hx0 mw_909 mw_9 ny_M_find (by decide)) (gw.at G hx0 mw_906 rfl _) (gw.at G hx0 mw_908 rfl _) (gw.at G hx0 ms_M_find rfl _) ⟨cx_blind, va_recv hK hP (q0 := 0) (ci := 7) (q := (cn_M, ft_M, 19)) rfl rfl, (cx_pre (s := s) hx0 hP hD hS hA0 [0, 1, 2, 4, 8, 5, 6, 7, 9] rfl rfl (by decide))⟩ rfl rfl hl.1 rfl (lv_room (Nat.le_of_ble_eq_true rfl)) d_M_basis_20 ⟨by decide, by decide⟩) hP hD hS hA [0, 1, 2, 4, 8, 5, 6, 7, 9] [3] rfl rfl (by decide) (by decide) (fun v t w1 H locs ht hW9 hp hP hD hS => ?_) (fun x t w1 H locs ht hW9 hp hP hD hS => by obtain ⟨_, _, _, _, _, _, _, h9, -⟩ := hp; cases h9)
          obtain ⟨pt9_9, pf9_10, vf9_11, sf9_12, q9_13, c9_14, s9_15, h9, f_16, f_17, f_18, f_19, rfl⟩ := hp
          cases h9
          refine W.eq (g2 := F0 m 23 ls []) rfl ?_
          refine W.widen (k := 0) (n := 0) (by decide) (by decide) ?_
          have hP : va_P D kl [(am.ti, .inl (cI, 8, .inl c9_1.tf)), (am.m0, .inr (7, [.int c9_1.th, .int (nI c9_1.zs), .int (nI c9_1.rn), .ref am.rw, .int (nI c9_1.kn), .int (nI c9_1.rk), .int (nI c9_1.yn), .ref am.ry, .int (nI c9_1.sp), .int (nI c9_1.lg), .ref am.ti, .int (1 : Int32), .int (nI pt9_9), .ref am.po, .ref am.su, .ref am.sq, .ref am.ch, .ref am.vt, .ref am.sh])), (am.rw, .inl (cI, 32, .inl c9_1.wf)), (am.ry, .inl (cI, 256, .inl c9_1.yf)), (am.po, .inl (cI, 4000, .inl pf9_10)), (am.vt, .inl (cI, 4, .inl vf9_11)), (am.su, .inl (cZ, 1000, .inl sf9_12)), (am.sq, .inl (cJ, 256, .inr (.inl q9_13))), (am.ch, .inl (cI, 8, .inl (nf c9_14))), (am.sh, .inl (cI, 4, .inl (nf s9_15)))] H := hP
          have hD : va_D A [(am.ti, .inl (cI, 8, .inl c9_1.tf)), (am.m0, .inr (7, [.int c9_1.th, .int (nI c9_1.zs), .int (nI c9_1.rn), .ref am.rw, .int (nI c9_1.kn), .int (nI c9_1.rk), .int (nI c9_1.yn), .ref am.ry, .int (nI c9_1.sp), .int (nI c9_1.lg), .ref am.ti, .int (1 : Int32), .int (nI pt9_9), .ref am.po, .ref am.su, .ref am.sq, .ref am.ch, .ref am.vt, .ref am.sh])), (am.rw, .inl (cI, 32, .inl c9_1.wf)), (am.ry, .inl (cI, 256, .inl c9_1.yf)), (am.po, .inl (cI, 4000, .inl pf9_10)), (am.vt, .inl (cI, 4, .inl vf9_11)), (am.su, .inl (cZ, 1000, .inl sf9_12)), (am.sq, .inl (cJ, 256, .inr (.inl q9_13))), (am.ch, .inl (cI, 8, .inl (nf c9_14))), (am.sh, .inl (cI, 4, .inl (nf s9_15)))] := hD
          obtain ⟨c_20, hc_20⟩ : ∃ x99 : MC, x99 = (MCmk c9_1.th c9_1.zs c9_1.rn c9_1.kn c9_1.rk c9_1.yn c9_1.sp c9_1.lg 1 pt9_9 c9_1.wf c9_1.yf c9_1.tf pf9_10 sf9_12 q9_13 c9_14 vf9_11 s9_15) := ⟨_, rfl⟩
          have hP : va_P D kl [(am.ti, .inl (cI, 8, .inl c_20.tf)), (am.m0, .inr (7, [.int c_20.th, .int (nI c_20.zs), .int (nI c_20.rn), .ref am.rw, .int (nI c_20.kn), .int (nI c_20.rk), .int (nI c_20.yn), .ref am.ry, .int (nI c_20.sp), .int (nI c_20.lg), .ref am.ti, .int (nI c_20.fo), .int (nI c_20.pt), .ref am.po, .ref am.su, .ref am.sq, .ref am.ch, .ref am.vt, .ref am.sh])), (am.rw, .inl (cI, 32, .inl c_20.wf)), (am.ry, .inl (cI, 256, .inl c_20.yf)), (am.po, .inl (cI, 4000, .inl c_20.pf)), (am.vt, .inl (cI, 4, .inl c_20.vf)), (am.su, .inl (cZ, 1000, .inl c_20.sf)), (am.sq, .inl (cJ, 256, .inr (.inl c_20.qf))), (am.ch, .inl (cI, 8, .inl (nf c_20.ck))), (am.sh, .inl (cI, 4, .inl (nf c_20.sk)))] H := by subst hc_20; exact hP
          have hD : va_D A [(am.ti, .inl (cI, 8, .inl c_20.tf)), (am.m0, .inr (7, [.int c_20.th, .int (nI c_20.zs), .int (nI c_20.rn), .ref am.rw, .int (nI c_20.kn), .int (nI c_20.rk), .int (nI c_20.yn), .ref am.ry, .int (nI c_20.sp), .int (nI c_20.lg), .ref am.ti, .int (nI c_20.fo), .int (nI c_20.pt), .ref am.po, .ref am.su, .ref am.sq, .ref am.ch, .ref am.vt, .ref am.sh])), (am.rw, .inl (cI, 32, .inl c_20.wf)), (am.ry, .inl (cI, 256, .inl c_20.yf)), (am.po, .inl (cI, 4000, .inl c_20.pf)), (am.vt, .inl (cI, 4, .inl c_20.vf)), (am.su, .inl (cZ, 1000, .inl c_20.sf)), (am.sq, .inl (cJ, 256, .inr (.inl c_20.qf))), (am.ch, .inl (cI, 8, .inl (nf c_20.ck))), (am.sh, .inl (cI, 4, .inl (nf c_20.sk)))] := by subst hc_20; exact hD
          have hJ2 : MJ c_20 := by subst hc_20; exact ⟨hz2, hz4, hr8, hkn, hrk, hyn, hsp, hlg, Nat.le_refl 1, f_17, f_18, f_19, hro, hJ1.k1, fun _ _ _ _ => f_16⟩
          have hf1 : c_20.fo = 1 := by subst hc_20; exact rfl
          have hk2 : c_20.kn = 1 := by subst hc_20; exact hk1
          have hS2 : MS cm c_20 := by subst hc_20; exact hS1
          have hp2 : c_20.zs ≤ c_20.rk := by subst hc_20; exact f_5
          have hl2 : c_20.lg = 0 := by subst hc_20; exact hlg0
          have ht2 : c_20.th = c9_1.th := by subst hc_20; exact rfl
          have hz2 := hJ2.z2
          have hz4 := hJ2.z4
          have hr8 := hJ2.r8
          have hkn := hJ2.kn
          have hrk := hJ2.rk
          have hyn := hJ2.yn
          have hsp := hJ2.sp
          have hlg := hJ2.lg
          have hfo := hJ2.fo
          have hpt := hJ2.pt
          have hck := hJ2.ck
          have hsk := hJ2.sk
          have hro := hJ2.ro
          refine lv_aload_n hx hb d_M_basis_23 rfl (lv_at hl 0 rfl) ?_
          refine va_get (D := D) (ci := 7) (v := .int (nI c_20.pt)) (C := cn_M) (T := ft_M) (N := 19) hx hb hf_M (fun _ h => h) hown hK hP 1 rfl rfl 12 (by decide) (gw.at G hx0 mw_725 rfl _) (fun _ h9 => h9) rfl d_M_basis_24 ?_
          exact tx_mono (fun _ h => tx_Z.of h) (W.iret (v := nI c_20.pt) hx hb hr (fun t ht hW => ⟨⟨[(am.m0, .inr (7, [.int c_20.th, .int (nI c_20.zs), .int (nI c_20.rn), .ref am.rw, .int (nI c_20.kn), .int (nI c_20.rk), .int (nI c_20.yn), .ref am.ry, .int (nI c_20.sp), .int (nI c_20.lg), .ref am.ti, .int (nI c_20.fo), .int (nI c_20.pt), .ref am.po, .ref am.su, .ref am.sq, .ref am.ch, .ref am.vt, .ref am.sh])), (am.rw, .inl (cI, 32, .inl c_20.wf)), (am.ry, .inl (cI, 256, .inl c_20.yf)), (am.ti, .inl (cI, 8, .inl c_20.tf)), (am.po, .inl (cI, 4000, .inl c_20.pf)), (am.su, .inl (cZ, 1000, .inl c_20.sf)), (am.sq, .inl (cJ, 256, .inr (.inl c_20.qf))), (am.ch, .inl (cI, 8, .inl (nf c_20.ck))), (am.vt, .inl (cI, 4, .inl c_20.vf)), (am.sh, .inl (cI, 4, .inl (nf c_20.sk)))], Or.inr (Or.inr (⟨c_20, rfl, hJ2, hS2, hk2, hp2, hl2, hf1, ht2.trans f_6, rfl⟩)), by rw [ht]; exact hP.sub [1, 2, 3, 0, 4, 6, 7, 8, 5, 9] rfl, hD.sub [1, 2, 3, 0, 4, 6, 7, 8, 5, 9] (by decide) rfl⟩, hS.F ht⟩) hS.2.2 d_M_basis_27)
        · refine cx_call (D := D) (cl := kl) (ws := _) (wc := [(am.m0, .inr (7, [.int c9_1.th, .int (nI c9_1.zs), .int (nI c9_1.rn), .ref am.rw, .int (nI c9_1.kn), .int (nI c9_1.rk), .int (nI c9_1.yn), .ref am.ry, .int (nI c9_1.sp), .int (nI c9_1.lg), .ref am.ti, .int (nI c9_1.fo), .int (nI c9_1.pt), .ref am.po, .ref am.su, .ref am.sq, .ref am.ch, .ref am.vt, .ref am.sh]))]) (wr := [(am.rw, .inl (cI, 32, .inl c9_1.wf)), (am.ry, .inl (cI, 256, .inl c9_1.yf)), (am.ti, .inl (cI, 8, .inl c9_1.tf)), (am.po, .inl (cI, 4000, .inl c9_1.pf)), (am.su, .inl (cZ, 1000, .inl c9_1.sf)), (am.sq, .inl (cJ, 256, .inr (.inl c9_1.qf))), (am.ch, .inl (cI, 8, .inl (nf c9_1.ck))), (am.vt, .inl (cI, 4, .inl c9_1.vf)), (am.sh, .inl (cI, 4, .inl (nf c9_1.sk)))]) (tx_runV (C := cn_M) (b := am.m0) (As := []) (rest := []) hx hb hml hown (c_M_find_k E H.size am.m0 am.rw am.ry am.ti am.po am.su am.sq am.ch am.vt am.sh c9_1.th (nI c9_1.rk) (nI c9_1.lg) (nI c9_1.pt) c9_1.zs c9_1.rn c9_1.kn c9_1.fo c9_1.yn c9_1.sp hk1 (by omega)) (cx_C (b0 := b0) G hx0 mw_909 mw_9 ny_M_find (by decide)) (gw.at G hx0 mw_906 rfl _) (gw.at G hx0 mw_908 rfl _) (gw.at G hx0 ms_M_find rfl _) ⟨cx_blind, va_recv hK hP (q0 := 0) (ci := 7) (q := (cn_M, ft_M, 19)) rfl rfl, (cx_pre (s := s) hx0 hP hD hS hA0 [0] rfl rfl (by decide))⟩ rfl rfl hl.1 rfl (lv_room (Nat.le_of_ble_eq_true rfl)) d_M_basis_20 ⟨by decide, by decide⟩) hP hD hS hA [0] [1, 2, 3, 4, 5, 6, 7, 8, 9] rfl rfl (by decide) (by decide) (fun v t w1 H locs ht hW9 hp hP hD hS => ?_) (fun x t w1 H locs ht hW9 hp hP hD hS => by obtain ⟨h9, -⟩ := hp; cases h9)
          obtain ⟨h9, rfl⟩ := hp
          cases h9
          refine W.eq (g2 := F0 m 23 ls []) rfl ?_
          refine W.widen (k := 0) (n := 0) (by decide) (by decide) ?_
          have hP : va_P D kl [(am.rw, .inl (cI, 32, .inl c9_1.wf)), (am.ry, .inl (cI, 256, .inl c9_1.yf)), (am.ti, .inl (cI, 8, .inl c9_1.tf)), (am.po, .inl (cI, 4000, .inl c9_1.pf)), (am.su, .inl (cZ, 1000, .inl c9_1.sf)), (am.sq, .inl (cJ, 256, .inr (.inl c9_1.qf))), (am.ch, .inl (cI, 8, .inl (nf c9_1.ck))), (am.vt, .inl (cI, 4, .inl c9_1.vf)), (am.sh, .inl (cI, 4, .inl (nf c9_1.sk))), (am.m0, .inr (7, [.int c9_1.th, .int (nI c9_1.zs), .int (nI c9_1.rn), .ref am.rw, .int (nI c9_1.kn), .int (nI c9_1.rk), .int (nI c9_1.yn), .ref am.ry, .int (nI c9_1.sp), .int (nI c9_1.lg), .ref am.ti, .int (nI c9_1.fo), .int (nI c9_1.pt), .ref am.po, .ref am.su, .ref am.sq, .ref am.ch, .ref am.vt, .ref am.sh]))] H := hP
          have hD : va_D A [(am.rw, .inl (cI, 32, .inl c9_1.wf)), (am.ry, .inl (cI, 256, .inl c9_1.yf)), (am.ti, .inl (cI, 8, .inl c9_1.tf)), (am.po, .inl (cI, 4000, .inl c9_1.pf)), (am.su, .inl (cZ, 1000, .inl c9_1.sf)), (am.sq, .inl (cJ, 256, .inr (.inl c9_1.qf))), (am.ch, .inl (cI, 8, .inl (nf c9_1.ck))), (am.vt, .inl (cI, 4, .inl c9_1.vf)), (am.sh, .inl (cI, 4, .inl (nf c9_1.sk))), (am.m0, .inr (7, [.int c9_1.th, .int (nI c9_1.zs), .int (nI c9_1.rn), .ref am.rw, .int (nI c9_1.kn), .int (nI c9_1.rk), .int (nI c9_1.yn), .ref am.ry, .int (nI c9_1.sp), .int (nI c9_1.lg), .ref am.ti, .int (nI c9_1.fo), .int (nI c9_1.pt), .ref am.po, .ref am.su, .ref am.sq, .ref am.ch, .ref am.vt, .ref am.sh]))] := hD
          obtain ⟨c_21, hc_21⟩ : ∃ x99 : MC, x99 = (MCmk c9_1.th c9_1.zs c9_1.rn c9_1.kn c9_1.rk c9_1.yn c9_1.sp c9_1.lg c9_1.fo c9_1.pt c9_1.wf c9_1.yf c9_1.tf c9_1.pf c9_1.sf c9_1.qf c9_1.ck c9_1.vf c9_1.sk) := ⟨_, rfl⟩
          have hP : va_P D kl [(am.rw, .inl (cI, 32, .inl c_21.wf)), (am.ry, .inl (cI, 256, .inl c_21.yf)), (am.ti, .inl (cI, 8, .inl c_21.tf)), (am.po, .inl (cI, 4000, .inl c_21.pf)), (am.su, .inl (cZ, 1000, .inl c_21.sf)), (am.sq, .inl (cJ, 256, .inr (.inl c_21.qf))), (am.ch, .inl (cI, 8, .inl (nf c_21.ck))), (am.vt, .inl (cI, 4, .inl c_21.vf)), (am.sh, .inl (cI, 4, .inl (nf c_21.sk))), (am.m0, .inr (7, [.int c_21.th, .int (nI c_21.zs), .int (nI c_21.rn), .ref am.rw, .int (nI c_21.kn), .int (nI c_21.rk), .int (nI c_21.yn), .ref am.ry, .int (nI c_21.sp), .int (nI c_21.lg), .ref am.ti, .int (nI c_21.fo), .int (nI c_21.pt), .ref am.po, .ref am.su, .ref am.sq, .ref am.ch, .ref am.vt, .ref am.sh]))] H := by subst hc_21; exact hP
          have hD : va_D A [(am.rw, .inl (cI, 32, .inl c_21.wf)), (am.ry, .inl (cI, 256, .inl c_21.yf)), (am.ti, .inl (cI, 8, .inl c_21.tf)), (am.po, .inl (cI, 4000, .inl c_21.pf)), (am.su, .inl (cZ, 1000, .inl c_21.sf)), (am.sq, .inl (cJ, 256, .inr (.inl c_21.qf))), (am.ch, .inl (cI, 8, .inl (nf c_21.ck))), (am.vt, .inl (cI, 4, .inl c_21.vf)), (am.sh, .inl (cI, 4, .inl (nf c_21.sk))), (am.m0, .inr (7, [.int c_21.th, .int (nI c_21.zs), .int (nI c_21.rn), .ref am.rw, .int (nI c_21.kn), .int (nI c_21.rk), .int (nI c_21.yn), .ref am.ry, .int (nI c_21.sp), .int (nI c_21.lg), .ref am.ti, .int (nI c_21.fo), .int (nI c_21.pt), .ref am.po, .ref am.su, .ref am.sq, .ref am.ch, .ref am.vt, .ref am.sh]))] := by subst hc_21; exact hD
          have hJ2 : MJ c_21 := by subst hc_21; exact hJ1
          have hf1 : c_21.fo = 1 := by subst hc_21; exact (show c9_1.fo = 1 by omega)
          have hk2 : c_21.kn = 1 := by subst hc_21; exact hk1
          have hS2 : MS cm c_21 := by subst hc_21; exact hS1
          have hp2 : c_21.zs ≤ c_21.rk := by subst hc_21; exact f_5
          have hl2 : c_21.lg = 0 := by subst hc_21; exact hlg0
          have ht2 : c_21.th = c9_1.th := by subst hc_21; exact rfl
          have hz2 := hJ2.z2
          have hz4 := hJ2.z4
          have hr8 := hJ2.r8
          have hkn := hJ2.kn
          have hrk := hJ2.rk
          have hyn := hJ2.yn
          have hsp := hJ2.sp
          have hlg := hJ2.lg
          have hfo := hJ2.fo
          have hpt := hJ2.pt
          have hck := hJ2.ck
          have hsk := hJ2.sk
          have hro := hJ2.ro
          refine lv_aload_n hx hb d_M_basis_23 rfl (lv_at hl 0 rfl) ?_
          refine va_get (D := D) (ci := 7) (v := .int (nI c_21.pt)) (C := cn_M) (T := ft_M) (N := 19) hx hb hf_M (fun _ h => h) hown hK hP 9 rfl rfl 12 (by decide) (gw.at G hx0 mw_725 rfl _) (fun _ h9 => h9) rfl d_M_basis_24 ?_
          exact tx_mono (fun _ h => tx_Z.of h) (W.iret (v := nI c_21.pt) hx hb hr (fun t ht hW => ⟨⟨[(am.m0, .inr (7, [.int c_21.th, .int (nI c_21.zs), .int (nI c_21.rn), .ref am.rw, .int (nI c_21.kn), .int (nI c_21.rk), .int (nI c_21.yn), .ref am.ry, .int (nI c_21.sp), .int (nI c_21.lg), .ref am.ti, .int (nI c_21.fo), .int (nI c_21.pt), .ref am.po, .ref am.su, .ref am.sq, .ref am.ch, .ref am.vt, .ref am.sh])), (am.rw, .inl (cI, 32, .inl c_21.wf)), (am.ry, .inl (cI, 256, .inl c_21.yf)), (am.ti, .inl (cI, 8, .inl c_21.tf)), (am.po, .inl (cI, 4000, .inl c_21.pf)), (am.su, .inl (cZ, 1000, .inl c_21.sf)), (am.sq, .inl (cJ, 256, .inr (.inl c_21.qf))), (am.ch, .inl (cI, 8, .inl (nf c_21.ck))), (am.vt, .inl (cI, 4, .inl c_21.vf)), (am.sh, .inl (cI, 4, .inl (nf c_21.sk)))], Or.inr (Or.inr (⟨c_21, rfl, hJ2, hS2, hk2, hp2, hl2, hf1, ht2.trans f_6, rfl⟩)), by rw [ht]; exact hP.sub [9, 0, 1, 2, 3, 4, 5, 6, 7, 8] rfl, hD.sub [9, 0, 1, 2, 3, 4, 5, 6, 7, 8] (by decide) rfl⟩, hS.F ht⟩) hS.2.2 d_M_basis_27)
      · have h_7 : ¬ (c9_1.lg = 0) := fun z99 => h_7 ((nI_eq (a := c9_1.lg) (b := 0) (by omega) (by omega)).mpr z99)
        refine lv_iconst (v := (-1 : Int32)) hx hb d_M_basis_17 (by decide) ?_
        exact tx_mono (fun _ h => tx_Z.of h) (W.iret (v := (-1 : Int32)) hx hb hr (fun t ht hW => ⟨⟨[(am.m0, .inr (7, [.int c9_1.th, .int (nI c9_1.zs), .int (nI c9_1.rn), .ref am.rw, .int (nI c9_1.kn), .int (nI c9_1.rk), .int (nI c9_1.yn), .ref am.ry, .int (nI c9_1.sp), .int (nI c9_1.lg), .ref am.ti, .int (nI c9_1.fo), .int (nI c9_1.pt), .ref am.po, .ref am.su, .ref am.sq, .ref am.ch, .ref am.vt, .ref am.sh])), (am.rw, .inl (cI, 32, .inl c9_1.wf)), (am.ry, .inl (cI, 256, .inl c9_1.yf)), (am.ti, .inl (cI, 8, .inl c9_1.tf)), (am.po, .inl (cI, 4000, .inl c9_1.pf)), (am.su, .inl (cZ, 1000, .inl c9_1.sf)), (am.sq, .inl (cJ, 256, .inr (.inl c9_1.qf))), (am.ch, .inl (cI, 8, .inl (nf c9_1.ck))), (am.vt, .inl (cI, 4, .inl c9_1.vf)), (am.sh, .inl (cI, 4, .inl (nf c9_1.sk)))], Or.inr (Or.inl (⟨c9_1, rfl, hJ1, hS1, hk1, f_5, (show c9_1.lg = 1 by have z9 := h_7; omega), f_6, rfl⟩)), by rw [ht]; exact hP.sub [0, 1, 2, 3, 4, 5, 6, 7, 8, 9] rfl, hD.sub [0, 1, 2, 3, 4, 5, 6, 7, 8, 9] (by decide) rfl⟩, hS.F ht⟩) hS.2.2 d_M_basis_18)
    · obtain ⟨c9_22, h9, f_23, f_24, f_25, f_26, f_27, rfl⟩ := hp
      cases h9
      refine W.eq (g2 := F0 m 5 ls [.int (0 : Int32)]) rfl ?_
      refine W.widen (k := 0) (n := 0) (by decide) (by decide) ?_
      have hP : va_P D kl [(am.m0, .inr (7, [.int c9_22.th, .int (nI c9_22.zs), .int (nI c9_22.rn), .ref am.rw, .int (nI c9_22.kn), .int (nI c9_22.rk), .int (nI c9_22.yn), .ref am.ry, .int (nI c9_22.sp), .int (nI c9_22.lg), .ref am.ti, .int (nI c9_22.fo), .int (nI c9_22.pt), .ref am.po, .ref am.su, .ref am.sq, .ref am.ch, .ref am.vt, .ref am.sh])), (am.rw, .inl (cI, 32, .inl c9_22.wf)), (am.ry, .inl (cI, 256, .inl c9_22.yf)), (am.ti, .inl (cI, 8, .inl c9_22.tf)), (am.po, .inl (cI, 4000, .inl c9_22.pf)), (am.su, .inl (cZ, 1000, .inl c9_22.sf)), (am.sq, .inl (cJ, 256, .inr (.inl c9_22.qf))), (am.ch, .inl (cI, 8, .inl (nf c9_22.ck))), (am.vt, .inl (cI, 4, .inl c9_22.vf)), (am.sh, .inl (cI, 4, .inl (nf c9_22.sk)))] H := hP
      have hD : va_D A [(am.m0, .inr (7, [.int c9_22.th, .int (nI c9_22.zs), .int (nI c9_22.rn), .ref am.rw, .int (nI c9_22.kn), .int (nI c9_22.rk), .int (nI c9_22.yn), .ref am.ry, .int (nI c9_22.sp), .int (nI c9_22.lg), .ref am.ti, .int (nI c9_22.fo), .int (nI c9_22.pt), .ref am.po, .ref am.su, .ref am.sq, .ref am.ch, .ref am.vt, .ref am.sh])), (am.rw, .inl (cI, 32, .inl c9_22.wf)), (am.ry, .inl (cI, 256, .inl c9_22.yf)), (am.ti, .inl (cI, 8, .inl c9_22.tf)), (am.po, .inl (cI, 4000, .inl c9_22.pf)), (am.su, .inl (cZ, 1000, .inl c9_22.sf)), (am.sq, .inl (cJ, 256, .inr (.inl c9_22.qf))), (am.ch, .inl (cI, 8, .inl (nf c9_22.ck))), (am.vt, .inl (cI, 4, .inl c9_22.vf)), (am.sh, .inl (cI, 4, .inl (nf c9_22.sk)))] := hD
      have hJ1 := f_23
      have hS1 := f_24
      have hk1 : c9_22.kn = 1 := f_25
      have hz2 := hJ1.z2
      have hz4 := hJ1.z4
      have hr8 := hJ1.r8
      have hkn := hJ1.kn
      have hrk := hJ1.rk
      have hyn := hJ1.yn
      have hsp := hJ1.sp
      have hlg := hJ1.lg
      have hfo := hJ1.fo
      have hpt := hJ1.pt
      have hck := hJ1.ck
      have hsk := hJ1.sk
      have hro := hJ1.ro
      refine lv_if_ne (tgt := 10) hx hb d_M_basis_5 (by decide) (fun h99 => absurd h99 (by decide)) (fun _ => ?_)
      refine lv_iconst (v := (0 : Int32)) hx hb d_M_basis_8 (by decide) ?_
      exact tx_mono (fun _ h => tx_Z.of h) (W.iret (v := (0 : Int32)) hx hb hr (fun t ht hW => ⟨⟨[(am.m0, .inr (7, [.int c9_22.th, .int (nI c9_22.zs), .int (nI c9_22.rn), .ref am.rw, .int (nI c9_22.kn), .int (nI c9_22.rk), .int (nI c9_22.yn), .ref am.ry, .int (nI c9_22.sp), .int (nI c9_22.lg), .ref am.ti, .int (nI c9_22.fo), .int (nI c9_22.pt), .ref am.po, .ref am.su, .ref am.sq, .ref am.ch, .ref am.vt, .ref am.sh])), (am.rw, .inl (cI, 32, .inl c9_22.wf)), (am.ry, .inl (cI, 256, .inl c9_22.yf)), (am.ti, .inl (cI, 8, .inl c9_22.tf)), (am.po, .inl (cI, 4000, .inl c9_22.pf)), (am.su, .inl (cZ, 1000, .inl c9_22.sf)), (am.sq, .inl (cJ, 256, .inr (.inl c9_22.qf))), (am.ch, .inl (cI, 8, .inl (nf c9_22.ck))), (am.vt, .inl (cI, 4, .inl c9_22.vf)), (am.sh, .inl (cI, 4, .inl (nf c9_22.sk)))], Or.inl (⟨c9_22, rfl, hJ1, hS1, hk1, f_26, f_27, rfl⟩), by rw [ht]; exact hP.sub [0, 1, 2, 3, 4, 5, 6, 7, 8, 9] rfl, hD.sub [0, 1, 2, 3, 4, 5, 6, 7, 8, 9] (by decide) rfl⟩, hS.F ht⟩) hS.2.2 d_M_basis_9)
  · rcases hp with hp | hp
    · obtain ⟨_, h9, -⟩ := hp; cases h9
    · obtain ⟨_, h9, -⟩ := hp; cases h9

def lkv (z r k w : Int32) : Int32 := if w = 0 then z else if w = 1 then r else if w = 2 then k else if w = 3 then z - k else -1
set_option maxHeartbeats 4000000 in
set_option maxRecDepth 100000 in
theorem c_M_look {l : Launch} {s0 : State} {b0 : Addr} {D : va_G} {cI cJ cZ : ClassId} {tC tS : Nat} (E : gE l s0 b0 D cI cJ cZ tC tS) (sz : Nat) (am : MA) (cm : MC) (w : Int32) (hT9 : MTH) (hJ : MJ cm) : cx_M l s0 D kl y_M_look b_M_look 2 (some .int) ({ frames := 5, cells := 0, slots := 0, locals := 132 } : Room) 0 0 [.ref am.m0, .int w] [(am.m0, .inr (7, [.int cm.th, .int (nI cm.zs), .int (nI cm.rn), .ref am.rw, .int (nI cm.kn), .int (nI cm.rk), .int (nI cm.yn), .ref am.ry, .int (nI cm.sp), .int (nI cm.lg), .ref am.ti, .int (nI cm.fo), .int (nI cm.pt), .ref am.po, .ref am.su, .ref am.sq, .ref am.ch, .ref am.vt, .ref am.sh])), (am.rw, .inl (cI, 32, .inl cm.wf)), (am.ry, .inl (cI, 256, .inl cm.yf)), (am.ti, .inl (cI, 8, .inl cm.tf)), (am.po, .inl (cI, 4000, .inl cm.pf)), (am.su, .inl (cZ, 1000, .inl cm.sf)), (am.sq, .inl (cJ, 256, .inr (.inl cm.qf))), (am.ch, .inl (cI, 8, .inl (nf cm.ck))), (am.vt, .inl (cI, 4, .inl cm.vf)), (am.sh, .inl (cI, 4, .inl (nf cm.sk)))] sz (fun o9 t9 w9 => (∃ (c9 : MC), o9 = .returned (some (.int (lkv (nI c9.zs) (nI c9.rn) (nI c9.rk) w))) ∧ MJ c9 ∧ MS cm c9 ∧ c9.kn = 1 ∧ c9.th = 0 ∧ w9 = [(am.m0, .inr (7, [.int c9.th, .int (nI c9.zs), .int (nI c9.rn), .ref am.rw, .int (nI c9.kn), .int (nI c9.rk), .int (nI c9.yn), .ref am.ry, .int (nI c9.sp), .int (nI c9.lg), .ref am.ti, .int (nI c9.fo), .int (nI c9.pt), .ref am.po, .ref am.su, .ref am.sq, .ref am.ch, .ref am.vt, .ref am.sh])), (am.rw, .inl (cI, 32, .inl c9.wf)), (am.ry, .inl (cI, 256, .inl c9.yf)), (am.ti, .inl (cI, 8, .inl c9.tf)), (am.po, .inl (cI, 4000, .inl c9.pf)), (am.su, .inl (cZ, 1000, .inl c9.sf)), (am.sq, .inl (cJ, 256, .inr (.inl c9.qf))), (am.ch, .inl (cI, 8, .inl (nf c9.ck))), (am.vt, .inl (cI, 4, .inl c9.vf)), (am.sh, .inl (cI, 4, .inl (nf c9.sk)))])) := by
  refine tx_ofW (cc := b_M_look) (maxL := 2) (ret := (some .int)) (by decide) rfl ?_
  intro p e s m args below meth c s₁ B hml hT hv
  obtain ⟨rfl, hsz, hP, hD0, hx0⟩ := hv
  have hx := B.exec
  have hb := B.bytes
  have hr := B.returns
  have G := E.2.1
  have hown : s.vm.findClass cn_M = some m.cls := findClass_of_methodNamed B.named
  have hlocks := B.notSynchronized
  have hK := va_K.moved hx0.1.alike E.2.2.1
  have hf_M : ∀ w99 ∈ u_ws cn_M ft_M 19, w99.before ([.ref am.m0, .int w] : List Value).toArray s = true := fun w99 h99 => gw.at G hx0 (fw_M w99 h99) (fo_M w99 h99) _
  subst hsz
  have hA0 := cx_new hD0 hx0.2.1
  have hD := hD0.self (sz := s.heap.size)
  generalize hAe : va_A [(am.m0, .inr (7, [.int cm.th, .int (nI cm.zs), .int (nI cm.rn), .ref am.rw, .int (nI cm.kn), .int (nI cm.rk), .int (nI cm.yn), .ref am.ry, .int (nI cm.sp), .int (nI cm.lg), .ref am.ti, .int (nI cm.fo), .int (nI cm.pt), .ref am.po, .ref am.su, .ref am.sq, .ref am.ch, .ref am.vt, .ref am.sh])), (am.rw, .inl (cI, 32, .inl cm.wf)), (am.ry, .inl (cI, 256, .inl cm.yf)), (am.ti, .inl (cI, 8, .inl cm.tf)), (am.po, .inl (cI, 4000, .inl cm.pf)), (am.su, .inl (cZ, 1000, .inl cm.sf)), (am.sq, .inl (cJ, 256, .inr (.inl cm.qf))), (am.ch, .inl (cI, 8, .inl (nf cm.ck))), (am.vt, .inl (cI, 4, .inl cm.vf)), (am.sh, .inl (cI, 4, .inl (nf cm.sk)))] s.heap.size = A at hD hA0 ⊢
  have hA : ∀ q : Nat, s.heap.size ≤ q → A q := fun q h => by rw [← hAe]; exact Or.inr h
  have hS : va_S A s.heap s.heap [] := va_S.rf
  have hl := lv_entry ([.ref am.m0, .int w]) (n := 2) (Nat.le_of_ble_eq_true rfl)
  rw [lg_entry_eq]
  generalize (lg_sl ([.ref am.m0, .int w]) ++ List.replicate (2 - (lg_sl ([.ref am.m0, .int w])).length) Slot.unset).toArray = ls at hl ⊢
  have hl : lv_has ls 2 [(0, .ref am.m0), (1, .int w)] := hl
  have hP : va_P D kl [(am.m0, .inr (7, [.int cm.th, .int (nI cm.zs), .int (nI cm.rn), .ref am.rw, .int (nI cm.kn), .int (nI cm.rk), .int (nI cm.yn), .ref am.ry, .int (nI cm.sp), .int (nI cm.lg), .ref am.ti, .int (nI cm.fo), .int (nI cm.pt), .ref am.po, .ref am.su, .ref am.sq, .ref am.ch, .ref am.vt, .ref am.sh])), (am.rw, .inl (cI, 32, .inl cm.wf)), (am.ry, .inl (cI, 256, .inl cm.yf)), (am.ti, .inl (cI, 8, .inl cm.tf)), (am.po, .inl (cI, 4000, .inl cm.pf)), (am.su, .inl (cZ, 1000, .inl cm.sf)), (am.sq, .inl (cJ, 256, .inr (.inl cm.qf))), (am.ch, .inl (cI, 8, .inl (nf cm.ck))), (am.vt, .inl (cI, 4, .inl cm.vf)), (am.sh, .inl (cI, 4, .inl (nf cm.sk)))] s.heap := hP
  have hml : c.maxLocals = 2 := hml
  have hz2 := hJ.z2
  have hz4 := hJ.z4
  have hr8 := hJ.r8
  have hkn := hJ.kn
  have hrk := hJ.rk
  have hyn := hJ.yn
  have hsp := hJ.sp
  have hlg := hJ.lg
  have hfo := hJ.fo
  have hpt := hJ.pt
  have hck := hJ.ck
  have hsk := hJ.sk
  have hro := hJ.ro
  refine lv_aload_n hx hb d_M_look_0 rfl (lv_at hl 0 rfl) ?_
  refine lv_iconst (v := (0 : Int32)) hx hb d_M_look_1 (by decide) ?_
  refine va_put (D := D) (ci := 7) (v := .int (0 : Int32)) (ty := .int) (C := cn_M) (T := ft_M) (N := 19) hx hb hf_M (fun _ h => h) fy_M fk_M fn_M hown hK hP hD hS 0 rfl rfl 0 (by decide) (gw.at G hx0 mw_713 rfl _) (fun _ h9 => h9) rfl (by decide +kernel) rfl rfl (Nat.le_of_ble_eq_true rfl) d_M_look_2 (fun H locs hP hD hS => ?_)
  have hP : va_P D kl [(am.m0, .inr (7, [.int (0 : Int32), .int (nI cm.zs), .int (nI cm.rn), .ref am.rw, .int (nI cm.kn), .int (nI cm.rk), .int (nI cm.yn), .ref am.ry, .int (nI cm.sp), .int (nI cm.lg), .ref am.ti, .int (nI cm.fo), .int (nI cm.pt), .ref am.po, .ref am.su, .ref am.sq, .ref am.ch, .ref am.vt, .ref am.sh])), (am.rw, .inl (cI, 32, .inl cm.wf)), (am.ry, .inl (cI, 256, .inl cm.yf)), (am.ti, .inl (cI, 8, .inl cm.tf)), (am.po, .inl (cI, 4000, .inl cm.pf)), (am.su, .inl (cZ, 1000, .inl cm.sf)), (am.sq, .inl (cJ, 256, .inr (.inl cm.qf))), (am.ch, .inl (cI, 8, .inl (nf cm.ck))), (am.vt, .inl (cI, 4, .inl cm.vf)), (am.sh, .inl (cI, 4, .inl (nf cm.sk)))] H := hP
  have hD : va_D A [(am.m0, .inr (7, [.int (0 : Int32), .int (nI cm.zs), .int (nI cm.rn), .ref am.rw, .int (nI cm.kn), .int (nI cm.rk), .int (nI cm.yn), .ref am.ry, .int (nI cm.sp), .int (nI cm.lg), .ref am.ti, .int (nI cm.fo), .int (nI cm.pt), .ref am.po, .ref am.su, .ref am.sq, .ref am.ch, .ref am.vt, .ref am.sh])), (am.rw, .inl (cI, 32, .inl cm.wf)), (am.ry, .inl (cI, 256, .inl cm.yf)), (am.ti, .inl (cI, 8, .inl cm.tf)), (am.po, .inl (cI, 4000, .inl cm.pf)), (am.su, .inl (cZ, 1000, .inl cm.sf)), (am.sq, .inl (cJ, 256, .inr (.inl cm.qf))), (am.ch, .inl (cI, 8, .inl (nf cm.ck))), (am.vt, .inl (cI, 4, .inl cm.vf)), (am.sh, .inl (cI, 4, .inl (nf cm.sk)))] := hD
  refine lv_aload_n hx hb d_M_look_5 rfl (lv_at hl 0 rfl) ?_
  by_cases h_1 : cm.kn = 0
  · refine cx_call (D := D) (cl := kl) (ws := _) (wc := [(am.m0, .inr (7, [.int (0 : Int32), .int (nI cm.zs), .int (nI cm.rn), .ref am.rw, .int (nI cm.kn), .int (nI cm.rk), .int (nI cm.yn), .ref am.ry, .int (nI cm.sp), .int (nI cm.lg), .ref am.ti, .int (nI cm.fo), .int (nI cm.pt), .ref am.po, .ref am.su, .ref am.sq, .ref am.ch, .ref am.vt, .ref am.sh])), (am.rw, .inl (cI, 32, .inl cm.wf)), (am.ry, .inl (cI, 256, .inl cm.yf)), (am.ti, .inl (cI, 8, .inl cm.tf)), (am.vt, .inl (cI, 4, .inl cm.vf)), (am.sq, .inl (cJ, 256, .inr (.inl cm.qf))), (am.ch, .inl (cI, 8, .inl (nf cm.ck)))]) (wr := [(am.po, .inl (cI, 4000, .inl cm.pf)), (am.su, .inl (cZ, 1000, .inl cm.sf)), (am.sh, .inl (cI, 4, .inl (nf cm.sk)))]) (tx_runV (C := cn_M) (b := am.m0) (As := []) (rest := []) hx hb hml hown (c_M_know_u E H.size am.m0 am.rw am.ry am.ti am.po am.su am.sq am.ch am.vt am.sh (0 : Int32) (nI cm.rk) (nI cm.yn) (nI cm.sp) (nI cm.lg) (nI cm.fo) (nI cm.pt) cm.zs cm.rn cm.kn cm.wf cm.yf cm.tf cm.vf cm.qf cm.ck h_1 hz2 hz4 hr8 hck (fun q0 hq => hT9.1 _ _ _ q0 hz2 hz4 hr8 hro hq)) (cx_C (b0 := b0) G hx0 mw_806 mw_9 ny_M_know (by decide)) (gw.at G hx0 mw_803 rfl _) (gw.at G hx0 mw_805 rfl _) (gw.at G hx0 ms_M_know rfl _) ⟨cx_blind, va_recv hK hP (q0 := 0) (ci := 7) (q := (cn_M, ft_M, 19)) rfl rfl, (cx_pre (s := s) hx0 hP hD hS hA0 [0, 1, 2, 3, 8, 6, 7] rfl rfl (by decide))⟩ rfl rfl hl.1 rfl (lv_room (Nat.le_of_ble_eq_true rfl)) d_M_look_6 ⟨by decide, by decide⟩) hP hD hS hA [0, 1, 2, 3, 8, 6, 7] [4, 5, 9] rfl rfl (by decide) (by decide) (fun v t w1 H locs ht hW9 hp hP hD hS => ?_) (fun x t w1 H locs ht hW9 hp hP hD hS => by obtain ⟨_, _, _, _, _, _, _, _, _, h9, -⟩ := hp; cases h9)
    obtain ⟨rk9_2, yn9_3, sp9_4, lg9_5, yf9_6, tf9_7, vf9_8, q9_9, c9_10, h9, f_11, f_12, f_13, f_14, f_15, f_16, rfl⟩ := hp
    cases h9
    refine W.eq (g2 := F0 m 9 ls []) rfl ?_
    refine W.widen (k := 0) (n := 0) (by decide) (by decide) ?_
    have hP : va_P D kl [(am.po, .inl (cI, 4000, .inl cm.pf)), (am.su, .inl (cZ, 1000, .inl cm.sf)), (am.sh, .inl (cI, 4, .inl (nf cm.sk))), (am.m0, .inr (7, [.int (0 : Int32), .int (nI cm.zs), .int (nI cm.rn), .ref am.rw, .int (1 : Int32), .int (nI rk9_2), .int (nI yn9_3), .ref am.ry, .int (nI sp9_4), .int (nI lg9_5), .ref am.ti, .int (0 : Int32), .int (nI cm.pt), .ref am.po, .ref am.su, .ref am.sq, .ref am.ch, .ref am.vt, .ref am.sh])), (am.rw, .inl (cI, 32, .inl cm.wf)), (am.ry, .inl (cI, 256, .inl yf9_6)), (am.ti, .inl (cI, 8, .inl tf9_7)), (am.vt, .inl (cI, 4, .inl vf9_8)), (am.sq, .inl (cJ, 256, .inr (.inl q9_9))), (am.ch, .inl (cI, 8, .inl (nf c9_10)))] H := hP
    have hD : va_D A [(am.po, .inl (cI, 4000, .inl cm.pf)), (am.su, .inl (cZ, 1000, .inl cm.sf)), (am.sh, .inl (cI, 4, .inl (nf cm.sk))), (am.m0, .inr (7, [.int (0 : Int32), .int (nI cm.zs), .int (nI cm.rn), .ref am.rw, .int (1 : Int32), .int (nI rk9_2), .int (nI yn9_3), .ref am.ry, .int (nI sp9_4), .int (nI lg9_5), .ref am.ti, .int (0 : Int32), .int (nI cm.pt), .ref am.po, .ref am.su, .ref am.sq, .ref am.ch, .ref am.vt, .ref am.sh])), (am.rw, .inl (cI, 32, .inl cm.wf)), (am.ry, .inl (cI, 256, .inl yf9_6)), (am.ti, .inl (cI, 8, .inl tf9_7)), (am.vt, .inl (cI, 4, .inl vf9_8)), (am.sq, .inl (cJ, 256, .inr (.inl q9_9))), (am.ch, .inl (cI, 8, .inl (nf c9_10)))] := hD
    obtain ⟨c_17, hc_17⟩ : ∃ x99 : MC, x99 = (MCmk (0 : Int32) cm.zs cm.rn 1 rk9_2 yn9_3 sp9_4 lg9_5 0 cm.pt cm.wf yf9_6 tf9_7 cm.pf cm.sf q9_9 c9_10 vf9_8 cm.sk) := ⟨_, rfl⟩
    have hP : va_P D kl [(am.po, .inl (cI, 4000, .inl c_17.pf)), (am.su, .inl (cZ, 1000, .inl c_17.sf)), (am.sh, .inl (cI, 4, .inl (nf c_17.sk))), (am.m0, .inr (7, [.int c_17.th, .int (nI c_17.zs), .int (nI c_17.rn), .ref am.rw, .int (nI c_17.kn), .int (nI c_17.rk), .int (nI c_17.yn), .ref am.ry, .int (nI c_17.sp), .int (nI c_17.lg), .ref am.ti, .int (nI c_17.fo), .int (nI c_17.pt), .ref am.po, .ref am.su, .ref am.sq, .ref am.ch, .ref am.vt, .ref am.sh])), (am.rw, .inl (cI, 32, .inl c_17.wf)), (am.ry, .inl (cI, 256, .inl c_17.yf)), (am.ti, .inl (cI, 8, .inl c_17.tf)), (am.vt, .inl (cI, 4, .inl c_17.vf)), (am.sq, .inl (cJ, 256, .inr (.inl c_17.qf))), (am.ch, .inl (cI, 8, .inl (nf c_17.ck)))] H := by subst hc_17; exact hP
    have hD : va_D A [(am.po, .inl (cI, 4000, .inl c_17.pf)), (am.su, .inl (cZ, 1000, .inl c_17.sf)), (am.sh, .inl (cI, 4, .inl (nf c_17.sk))), (am.m0, .inr (7, [.int c_17.th, .int (nI c_17.zs), .int (nI c_17.rn), .ref am.rw, .int (nI c_17.kn), .int (nI c_17.rk), .int (nI c_17.yn), .ref am.ry, .int (nI c_17.sp), .int (nI c_17.lg), .ref am.ti, .int (nI c_17.fo), .int (nI c_17.pt), .ref am.po, .ref am.su, .ref am.sq, .ref am.ch, .ref am.vt, .ref am.sh])), (am.rw, .inl (cI, 32, .inl c_17.wf)), (am.ry, .inl (cI, 256, .inl c_17.yf)), (am.ti, .inl (cI, 8, .inl c_17.tf)), (am.vt, .inl (cI, 4, .inl c_17.vf)), (am.sq, .inl (cJ, 256, .inr (.inl c_17.qf))), (am.ch, .inl (cI, 8, .inl (nf c_17.ck)))] := by subst hc_17; exact hD
    have hJ1 : MJ c_17 := by subst hc_17; exact ⟨hz2, hz4, hr8, Nat.le_refl 1, f_12, f_13, f_14, f_15, Nat.zero_le _, hpt, f_16, hsk, hro, fun _ => f_11, fun _ _ _ z9 => absurd (show 0 = 1 from z9) (by decide)⟩
    have hk1 : c_17.kn = 1 := by subst hc_17; exact rfl
    have hS1 : MS cm c_17 := by subst hc_17; exact ⟨rfl, rfl, rfl⟩
    have ht1 : c_17.th = (0 : Int32) := by subst hc_17; exact rfl
    have hz2 := hJ1.z2
    have hz4 := hJ1.z4
    have hr8 := hJ1.r8
    have hkn := hJ1.kn
    have hrk := hJ1.rk
    have hyn := hJ1.yn
    have hsp := hJ1.sp
    have hlg := hJ1.lg
    have hfo := hJ1.fo
    have hpt := hJ1.pt
    have hck := hJ1.ck
    have hsk := hJ1.sk
    have hro := hJ1.ro
    refine lv_iload_n hx hb d_M_look_9 rfl (lv_at hl 1 rfl) ?_
    refine lv_if_eq (tgt := 18) hx hb d_M_look_10 (by decide) (fun h_18 => ?_) (fun h_18 => ?_)
    · refine lv_iload_n hx hb d_M_look_18 rfl (lv_at hl 1 rfl) ?_
      refine lv_if_ne (tgt := 29) hx hb d_M_look_19 (by decide) (fun h99 => absurd h99 (by first | assumption | exact Int32.not_le.mpr (by assumption) | exact Int32.not_lt.mpr (by assumption) | exact Int32.not_le.mp (by assumption) | exact Int32.not_lt.mp (by assumption) | exact not_not_intro (by assumption))) (fun _ => ?_)
      refine lv_aload_n hx hb d_M_look_22 rfl (lv_at hl 0 rfl) ?_
      refine va_get (D := D) (ci := 7) (v := .int (nI c_17.zs)) (C := cn_M) (T := ft_M) (N := 19) hx hb hf_M (fun _ h => h) hown hK hP 3 rfl rfl 1 (by decide) (gw.at G hx0 mw_714 rfl _) (fun _ h9 => h9) rfl d_M_look_23 ?_
      refine lv_goto (tgt := 33) hx hb d_M_look_26 (by decide) ?_
      exact tx_mono (fun _ h => tx_Z.of h) (W.iret (v := nI c_17.zs) hx hb hr (fun t ht hW => ⟨⟨[(am.m0, .inr (7, [.int c_17.th, .int (nI c_17.zs), .int (nI c_17.rn), .ref am.rw, .int (nI c_17.kn), .int (nI c_17.rk), .int (nI c_17.yn), .ref am.ry, .int (nI c_17.sp), .int (nI c_17.lg), .ref am.ti, .int (nI c_17.fo), .int (nI c_17.pt), .ref am.po, .ref am.su, .ref am.sq, .ref am.ch, .ref am.vt, .ref am.sh])), (am.rw, .inl (cI, 32, .inl c_17.wf)), (am.ry, .inl (cI, 256, .inl c_17.yf)), (am.ti, .inl (cI, 8, .inl c_17.tf)), (am.po, .inl (cI, 4000, .inl c_17.pf)), (am.su, .inl (cZ, 1000, .inl c_17.sf)), (am.sq, .inl (cJ, 256, .inr (.inl c_17.qf))), (am.ch, .inl (cI, 8, .inl (nf c_17.ck))), (am.vt, .inl (cI, 4, .inl c_17.vf)), (am.sh, .inl (cI, 4, .inl (nf c_17.sk)))], ⟨c_17, (by unfold lkv; rw [if_pos h_18]), hJ1, hS1, hk1, ht1, rfl⟩, by rw [ht]; exact hP.sub [3, 4, 5, 6, 0, 1, 8, 9, 7, 2] rfl, hD.sub [3, 4, 5, 6, 0, 1, 8, 9, 7, 2] (by decide) rfl⟩, hS.F ht⟩) hS.2.2 d_M_look_33)
    · refine lv_iload_n hx hb d_M_look_13 rfl (lv_at hl 1 rfl) ?_
      refine lv_iconst (v := (1 : Int32)) hx hb d_M_look_14 (by decide) ?_
      refine lv_icmp_ne (tgt := 34) hx hb d_M_look_15 (by decide) (fun h_19 => ?_) (fun h_19 => ?_)
      · refine lv_iload_n hx hb d_M_look_34 rfl (lv_at hl 1 rfl) ?_
        refine lv_iconst (v := (2 : Int32)) hx hb d_M_look_35 (by decide) ?_
        refine lv_icmp_ne (tgt := 46) hx hb d_M_look_36 (by decide) (fun h_20 => ?_) (fun h_20 => ?_)
        · refine lv_iload_n hx hb d_M_look_46 rfl (lv_at hl 1 rfl) ?_
          refine lv_iconst (v := (3 : Int32)) hx hb d_M_look_47 (by decide) ?_
          refine lv_icmp_ne (tgt := 63) hx hb d_M_look_48 (by decide) (fun h_21 => ?_) (fun h_21 => ?_)
          · refine lv_iconst (v := (-1 : Int32)) hx hb d_M_look_63 (by decide) ?_
            exact tx_mono (fun _ h => tx_Z.of h) (W.iret (v := (-1 : Int32)) hx hb hr (fun t ht hW => ⟨⟨[(am.m0, .inr (7, [.int c_17.th, .int (nI c_17.zs), .int (nI c_17.rn), .ref am.rw, .int (nI c_17.kn), .int (nI c_17.rk), .int (nI c_17.yn), .ref am.ry, .int (nI c_17.sp), .int (nI c_17.lg), .ref am.ti, .int (nI c_17.fo), .int (nI c_17.pt), .ref am.po, .ref am.su, .ref am.sq, .ref am.ch, .ref am.vt, .ref am.sh])), (am.rw, .inl (cI, 32, .inl c_17.wf)), (am.ry, .inl (cI, 256, .inl c_17.yf)), (am.ti, .inl (cI, 8, .inl c_17.tf)), (am.po, .inl (cI, 4000, .inl c_17.pf)), (am.su, .inl (cZ, 1000, .inl c_17.sf)), (am.sq, .inl (cJ, 256, .inr (.inl c_17.qf))), (am.ch, .inl (cI, 8, .inl (nf c_17.ck))), (am.vt, .inl (cI, 4, .inl c_17.vf)), (am.sh, .inl (cI, 4, .inl (nf c_17.sk)))], ⟨c_17, (by unfold lkv; rw [if_neg h_18, if_neg h_19, if_neg h_20, if_neg h_21]), hJ1, hS1, hk1, ht1, rfl⟩, by rw [ht]; exact hP.sub [3, 4, 5, 6, 0, 1, 8, 9, 7, 2] rfl, hD.sub [3, 4, 5, 6, 0, 1, 8, 9, 7, 2] (by decide) rfl⟩, hS.F ht⟩) hS.2.2 d_M_look_64)
          · refine lv_aload_n hx hb d_M_look_51 rfl (lv_at hl 0 rfl) ?_
            refine va_get (D := D) (ci := 7) (v := .int (nI c_17.zs)) (C := cn_M) (T := ft_M) (N := 19) hx hb hf_M (fun _ h => h) hown hK hP 3 rfl rfl 1 (by decide) (gw.at G hx0 mw_714 rfl _) (fun _ h9 => h9) rfl d_M_look_52 ?_
            refine lv_aload_n hx hb d_M_look_55 rfl (lv_at hl 0 rfl) ?_
            refine va_get (D := D) (ci := 7) (v := .int (nI c_17.rk)) (C := cn_M) (T := ft_M) (N := 19) hx hb hf_M (fun _ h => h) hown hK hP 3 rfl rfl 5 (by decide) (gw.at G hx0 mw_718 rfl _) (fun _ h9 => h9) rfl d_M_look_56 ?_
            refine lv_isub hx hb d_M_look_59 ?_
            refine lv_goto (tgt := 64) hx hb d_M_look_60 (by decide) ?_
            exact tx_mono (fun _ h => tx_Z.of h) (W.iret (v := (nI c_17.zs) - (nI c_17.rk)) hx hb hr (fun t ht hW => ⟨⟨[(am.m0, .inr (7, [.int c_17.th, .int (nI c_17.zs), .int (nI c_17.rn), .ref am.rw, .int (nI c_17.kn), .int (nI c_17.rk), .int (nI c_17.yn), .ref am.ry, .int (nI c_17.sp), .int (nI c_17.lg), .ref am.ti, .int (nI c_17.fo), .int (nI c_17.pt), .ref am.po, .ref am.su, .ref am.sq, .ref am.ch, .ref am.vt, .ref am.sh])), (am.rw, .inl (cI, 32, .inl c_17.wf)), (am.ry, .inl (cI, 256, .inl c_17.yf)), (am.ti, .inl (cI, 8, .inl c_17.tf)), (am.po, .inl (cI, 4000, .inl c_17.pf)), (am.su, .inl (cZ, 1000, .inl c_17.sf)), (am.sq, .inl (cJ, 256, .inr (.inl c_17.qf))), (am.ch, .inl (cI, 8, .inl (nf c_17.ck))), (am.vt, .inl (cI, 4, .inl c_17.vf)), (am.sh, .inl (cI, 4, .inl (nf c_17.sk)))], ⟨c_17, (by unfold lkv; rw [if_neg h_18, if_neg h_19, if_neg h_20, if_pos h_21]), hJ1, hS1, hk1, ht1, rfl⟩, by rw [ht]; exact hP.sub [3, 4, 5, 6, 0, 1, 8, 9, 7, 2] rfl, hD.sub [3, 4, 5, 6, 0, 1, 8, 9, 7, 2] (by decide) rfl⟩, hS.F ht⟩) hS.2.2 d_M_look_64)
        · refine lv_aload_n hx hb d_M_look_39 rfl (lv_at hl 0 rfl) ?_
          refine va_get (D := D) (ci := 7) (v := .int (nI c_17.rk)) (C := cn_M) (T := ft_M) (N := 19) hx hb hf_M (fun _ h => h) hown hK hP 3 rfl rfl 5 (by decide) (gw.at G hx0 mw_718 rfl _) (fun _ h9 => h9) rfl d_M_look_40 ?_
          refine lv_goto (tgt := 64) hx hb d_M_look_43 (by decide) ?_
          exact tx_mono (fun _ h => tx_Z.of h) (W.iret (v := nI c_17.rk) hx hb hr (fun t ht hW => ⟨⟨[(am.m0, .inr (7, [.int c_17.th, .int (nI c_17.zs), .int (nI c_17.rn), .ref am.rw, .int (nI c_17.kn), .int (nI c_17.rk), .int (nI c_17.yn), .ref am.ry, .int (nI c_17.sp), .int (nI c_17.lg), .ref am.ti, .int (nI c_17.fo), .int (nI c_17.pt), .ref am.po, .ref am.su, .ref am.sq, .ref am.ch, .ref am.vt, .ref am.sh])), (am.rw, .inl (cI, 32, .inl c_17.wf)), (am.ry, .inl (cI, 256, .inl c_17.yf)), (am.ti, .inl (cI, 8, .inl c_17.tf)), (am.po, .inl (cI, 4000, .inl c_17.pf)), (am.su, .inl (cZ, 1000, .inl c_17.sf)), (am.sq, .inl (cJ, 256, .inr (.inl c_17.qf))), (am.ch, .inl (cI, 8, .inl (nf c_17.ck))), (am.vt, .inl (cI, 4, .inl c_17.vf)), (am.sh, .inl (cI, 4, .inl (nf c_17.sk)))], ⟨c_17, (by unfold lkv; rw [if_neg h_18, if_neg h_19, if_pos h_20]), hJ1, hS1, hk1, ht1, rfl⟩, by rw [ht]; exact hP.sub [3, 4, 5, 6, 0, 1, 8, 9, 7, 2] rfl, hD.sub [3, 4, 5, 6, 0, 1, 8, 9, 7, 2] (by decide) rfl⟩, hS.F ht⟩) hS.2.2 d_M_look_64)
      · refine lv_iload_n hx hb d_M_look_18 rfl (lv_at hl 1 rfl) ?_
        refine lv_if_ne (tgt := 29) hx hb d_M_look_19 (by decide) (fun _ => ?_) (fun h99 => absurd h99 (by first | assumption | exact Int32.not_le.mpr (by assumption) | exact Int32.not_lt.mpr (by assumption) | exact Int32.not_le.mp (by assumption) | exact Int32.not_lt.mp (by assumption) | exact not_not_intro (by assumption)))
        refine lv_aload_n hx hb d_M_look_29 rfl (lv_at hl 0 rfl) ?_
        refine va_get (D := D) (ci := 7) (v := .int (nI c_17.rn)) (C := cn_M) (T := ft_M) (N := 19) hx hb hf_M (fun _ h => h) hown hK hP 3 rfl rfl 2 (by decide) (gw.at G hx0 mw_715 rfl _) (fun _ h9 => h9) rfl d_M_look_30 ?_
        exact tx_mono (fun _ h => tx_Z.of h) (W.iret (v := nI c_17.rn) hx hb hr (fun t ht hW => ⟨⟨[(am.m0, .inr (7, [.int c_17.th, .int (nI c_17.zs), .int (nI c_17.rn), .ref am.rw, .int (nI c_17.kn), .int (nI c_17.rk), .int (nI c_17.yn), .ref am.ry, .int (nI c_17.sp), .int (nI c_17.lg), .ref am.ti, .int (nI c_17.fo), .int (nI c_17.pt), .ref am.po, .ref am.su, .ref am.sq, .ref am.ch, .ref am.vt, .ref am.sh])), (am.rw, .inl (cI, 32, .inl c_17.wf)), (am.ry, .inl (cI, 256, .inl c_17.yf)), (am.ti, .inl (cI, 8, .inl c_17.tf)), (am.po, .inl (cI, 4000, .inl c_17.pf)), (am.su, .inl (cZ, 1000, .inl c_17.sf)), (am.sq, .inl (cJ, 256, .inr (.inl c_17.qf))), (am.ch, .inl (cI, 8, .inl (nf c_17.ck))), (am.vt, .inl (cI, 4, .inl c_17.vf)), (am.sh, .inl (cI, 4, .inl (nf c_17.sk)))], ⟨c_17, (by unfold lkv; rw [if_neg h_18, if_pos h_19]), hJ1, hS1, hk1, ht1, rfl⟩, by rw [ht]; exact hP.sub [3, 4, 5, 6, 0, 1, 8, 9, 7, 2] rfl, hD.sub [3, 4, 5, 6, 0, 1, 8, 9, 7, 2] (by decide) rfl⟩, hS.F ht⟩) hS.2.2 d_M_look_33)
  · refine cx_call (D := D) (cl := kl) (ws := _) (wc := [(am.m0, .inr (7, [.int (0 : Int32), .int (nI cm.zs), .int (nI cm.rn), .ref am.rw, .int (nI cm.kn), .int (nI cm.rk), .int (nI cm.yn), .ref am.ry, .int (nI cm.sp), .int (nI cm.lg), .ref am.ti, .int (nI cm.fo), .int (nI cm.pt), .ref am.po, .ref am.su, .ref am.sq, .ref am.ch, .ref am.vt, .ref am.sh]))]) (wr := [(am.rw, .inl (cI, 32, .inl cm.wf)), (am.ry, .inl (cI, 256, .inl cm.yf)), (am.ti, .inl (cI, 8, .inl cm.tf)), (am.po, .inl (cI, 4000, .inl cm.pf)), (am.su, .inl (cZ, 1000, .inl cm.sf)), (am.sq, .inl (cJ, 256, .inr (.inl cm.qf))), (am.ch, .inl (cI, 8, .inl (nf cm.ck))), (am.vt, .inl (cI, 4, .inl cm.vf)), (am.sh, .inl (cI, 4, .inl (nf cm.sk)))]) (tx_runV (C := cn_M) (b := am.m0) (As := []) (rest := []) hx hb hml hown (c_M_know_k E H.size am.m0 am.rw am.ry am.ti am.po am.su am.sq am.ch am.vt am.sh (0 : Int32) (nI cm.zs) (nI cm.rn) (nI cm.rk) (nI cm.yn) (nI cm.sp) (nI cm.lg) (nI cm.fo) (nI cm.pt) cm.kn (by omega)) (cx_C (b0 := b0) G hx0 mw_806 mw_9 ny_M_know (by decide)) (gw.at G hx0 mw_803 rfl _) (gw.at G hx0 mw_805 rfl _) (gw.at G hx0 ms_M_know rfl _) ⟨cx_blind, va_recv hK hP (q0 := 0) (ci := 7) (q := (cn_M, ft_M, 19)) rfl rfl, (cx_pre (s := s) hx0 hP hD hS hA0 [0] rfl rfl (by decide))⟩ rfl rfl hl.1 rfl (lv_room (Nat.le_of_ble_eq_true rfl)) d_M_look_6 ⟨by decide, by decide⟩) hP hD hS hA [0] [1, 2, 3, 4, 5, 6, 7, 8, 9] rfl rfl (by decide) (by decide) (fun v t w1 H locs ht hW9 hp hP hD hS => ?_) (fun x t w1 H locs ht hW9 hp hP hD hS => by obtain ⟨h9, -⟩ := hp; cases h9)
    obtain ⟨h9, rfl⟩ := hp
    cases h9
    refine W.eq (g2 := F0 m 9 ls []) rfl ?_
    refine W.widen (k := 0) (n := 0) (by decide) (by decide) ?_
    have hP : va_P D kl [(am.rw, .inl (cI, 32, .inl cm.wf)), (am.ry, .inl (cI, 256, .inl cm.yf)), (am.ti, .inl (cI, 8, .inl cm.tf)), (am.po, .inl (cI, 4000, .inl cm.pf)), (am.su, .inl (cZ, 1000, .inl cm.sf)), (am.sq, .inl (cJ, 256, .inr (.inl cm.qf))), (am.ch, .inl (cI, 8, .inl (nf cm.ck))), (am.vt, .inl (cI, 4, .inl cm.vf)), (am.sh, .inl (cI, 4, .inl (nf cm.sk))), (am.m0, .inr (7, [.int (0 : Int32), .int (nI cm.zs), .int (nI cm.rn), .ref am.rw, .int (nI cm.kn), .int (nI cm.rk), .int (nI cm.yn), .ref am.ry, .int (nI cm.sp), .int (nI cm.lg), .ref am.ti, .int (nI cm.fo), .int (nI cm.pt), .ref am.po, .ref am.su, .ref am.sq, .ref am.ch, .ref am.vt, .ref am.sh]))] H := hP
    have hD : va_D A [(am.rw, .inl (cI, 32, .inl cm.wf)), (am.ry, .inl (cI, 256, .inl cm.yf)), (am.ti, .inl (cI, 8, .inl cm.tf)), (am.po, .inl (cI, 4000, .inl cm.pf)), (am.su, .inl (cZ, 1000, .inl cm.sf)), (am.sq, .inl (cJ, 256, .inr (.inl cm.qf))), (am.ch, .inl (cI, 8, .inl (nf cm.ck))), (am.vt, .inl (cI, 4, .inl cm.vf)), (am.sh, .inl (cI, 4, .inl (nf cm.sk))), (am.m0, .inr (7, [.int (0 : Int32), .int (nI cm.zs), .int (nI cm.rn), .ref am.rw, .int (nI cm.kn), .int (nI cm.rk), .int (nI cm.yn), .ref am.ry, .int (nI cm.sp), .int (nI cm.lg), .ref am.ti, .int (nI cm.fo), .int (nI cm.pt), .ref am.po, .ref am.su, .ref am.sq, .ref am.ch, .ref am.vt, .ref am.sh]))] := hD
    obtain ⟨c_22, hc_22⟩ : ∃ x99 : MC, x99 = (MCmk (0 : Int32) cm.zs cm.rn cm.kn cm.rk cm.yn cm.sp cm.lg cm.fo cm.pt cm.wf cm.yf cm.tf cm.pf cm.sf cm.qf cm.ck cm.vf cm.sk) := ⟨_, rfl⟩
    have hP : va_P D kl [(am.rw, .inl (cI, 32, .inl c_22.wf)), (am.ry, .inl (cI, 256, .inl c_22.yf)), (am.ti, .inl (cI, 8, .inl c_22.tf)), (am.po, .inl (cI, 4000, .inl c_22.pf)), (am.su, .inl (cZ, 1000, .inl c_22.sf)), (am.sq, .inl (cJ, 256, .inr (.inl c_22.qf))), (am.ch, .inl (cI, 8, .inl (nf c_22.ck))), (am.vt, .inl (cI, 4, .inl c_22.vf)), (am.sh, .inl (cI, 4, .inl (nf c_22.sk))), (am.m0, .inr (7, [.int c_22.th, .int (nI c_22.zs), .int (nI c_22.rn), .ref am.rw, .int (nI c_22.kn), .int (nI c_22.rk), .int (nI c_22.yn), .ref am.ry, .int (nI c_22.sp), .int (nI c_22.lg), .ref am.ti, .int (nI c_22.fo), .int (nI c_22.pt), .ref am.po, .ref am.su, .ref am.sq, .ref am.ch, .ref am.vt, .ref am.sh]))] H := by subst hc_22; exact hP
    have hD : va_D A [(am.rw, .inl (cI, 32, .inl c_22.wf)), (am.ry, .inl (cI, 256, .inl c_22.yf)), (am.ti, .inl (cI, 8, .inl c_22.tf)), (am.po, .inl (cI, 4000, .inl c_22.pf)), (am.su, .inl (cZ, 1000, .inl c_22.sf)), (am.sq, .inl (cJ, 256, .inr (.inl c_22.qf))), (am.ch, .inl (cI, 8, .inl (nf c_22.ck))), (am.vt, .inl (cI, 4, .inl c_22.vf)), (am.sh, .inl (cI, 4, .inl (nf c_22.sk))), (am.m0, .inr (7, [.int c_22.th, .int (nI c_22.zs), .int (nI c_22.rn), .ref am.rw, .int (nI c_22.kn), .int (nI c_22.rk), .int (nI c_22.yn), .ref am.ry, .int (nI c_22.sp), .int (nI c_22.lg), .ref am.ti, .int (nI c_22.fo), .int (nI c_22.pt), .ref am.po, .ref am.su, .ref am.sq, .ref am.ch, .ref am.vt, .ref am.sh]))] := by subst hc_22; exact hD
    have hJ1 : MJ c_22 := by subst hc_22; exact hJ
    have hk1 : c_22.kn = 1 := by subst hc_22; exact (show cm.kn = 1 by omega)
    have hS1 : MS cm c_22 := by subst hc_22; exact ⟨rfl, rfl, rfl⟩
    have ht1 : c_22.th = (0 : Int32) := by subst hc_22; exact rfl
    have hz2 := hJ1.z2
    have hz4 := hJ1.z4
    have hr8 := hJ1.r8
    have hkn := hJ1.kn
    have hrk := hJ1.rk
    have hyn := hJ1.yn
    have hsp := hJ1.sp
    have hlg := hJ1.lg
    have hfo := hJ1.fo
    have hpt := hJ1.pt
    have hck := hJ1.ck
    have hsk := hJ1.sk
    have hro := hJ1.ro
    refine lv_iload_n hx hb d_M_look_9 rfl (lv_at hl 1 rfl) ?_
    refine lv_if_eq (tgt := 18) hx hb d_M_look_10 (by decide) (fun h_23 => ?_) (fun h_23 => ?_)
    · refine lv_iload_n hx hb d_M_look_18 rfl (lv_at hl 1 rfl) ?_
      refine lv_if_ne (tgt := 29) hx hb d_M_look_19 (by decide) (fun h99 => absurd h99 (by first | assumption | exact Int32.not_le.mpr (by assumption) | exact Int32.not_lt.mpr (by assumption) | exact Int32.not_le.mp (by assumption) | exact Int32.not_lt.mp (by assumption) | exact not_not_intro (by assumption))) (fun _ => ?_)
      refine lv_aload_n hx hb d_M_look_22 rfl (lv_at hl 0 rfl) ?_
      refine va_get (D := D) (ci := 7) (v := .int (nI c_22.zs)) (C := cn_M) (T := ft_M) (N := 19) hx hb hf_M (fun _ h => h) hown hK hP 9 rfl rfl 1 (by decide) (gw.at G hx0 mw_714 rfl _) (fun _ h9 => h9) rfl d_M_look_23 ?_
      refine lv_goto (tgt := 33) hx hb d_M_look_26 (by decide) ?_
      exact tx_mono (fun _ h => tx_Z.of h) (W.iret (v := nI c_22.zs) hx hb hr (fun t ht hW => ⟨⟨[(am.m0, .inr (7, [.int c_22.th, .int (nI c_22.zs), .int (nI c_22.rn), .ref am.rw, .int (nI c_22.kn), .int (nI c_22.rk), .int (nI c_22.yn), .ref am.ry, .int (nI c_22.sp), .int (nI c_22.lg), .ref am.ti, .int (nI c_22.fo), .int (nI c_22.pt), .ref am.po, .ref am.su, .ref am.sq, .ref am.ch, .ref am.vt, .ref am.sh])), (am.rw, .inl (cI, 32, .inl c_22.wf)), (am.ry, .inl (cI, 256, .inl c_22.yf)), (am.ti, .inl (cI, 8, .inl c_22.tf)), (am.po, .inl (cI, 4000, .inl c_22.pf)), (am.su, .inl (cZ, 1000, .inl c_22.sf)), (am.sq, .inl (cJ, 256, .inr (.inl c_22.qf))), (am.ch, .inl (cI, 8, .inl (nf c_22.ck))), (am.vt, .inl (cI, 4, .inl c_22.vf)), (am.sh, .inl (cI, 4, .inl (nf c_22.sk)))], ⟨c_22, (by unfold lkv; rw [if_pos h_23]), hJ1, hS1, hk1, ht1, rfl⟩, by rw [ht]; exact hP.sub [9, 0, 1, 2, 3, 4, 5, 6, 7, 8] rfl, hD.sub [9, 0, 1, 2, 3, 4, 5, 6, 7, 8] (by decide) rfl⟩, hS.F ht⟩) hS.2.2 d_M_look_33)
    · refine lv_iload_n hx hb d_M_look_13 rfl (lv_at hl 1 rfl) ?_
      refine lv_iconst (v := (1 : Int32)) hx hb d_M_look_14 (by decide) ?_
      refine lv_icmp_ne (tgt := 34) hx hb d_M_look_15 (by decide) (fun h_24 => ?_) (fun h_24 => ?_)
      · refine lv_iload_n hx hb d_M_look_34 rfl (lv_at hl 1 rfl) ?_
        refine lv_iconst (v := (2 : Int32)) hx hb d_M_look_35 (by decide) ?_
        refine lv_icmp_ne (tgt := 46) hx hb d_M_look_36 (by decide) (fun h_25 => ?_) (fun h_25 => ?_)
        · refine lv_iload_n hx hb d_M_look_46 rfl (lv_at hl 1 rfl) ?_
          refine lv_iconst (v := (3 : Int32)) hx hb d_M_look_47 (by decide) ?_
          refine lv_icmp_ne (tgt := 63) hx hb d_M_look_48 (by decide) (fun h_26 => ?_) (fun h_26 => ?_)
          · refine lv_iconst (v := (-1 : Int32)) hx hb d_M_look_63 (by decide) ?_
            exact tx_mono (fun _ h => tx_Z.of h) (W.iret (v := (-1 : Int32)) hx hb hr (fun t ht hW => ⟨⟨[(am.m0, .inr (7, [.int c_22.th, .int (nI c_22.zs), .int (nI c_22.rn), .ref am.rw, .int (nI c_22.kn), .int (nI c_22.rk), .int (nI c_22.yn), .ref am.ry, .int (nI c_22.sp), .int (nI c_22.lg), .ref am.ti, .int (nI c_22.fo), .int (nI c_22.pt), .ref am.po, .ref am.su, .ref am.sq, .ref am.ch, .ref am.vt, .ref am.sh])), (am.rw, .inl (cI, 32, .inl c_22.wf)), (am.ry, .inl (cI, 256, .inl c_22.yf)), (am.ti, .inl (cI, 8, .inl c_22.tf)), (am.po, .inl (cI, 4000, .inl c_22.pf)), (am.su, .inl (cZ, 1000, .inl c_22.sf)), (am.sq, .inl (cJ, 256, .inr (.inl c_22.qf))), (am.ch, .inl (cI, 8, .inl (nf c_22.ck))), (am.vt, .inl (cI, 4, .inl c_22.vf)), (am.sh, .inl (cI, 4, .inl (nf c_22.sk)))], ⟨c_22, (by unfold lkv; rw [if_neg h_23, if_neg h_24, if_neg h_25, if_neg h_26]), hJ1, hS1, hk1, ht1, rfl⟩, by rw [ht]; exact hP.sub [9, 0, 1, 2, 3, 4, 5, 6, 7, 8] rfl, hD.sub [9, 0, 1, 2, 3, 4, 5, 6, 7, 8] (by decide) rfl⟩, hS.F ht⟩) hS.2.2 d_M_look_64)
          · refine lv_aload_n hx hb d_M_look_51 rfl (lv_at hl 0 rfl) ?_
            refine va_get (D := D) (ci := 7) (v := .int (nI c_22.zs)) (C := cn_M) (T := ft_M) (N := 19) hx hb hf_M (fun _ h => h) hown hK hP 9 rfl rfl 1 (by decide) (gw.at G hx0 mw_714 rfl _) (fun _ h9 => h9) rfl d_M_look_52 ?_
            refine lv_aload_n hx hb d_M_look_55 rfl (lv_at hl 0 rfl) ?_
            refine va_get (D := D) (ci := 7) (v := .int (nI c_22.rk)) (C := cn_M) (T := ft_M) (N := 19) hx hb hf_M (fun _ h => h) hown hK hP 9 rfl rfl 5 (by decide) (gw.at G hx0 mw_718 rfl _) (fun _ h9 => h9) rfl d_M_look_56 ?_
            refine lv_isub hx hb d_M_look_59 ?_
            refine lv_goto (tgt := 64) hx hb d_M_look_60 (by decide) ?_
            exact tx_mono (fun _ h => tx_Z.of h) (W.iret (v := (nI c_22.zs) - (nI c_22.rk)) hx hb hr (fun t ht hW => ⟨⟨[(am.m0, .inr (7, [.int c_22.th, .int (nI c_22.zs), .int (nI c_22.rn), .ref am.rw, .int (nI c_22.kn), .int (nI c_22.rk), .int (nI c_22.yn), .ref am.ry, .int (nI c_22.sp), .int (nI c_22.lg), .ref am.ti, .int (nI c_22.fo), .int (nI c_22.pt), .ref am.po, .ref am.su, .ref am.sq, .ref am.ch, .ref am.vt, .ref am.sh])), (am.rw, .inl (cI, 32, .inl c_22.wf)), (am.ry, .inl (cI, 256, .inl c_22.yf)), (am.ti, .inl (cI, 8, .inl c_22.tf)), (am.po, .inl (cI, 4000, .inl c_22.pf)), (am.su, .inl (cZ, 1000, .inl c_22.sf)), (am.sq, .inl (cJ, 256, .inr (.inl c_22.qf))), (am.ch, .inl (cI, 8, .inl (nf c_22.ck))), (am.vt, .inl (cI, 4, .inl c_22.vf)), (am.sh, .inl (cI, 4, .inl (nf c_22.sk)))], ⟨c_22, (by unfold lkv; rw [if_neg h_23, if_neg h_24, if_neg h_25, if_pos h_26]), hJ1, hS1, hk1, ht1, rfl⟩, by rw [ht]; exact hP.sub [9, 0, 1, 2, 3, 4, 5, 6, 7, 8] rfl, hD.sub [9, 0, 1, 2, 3, 4, 5, 6, 7, 8] (by decide) rfl⟩, hS.F ht⟩) hS.2.2 d_M_look_64)
        · refine lv_aload_n hx hb d_M_look_39 rfl (lv_at hl 0 rfl) ?_
          refine va_get (D := D) (ci := 7) (v := .int (nI c_22.rk)) (C := cn_M) (T := ft_M) (N := 19) hx hb hf_M (fun _ h => h) hown hK hP 9 rfl rfl 5 (by decide) (gw.at G hx0 mw_718 rfl _) (fun _ h9 => h9) rfl d_M_look_40 ?_
          refine lv_goto (tgt := 64) hx hb d_M_look_43 (by decide) ?_
          exact tx_mono (fun _ h => tx_Z.of h) (W.iret (v := nI c_22.rk) hx hb hr (fun t ht hW => ⟨⟨[(am.m0, .inr (7, [.int c_22.th, .int (nI c_22.zs), .int (nI c_22.rn), .ref am.rw, .int (nI c_22.kn), .int (nI c_22.rk), .int (nI c_22.yn), .ref am.ry, .int (nI c_22.sp), .int (nI c_22.lg), .ref am.ti, .int (nI c_22.fo), .int (nI c_22.pt), .ref am.po, .ref am.su, .ref am.sq, .ref am.ch, .ref am.vt, .ref am.sh])), (am.rw, .inl (cI, 32, .inl c_22.wf)), (am.ry, .inl (cI, 256, .inl c_22.yf)), (am.ti, .inl (cI, 8, .inl c_22.tf)), (am.po, .inl (cI, 4000, .inl c_22.pf)), (am.su, .inl (cZ, 1000, .inl c_22.sf)), (am.sq, .inl (cJ, 256, .inr (.inl c_22.qf))), (am.ch, .inl (cI, 8, .inl (nf c_22.ck))), (am.vt, .inl (cI, 4, .inl c_22.vf)), (am.sh, .inl (cI, 4, .inl (nf c_22.sk)))], ⟨c_22, (by unfold lkv; rw [if_neg h_23, if_neg h_24, if_pos h_25]), hJ1, hS1, hk1, ht1, rfl⟩, by rw [ht]; exact hP.sub [9, 0, 1, 2, 3, 4, 5, 6, 7, 8] rfl, hD.sub [9, 0, 1, 2, 3, 4, 5, 6, 7, 8] (by decide) rfl⟩, hS.F ht⟩) hS.2.2 d_M_look_64)
      · refine lv_iload_n hx hb d_M_look_18 rfl (lv_at hl 1 rfl) ?_
        refine lv_if_ne (tgt := 29) hx hb d_M_look_19 (by decide) (fun _ => ?_) (fun h99 => absurd h99 (by first | assumption | exact Int32.not_le.mpr (by assumption) | exact Int32.not_lt.mpr (by assumption) | exact Int32.not_le.mp (by assumption) | exact Int32.not_lt.mp (by assumption) | exact not_not_intro (by assumption)))
        refine lv_aload_n hx hb d_M_look_29 rfl (lv_at hl 0 rfl) ?_
        refine va_get (D := D) (ci := 7) (v := .int (nI c_22.rn)) (C := cn_M) (T := ft_M) (N := 19) hx hb hf_M (fun _ h => h) hown hK hP 9 rfl rfl 2 (by decide) (gw.at G hx0 mw_715 rfl _) (fun _ h9 => h9) rfl d_M_look_30 ?_
        exact tx_mono (fun _ h => tx_Z.of h) (W.iret (v := nI c_22.rn) hx hb hr (fun t ht hW => ⟨⟨[(am.m0, .inr (7, [.int c_22.th, .int (nI c_22.zs), .int (nI c_22.rn), .ref am.rw, .int (nI c_22.kn), .int (nI c_22.rk), .int (nI c_22.yn), .ref am.ry, .int (nI c_22.sp), .int (nI c_22.lg), .ref am.ti, .int (nI c_22.fo), .int (nI c_22.pt), .ref am.po, .ref am.su, .ref am.sq, .ref am.ch, .ref am.vt, .ref am.sh])), (am.rw, .inl (cI, 32, .inl c_22.wf)), (am.ry, .inl (cI, 256, .inl c_22.yf)), (am.ti, .inl (cI, 8, .inl c_22.tf)), (am.po, .inl (cI, 4000, .inl c_22.pf)), (am.su, .inl (cZ, 1000, .inl c_22.sf)), (am.sq, .inl (cJ, 256, .inr (.inl c_22.qf))), (am.ch, .inl (cI, 8, .inl (nf c_22.ck))), (am.vt, .inl (cI, 4, .inl c_22.vf)), (am.sh, .inl (cI, 4, .inl (nf c_22.sk)))], ⟨c_22, (by unfold lkv; rw [if_neg h_23, if_pos h_24]), hJ1, hS1, hk1, ht1, rfl⟩, by rw [ht]; exact hP.sub [9, 0, 1, 2, 3, 4, 5, 6, 7, 8] rfl, hD.sub [9, 0, 1, 2, 3, 4, 5, 6, 7, 8] (by decide) rfl⟩, hS.F ht⟩) hS.2.2 d_M_look_33)

