/-! ===== own rows, laid by wip/tools/sym.py: tryRay ===== -/
def inC (pf : Nat → Int32) (ct : Nat) (g : Nat → Int32) : Prop := ∀ r, r < ct → ¬ pr4 pf r g < 0
noncomputable def drw_p (f : Nat → Int64) (z : Nat) (g : Nat → Int32) : Nat → Int32 := @ite _ (cdl f (lev (z - 1)) = 0) (Classical.propDecidable _) g (dirg_p f z g)
noncomputable def drw_m (f : Nat → Int64) (z : Nat) (g : Nat → Int32) : Nat → Int32 := @ite _ (cdl f (lev (z - 1)) = 0) (Classical.propDecidable _) g (dirg_m f z g)
noncomputable def trN (pf : Nat → Int32) (ct yn : Nat) (yf dg : Nat → Int32) : Nat := @ite _ (inC pf ct dg) (Classical.propDecidable _) (insN 12 yn yf dg) yn
noncomputable def trF (pf : Nat → Int32) (ct yn : Nat) (yf dg : Nat → Int32) : Nat → Int32 := @ite _ (inC pf ct dg) (Classical.propDecidable _) (insF 12 yn yf dg) yf
theorem trN_y {pf : Nat → Int32} {ct yn : Nat} {yf dg : Nat → Int32} (h : inC pf ct dg) : trN pf ct yn yf dg = insN 12 yn yf dg := @if_pos _ (Classical.propDecidable _) h _ _ _
theorem trN_n {pf : Nat → Int32} {ct yn : Nat} {yf dg : Nat → Int32} (h : ¬ inC pf ct dg) : trN pf ct yn yf dg = yn := @if_neg _ (Classical.propDecidable _) h _ _ _
theorem trF_y {pf : Nat → Int32} {ct yn : Nat} {yf dg : Nat → Int32} (h : inC pf ct dg) : trF pf ct yn yf dg = insF 12 yn yf dg := @if_pos _ (Classical.propDecidable _) h _ _ _
theorem trF_n {pf : Nat → Int32} {ct yn : Nat} {yf dg : Nat → Int32} (h : ¬ inC pf ct dg) : trF pf ct yn yf dg = yf := @if_neg _ (Classical.propDecidable _) h _ _ _
theorem trN_le {pf : Nat → Int32} {ct yn : Nat} {yf dg : Nat → Int32} (h : yn ≤ 12) : trN pf ct yn yf dg ≤ 12 := by
  by_cases hc : inC pf ct dg
  · rw [trN_y hc]; exact insN_le h
  · rw [trN_n hc]; exact h
theorem fold_lev (F : Int64 → Int64 → Int64) {f g : Nat → Int64} : ∀ (ms : List Nat) (d : Int64), (∀ m ∈ ms, f m = g m) → ms.foldl (fun d m => F d (f m)) d = ms.foldl (fun d m => F d (g m)) d
  | [], _, _ => rfl
  | m :: ms, d, h => by
    rw [List.foldl_cons, List.foldl_cons, h m List.mem_cons_self]
    exact fold_lev F ms _ (fun k hk => h k (List.mem_cons_of_mem _ hk))
theorem cdl_lev {f g : Nat → Int64} {j : Nat} (h : ∀ m ∈ lev j, f m = g m) : cdl f (lev j) = cdl g (lev j) := fold_lev (fun d x => cdv 100 d (labs x)) (lev j) 0 h
theorem dirc_lev {f g : Nat → Int64} {z i : Nat} {sg : Int32} (h : ∀ m ∈ lev (z - 1), f m = g m) (hm : (2 ^ z - 1) ^^^ 2 ^ i ∈ lev (z - 1)) : dirc f z sg i = dirc g z sg i := by
  unfold dirc
  rw [cdl_lev h, h _ hm]
theorem dirg_p_lev {f g : Nat → Int64} {z : Nat} {d : Nat → Int32} (hz2 : 2 ≤ z) (hz4 : z ≤ 4) (h : ∀ m ∈ lev (z - 1), f m = g m) : dirg_p f z d = dirg_p g z d := by
  rcases (show z = 2 ∨ z = 3 ∨ z = 4 by omega) with rfl | rfl | rfl
  · unfold dirg_p
    rw [if_pos rfl, if_pos rfl, dirc_lev (sg := 1) (z := 2) (i := 0) h (by decide), dirc_lev (sg := 1) (z := 2) (i := 1) h (by decide)]
  · unfold dirg_p
    rw [if_neg (show ¬ 3 = 2 by decide), if_neg (show ¬ 3 = 2 by decide), if_pos rfl, if_pos rfl, dirc_lev (sg := 1) (z := 3) (i := 0) h (by decide), dirc_lev (sg := 1) (z := 3) (i := 1) h (by decide), dirc_lev (sg := 1) (z := 3) (i := 2) h (by decide)]
  · unfold dirg_p
    rw [if_neg (show ¬ 4 = 2 by decide), if_neg (show ¬ 4 = 2 by decide), if_neg (show ¬ 4 = 3 by decide), if_neg (show ¬ 4 = 3 by decide), dirc_lev (sg := 1) (z := 4) (i := 0) h (by decide), dirc_lev (sg := 1) (z := 4) (i := 1) h (by decide), dirc_lev (sg := 1) (z := 4) (i := 2) h (by decide), dirc_lev (sg := 1) (z := 4) (i := 3) h (by decide)]
theorem dirg_m_lev {f g : Nat → Int64} {z : Nat} {d : Nat → Int32} (hz2 : 2 ≤ z) (hz4 : z ≤ 4) (h : ∀ m ∈ lev (z - 1), f m = g m) : dirg_m f z d = dirg_m g z d := by
  rcases (show z = 2 ∨ z = 3 ∨ z = 4 by omega) with rfl | rfl | rfl
  · unfold dirg_m
    rw [if_pos rfl, if_pos rfl, dirc_lev (sg := (-1)) (z := 2) (i := 0) h (by decide), dirc_lev (sg := (-1)) (z := 2) (i := 1) h (by decide)]
  · unfold dirg_m
    rw [if_neg (show ¬ 3 = 2 by decide), if_neg (show ¬ 3 = 2 by decide), if_pos rfl, if_pos rfl, dirc_lev (sg := (-1)) (z := 3) (i := 0) h (by decide), dirc_lev (sg := (-1)) (z := 3) (i := 1) h (by decide), dirc_lev (sg := (-1)) (z := 3) (i := 2) h (by decide)]
  · unfold dirg_m
    rw [if_neg (show ¬ 4 = 2 by decide), if_neg (show ¬ 4 = 2 by decide), if_neg (show ¬ 4 = 3 by decide), if_neg (show ¬ 4 = 3 by decide), dirc_lev (sg := (-1)) (z := 4) (i := 0) h (by decide), dirc_lev (sg := (-1)) (z := 4) (i := 1) h (by decide), dirc_lev (sg := (-1)) (z := 4) (i := 2) h (by decide), dirc_lev (sg := (-1)) (z := 4) (i := 3) h (by decide)]
theorem c_MI_drw_p {l : Launch} {s0 : State} {b0 : Addr} {D : va_G} {cI cJ cZ : ClassId} {tC tS : Nat} (E : gE l s0 b0 D cI cJ cZ tC tS) (sz : Nat) (mi : Nat) (cu : Nat) (nx : Nat) (cf : Nat → Int64) (ga : Nat) (g : Nat → Int32) (z : Nat) (hz2 : 2 ≤ z) (hz4 : z ≤ 4) : cx_M l s0 D kl y_MI_fillDirection b_MI_fillDirection 9 none ({ frames := 2, cells := 0, slots := 0, locals := 72 } : Room) 0 0 [.ref mi, .ref ga, .int (nI z), .int (1 : Int32)] [(mi, .inr (2, [.ref cu, .ref nx, .int (nI (z - 1))])), (cu, .inl (cJ, 16, .inr (.inl cf))), (ga, .inl (cI, 4, .inl g))] sz (fun o9 _ w9 => o9 = .returned none ∧ w9 = [(mi, .inr (2, [.ref cu, .ref nx, .int (nI (z - 1))])), (cu, .inl (cJ, 16, .inr (.inl cf))), (ga, .inl (cI, 4, .inl (drw_p cf z g)))]) := by
  by_cases hd : cdl cf (lev (z - 1)) = 0
  · have e : drw_p cf z g = g := @if_pos _ (Classical.propDecidable _) hd _ _ _
    rw [e]
    exact c_MI_dirg_0 E sz mi cu nx cf ga g z (1) hz2 hz4 hd
  · have e : drw_p cf z g = dirg_p cf z g := @if_neg _ (Classical.propDecidable _) hd _ _ _
    rw [e]
    exact c_MI_dirg_p E sz mi cu nx cf ga g z hz2 hz4 hd

theorem c_MI_drw_m {l : Launch} {s0 : State} {b0 : Addr} {D : va_G} {cI cJ cZ : ClassId} {tC tS : Nat} (E : gE l s0 b0 D cI cJ cZ tC tS) (sz : Nat) (mi : Nat) (cu : Nat) (nx : Nat) (cf : Nat → Int64) (ga : Nat) (g : Nat → Int32) (z : Nat) (hz2 : 2 ≤ z) (hz4 : z ≤ 4) : cx_M l s0 D kl y_MI_fillDirection b_MI_fillDirection 9 none ({ frames := 2, cells := 0, slots := 0, locals := 72 } : Room) 0 0 [.ref mi, .ref ga, .int (nI z), .int (-1 : Int32)] [(mi, .inr (2, [.ref cu, .ref nx, .int (nI (z - 1))])), (cu, .inl (cJ, 16, .inr (.inl cf))), (ga, .inl (cI, 4, .inl g))] sz (fun o9 _ w9 => o9 = .returned none ∧ w9 = [(mi, .inr (2, [.ref cu, .ref nx, .int (nI (z - 1))])), (cu, .inl (cJ, 16, .inr (.inl cf))), (ga, .inl (cI, 4, .inl (drw_m cf z g)))]) := by
  by_cases hd : cdl cf (lev (z - 1)) = 0
  · have e : drw_m cf z g = g := @if_pos _ (Classical.propDecidable _) hd _ _ _
    rw [e]
    exact c_MI_dirg_0 E sz mi cu nx cf ga g z (-1) hz2 hz4 hd
  · have e : drw_m cf z g = dirg_m cf z g := @if_neg _ (Classical.propDecidable _) hd _ _ _
    rw [e]
    exact c_MI_dirg_m E sz mi cu nx cf ga g z hz2 hz4 hd

set_option maxHeartbeats 4000000 in
set_option maxRecDepth 100000 in
theorem c_D_tryp_y {l : Launch} {s0 : State} {b0 : Addr} {D : va_G} {cI cJ cZ : ClassId} {tC tS : Nat} (E : gE l s0 b0 D cI cJ cZ tC tS) (sz : Nat) (d0 : Nat) (gv : Nat) (dr : Nat) (rl : Nat) (yl : Nat) (mi : Nat) (fl : Nat) (bf : Nat) (dm : Nat) (rk : Int32) (sp : Int32) (kn : Int32) (rc : Nat) (ct : Nat) (mo : Nat) (pz : Nat) (pf : Nat → Int32) (cu : Nat) (nx : Nat) (cf : Nat → Int64) (ya : Nat) (yn : Nat) (yf : Nat → Int32) (dg : Nat → Int32) (hpz : pz = mo * 4) (hmo : mo ≤ 107) (hct : ct ≤ mo) (hd2 : 2 ≤ dm) (hd4 : dm ≤ 4) (hyn : yn ≤ 12) (h : inC pf ct (drw_p cf dm dg)) : cx_M l s0 D kl y_D_tryRay b_D_tryRay 2 none ({ frames := 4, cells := 0, slots := 0, locals := 130 } : Room) 0 0 [.ref d0, .int (1 : Int32)] [(d0, .inr (0, [.int (nI dm), .ref gv, .ref dr, .ref rl, .ref yl, .ref mi, .ref fl, .ref bf, .int rk, .int sp, .int kn])), (rl, .inr (1, [.ref rc, .int (nI ct), .int (nI mo)])), (rc, .inl (cI, pz, .inl pf)), (mi, .inr (2, [.ref cu, .ref nx, .int (nI (dm - 1))])), (cu, .inl (cJ, 16, .inr (.inl cf))), (yl, .inr (1, [.ref ya, .int (nI yn), .int (12 : Int32)])), (ya, .inl (cI, 48, .inl yf)), (dr, .inl (cI, 4, .inl dg))] sz (fun o9 _ w9 => o9 = .returned none ∧ w9 = [(d0, .inr (0, [.int (nI dm), .ref gv, .ref dr, .ref rl, .ref yl, .ref mi, .ref fl, .ref bf, .int rk, .int sp, .int kn])), (rl, .inr (1, [.ref rc, .int (nI ct), .int (nI mo)])), (rc, .inl (cI, pz, .inl pf)), (mi, .inr (2, [.ref cu, .ref nx, .int (nI (dm - 1))])), (cu, .inl (cJ, 16, .inr (.inl cf))), (yl, .inr (1, [.ref ya, .int (nI (insN 12 yn yf (drw_p cf dm dg))), .int (12 : Int32)])), (ya, .inl (cI, 48, .inl (insF 12 yn yf (drw_p cf dm dg)))), (dr, .inl (cI, 4, .inl (drw_p cf dm dg)))]) := by
  refine tx_ofW (cc := b_D_tryRay) (maxL := 2) (ret := none) (by decide) rfl ?_
  intro p e s m args below meth c s₁ B hml hT hv
  obtain ⟨rfl, hsz, hP, hD0, hx0⟩ := hv
  have hx := B.exec
  have hb := B.bytes
  have hr := B.returns
  have G := E.2.1
  have hown : s.vm.findClass cn_D = some m.cls := findClass_of_methodNamed B.named
  have hlocks := B.notSynchronized
  have hK := va_K.moved hx0.1.alike E.2.2.1
  have hf_D : ∀ w99 ∈ u_ws cn_D ft_D 11, w99.before ([.ref d0, .int (1 : Int32)] : List Value).toArray s = true := fun w99 h99 => gw.at G hx0 (fw_D w99 h99) (fo_D w99 h99) _
  subst hsz
  have hA0 := cx_new hD0 hx0.2.1
  have hD := hD0.self (sz := s.heap.size)
  generalize hAe : va_A [(d0, .inr (0, [.int (nI dm), .ref gv, .ref dr, .ref rl, .ref yl, .ref mi, .ref fl, .ref bf, .int rk, .int sp, .int kn])), (rl, .inr (1, [.ref rc, .int (nI ct), .int (nI mo)])), (rc, .inl (cI, pz, .inl pf)), (mi, .inr (2, [.ref cu, .ref nx, .int (nI (dm - 1))])), (cu, .inl (cJ, 16, .inr (.inl cf))), (yl, .inr (1, [.ref ya, .int (nI yn), .int (12 : Int32)])), (ya, .inl (cI, 48, .inl yf)), (dr, .inl (cI, 4, .inl dg))] s.heap.size = A at hD hA0 ⊢
  have hA : ∀ q : Nat, s.heap.size ≤ q → A q := fun q h => by rw [← hAe]; exact Or.inr h
  have hS : va_S A s.heap s.heap [] := va_S.rf
  have hl := lv_entry ([.ref d0, .int (1 : Int32)]) (n := 2) (Nat.le_of_ble_eq_true rfl)
  rw [lg_entry_eq]
  generalize (lg_sl ([.ref d0, .int (1 : Int32)]) ++ List.replicate (2 - (lg_sl ([.ref d0, .int (1 : Int32)])).length) Slot.unset).toArray = ls at hl ⊢
  have hl : lv_has ls 2 [(0, .ref d0), (1, .int (1 : Int32))] := hl
  have hP : va_P D kl [(d0, .inr (0, [.int (nI dm), .ref gv, .ref dr, .ref rl, .ref yl, .ref mi, .ref fl, .ref bf, .int rk, .int sp, .int kn])), (rl, .inr (1, [.ref rc, .int (nI ct), .int (nI mo)])), (rc, .inl (cI, pz, .inl pf)), (mi, .inr (2, [.ref cu, .ref nx, .int (nI (dm - 1))])), (cu, .inl (cJ, 16, .inr (.inl cf))), (yl, .inr (1, [.ref ya, .int (nI yn), .int (12 : Int32)])), (ya, .inl (cI, 48, .inl yf)), (dr, .inl (cI, 4, .inl dg))] s.heap := hP
  have hml : c.maxLocals = 2 := hml
  refine lv_aload_n hx hb d_D_tryRay_0 rfl (lv_at hl 0 rfl) ?_
  refine va_get (D := D) (ci := 0) (v := .ref mi) (C := cn_D) (T := ft_D) (N := 11) hx hb hf_D (fun _ h => h) hown hK hP 0 rfl rfl 5 (by decide) (gw.at G hx0 mw_199 rfl _) (fun _ h9 => h9) rfl d_D_tryRay_1 ?_
  refine lv_aload_n hx hb d_D_tryRay_4 rfl (lv_at hl 0 rfl) ?_
  refine va_get (D := D) (ci := 0) (v := .ref dr) (C := cn_D) (T := ft_D) (N := 11) hx hb hf_D (fun _ h => h) hown hK hP 0 rfl rfl 2 (by decide) (gw.at G hx0 mw_196 rfl _) (fun _ h9 => h9) rfl d_D_tryRay_5 ?_
  refine lv_aload_n hx hb d_D_tryRay_8 rfl (lv_at hl 0 rfl) ?_
  refine va_get (D := D) (ci := 0) (v := .int (nI dm)) (C := cn_D) (T := ft_D) (N := 11) hx hb hf_D (fun _ h => h) hown hK hP 0 rfl rfl 0 (by decide) (gw.at G hx0 mw_194 rfl _) (fun _ h9 => h9) rfl d_D_tryRay_9 ?_
  refine lv_iload_n hx hb d_D_tryRay_12 rfl (lv_at hl 1 rfl) ?_
  refine cx_call (D := D) (cl := kl) (ws := _) (wc := [(mi, .inr (2, [.ref cu, .ref nx, .int (nI (dm - 1))])), (cu, .inl (cJ, 16, .inr (.inl cf))), (dr, .inl (cI, 4, .inl dg))]) (wr := [(d0, .inr (0, [.int (nI dm), .ref gv, .ref dr, .ref rl, .ref yl, .ref mi, .ref fl, .ref bf, .int rk, .int sp, .int kn])), (rl, .inr (1, [.ref rc, .int (nI ct), .int (nI mo)])), (rc, .inl (cI, pz, .inl pf)), (yl, .inr (1, [.ref ya, .int (nI yn), .int (12 : Int32)])), (ya, .inl (cI, 48, .inl yf))]) (tx_runV (C := cn_MI) (b := mi) (As := [.ref dr, .int (nI dm), .int (1 : Int32)]) (rest := []) hx hb hml hown (c_MI_drw_p E s.heap.size mi cu nx cf dr dg dm hd2 hd4) (cx_C (b0 := b0) G hx0 mw_457 mw_4 ny_MI_fillDirection (by decide)) (gw.at G hx0 mw_454 rfl _) (gw.at G hx0 mw_455 rfl _) (gw.at G hx0 mw_456 rfl _) ⟨cx_blind, va_recv hK hP (q0 := 3) (ci := 2) (q := (cn_MI, ft_MI, 3)) rfl rfl, (cx_pre (s := s) hx0 hP hD hS hA0 [3, 4, 7] rfl rfl (by decide))⟩ rfl rfl hl.1 rfl (lv_room (Nat.le_of_ble_eq_true rfl)) d_D_tryRay_13 ⟨by decide, by decide⟩) hP hD hS hA [3, 4, 7] [0, 1, 2, 5, 6] rfl rfl (by decide) (by decide) (fun v t w1 H locs ht hW9 hp hP hD hS => ?_) (fun x t w1 H locs ht hW9 hp hP hD hS => by obtain ⟨h9, -⟩ := hp; cases h9)
  obtain ⟨h9, rfl⟩ := hp
  cases h9
  refine W.eq (g2 := F0 m 16 ls []) rfl ?_
  refine W.widen (k := 0) (n := 0) (by decide) (by decide) ?_
  have hP : va_P D kl [(d0, .inr (0, [.int (nI dm), .ref gv, .ref dr, .ref rl, .ref yl, .ref mi, .ref fl, .ref bf, .int rk, .int sp, .int kn])), (rl, .inr (1, [.ref rc, .int (nI ct), .int (nI mo)])), (rc, .inl (cI, pz, .inl pf)), (yl, .inr (1, [.ref ya, .int (nI yn), .int (12 : Int32)])), (ya, .inl (cI, 48, .inl yf)), (mi, .inr (2, [.ref cu, .ref nx, .int (nI (dm - 1))])), (cu, .inl (cJ, 16, .inr (.inl cf))), (dr, .inl (cI, 4, .inl (drw_p cf dm dg)))] H := hP
  have hD : va_D A [(d0, .inr (0, [.int (nI dm), .ref gv, .ref dr, .ref rl, .ref yl, .ref mi, .ref fl, .ref bf, .int rk, .int sp, .int kn])), (rl, .inr (1, [.ref rc, .int (nI ct), .int (nI mo)])), (rc, .inl (cI, pz, .inl pf)), (yl, .inr (1, [.ref ya, .int (nI yn), .int (12 : Int32)])), (ya, .inl (cI, 48, .inl yf)), (mi, .inr (2, [.ref cu, .ref nx, .int (nI (dm - 1))])), (cu, .inl (cJ, 16, .inr (.inl cf))), (dr, .inl (cI, 4, .inl (drw_p cf dm dg)))] := hD
  refine lv_aload_n hx hb d_D_tryRay_16 rfl (lv_at hl 0 rfl) ?_
  refine lv_aload_n hx hb d_D_tryRay_17 rfl (lv_at hl 0 rfl) ?_
  refine va_get (D := D) (ci := 0) (v := .ref dr) (C := cn_D) (T := ft_D) (N := 11) hx hb hf_D (fun _ h => h) hown hK hP 0 rfl rfl 2 (by decide) (gw.at G hx0 mw_196 rfl _) (fun _ h9 => h9) rfl d_D_tryRay_18 ?_
  refine cx_call (D := D) (cl := kl) (ws := _) (wc := [(d0, .inr (0, [.int (nI dm), .ref gv, .ref dr, .ref rl, .ref yl, .ref mi, .ref fl, .ref bf, .int rk, .int sp, .int kn])), (rl, .inr (1, [.ref rc, .int (nI ct), .int (nI mo)])), (rc, .inl (cI, pz, .inl pf)), (dr, .inl (cI, 4, .inl (drw_p cf dm dg)))]) (wr := [(yl, .inr (1, [.ref ya, .int (nI yn), .int (12 : Int32)])), (ya, .inl (cI, 48, .inl yf)), (mi, .inr (2, [.ref cu, .ref nx, .int (nI (dm - 1))])), (cu, .inl (cJ, 16, .inr (.inl cf)))]) (tx_runV (C := cn_D) (b := d0) (As := [.ref dr]) (rest := []) hx hb hml hown (c_D_inCone_y E H.size d0 gv dr rl yl mi fl bf (nI dm) rk sp kn rc ct mo pz pf dr (drw_p cf dm dg) hpz hmo hct h) (cx_C (b0 := b0) G hx0 mw_243 mw_1 ny_D_isInCone (by decide)) (gw.at G hx0 mw_240 rfl _) (gw.at G hx0 mw_242 rfl _) (gw.at G hx0 ms_D_isInCone rfl _) ⟨cx_blind, va_recv hK hP (q0 := 0) (ci := 0) (q := (cn_D, ft_D, 11)) rfl rfl, (cx_pre (s := s) hx0 hP hD hS hA0 [0, 1, 2, 7] rfl rfl (by decide))⟩ rfl rfl hl.1 rfl (lv_room (Nat.le_of_ble_eq_true rfl)) d_D_tryRay_21 ⟨by decide, by decide⟩) hP hD hS hA [0, 1, 2, 7] [3, 4, 5, 6] rfl rfl (by decide) (by decide) (fun v t w1 H locs ht hW9 hp hP hD hS => ?_) (fun x t w1 H locs ht hW9 hp hP hD hS => by obtain ⟨h9, -⟩ := hp; cases h9)
  obtain ⟨h9, rfl⟩ := hp
  cases h9
  refine W.eq (g2 := F0 m 24 ls [.int (1 : Int32)]) rfl ?_
  refine W.widen (k := 0) (n := 0) (by decide) (by decide) ?_
  have hP : va_P D kl [(yl, .inr (1, [.ref ya, .int (nI yn), .int (12 : Int32)])), (ya, .inl (cI, 48, .inl yf)), (mi, .inr (2, [.ref cu, .ref nx, .int (nI (dm - 1))])), (cu, .inl (cJ, 16, .inr (.inl cf))), (d0, .inr (0, [.int (nI dm), .ref gv, .ref dr, .ref rl, .ref yl, .ref mi, .ref fl, .ref bf, .int rk, .int sp, .int kn])), (rl, .inr (1, [.ref rc, .int (nI ct), .int (nI mo)])), (rc, .inl (cI, pz, .inl pf)), (dr, .inl (cI, 4, .inl (drw_p cf dm dg)))] H := hP
  have hD : va_D A [(yl, .inr (1, [.ref ya, .int (nI yn), .int (12 : Int32)])), (ya, .inl (cI, 48, .inl yf)), (mi, .inr (2, [.ref cu, .ref nx, .int (nI (dm - 1))])), (cu, .inl (cJ, 16, .inr (.inl cf))), (d0, .inr (0, [.int (nI dm), .ref gv, .ref dr, .ref rl, .ref yl, .ref mi, .ref fl, .ref bf, .int rk, .int sp, .int kn])), (rl, .inr (1, [.ref rc, .int (nI ct), .int (nI mo)])), (rc, .inl (cI, pz, .inl pf)), (dr, .inl (cI, 4, .inl (drw_p cf dm dg)))] := hD
  refine lv_if_eq (tgt := 38) hx hb d_D_tryRay_24 (by decide) (fun h99 => absurd h99 (by decide)) (fun _ => ?_)
  refine lv_aload_n hx hb d_D_tryRay_27 rfl (lv_at hl 0 rfl) ?_
  refine va_get (D := D) (ci := 0) (v := .ref yl) (C := cn_D) (T := ft_D) (N := 11) hx hb hf_D (fun _ h => h) hown hK hP 4 rfl rfl 4 (by decide) (gw.at G hx0 mw_198 rfl _) (fun _ h9 => h9) rfl d_D_tryRay_28 ?_
  refine lv_aload_n hx hb d_D_tryRay_31 rfl (lv_at hl 0 rfl) ?_
  refine va_get (D := D) (ci := 0) (v := .ref dr) (C := cn_D) (T := ft_D) (N := 11) hx hb hf_D (fun _ h => h) hown hK hP 4 rfl rfl 2 (by decide) (gw.at G hx0 mw_196 rfl _) (fun _ h9 => h9) rfl d_D_tryRay_32 ?_
  refine cx_call (D := D) (cl := kl) (ws := _) (wc := [(yl, .inr (1, [.ref ya, .int (nI yn), .int (12 : Int32)])), (ya, .inl (cI, 48, .inl yf)), (dr, .inl (cI, 4, .inl (drw_p cf dm dg)))]) (wr := [(mi, .inr (2, [.ref cu, .ref nx, .int (nI (dm - 1))])), (cu, .inl (cJ, 16, .inr (.inl cf))), (d0, .inr (0, [.int (nI dm), .ref gv, .ref dr, .ref rl, .ref yl, .ref mi, .ref fl, .ref bf, .int rk, .int sp, .int kn])), (rl, .inr (1, [.ref rc, .int (nI ct), .int (nI mo)])), (rc, .inl (cI, pz, .inl pf))]) (tx_runV (C := cn_PL) (b := yl) (As := [.ref dr]) (rest := []) hx hb hml hown (c_PL_ins E H.size yl ya yn 12 48 yf dr (drw_p cf dm dg) (by decide) (by decide) hyn) (cx_C (b0 := b0) G hx0 mw_483 mw_3 ny_PL_insertInOrder (by decide)) (gw.at G hx0 mw_480 rfl _) (gw.at G hx0 mw_481 rfl _) (gw.at G hx0 mw_482 rfl _) ⟨cx_blind, va_recv hK hP (q0 := 0) (ci := 1) (q := (cn_PL, ft_PL, 3)) rfl rfl, (cx_pre (s := s) hx0 hP hD hS hA0 [0, 1, 7] rfl rfl (by decide))⟩ rfl rfl hl.1 rfl (lv_room (Nat.le_of_ble_eq_true rfl)) d_D_tryRay_35 ⟨by decide, by decide⟩) hP hD hS hA [0, 1, 7] [2, 3, 4, 5, 6] rfl rfl (by decide) (by decide) (fun v t w1 H locs ht hW9 hp hP hD hS => ?_) (fun x t w1 H locs ht hW9 hp hP hD hS => by obtain ⟨h9, -⟩ := hp; cases h9)
  obtain ⟨h9, rfl⟩ := hp
  cases h9
  refine W.eq (g2 := F0 m 38 ls []) rfl ?_
  refine W.widen (k := 0) (n := 0) (by decide) (by decide) ?_
  have hP : va_P D kl [(mi, .inr (2, [.ref cu, .ref nx, .int (nI (dm - 1))])), (cu, .inl (cJ, 16, .inr (.inl cf))), (d0, .inr (0, [.int (nI dm), .ref gv, .ref dr, .ref rl, .ref yl, .ref mi, .ref fl, .ref bf, .int rk, .int sp, .int kn])), (rl, .inr (1, [.ref rc, .int (nI ct), .int (nI mo)])), (rc, .inl (cI, pz, .inl pf)), (yl, .inr (1, [.ref ya, .int (nI (insN 12 yn yf (drw_p cf dm dg))), .int (12 : Int32)])), (ya, .inl (cI, 48, .inl (insF 12 yn yf (drw_p cf dm dg)))), (dr, .inl (cI, 4, .inl (drw_p cf dm dg)))] H := hP
  have hD : va_D A [(mi, .inr (2, [.ref cu, .ref nx, .int (nI (dm - 1))])), (cu, .inl (cJ, 16, .inr (.inl cf))), (d0, .inr (0, [.int (nI dm), .ref gv, .ref dr, .ref rl, .ref yl, .ref mi, .ref fl, .ref bf, .int rk, .int sp, .int kn])), (rl, .inr (1, [.ref rc, .int (nI ct), .int (nI mo)])), (rc, .inl (cI, pz, .inl pf)), (yl, .inr (1, [.ref ya, .int (nI (insN 12 yn yf (drw_p cf dm dg))), .int (12 : Int32)])), (ya, .inl (cI, 48, .inl (insF 12 yn yf (drw_p cf dm dg)))), (dr, .inl (cI, 4, .inl (drw_p cf dm dg)))] := hD
  exact tx_mono (fun _ h => tx_Z.of h) (W.vret hx hb hr (fun t ht hW => ⟨⟨[(d0, .inr (0, [.int (nI dm), .ref gv, .ref dr, .ref rl, .ref yl, .ref mi, .ref fl, .ref bf, .int rk, .int sp, .int kn])), (rl, .inr (1, [.ref rc, .int (nI ct), .int (nI mo)])), (rc, .inl (cI, pz, .inl pf)), (mi, .inr (2, [.ref cu, .ref nx, .int (nI (dm - 1))])), (cu, .inl (cJ, 16, .inr (.inl cf))), (yl, .inr (1, [.ref ya, .int (nI (insN 12 yn yf (drw_p cf dm dg))), .int (12 : Int32)])), (ya, .inl (cI, 48, .inl (insF 12 yn yf (drw_p cf dm dg)))), (dr, .inl (cI, 4, .inl (drw_p cf dm dg)))], ⟨rfl, rfl⟩, by rw [ht]; exact hP.sub [2, 3, 4, 0, 1, 5, 6, 7] rfl, hD.sub [2, 3, 4, 0, 1, 5, 6, 7] (by decide) rfl⟩, hS.F ht⟩) hS.2.2 d_D_tryRay_38)

set_option maxHeartbeats 4000000 in
set_option maxRecDepth 100000 in
theorem c_D_tryp_n {l : Launch} {s0 : State} {b0 : Addr} {D : va_G} {cI cJ cZ : ClassId} {tC tS : Nat} (E : gE l s0 b0 D cI cJ cZ tC tS) (sz : Nat) (d0 : Nat) (gv : Nat) (dr : Nat) (rl : Nat) (yl : Nat) (mi : Nat) (fl : Nat) (bf : Nat) (dm : Nat) (rk : Int32) (sp : Int32) (kn : Int32) (rc : Nat) (ct : Nat) (mo : Nat) (pz : Nat) (pf : Nat → Int32) (cu : Nat) (nx : Nat) (cf : Nat → Int64) (ya : Nat) (yn : Nat) (yf : Nat → Int32) (dg : Nat → Int32) (hpz : pz = mo * 4) (hmo : mo ≤ 107) (hct : ct ≤ mo) (hd2 : 2 ≤ dm) (hd4 : dm ≤ 4) (hyn : yn ≤ 12) (h : ¬ inC pf ct (drw_p cf dm dg)) : cx_M l s0 D kl y_D_tryRay b_D_tryRay 2 none ({ frames := 4, cells := 0, slots := 0, locals := 130 } : Room) 0 0 [.ref d0, .int (1 : Int32)] [(d0, .inr (0, [.int (nI dm), .ref gv, .ref dr, .ref rl, .ref yl, .ref mi, .ref fl, .ref bf, .int rk, .int sp, .int kn])), (rl, .inr (1, [.ref rc, .int (nI ct), .int (nI mo)])), (rc, .inl (cI, pz, .inl pf)), (mi, .inr (2, [.ref cu, .ref nx, .int (nI (dm - 1))])), (cu, .inl (cJ, 16, .inr (.inl cf))), (yl, .inr (1, [.ref ya, .int (nI yn), .int (12 : Int32)])), (ya, .inl (cI, 48, .inl yf)), (dr, .inl (cI, 4, .inl dg))] sz (fun o9 _ w9 => o9 = .returned none ∧ w9 = [(d0, .inr (0, [.int (nI dm), .ref gv, .ref dr, .ref rl, .ref yl, .ref mi, .ref fl, .ref bf, .int rk, .int sp, .int kn])), (rl, .inr (1, [.ref rc, .int (nI ct), .int (nI mo)])), (rc, .inl (cI, pz, .inl pf)), (mi, .inr (2, [.ref cu, .ref nx, .int (nI (dm - 1))])), (cu, .inl (cJ, 16, .inr (.inl cf))), (yl, .inr (1, [.ref ya, .int (nI yn), .int (12 : Int32)])), (ya, .inl (cI, 48, .inl yf)), (dr, .inl (cI, 4, .inl (drw_p cf dm dg)))]) := by
  refine tx_ofW (cc := b_D_tryRay) (maxL := 2) (ret := none) (by decide) rfl ?_
  intro p e s m args below meth c s₁ B hml hT hv
  obtain ⟨rfl, hsz, hP, hD0, hx0⟩ := hv
  have hx := B.exec
  have hb := B.bytes
  have hr := B.returns
  have G := E.2.1
  have hown : s.vm.findClass cn_D = some m.cls := findClass_of_methodNamed B.named
  have hlocks := B.notSynchronized
  have hK := va_K.moved hx0.1.alike E.2.2.1
  have hf_D : ∀ w99 ∈ u_ws cn_D ft_D 11, w99.before ([.ref d0, .int (1 : Int32)] : List Value).toArray s = true := fun w99 h99 => gw.at G hx0 (fw_D w99 h99) (fo_D w99 h99) _
  subst hsz
  have hA0 := cx_new hD0 hx0.2.1
  have hD := hD0.self (sz := s.heap.size)
  generalize hAe : va_A [(d0, .inr (0, [.int (nI dm), .ref gv, .ref dr, .ref rl, .ref yl, .ref mi, .ref fl, .ref bf, .int rk, .int sp, .int kn])), (rl, .inr (1, [.ref rc, .int (nI ct), .int (nI mo)])), (rc, .inl (cI, pz, .inl pf)), (mi, .inr (2, [.ref cu, .ref nx, .int (nI (dm - 1))])), (cu, .inl (cJ, 16, .inr (.inl cf))), (yl, .inr (1, [.ref ya, .int (nI yn), .int (12 : Int32)])), (ya, .inl (cI, 48, .inl yf)), (dr, .inl (cI, 4, .inl dg))] s.heap.size = A at hD hA0 ⊢
  have hA : ∀ q : Nat, s.heap.size ≤ q → A q := fun q h => by rw [← hAe]; exact Or.inr h
  have hS : va_S A s.heap s.heap [] := va_S.rf
  have hl := lv_entry ([.ref d0, .int (1 : Int32)]) (n := 2) (Nat.le_of_ble_eq_true rfl)
  rw [lg_entry_eq]
  generalize (lg_sl ([.ref d0, .int (1 : Int32)]) ++ List.replicate (2 - (lg_sl ([.ref d0, .int (1 : Int32)])).length) Slot.unset).toArray = ls at hl ⊢
  have hl : lv_has ls 2 [(0, .ref d0), (1, .int (1 : Int32))] := hl
  have hP : va_P D kl [(d0, .inr (0, [.int (nI dm), .ref gv, .ref dr, .ref rl, .ref yl, .ref mi, .ref fl, .ref bf, .int rk, .int sp, .int kn])), (rl, .inr (1, [.ref rc, .int (nI ct), .int (nI mo)])), (rc, .inl (cI, pz, .inl pf)), (mi, .inr (2, [.ref cu, .ref nx, .int (nI (dm - 1))])), (cu, .inl (cJ, 16, .inr (.inl cf))), (yl, .inr (1, [.ref ya, .int (nI yn), .int (12 : Int32)])), (ya, .inl (cI, 48, .inl yf)), (dr, .inl (cI, 4, .inl dg))] s.heap := hP
  have hml : c.maxLocals = 2 := hml
  refine lv_aload_n hx hb d_D_tryRay_0 rfl (lv_at hl 0 rfl) ?_
  refine va_get (D := D) (ci := 0) (v := .ref mi) (C := cn_D) (T := ft_D) (N := 11) hx hb hf_D (fun _ h => h) hown hK hP 0 rfl rfl 5 (by decide) (gw.at G hx0 mw_199 rfl _) (fun _ h9 => h9) rfl d_D_tryRay_1 ?_
  refine lv_aload_n hx hb d_D_tryRay_4 rfl (lv_at hl 0 rfl) ?_
  refine va_get (D := D) (ci := 0) (v := .ref dr) (C := cn_D) (T := ft_D) (N := 11) hx hb hf_D (fun _ h => h) hown hK hP 0 rfl rfl 2 (by decide) (gw.at G hx0 mw_196 rfl _) (fun _ h9 => h9) rfl d_D_tryRay_5 ?_
  refine lv_aload_n hx hb d_D_tryRay_8 rfl (lv_at hl 0 rfl) ?_
  refine va_get (D := D) (ci := 0) (v := .int (nI dm)) (C := cn_D) (T := ft_D) (N := 11) hx hb hf_D (fun _ h => h) hown hK hP 0 rfl rfl 0 (by decide) (gw.at G hx0 mw_194 rfl _) (fun _ h9 => h9) rfl d_D_tryRay_9 ?_
  refine lv_iload_n hx hb d_D_tryRay_12 rfl (lv_at hl 1 rfl) ?_
  refine cx_call (D := D) (cl := kl) (ws := _) (wc := [(mi, .inr (2, [.ref cu, .ref nx, .int (nI (dm - 1))])), (cu, .inl (cJ, 16, .inr (.inl cf))), (dr, .inl (cI, 4, .inl dg))]) (wr := [(d0, .inr (0, [.int (nI dm), .ref gv, .ref dr, .ref rl, .ref yl, .ref mi, .ref fl, .ref bf, .int rk, .int sp, .int kn])), (rl, .inr (1, [.ref rc, .int (nI ct), .int (nI mo)])), (rc, .inl (cI, pz, .inl pf)), (yl, .inr (1, [.ref ya, .int (nI yn), .int (12 : Int32)])), (ya, .inl (cI, 48, .inl yf))]) (tx_runV (C := cn_MI) (b := mi) (As := [.ref dr, .int (nI dm), .int (1 : Int32)]) (rest := []) hx hb hml hown (c_MI_drw_p E s.heap.size mi cu nx cf dr dg dm hd2 hd4) (cx_C (b0 := b0) G hx0 mw_457 mw_4 ny_MI_fillDirection (by decide)) (gw.at G hx0 mw_454 rfl _) (gw.at G hx0 mw_455 rfl _) (gw.at G hx0 mw_456 rfl _) ⟨cx_blind, va_recv hK hP (q0 := 3) (ci := 2) (q := (cn_MI, ft_MI, 3)) rfl rfl, (cx_pre (s := s) hx0 hP hD hS hA0 [3, 4, 7] rfl rfl (by decide))⟩ rfl rfl hl.1 rfl (lv_room (Nat.le_of_ble_eq_true rfl)) d_D_tryRay_13 ⟨by decide, by decide⟩) hP hD hS hA [3, 4, 7] [0, 1, 2, 5, 6] rfl rfl (by decide) (by decide) (fun v t w1 H locs ht hW9 hp hP hD hS => ?_) (fun x t w1 H locs ht hW9 hp hP hD hS => by obtain ⟨h9, -⟩ := hp; cases h9)
  obtain ⟨h9, rfl⟩ := hp
  cases h9
  refine W.eq (g2 := F0 m 16 ls []) rfl ?_
  refine W.widen (k := 0) (n := 0) (by decide) (by decide) ?_
  have hP : va_P D kl [(d0, .inr (0, [.int (nI dm), .ref gv, .ref dr, .ref rl, .ref yl, .ref mi, .ref fl, .ref bf, .int rk, .int sp, .int kn])), (rl, .inr (1, [.ref rc, .int (nI ct), .int (nI mo)])), (rc, .inl (cI, pz, .inl pf)), (yl, .inr (1, [.ref ya, .int (nI yn), .int (12 : Int32)])), (ya, .inl (cI, 48, .inl yf)), (mi, .inr (2, [.ref cu, .ref nx, .int (nI (dm - 1))])), (cu, .inl (cJ, 16, .inr (.inl cf))), (dr, .inl (cI, 4, .inl (drw_p cf dm dg)))] H := hP
  have hD : va_D A [(d0, .inr (0, [.int (nI dm), .ref gv, .ref dr, .ref rl, .ref yl, .ref mi, .ref fl, .ref bf, .int rk, .int sp, .int kn])), (rl, .inr (1, [.ref rc, .int (nI ct), .int (nI mo)])), (rc, .inl (cI, pz, .inl pf)), (yl, .inr (1, [.ref ya, .int (nI yn), .int (12 : Int32)])), (ya, .inl (cI, 48, .inl yf)), (mi, .inr (2, [.ref cu, .ref nx, .int (nI (dm - 1))])), (cu, .inl (cJ, 16, .inr (.inl cf))), (dr, .inl (cI, 4, .inl (drw_p cf dm dg)))] := hD
  refine lv_aload_n hx hb d_D_tryRay_16 rfl (lv_at hl 0 rfl) ?_
  refine lv_aload_n hx hb d_D_tryRay_17 rfl (lv_at hl 0 rfl) ?_
  refine va_get (D := D) (ci := 0) (v := .ref dr) (C := cn_D) (T := ft_D) (N := 11) hx hb hf_D (fun _ h => h) hown hK hP 0 rfl rfl 2 (by decide) (gw.at G hx0 mw_196 rfl _) (fun _ h9 => h9) rfl d_D_tryRay_18 ?_
  refine cx_call (D := D) (cl := kl) (ws := _) (wc := [(d0, .inr (0, [.int (nI dm), .ref gv, .ref dr, .ref rl, .ref yl, .ref mi, .ref fl, .ref bf, .int rk, .int sp, .int kn])), (rl, .inr (1, [.ref rc, .int (nI ct), .int (nI mo)])), (rc, .inl (cI, pz, .inl pf)), (dr, .inl (cI, 4, .inl (drw_p cf dm dg)))]) (wr := [(yl, .inr (1, [.ref ya, .int (nI yn), .int (12 : Int32)])), (ya, .inl (cI, 48, .inl yf)), (mi, .inr (2, [.ref cu, .ref nx, .int (nI (dm - 1))])), (cu, .inl (cJ, 16, .inr (.inl cf)))]) (tx_runV (C := cn_D) (b := d0) (As := [.ref dr]) (rest := []) hx hb hml hown (c_D_inCone_n E H.size d0 gv dr rl yl mi fl bf (nI dm) rk sp kn rc ct mo pz pf dr (drw_p cf dm dg) hpz hmo hct h) (cx_C (b0 := b0) G hx0 mw_243 mw_1 ny_D_isInCone (by decide)) (gw.at G hx0 mw_240 rfl _) (gw.at G hx0 mw_242 rfl _) (gw.at G hx0 ms_D_isInCone rfl _) ⟨cx_blind, va_recv hK hP (q0 := 0) (ci := 0) (q := (cn_D, ft_D, 11)) rfl rfl, (cx_pre (s := s) hx0 hP hD hS hA0 [0, 1, 2, 7] rfl rfl (by decide))⟩ rfl rfl hl.1 rfl (lv_room (Nat.le_of_ble_eq_true rfl)) d_D_tryRay_21 ⟨by decide, by decide⟩) hP hD hS hA [0, 1, 2, 7] [3, 4, 5, 6] rfl rfl (by decide) (by decide) (fun v t w1 H locs ht hW9 hp hP hD hS => ?_) (fun x t w1 H locs ht hW9 hp hP hD hS => by obtain ⟨h9, -⟩ := hp; cases h9)
  obtain ⟨h9, rfl⟩ := hp
  cases h9
  refine W.eq (g2 := F0 m 24 ls [.int (0 : Int32)]) rfl ?_
  refine W.widen (k := 0) (n := 0) (by decide) (by decide) ?_
  have hP : va_P D kl [(yl, .inr (1, [.ref ya, .int (nI yn), .int (12 : Int32)])), (ya, .inl (cI, 48, .inl yf)), (mi, .inr (2, [.ref cu, .ref nx, .int (nI (dm - 1))])), (cu, .inl (cJ, 16, .inr (.inl cf))), (d0, .inr (0, [.int (nI dm), .ref gv, .ref dr, .ref rl, .ref yl, .ref mi, .ref fl, .ref bf, .int rk, .int sp, .int kn])), (rl, .inr (1, [.ref rc, .int (nI ct), .int (nI mo)])), (rc, .inl (cI, pz, .inl pf)), (dr, .inl (cI, 4, .inl (drw_p cf dm dg)))] H := hP
  have hD : va_D A [(yl, .inr (1, [.ref ya, .int (nI yn), .int (12 : Int32)])), (ya, .inl (cI, 48, .inl yf)), (mi, .inr (2, [.ref cu, .ref nx, .int (nI (dm - 1))])), (cu, .inl (cJ, 16, .inr (.inl cf))), (d0, .inr (0, [.int (nI dm), .ref gv, .ref dr, .ref rl, .ref yl, .ref mi, .ref fl, .ref bf, .int rk, .int sp, .int kn])), (rl, .inr (1, [.ref rc, .int (nI ct), .int (nI mo)])), (rc, .inl (cI, pz, .inl pf)), (dr, .inl (cI, 4, .inl (drw_p cf dm dg)))] := hD
  refine lv_if_eq (tgt := 38) hx hb d_D_tryRay_24 (by decide) (fun _ => ?_) (fun h99 => absurd h99 (by decide))
  exact tx_mono (fun _ h => tx_Z.of h) (W.vret hx hb hr (fun t ht hW => ⟨⟨[(d0, .inr (0, [.int (nI dm), .ref gv, .ref dr, .ref rl, .ref yl, .ref mi, .ref fl, .ref bf, .int rk, .int sp, .int kn])), (rl, .inr (1, [.ref rc, .int (nI ct), .int (nI mo)])), (rc, .inl (cI, pz, .inl pf)), (mi, .inr (2, [.ref cu, .ref nx, .int (nI (dm - 1))])), (cu, .inl (cJ, 16, .inr (.inl cf))), (yl, .inr (1, [.ref ya, .int (nI yn), .int (12 : Int32)])), (ya, .inl (cI, 48, .inl yf)), (dr, .inl (cI, 4, .inl (drw_p cf dm dg)))], ⟨rfl, rfl⟩, by rw [ht]; exact hP.sub [4, 5, 6, 2, 3, 0, 1, 7] rfl, hD.sub [4, 5, 6, 2, 3, 0, 1, 7] (by decide) rfl⟩, hS.F ht⟩) hS.2.2 d_D_tryRay_38)

theorem c_D_tryp {l : Launch} {s0 : State} {b0 : Addr} {D : va_G} {cI cJ cZ : ClassId} {tC tS : Nat} (E : gE l s0 b0 D cI cJ cZ tC tS) (sz : Nat) (d0 : Nat) (gv : Nat) (dr : Nat) (rl : Nat) (yl : Nat) (mi : Nat) (fl : Nat) (bf : Nat) (dm : Nat) (rk : Int32) (sp : Int32) (kn : Int32) (rc : Nat) (ct : Nat) (mo : Nat) (pz : Nat) (pf : Nat → Int32) (cu : Nat) (nx : Nat) (cf : Nat → Int64) (ya : Nat) (yn : Nat) (yf : Nat → Int32) (dg : Nat → Int32) (hpz : pz = mo * 4) (hmo : mo ≤ 107) (hct : ct ≤ mo) (hd2 : 2 ≤ dm) (hd4 : dm ≤ 4) (hyn : yn ≤ 12) : cx_M l s0 D kl y_D_tryRay b_D_tryRay 2 none ({ frames := 4, cells := 0, slots := 0, locals := 130 } : Room) 0 0 [.ref d0, .int (1 : Int32)] [(d0, .inr (0, [.int (nI dm), .ref gv, .ref dr, .ref rl, .ref yl, .ref mi, .ref fl, .ref bf, .int rk, .int sp, .int kn])), (rl, .inr (1, [.ref rc, .int (nI ct), .int (nI mo)])), (rc, .inl (cI, pz, .inl pf)), (mi, .inr (2, [.ref cu, .ref nx, .int (nI (dm - 1))])), (cu, .inl (cJ, 16, .inr (.inl cf))), (yl, .inr (1, [.ref ya, .int (nI yn), .int (12 : Int32)])), (ya, .inl (cI, 48, .inl yf)), (dr, .inl (cI, 4, .inl dg))] sz (fun o9 _ w9 => o9 = .returned none ∧ w9 = [(d0, .inr (0, [.int (nI dm), .ref gv, .ref dr, .ref rl, .ref yl, .ref mi, .ref fl, .ref bf, .int rk, .int sp, .int kn])), (rl, .inr (1, [.ref rc, .int (nI ct), .int (nI mo)])), (rc, .inl (cI, pz, .inl pf)), (mi, .inr (2, [.ref cu, .ref nx, .int (nI (dm - 1))])), (cu, .inl (cJ, 16, .inr (.inl cf))), (yl, .inr (1, [.ref ya, .int (nI (trN pf ct yn yf (drw_p cf dm dg))), .int (12 : Int32)])), (ya, .inl (cI, 48, .inl (trF pf ct yn yf (drw_p cf dm dg)))), (dr, .inl (cI, 4, .inl (drw_p cf dm dg)))]) := by
  by_cases hc : inC pf ct (drw_p cf dm dg)
  · rw [trN_y hc, trF_y hc]
    exact c_D_tryp_y E sz d0 gv dr rl yl mi fl bf dm rk sp kn rc ct mo pz pf cu nx cf ya yn yf dg hpz hmo hct hd2 hd4 hyn hc
  · rw [trN_n hc, trF_n hc]
    exact c_D_tryp_n E sz d0 gv dr rl yl mi fl bf dm rk sp kn rc ct mo pz pf cu nx cf ya yn yf dg hpz hmo hct hd2 hd4 hyn hc

set_option maxHeartbeats 4000000 in
set_option maxRecDepth 100000 in
theorem c_D_trym_y {l : Launch} {s0 : State} {b0 : Addr} {D : va_G} {cI cJ cZ : ClassId} {tC tS : Nat} (E : gE l s0 b0 D cI cJ cZ tC tS) (sz : Nat) (d0 : Nat) (gv : Nat) (dr : Nat) (rl : Nat) (yl : Nat) (mi : Nat) (fl : Nat) (bf : Nat) (dm : Nat) (rk : Int32) (sp : Int32) (kn : Int32) (rc : Nat) (ct : Nat) (mo : Nat) (pz : Nat) (pf : Nat → Int32) (cu : Nat) (nx : Nat) (cf : Nat → Int64) (ya : Nat) (yn : Nat) (yf : Nat → Int32) (dg : Nat → Int32) (hpz : pz = mo * 4) (hmo : mo ≤ 107) (hct : ct ≤ mo) (hd2 : 2 ≤ dm) (hd4 : dm ≤ 4) (hyn : yn ≤ 12) (h : inC pf ct (drw_m cf dm dg)) : cx_M l s0 D kl y_D_tryRay b_D_tryRay 2 none ({ frames := 4, cells := 0, slots := 0, locals := 130 } : Room) 0 0 [.ref d0, .int (-1 : Int32)] [(d0, .inr (0, [.int (nI dm), .ref gv, .ref dr, .ref rl, .ref yl, .ref mi, .ref fl, .ref bf, .int rk, .int sp, .int kn])), (rl, .inr (1, [.ref rc, .int (nI ct), .int (nI mo)])), (rc, .inl (cI, pz, .inl pf)), (mi, .inr (2, [.ref cu, .ref nx, .int (nI (dm - 1))])), (cu, .inl (cJ, 16, .inr (.inl cf))), (yl, .inr (1, [.ref ya, .int (nI yn), .int (12 : Int32)])), (ya, .inl (cI, 48, .inl yf)), (dr, .inl (cI, 4, .inl dg))] sz (fun o9 _ w9 => o9 = .returned none ∧ w9 = [(d0, .inr (0, [.int (nI dm), .ref gv, .ref dr, .ref rl, .ref yl, .ref mi, .ref fl, .ref bf, .int rk, .int sp, .int kn])), (rl, .inr (1, [.ref rc, .int (nI ct), .int (nI mo)])), (rc, .inl (cI, pz, .inl pf)), (mi, .inr (2, [.ref cu, .ref nx, .int (nI (dm - 1))])), (cu, .inl (cJ, 16, .inr (.inl cf))), (yl, .inr (1, [.ref ya, .int (nI (insN 12 yn yf (drw_m cf dm dg))), .int (12 : Int32)])), (ya, .inl (cI, 48, .inl (insF 12 yn yf (drw_m cf dm dg)))), (dr, .inl (cI, 4, .inl (drw_m cf dm dg)))]) := by
  refine tx_ofW (cc := b_D_tryRay) (maxL := 2) (ret := none) (by decide) rfl ?_
  intro p e s m args below meth c s₁ B hml hT hv
  obtain ⟨rfl, hsz, hP, hD0, hx0⟩ := hv
  have hx := B.exec
  have hb := B.bytes
  have hr := B.returns
  have G := E.2.1
  have hown : s.vm.findClass cn_D = some m.cls := findClass_of_methodNamed B.named
  have hlocks := B.notSynchronized
  have hK := va_K.moved hx0.1.alike E.2.2.1
  have hf_D : ∀ w99 ∈ u_ws cn_D ft_D 11, w99.before ([.ref d0, .int (-1 : Int32)] : List Value).toArray s = true := fun w99 h99 => gw.at G hx0 (fw_D w99 h99) (fo_D w99 h99) _
  subst hsz
  have hA0 := cx_new hD0 hx0.2.1
  have hD := hD0.self (sz := s.heap.size)
  generalize hAe : va_A [(d0, .inr (0, [.int (nI dm), .ref gv, .ref dr, .ref rl, .ref yl, .ref mi, .ref fl, .ref bf, .int rk, .int sp, .int kn])), (rl, .inr (1, [.ref rc, .int (nI ct), .int (nI mo)])), (rc, .inl (cI, pz, .inl pf)), (mi, .inr (2, [.ref cu, .ref nx, .int (nI (dm - 1))])), (cu, .inl (cJ, 16, .inr (.inl cf))), (yl, .inr (1, [.ref ya, .int (nI yn), .int (12 : Int32)])), (ya, .inl (cI, 48, .inl yf)), (dr, .inl (cI, 4, .inl dg))] s.heap.size = A at hD hA0 ⊢
  have hA : ∀ q : Nat, s.heap.size ≤ q → A q := fun q h => by rw [← hAe]; exact Or.inr h
  have hS : va_S A s.heap s.heap [] := va_S.rf
  have hl := lv_entry ([.ref d0, .int (-1 : Int32)]) (n := 2) (Nat.le_of_ble_eq_true rfl)
  rw [lg_entry_eq]
  generalize (lg_sl ([.ref d0, .int (-1 : Int32)]) ++ List.replicate (2 - (lg_sl ([.ref d0, .int (-1 : Int32)])).length) Slot.unset).toArray = ls at hl ⊢
  have hl : lv_has ls 2 [(0, .ref d0), (1, .int (-1 : Int32))] := hl
  have hP : va_P D kl [(d0, .inr (0, [.int (nI dm), .ref gv, .ref dr, .ref rl, .ref yl, .ref mi, .ref fl, .ref bf, .int rk, .int sp, .int kn])), (rl, .inr (1, [.ref rc, .int (nI ct), .int (nI mo)])), (rc, .inl (cI, pz, .inl pf)), (mi, .inr (2, [.ref cu, .ref nx, .int (nI (dm - 1))])), (cu, .inl (cJ, 16, .inr (.inl cf))), (yl, .inr (1, [.ref ya, .int (nI yn), .int (12 : Int32)])), (ya, .inl (cI, 48, .inl yf)), (dr, .inl (cI, 4, .inl dg))] s.heap := hP
  have hml : c.maxLocals = 2 := hml
  refine lv_aload_n hx hb d_D_tryRay_0 rfl (lv_at hl 0 rfl) ?_
  refine va_get (D := D) (ci := 0) (v := .ref mi) (C := cn_D) (T := ft_D) (N := 11) hx hb hf_D (fun _ h => h) hown hK hP 0 rfl rfl 5 (by decide) (gw.at G hx0 mw_199 rfl _) (fun _ h9 => h9) rfl d_D_tryRay_1 ?_
  refine lv_aload_n hx hb d_D_tryRay_4 rfl (lv_at hl 0 rfl) ?_
  refine va_get (D := D) (ci := 0) (v := .ref dr) (C := cn_D) (T := ft_D) (N := 11) hx hb hf_D (fun _ h => h) hown hK hP 0 rfl rfl 2 (by decide) (gw.at G hx0 mw_196 rfl _) (fun _ h9 => h9) rfl d_D_tryRay_5 ?_
  refine lv_aload_n hx hb d_D_tryRay_8 rfl (lv_at hl 0 rfl) ?_
  refine va_get (D := D) (ci := 0) (v := .int (nI dm)) (C := cn_D) (T := ft_D) (N := 11) hx hb hf_D (fun _ h => h) hown hK hP 0 rfl rfl 0 (by decide) (gw.at G hx0 mw_194 rfl _) (fun _ h9 => h9) rfl d_D_tryRay_9 ?_
  refine lv_iload_n hx hb d_D_tryRay_12 rfl (lv_at hl 1 rfl) ?_
  refine cx_call (D := D) (cl := kl) (ws := _) (wc := [(mi, .inr (2, [.ref cu, .ref nx, .int (nI (dm - 1))])), (cu, .inl (cJ, 16, .inr (.inl cf))), (dr, .inl (cI, 4, .inl dg))]) (wr := [(d0, .inr (0, [.int (nI dm), .ref gv, .ref dr, .ref rl, .ref yl, .ref mi, .ref fl, .ref bf, .int rk, .int sp, .int kn])), (rl, .inr (1, [.ref rc, .int (nI ct), .int (nI mo)])), (rc, .inl (cI, pz, .inl pf)), (yl, .inr (1, [.ref ya, .int (nI yn), .int (12 : Int32)])), (ya, .inl (cI, 48, .inl yf))]) (tx_runV (C := cn_MI) (b := mi) (As := [.ref dr, .int (nI dm), .int (-1 : Int32)]) (rest := []) hx hb hml hown (c_MI_drw_m E s.heap.size mi cu nx cf dr dg dm hd2 hd4) (cx_C (b0 := b0) G hx0 mw_457 mw_4 ny_MI_fillDirection (by decide)) (gw.at G hx0 mw_454 rfl _) (gw.at G hx0 mw_455 rfl _) (gw.at G hx0 mw_456 rfl _) ⟨cx_blind, va_recv hK hP (q0 := 3) (ci := 2) (q := (cn_MI, ft_MI, 3)) rfl rfl, (cx_pre (s := s) hx0 hP hD hS hA0 [3, 4, 7] rfl rfl (by decide))⟩ rfl rfl hl.1 rfl (lv_room (Nat.le_of_ble_eq_true rfl)) d_D_tryRay_13 ⟨by decide, by decide⟩) hP hD hS hA [3, 4, 7] [0, 1, 2, 5, 6] rfl rfl (by decide) (by decide) (fun v t w1 H locs ht hW9 hp hP hD hS => ?_) (fun x t w1 H locs ht hW9 hp hP hD hS => by obtain ⟨h9, -⟩ := hp; cases h9)
  obtain ⟨h9, rfl⟩ := hp
  cases h9
  refine W.eq (g2 := F0 m 16 ls []) rfl ?_
  refine W.widen (k := 0) (n := 0) (by decide) (by decide) ?_
  have hP : va_P D kl [(d0, .inr (0, [.int (nI dm), .ref gv, .ref dr, .ref rl, .ref yl, .ref mi, .ref fl, .ref bf, .int rk, .int sp, .int kn])), (rl, .inr (1, [.ref rc, .int (nI ct), .int (nI mo)])), (rc, .inl (cI, pz, .inl pf)), (yl, .inr (1, [.ref ya, .int (nI yn), .int (12 : Int32)])), (ya, .inl (cI, 48, .inl yf)), (mi, .inr (2, [.ref cu, .ref nx, .int (nI (dm - 1))])), (cu, .inl (cJ, 16, .inr (.inl cf))), (dr, .inl (cI, 4, .inl (drw_m cf dm dg)))] H := hP
  have hD : va_D A [(d0, .inr (0, [.int (nI dm), .ref gv, .ref dr, .ref rl, .ref yl, .ref mi, .ref fl, .ref bf, .int rk, .int sp, .int kn])), (rl, .inr (1, [.ref rc, .int (nI ct), .int (nI mo)])), (rc, .inl (cI, pz, .inl pf)), (yl, .inr (1, [.ref ya, .int (nI yn), .int (12 : Int32)])), (ya, .inl (cI, 48, .inl yf)), (mi, .inr (2, [.ref cu, .ref nx, .int (nI (dm - 1))])), (cu, .inl (cJ, 16, .inr (.inl cf))), (dr, .inl (cI, 4, .inl (drw_m cf dm dg)))] := hD
  refine lv_aload_n hx hb d_D_tryRay_16 rfl (lv_at hl 0 rfl) ?_
  refine lv_aload_n hx hb d_D_tryRay_17 rfl (lv_at hl 0 rfl) ?_
  refine va_get (D := D) (ci := 0) (v := .ref dr) (C := cn_D) (T := ft_D) (N := 11) hx hb hf_D (fun _ h => h) hown hK hP 0 rfl rfl 2 (by decide) (gw.at G hx0 mw_196 rfl _) (fun _ h9 => h9) rfl d_D_tryRay_18 ?_
  refine cx_call (D := D) (cl := kl) (ws := _) (wc := [(d0, .inr (0, [.int (nI dm), .ref gv, .ref dr, .ref rl, .ref yl, .ref mi, .ref fl, .ref bf, .int rk, .int sp, .int kn])), (rl, .inr (1, [.ref rc, .int (nI ct), .int (nI mo)])), (rc, .inl (cI, pz, .inl pf)), (dr, .inl (cI, 4, .inl (drw_m cf dm dg)))]) (wr := [(yl, .inr (1, [.ref ya, .int (nI yn), .int (12 : Int32)])), (ya, .inl (cI, 48, .inl yf)), (mi, .inr (2, [.ref cu, .ref nx, .int (nI (dm - 1))])), (cu, .inl (cJ, 16, .inr (.inl cf)))]) (tx_runV (C := cn_D) (b := d0) (As := [.ref dr]) (rest := []) hx hb hml hown (c_D_inCone_y E H.size d0 gv dr rl yl mi fl bf (nI dm) rk sp kn rc ct mo pz pf dr (drw_m cf dm dg) hpz hmo hct h) (cx_C (b0 := b0) G hx0 mw_243 mw_1 ny_D_isInCone (by decide)) (gw.at G hx0 mw_240 rfl _) (gw.at G hx0 mw_242 rfl _) (gw.at G hx0 ms_D_isInCone rfl _) ⟨cx_blind, va_recv hK hP (q0 := 0) (ci := 0) (q := (cn_D, ft_D, 11)) rfl rfl, (cx_pre (s := s) hx0 hP hD hS hA0 [0, 1, 2, 7] rfl rfl (by decide))⟩ rfl rfl hl.1 rfl (lv_room (Nat.le_of_ble_eq_true rfl)) d_D_tryRay_21 ⟨by decide, by decide⟩) hP hD hS hA [0, 1, 2, 7] [3, 4, 5, 6] rfl rfl (by decide) (by decide) (fun v t w1 H locs ht hW9 hp hP hD hS => ?_) (fun x t w1 H locs ht hW9 hp hP hD hS => by obtain ⟨h9, -⟩ := hp; cases h9)
  obtain ⟨h9, rfl⟩ := hp
  cases h9
  refine W.eq (g2 := F0 m 24 ls [.int (1 : Int32)]) rfl ?_
  refine W.widen (k := 0) (n := 0) (by decide) (by decide) ?_
  have hP : va_P D kl [(yl, .inr (1, [.ref ya, .int (nI yn), .int (12 : Int32)])), (ya, .inl (cI, 48, .inl yf)), (mi, .inr (2, [.ref cu, .ref nx, .int (nI (dm - 1))])), (cu, .inl (cJ, 16, .inr (.inl cf))), (d0, .inr (0, [.int (nI dm), .ref gv, .ref dr, .ref rl, .ref yl, .ref mi, .ref fl, .ref bf, .int rk, .int sp, .int kn])), (rl, .inr (1, [.ref rc, .int (nI ct), .int (nI mo)])), (rc, .inl (cI, pz, .inl pf)), (dr, .inl (cI, 4, .inl (drw_m cf dm dg)))] H := hP
  have hD : va_D A [(yl, .inr (1, [.ref ya, .int (nI yn), .int (12 : Int32)])), (ya, .inl (cI, 48, .inl yf)), (mi, .inr (2, [.ref cu, .ref nx, .int (nI (dm - 1))])), (cu, .inl (cJ, 16, .inr (.inl cf))), (d0, .inr (0, [.int (nI dm), .ref gv, .ref dr, .ref rl, .ref yl, .ref mi, .ref fl, .ref bf, .int rk, .int sp, .int kn])), (rl, .inr (1, [.ref rc, .int (nI ct), .int (nI mo)])), (rc, .inl (cI, pz, .inl pf)), (dr, .inl (cI, 4, .inl (drw_m cf dm dg)))] := hD
  refine lv_if_eq (tgt := 38) hx hb d_D_tryRay_24 (by decide) (fun h99 => absurd h99 (by decide)) (fun _ => ?_)
  refine lv_aload_n hx hb d_D_tryRay_27 rfl (lv_at hl 0 rfl) ?_
  refine va_get (D := D) (ci := 0) (v := .ref yl) (C := cn_D) (T := ft_D) (N := 11) hx hb hf_D (fun _ h => h) hown hK hP 4 rfl rfl 4 (by decide) (gw.at G hx0 mw_198 rfl _) (fun _ h9 => h9) rfl d_D_tryRay_28 ?_
  refine lv_aload_n hx hb d_D_tryRay_31 rfl (lv_at hl 0 rfl) ?_
  refine va_get (D := D) (ci := 0) (v := .ref dr) (C := cn_D) (T := ft_D) (N := 11) hx hb hf_D (fun _ h => h) hown hK hP 4 rfl rfl 2 (by decide) (gw.at G hx0 mw_196 rfl _) (fun _ h9 => h9) rfl d_D_tryRay_32 ?_
  refine cx_call (D := D) (cl := kl) (ws := _) (wc := [(yl, .inr (1, [.ref ya, .int (nI yn), .int (12 : Int32)])), (ya, .inl (cI, 48, .inl yf)), (dr, .inl (cI, 4, .inl (drw_m cf dm dg)))]) (wr := [(mi, .inr (2, [.ref cu, .ref nx, .int (nI (dm - 1))])), (cu, .inl (cJ, 16, .inr (.inl cf))), (d0, .inr (0, [.int (nI dm), .ref gv, .ref dr, .ref rl, .ref yl, .ref mi, .ref fl, .ref bf, .int rk, .int sp, .int kn])), (rl, .inr (1, [.ref rc, .int (nI ct), .int (nI mo)])), (rc, .inl (cI, pz, .inl pf))]) (tx_runV (C := cn_PL) (b := yl) (As := [.ref dr]) (rest := []) hx hb hml hown (c_PL_ins E H.size yl ya yn 12 48 yf dr (drw_m cf dm dg) (by decide) (by decide) hyn) (cx_C (b0 := b0) G hx0 mw_483 mw_3 ny_PL_insertInOrder (by decide)) (gw.at G hx0 mw_480 rfl _) (gw.at G hx0 mw_481 rfl _) (gw.at G hx0 mw_482 rfl _) ⟨cx_blind, va_recv hK hP (q0 := 0) (ci := 1) (q := (cn_PL, ft_PL, 3)) rfl rfl, (cx_pre (s := s) hx0 hP hD hS hA0 [0, 1, 7] rfl rfl (by decide))⟩ rfl rfl hl.1 rfl (lv_room (Nat.le_of_ble_eq_true rfl)) d_D_tryRay_35 ⟨by decide, by decide⟩) hP hD hS hA [0, 1, 7] [2, 3, 4, 5, 6] rfl rfl (by decide) (by decide) (fun v t w1 H locs ht hW9 hp hP hD hS => ?_) (fun x t w1 H locs ht hW9 hp hP hD hS => by obtain ⟨h9, -⟩ := hp; cases h9)
  obtain ⟨h9, rfl⟩ := hp
  cases h9
  refine W.eq (g2 := F0 m 38 ls []) rfl ?_
  refine W.widen (k := 0) (n := 0) (by decide) (by decide) ?_
  have hP : va_P D kl [(mi, .inr (2, [.ref cu, .ref nx, .int (nI (dm - 1))])), (cu, .inl (cJ, 16, .inr (.inl cf))), (d0, .inr (0, [.int (nI dm), .ref gv, .ref dr, .ref rl, .ref yl, .ref mi, .ref fl, .ref bf, .int rk, .int sp, .int kn])), (rl, .inr (1, [.ref rc, .int (nI ct), .int (nI mo)])), (rc, .inl (cI, pz, .inl pf)), (yl, .inr (1, [.ref ya, .int (nI (insN 12 yn yf (drw_m cf dm dg))), .int (12 : Int32)])), (ya, .inl (cI, 48, .inl (insF 12 yn yf (drw_m cf dm dg)))), (dr, .inl (cI, 4, .inl (drw_m cf dm dg)))] H := hP
  have hD : va_D A [(mi, .inr (2, [.ref cu, .ref nx, .int (nI (dm - 1))])), (cu, .inl (cJ, 16, .inr (.inl cf))), (d0, .inr (0, [.int (nI dm), .ref gv, .ref dr, .ref rl, .ref yl, .ref mi, .ref fl, .ref bf, .int rk, .int sp, .int kn])), (rl, .inr (1, [.ref rc, .int (nI ct), .int (nI mo)])), (rc, .inl (cI, pz, .inl pf)), (yl, .inr (1, [.ref ya, .int (nI (insN 12 yn yf (drw_m cf dm dg))), .int (12 : Int32)])), (ya, .inl (cI, 48, .inl (insF 12 yn yf (drw_m cf dm dg)))), (dr, .inl (cI, 4, .inl (drw_m cf dm dg)))] := hD
  exact tx_mono (fun _ h => tx_Z.of h) (W.vret hx hb hr (fun t ht hW => ⟨⟨[(d0, .inr (0, [.int (nI dm), .ref gv, .ref dr, .ref rl, .ref yl, .ref mi, .ref fl, .ref bf, .int rk, .int sp, .int kn])), (rl, .inr (1, [.ref rc, .int (nI ct), .int (nI mo)])), (rc, .inl (cI, pz, .inl pf)), (mi, .inr (2, [.ref cu, .ref nx, .int (nI (dm - 1))])), (cu, .inl (cJ, 16, .inr (.inl cf))), (yl, .inr (1, [.ref ya, .int (nI (insN 12 yn yf (drw_m cf dm dg))), .int (12 : Int32)])), (ya, .inl (cI, 48, .inl (insF 12 yn yf (drw_m cf dm dg)))), (dr, .inl (cI, 4, .inl (drw_m cf dm dg)))], ⟨rfl, rfl⟩, by rw [ht]; exact hP.sub [2, 3, 4, 0, 1, 5, 6, 7] rfl, hD.sub [2, 3, 4, 0, 1, 5, 6, 7] (by decide) rfl⟩, hS.F ht⟩) hS.2.2 d_D_tryRay_38)

set_option maxHeartbeats 4000000 in
set_option maxRecDepth 100000 in
theorem c_D_trym_n {l : Launch} {s0 : State} {b0 : Addr} {D : va_G} {cI cJ cZ : ClassId} {tC tS : Nat} (E : gE l s0 b0 D cI cJ cZ tC tS) (sz : Nat) (d0 : Nat) (gv : Nat) (dr : Nat) (rl : Nat) (yl : Nat) (mi : Nat) (fl : Nat) (bf : Nat) (dm : Nat) (rk : Int32) (sp : Int32) (kn : Int32) (rc : Nat) (ct : Nat) (mo : Nat) (pz : Nat) (pf : Nat → Int32) (cu : Nat) (nx : Nat) (cf : Nat → Int64) (ya : Nat) (yn : Nat) (yf : Nat → Int32) (dg : Nat → Int32) (hpz : pz = mo * 4) (hmo : mo ≤ 107) (hct : ct ≤ mo) (hd2 : 2 ≤ dm) (hd4 : dm ≤ 4) (hyn : yn ≤ 12) (h : ¬ inC pf ct (drw_m cf dm dg)) : cx_M l s0 D kl y_D_tryRay b_D_tryRay 2 none ({ frames := 4, cells := 0, slots := 0, locals := 130 } : Room) 0 0 [.ref d0, .int (-1 : Int32)] [(d0, .inr (0, [.int (nI dm), .ref gv, .ref dr, .ref rl, .ref yl, .ref mi, .ref fl, .ref bf, .int rk, .int sp, .int kn])), (rl, .inr (1, [.ref rc, .int (nI ct), .int (nI mo)])), (rc, .inl (cI, pz, .inl pf)), (mi, .inr (2, [.ref cu, .ref nx, .int (nI (dm - 1))])), (cu, .inl (cJ, 16, .inr (.inl cf))), (yl, .inr (1, [.ref ya, .int (nI yn), .int (12 : Int32)])), (ya, .inl (cI, 48, .inl yf)), (dr, .inl (cI, 4, .inl dg))] sz (fun o9 _ w9 => o9 = .returned none ∧ w9 = [(d0, .inr (0, [.int (nI dm), .ref gv, .ref dr, .ref rl, .ref yl, .ref mi, .ref fl, .ref bf, .int rk, .int sp, .int kn])), (rl, .inr (1, [.ref rc, .int (nI ct), .int (nI mo)])), (rc, .inl (cI, pz, .inl pf)), (mi, .inr (2, [.ref cu, .ref nx, .int (nI (dm - 1))])), (cu, .inl (cJ, 16, .inr (.inl cf))), (yl, .inr (1, [.ref ya, .int (nI yn), .int (12 : Int32)])), (ya, .inl (cI, 48, .inl yf)), (dr, .inl (cI, 4, .inl (drw_m cf dm dg)))]) := by
  refine tx_ofW (cc := b_D_tryRay) (maxL := 2) (ret := none) (by decide) rfl ?_
  intro p e s m args below meth c s₁ B hml hT hv
  obtain ⟨rfl, hsz, hP, hD0, hx0⟩ := hv
  have hx := B.exec
  have hb := B.bytes
  have hr := B.returns
  have G := E.2.1
  have hown : s.vm.findClass cn_D = some m.cls := findClass_of_methodNamed B.named
  have hlocks := B.notSynchronized
  have hK := va_K.moved hx0.1.alike E.2.2.1
  have hf_D : ∀ w99 ∈ u_ws cn_D ft_D 11, w99.before ([.ref d0, .int (-1 : Int32)] : List Value).toArray s = true := fun w99 h99 => gw.at G hx0 (fw_D w99 h99) (fo_D w99 h99) _
  subst hsz
  have hA0 := cx_new hD0 hx0.2.1
  have hD := hD0.self (sz := s.heap.size)
  generalize hAe : va_A [(d0, .inr (0, [.int (nI dm), .ref gv, .ref dr, .ref rl, .ref yl, .ref mi, .ref fl, .ref bf, .int rk, .int sp, .int kn])), (rl, .inr (1, [.ref rc, .int (nI ct), .int (nI mo)])), (rc, .inl (cI, pz, .inl pf)), (mi, .inr (2, [.ref cu, .ref nx, .int (nI (dm - 1))])), (cu, .inl (cJ, 16, .inr (.inl cf))), (yl, .inr (1, [.ref ya, .int (nI yn), .int (12 : Int32)])), (ya, .inl (cI, 48, .inl yf)), (dr, .inl (cI, 4, .inl dg))] s.heap.size = A at hD hA0 ⊢
  have hA : ∀ q : Nat, s.heap.size ≤ q → A q := fun q h => by rw [← hAe]; exact Or.inr h
  have hS : va_S A s.heap s.heap [] := va_S.rf
  have hl := lv_entry ([.ref d0, .int (-1 : Int32)]) (n := 2) (Nat.le_of_ble_eq_true rfl)
  rw [lg_entry_eq]
  generalize (lg_sl ([.ref d0, .int (-1 : Int32)]) ++ List.replicate (2 - (lg_sl ([.ref d0, .int (-1 : Int32)])).length) Slot.unset).toArray = ls at hl ⊢
  have hl : lv_has ls 2 [(0, .ref d0), (1, .int (-1 : Int32))] := hl
  have hP : va_P D kl [(d0, .inr (0, [.int (nI dm), .ref gv, .ref dr, .ref rl, .ref yl, .ref mi, .ref fl, .ref bf, .int rk, .int sp, .int kn])), (rl, .inr (1, [.ref rc, .int (nI ct), .int (nI mo)])), (rc, .inl (cI, pz, .inl pf)), (mi, .inr (2, [.ref cu, .ref nx, .int (nI (dm - 1))])), (cu, .inl (cJ, 16, .inr (.inl cf))), (yl, .inr (1, [.ref ya, .int (nI yn), .int (12 : Int32)])), (ya, .inl (cI, 48, .inl yf)), (dr, .inl (cI, 4, .inl dg))] s.heap := hP
  have hml : c.maxLocals = 2 := hml
  refine lv_aload_n hx hb d_D_tryRay_0 rfl (lv_at hl 0 rfl) ?_
  refine va_get (D := D) (ci := 0) (v := .ref mi) (C := cn_D) (T := ft_D) (N := 11) hx hb hf_D (fun _ h => h) hown hK hP 0 rfl rfl 5 (by decide) (gw.at G hx0 mw_199 rfl _) (fun _ h9 => h9) rfl d_D_tryRay_1 ?_
  refine lv_aload_n hx hb d_D_tryRay_4 rfl (lv_at hl 0 rfl) ?_
  refine va_get (D := D) (ci := 0) (v := .ref dr) (C := cn_D) (T := ft_D) (N := 11) hx hb hf_D (fun _ h => h) hown hK hP 0 rfl rfl 2 (by decide) (gw.at G hx0 mw_196 rfl _) (fun _ h9 => h9) rfl d_D_tryRay_5 ?_
  refine lv_aload_n hx hb d_D_tryRay_8 rfl (lv_at hl 0 rfl) ?_
  refine va_get (D := D) (ci := 0) (v := .int (nI dm)) (C := cn_D) (T := ft_D) (N := 11) hx hb hf_D (fun _ h => h) hown hK hP 0 rfl rfl 0 (by decide) (gw.at G hx0 mw_194 rfl _) (fun _ h9 => h9) rfl d_D_tryRay_9 ?_
  refine lv_iload_n hx hb d_D_tryRay_12 rfl (lv_at hl 1 rfl) ?_
  refine cx_call (D := D) (cl := kl) (ws := _) (wc := [(mi, .inr (2, [.ref cu, .ref nx, .int (nI (dm - 1))])), (cu, .inl (cJ, 16, .inr (.inl cf))), (dr, .inl (cI, 4, .inl dg))]) (wr := [(d0, .inr (0, [.int (nI dm), .ref gv, .ref dr, .ref rl, .ref yl, .ref mi, .ref fl, .ref bf, .int rk, .int sp, .int kn])), (rl, .inr (1, [.ref rc, .int (nI ct), .int (nI mo)])), (rc, .inl (cI, pz, .inl pf)), (yl, .inr (1, [.ref ya, .int (nI yn), .int (12 : Int32)])), (ya, .inl (cI, 48, .inl yf))]) (tx_runV (C := cn_MI) (b := mi) (As := [.ref dr, .int (nI dm), .int (-1 : Int32)]) (rest := []) hx hb hml hown (c_MI_drw_m E s.heap.size mi cu nx cf dr dg dm hd2 hd4) (cx_C (b0 := b0) G hx0 mw_457 mw_4 ny_MI_fillDirection (by decide)) (gw.at G hx0 mw_454 rfl _) (gw.at G hx0 mw_455 rfl _) (gw.at G hx0 mw_456 rfl _) ⟨cx_blind, va_recv hK hP (q0 := 3) (ci := 2) (q := (cn_MI, ft_MI, 3)) rfl rfl, (cx_pre (s := s) hx0 hP hD hS hA0 [3, 4, 7] rfl rfl (by decide))⟩ rfl rfl hl.1 rfl (lv_room (Nat.le_of_ble_eq_true rfl)) d_D_tryRay_13 ⟨by decide, by decide⟩) hP hD hS hA [3, 4, 7] [0, 1, 2, 5, 6] rfl rfl (by decide) (by decide) (fun v t w1 H locs ht hW9 hp hP hD hS => ?_) (fun x t w1 H locs ht hW9 hp hP hD hS => by obtain ⟨h9, -⟩ := hp; cases h9)
  obtain ⟨h9, rfl⟩ := hp
  cases h9
  refine W.eq (g2 := F0 m 16 ls []) rfl ?_
  refine W.widen (k := 0) (n := 0) (by decide) (by decide) ?_
  have hP : va_P D kl [(d0, .inr (0, [.int (nI dm), .ref gv, .ref dr, .ref rl, .ref yl, .ref mi, .ref fl, .ref bf, .int rk, .int sp, .int kn])), (rl, .inr (1, [.ref rc, .int (nI ct), .int (nI mo)])), (rc, .inl (cI, pz, .inl pf)), (yl, .inr (1, [.ref ya, .int (nI yn), .int (12 : Int32)])), (ya, .inl (cI, 48, .inl yf)), (mi, .inr (2, [.ref cu, .ref nx, .int (nI (dm - 1))])), (cu, .inl (cJ, 16, .inr (.inl cf))), (dr, .inl (cI, 4, .inl (drw_m cf dm dg)))] H := hP
  have hD : va_D A [(d0, .inr (0, [.int (nI dm), .ref gv, .ref dr, .ref rl, .ref yl, .ref mi, .ref fl, .ref bf, .int rk, .int sp, .int kn])), (rl, .inr (1, [.ref rc, .int (nI ct), .int (nI mo)])), (rc, .inl (cI, pz, .inl pf)), (yl, .inr (1, [.ref ya, .int (nI yn), .int (12 : Int32)])), (ya, .inl (cI, 48, .inl yf)), (mi, .inr (2, [.ref cu, .ref nx, .int (nI (dm - 1))])), (cu, .inl (cJ, 16, .inr (.inl cf))), (dr, .inl (cI, 4, .inl (drw_m cf dm dg)))] := hD
  refine lv_aload_n hx hb d_D_tryRay_16 rfl (lv_at hl 0 rfl) ?_
  refine lv_aload_n hx hb d_D_tryRay_17 rfl (lv_at hl 0 rfl) ?_
  refine va_get (D := D) (ci := 0) (v := .ref dr) (C := cn_D) (T := ft_D) (N := 11) hx hb hf_D (fun _ h => h) hown hK hP 0 rfl rfl 2 (by decide) (gw.at G hx0 mw_196 rfl _) (fun _ h9 => h9) rfl d_D_tryRay_18 ?_
  refine cx_call (D := D) (cl := kl) (ws := _) (wc := [(d0, .inr (0, [.int (nI dm), .ref gv, .ref dr, .ref rl, .ref yl, .ref mi, .ref fl, .ref bf, .int rk, .int sp, .int kn])), (rl, .inr (1, [.ref rc, .int (nI ct), .int (nI mo)])), (rc, .inl (cI, pz, .inl pf)), (dr, .inl (cI, 4, .inl (drw_m cf dm dg)))]) (wr := [(yl, .inr (1, [.ref ya, .int (nI yn), .int (12 : Int32)])), (ya, .inl (cI, 48, .inl yf)), (mi, .inr (2, [.ref cu, .ref nx, .int (nI (dm - 1))])), (cu, .inl (cJ, 16, .inr (.inl cf)))]) (tx_runV (C := cn_D) (b := d0) (As := [.ref dr]) (rest := []) hx hb hml hown (c_D_inCone_n E H.size d0 gv dr rl yl mi fl bf (nI dm) rk sp kn rc ct mo pz pf dr (drw_m cf dm dg) hpz hmo hct h) (cx_C (b0 := b0) G hx0 mw_243 mw_1 ny_D_isInCone (by decide)) (gw.at G hx0 mw_240 rfl _) (gw.at G hx0 mw_242 rfl _) (gw.at G hx0 ms_D_isInCone rfl _) ⟨cx_blind, va_recv hK hP (q0 := 0) (ci := 0) (q := (cn_D, ft_D, 11)) rfl rfl, (cx_pre (s := s) hx0 hP hD hS hA0 [0, 1, 2, 7] rfl rfl (by decide))⟩ rfl rfl hl.1 rfl (lv_room (Nat.le_of_ble_eq_true rfl)) d_D_tryRay_21 ⟨by decide, by decide⟩) hP hD hS hA [0, 1, 2, 7] [3, 4, 5, 6] rfl rfl (by decide) (by decide) (fun v t w1 H locs ht hW9 hp hP hD hS => ?_) (fun x t w1 H locs ht hW9 hp hP hD hS => by obtain ⟨h9, -⟩ := hp; cases h9)
  obtain ⟨h9, rfl⟩ := hp
  cases h9
  refine W.eq (g2 := F0 m 24 ls [.int (0 : Int32)]) rfl ?_
  refine W.widen (k := 0) (n := 0) (by decide) (by decide) ?_
  have hP : va_P D kl [(yl, .inr (1, [.ref ya, .int (nI yn), .int (12 : Int32)])), (ya, .inl (cI, 48, .inl yf)), (mi, .inr (2, [.ref cu, .ref nx, .int (nI (dm - 1))])), (cu, .inl (cJ, 16, .inr (.inl cf))), (d0, .inr (0, [.int (nI dm), .ref gv, .ref dr, .ref rl, .ref yl, .ref mi, .ref fl, .ref bf, .int rk, .int sp, .int kn])), (rl, .inr (1, [.ref rc, .int (nI ct), .int (nI mo)])), (rc, .inl (cI, pz, .inl pf)), (dr, .inl (cI, 4, .inl (drw_m cf dm dg)))] H := hP
  have hD : va_D A [(yl, .inr (1, [.ref ya, .int (nI yn), .int (12 : Int32)])), (ya, .inl (cI, 48, .inl yf)), (mi, .inr (2, [.ref cu, .ref nx, .int (nI (dm - 1))])), (cu, .inl (cJ, 16, .inr (.inl cf))), (d0, .inr (0, [.int (nI dm), .ref gv, .ref dr, .ref rl, .ref yl, .ref mi, .ref fl, .ref bf, .int rk, .int sp, .int kn])), (rl, .inr (1, [.ref rc, .int (nI ct), .int (nI mo)])), (rc, .inl (cI, pz, .inl pf)), (dr, .inl (cI, 4, .inl (drw_m cf dm dg)))] := hD
  refine lv_if_eq (tgt := 38) hx hb d_D_tryRay_24 (by decide) (fun _ => ?_) (fun h99 => absurd h99 (by decide))
  exact tx_mono (fun _ h => tx_Z.of h) (W.vret hx hb hr (fun t ht hW => ⟨⟨[(d0, .inr (0, [.int (nI dm), .ref gv, .ref dr, .ref rl, .ref yl, .ref mi, .ref fl, .ref bf, .int rk, .int sp, .int kn])), (rl, .inr (1, [.ref rc, .int (nI ct), .int (nI mo)])), (rc, .inl (cI, pz, .inl pf)), (mi, .inr (2, [.ref cu, .ref nx, .int (nI (dm - 1))])), (cu, .inl (cJ, 16, .inr (.inl cf))), (yl, .inr (1, [.ref ya, .int (nI yn), .int (12 : Int32)])), (ya, .inl (cI, 48, .inl yf)), (dr, .inl (cI, 4, .inl (drw_m cf dm dg)))], ⟨rfl, rfl⟩, by rw [ht]; exact hP.sub [4, 5, 6, 2, 3, 0, 1, 7] rfl, hD.sub [4, 5, 6, 2, 3, 0, 1, 7] (by decide) rfl⟩, hS.F ht⟩) hS.2.2 d_D_tryRay_38)

theorem c_D_trym {l : Launch} {s0 : State} {b0 : Addr} {D : va_G} {cI cJ cZ : ClassId} {tC tS : Nat} (E : gE l s0 b0 D cI cJ cZ tC tS) (sz : Nat) (d0 : Nat) (gv : Nat) (dr : Nat) (rl : Nat) (yl : Nat) (mi : Nat) (fl : Nat) (bf : Nat) (dm : Nat) (rk : Int32) (sp : Int32) (kn : Int32) (rc : Nat) (ct : Nat) (mo : Nat) (pz : Nat) (pf : Nat → Int32) (cu : Nat) (nx : Nat) (cf : Nat → Int64) (ya : Nat) (yn : Nat) (yf : Nat → Int32) (dg : Nat → Int32) (hpz : pz = mo * 4) (hmo : mo ≤ 107) (hct : ct ≤ mo) (hd2 : 2 ≤ dm) (hd4 : dm ≤ 4) (hyn : yn ≤ 12) : cx_M l s0 D kl y_D_tryRay b_D_tryRay 2 none ({ frames := 4, cells := 0, slots := 0, locals := 130 } : Room) 0 0 [.ref d0, .int (-1 : Int32)] [(d0, .inr (0, [.int (nI dm), .ref gv, .ref dr, .ref rl, .ref yl, .ref mi, .ref fl, .ref bf, .int rk, .int sp, .int kn])), (rl, .inr (1, [.ref rc, .int (nI ct), .int (nI mo)])), (rc, .inl (cI, pz, .inl pf)), (mi, .inr (2, [.ref cu, .ref nx, .int (nI (dm - 1))])), (cu, .inl (cJ, 16, .inr (.inl cf))), (yl, .inr (1, [.ref ya, .int (nI yn), .int (12 : Int32)])), (ya, .inl (cI, 48, .inl yf)), (dr, .inl (cI, 4, .inl dg))] sz (fun o9 _ w9 => o9 = .returned none ∧ w9 = [(d0, .inr (0, [.int (nI dm), .ref gv, .ref dr, .ref rl, .ref yl, .ref mi, .ref fl, .ref bf, .int rk, .int sp, .int kn])), (rl, .inr (1, [.ref rc, .int (nI ct), .int (nI mo)])), (rc, .inl (cI, pz, .inl pf)), (mi, .inr (2, [.ref cu, .ref nx, .int (nI (dm - 1))])), (cu, .inl (cJ, 16, .inr (.inl cf))), (yl, .inr (1, [.ref ya, .int (nI (trN pf ct yn yf (drw_m cf dm dg))), .int (12 : Int32)])), (ya, .inl (cI, 48, .inl (trF pf ct yn yf (drw_m cf dm dg)))), (dr, .inl (cI, 4, .inl (drw_m cf dm dg)))]) := by
  by_cases hc : inC pf ct (drw_m cf dm dg)
  · rw [trN_y hc, trF_y hc]
    exact c_D_trym_y E sz d0 gv dr rl yl mi fl bf dm rk sp kn rc ct mo pz pf cu nx cf ya yn yf dg hpz hmo hct hd2 hd4 hyn hc
  · rw [trN_n hc, trF_n hc]
    exact c_D_trym_n E sz d0 gv dr rl yl mi fl bf dm rk sp kn rc ct mo pz pf cu nx cf ya yn yf dg hpz hmo hct hd2 hd4 hyn hc

