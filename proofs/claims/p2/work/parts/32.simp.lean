/-! ===== own rows, laid by wip/tools/sym.py: Simplices.find ===== -/
theorem cut_div {a c : Nat} (ha : a < 40) (hc : c < 256) : (a * 256 ||| c) / 256 = a := by
  have h1 : ∀ a, a < 40 → ∀ c, c < 256 → (a * 256 ||| c) / 256 = a := by decide +kernel
  exact h1 a ha c hc
def faceOk (fn n : Nat) (f : Nat → Nat) : Prop := ∀ j, j < n → f j / 256 < fn
theorem pc_ok {fn n a c : Nat} {f : Nat → Nat} (h : faceOk fn n f) (ha : a < fn) (h40 : a < 40) (hc : c < 256) : faceOk fn (pcN n) (pcF n f (a * 256 ||| c)) := by
  intro j hj
  unfold pcN at hj
  unfold pcF
  by_cases hn : n < 37
  · rw [if_pos hn] at hj ⊢
    unfold updN
    split
    · rw [cut_div h40 hc]; exact ha
    · exact h j (by omega)
  · rw [if_neg hn] at hj ⊢
    exact h j hj
theorem psh_ok {mk dk : Nat → Nat} {b c fn : Nat} (hfn : fn ≤ 40) (hc : c ||| lowb (mk b) < 256) : ∀ (q : Nat) (p : Nat × (Nat → Nat)), q ≤ fn → faceOk fn p.1 p.2 → faceOk fn (psh mk dk b c q p).1 (psh mk dk b c q p).2
  | 0, _, _, h => h
  | q + 1, p, hq, h => by
    have h1 := psh_ok (dk := dk) hfn hc q p (by omega) h
    by_cases hs : sdw mk dk q b (nI (lowb (mk b)))
    · rw [psh_y (n := (psh mk dk b c q p).1) (f := (psh mk dk b c q p).2) rfl hs]
      exact pc_ok h1 (by omega) (by omega) hc
    · rw [psh_n hs]; exact h1
/-- the cutting: cuts, and simplices, after the first z cuts are filled -/
noncomputable def sfd (mk dk : Nat → Nat) (fn : Nat) : Nat → (Nat × (Nat → Nat)) × (Nat × (Nat → Nat)) → (Nat × (Nat → Nat)) × (Nat × (Nat → Nat))
  | 0, p => p
  | z + 1, p => if z < (sfd mk dk fn z p).1.1 then
      if mk ((sfd mk dk fn z p).1.2 z / 2 ^ 8) = 0 then ((sfd mk dk fn z p).1, (adN (sfd mk dk fn z p).2.1, adF (sfd mk dk fn z p).2.1 (sfd mk dk fn z p).2.2 ((sfd mk dk fn z p).1.2 z &&& (2 ^ 8 - 1))))
      else (psh mk dk ((sfd mk dk fn z p).1.2 z / 2 ^ 8) ((sfd mk dk fn z p).1.2 z &&& (2 ^ 8 - 1)) fn (sfd mk dk fn z p).1, (sfd mk dk fn z p).2)
    else sfd mk dk fn z p
theorem sfd_stay {mk dk : Nat → Nat} {fn z : Nat} {p : (Nat × (Nat → Nat)) × (Nat × (Nat → Nat))} (h : (sfd mk dk fn z p).1.1 ≤ z) : ∀ y, z ≤ y → sfd mk dk fn y p = sfd mk dk fn z p := by
  intro y
  induction y with
  | zero => intro hy; rw [show z = 0 by omega]
  | succ y ih =>
    intro hy
    by_cases e : z = y + 1
    · rw [e]
    · have h1 := ih (by omega)
      show (if y < (sfd mk dk fn y p).1.1 then _ else sfd mk dk fn y p) = _
      rw [if_neg (by rw [h1]; omega), h1]
theorem sfd_add {mk dk : Nat → Nat} {fn z n n3 : Nat} {f f3 : Nat → Nat} {p : (Nat × (Nat → Nat)) × (Nat × (Nat → Nat))} (h : sfd mk dk fn z p = ((n, f), (n3, f3))) (hz : z < n) (h0 : mk (f z / 2 ^ 8) = 0) : sfd mk dk fn (z + 1) p = ((n, f), (adN n3, adF n3 f3 (f z &&& (2 ^ 8 - 1)))) := by
  show (if z < (sfd mk dk fn z p).1.1 then (if mk ((sfd mk dk fn z p).1.2 z / 2 ^ 8) = 0 then _ else _) else _) = _
  rw [h]
  rw [if_pos hz, if_pos h0]
theorem sfd_push {mk dk : Nat → Nat} {fn z n n3 : Nat} {f f3 : Nat → Nat} {p : (Nat × (Nat → Nat)) × (Nat × (Nat → Nat))} (h : sfd mk dk fn z p = ((n, f), (n3, f3))) (hz : z < n) (h0 : ¬ mk (f z / 2 ^ 8) = 0) : sfd mk dk fn (z + 1) p = (((psh mk dk (f z / 2 ^ 8) (f z &&& (2 ^ 8 - 1)) fn (n, f)).1, (psh mk dk (f z / 2 ^ 8) (f z &&& (2 ^ 8 - 1)) fn (n, f)).2), (n3, f3)) := by
  show (if z < (sfd mk dk fn z p).1.1 then (if mk ((sfd mk dk fn z p).1.2 z / 2 ^ 8) = 0 then _ else _) else _) = _
  rw [h]
  rw [if_pos hz, if_neg h0]
theorem and8 (a : Nat) : a &&& (2 ^ 8 - 1) < 256 := Nat.lt_of_le_of_lt Nat.and_le_right (by decide)
set_option maxHeartbeats 4000000 in
set_option maxRecDepth 100000 in
theorem c_SI_find {l : Launch} {s0 : State} {b0 : Addr} {D : va_G} {cI cJ cZ : ClassId} {tC tS : Nat} (E : gE l s0 b0 D cI cJ cZ tC tS) (sz : Nat) (si : Nat) (sm : Nat) (sc : Nat) (f0 : Int32) (c0 : Int32) (cu2 : Nat → Nat) (sk : Nat → Nat) (fl : Nat) (fm : Nat) (fd : Nat) (ft : Nat) (fc : Nat) (fn : Nat) (mk : Nat → Nat) (dk : Nat → Nat) (hcu2 : ∀ j, cu2 j < 10240) (hsk : ∀ j, sk j < 256) (hmk : ∀ j, mk j < 4096) (hdk : ∀ j, dk j < 4096) (hfn : fn ≤ 40) (hf1 : 0 < fn) (hm8 : ∀ j, j < fn → mk j < 256) : cx_M l s0 D kl y_SI_find b_SI_find 5 none ({ frames := 2, cells := 0, slots := 0, locals := 48 } : Room) 0 0 [.ref si, .ref fl] [(si, .inr (4, [.ref sm, .int f0, .ref sc, .int c0])), (sc, .inl (cI, 37, .inl (nf cu2))), (sm, .inl (cI, 9, .inl (nf sk))), (fl, .inr (3, [.ref fm, .int (nI fn), .ref fd, .ref ft, .ref fc])), (fm, .inl (cI, 40, .inl (nf mk))), (fd, .inl (cI, 40, .inl (nf dk)))] sz (fun o9 _ w9 => o9 = .returned none ∧ (sfd mk dk fn 37 ((pcN 0, pcF 0 cu2 (0 * 256 ||| 0)), (0, sk))).2.1 ≤ 9 ∧ (∀ j, (sfd mk dk fn 37 ((pcN 0, pcF 0 cu2 (0 * 256 ||| 0)), (0, sk))).2.2 j < 256) ∧ (∀ j, (sfd mk dk fn 37 ((pcN 0, pcF 0 cu2 (0 * 256 ||| 0)), (0, sk))).1.2 j < 10240) ∧ w9 = [(si, .inr (4, [.ref sm, .int (nI ((sfd mk dk fn 37 ((pcN 0, pcF 0 cu2 (0 * 256 ||| 0)), (0, sk))).2.1)), .ref sc, .int (nI ((sfd mk dk fn 37 ((pcN 0, pcF 0 cu2 (0 * 256 ||| 0)), (0, sk))).1.1))])), (sc, .inl (cI, 37, .inl (nf (sfd mk dk fn 37 ((pcN 0, pcF 0 cu2 (0 * 256 ||| 0)), (0, sk))).1.2))), (sm, .inl (cI, 9, .inl (nf (sfd mk dk fn 37 ((pcN 0, pcF 0 cu2 (0 * 256 ||| 0)), (0, sk))).2.2))), (fl, .inr (3, [.ref fm, .int (nI fn), .ref fd, .ref ft, .ref fc])), (fm, .inl (cI, 40, .inl (nf mk))), (fd, .inl (cI, 40, .inl (nf dk)))]) := by
  refine tx_ofW (cc := b_SI_find) (maxL := 5) (ret := none) (by decide) rfl ?_
  intro p e s m args below meth c s₁ B hml hT hv
  obtain ⟨rfl, hsz, hP, hD0, hx0⟩ := hv
  have hx := B.exec
  have hb := B.bytes
  have hr := B.returns
  have G := E.2.1
  have hown : s.vm.findClass cn_SI = some m.cls := findClass_of_methodNamed B.named
  have hlocks := B.notSynchronized
  have hK := va_K.moved hx0.1.alike E.2.2.1
  have hf_FL : ∀ w99 ∈ u_ws cn_FL ft_FL 5, w99.before ([.ref si, .ref fl] : List Value).toArray s = true := fun w99 h99 => gw.at G hx0 (fw_FL w99 h99) (fo_FL w99 h99) _
  have hf_SI : ∀ w99 ∈ u_ws cn_SI ft_SI 4, w99.before ([.ref si, .ref fl] : List Value).toArray s = true := fun w99 h99 => gw.at G hx0 (fw_SI w99 h99) (fo_SI w99 h99) _
  subst hsz
  have hA0 := cx_new hD0 hx0.2.1
  have hD := hD0.self (sz := s.heap.size)
  generalize hAe : va_A [(si, .inr (4, [.ref sm, .int f0, .ref sc, .int c0])), (sc, .inl (cI, 37, .inl (nf cu2))), (sm, .inl (cI, 9, .inl (nf sk))), (fl, .inr (3, [.ref fm, .int (nI fn), .ref fd, .ref ft, .ref fc])), (fm, .inl (cI, 40, .inl (nf mk))), (fd, .inl (cI, 40, .inl (nf dk)))] s.heap.size = A at hD hA0 ⊢
  have hA : ∀ q : Nat, s.heap.size ≤ q → A q := fun q h => by rw [← hAe]; exact Or.inr h
  have hS : va_S A s.heap s.heap [] := va_S.rf
  have hl := lv_entry ([.ref si, .ref fl]) (n := 5) (Nat.le_of_ble_eq_true rfl)
  rw [lg_entry_eq]
  generalize (lg_sl ([.ref si, .ref fl]) ++ List.replicate (5 - (lg_sl ([.ref si, .ref fl])).length) Slot.unset).toArray = ls at hl ⊢
  have hl : lv_has ls 5 [(0, .ref si), (1, .ref fl)] := hl
  have hP : va_P D kl [(si, .inr (4, [.ref sm, .int f0, .ref sc, .int c0])), (sc, .inl (cI, 37, .inl (nf cu2))), (sm, .inl (cI, 9, .inl (nf sk))), (fl, .inr (3, [.ref fm, .int (nI fn), .ref fd, .ref ft, .ref fc])), (fm, .inl (cI, 40, .inl (nf mk))), (fd, .inl (cI, 40, .inl (nf dk)))] s.heap := hP
  have hml : c.maxLocals = 5 := hml
  generalize hQe : tx_Z below (cx_Q D kl A (fun o9 _ w9 => o9 = .returned none ∧ (sfd mk dk fn 37 ((pcN 0, pcF 0 cu2 (0 * 256 ||| 0)), (0, sk))).2.1 ≤ 9 ∧ (∀ j, (sfd mk dk fn 37 ((pcN 0, pcF 0 cu2 (0 * 256 ||| 0)), (0, sk))).2.2 j < 256) ∧ (∀ j, (sfd mk dk fn 37 ((pcN 0, pcF 0 cu2 (0 * 256 ||| 0)), (0, sk))).1.2 j < 10240) ∧ w9 = [(si, .inr (4, [.ref sm, .int (nI ((sfd mk dk fn 37 ((pcN 0, pcF 0 cu2 (0 * 256 ||| 0)), (0, sk))).2.1)), .ref sc, .int (nI ((sfd mk dk fn 37 ((pcN 0, pcF 0 cu2 (0 * 256 ||| 0)), (0, sk))).1.1))])), (sc, .inl (cI, 37, .inl (nf (sfd mk dk fn 37 ((pcN 0, pcF 0 cu2 (0 * 256 ||| 0)), (0, sk))).1.2))), (sm, .inl (cI, 9, .inl (nf (sfd mk dk fn 37 ((pcN 0, pcF 0 cu2 (0 * 256 ||| 0)), (0, sk))).2.2))), (fl, .inr (3, [.ref fm, .int (nI fn), .ref fd, .ref ft, .ref fc])), (fm, .inl (cI, 40, .inl (nf mk))), (fd, .inl (cI, 40, .inl (nf dk)))])) ([.ref si, .ref fl] : List Value).toArray s 0 0 A = Q
  refine lv_aload_n hx hb d_SI_find_0 rfl (lv_at hl 0 rfl) ?_
  refine lv_iconst (v := (0 : Int32)) hx hb d_SI_find_1 (by decide) ?_
  refine va_put (D := D) (ci := 4) (v := .int (0 : Int32)) (ty := .int) (C := cn_SI) (T := ft_SI) (N := 4) hx hb hf_SI (fun _ h => h) fy_SI fk_SI fn_SI hown hK hP hD hS 0 rfl rfl 1 (by decide) (gw.at G hx0 mw_117 rfl _) (fun _ h9 => h9) rfl (by decide +kernel) rfl rfl (Nat.le_of_ble_eq_true rfl) d_SI_find_2 (fun H locs hP hD hS => ?_)
  have hP : va_P D kl [(si, .inr (4, [.ref sm, .int (0 : Int32), .ref sc, .int c0])), (sc, .inl (cI, 37, .inl (nf cu2))), (sm, .inl (cI, 9, .inl (nf sk))), (fl, .inr (3, [.ref fm, .int (nI fn), .ref fd, .ref ft, .ref fc])), (fm, .inl (cI, 40, .inl (nf mk))), (fd, .inl (cI, 40, .inl (nf dk)))] H := hP
  have hD : va_D A [(si, .inr (4, [.ref sm, .int (0 : Int32), .ref sc, .int c0])), (sc, .inl (cI, 37, .inl (nf cu2))), (sm, .inl (cI, 9, .inl (nf sk))), (fl, .inr (3, [.ref fm, .int (nI fn), .ref fd, .ref ft, .ref fc])), (fm, .inl (cI, 40, .inl (nf mk))), (fd, .inl (cI, 40, .inl (nf dk)))] := hD
  refine lv_aload_n hx hb d_SI_find_5 rfl (lv_at hl 0 rfl) ?_
  refine lv_iconst (v := (0 : Int32)) hx hb d_SI_find_6 (by decide) ?_
  refine va_put (D := D) (ci := 4) (v := .int (0 : Int32)) (ty := .int) (C := cn_SI) (T := ft_SI) (N := 4) hx hb hf_SI (fun _ h => h) fy_SI fk_SI fn_SI hown hK hP hD hS 0 rfl rfl 3 (by decide) (gw.at G hx0 mw_120 rfl _) (fun _ h9 => h9) rfl (by decide +kernel) rfl rfl (Nat.le_of_ble_eq_true rfl) d_SI_find_7 (fun H locs hP hD hS => ?_)
  have hP : va_P D kl [(si, .inr (4, [.ref sm, .int (0 : Int32), .ref sc, .int (0 : Int32)])), (sc, .inl (cI, 37, .inl (nf cu2))), (sm, .inl (cI, 9, .inl (nf sk))), (fl, .inr (3, [.ref fm, .int (nI fn), .ref fd, .ref ft, .ref fc])), (fm, .inl (cI, 40, .inl (nf mk))), (fd, .inl (cI, 40, .inl (nf dk)))] H := hP
  have hD : va_D A [(si, .inr (4, [.ref sm, .int (0 : Int32), .ref sc, .int (0 : Int32)])), (sc, .inl (cI, 37, .inl (nf cu2))), (sm, .inl (cI, 9, .inl (nf sk))), (fl, .inr (3, [.ref fm, .int (nI fn), .ref fd, .ref ft, .ref fc])), (fm, .inl (cI, 40, .inl (nf mk))), (fd, .inl (cI, 40, .inl (nf dk)))] := hD
  refine lv_aload_n hx hb d_SI_find_10 rfl (lv_at hl 0 rfl) ?_
  refine lv_iconst (v := (0 : Int32)) hx hb d_SI_find_11 (by decide) ?_
  refine lv_iconst (v := (0 : Int32)) hx hb d_SI_find_12 (by decide) ?_
  refine cx_call (D := D) (cl := kl) (ws := _) (wc := [(si, .inr (4, [.ref sm, .int (0 : Int32), .ref sc, .int (0 : Int32)])), (sc, .inl (cI, 37, .inl (nf cu2)))]) (wr := [(sm, .inl (cI, 9, .inl (nf sk))), (fl, .inr (3, [.ref fm, .int (nI fn), .ref fd, .ref ft, .ref fc])), (fm, .inl (cI, 40, .inl (nf mk))), (fd, .inl (cI, 40, .inl (nf dk)))]) (tx_runV (C := cn_SI) (b := si) (As := [.int (0 : Int32), .int (0 : Int32)]) (rest := []) hx hb hml hown (c_SI_pushCut E H.size si sm sc 0 0 cu2 0 0 hcu2 (Nat.zero_le _) (by decide) (by decide)) (cx_C (b0 := b0) G hx0 mw_532 mw_7 ny_SI_pushCut (by decide)) (gw.at G hx0 mw_529 rfl _) (gw.at G hx0 mw_531 rfl _) (gw.at G hx0 ms_SI_pushCut rfl _) ⟨cx_blind, va_recv hK hP (q0 := 0) (ci := 4) (q := (cn_SI, ft_SI, 4)) rfl rfl, (cx_pre (s := s) hx0 hP hD hS hA0 [0, 1] rfl rfl (by decide))⟩ rfl rfl hl.1 rfl (lv_room (Nat.le_of_ble_eq_true rfl)) d_SI_find_13 ⟨by decide, by decide⟩) hP hD hS hA [0, 1] [2, 3, 4, 5] rfl rfl (by decide) (by decide) (fun v t w1 H locs ht hW9 hp hP hD hS => ?_) (fun x t w1 H locs ht hW9 hp hP hD hS => by obtain ⟨h9, -⟩ := hp; cases h9)
  obtain ⟨h9, rfl⟩ := hp
  cases h9
  refine W.eq (g2 := F0 m 16 ls []) rfl ?_
  refine W.widen (k := 0) (n := 0) (by decide) (by decide) ?_
  have hP : va_P D kl [(sm, .inl (cI, 9, .inl (nf sk))), (fl, .inr (3, [.ref fm, .int (nI fn), .ref fd, .ref ft, .ref fc])), (fm, .inl (cI, 40, .inl (nf mk))), (fd, .inl (cI, 40, .inl (nf dk))), (si, .inr (4, [.ref sm, .int (0 : Int32), .ref sc, .int (nI (pcN 0))])), (sc, .inl (cI, 37, .inl (nf (pcF 0 cu2 (0 * 256 ||| 0)))))] H := hP
  have hD : va_D A [(sm, .inl (cI, 9, .inl (nf sk))), (fl, .inr (3, [.ref fm, .int (nI fn), .ref fd, .ref ft, .ref fc])), (fm, .inl (cI, 40, .inl (nf mk))), (fd, .inl (cI, 40, .inl (nf dk))), (si, .inr (4, [.ref sm, .int (0 : Int32), .ref sc, .int (nI (pcN 0))])), (sc, .inl (cI, 37, .inl (nf (pcF 0 cu2 (0 * 256 ||| 0)))))] := hD
  refine lv_iconst (v := (0 : Int32)) hx hb d_SI_find_16 (by decide) ?_
  refine lv_istore_n (lv' := [(2, .int (0 : Int32)), (0, .ref si), (1, .ref fl)]) hx hb d_SI_find_17 rfl hl (by decide) rfl (fun ls hl => ?_)
  have lp_18 : ∀ (n9 : Nat) (z : Nat) (n2 : Nat) (f2 : Nat → Nat) (n3 : Nat) (f3 : Nat → Nat) (ls : Array Slot) (H : Heap) (locs : List Loc), 37 - z = n9 → (sfd mk dk fn z ((pcN 0, pcF 0 cu2 (0 * 256 ||| 0)), (0, sk)) = ((n2, f2), (n3, f3))) → (z ≤ 37) → (n2 ≤ 37) → (∀ j, f2 j < 10240) → (n3 ≤ 9) → (∀ j, f3 j < 256) → (faceOk fn n2 f2) → lv_has ls 5 [(2, .int (nI z)), (0, .ref si), (1, .ref fl)] → va_P D kl [(sm, .inl (cI, 9, .inl (nf f3))), (fl, .inr (3, [.ref fm, .int (nI fn), .ref fd, .ref ft, .ref fc])), (fm, .inl (cI, 40, .inl (nf mk))), (fd, .inl (cI, 40, .inl (nf dk))), (si, .inr (4, [.ref sm, .int (nI n3), .ref sc, .int (nI n2)])), (sc, .inl (cI, 37, .inl (nf f2)))] H → va_D A [(sm, .inl (cI, 9, .inl (nf f3))), (fl, .inr (3, [.ref fm, .int (nI fn), .ref fd, .ref ft, .ref fc])), (fm, .inl (cI, 40, .inl (nf mk))), (fd, .inl (cI, 40, .inl (nf dk))), (si, .inr (4, [.ref sm, .int (nI n3), .ref sc, .int (nI n2)])), (sc, .inl (cI, 37, .inl (nf f2)))] → va_S A s.heap H locs → W p l e ({ frames := 2, cells := 0, slots := 0, locals := 48 } : Room) s m ([.ref si, .ref fl] : List Value).toArray below meth c H locs 0 0 Q (F0 m 18 ls []) := by
    intro n9
    induction n9 using Nat.strongRecOn with
    | ind n9 ih_18 =>
      intro z n2 f2 n3 f3 ls H locs hm_18 hs9 hz9 hn2 hf2 hn3 hf3 hok hl hP hD hS
      refine lv_iload_n hx hb d_SI_find_18 rfl (lv_at hl 0 rfl) ?_
      refine lv_aload_n hx hb d_SI_find_19 rfl (lv_at hl 1 rfl) ?_
      refine va_get (D := D) (ci := 4) (v := .int (nI n2)) (C := cn_SI) (T := ft_SI) (N := 4) hx hb hf_SI (fun _ h => h) hown hK hP 4 rfl rfl 3 (by decide) (gw.at G hx0 mw_120 rfl _) (fun _ h9 => h9) rfl d_SI_find_20 ?_
      refine lv_icmp_ge (tgt := 88) hx hb d_SI_find_23 (by decide) (fun h_1 => ?_) (fun h_1 => ?_)
      · have h_1 : n2 ≤ z := (nI_leI (a := n2) (b := z) (by omega) (by omega)).mp h_1
        have ho9 : sfd mk dk fn 37 ((pcN 0, pcF 0 cu2 (0 * 256 ||| 0)), (0, sk)) = ((n2, f2), (n3, f3)) := by
          exact (sfd_stay (by rw [hs9]; show n2 ≤ z; omega) 37 hz9).trans hs9
        have e0 : (sfd mk dk fn 37 ((pcN 0, pcF 0 cu2 (0 * 256 ||| 0)), (0, sk))).1.1 = n2 := by rw [ho9]
        have e1 : (sfd mk dk fn 37 ((pcN 0, pcF 0 cu2 (0 * 256 ||| 0)), (0, sk))).1.2 = f2 := by rw [ho9]
        have e2 : (sfd mk dk fn 37 ((pcN 0, pcF 0 cu2 (0 * 256 ||| 0)), (0, sk))).2.1 = n3 := by rw [ho9]
        have e3 : (sfd mk dk fn 37 ((pcN 0, pcF 0 cu2 (0 * 256 ||| 0)), (0, sk))).2.2 = f3 := by rw [ho9]
        clear hs9 ho9
        subst e0 e1 e2 e3
        rw [← hQe]
        exact tx_mono (fun _ h => tx_Z.of h) (W.vret hx hb hr (fun t ht hW => ⟨⟨[(si, .inr (4, [.ref sm, .int (nI ((sfd mk dk fn 37 ((pcN 0, pcF 0 cu2 (0 * 256 ||| 0)), (0, sk))).2.1)), .ref sc, .int (nI ((sfd mk dk fn 37 ((pcN 0, pcF 0 cu2 (0 * 256 ||| 0)), (0, sk))).1.1))])), (sc, .inl (cI, 37, .inl (nf ((sfd mk dk fn 37 ((pcN 0, pcF 0 cu2 (0 * 256 ||| 0)), (0, sk))).1.2)))), (sm, .inl (cI, 9, .inl (nf ((sfd mk dk fn 37 ((pcN 0, pcF 0 cu2 (0 * 256 ||| 0)), (0, sk))).2.2)))), (fl, .inr (3, [.ref fm, .int (nI fn), .ref fd, .ref ft, .ref fc])), (fm, .inl (cI, 40, .inl (nf mk))), (fd, .inl (cI, 40, .inl (nf dk)))], ⟨rfl, hn3, hf3, hf2, rfl⟩, by rw [ht]; exact hP.sub [4, 5, 0, 1, 2, 3] rfl, hD.sub [4, 5, 0, 1, 2, 3] (by decide) rfl⟩, hS.F ht⟩) hS.2.2 d_SI_find_88)
      · have h_1 : ¬ (n2 ≤ z) := fun z99 => h_1 ((nI_leI (a := n2) (b := z) (by omega) (by omega)).mpr z99)
        refine lv_iload_n hx hb d_SI_find_26 rfl (lv_at hl 0 rfl) ?_
        refine lv_bipush (v := (37 : Int32)) hx hb d_SI_find_27 (by decide) ?_
        refine lv_icmp_ge (tgt := 88) hx hb d_SI_find_29 (by decide) (fun h_2 => ?_) (fun h_2 => ?_)
        · have h_2 : 37 ≤ z := (nI_leI (a := 37) (b := z) (by omega) (by omega)).mp h_2
          have ho9 : sfd mk dk fn 37 ((pcN 0, pcF 0 cu2 (0 * 256 ||| 0)), (0, sk)) = ((n2, f2), (n3, f3)) := by
            have h0 : z = 37 := by omega
            exact h0 ▸ hs9
          have e0 : (sfd mk dk fn 37 ((pcN 0, pcF 0 cu2 (0 * 256 ||| 0)), (0, sk))).1.1 = n2 := by rw [ho9]
          have e1 : (sfd mk dk fn 37 ((pcN 0, pcF 0 cu2 (0 * 256 ||| 0)), (0, sk))).1.2 = f2 := by rw [ho9]
          have e2 : (sfd mk dk fn 37 ((pcN 0, pcF 0 cu2 (0 * 256 ||| 0)), (0, sk))).2.1 = n3 := by rw [ho9]
          have e3 : (sfd mk dk fn 37 ((pcN 0, pcF 0 cu2 (0 * 256 ||| 0)), (0, sk))).2.2 = f3 := by rw [ho9]
          clear hs9 ho9
          subst e0 e1 e2 e3
          rw [← hQe]
          exact tx_mono (fun _ h => tx_Z.of h) (W.vret hx hb hr (fun t ht hW => ⟨⟨[(si, .inr (4, [.ref sm, .int (nI ((sfd mk dk fn 37 ((pcN 0, pcF 0 cu2 (0 * 256 ||| 0)), (0, sk))).2.1)), .ref sc, .int (nI ((sfd mk dk fn 37 ((pcN 0, pcF 0 cu2 (0 * 256 ||| 0)), (0, sk))).1.1))])), (sc, .inl (cI, 37, .inl (nf ((sfd mk dk fn 37 ((pcN 0, pcF 0 cu2 (0 * 256 ||| 0)), (0, sk))).1.2)))), (sm, .inl (cI, 9, .inl (nf ((sfd mk dk fn 37 ((pcN 0, pcF 0 cu2 (0 * 256 ||| 0)), (0, sk))).2.2)))), (fl, .inr (3, [.ref fm, .int (nI fn), .ref fd, .ref ft, .ref fc])), (fm, .inl (cI, 40, .inl (nf mk))), (fd, .inl (cI, 40, .inl (nf dk)))], ⟨rfl, hn3, hf3, hf2, rfl⟩, by rw [ht]; exact hP.sub [4, 5, 0, 1, 2, 3] rfl, hD.sub [4, 5, 0, 1, 2, 3] (by decide) rfl⟩, hS.F ht⟩) hS.2.2 d_SI_find_88)
        · have h_2 : ¬ (37 ≤ z) := fun z99 => h_2 ((nI_leI (a := 37) (b := z) (by omega) (by omega)).mpr z99)
          have hface : f2 z / 2 ^ 8 < fn := hok z (by omega)
          have ha8 := and8 (f2 z)
          refine lv_aload_n hx hb d_SI_find_32 rfl (lv_at hl 1 rfl) ?_
          refine va_get (D := D) (ci := 4) (v := .ref sc) (C := cn_SI) (T := ft_SI) (N := 4) hx hb hf_SI (fun _ h => h) hown hK hP 4 rfl rfl 2 (by decide) (gw.at G hx0 mw_119 rfl _) (fun _ h9 => h9) rfl d_SI_find_33 ?_
          refine lv_iload_n hx hb d_SI_find_36 rfl (lv_at hl 0 rfl) ?_
          refine va_iald hx hb hK hP 5 0 rfl rfl (vp_in_nI (n := z) (by omega) (by omega)) d_SI_find_37 ?_
          refine tp_i (y := (nf f2) z) (congrArg (nf f2) (nI_clamp (n := z) (by omega))) ?_
          refine tp_i (y := nI (f2 z)) rfl ?_
          have hb_3 := hf2 z
          refine lv_bipush (v := (8 : Int32)) hx hb d_SI_find_38 (by decide) ?_
          refine lv_ishr hx hb d_SI_find_40 ?_
          refine tp_i (y := nI ((f2 z) / 2 ^ 8)) (nI_shr (n := f2 z) (p := 8) (by omega) (by omega)) ?_
          refine lv_istore_n (lv' := [(3, .int (nI ((f2 z) / 2 ^ 8))), (2, .int (nI z)), (0, .ref si), (1, .ref fl)]) hx hb d_SI_find_41 rfl hl (by decide) rfl (fun ls hl => ?_)
          refine lv_aload_n hx hb d_SI_find_42 rfl (lv_at hl 2 rfl) ?_
          refine va_get (D := D) (ci := 4) (v := .ref sc) (C := cn_SI) (T := ft_SI) (N := 4) hx hb hf_SI (fun _ h => h) hown hK hP 4 rfl rfl 2 (by decide) (gw.at G hx0 mw_119 rfl _) (fun _ h9 => h9) rfl d_SI_find_43 ?_
          refine lv_iload_n hx hb d_SI_find_46 rfl (lv_at hl 1 rfl) ?_
          refine va_iald hx hb hK hP 5 0 rfl rfl (vp_in_nI (n := z) (by omega) (by omega)) d_SI_find_47 ?_
          refine tp_i (y := (nf f2) z) (congrArg (nf f2) (nI_clamp (n := z) (by omega))) ?_
          refine tp_i (y := nI (f2 z)) rfl ?_
          have hb_4 := hf2 z
          refine lv_bipush (v := (8 : Int32)) hx hb d_SI_find_48 (by decide) ?_
          refine cx_call (D := D) (cl := kl) (ws := _) (wc := []) (wr := [(sm, .inl (cI, 9, .inl (nf f3))), (fl, .inr (3, [.ref fm, .int (nI fn), .ref fd, .ref ft, .ref fc])), (fm, .inl (cI, 40, .inl (nf mk))), (fd, .inl (cI, 40, .inl (nf dk))), (si, .inr (4, [.ref sm, .int (nI n3), .ref sc, .int (nI n2)])), (sc, .inl (cI, 37, .inl (nf f2)))]) (tx_runSN (As := [.int (8 : Int32)]) (rest := [.int (nI (f2 z))]) hx hb hml hown (c_D_maskOf E H.size 8 (by decide)) (cx_C (b0 := b0) G hx0 mw_365 mw_1 ny_D_maskOfAll (by decide)) (gw.at G hx0 mw_533 rfl _) (gw.at G hx0 mw_364 rfl _) (gw.at G hx0 mw_1 rfl _) ⟨cx_blind, (cx_pre (s := s) hx0 hP hD hS hA0 [] rfl rfl (by decide))⟩ rfl rfl hl.1 rfl (lv_room (Nat.le_of_ble_eq_true rfl)) d_SI_find_50 ⟨by decide, by decide⟩) hP hD hS hA [] [0, 1, 2, 3, 4, 5] rfl rfl (by decide) (by decide) (fun v t w1 H locs ht hW9 hp hP hD hS => ?_) (fun x t w1 H locs ht hW9 hp hP hD hS => by obtain ⟨h9, -⟩ := hp; cases h9)
          obtain ⟨h9, rfl⟩ := hp
          cases h9
          refine W.eq (g2 := F0 m 53 ls [.int (nI (2 ^ 8 - 1)), .int (nI (f2 z))]) rfl ?_
          refine W.widen (k := 0) (n := 0) (by decide) (by decide) ?_
          have hP : va_P D kl [(sm, .inl (cI, 9, .inl (nf f3))), (fl, .inr (3, [.ref fm, .int (nI fn), .ref fd, .ref ft, .ref fc])), (fm, .inl (cI, 40, .inl (nf mk))), (fd, .inl (cI, 40, .inl (nf dk))), (si, .inr (4, [.ref sm, .int (nI n3), .ref sc, .int (nI n2)])), (sc, .inl (cI, 37, .inl (nf f2)))] H := hP
          have hD : va_D A [(sm, .inl (cI, 9, .inl (nf f3))), (fl, .inr (3, [.ref fm, .int (nI fn), .ref fd, .ref ft, .ref fc])), (fm, .inl (cI, 40, .inl (nf mk))), (fd, .inl (cI, 40, .inl (nf dk))), (si, .inr (4, [.ref sm, .int (nI n3), .ref sc, .int (nI n2)])), (sc, .inl (cI, 37, .inl (nf f2)))] := hD
          refine lv_iand hx hb d_SI_find_53 ?_
          refine tp_i (y := nI ((f2 z) &&& (2 ^ 8 - 1))) (nI_and (f2 z) (2 ^ 8 - 1)) ?_
          refine lv_istore (lv' := [(4, .int (nI ((f2 z) &&& (2 ^ 8 - 1)))), (3, .int (nI ((f2 z) / 2 ^ 8))), (2, .int (nI z)), (0, .ref si), (1, .ref fl)]) hx hb d_SI_find_54 hl (by decide) rfl (fun ls hl => ?_)
          refine lv_aload_n hx hb d_SI_find_56 rfl (lv_at hl 4 rfl) ?_
          refine va_get (D := D) (ci := 3) (v := .ref fm) (C := cn_FL) (T := ft_FL) (N := 5) hx hb hf_FL (fun _ h => h) hown hK hP 1 rfl rfl 0 (by decide) (gw.at G hx0 mw_82 rfl _) (fun _ h9 => h9) rfl d_SI_find_57 ?_
          refine lv_iload_n hx hb d_SI_find_60 rfl (lv_at hl 1 rfl) ?_
          refine va_iald hx hb hK hP 2 0 rfl rfl (vp_in_nI (n := (f2 z) / 2 ^ 8) (by omega) (by omega)) d_SI_find_61 ?_
          refine tp_i (y := (nf mk) ((f2 z) / 2 ^ 8)) (congrArg (nf mk) (nI_clamp (n := (f2 z) / 2 ^ 8) (by omega))) ?_
          refine tp_i (y := nI (mk ((f2 z) / 2 ^ 8))) rfl ?_
          have hb_5 := hmk ((f2 z) / 2 ^ 8)
          refine lv_if_ne (tgt := 74) hx hb d_SI_find_62 (by decide) (fun h_6 => ?_) (fun h_6 => ?_)
          · have h_6 : ¬ ((mk ((f2 z) / 2 ^ 8)) = 0) := fun z99 => h_6 ((nI_eq (a := mk ((f2 z) / 2 ^ 8)) (b := 0) (by omega) (by omega)).mpr z99)
            refine lv_aload_n hx hb d_SI_find_74 rfl (lv_at hl 3 rfl) ?_
            refine lv_aload_n hx hb d_SI_find_75 rfl (lv_at hl 4 rfl) ?_
            refine lv_iload_n hx hb d_SI_find_76 rfl (lv_at hl 1 rfl) ?_
            refine lv_iload hx hb d_SI_find_77 (lv_at hl 0 rfl) ?_
            refine cx_call (D := D) (cl := kl) (ws := _) (wc := [(si, .inr (4, [.ref sm, .int (nI n3), .ref sc, .int (nI n2)])), (sc, .inl (cI, 37, .inl (nf f2))), (fl, .inr (3, [.ref fm, .int (nI fn), .ref fd, .ref ft, .ref fc])), (fm, .inl (cI, 40, .inl (nf mk))), (fd, .inl (cI, 40, .inl (nf dk)))]) (wr := [(sm, .inl (cI, 9, .inl (nf f3)))]) (tx_runV (C := cn_SI) (b := si) (As := [.ref fl, .int (nI ((f2 z) / 2 ^ 8)), .int (nI ((f2 z) &&& (2 ^ 8 - 1)))]) (rest := []) hx hb hml hown (c_SI_pushSides E H.size si sm sc n3 n2 f2 fl fm fd ft fc fn mk dk ((f2 z) / 2 ^ 8) ((f2 z) &&& (2 ^ 8 - 1)) hf2 hn2 hmk hdk hfn hm8 hface ha8) (cx_C (b0 := b0) G hx0 mw_541 mw_7 ny_SI_pushSides (by decide)) (gw.at G hx0 mw_538 rfl _) (gw.at G hx0 mw_540 rfl _) (gw.at G hx0 ms_SI_pushSides rfl _) ⟨cx_blind, va_recv hK hP (q0 := 4) (ci := 4) (q := (cn_SI, ft_SI, 4)) rfl rfl, (cx_pre (s := s) hx0 hP hD hS hA0 [4, 5, 1, 2, 3] rfl rfl (by decide))⟩ rfl rfl hl.1 rfl (lv_room (Nat.le_of_ble_eq_true rfl)) d_SI_find_79 ⟨by decide, by decide⟩) hP hD hS hA [4, 5, 1, 2, 3] [0] rfl rfl (by decide) (by decide) (fun v t w1 H locs ht hW9 hp hP hD hS => ?_) (fun x t w1 H locs ht hW9 hp hP hD hS => by obtain ⟨h9, -⟩ := hp; cases h9)
            obtain ⟨h9, f_7, f_8, rfl⟩ := hp
            cases h9
            refine W.eq (g2 := F0 m 82 ls []) rfl ?_
            refine W.widen (k := 0) (n := 0) (by decide) (by decide) ?_
            have hP : va_P D kl [(sm, .inl (cI, 9, .inl (nf f3))), (si, .inr (4, [.ref sm, .int (nI n3), .ref sc, .int (nI ((psh mk dk ((f2 z) / 2 ^ 8) ((f2 z) &&& (2 ^ 8 - 1)) fn (n2, f2)).1))])), (sc, .inl (cI, 37, .inl (nf (psh mk dk ((f2 z) / 2 ^ 8) ((f2 z) &&& (2 ^ 8 - 1)) fn (n2, f2)).2))), (fl, .inr (3, [.ref fm, .int (nI fn), .ref fd, .ref ft, .ref fc])), (fm, .inl (cI, 40, .inl (nf mk))), (fd, .inl (cI, 40, .inl (nf dk)))] H := hP
            have hD : va_D A [(sm, .inl (cI, 9, .inl (nf f3))), (si, .inr (4, [.ref sm, .int (nI n3), .ref sc, .int (nI ((psh mk dk ((f2 z) / 2 ^ 8) ((f2 z) &&& (2 ^ 8 - 1)) fn (n2, f2)).1))])), (sc, .inl (cI, 37, .inl (nf (psh mk dk ((f2 z) / 2 ^ 8) ((f2 z) &&& (2 ^ 8 - 1)) fn (n2, f2)).2))), (fl, .inr (3, [.ref fm, .int (nI fn), .ref fd, .ref ft, .ref fc])), (fm, .inl (cI, 40, .inl (nf mk))), (fd, .inl (cI, 40, .inl (nf dk)))] := hD
            refine lv_iinc (lv' := [(2, .int (nI (z + 1))), (4, .int (nI ((f2 z) &&& (2 ^ 8 - 1)))), (3, .int (nI ((f2 z) / 2 ^ 8))), (0, .ref si), (1, .ref fl)]) (k := 2) (v := nI (z + 1)) hx hb d_SI_find_82 hl rfl (nI_add z 1) (by decide) rfl (fun ls hl => ?_)
            refine lv_goto (tgt := 18) hx hb d_SI_find_85 (by decide) ?_
            exact ih_18 _ (by omega) (z + 1) ((psh mk dk (f2 z / 2 ^ 8) (f2 z &&& (2 ^ 8 - 1)) fn (n2, f2)).1) ((psh mk dk (f2 z / 2 ^ 8) (f2 z &&& (2 ^ 8 - 1)) fn (n2, f2)).2) n3 f3 ls H locs rfl (sfd_push hs9 (by omega) h_6) (by omega) f_7 f_8 hn3 hf3 (psh_ok hfn (or8 (and8 _) (lowb_lt (hm8 _ hface))) fn (n2, f2) (Nat.le_refl _) hok) (lv_sub hl [0, 3, 4] rfl) (hP.sub [0, 3, 4, 5, 1, 2] rfl) (hD.sub [0, 3, 4, 5, 1, 2] (by decide) rfl) hS
          · have h_6 : (mk ((f2 z) / 2 ^ 8)) = 0 := (nI_eq (a := mk ((f2 z) / 2 ^ 8)) (b := 0) (by omega) (by omega)).mp h_6
            refine lv_aload_n hx hb d_SI_find_65 rfl (lv_at hl 3 rfl) ?_
            refine lv_iload hx hb d_SI_find_66 (lv_at hl 0 rfl) ?_
            refine cx_call (D := D) (cl := kl) (ws := _) (wc := [(si, .inr (4, [.ref sm, .int (nI n3), .ref sc, .int (nI n2)])), (sm, .inl (cI, 9, .inl (nf f3)))]) (wr := [(fl, .inr (3, [.ref fm, .int (nI fn), .ref fd, .ref ft, .ref fc])), (fm, .inl (cI, 40, .inl (nf mk))), (fd, .inl (cI, 40, .inl (nf dk))), (sc, .inl (cI, 37, .inl (nf f2)))]) (tx_runV (C := cn_SI) (b := si) (As := [.int (nI ((f2 z) &&& (2 ^ 8 - 1)))]) (rest := []) hx hb hml hown (c_SI_addSimplex E H.size si sm sc n3 n2 f3 ((f2 z) &&& (2 ^ 8 - 1)) hf3 hn3 ha8) (cx_C (b0 := b0) G hx0 mw_537 mw_7 ny_SI_addSimplex (by decide)) (gw.at G hx0 mw_534 rfl _) (gw.at G hx0 mw_536 rfl _) (gw.at G hx0 ms_SI_addSimplex rfl _) ⟨cx_blind, va_recv hK hP (q0 := 4) (ci := 4) (q := (cn_SI, ft_SI, 4)) rfl rfl, (cx_pre (s := s) hx0 hP hD hS hA0 [4, 0] rfl rfl (by decide))⟩ rfl rfl hl.1 rfl (lv_room (Nat.le_of_ble_eq_true rfl)) d_SI_find_68 ⟨by decide, by decide⟩) hP hD hS hA [4, 0] [1, 2, 3, 5] rfl rfl (by decide) (by decide) (fun v t w1 H locs ht hW9 hp hP hD hS => ?_) (fun x t w1 H locs ht hW9 hp hP hD hS => by obtain ⟨h9, -⟩ := hp; cases h9)
            obtain ⟨h9, rfl⟩ := hp
            cases h9
            refine W.eq (g2 := F0 m 71 ls []) rfl ?_
            refine W.widen (k := 0) (n := 0) (by decide) (by decide) ?_
            have hP : va_P D kl [(fl, .inr (3, [.ref fm, .int (nI fn), .ref fd, .ref ft, .ref fc])), (fm, .inl (cI, 40, .inl (nf mk))), (fd, .inl (cI, 40, .inl (nf dk))), (sc, .inl (cI, 37, .inl (nf f2))), (si, .inr (4, [.ref sm, .int (nI (adN n3)), .ref sc, .int (nI n2)])), (sm, .inl (cI, 9, .inl (nf (adF n3 f3 ((f2 z) &&& (2 ^ 8 - 1))))))] H := hP
            have hD : va_D A [(fl, .inr (3, [.ref fm, .int (nI fn), .ref fd, .ref ft, .ref fc])), (fm, .inl (cI, 40, .inl (nf mk))), (fd, .inl (cI, 40, .inl (nf dk))), (sc, .inl (cI, 37, .inl (nf f2))), (si, .inr (4, [.ref sm, .int (nI (adN n3)), .ref sc, .int (nI n2)])), (sm, .inl (cI, 9, .inl (nf (adF n3 f3 ((f2 z) &&& (2 ^ 8 - 1))))))] := hD
            refine lv_goto (tgt := 82) hx hb d_SI_find_71 (by decide) ?_
            refine lv_iinc (lv' := [(2, .int (nI (z + 1))), (4, .int (nI ((f2 z) &&& (2 ^ 8 - 1)))), (3, .int (nI ((f2 z) / 2 ^ 8))), (0, .ref si), (1, .ref fl)]) (k := 2) (v := nI (z + 1)) hx hb d_SI_find_82 hl rfl (nI_add z 1) (by decide) rfl (fun ls hl => ?_)
            refine lv_goto (tgt := 18) hx hb d_SI_find_85 (by decide) ?_
            exact ih_18 _ (by omega) (z + 1) n2 f2 (adN n3) (adF n3 f3 (f2 z &&& (2 ^ 8 - 1))) ls H locs rfl (sfd_add hs9 (by omega) h_6) (by omega) hn2 hf2 (adN_le hn3) (adF_lt hf3 (and8 _)) hok (lv_sub hl [0, 3, 4] rfl) (hP.sub [5, 0, 1, 2, 4, 3] rfl) (hD.sub [5, 0, 1, 2, 4, 3] (by decide) rfl) hS
  exact lp_18 _ 0 (pcN 0) (pcF 0 cu2 (0 * 256 ||| 0)) 0 sk ls H locs rfl rfl (Nat.zero_le _) (pcN_le (Nat.zero_le _)) (pcF_lt hcu2 (cut_lt (by decide) (by decide))) (Nat.zero_le _) hsk (pc_ok (fun j hj => absurd hj (Nat.not_lt_zero j)) hf1 (by decide) (by decide)) (lv_sub hl [0, 1, 2] rfl) (hP.sub [0, 1, 2, 3, 4, 5] rfl) (hD.sub [0, 1, 2, 3, 4, 5] (by decide) rfl) hS

