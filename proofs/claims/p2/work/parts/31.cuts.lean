/-! ===== own rows, laid by wip/tools/sym.py: Simplices, pushing cuts ===== -/
theorem nI_shl8 {a : Nat} (h : a < 40) : nI a <<< ((8 : Int32) &&& 31) = nI (a * 256) := by
  have h1 : ∀ a, a < 40 → nI a <<< ((8 : Int32) &&& 31) = nI (a * 256) := by decide +kernel
  exact h1 a h
theorem cut_lt {a c : Nat} (ha : a < 40) (hc : c < 256) : a * 256 ||| c < 10240 := by
  have h1 : ∀ a, a < 40 → ∀ c, c < 256 → a * 256 ||| c < 10240 := by decide +kernel
  exact h1 a ha c hc
/-- the lowest bit of a mask -/
def lowb (m : Nat) : Nat := m &&& (256 - m)
theorem lowb_eq {m : Nat} (h : m < 256) : nI m &&& -(nI m) = nI (lowb m) := by
  have h1 : ∀ m, m < 256 → nI m &&& -(nI m) = nI (lowb m) := by decide +kernel
  exact h1 m h
theorem lowb_lt {m : Nat} (h : m < 256) : lowb m < 256 := Nat.lt_of_le_of_lt Nat.and_le_left h
theorem or8 {a b : Nat} (ha : a < 256) (hb : b < 256) : a ||| b < 256 := Nat.or_lt_two_pow (n := 8) ha hb
def pcN (n : Nat) : Nat := if n < 37 then n + 1 else n
def pcF (n : Nat) (f : Nat → Nat) (v : Nat) : Nat → Nat := if n < 37 then updN f n v else f
theorem pcN_le {n : Nat} (h : n ≤ 37) : pcN n ≤ 37 := by unfold pcN; split <;> omega
theorem pcF_lt {n : Nat} {f : Nat → Nat} {v b : Nat} (h : ∀ j, f j < b) (hv : v < b) : ∀ j, pcF n f v j < b := by
  unfold pcF
  split
  · exact updN_lt h hv
  · exact h
def adN (n : Nat) : Nat := if n < 9 then n + 1 else n
def adF (n : Nat) (f : Nat → Nat) (v : Nat) : Nat → Nat := if n < 9 then updN f n v else f
theorem adN_le {n : Nat} (h : n ≤ 9) : adN n ≤ 9 := by unfold adN; split <;> omega
theorem adF_lt {n : Nat} {f : Nat → Nat} {v b : Nat} (h : ∀ j, f j < b) (hv : v < b) : ∀ j, adF n f v j < b := by
  unfold adF
  split
  · exact updN_lt h hv
  · exact h
/-- the sides of the face b without its first ray, pushed: the first q of them -/
noncomputable def psh (mk dk : Nat → Nat) (b c : Nat) : Nat → Nat × (Nat → Nat) → Nat × (Nat → Nat)
  | 0, p => p
  | q + 1, p => @ite _ (sdw mk dk q b (nI (lowb (mk b)))) (Classical.propDecidable _) (pcN (psh mk dk b c q p).1, pcF (psh mk dk b c q p).1 (psh mk dk b c q p).2 (q * 256 ||| (c ||| lowb (mk b)))) (psh mk dk b c q p)
theorem psh_y {mk dk : Nat → Nat} {b c q n : Nat} {p : Nat × (Nat → Nat)} {f : Nat → Nat} (h : psh mk dk b c q p = (n, f)) (hs : sdw mk dk q b (nI (lowb (mk b)))) : psh mk dk b c (q + 1) p = (pcN n, pcF n f (q * 256 ||| (c ||| lowb (mk b)))) := by
  have h1 : psh mk dk b c (q + 1) p = (pcN (psh mk dk b c q p).1, pcF (psh mk dk b c q p).1 (psh mk dk b c q p).2 (q * 256 ||| (c ||| lowb (mk b)))) := @if_pos _ (Classical.propDecidable _) hs _ _ _
  rw [h1, h]
theorem psh_n {mk dk : Nat → Nat} {b c q : Nat} {p : Nat × (Nat → Nat)} (hs : ¬ sdw mk dk q b (nI (lowb (mk b)))) : psh mk dk b c (q + 1) p = psh mk dk b c q p := @if_neg _ (Classical.propDecidable _) hs _ _ _
set_option maxHeartbeats 4000000 in
set_option maxRecDepth 100000 in
theorem c_SI_cut_y {l : Launch} {s0 : State} {b0 : Addr} {D : va_G} {cI cJ cZ : ClassId} {tC tS : Nat} (E : gE l s0 b0 D cI cJ cZ tC tS) (sz : Nat) (si : Nat) (sm : Nat) (sc : Nat) (ns : Nat) (nc : Nat) (cu2 : Nat → Nat) (a : Nat) (c8 : Nat) (hcu2 : ∀ j, cu2 j < 10240) (hnc : nc ≤ 37) (ha : a < 40) (hc8 : c8 < 256) (h : nc < 37) : cx_M l s0 D kl y_SI_pushCut b_SI_pushCut 3 none ({ frames := 0, cells := 0, slots := 0, locals := 0 } : Room) 0 0 [.ref si, .int (nI a), .int (nI c8)] [(si, .inr (4, [.ref sm, .int (nI ns), .ref sc, .int (nI nc)])), (sc, .inl (cI, 37, .inl (nf cu2)))] sz (fun o9 _ w9 => o9 = .returned none ∧ w9 = [(si, .inr (4, [.ref sm, .int (nI ns), .ref sc, .int (nI (nc + 1))])), (sc, .inl (cI, 37, .inl (nf (updN cu2 nc (a * 256 ||| c8)))))]) := by
  refine tx_ofW (cc := b_SI_pushCut) (maxL := 3) (ret := none) (by decide) rfl ?_
  intro p e s m args below meth c s₁ B hml hT hv
  obtain ⟨rfl, hsz, hP, hD0, hx0⟩ := hv
  have hx := B.exec
  have hb := B.bytes
  have hr := B.returns
  have G := E.2.1
  have hown : s.vm.findClass cn_SI = some m.cls := findClass_of_methodNamed B.named
  have hlocks := B.notSynchronized
  have hK := va_K.moved hx0.1.alike E.2.2.1
  have hf_SI : ∀ w99 ∈ u_ws cn_SI ft_SI 4, w99.before ([.ref si, .int (nI a), .int (nI c8)] : List Value).toArray s = true := fun w99 h99 => gw.at G hx0 (fw_SI w99 h99) (fo_SI w99 h99) _
  subst hsz
  have hA0 := cx_new hD0 hx0.2.1
  have hD := hD0.self (sz := s.heap.size)
  generalize hAe : va_A [(si, .inr (4, [.ref sm, .int (nI ns), .ref sc, .int (nI nc)])), (sc, .inl (cI, 37, .inl (nf cu2)))] s.heap.size = A at hD hA0 ⊢
  have hA : ∀ q : Nat, s.heap.size ≤ q → A q := fun q h => by rw [← hAe]; exact Or.inr h
  have hS : va_S A s.heap s.heap [] := va_S.rf
  have hl := lv_entry ([.ref si, .int (nI a), .int (nI c8)]) (n := 3) (Nat.le_of_ble_eq_true rfl)
  rw [lg_entry_eq]
  generalize (lg_sl ([.ref si, .int (nI a), .int (nI c8)]) ++ List.replicate (3 - (lg_sl ([.ref si, .int (nI a), .int (nI c8)])).length) Slot.unset).toArray = ls at hl ⊢
  have hl : lv_has ls 3 [(0, .ref si), (1, .int (nI a)), (2, .int (nI c8))] := hl
  have hP : va_P D kl [(si, .inr (4, [.ref sm, .int (nI ns), .ref sc, .int (nI nc)])), (sc, .inl (cI, 37, .inl (nf cu2)))] s.heap := hP
  have hml : c.maxLocals = 3 := hml
  refine lv_aload_n hx hb d_SI_pushCut_0 rfl (lv_at hl 0 rfl) ?_
  refine va_get (D := D) (ci := 4) (v := .int (nI nc)) (C := cn_SI) (T := ft_SI) (N := 4) hx hb hf_SI (fun _ h => h) hown hK hP 0 rfl rfl 3 (by decide) (gw.at G hx0 mw_120 rfl _) (fun _ h9 => h9) rfl d_SI_pushCut_1 ?_
  refine lv_bipush (v := (37 : Int32)) hx hb d_SI_pushCut_4 (by decide) ?_
  refine lv_icmp_ge (tgt := 34) hx hb d_SI_pushCut_6 (by decide) (fun h99 => absurd h99 (fun z99 => absurd ((nI_leI (a := 37) (b := nc) (by omega) (by omega)).mp z99) (by omega))) (fun _ => ?_)
  refine lv_aload_n hx hb d_SI_pushCut_9 rfl (lv_at hl 0 rfl) ?_
  refine va_get (D := D) (ci := 4) (v := .ref sc) (C := cn_SI) (T := ft_SI) (N := 4) hx hb hf_SI (fun _ h => h) hown hK hP 0 rfl rfl 2 (by decide) (gw.at G hx0 mw_119 rfl _) (fun _ h9 => h9) rfl d_SI_pushCut_10 ?_
  refine lv_aload_n hx hb d_SI_pushCut_13 rfl (lv_at hl 0 rfl) ?_
  refine va_get (D := D) (ci := 4) (v := .int (nI nc)) (C := cn_SI) (T := ft_SI) (N := 4) hx hb hf_SI (fun _ h => h) hown hK hP 0 rfl rfl 3 (by decide) (gw.at G hx0 mw_120 rfl _) (fun _ h9 => h9) rfl d_SI_pushCut_14 ?_
  refine lv_iload_n hx hb d_SI_pushCut_17 rfl (lv_at hl 1 rfl) ?_
  refine lv_bipush (v := (8 : Int32)) hx hb d_SI_pushCut_18 (by decide) ?_
  refine lv_ishl hx hb d_SI_pushCut_20 ?_
  refine tp_i (y := nI (a * 256)) (nI_shl8 (a := a) (by omega)) ?_
  refine lv_iload_n hx hb d_SI_pushCut_21 rfl (lv_at hl 2 rfl) ?_
  refine lv_ior hx hb d_SI_pushCut_22 ?_
  refine tp_i (y := nI ((a * 256) ||| c8)) (nI_or (a * 256) c8) ?_
  refine va_iast hx hb hK hP hD hS 1 0 rfl rfl (vp_in_nI (n := nc) (by omega) (by omega)) d_SI_pushCut_23 (fun H locs hP hD hS => ?_)
  rw [nI_clamp (n := nc) (by omega)] at hP hD
  rw [show upd (nf cu2) nc (nI ((a * 256) ||| c8)) = nf (updN cu2 nc ((a * 256) ||| c8)) from nf_upd _ _ _] at hP hD
  have hP : va_P D kl [(si, .inr (4, [.ref sm, .int (nI ns), .ref sc, .int (nI nc)])), (sc, .inl (cI, 37, .inl (nf (updN cu2 nc ((a * 256) ||| c8)))))] H := hP
  have hD : va_D A [(si, .inr (4, [.ref sm, .int (nI ns), .ref sc, .int (nI nc)])), (sc, .inl (cI, 37, .inl (nf (updN cu2 nc ((a * 256) ||| c8)))))] := hD
  refine lv_aload_n hx hb d_SI_pushCut_24 rfl (lv_at hl 0 rfl) ?_
  refine lv_dup hx hb d_SI_pushCut_25 rfl ?_
  refine va_get (D := D) (ci := 4) (v := .int (nI nc)) (C := cn_SI) (T := ft_SI) (N := 4) hx hb hf_SI (fun _ h => h) hown hK hP 0 rfl rfl 3 (by decide) (gw.at G hx0 mw_120 rfl _) (fun _ h9 => h9) rfl d_SI_pushCut_26 ?_
  refine lv_iconst (v := (1 : Int32)) hx hb d_SI_pushCut_29 (by decide) ?_
  refine lv_iadd hx hb d_SI_pushCut_30 ?_
  refine tp_i (y := nI (nc + 1)) (nI_add nc 1) ?_
  refine va_put (D := D) (ci := 4) (v := .int (nI (nc + 1))) (ty := .int) (C := cn_SI) (T := ft_SI) (N := 4) hx hb hf_SI (fun _ h => h) fy_SI fk_SI fn_SI hown hK hP hD hS 0 rfl rfl 3 (by decide) (gw.at G hx0 mw_120 rfl _) (fun _ h9 => h9) rfl (by decide +kernel) rfl rfl (Nat.le_of_ble_eq_true rfl) d_SI_pushCut_31 (fun H locs hP hD hS => ?_)
  have hP : va_P D kl [(si, .inr (4, [.ref sm, .int (nI ns), .ref sc, .int (nI (nc + 1))])), (sc, .inl (cI, 37, .inl (nf (updN cu2 nc ((a * 256) ||| c8)))))] H := hP
  have hD : va_D A [(si, .inr (4, [.ref sm, .int (nI ns), .ref sc, .int (nI (nc + 1))])), (sc, .inl (cI, 37, .inl (nf (updN cu2 nc ((a * 256) ||| c8)))))] := hD
  exact tx_mono (fun _ h => tx_Z.of h) (W.vret hx hb hr (fun t ht hW => ⟨⟨[(si, .inr (4, [.ref sm, .int (nI ns), .ref sc, .int (nI (nc + 1))])), (sc, .inl (cI, 37, .inl (nf (updN cu2 nc ((a * 256) ||| c8)))))], ⟨rfl, rfl⟩, by rw [ht]; exact hP.sub [0, 1] rfl, hD.sub [0, 1] (by decide) rfl⟩, hS.F ht⟩) hS.2.2 d_SI_pushCut_34)

set_option maxHeartbeats 4000000 in
set_option maxRecDepth 100000 in
theorem c_SI_cut_n {l : Launch} {s0 : State} {b0 : Addr} {D : va_G} {cI cJ cZ : ClassId} {tC tS : Nat} (E : gE l s0 b0 D cI cJ cZ tC tS) (sz : Nat) (si : Nat) (sm : Nat) (sc : Nat) (ns : Nat) (nc : Nat) (cu2 : Nat → Nat) (a : Nat) (c8 : Nat) (hcu2 : ∀ j, cu2 j < 10240) (hnc : nc ≤ 37) (ha : a < 40) (hc8 : c8 < 256) (h : ¬ nc < 37) : cx_M l s0 D kl y_SI_pushCut b_SI_pushCut 3 none ({ frames := 0, cells := 0, slots := 0, locals := 0 } : Room) 0 0 [.ref si, .int (nI a), .int (nI c8)] [(si, .inr (4, [.ref sm, .int (nI ns), .ref sc, .int (nI nc)])), (sc, .inl (cI, 37, .inl (nf cu2)))] sz (fun o9 _ w9 => o9 = .returned none ∧ w9 = [(si, .inr (4, [.ref sm, .int (nI ns), .ref sc, .int (nI nc)])), (sc, .inl (cI, 37, .inl (nf cu2)))]) := by
  refine tx_ofW (cc := b_SI_pushCut) (maxL := 3) (ret := none) (by decide) rfl ?_
  intro p e s m args below meth c s₁ B hml hT hv
  obtain ⟨rfl, hsz, hP, hD0, hx0⟩ := hv
  have hx := B.exec
  have hb := B.bytes
  have hr := B.returns
  have G := E.2.1
  have hown : s.vm.findClass cn_SI = some m.cls := findClass_of_methodNamed B.named
  have hlocks := B.notSynchronized
  have hK := va_K.moved hx0.1.alike E.2.2.1
  have hf_SI : ∀ w99 ∈ u_ws cn_SI ft_SI 4, w99.before ([.ref si, .int (nI a), .int (nI c8)] : List Value).toArray s = true := fun w99 h99 => gw.at G hx0 (fw_SI w99 h99) (fo_SI w99 h99) _
  subst hsz
  have hA0 := cx_new hD0 hx0.2.1
  have hD := hD0.self (sz := s.heap.size)
  generalize hAe : va_A [(si, .inr (4, [.ref sm, .int (nI ns), .ref sc, .int (nI nc)])), (sc, .inl (cI, 37, .inl (nf cu2)))] s.heap.size = A at hD hA0 ⊢
  have hA : ∀ q : Nat, s.heap.size ≤ q → A q := fun q h => by rw [← hAe]; exact Or.inr h
  have hS : va_S A s.heap s.heap [] := va_S.rf
  have hl := lv_entry ([.ref si, .int (nI a), .int (nI c8)]) (n := 3) (Nat.le_of_ble_eq_true rfl)
  rw [lg_entry_eq]
  generalize (lg_sl ([.ref si, .int (nI a), .int (nI c8)]) ++ List.replicate (3 - (lg_sl ([.ref si, .int (nI a), .int (nI c8)])).length) Slot.unset).toArray = ls at hl ⊢
  have hl : lv_has ls 3 [(0, .ref si), (1, .int (nI a)), (2, .int (nI c8))] := hl
  have hP : va_P D kl [(si, .inr (4, [.ref sm, .int (nI ns), .ref sc, .int (nI nc)])), (sc, .inl (cI, 37, .inl (nf cu2)))] s.heap := hP
  have hml : c.maxLocals = 3 := hml
  refine lv_aload_n hx hb d_SI_pushCut_0 rfl (lv_at hl 0 rfl) ?_
  refine va_get (D := D) (ci := 4) (v := .int (nI nc)) (C := cn_SI) (T := ft_SI) (N := 4) hx hb hf_SI (fun _ h => h) hown hK hP 0 rfl rfl 3 (by decide) (gw.at G hx0 mw_120 rfl _) (fun _ h9 => h9) rfl d_SI_pushCut_1 ?_
  refine lv_bipush (v := (37 : Int32)) hx hb d_SI_pushCut_4 (by decide) ?_
  refine lv_icmp_ge (tgt := 34) hx hb d_SI_pushCut_6 (by decide) (fun _ => ?_) (fun h99 => absurd h99 (not_not_intro ((nI_leI (a := 37) (b := nc) (by omega) (by omega)).mpr (by omega))))
  exact tx_mono (fun _ h => tx_Z.of h) (W.vret hx hb hr (fun t ht hW => ⟨⟨[(si, .inr (4, [.ref sm, .int (nI ns), .ref sc, .int (nI nc)])), (sc, .inl (cI, 37, .inl (nf cu2)))], ⟨rfl, rfl⟩, by rw [ht]; exact hP.sub [0, 1] rfl, hD.sub [0, 1] (by decide) rfl⟩, hS.F ht⟩) hS.2.2 d_SI_pushCut_34)

theorem c_SI_pushCut {l : Launch} {s0 : State} {b0 : Addr} {D : va_G} {cI cJ cZ : ClassId} {tC tS : Nat} (E : gE l s0 b0 D cI cJ cZ tC tS) (sz : Nat) (si : Nat) (sm : Nat) (sc : Nat) (ns : Nat) (nc : Nat) (cu2 : Nat → Nat) (a : Nat) (c8 : Nat) (hcu2 : ∀ j, cu2 j < 10240) (hnc : nc ≤ 37) (ha : a < 40) (hc8 : c8 < 256) : cx_M l s0 D kl y_SI_pushCut b_SI_pushCut 3 none ({ frames := 0, cells := 0, slots := 0, locals := 0 } : Room) 0 0 [.ref si, .int (nI a), .int (nI c8)] [(si, .inr (4, [.ref sm, .int (nI ns), .ref sc, .int (nI nc)])), (sc, .inl (cI, 37, .inl (nf cu2)))] sz (fun o9 _ w9 => o9 = .returned none ∧ w9 = [(si, .inr (4, [.ref sm, .int (nI ns), .ref sc, .int (nI (pcN nc))])), (sc, .inl (cI, 37, .inl (nf (pcF nc cu2 (a * 256 ||| c8)))))]) := by
  unfold pcN pcF
  by_cases h : nc < 37
  · rw [if_pos h, if_pos h]
    exact c_SI_cut_y E sz si sm sc ns nc cu2 a c8 hcu2 hnc ha hc8 h
  · rw [if_neg h, if_neg h]
    exact c_SI_cut_n E sz si sm sc ns nc cu2 a c8 hcu2 hnc ha hc8 h

set_option maxHeartbeats 4000000 in
set_option maxRecDepth 100000 in
theorem c_SI_add_y {l : Launch} {s0 : State} {b0 : Addr} {D : va_G} {cI cJ cZ : ClassId} {tC tS : Nat} (E : gE l s0 b0 D cI cJ cZ tC tS) (sz : Nat) (si : Nat) (sm : Nat) (sc : Nat) (ns : Nat) (nc : Nat) (sk : Nat → Nat) (c8 : Nat) (hsk : ∀ j, sk j < 256) (hns : ns ≤ 9) (hc8 : c8 < 256) (h : ns < 9) : cx_M l s0 D kl y_SI_addSimplex b_SI_addSimplex 2 none ({ frames := 0, cells := 0, slots := 0, locals := 0 } : Room) 0 0 [.ref si, .int (nI c8)] [(si, .inr (4, [.ref sm, .int (nI ns), .ref sc, .int (nI nc)])), (sm, .inl (cI, 9, .inl (nf sk)))] sz (fun o9 _ w9 => o9 = .returned none ∧ w9 = [(si, .inr (4, [.ref sm, .int (nI (ns + 1)), .ref sc, .int (nI nc)])), (sm, .inl (cI, 9, .inl (nf (updN sk ns c8))))]) := by
  refine tx_ofW (cc := b_SI_addSimplex) (maxL := 2) (ret := none) (by decide) rfl ?_
  intro p e s m args below meth c s₁ B hml hT hv
  obtain ⟨rfl, hsz, hP, hD0, hx0⟩ := hv
  have hx := B.exec
  have hb := B.bytes
  have hr := B.returns
  have G := E.2.1
  have hown : s.vm.findClass cn_SI = some m.cls := findClass_of_methodNamed B.named
  have hlocks := B.notSynchronized
  have hK := va_K.moved hx0.1.alike E.2.2.1
  have hf_SI : ∀ w99 ∈ u_ws cn_SI ft_SI 4, w99.before ([.ref si, .int (nI c8)] : List Value).toArray s = true := fun w99 h99 => gw.at G hx0 (fw_SI w99 h99) (fo_SI w99 h99) _
  subst hsz
  have hA0 := cx_new hD0 hx0.2.1
  have hD := hD0.self (sz := s.heap.size)
  generalize hAe : va_A [(si, .inr (4, [.ref sm, .int (nI ns), .ref sc, .int (nI nc)])), (sm, .inl (cI, 9, .inl (nf sk)))] s.heap.size = A at hD hA0 ⊢
  have hA : ∀ q : Nat, s.heap.size ≤ q → A q := fun q h => by rw [← hAe]; exact Or.inr h
  have hS : va_S A s.heap s.heap [] := va_S.rf
  have hl := lv_entry ([.ref si, .int (nI c8)]) (n := 2) (Nat.le_of_ble_eq_true rfl)
  rw [lg_entry_eq]
  generalize (lg_sl ([.ref si, .int (nI c8)]) ++ List.replicate (2 - (lg_sl ([.ref si, .int (nI c8)])).length) Slot.unset).toArray = ls at hl ⊢
  have hl : lv_has ls 2 [(0, .ref si), (1, .int (nI c8))] := hl
  have hP : va_P D kl [(si, .inr (4, [.ref sm, .int (nI ns), .ref sc, .int (nI nc)])), (sm, .inl (cI, 9, .inl (nf sk)))] s.heap := hP
  have hml : c.maxLocals = 2 := hml
  refine lv_aload_n hx hb d_SI_addSimplex_0 rfl (lv_at hl 0 rfl) ?_
  refine va_get (D := D) (ci := 4) (v := .int (nI ns)) (C := cn_SI) (T := ft_SI) (N := 4) hx hb hf_SI (fun _ h => h) hown hK hP 0 rfl rfl 1 (by decide) (gw.at G hx0 mw_117 rfl _) (fun _ h9 => h9) rfl d_SI_addSimplex_1 ?_
  refine lv_bipush (v := (9 : Int32)) hx hb d_SI_addSimplex_4 (by decide) ?_
  refine lv_icmp_ge (tgt := 29) hx hb d_SI_addSimplex_6 (by decide) (fun h99 => absurd h99 (fun z99 => absurd ((nI_leI (a := 9) (b := ns) (by omega) (by omega)).mp z99) (by omega))) (fun _ => ?_)
  refine lv_aload_n hx hb d_SI_addSimplex_9 rfl (lv_at hl 0 rfl) ?_
  refine va_get (D := D) (ci := 4) (v := .ref sm) (C := cn_SI) (T := ft_SI) (N := 4) hx hb hf_SI (fun _ h => h) hown hK hP 0 rfl rfl 0 (by decide) (gw.at G hx0 mw_115 rfl _) (fun _ h9 => h9) rfl d_SI_addSimplex_10 ?_
  refine lv_aload_n hx hb d_SI_addSimplex_13 rfl (lv_at hl 0 rfl) ?_
  refine va_get (D := D) (ci := 4) (v := .int (nI ns)) (C := cn_SI) (T := ft_SI) (N := 4) hx hb hf_SI (fun _ h => h) hown hK hP 0 rfl rfl 1 (by decide) (gw.at G hx0 mw_117 rfl _) (fun _ h9 => h9) rfl d_SI_addSimplex_14 ?_
  refine lv_iload_n hx hb d_SI_addSimplex_17 rfl (lv_at hl 1 rfl) ?_
  refine va_iast hx hb hK hP hD hS 1 0 rfl rfl (vp_in_nI (n := ns) (by omega) (by omega)) d_SI_addSimplex_18 (fun H locs hP hD hS => ?_)
  rw [nI_clamp (n := ns) (by omega)] at hP hD
  rw [show upd (nf sk) ns (nI c8) = nf (updN sk ns c8) from nf_upd _ _ _] at hP hD
  have hP : va_P D kl [(si, .inr (4, [.ref sm, .int (nI ns), .ref sc, .int (nI nc)])), (sm, .inl (cI, 9, .inl (nf (updN sk ns c8))))] H := hP
  have hD : va_D A [(si, .inr (4, [.ref sm, .int (nI ns), .ref sc, .int (nI nc)])), (sm, .inl (cI, 9, .inl (nf (updN sk ns c8))))] := hD
  refine lv_aload_n hx hb d_SI_addSimplex_19 rfl (lv_at hl 0 rfl) ?_
  refine lv_dup hx hb d_SI_addSimplex_20 rfl ?_
  refine va_get (D := D) (ci := 4) (v := .int (nI ns)) (C := cn_SI) (T := ft_SI) (N := 4) hx hb hf_SI (fun _ h => h) hown hK hP 0 rfl rfl 1 (by decide) (gw.at G hx0 mw_117 rfl _) (fun _ h9 => h9) rfl d_SI_addSimplex_21 ?_
  refine lv_iconst (v := (1 : Int32)) hx hb d_SI_addSimplex_24 (by decide) ?_
  refine lv_iadd hx hb d_SI_addSimplex_25 ?_
  refine tp_i (y := nI (ns + 1)) (nI_add ns 1) ?_
  refine va_put (D := D) (ci := 4) (v := .int (nI (ns + 1))) (ty := .int) (C := cn_SI) (T := ft_SI) (N := 4) hx hb hf_SI (fun _ h => h) fy_SI fk_SI fn_SI hown hK hP hD hS 0 rfl rfl 1 (by decide) (gw.at G hx0 mw_117 rfl _) (fun _ h9 => h9) rfl (by decide +kernel) rfl rfl (Nat.le_of_ble_eq_true rfl) d_SI_addSimplex_26 (fun H locs hP hD hS => ?_)
  have hP : va_P D kl [(si, .inr (4, [.ref sm, .int (nI (ns + 1)), .ref sc, .int (nI nc)])), (sm, .inl (cI, 9, .inl (nf (updN sk ns c8))))] H := hP
  have hD : va_D A [(si, .inr (4, [.ref sm, .int (nI (ns + 1)), .ref sc, .int (nI nc)])), (sm, .inl (cI, 9, .inl (nf (updN sk ns c8))))] := hD
  exact tx_mono (fun _ h => tx_Z.of h) (W.vret hx hb hr (fun t ht hW => ⟨⟨[(si, .inr (4, [.ref sm, .int (nI (ns + 1)), .ref sc, .int (nI nc)])), (sm, .inl (cI, 9, .inl (nf (updN sk ns c8))))], ⟨rfl, rfl⟩, by rw [ht]; exact hP.sub [0, 1] rfl, hD.sub [0, 1] (by decide) rfl⟩, hS.F ht⟩) hS.2.2 d_SI_addSimplex_29)

set_option maxHeartbeats 4000000 in
set_option maxRecDepth 100000 in
theorem c_SI_add_n {l : Launch} {s0 : State} {b0 : Addr} {D : va_G} {cI cJ cZ : ClassId} {tC tS : Nat} (E : gE l s0 b0 D cI cJ cZ tC tS) (sz : Nat) (si : Nat) (sm : Nat) (sc : Nat) (ns : Nat) (nc : Nat) (sk : Nat → Nat) (c8 : Nat) (hsk : ∀ j, sk j < 256) (hns : ns ≤ 9) (hc8 : c8 < 256) (h : ¬ ns < 9) : cx_M l s0 D kl y_SI_addSimplex b_SI_addSimplex 2 none ({ frames := 0, cells := 0, slots := 0, locals := 0 } : Room) 0 0 [.ref si, .int (nI c8)] [(si, .inr (4, [.ref sm, .int (nI ns), .ref sc, .int (nI nc)])), (sm, .inl (cI, 9, .inl (nf sk)))] sz (fun o9 _ w9 => o9 = .returned none ∧ w9 = [(si, .inr (4, [.ref sm, .int (nI ns), .ref sc, .int (nI nc)])), (sm, .inl (cI, 9, .inl (nf sk)))]) := by
  refine tx_ofW (cc := b_SI_addSimplex) (maxL := 2) (ret := none) (by decide) rfl ?_
  intro p e s m args below meth c s₁ B hml hT hv
  obtain ⟨rfl, hsz, hP, hD0, hx0⟩ := hv
  have hx := B.exec
  have hb := B.bytes
  have hr := B.returns
  have G := E.2.1
  have hown : s.vm.findClass cn_SI = some m.cls := findClass_of_methodNamed B.named
  have hlocks := B.notSynchronized
  have hK := va_K.moved hx0.1.alike E.2.2.1
  have hf_SI : ∀ w99 ∈ u_ws cn_SI ft_SI 4, w99.before ([.ref si, .int (nI c8)] : List Value).toArray s = true := fun w99 h99 => gw.at G hx0 (fw_SI w99 h99) (fo_SI w99 h99) _
  subst hsz
  have hA0 := cx_new hD0 hx0.2.1
  have hD := hD0.self (sz := s.heap.size)
  generalize hAe : va_A [(si, .inr (4, [.ref sm, .int (nI ns), .ref sc, .int (nI nc)])), (sm, .inl (cI, 9, .inl (nf sk)))] s.heap.size = A at hD hA0 ⊢
  have hA : ∀ q : Nat, s.heap.size ≤ q → A q := fun q h => by rw [← hAe]; exact Or.inr h
  have hS : va_S A s.heap s.heap [] := va_S.rf
  have hl := lv_entry ([.ref si, .int (nI c8)]) (n := 2) (Nat.le_of_ble_eq_true rfl)
  rw [lg_entry_eq]
  generalize (lg_sl ([.ref si, .int (nI c8)]) ++ List.replicate (2 - (lg_sl ([.ref si, .int (nI c8)])).length) Slot.unset).toArray = ls at hl ⊢
  have hl : lv_has ls 2 [(0, .ref si), (1, .int (nI c8))] := hl
  have hP : va_P D kl [(si, .inr (4, [.ref sm, .int (nI ns), .ref sc, .int (nI nc)])), (sm, .inl (cI, 9, .inl (nf sk)))] s.heap := hP
  have hml : c.maxLocals = 2 := hml
  refine lv_aload_n hx hb d_SI_addSimplex_0 rfl (lv_at hl 0 rfl) ?_
  refine va_get (D := D) (ci := 4) (v := .int (nI ns)) (C := cn_SI) (T := ft_SI) (N := 4) hx hb hf_SI (fun _ h => h) hown hK hP 0 rfl rfl 1 (by decide) (gw.at G hx0 mw_117 rfl _) (fun _ h9 => h9) rfl d_SI_addSimplex_1 ?_
  refine lv_bipush (v := (9 : Int32)) hx hb d_SI_addSimplex_4 (by decide) ?_
  refine lv_icmp_ge (tgt := 29) hx hb d_SI_addSimplex_6 (by decide) (fun _ => ?_) (fun h99 => absurd h99 (not_not_intro ((nI_leI (a := 9) (b := ns) (by omega) (by omega)).mpr (by omega))))
  exact tx_mono (fun _ h => tx_Z.of h) (W.vret hx hb hr (fun t ht hW => ⟨⟨[(si, .inr (4, [.ref sm, .int (nI ns), .ref sc, .int (nI nc)])), (sm, .inl (cI, 9, .inl (nf sk)))], ⟨rfl, rfl⟩, by rw [ht]; exact hP.sub [0, 1] rfl, hD.sub [0, 1] (by decide) rfl⟩, hS.F ht⟩) hS.2.2 d_SI_addSimplex_29)

theorem c_SI_addSimplex {l : Launch} {s0 : State} {b0 : Addr} {D : va_G} {cI cJ cZ : ClassId} {tC tS : Nat} (E : gE l s0 b0 D cI cJ cZ tC tS) (sz : Nat) (si : Nat) (sm : Nat) (sc : Nat) (ns : Nat) (nc : Nat) (sk : Nat → Nat) (c8 : Nat) (hsk : ∀ j, sk j < 256) (hns : ns ≤ 9) (hc8 : c8 < 256) : cx_M l s0 D kl y_SI_addSimplex b_SI_addSimplex 2 none ({ frames := 0, cells := 0, slots := 0, locals := 0 } : Room) 0 0 [.ref si, .int (nI c8)] [(si, .inr (4, [.ref sm, .int (nI ns), .ref sc, .int (nI nc)])), (sm, .inl (cI, 9, .inl (nf sk)))] sz (fun o9 _ w9 => o9 = .returned none ∧ w9 = [(si, .inr (4, [.ref sm, .int (nI (adN ns)), .ref sc, .int (nI nc)])), (sm, .inl (cI, 9, .inl (nf (adF ns sk c8))))]) := by
  unfold adN adF
  by_cases h : ns < 9
  · rw [if_pos h, if_pos h]
    exact c_SI_add_y E sz si sm sc ns nc sk c8 hsk hns hc8 h
  · rw [if_neg h, if_neg h]
    exact c_SI_add_n E sz si sm sc ns nc sk c8 hsk hns hc8 h

set_option maxHeartbeats 4000000 in
set_option maxRecDepth 100000 in
theorem c_SI_pushSides {l : Launch} {s0 : State} {b0 : Addr} {D : va_G} {cI cJ cZ : ClassId} {tC tS : Nat} (E : gE l s0 b0 D cI cJ cZ tC tS) (sz : Nat) (si : Nat) (sm : Nat) (sc : Nat) (ns : Nat) (nc : Nat) (cu2 : Nat → Nat) (fl : Nat) (fm : Nat) (fd : Nat) (ft : Nat) (fc : Nat) (fn : Nat) (mk : Nat → Nat) (dk : Nat → Nat) (b : Nat) (c8 : Nat) (hcu2 : ∀ j, cu2 j < 10240) (hnc : nc ≤ 37) (hmk : ∀ j, mk j < 4096) (hdk : ∀ j, dk j < 4096) (hfn : fn ≤ 40) (hm8 : ∀ j, j < fn → mk j < 256) (hbf : b < fn) (hc8 : c8 < 256) : cx_M l s0 D kl y_SI_pushSides b_SI_pushSides 6 none ({ frames := 1, cells := 0, slots := 0, locals := 23 } : Room) 0 0 [.ref si, .ref fl, .int (nI b), .int (nI c8)] [(si, .inr (4, [.ref sm, .int (nI ns), .ref sc, .int (nI nc)])), (sc, .inl (cI, 37, .inl (nf cu2))), (fl, .inr (3, [.ref fm, .int (nI fn), .ref fd, .ref ft, .ref fc])), (fm, .inl (cI, 40, .inl (nf mk))), (fd, .inl (cI, 40, .inl (nf dk)))] sz (fun o9 _ w9 => o9 = .returned none ∧ (psh mk dk b c8 fn (nc, cu2)).1 ≤ 37 ∧ (∀ j, (psh mk dk b c8 fn (nc, cu2)).2 j < 10240) ∧ w9 = [(si, .inr (4, [.ref sm, .int (nI ns), .ref sc, .int (nI ((psh mk dk b c8 fn (nc, cu2)).1))])), (sc, .inl (cI, 37, .inl (nf (psh mk dk b c8 fn (nc, cu2)).2))), (fl, .inr (3, [.ref fm, .int (nI fn), .ref fd, .ref ft, .ref fc])), (fm, .inl (cI, 40, .inl (nf mk))), (fd, .inl (cI, 40, .inl (nf dk)))]) := by
  refine tx_ofW (cc := b_SI_pushSides) (maxL := 6) (ret := none) (by decide) rfl ?_
  intro p e s m args below meth c s₁ B hml hT hv
  obtain ⟨rfl, hsz, hP, hD0, hx0⟩ := hv
  have hx := B.exec
  have hb := B.bytes
  have hr := B.returns
  have G := E.2.1
  have hown : s.vm.findClass cn_SI = some m.cls := findClass_of_methodNamed B.named
  have hlocks := B.notSynchronized
  have hK := va_K.moved hx0.1.alike E.2.2.1
  have hf_FL : ∀ w99 ∈ u_ws cn_FL ft_FL 5, w99.before ([.ref si, .ref fl, .int (nI b), .int (nI c8)] : List Value).toArray s = true := fun w99 h99 => gw.at G hx0 (fw_FL w99 h99) (fo_FL w99 h99) _
  subst hsz
  have hA0 := cx_new hD0 hx0.2.1
  have hD := hD0.self (sz := s.heap.size)
  generalize hAe : va_A [(si, .inr (4, [.ref sm, .int (nI ns), .ref sc, .int (nI nc)])), (sc, .inl (cI, 37, .inl (nf cu2))), (fl, .inr (3, [.ref fm, .int (nI fn), .ref fd, .ref ft, .ref fc])), (fm, .inl (cI, 40, .inl (nf mk))), (fd, .inl (cI, 40, .inl (nf dk)))] s.heap.size = A at hD hA0 ⊢
  have hA : ∀ q : Nat, s.heap.size ≤ q → A q := fun q h => by rw [← hAe]; exact Or.inr h
  have hS : va_S A s.heap s.heap [] := va_S.rf
  have hl := lv_entry ([.ref si, .ref fl, .int (nI b), .int (nI c8)]) (n := 6) (Nat.le_of_ble_eq_true rfl)
  rw [lg_entry_eq]
  generalize (lg_sl ([.ref si, .ref fl, .int (nI b), .int (nI c8)]) ++ List.replicate (6 - (lg_sl ([.ref si, .ref fl, .int (nI b), .int (nI c8)])).length) Slot.unset).toArray = ls at hl ⊢
  have hl : lv_has ls 6 [(0, .ref si), (1, .ref fl), (2, .int (nI b)), (3, .int (nI c8))] := hl
  have hP : va_P D kl [(si, .inr (4, [.ref sm, .int (nI ns), .ref sc, .int (nI nc)])), (sc, .inl (cI, 37, .inl (nf cu2))), (fl, .inr (3, [.ref fm, .int (nI fn), .ref fd, .ref ft, .ref fc])), (fm, .inl (cI, 40, .inl (nf mk))), (fd, .inl (cI, 40, .inl (nf dk)))] s.heap := hP
  have hml : c.maxLocals = 6 := hml
  have hlb : lowb (mk b) < 256 := lowb_lt (hm8 b hbf)
  have hor : c8 ||| lowb (mk b) < 256 := or8 hc8 hlb
  generalize hQe : tx_Z below (cx_Q D kl A (fun o9 _ w9 => o9 = .returned none ∧ (psh mk dk b c8 fn (nc, cu2)).1 ≤ 37 ∧ (∀ j, (psh mk dk b c8 fn (nc, cu2)).2 j < 10240) ∧ w9 = [(si, .inr (4, [.ref sm, .int (nI ns), .ref sc, .int (nI ((psh mk dk b c8 fn (nc, cu2)).1))])), (sc, .inl (cI, 37, .inl (nf (psh mk dk b c8 fn (nc, cu2)).2))), (fl, .inr (3, [.ref fm, .int (nI fn), .ref fd, .ref ft, .ref fc])), (fm, .inl (cI, 40, .inl (nf mk))), (fd, .inl (cI, 40, .inl (nf dk)))])) ([.ref si, .ref fl, .int (nI b), .int (nI c8)] : List Value).toArray s 0 0 A = Q
  refine lv_aload_n hx hb d_SI_pushSides_0 rfl (lv_at hl 1 rfl) ?_
  refine va_get (D := D) (ci := 3) (v := .ref fm) (C := cn_FL) (T := ft_FL) (N := 5) hx hb hf_FL (fun _ h => h) hown hK hP 2 rfl rfl 0 (by decide) (gw.at G hx0 mw_82 rfl _) (fun _ h9 => h9) rfl d_SI_pushSides_1 ?_
  refine lv_iload_n hx hb d_SI_pushSides_4 rfl (lv_at hl 2 rfl) ?_
  refine va_iald hx hb hK hP 3 0 rfl rfl (vp_in_nI (n := b) (by omega) (by omega)) d_SI_pushSides_5 ?_
  refine tp_i (y := (nf mk) b) (congrArg (nf mk) (nI_clamp (n := b) (by omega))) ?_
  refine tp_i (y := nI (mk b)) rfl ?_
  have hb_1 := hmk b
  refine lv_aload_n hx hb d_SI_pushSides_6 rfl (lv_at hl 1 rfl) ?_
  refine va_get (D := D) (ci := 3) (v := .ref fm) (C := cn_FL) (T := ft_FL) (N := 5) hx hb hf_FL (fun _ h => h) hown hK hP 2 rfl rfl 0 (by decide) (gw.at G hx0 mw_82 rfl _) (fun _ h9 => h9) rfl d_SI_pushSides_7 ?_
  refine lv_iload_n hx hb d_SI_pushSides_10 rfl (lv_at hl 2 rfl) ?_
  refine va_iald hx hb hK hP 3 0 rfl rfl (vp_in_nI (n := b) (by omega) (by omega)) d_SI_pushSides_11 ?_
  refine tp_i (y := (nf mk) b) (congrArg (nf mk) (nI_clamp (n := b) (by omega))) ?_
  refine tp_i (y := nI (mk b)) rfl ?_
  have hb_2 := hmk b
  refine lv_ineg hx hb d_SI_pushSides_12 ?_
  refine lv_iand hx hb d_SI_pushSides_13 ?_
  refine tp_i (y := nI (lowb (mk b))) (lowb_eq (hm8 b hbf)) ?_
  refine lv_istore (lv' := [(4, .int (nI (lowb (mk b)))), (0, .ref si), (1, .ref fl), (2, .int (nI b)), (3, .int (nI c8))]) hx hb d_SI_pushSides_14 hl (by decide) rfl (fun ls hl => ?_)
  refine lv_iconst (v := (0 : Int32)) hx hb d_SI_pushSides_16 (by decide) ?_
  refine lv_istore (lv' := [(5, .int (0 : Int32)), (4, .int (nI (lowb (mk b)))), (0, .ref si), (1, .ref fl), (2, .int (nI b)), (3, .int (nI c8))]) hx hb d_SI_pushSides_17 hl (by decide) rfl (fun ls hl => ?_)
  have lp_19 : ∀ (n9 : Nat) (q : Nat) (n2 : Nat) (f2 : Nat → Nat) (ls : Array Slot) (H : Heap) (locs : List Loc), fn - q = n9 → (psh mk dk b c8 q (nc, cu2) = (n2, f2)) → (q ≤ fn) → (n2 ≤ 37) → (∀ j, f2 j < 10240) → lv_has ls 6 [(5, .int (nI q)), (4, .int (nI (lowb (mk b)))), (0, .ref si), (1, .ref fl), (2, .int (nI b)), (3, .int (nI c8))] → va_P D kl [(si, .inr (4, [.ref sm, .int (nI ns), .ref sc, .int (nI n2)])), (sc, .inl (cI, 37, .inl (nf f2))), (fl, .inr (3, [.ref fm, .int (nI fn), .ref fd, .ref ft, .ref fc])), (fm, .inl (cI, 40, .inl (nf mk))), (fd, .inl (cI, 40, .inl (nf dk)))] H → va_D A [(si, .inr (4, [.ref sm, .int (nI ns), .ref sc, .int (nI n2)])), (sc, .inl (cI, 37, .inl (nf f2))), (fl, .inr (3, [.ref fm, .int (nI fn), .ref fd, .ref ft, .ref fc])), (fm, .inl (cI, 40, .inl (nf mk))), (fd, .inl (cI, 40, .inl (nf dk)))] → va_S A s.heap H locs → W p l e ({ frames := 1, cells := 0, slots := 0, locals := 23 } : Room) s m ([.ref si, .ref fl, .int (nI b), .int (nI c8)] : List Value).toArray below meth c H locs 0 0 Q (F0 m 19 ls []) := by
    intro n9
    induction n9 using Nat.strongRecOn with
    | ind n9 ih_19 =>
      intro q n2 f2 ls H locs hm_19 hp2 hq hn2 hf2 hl hP hD hS
      refine lv_iload hx hb d_SI_pushSides_19 (lv_at hl 0 rfl) ?_
      refine lv_aload_n hx hb d_SI_pushSides_21 rfl (lv_at hl 3 rfl) ?_
      refine va_get (D := D) (ci := 3) (v := .int (nI fn)) (C := cn_FL) (T := ft_FL) (N := 5) hx hb hf_FL (fun _ h => h) hown hK hP 2 rfl rfl 1 (by decide) (gw.at G hx0 mw_84 rfl _) (fun _ h9 => h9) rfl d_SI_pushSides_22 ?_
      refine lv_icmp_ge (tgt := 56) hx hb d_SI_pushSides_25 (by decide) (fun h_3 => ?_) (fun h_3 => ?_)
      · have h_3 : fn ≤ q := (nI_leI (a := fn) (b := q) (by omega) (by omega)).mp h_3
        have ho9 : psh mk dk b c8 fn (nc, cu2) = (n2, f2) := by
          have h0 : q = fn := by omega
          exact h0 ▸ hp2
        have e1 : (psh mk dk b c8 fn (nc, cu2)).1 = n2 := by rw [ho9]
        have e2 : (psh mk dk b c8 fn (nc, cu2)).2 = f2 := by rw [ho9]
        clear hp2 ho9
        subst e1 e2
        rw [← hQe]
        exact tx_mono (fun _ h => tx_Z.of h) (W.vret hx hb hr (fun t ht hW => ⟨⟨[(si, .inr (4, [.ref sm, .int (nI ns), .ref sc, .int (nI ((psh mk dk b c8 fn (nc, cu2)).1))])), (sc, .inl (cI, 37, .inl (nf ((psh mk dk b c8 fn (nc, cu2)).2)))), (fl, .inr (3, [.ref fm, .int (nI fn), .ref fd, .ref ft, .ref fc])), (fm, .inl (cI, 40, .inl (nf mk))), (fd, .inl (cI, 40, .inl (nf dk)))], ⟨rfl, hn2, hf2, rfl⟩, by rw [ht]; exact hP.sub [0, 1, 2, 3, 4] rfl, hD.sub [0, 1, 2, 3, 4] (by decide) rfl⟩, hS.F ht⟩) hS.2.2 d_SI_pushSides_56)
      · have h_3 : ¬ (fn ≤ q) := fun z99 => h_3 ((nI_leI (a := fn) (b := q) (by omega) (by omega)).mpr z99)
        refine lv_aload_n hx hb d_SI_pushSides_28 rfl (lv_at hl 3 rfl) ?_
        refine lv_iload hx hb d_SI_pushSides_29 (lv_at hl 0 rfl) ?_
        refine lv_iload_n hx hb d_SI_pushSides_31 rfl (lv_at hl 4 rfl) ?_
        refine lv_iload hx hb d_SI_pushSides_32 (lv_at hl 1 rfl) ?_
        by_cases h_4 : sdw mk dk q b (nI (lowb (mk b)))
        · refine cx_call (D := D) (cl := kl) (ws := _) (wc := [(fl, .inr (3, [.ref fm, .int (nI fn), .ref fd, .ref ft, .ref fc])), (fm, .inl (cI, 40, .inl (nf mk))), (fd, .inl (cI, 40, .inl (nf dk)))]) (wr := [(si, .inr (4, [.ref sm, .int (nI ns), .ref sc, .int (nI n2)])), (sc, .inl (cI, 37, .inl (nf f2)))]) (tx_runV (C := cn_FL) (b := fl) (As := [.int (nI q), .int (nI b), .int (nI (lowb (mk b)))]) (rest := []) hx hb hml hown (c_FL_side_y E H.size fl fm fd ft fc fn mk dk q b (nI (lowb (mk b))) hmk hdk (by omega) (by omega) h_4) (cx_C (b0 := b0) G hx0 mw_545 mw_5 ny_FL_isSideWithout (by decide)) (gw.at G hx0 mw_542 rfl _) (gw.at G hx0 mw_543 rfl _) (gw.at G hx0 mw_544 rfl _) ⟨cx_blind, va_recv hK hP (q0 := 2) (ci := 3) (q := (cn_FL, ft_FL, 5)) rfl rfl, (cx_pre (s := s) hx0 hP hD hS hA0 [2, 3, 4] rfl rfl (by decide))⟩ rfl rfl hl.1 rfl (lv_room (Nat.le_of_ble_eq_true rfl)) d_SI_pushSides_34 ⟨by decide, by decide⟩) hP hD hS hA [2, 3, 4] [0, 1] rfl rfl (by decide) (by decide) (fun v t w1 H locs ht hW9 hp hP hD hS => ?_) (fun x t w1 H locs ht hW9 hp hP hD hS => by obtain ⟨h9, -⟩ := hp; cases h9)
          obtain ⟨h9, rfl⟩ := hp
          cases h9
          refine W.eq (g2 := F0 m 37 ls [.int (1 : Int32)]) rfl ?_
          refine W.widen (k := 0) (n := 0) (by decide) (by decide) ?_
          have hP : va_P D kl [(si, .inr (4, [.ref sm, .int (nI ns), .ref sc, .int (nI n2)])), (sc, .inl (cI, 37, .inl (nf f2))), (fl, .inr (3, [.ref fm, .int (nI fn), .ref fd, .ref ft, .ref fc])), (fm, .inl (cI, 40, .inl (nf mk))), (fd, .inl (cI, 40, .inl (nf dk)))] H := hP
          have hD : va_D A [(si, .inr (4, [.ref sm, .int (nI ns), .ref sc, .int (nI n2)])), (sc, .inl (cI, 37, .inl (nf f2))), (fl, .inr (3, [.ref fm, .int (nI fn), .ref fd, .ref ft, .ref fc])), (fm, .inl (cI, 40, .inl (nf mk))), (fd, .inl (cI, 40, .inl (nf dk)))] := hD
          refine lv_if_eq (tgt := 50) hx hb d_SI_pushSides_37 (by decide) (fun h99 => absurd h99 (by decide)) (fun _ => ?_)
          refine lv_aload_n hx hb d_SI_pushSides_40 rfl (lv_at hl 2 rfl) ?_
          refine lv_iload hx hb d_SI_pushSides_41 (lv_at hl 0 rfl) ?_
          refine lv_iload_n hx hb d_SI_pushSides_43 rfl (lv_at hl 5 rfl) ?_
          refine lv_iload hx hb d_SI_pushSides_44 (lv_at hl 1 rfl) ?_
          refine lv_ior hx hb d_SI_pushSides_46 ?_
          refine tp_i (y := nI (c8 ||| (lowb (mk b)))) (nI_or c8 (lowb (mk b))) ?_
          refine cx_call (D := D) (cl := kl) (ws := _) (wc := [(si, .inr (4, [.ref sm, .int (nI ns), .ref sc, .int (nI n2)])), (sc, .inl (cI, 37, .inl (nf f2)))]) (wr := [(fl, .inr (3, [.ref fm, .int (nI fn), .ref fd, .ref ft, .ref fc])), (fm, .inl (cI, 40, .inl (nf mk))), (fd, .inl (cI, 40, .inl (nf dk)))]) (tx_runV (C := cn_SI) (b := si) (As := [.int (nI q), .int (nI (c8 ||| (lowb (mk b))))]) (rest := []) hx hb hml hown (c_SI_pushCut E H.size si sm sc ns n2 f2 q (c8 ||| (lowb (mk b))) hf2 hn2 (by omega) hor) (cx_C (b0 := b0) G hx0 mw_532 mw_7 ny_SI_pushCut (by decide)) (gw.at G hx0 mw_529 rfl _) (gw.at G hx0 mw_531 rfl _) (gw.at G hx0 ms_SI_pushCut rfl _) ⟨cx_blind, va_recv hK hP (q0 := 0) (ci := 4) (q := (cn_SI, ft_SI, 4)) rfl rfl, (cx_pre (s := s) hx0 hP hD hS hA0 [0, 1] rfl rfl (by decide))⟩ rfl rfl hl.1 rfl (lv_room (Nat.le_of_ble_eq_true rfl)) d_SI_pushSides_47 ⟨by decide, by decide⟩) hP hD hS hA [0, 1] [2, 3, 4] rfl rfl (by decide) (by decide) (fun v t w1 H locs ht hW9 hp hP hD hS => ?_) (fun x t w1 H locs ht hW9 hp hP hD hS => by obtain ⟨h9, -⟩ := hp; cases h9)
          obtain ⟨h9, rfl⟩ := hp
          cases h9
          refine W.eq (g2 := F0 m 50 ls []) rfl ?_
          refine W.widen (k := 0) (n := 0) (by decide) (by decide) ?_
          have hP : va_P D kl [(fl, .inr (3, [.ref fm, .int (nI fn), .ref fd, .ref ft, .ref fc])), (fm, .inl (cI, 40, .inl (nf mk))), (fd, .inl (cI, 40, .inl (nf dk))), (si, .inr (4, [.ref sm, .int (nI ns), .ref sc, .int (nI (pcN n2))])), (sc, .inl (cI, 37, .inl (nf (pcF n2 f2 (q * 256 ||| (c8 ||| (lowb (mk b))))))))] H := hP
          have hD : va_D A [(fl, .inr (3, [.ref fm, .int (nI fn), .ref fd, .ref ft, .ref fc])), (fm, .inl (cI, 40, .inl (nf mk))), (fd, .inl (cI, 40, .inl (nf dk))), (si, .inr (4, [.ref sm, .int (nI ns), .ref sc, .int (nI (pcN n2))])), (sc, .inl (cI, 37, .inl (nf (pcF n2 f2 (q * 256 ||| (c8 ||| (lowb (mk b))))))))] := hD
          refine lv_iinc (lv' := [(5, .int (nI (q + 1))), (4, .int (nI (lowb (mk b)))), (0, .ref si), (1, .ref fl), (2, .int (nI b)), (3, .int (nI c8))]) (k := 0) (v := nI (q + 1)) hx hb d_SI_pushSides_50 hl rfl (nI_add q 1) (by decide) rfl (fun ls hl => ?_)
          refine lv_goto (tgt := 19) hx hb d_SI_pushSides_53 (by decide) ?_
          exact ih_19 _ (by omega) (q + 1) (pcN n2) (pcF n2 f2 (q * 256 ||| (c8 ||| lowb (mk b)))) ls H locs rfl (psh_y hp2 h_4) (by omega) (pcN_le hn2) (pcF_lt hf2 (cut_lt (by omega) hor)) (lv_sub hl [0, 1, 2, 3, 4, 5] rfl) (hP.sub [3, 4, 0, 1, 2] rfl) (hD.sub [3, 4, 0, 1, 2] (by decide) rfl) hS
        · refine cx_call (D := D) (cl := kl) (ws := _) (wc := [(fl, .inr (3, [.ref fm, .int (nI fn), .ref fd, .ref ft, .ref fc])), (fm, .inl (cI, 40, .inl (nf mk))), (fd, .inl (cI, 40, .inl (nf dk)))]) (wr := [(si, .inr (4, [.ref sm, .int (nI ns), .ref sc, .int (nI n2)])), (sc, .inl (cI, 37, .inl (nf f2)))]) (tx_runV (C := cn_FL) (b := fl) (As := [.int (nI q), .int (nI b), .int (nI (lowb (mk b)))]) (rest := []) hx hb hml hown (c_FL_side_n E H.size fl fm fd ft fc fn mk dk q b (nI (lowb (mk b))) hmk hdk (by omega) (by omega) h_4) (cx_C (b0 := b0) G hx0 mw_545 mw_5 ny_FL_isSideWithout (by decide)) (gw.at G hx0 mw_542 rfl _) (gw.at G hx0 mw_543 rfl _) (gw.at G hx0 mw_544 rfl _) ⟨cx_blind, va_recv hK hP (q0 := 2) (ci := 3) (q := (cn_FL, ft_FL, 5)) rfl rfl, (cx_pre (s := s) hx0 hP hD hS hA0 [2, 3, 4] rfl rfl (by decide))⟩ rfl rfl hl.1 rfl (lv_room (Nat.le_of_ble_eq_true rfl)) d_SI_pushSides_34 ⟨by decide, by decide⟩) hP hD hS hA [2, 3, 4] [0, 1] rfl rfl (by decide) (by decide) (fun v t w1 H locs ht hW9 hp hP hD hS => ?_) (fun x t w1 H locs ht hW9 hp hP hD hS => by obtain ⟨h9, -⟩ := hp; cases h9)
          obtain ⟨h9, rfl⟩ := hp
          cases h9
          refine W.eq (g2 := F0 m 37 ls [.int (0 : Int32)]) rfl ?_
          refine W.widen (k := 0) (n := 0) (by decide) (by decide) ?_
          have hP : va_P D kl [(si, .inr (4, [.ref sm, .int (nI ns), .ref sc, .int (nI n2)])), (sc, .inl (cI, 37, .inl (nf f2))), (fl, .inr (3, [.ref fm, .int (nI fn), .ref fd, .ref ft, .ref fc])), (fm, .inl (cI, 40, .inl (nf mk))), (fd, .inl (cI, 40, .inl (nf dk)))] H := hP
          have hD : va_D A [(si, .inr (4, [.ref sm, .int (nI ns), .ref sc, .int (nI n2)])), (sc, .inl (cI, 37, .inl (nf f2))), (fl, .inr (3, [.ref fm, .int (nI fn), .ref fd, .ref ft, .ref fc])), (fm, .inl (cI, 40, .inl (nf mk))), (fd, .inl (cI, 40, .inl (nf dk)))] := hD
          refine lv_if_eq (tgt := 50) hx hb d_SI_pushSides_37 (by decide) (fun _ => ?_) (fun h99 => absurd h99 (by decide))
          refine lv_iinc (lv' := [(5, .int (nI (q + 1))), (4, .int (nI (lowb (mk b)))), (0, .ref si), (1, .ref fl), (2, .int (nI b)), (3, .int (nI c8))]) (k := 0) (v := nI (q + 1)) hx hb d_SI_pushSides_50 hl rfl (nI_add q 1) (by decide) rfl (fun ls hl => ?_)
          refine lv_goto (tgt := 19) hx hb d_SI_pushSides_53 (by decide) ?_
          exact ih_19 _ (by omega) (q + 1) n2 f2 ls H locs rfl (by rw [psh_n h_4]; exact hp2) (by omega) hn2 hf2 (lv_sub hl [0, 1, 2, 3, 4, 5] rfl) (hP.sub [0, 1, 2, 3, 4] rfl) (hD.sub [0, 1, 2, 3, 4] (by decide) rfl) hS
  exact lp_19 _ 0 nc cu2 ls s.heap [] rfl rfl (Nat.zero_le _) hnc hcu2 (lv_sub hl [0, 1, 2, 3, 4, 5] rfl) (hP.sub [0, 1, 2, 3, 4] rfl) (hD.sub [0, 1, 2, 3, 4] (by decide) rfl) hS

