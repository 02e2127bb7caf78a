/-! ===== own rows, laid by wip/tools/sym.py: InnerPoints.findSteps ===== -/
theorem andn {ch e : Nat} (hc : ch < 256) (he : e < 12) : nI ch &&& (nI (2 ^ e) ^^^ (-1 : Int32)) = nI (ch ^^^ (ch &&& 2 ^ e)) := by
  have h1 : ∀ ch, ch < 256 → ∀ e, e < 12 → nI ch &&& (nI (2 ^ e) ^^^ (-1 : Int32)) = nI (ch ^^^ (ch &&& 2 ^ e)) := by decide +kernel
  exact h1 ch hc e he
theorem andn_lt {ch e : Nat} (hc : ch < 256) : ch ^^^ (ch &&& 2 ^ e) < 256 := Nat.xor_lt_two_pow (n := 8) hc (Nat.lt_of_le_of_lt Nat.and_le_left hc)
def sgn (q : Nat) (x : Int64) : Int64 := if nI q - nI q / 2 * 2 = 0 then x else -x
/-- the shares by the determinants fa, written into the first t steps from k0 on -/
def fsi (ix : Int32) (fa : Nat → Int64) (q k0 : Nat) : Nat → (Nat → Int32) → (Nat → Int32)
  | 0, f => f
  | t + 1, f => upd (fsi ix fa q k0 t f) (k0 + t) (fsi ix fa q k0 t f (k0 + t) ||| rsf ix (sgn q (fa (chN (k0 + t)))) <<< (nI (q * 4) &&& 31))
theorem fsi_s {ix : Int32} {fa : Nat → Int64} {q k0 t : Nat} {f f4 : Nat → Int32} (h : fsi ix fa q k0 t f = f4) : fsi ix fa q k0 (t + 1) f = upd f4 (k0 + t) (f4 (k0 + t) ||| rsf ix (sgn q (fa (chN (k0 + t)))) <<< (nI (q * 4) &&& 31)) := by
  show upd (fsi ix fa q k0 t f) (k0 + t) (fsi ix fa q k0 t f (k0 + t) ||| rsf ix (sgn q (fa (chN (k0 + t)))) <<< (nI (q * 4) &&& 31)) = _
  rw [h]
theorem chN_lev {j t : Nat} (hj : j ≤ 4) (ht : csN j + t < csN (j + 1)) : chN (csN j + t) ∈ lev j := by
  have h1 : ∀ j, j < 5 → ∀ t, t < 16 → csN j + t < csN (j + 1) → chN (csN j + t) ∈ lev j := by decide +kernel
  have h2 := csN_le (j := j + 1) (by omega)
  exact h1 j (by omega) t (by omega) ht
theorem fsi_lev {ix : Int32} {fa fb : Nat → Int64} {q j : Nat} {f : Nat → Int32} (hj : j ≤ 4) (h : ∀ m ∈ lev j, fa m = fb m) : ∀ t, csN j + t ≤ csN (j + 1) → fsi ix fa q (csN j) t f = fsi ix fb q (csN j) t f
  | 0, _ => rfl
  | t + 1, ht => by
    rw [fsi_s (fsi_lev hj h t (by omega)), fsi_s (fa := fb) rfl, h _ (chN_lev hj (by omega))]
noncomputable def stp (ix : Int32) (yf : Nat → Int32) (yn ch : Nat) (ek : Nat → Nat) : Nat → (Nat → Int32) → (Nat → Int32)
  | 0, f => f
  | q + 1, f => fsi ix (lst yf (ch ^^^ (ch &&& 2 ^ ek q)) yn).2 q (csN (lst yf (ch ^^^ (ch &&& 2 ^ ek q)) yn).1) (csN ((lst yf (ch ^^^ (ch &&& 2 ^ ek q)) yn).1 + 1) - csN (lst yf (ch ^^^ (ch &&& 2 ^ ek q)) yn).1) (stp ix yf yn ch ek q f)
theorem csN_mono {j : Nat} (h : j ≤ 4) : csN j ≤ csN (j + 1) := by
  have h1 : ∀ j, j < 5 → csN j ≤ csN (j + 1) := by decide +kernel
  exact h1 j (by omega)
theorem stp_s {ix : Int32} {yf : Nat → Int32} {yn ch q : Nat} {ek : Nat → Nat} {f f2 f4 : Nat → Int32} {fa : Nat → Int64} {t : Nat} (h : stp ix yf yn ch ek q f = f2) (hl : ∀ m ∈ lev (lst yf (ch ^^^ (ch &&& 2 ^ ek q)) yn).1, fa m = (lst yf (ch ^^^ (ch &&& 2 ^ ek q)) yn).2 m)
    (h4 : fsi ix fa q (csN (lst yf (ch ^^^ (ch &&& 2 ^ ek q)) yn).1) t f2 = f4) (ht : csN (lst yf (ch ^^^ (ch &&& 2 ^ ek q)) yn).1 + t = csN ((lst yf (ch ^^^ (ch &&& 2 ^ ek q)) yn).1 + 1)) : stp ix yf yn ch ek (q + 1) f = f4 := by
  show fsi ix (lst yf (ch ^^^ (ch &&& 2 ^ ek q)) yn).2 q (csN (lst yf (ch ^^^ (ch &&& 2 ^ ek q)) yn).1) (csN ((lst yf (ch ^^^ (ch &&& 2 ^ ek q)) yn).1 + 1) - csN (lst yf (ch ^^^ (ch &&& 2 ^ ek q)) yn).1) (stp ix yf yn ch ek q f) = f4
  rw [h, show csN ((lst yf (ch ^^^ (ch &&& 2 ^ ek q)) yn).1 + 1) - csN (lst yf (ch ^^^ (ch &&& 2 ^ ek q)) yn).1 = t by omega, ← h4]
  exact (fsi_lev (lst_le _ _ _) hl t (by omega)).symm
def z16 (g : Nat → Int32) : Nat → Int32 := upd (upd (upd (upd (upd (upd (upd (upd (upd (upd (upd (upd (upd (upd (upd (upd g 0 (0 : Int32)) 1 (0 : Int32)) 2 (0 : Int32)) 3 (0 : Int32)) 4 (0 : Int32)) 5 (0 : Int32)) 6 (0 : Int32)) 7 (0 : Int32)) 8 (0 : Int32)) 9 (0 : Int32)) 10 (0 : Int32)) 11 (0 : Int32)) 12 (0 : Int32)) 13 (0 : Int32)) 14 (0 : Int32)) 15 (0 : Int32)
set_option maxHeartbeats 4000000 in
set_option maxRecDepth 100000 in
theorem c_JA_fill16 {l : Launch} {s0 : State} {b0 : Addr} {D : va_G} {cI cJ cZ : ClassId} {tC tS : Nat} (E : gE l s0 b0 D cI cJ cZ tC tS) (sz : Nat) (ga : Nat) (g : Nat → Int32) : cx_M l s0 D kl y_JA_fill b_JA_fill 4 none ({ frames := 0, cells := 0, slots := 0, locals := 0 } : Room) 0 0 [.ref ga, .int (0 : Int32)] [(ga, .inl (cI, 16, .inl g))] sz (fun o9 _ w9 => o9 = .returned none ∧ w9 = [(ga, .inl (cI, 16, .inl (z16 g)))]) := by
  refine tx_ofW (cc := b_JA_fill) (maxL := 4) (ret := none) (by decide) rfl ?_
  intro p e s m args below meth c s₁ B hml hT hv
  obtain ⟨rfl, hsz, hP, hD0, hx0⟩ := hv
  have hx := B.exec
  have hb := B.bytes
  have hr := B.returns
  have G := E.2.1
  have hown : s.vm.findClass cn_JA = some m.cls := findClass_of_methodNamed B.named
  have hlocks := B.notSynchronized
  have hK := va_K.moved hx0.1.alike E.2.2.1
  subst hsz
  have hA0 := cx_new hD0 hx0.2.1
  have hD := hD0.self (sz := s.heap.size)
  generalize hAe : va_A [(ga, .inl (cI, 16, .inl g))] s.heap.size = A at hD hA0 ⊢
  have hA : ∀ q : Nat, s.heap.size ≤ q → A q := fun q h => by rw [← hAe]; exact Or.inr h
  have hS : va_S A s.heap s.heap [] := va_S.rf
  have hl := lv_entry ([.ref ga, .int (0 : Int32)]) (n := 4) (Nat.le_of_ble_eq_true rfl)
  rw [lg_entry_eq]
  generalize (lg_sl ([.ref ga, .int (0 : Int32)]) ++ List.replicate (4 - (lg_sl ([.ref ga, .int (0 : Int32)])).length) Slot.unset).toArray = ls at hl ⊢
  have hl : lv_has ls 4 [(0, .ref ga), (1, .int (0 : Int32))] := hl
  have hP : va_P D kl [(ga, .inl (cI, 16, .inl g))] s.heap := hP
  have hml : c.maxLocals = 4 := hml
  refine lv_iconst (v := (0 : Int32)) hx hb d_JA_fill_0 (by decide) ?_
  refine lv_istore_n (lv' := [(2, .int (0 : Int32)), (0, .ref ga), (1, .int (0 : Int32))]) hx hb d_JA_fill_1 rfl hl (by decide) rfl (fun ls hl => ?_)
  refine lv_aload_n hx hb d_JA_fill_2 rfl (lv_at hl 1 rfl) ?_
  refine va_alen (v := (16 : Int32)) hx hb hK hP 0 0 rfl rfl (by rfl) d_JA_fill_3 ?_
  refine lv_istore_n (lv' := [(3, .int (16 : Int32)), (2, .int (0 : Int32)), (0, .ref ga), (1, .int (0 : Int32))]) hx hb d_JA_fill_4 rfl hl (by decide) rfl (fun ls hl => ?_)
  refine lv_iload_n hx hb d_JA_fill_5 rfl (lv_at hl 1 rfl) ?_
  refine lv_iload_n hx hb d_JA_fill_6 rfl (lv_at hl 0 rfl) ?_
  refine lv_icmp_ge (tgt := 20) hx hb d_JA_fill_7 (by decide) (fun h99 => absurd h99 (by decide)) (fun _ => ?_)
  refine lv_aload_n hx hb d_JA_fill_10 rfl (lv_at hl 2 rfl) ?_
  refine lv_iload_n hx hb d_JA_fill_11 rfl (lv_at hl 1 rfl) ?_
  refine lv_iload_n hx hb d_JA_fill_12 rfl (lv_at hl 3 rfl) ?_
  refine va_iast hx hb hK hP hD hS 0 0 rfl rfl (vp_in_iff.mpr (by decide)) d_JA_fill_13 (fun H locs hP hD hS => ?_)
  have hP : va_P D kl [(ga, .inl (cI, 16, .inl (upd g 0 (0 : Int32))))] H := hP
  have hD : va_D A [(ga, .inl (cI, 16, .inl (upd g 0 (0 : Int32))))] := hD
  refine lv_iinc (lv' := [(2, .int (1 : Int32)), (3, .int (16 : Int32)), (0, .ref ga), (1, .int (0 : Int32))]) (k := 1) (v := (1 : Int32)) hx hb d_JA_fill_14 hl rfl (by decide) (by decide) rfl (fun ls hl => ?_)
  refine lv_goto (tgt := 5) hx hb d_JA_fill_17 (by decide) ?_
  refine lv_iload_n hx hb d_JA_fill_5 rfl (lv_at hl 0 rfl) ?_
  refine lv_iload_n hx hb d_JA_fill_6 rfl (lv_at hl 1 rfl) ?_
  refine lv_icmp_ge (tgt := 20) hx hb d_JA_fill_7 (by decide) (fun h99 => absurd h99 (by decide)) (fun _ => ?_)
  refine lv_aload_n hx hb d_JA_fill_10 rfl (lv_at hl 2 rfl) ?_
  refine lv_iload_n hx hb d_JA_fill_11 rfl (lv_at hl 0 rfl) ?_
  refine lv_iload_n hx hb d_JA_fill_12 rfl (lv_at hl 3 rfl) ?_
  refine va_iast hx hb hK hP hD hS 0 0 rfl rfl (vp_in_iff.mpr (by decide)) d_JA_fill_13 (fun H locs hP hD hS => ?_)
  have hP : va_P D kl [(ga, .inl (cI, 16, .inl (upd (upd g 0 (0 : Int32)) 1 (0 : Int32))))] H := hP
  have hD : va_D A [(ga, .inl (cI, 16, .inl (upd (upd g 0 (0 : Int32)) 1 (0 : Int32))))] := hD
  refine lv_iinc (lv' := [(2, .int (2 : Int32)), (3, .int (16 : Int32)), (0, .ref ga), (1, .int (0 : Int32))]) (k := 0) (v := (2 : Int32)) hx hb d_JA_fill_14 hl rfl (by decide) (by decide) rfl (fun ls hl => ?_)
  refine lv_goto (tgt := 5) hx hb d_JA_fill_17 (by decide) ?_
  refine lv_iload_n hx hb d_JA_fill_5 rfl (lv_at hl 0 rfl) ?_
  refine lv_iload_n hx hb d_JA_fill_6 rfl (lv_at hl 1 rfl) ?_
  refine lv_icmp_ge (tgt := 20) hx hb d_JA_fill_7 (by decide) (fun h99 => absurd h99 (by decide)) (fun _ => ?_)
  refine lv_aload_n hx hb d_JA_fill_10 rfl (lv_at hl 2 rfl) ?_
  refine lv_iload_n hx hb d_JA_fill_11 rfl (lv_at hl 0 rfl) ?_
  refine lv_iload_n hx hb d_JA_fill_12 rfl (lv_at hl 3 rfl) ?_
  refine va_iast hx hb hK hP hD hS 0 0 rfl rfl (vp_in_iff.mpr (by decide)) d_JA_fill_13 (fun H locs hP hD hS => ?_)
  have hP : va_P D kl [(ga, .inl (cI, 16, .inl (upd (upd (upd g 0 (0 : Int32)) 1 (0 : Int32)) 2 (0 : Int32))))] H := hP
  have hD : va_D A [(ga, .inl (cI, 16, .inl (upd (upd (upd g 0 (0 : Int32)) 1 (0 : Int32)) 2 (0 : Int32))))] := hD
  refine lv_iinc (lv' := [(2, .int (3 : Int32)), (3, .int (16 : Int32)), (0, .ref ga), (1, .int (0 : Int32))]) (k := 0) (v := (3 : Int32)) hx hb d_JA_fill_14 hl rfl (by decide) (by decide) rfl (fun ls hl => ?_)
  refine lv_goto (tgt := 5) hx hb d_JA_fill_17 (by decide) ?_
  refine lv_iload_n hx hb d_JA_fill_5 rfl (lv_at hl 0 rfl) ?_
  refine lv_iload_n hx hb d_JA_fill_6 rfl (lv_at hl 1 rfl) ?_
  refine lv_icmp_ge (tgt := 20) hx hb d_JA_fill_7 (by decide) (fun h99 => absurd h99 (by decide)) (fun _ => ?_)
  refine lv_aload_n hx hb d_JA_fill_10 rfl (lv_at hl 2 rfl) ?_
  refine lv_iload_n hx hb d_JA_fill_11 rfl (lv_at hl 0 rfl) ?_
  refine lv_iload_n hx hb d_JA_fill_12 rfl (lv_at hl 3 rfl) ?_
  refine va_iast hx hb hK hP hD hS 0 0 rfl rfl (vp_in_iff.mpr (by decide)) d_JA_fill_13 (fun H locs hP hD hS => ?_)
  have hP : va_P D kl [(ga, .inl (cI, 16, .inl (upd (upd (upd (upd g 0 (0 : Int32)) 1 (0 : Int32)) 2 (0 : Int32)) 3 (0 : Int32))))] H := hP
  have hD : va_D A [(ga, .inl (cI, 16, .inl (upd (upd (upd (upd g 0 (0 : Int32)) 1 (0 : Int32)) 2 (0 : Int32)) 3 (0 : Int32))))] := hD
  refine lv_iinc (lv' := [(2, .int (4 : Int32)), (3, .int (16 : Int32)), (0, .ref ga), (1, .int (0 : Int32))]) (k := 0) (v := (4 : Int32)) hx hb d_JA_fill_14 hl rfl (by decide) (by decide) rfl (fun ls hl => ?_)
  refine lv_goto (tgt := 5) hx hb d_JA_fill_17 (by decide) ?_
  refine lv_iload_n hx hb d_JA_fill_5 rfl (lv_at hl 0 rfl) ?_
  refine lv_iload_n hx hb d_JA_fill_6 rfl (lv_at hl 1 rfl) ?_
  refine lv_icmp_ge (tgt := 20) hx hb d_JA_fill_7 (by decide) (fun h99 => absurd h99 (by decide)) (fun _ => ?_)
  refine lv_aload_n hx hb d_JA_fill_10 rfl (lv_at hl 2 rfl) ?_
  refine lv_iload_n hx hb d_JA_fill_11 rfl (lv_at hl 0 rfl) ?_
  refine lv_iload_n hx hb d_JA_fill_12 rfl (lv_at hl 3 rfl) ?_
  refine va_iast hx hb hK hP hD hS 0 0 rfl rfl (vp_in_iff.mpr (by decide)) d_JA_fill_13 (fun H locs hP hD hS => ?_)
  have hP : va_P D kl [(ga, .inl (cI, 16, .inl (upd (upd (upd (upd (upd g 0 (0 : Int32)) 1 (0 : Int32)) 2 (0 : Int32)) 3 (0 : Int32)) 4 (0 : Int32))))] H := hP
  have hD : va_D A [(ga, .inl (cI, 16, .inl (upd (upd (upd (upd (upd g 0 (0 : Int32)) 1 (0 : Int32)) 2 (0 : Int32)) 3 (0 : Int32)) 4 (0 : Int32))))] := hD
  refine lv_iinc (lv' := [(2, .int (5 : Int32)), (3, .int (16 : Int32)), (0, .ref ga), (1, .int (0 : Int32))]) (k := 0) (v := (5 : Int32)) hx hb d_JA_fill_14 hl rfl (by decide) (by decide) rfl (fun ls hl => ?_)
  refine lv_goto (tgt := 5) hx hb d_JA_fill_17 (by decide) ?_
  refine lv_iload_n hx hb d_JA_fill_5 rfl (lv_at hl 0 rfl) ?_
  refine lv_iload_n hx hb d_JA_fill_6 rfl (lv_at hl 1 rfl) ?_
  refine lv_icmp_ge (tgt := 20) hx hb d_JA_fill_7 (by decide) (fun h99 => absurd h99 (by decide)) (fun _ => ?_)
  refine lv_aload_n hx hb d_JA_fill_10 rfl (lv_at hl 2 rfl) ?_
  refine lv_iload_n hx hb d_JA_fill_11 rfl (lv_at hl 0 rfl) ?_
  refine lv_iload_n hx hb d_JA_fill_12 rfl (lv_at hl 3 rfl) ?_
  refine va_iast hx hb hK hP hD hS 0 0 rfl rfl (vp_in_iff.mpr (by decide)) d_JA_fill_13 (fun H locs hP hD hS => ?_)
  have hP : va_P D kl [(ga, .inl (cI, 16, .inl (upd (upd (upd (upd (upd (upd g 0 (0 : Int32)) 1 (0 : Int32)) 2 (0 : Int32)) 3 (0 : Int32)) 4 (0 : Int32)) 5 (0 : Int32))))] H := hP
  have hD : va_D A [(ga, .inl (cI, 16, .inl (upd (upd (upd (upd (upd (upd g 0 (0 : Int32)) 1 (0 : Int32)) 2 (0 : Int32)) 3 (0 : Int32)) 4 (0 : Int32)) 5 (0 : Int32))))] := hD
  refine lv_iinc (lv' := [(2, .int (6 : Int32)), (3, .int (16 : Int32)), (0, .ref ga), (1, .int (0 : Int32))]) (k := 0) (v := (6 : Int32)) hx hb d_JA_fill_14 hl rfl (by decide) (by decide) rfl (fun ls hl => ?_)
  refine lv_goto (tgt := 5) hx hb d_JA_fill_17 (by decide) ?_
  refine lv_iload_n hx hb d_JA_fill_5 rfl (lv_at hl 0 rfl) ?_
  refine lv_iload_n hx hb d_JA_fill_6 rfl (lv_at hl 1 rfl) ?_
  refine lv_icmp_ge (tgt := 20) hx hb d_JA_fill_7 (by decide) (fun h99 => absurd h99 (by decide)) (fun _ => ?_)
  refine lv_aload_n hx hb d_JA_fill_10 rfl (lv_at hl 2 rfl) ?_
  refine lv_iload_n hx hb d_JA_fill_11 rfl (lv_at hl 0 rfl) ?_
  refine lv_iload_n hx hb d_JA_fill_12 rfl (lv_at hl 3 rfl) ?_
  refine va_iast hx hb hK hP hD hS 0 0 rfl rfl (vp_in_iff.mpr (by decide)) d_JA_fill_13 (fun H locs hP hD hS => ?_)
  have hP : va_P D kl [(ga, .inl (cI, 16, .inl (upd (upd (upd (upd (upd (upd (upd g 0 (0 : Int32)) 1 (0 : Int32)) 2 (0 : Int32)) 3 (0 : Int32)) 4 (0 : Int32)) 5 (0 : Int32)) 6 (0 : Int32))))] H := hP
  have hD : va_D A [(ga, .inl (cI, 16, .inl (upd (upd (upd (upd (upd (upd (upd g 0 (0 : Int32)) 1 (0 : Int32)) 2 (0 : Int32)) 3 (0 : Int32)) 4 (0 : Int32)) 5 (0 : Int32)) 6 (0 : Int32))))] := hD
  refine lv_iinc (lv' := [(2, .int (7 : Int32)), (3, .int (16 : Int32)), (0, .ref ga), (1, .int (0 : Int32))]) (k := 0) (v := (7 : Int32)) hx hb d_JA_fill_14 hl rfl (by decide) (by decide) rfl (fun ls hl => ?_)
  refine lv_goto (tgt := 5) hx hb d_JA_fill_17 (by decide) ?_
  refine lv_iload_n hx hb d_JA_fill_5 rfl (lv_at hl 0 rfl) ?_
  refine lv_iload_n hx hb d_JA_fill_6 rfl (lv_at hl 1 rfl) ?_
  refine lv_icmp_ge (tgt := 20) hx hb d_JA_fill_7 (by decide) (fun h99 => absurd h99 (by decide)) (fun _ => ?_)
  refine lv_aload_n hx hb d_JA_fill_10 rfl (lv_at hl 2 rfl) ?_
  refine lv_iload_n hx hb d_JA_fill_11 rfl (lv_at hl 0 rfl) ?_
  refine lv_iload_n hx hb d_JA_fill_12 rfl (lv_at hl 3 rfl) ?_
  refine va_iast hx hb hK hP hD hS 0 0 rfl rfl (vp_in_iff.mpr (by decide)) d_JA_fill_13 (fun H locs hP hD hS => ?_)
  have hP : va_P D kl [(ga, .inl (cI, 16, .inl (upd (upd (upd (upd (upd (upd (upd (upd g 0 (0 : Int32)) 1 (0 : Int32)) 2 (0 : Int32)) 3 (0 : Int32)) 4 (0 : Int32)) 5 (0 : Int32)) 6 (0 : Int32)) 7 (0 : Int32))))] H := hP
  have hD : va_D A [(ga, .inl (cI, 16, .inl (upd (upd (upd (upd (upd (upd (upd (upd g 0 (0 : Int32)) 1 (0 : Int32)) 2 (0 : Int32)) 3 (0 : Int32)) 4 (0 : Int32)) 5 (0 : Int32)) 6 (0 : Int32)) 7 (0 : Int32))))] := hD
  refine lv_iinc (lv' := [(2, .int (8 : Int32)), (3, .int (16 : Int32)), (0, .ref ga), (1, .int (0 : Int32))]) (k := 0) (v := (8 : Int32)) hx hb d_JA_fill_14 hl rfl (by decide) (by decide) rfl (fun ls hl => ?_)
  refine lv_goto (tgt := 5) hx hb d_JA_fill_17 (by decide) ?_
  refine lv_iload_n hx hb d_JA_fill_5 rfl (lv_at hl 0 rfl) ?_
  refine lv_iload_n hx hb d_JA_fill_6 rfl (lv_at hl 1 rfl) ?_
  refine lv_icmp_ge (tgt := 20) hx hb d_JA_fill_7 (by decide) (fun h99 => absurd h99 (by decide)) (fun _ => ?_)
  refine lv_aload_n hx hb d_JA_fill_10 rfl (lv_at hl 2 rfl) ?_
  refine lv_iload_n hx hb d_JA_fill_11 rfl (lv_at hl 0 rfl) ?_
  refine lv_iload_n hx hb d_JA_fill_12 rfl (lv_at hl 3 rfl) ?_
  refine va_iast hx hb hK hP hD hS 0 0 rfl rfl (vp_in_iff.mpr (by decide)) d_JA_fill_13 (fun H locs hP hD hS => ?_)
  have hP : va_P D kl [(ga, .inl (cI, 16, .inl (upd (upd (upd (upd (upd (upd (upd (upd (upd g 0 (0 : Int32)) 1 (0 : Int32)) 2 (0 : Int32)) 3 (0 : Int32)) 4 (0 : Int32)) 5 (0 : Int32)) 6 (0 : Int32)) 7 (0 : Int32)) 8 (0 : Int32))))] H := hP
  have hD : va_D A [(ga, .inl (cI, 16, .inl (upd (upd (upd (upd (upd (upd (upd (upd (upd g 0 (0 : Int32)) 1 (0 : Int32)) 2 (0 : Int32)) 3 (0 : Int32)) 4 (0 : Int32)) 5 (0 : Int32)) 6 (0 : Int32)) 7 (0 : Int32)) 8 (0 : Int32))))] := hD
  refine lv_iinc (lv' := [(2, .int (9 : Int32)), (3, .int (16 : Int32)), (0, .ref ga), (1, .int (0 : Int32))]) (k := 0) (v := (9 : Int32)) hx hb d_JA_fill_14 hl rfl (by decide) (by decide) rfl (fun ls hl => ?_)
  refine lv_goto (tgt := 5) hx hb d_JA_fill_17 (by decide) ?_
  refine lv_iload_n hx hb d_JA_fill_5 rfl (lv_at hl 0 rfl) ?_
  refine lv_iload_n hx hb d_JA_fill_6 rfl (lv_at hl 1 rfl) ?_
  refine lv_icmp_ge (tgt := 20) hx hb d_JA_fill_7 (by decide) (fun h99 => absurd h99 (by decide)) (fun _ => ?_)
  refine lv_aload_n hx hb d_JA_fill_10 rfl (lv_at hl 2 rfl) ?_
  refine lv_iload_n hx hb d_JA_fill_11 rfl (lv_at hl 0 rfl) ?_
  refine lv_iload_n hx hb d_JA_fill_12 rfl (lv_at hl 3 rfl) ?_
  refine va_iast hx hb hK hP hD hS 0 0 rfl rfl (vp_in_iff.mpr (by decide)) d_JA_fill_13 (fun H locs hP hD hS => ?_)
  have hP : va_P D kl [(ga, .inl (cI, 16, .inl (upd (upd (upd (upd (upd (upd (upd (upd (upd (upd g 0 (0 : Int32)) 1 (0 : Int32)) 2 (0 : Int32)) 3 (0 : Int32)) 4 (0 : Int32)) 5 (0 : Int32)) 6 (0 : Int32)) 7 (0 : Int32)) 8 (0 : Int32)) 9 (0 : Int32))))] H := hP
  have hD : va_D A [(ga, .inl (cI, 16, .inl (upd (upd (upd (upd (upd (upd (upd (upd (upd (upd g 0 (0 : Int32)) 1 (0 : Int32)) 2 (0 : Int32)) 3 (0 : Int32)) 4 (0 : Int32)) 5 (0 : Int32)) 6 (0 : Int32)) 7 (0 : Int32)) 8 (0 : Int32)) 9 (0 : Int32))))] := hD
  refine lv_iinc (lv' := [(2, .int (10 : Int32)), (3, .int (16 : Int32)), (0, .ref ga), (1, .int (0 : Int32))]) (k := 0) (v := (10 : Int32)) hx hb d_JA_fill_14 hl rfl (by decide) (by decide) rfl (fun ls hl => ?_)
  refine lv_goto (tgt := 5) hx hb d_JA_fill_17 (by decide) ?_
  refine lv_iload_n hx hb d_JA_fill_5 rfl (lv_at hl 0 rfl) ?_
  refine lv_iload_n hx hb d_JA_fill_6 rfl (lv_at hl 1 rfl) ?_
  refine lv_icmp_ge (tgt := 20) hx hb d_JA_fill_7 (by decide) (fun h99 => absurd h99 (by decide)) (fun _ => ?_)
  refine lv_aload_n hx hb d_JA_fill_10 rfl (lv_at hl 2 rfl) ?_
  refine lv_iload_n hx hb d_JA_fill_11 rfl (lv_at hl 0 rfl) ?_
  refine lv_iload_n hx hb d_JA_fill_12 rfl (lv_at hl 3 rfl) ?_
  refine va_iast hx hb hK hP hD hS 0 0 rfl rfl (vp_in_iff.mpr (by decide)) d_JA_fill_13 (fun H locs hP hD hS => ?_)
  have hP : va_P D kl [(ga, .inl (cI, 16, .inl (upd (upd (upd (upd (upd (upd (upd (upd (upd (upd (upd g 0 (0 : Int32)) 1 (0 : Int32)) 2 (0 : Int32)) 3 (0 : Int32)) 4 (0 : Int32)) 5 (0 : Int32)) 6 (0 : Int32)) 7 (0 : Int32)) 8 (0 : Int32)) 9 (0 : Int32)) 10 (0 : Int32))))] H := hP
  have hD : va_D A [(ga, .inl (cI, 16, .inl (upd (upd (upd (upd (upd (upd (upd (upd (upd (upd (upd g 0 (0 : Int32)) 1 (0 : Int32)) 2 (0 : Int32)) 3 (0 : Int32)) 4 (0 : Int32)) 5 (0 : Int32)) 6 (0 : Int32)) 7 (0 : Int32)) 8 (0 : Int32)) 9 (0 : Int32)) 10 (0 : Int32))))] := hD
  refine lv_iinc (lv' := [(2, .int (11 : Int32)), (3, .int (16 : Int32)), (0, .ref ga), (1, .int (0 : Int32))]) (k := 0) (v := (11 : Int32)) hx hb d_JA_fill_14 hl rfl (by decide) (by decide) rfl (fun ls hl => ?_)
  refine lv_goto (tgt := 5) hx hb d_JA_fill_17 (by decide) ?_
  refine lv_iload_n hx hb d_JA_fill_5 rfl (lv_at hl 0 rfl) ?_
  refine lv_iload_n hx hb d_JA_fill_6 rfl (lv_at hl 1 rfl) ?_
  refine lv_icmp_ge (tgt := 20) hx hb d_JA_fill_7 (by decide) (fun h99 => absurd h99 (by decide)) (fun _ => ?_)
  refine lv_aload_n hx hb d_JA_fill_10 rfl (lv_at hl 2 rfl) ?_
  refine lv_iload_n hx hb d_JA_fill_11 rfl (lv_at hl 0 rfl) ?_
  refine lv_iload_n hx hb d_JA_fill_12 rfl (lv_at hl 3 rfl) ?_
  refine va_iast hx hb hK hP hD hS 0 0 rfl rfl (vp_in_iff.mpr (by decide)) d_JA_fill_13 (fun H locs hP hD hS => ?_)
  have hP : va_P D kl [(ga, .inl (cI, 16, .inl (upd (upd (upd (upd (upd (upd (upd (upd (upd (upd (upd (upd g 0 (0 : Int32)) 1 (0 : Int32)) 2 (0 : Int32)) 3 (0 : Int32)) 4 (0 : Int32)) 5 (0 : Int32)) 6 (0 : Int32)) 7 (0 : Int32)) 8 (0 : Int32)) 9 (0 : Int32)) 10 (0 : Int32)) 11 (0 : Int32))))] H := hP
  have hD : va_D A [(ga, .inl (cI, 16, .inl (upd (upd (upd (upd (upd (upd (upd (upd (upd (upd (upd (upd g 0 (0 : Int32)) 1 (0 : Int32)) 2 (0 : Int32)) 3 (0 : Int32)) 4 (0 : Int32)) 5 (0 : Int32)) 6 (0 : Int32)) 7 (0 : Int32)) 8 (0 : Int32)) 9 (0 : Int32)) 10 (0 : Int32)) 11 (0 : Int32))))] := hD
  refine lv_iinc (lv' := [(2, .int (12 : Int32)), (3, .int (16 : Int32)), (0, .ref ga), (1, .int (0 : Int32))]) (k := 0) (v := (12 : Int32)) hx hb d_JA_fill_14 hl rfl (by decide) (by decide) rfl (fun ls hl => ?_)
  refine lv_goto (tgt := 5) hx hb d_JA_fill_17 (by decide) ?_
  refine lv_iload_n hx hb d_JA_fill_5 rfl (lv_at hl 0 rfl) ?_
  refine lv_iload_n hx hb d_JA_fill_6 rfl (lv_at hl 1 rfl) ?_
  refine lv_icmp_ge (tgt := 20) hx hb d_JA_fill_7 (by decide) (fun h99 => absurd h99 (by decide)) (fun _ => ?_)
  refine lv_aload_n hx hb d_JA_fill_10 rfl (lv_at hl 2 rfl) ?_
  refine lv_iload_n hx hb d_JA_fill_11 rfl (lv_at hl 0 rfl) ?_
  refine lv_iload_n hx hb d_JA_fill_12 rfl (lv_at hl 3 rfl) ?_
  refine va_iast hx hb hK hP hD hS 0 0 rfl rfl (vp_in_iff.mpr (by decide)) d_JA_fill_13 (fun H locs hP hD hS => ?_)
  have hP : va_P D kl [(ga, .inl (cI, 16, .inl (upd (upd (upd (upd (upd (upd (upd (upd (upd (upd (upd (upd (upd g 0 (0 : Int32)) 1 (0 : Int32)) 2 (0 : Int32)) 3 (0 : Int32)) 4 (0 : Int32)) 5 (0 : Int32)) 6 (0 : Int32)) 7 (0 : Int32)) 8 (0 : Int32)) 9 (0 : Int32)) 10 (0 : Int32)) 11 (0 : Int32)) 12 (0 : Int32))))] H := hP
  have hD : va_D A [(ga, .inl (cI, 16, .inl (upd (upd (upd (upd (upd (upd (upd (upd (upd (upd (upd (upd (upd g 0 (0 : Int32)) 1 (0 : Int32)) 2 (0 : Int32)) 3 (0 : Int32)) 4 (0 : Int32)) 5 (0 : Int32)) 6 (0 : Int32)) 7 (0 : Int32)) 8 (0 : Int32)) 9 (0 : Int32)) 10 (0 : Int32)) 11 (0 : Int32)) 12 (0 : Int32))))] := hD
  refine lv_iinc (lv' := [(2, .int (13 : Int32)), (3, .int (16 : Int32)), (0, .ref ga), (1, .int (0 : Int32))]) (k := 0) (v := (13 : Int32)) hx hb d_JA_fill_14 hl rfl (by decide) (by decide) rfl (fun ls hl => ?_)
  refine lv_goto (tgt := 5) hx hb d_JA_fill_17 (by decide) ?_
  refine lv_iload_n hx hb d_JA_fill_5 rfl (lv_at hl 0 rfl) ?_
  refine lv_iload_n hx hb d_JA_fill_6 rfl (lv_at hl 1 rfl) ?_
  refine lv_icmp_ge (tgt := 20) hx hb d_JA_fill_7 (by decide) (fun h99 => absurd h99 (by decide)) (fun _ => ?_)
  refine lv_aload_n hx hb d_JA_fill_10 rfl (lv_at hl 2 rfl) ?_
  refine lv_iload_n hx hb d_JA_fill_11 rfl (lv_at hl 0 rfl) ?_
  refine lv_iload_n hx hb d_JA_fill_12 rfl (lv_at hl 3 rfl) ?_
  refine va_iast hx hb hK hP hD hS 0 0 rfl rfl (vp_in_iff.mpr (by decide)) d_JA_fill_13 (fun H locs hP hD hS => ?_)
  have hP : va_P D kl [(ga, .inl (cI, 16, .inl (upd (upd (upd (upd (upd (upd (upd (upd (upd (upd (upd (upd (upd (upd g 0 (0 : Int32)) 1 (0 : Int32)) 2 (0 : Int32)) 3 (0 : Int32)) 4 (0 : Int32)) 5 (0 : Int32)) 6 (0 : Int32)) 7 (0 : Int32)) 8 (0 : Int32)) 9 (0 : Int32)) 10 (0 : Int32)) 11 (0 : Int32)) 12 (0 : Int32)) 13 (0 : Int32))))] H := hP
  have hD : va_D A [(ga, .inl (cI, 16, .inl (upd (upd (upd (upd (upd (upd (upd (upd (upd (upd (upd (upd (upd (upd g 0 (0 : Int32)) 1 (0 : Int32)) 2 (0 : Int32)) 3 (0 : Int32)) 4 (0 : Int32)) 5 (0 : Int32)) 6 (0 : Int32)) 7 (0 : Int32)) 8 (0 : Int32)) 9 (0 : Int32)) 10 (0 : Int32)) 11 (0 : Int32)) 12 (0 : Int32)) 13 (0 : Int32))))] := hD
  refine lv_iinc (lv' := [(2, .int (14 : Int32)), (3, .int (16 : Int32)), (0, .ref ga), (1, .int (0 : Int32))]) (k := 0) (v := (14 : Int32)) hx hb d_JA_fill_14 hl rfl (by decide) (by decide) rfl (fun ls hl => ?_)
  refine lv_goto (tgt := 5) hx hb d_JA_fill_17 (by decide) ?_
  refine lv_iload_n hx hb d_JA_fill_5 rfl (lv_at hl 0 rfl) ?_
  refine lv_iload_n hx hb d_JA_fill_6 rfl (lv_at hl 1 rfl) ?_
  refine lv_icmp_ge (tgt := 20) hx hb d_JA_fill_7 (by decide) (fun h99 => absurd h99 (by decide)) (fun _ => ?_)
  refine lv_aload_n hx hb d_JA_fill_10 rfl (lv_at hl 2 rfl) ?_
  refine lv_iload_n hx hb d_JA_fill_11 rfl (lv_at hl 0 rfl) ?_
  refine lv_iload_n hx hb d_JA_fill_12 rfl (lv_at hl 3 rfl) ?_
  refine va_iast hx hb hK hP hD hS 0 0 rfl rfl (vp_in_iff.mpr (by decide)) d_JA_fill_13 (fun H locs hP hD hS => ?_)
  have hP : va_P D kl [(ga, .inl (cI, 16, .inl (upd (upd (upd (upd (upd (upd (upd (upd (upd (upd (upd (upd (upd (upd (upd g 0 (0 : Int32)) 1 (0 : Int32)) 2 (0 : Int32)) 3 (0 : Int32)) 4 (0 : Int32)) 5 (0 : Int32)) 6 (0 : Int32)) 7 (0 : Int32)) 8 (0 : Int32)) 9 (0 : Int32)) 10 (0 : Int32)) 11 (0 : Int32)) 12 (0 : Int32)) 13 (0 : Int32)) 14 (0 : Int32))))] H := hP
  have hD : va_D A [(ga, .inl (cI, 16, .inl (upd (upd (upd (upd (upd (upd (upd (upd (upd (upd (upd (upd (upd (upd (upd g 0 (0 : Int32)) 1 (0 : Int32)) 2 (0 : Int32)) 3 (0 : Int32)) 4 (0 : Int32)) 5 (0 : Int32)) 6 (0 : Int32)) 7 (0 : Int32)) 8 (0 : Int32)) 9 (0 : Int32)) 10 (0 : Int32)) 11 (0 : Int32)) 12 (0 : Int32)) 13 (0 : Int32)) 14 (0 : Int32))))] := hD
  refine lv_iinc (lv' := [(2, .int (15 : Int32)), (3, .int (16 : Int32)), (0, .ref ga), (1, .int (0 : Int32))]) (k := 0) (v := (15 : Int32)) hx hb d_JA_fill_14 hl rfl (by decide) (by decide) rfl (fun ls hl => ?_)
  refine lv_goto (tgt := 5) hx hb d_JA_fill_17 (by decide) ?_
  refine lv_iload_n hx hb d_JA_fill_5 rfl (lv_at hl 0 rfl) ?_
  refine lv_iload_n hx hb d_JA_fill_6 rfl (lv_at hl 1 rfl) ?_
  refine lv_icmp_ge (tgt := 20) hx hb d_JA_fill_7 (by decide) (fun h99 => absurd h99 (by decide)) (fun _ => ?_)
  refine lv_aload_n hx hb d_JA_fill_10 rfl (lv_at hl 2 rfl) ?_
  refine lv_iload_n hx hb d_JA_fill_11 rfl (lv_at hl 0 rfl) ?_
  refine lv_iload_n hx hb d_JA_fill_12 rfl (lv_at hl 3 rfl) ?_
  refine va_iast hx hb hK hP hD hS 0 0 rfl rfl (vp_in_iff.mpr (by decide)) d_JA_fill_13 (fun H locs hP hD hS => ?_)
  have hP : va_P D kl [(ga, .inl (cI, 16, .inl (upd (upd (upd (upd (upd (upd (upd (upd (upd (upd (upd (upd (upd (upd (upd (upd g 0 (0 : Int32)) 1 (0 : Int32)) 2 (0 : Int32)) 3 (0 : Int32)) 4 (0 : Int32)) 5 (0 : Int32)) 6 (0 : Int32)) 7 (0 : Int32)) 8 (0 : Int32)) 9 (0 : Int32)) 10 (0 : Int32)) 11 (0 : Int32)) 12 (0 : Int32)) 13 (0 : Int32)) 14 (0 : Int32)) 15 (0 : Int32))))] H := hP
  have hD : va_D A [(ga, .inl (cI, 16, .inl (upd (upd (upd (upd (upd (upd (upd (upd (upd (upd (upd (upd (upd (upd (upd (upd g 0 (0 : Int32)) 1 (0 : Int32)) 2 (0 : Int32)) 3 (0 : Int32)) 4 (0 : Int32)) 5 (0 : Int32)) 6 (0 : Int32)) 7 (0 : Int32)) 8 (0 : Int32)) 9 (0 : Int32)) 10 (0 : Int32)) 11 (0 : Int32)) 12 (0 : Int32)) 13 (0 : Int32)) 14 (0 : Int32)) 15 (0 : Int32))))] := hD
  refine lv_iinc (lv' := [(2, .int (16 : Int32)), (3, .int (16 : Int32)), (0, .ref ga), (1, .int (0 : Int32))]) (k := 0) (v := (16 : Int32)) hx hb d_JA_fill_14 hl rfl (by decide) (by decide) rfl (fun ls hl => ?_)
  refine lv_goto (tgt := 5) hx hb d_JA_fill_17 (by decide) ?_
  refine lv_iload_n hx hb d_JA_fill_5 rfl (lv_at hl 0 rfl) ?_
  refine lv_iload_n hx hb d_JA_fill_6 rfl (lv_at hl 1 rfl) ?_
  refine lv_icmp_ge (tgt := 20) hx hb d_JA_fill_7 (by decide) (fun _ => ?_) (fun h99 => absurd h99 (by decide))
  exact tx_mono (fun _ h => tx_Z.of h) (W.vret hx hb hr (fun t ht hW => ⟨⟨[(ga, .inl (cI, 16, .inl (upd (upd (upd (upd (upd (upd (upd (upd (upd (upd (upd (upd (upd (upd (upd (upd g 0 (0 : Int32)) 1 (0 : Int32)) 2 (0 : Int32)) 3 (0 : Int32)) 4 (0 : Int32)) 5 (0 : Int32)) 6 (0 : Int32)) 7 (0 : Int32)) 8 (0 : Int32)) 9 (0 : Int32)) 10 (0 : Int32)) 11 (0 : Int32)) 12 (0 : Int32)) 13 (0 : Int32)) 14 (0 : Int32)) 15 (0 : Int32))))], ⟨rfl, rfl⟩, by rw [ht]; exact hP.sub [0] rfl, hD.sub [0] (by decide) rfl⟩, hS.F ht⟩) hS.2.2 d_JA_fill_20)

set_option maxHeartbeats 4000000 in
set_option maxRecDepth 100000 in
theorem c_IP_findSteps {l : Launch} {s0 : State} {b0 : Addr} {D : va_G} {cI cJ cZ : ClassId} {tC tS : Nat} (E : gE l s0 b0 D cI cJ cZ tC tS) (sz : Nat) (ip : Nat) (im : Nat) (ie : Nat) (is : Nat) (iy : Nat) (ii : Nat) (mc : Nat) (mx0 : Int32) (ix : Int32) (ek : Nat → Nat) (sf : Nat → Int32) (cu : Nat) (nx : Nat) (cf : Nat → Int64) (nf9 : Nat → Int64) (jz : Int32) (yl : Nat) (ya : Nat) (yn : Nat) (yf : Nat → Int32) (ch : Nat) (hmc : mc ≤ 4) (hek : ∀ j, ek j < 12) (hyn : yn ≤ 12) (hch : ch < 256) : cx_M l s0 D kl y_IP_findSteps b_IP_findSteps 8 none ({ frames := 2, cells := 0, slots := 0, locals := 53 } : Room) 0 0 [.ref ip, .ref yl, .int (nI ch)] [(ip, .inr (5, [.ref im, .ref ie, .ref is, .ref iy, .ref ii, .int (nI mc), .int mx0, .int ix])), (ie, .inl (cI, 4, .inl (nf ek))), (is, .inl (cI, 16, .inl sf)), (im, .inr (2, [.ref cu, .ref nx, .int jz])), (cu, .inl (cJ, 16, .inr (.inl cf))), (nx, .inl (cJ, 16, .inr (.inl nf9))), (yl, .inr (1, [.ref ya, .int (nI yn), .int (12 : Int32)])), (ya, .inl (cI, 48, .inl yf))] sz (fun o9 _ w9 => ∃ (ca : Nat) (nb : Nat) (fa : Nat → Int64) (fb : Nat → Int64) (jj : Int32), o9 = .returned none ∧ w9 = [(ip, .inr (5, [.ref im, .ref ie, .ref is, .ref iy, .ref ii, .int (nI mc), .int mx0, .int ix])), (ie, .inl (cI, 4, .inl (nf ek))), (is, .inl (cI, 16, .inl (stp ix yf yn ch ek mc (z16 sf)))), (im, .inr (2, [.ref ca, .ref nb, .int jj])), (ca, .inl (cJ, 16, .inr (.inl fa))), (nb, .inl (cJ, 16, .inr (.inl fb))), (yl, .inr (1, [.ref ya, .int (nI yn), .int (12 : Int32)])), (ya, .inl (cI, 48, .inl yf))]) := by
  refine tx_ofW (cc := b_IP_findSteps) (maxL := 8) (ret := none) (by decide) rfl ?_
  intro p e s m args below meth c s₁ B hml hT hv
  obtain ⟨rfl, hsz, hP, hD0, hx0⟩ := hv
  have hx := B.exec
  have hb := B.bytes
  have hr := B.returns
  have G := E.2.1
  have hown : s.vm.findClass cn_IP = some m.cls := findClass_of_methodNamed B.named
  have hlocks := B.notSynchronized
  have hK := va_K.moved hx0.1.alike E.2.2.1
  have hf_IP : ∀ w99 ∈ u_ws cn_IP ft_IP 8, w99.before ([.ref ip, .ref yl, .int (nI ch)] : List Value).toArray s = true := fun w99 h99 => gw.at G hx0 (fw_IP w99 h99) (fo_IP w99 h99) _
  subst hsz
  have hA0 := cx_new hD0 hx0.2.1
  have hD := hD0.self (sz := s.heap.size)
  generalize hAe : va_A [(ip, .inr (5, [.ref im, .ref ie, .ref is, .ref iy, .ref ii, .int (nI mc), .int mx0, .int ix])), (ie, .inl (cI, 4, .inl (nf ek))), (is, .inl (cI, 16, .inl sf)), (im, .inr (2, [.ref cu, .ref nx, .int jz])), (cu, .inl (cJ, 16, .inr (.inl cf))), (nx, .inl (cJ, 16, .inr (.inl nf9))), (yl, .inr (1, [.ref ya, .int (nI yn), .int (12 : Int32)])), (ya, .inl (cI, 48, .inl yf))] s.heap.size = A at hD hA0 ⊢
  have hA : ∀ q : Nat, s.heap.size ≤ q → A q := fun q h => by rw [← hAe]; exact Or.inr h
  have hS : va_S A s.heap s.heap [] := va_S.rf
  obtain ⟨hZC, hTC, hZS, hTS⟩ := gz.at E.2.2.2.1 hx0 hA0
  have hl := lv_entry ([.ref ip, .ref yl, .int (nI ch)]) (n := 8) (Nat.le_of_ble_eq_true rfl)
  rw [lg_entry_eq]
  generalize (lg_sl ([.ref ip, .ref yl, .int (nI ch)]) ++ List.replicate (8 - (lg_sl ([.ref ip, .ref yl, .int (nI ch)])).length) Slot.unset).toArray = ls at hl ⊢
  have hl : lv_has ls 8 [(0, .ref ip), (1, .ref yl), (2, .int (nI ch))] := hl
  have hP : va_P D kl [(ip, .inr (5, [.ref im, .ref ie, .ref is, .ref iy, .ref ii, .int (nI mc), .int mx0, .int ix])), (ie, .inl (cI, 4, .inl (nf ek))), (is, .inl (cI, 16, .inl sf)), (im, .inr (2, [.ref cu, .ref nx, .int jz])), (cu, .inl (cJ, 16, .inr (.inl cf))), (nx, .inl (cJ, 16, .inr (.inl nf9))), (yl, .inr (1, [.ref ya, .int (nI yn), .int (12 : Int32)])), (ya, .inl (cI, 48, .inl yf))] s.heap := hP
  have hml : c.maxLocals = 8 := hml
  generalize hQe : tx_Z below (cx_Q D kl A (fun o9 _ w9 => ∃ (ca : Nat) (nb : Nat) (fa : Nat → Int64) (fb : Nat → Int64) (jj : Int32), o9 = .returned none ∧ w9 = [(ip, .inr (5, [.ref im, .ref ie, .ref is, .ref iy, .ref ii, .int (nI mc), .int mx0, .int ix])), (ie, .inl (cI, 4, .inl (nf ek))), (is, .inl (cI, 16, .inl (stp ix yf yn ch ek mc (z16 sf)))), (im, .inr (2, [.ref ca, .ref nb, .int jj])), (ca, .inl (cJ, 16, .inr (.inl fa))), (nb, .inl (cJ, 16, .inr (.inl fb))), (yl, .inr (1, [.ref ya, .int (nI yn), .int (12 : Int32)])), (ya, .inl (cI, 48, .inl yf))])) ([.ref ip, .ref yl, .int (nI ch)] : List Value).toArray s 0 0 A = Q
  refine lv_aload_n hx hb d_IP_findSteps_0 rfl (lv_at hl 0 rfl) ?_
  refine va_get (D := D) (ci := 5) (v := .ref is) (C := cn_IP) (T := ft_IP) (N := 8) hx hb hf_IP (fun _ h => h) hown hK hP 0 rfl rfl 2 (by decide) (gw.at G hx0 mw_141 rfl _) (fun _ h9 => h9) rfl d_IP_findSteps_1 ?_
  refine lv_iconst (v := (0 : Int32)) hx hb d_IP_findSteps_4 (by decide) ?_
  refine cx_call (D := D) (cl := kl) (ws := _) (wc := [(is, .inl (cI, 16, .inl sf))]) (wr := [(ip, .inr (5, [.ref im, .ref ie, .ref is, .ref iy, .ref ii, .int (nI mc), .int mx0, .int ix])), (ie, .inl (cI, 4, .inl (nf ek))), (im, .inr (2, [.ref cu, .ref nx, .int jz])), (cu, .inl (cJ, 16, .inr (.inl cf))), (nx, .inl (cJ, 16, .inr (.inl nf9))), (yl, .inr (1, [.ref ya, .int (nI yn), .int (12 : Int32)])), (ya, .inl (cI, 48, .inl yf))]) (tx_runS (As := [.ref is, .int (0 : Int32)]) (rest := []) hx hb hml hown (c_JA_fill16 E s.heap.size is sf ) (cx_C (b0 := b0) G hx0 mw_478 mw_18 ny_JA_fill (by decide)) (gw.at G hx0 mw_563 rfl _) (gw.at G hx0 mw_477 rfl _) (gw.at G hx0 mw_18 rfl _) ⟨cx_blind, (cx_pre (s := s) hx0 hP hD hS hA0 [2] rfl rfl (by decide))⟩ rfl rfl hl.1 rfl (lv_room (Nat.le_of_ble_eq_true rfl)) d_IP_findSteps_5 ⟨by decide, by decide⟩) hP hD hS hA [2] [0, 1, 3, 4, 5, 6, 7] rfl rfl (by decide) (by decide) (fun v t w1 H locs ht hW9 hp hP hD hS => ?_) (fun x t w1 H locs ht hW9 hp hP hD hS => by obtain ⟨h9, -⟩ := hp; cases h9)
  obtain ⟨h9, rfl⟩ := hp
  cases h9
  refine W.eq (g2 := F0 m 8 ls []) rfl ?_
  refine W.widen (k := 0) (n := 0) (by decide) (by decide) ?_
  have hP : va_P D kl [(ip, .inr (5, [.ref im, .ref ie, .ref is, .ref iy, .ref ii, .int (nI mc), .int mx0, .int ix])), (ie, .inl (cI, 4, .inl (nf ek))), (im, .inr (2, [.ref cu, .ref nx, .int jz])), (cu, .inl (cJ, 16, .inr (.inl cf))), (nx, .inl (cJ, 16, .inr (.inl nf9))), (yl, .inr (1, [.ref ya, .int (nI yn), .int (12 : Int32)])), (ya, .inl (cI, 48, .inl yf)), (is, .inl (cI, 16, .inl (z16 sf)))] H := hP
  have hD : va_D A [(ip, .inr (5, [.ref im, .ref ie, .ref is, .ref iy, .ref ii, .int (nI mc), .int mx0, .int ix])), (ie, .inl (cI, 4, .inl (nf ek))), (im, .inr (2, [.ref cu, .ref nx, .int jz])), (cu, .inl (cJ, 16, .inr (.inl cf))), (nx, .inl (cJ, 16, .inr (.inl nf9))), (yl, .inr (1, [.ref ya, .int (nI yn), .int (12 : Int32)])), (ya, .inl (cI, 48, .inl yf)), (is, .inl (cI, 16, .inl (z16 sf)))] := hD
  refine lv_iconst (v := (0 : Int32)) hx hb d_IP_findSteps_8 (by decide) ?_
  refine lv_istore_n (lv' := [(3, .int (0 : Int32)), (0, .ref ip), (1, .ref yl), (2, .int (nI ch))]) hx hb d_IP_findSteps_9 rfl hl (by decide) rfl (fun ls hl => ?_)
  have lp_10 : ∀ (n9 : Nat) (q : Nat) (f2 : Nat → Int32) (ca : Nat) (nb : Nat) (fa : Nat → Int64) (fb : Nat → Int64) (jj : Int32) (ls : Array Slot) (H : Heap) (locs : List Loc), mc - q = n9 → (stp ix yf yn ch ek q (z16 sf) = f2) → (q ≤ mc) → lv_has ls 8 [(3, .int (nI q)), (0, .ref ip), (1, .ref yl), (2, .int (nI ch))] → va_P D kl [(ip, .inr (5, [.ref im, .ref ie, .ref is, .ref iy, .ref ii, .int (nI mc), .int mx0, .int ix])), (ie, .inl (cI, 4, .inl (nf ek))), (is, .inl (cI, 16, .inl f2)), (im, .inr (2, [.ref ca, .ref nb, .int jj])), (ca, .inl (cJ, 16, .inr (.inl fa))), (nb, .inl (cJ, 16, .inr (.inl fb))), (yl, .inr (1, [.ref ya, .int (nI yn), .int (12 : Int32)])), (ya, .inl (cI, 48, .inl yf))] H → va_D A [(ip, .inr (5, [.ref im, .ref ie, .ref is, .ref iy, .ref ii, .int (nI mc), .int mx0, .int ix])), (ie, .inl (cI, 4, .inl (nf ek))), (is, .inl (cI, 16, .inl f2)), (im, .inr (2, [.ref ca, .ref nb, .int jj])), (ca, .inl (cJ, 16, .inr (.inl fa))), (nb, .inl (cJ, 16, .inr (.inl fb))), (yl, .inr (1, [.ref ya, .int (nI yn), .int (12 : Int32)])), (ya, .inl (cI, 48, .inl yf))] → va_S A s.heap H locs → W p l e ({ frames := 2, cells := 0, slots := 0, locals := 53 } : Room) s m ([.ref ip, .ref yl, .int (nI ch)] : List Value).toArray below meth c H locs 0 0 Q (F0 m 10 ls []) := by
    intro n9
    induction n9 using Nat.strongRecOn with
    | ind n9 ih_10 =>
      intro q f2 ca nb fa fb jj ls H locs hm_10 hp2 hq hl hP hD hS
      refine lv_iload_n hx hb d_IP_findSteps_10 rfl (lv_at hl 0 rfl) ?_
      refine lv_aload_n hx hb d_IP_findSteps_11 rfl (lv_at hl 1 rfl) ?_
      refine va_get (D := D) (ci := 5) (v := .int (nI mc)) (C := cn_IP) (T := ft_IP) (N := 8) hx hb hf_IP (fun _ h => h) hown hK hP 0 rfl rfl 5 (by decide) (gw.at G hx0 mw_144 rfl _) (fun _ h9 => h9) rfl d_IP_findSteps_12 ?_
      refine lv_icmp_ge (tgt := 123) hx hb d_IP_findSteps_15 (by decide) (fun h_1 => ?_) (fun h_1 => ?_)
      · have h_1 : mc ≤ q := (nI_leI (a := mc) (b := q) (by omega) (by omega)).mp h_1
        have ho9 : stp ix yf yn ch ek mc (z16 sf) = f2 := (show q = mc by omega) ▸ hp2
        clear hp2
        subst ho9
        rw [← hQe]
        exact tx_mono (fun _ h => tx_Z.of h) (W.vret hx hb hr (fun t ht hW => ⟨⟨[(ip, .inr (5, [.ref im, .ref ie, .ref is, .ref iy, .ref ii, .int (nI mc), .int mx0, .int ix])), (ie, .inl (cI, 4, .inl (nf ek))), (is, .inl (cI, 16, .inl (stp ix yf yn ch ek mc (z16 sf)))), (im, .inr (2, [.ref ca, .ref nb, .int jj])), (ca, .inl (cJ, 16, .inr (.inl fa))), (nb, .inl (cJ, 16, .inr (.inl fb))), (yl, .inr (1, [.ref ya, .int (nI yn), .int (12 : Int32)])), (ya, .inl (cI, 48, .inl yf))], ⟨ca, nb, fa, fb, jj, rfl, rfl⟩, by rw [ht]; exact hP.sub [0, 1, 2, 3, 4, 5, 6, 7] rfl, hD.sub [0, 1, 2, 3, 4, 5, 6, 7] (by decide) rfl⟩, hS.F ht⟩) hS.2.2 d_IP_findSteps_123)
      · have h_1 : ¬ (mc ≤ q) := fun z99 => h_1 ((nI_leI (a := mc) (b := q) (by omega) (by omega)).mpr z99)
        refine lv_aload_n hx hb d_IP_findSteps_18 rfl (lv_at hl 1 rfl) ?_
        refine va_get (D := D) (ci := 5) (v := .ref im) (C := cn_IP) (T := ft_IP) (N := 8) hx hb hf_IP (fun _ h => h) hown hK hP 0 rfl rfl 0 (by decide) (gw.at G hx0 mw_139 rfl _) (fun _ h9 => h9) rfl d_IP_findSteps_19 ?_
        refine lv_aload_n hx hb d_IP_findSteps_22 rfl (lv_at hl 2 rfl) ?_
        refine lv_iload_n hx hb d_IP_findSteps_23 rfl (lv_at hl 3 rfl) ?_
        refine lv_iconst (v := (1 : Int32)) hx hb d_IP_findSteps_24 (by decide) ?_
        refine lv_aload_n hx hb d_IP_findSteps_25 rfl (lv_at hl 1 rfl) ?_
        refine va_get (D := D) (ci := 5) (v := .ref ie) (C := cn_IP) (T := ft_IP) (N := 8) hx hb hf_IP (fun _ h => h) hown hK hP 0 rfl rfl 1 (by decide) (gw.at G hx0 mw_140 rfl _) (fun _ h9 => h9) rfl d_IP_findSteps_26 ?_
        refine lv_iload_n hx hb d_IP_findSteps_29 rfl (lv_at hl 0 rfl) ?_
        refine va_iald hx hb hK hP 1 0 rfl rfl (vp_in_nI (n := q) (by omega) (by omega)) d_IP_findSteps_30 ?_
        refine tp_i (y := (nf ek) q) (congrArg (nf ek) (nI_clamp (n := q) (by omega))) ?_
        refine tp_i (y := nI (ek q)) rfl ?_
        have hb_2 := hek q
        refine lv_ishl hx hb d_IP_findSteps_31 ?_
        refine tp_i (y := nI (2 ^ (ek q))) (nI_shl (k := ek q) (by omega)) ?_
        refine lv_iconst (v := (-1 : Int32)) hx hb d_IP_findSteps_32 (by decide) ?_
        refine lv_ixor hx hb d_IP_findSteps_33 ?_
        refine lv_iand hx hb d_IP_findSteps_34 ?_
        refine tp_i (y := nI (ch ^^^ (ch &&& 2 ^ (ek q)))) (andn hch (hek q)) ?_
        refine cx_call (D := D) (cl := kl) (ws := _) (wc := [(im, .inr (2, [.ref ca, .ref nb, .int jj])), (ca, .inl (cJ, 16, .inr (.inl fa))), (nb, .inl (cJ, 16, .inr (.inl fb))), (yl, .inr (1, [.ref ya, .int (nI yn), .int (12 : Int32)])), (ya, .inl (cI, 48, .inl yf))]) (wr := [(ip, .inr (5, [.ref im, .ref ie, .ref is, .ref iy, .ref ii, .int (nI mc), .int mx0, .int ix])), (ie, .inl (cI, 4, .inl (nf ek))), (is, .inl (cI, 16, .inl f2))]) (tx_runV (C := cn_MI) (b := im) (As := [.ref yl, .int (nI (ch ^^^ (ch &&& 2 ^ (ek q))))]) (rest := []) hx hb hml hown (c_MI_load E H.size im ca nb fa fb jj yl ya yn 12 48 yf (ch ^^^ (ch &&& 2 ^ (ek q))) (by decide) (by decide) hyn hyn (Nat.lt_trans (andn_lt hch) (by decide))) (cx_C (b0 := b0) G hx0 mw_369 mw_4 ny_MI_load (by decide)) (gw.at G hx0 mw_552 rfl _) (gw.at G hx0 mw_367 rfl _) (gw.at G hx0 mw_368 rfl _) ⟨cx_blind, va_recv hK hP (q0 := 3) (ci := 2) (q := (cn_MI, ft_MI, 3)) rfl rfl, (cx_pre (s := s) hx0 hP hD hS hA0 [3, 4, 5, 6, 7] rfl rfl (by decide))⟩ rfl rfl hl.1 rfl (lv_room (Nat.le_of_ble_eq_true rfl)) d_IP_findSteps_35 ⟨by decide, by decide⟩) hP hD hS hA [3, 4, 5, 6, 7] [0, 1, 2] rfl rfl (by decide) (by decide) (fun v t w1 H locs ht hW9 hp hP hD hS => ?_) (fun x t w1 H locs ht hW9 hp hP hD hS => by obtain ⟨_, _, _, _, h9, -⟩ := hp; cases h9)
        obtain ⟨ca_3, nb_4, fa_5, fb_6, h9, f_7, rfl⟩ := hp
        cases h9
        refine W.eq (g2 := F0 m 38 ls [.int (nI ((lst yf (ch ^^^ (ch &&& 2 ^ (ek q))) yn).1))]) rfl ?_
        refine W.widen (k := 0) (n := 0) (by decide) (by decide) ?_
        have hP : va_P D kl [(ip, .inr (5, [.ref im, .ref ie, .ref is, .ref iy, .ref ii, .int (nI mc), .int mx0, .int ix])), (ie, .inl (cI, 4, .inl (nf ek))), (is, .inl (cI, 16, .inl f2)), (im, .inr (2, [.ref ca_3, .ref nb_4, .int (nI ((lst yf (ch ^^^ (ch &&& 2 ^ (ek q))) yn).1))])), (ca_3, .inl (cJ, 16, .inr (.inl fa_5))), (nb_4, .inl (cJ, 16, .inr (.inl fb_6))), (yl, .inr (1, [.ref ya, .int (nI yn), .int (12 : Int32)])), (ya, .inl (cI, 48, .inl yf))] H := hP
        have hD : va_D A [(ip, .inr (5, [.ref im, .ref ie, .ref is, .ref iy, .ref ii, .int (nI mc), .int mx0, .int ix])), (ie, .inl (cI, 4, .inl (nf ek))), (is, .inl (cI, 16, .inl f2)), (im, .inr (2, [.ref ca_3, .ref nb_4, .int (nI ((lst yf (ch ^^^ (ch &&& 2 ^ (ek q))) yn).1))])), (ca_3, .inl (cJ, 16, .inr (.inl fa_5))), (nb_4, .inl (cJ, 16, .inr (.inl fb_6))), (yl, .inr (1, [.ref ya, .int (nI yn), .int (12 : Int32)])), (ya, .inl (cI, 48, .inl yf))] := hD
        have hll : (lst yf (ch ^^^ (ch &&& 2 ^ (ek q))) yn).1 ≤ 4 := lst_le _ _ _
        have hc16 : csN ((lst yf (ch ^^^ (ch &&& 2 ^ (ek q))) yn).1 + 1) ≤ 16 := csN_le (by omega)
        have hcm : csN (lst yf (ch ^^^ (ch &&& 2 ^ (ek q))) yn).1 + 0 ≤ csN ((lst yf (ch ^^^ (ch &&& 2 ^ (ek q))) yn).1 + 1) := csN_mono hll
        refine lv_pop hx hb d_IP_findSteps_38 rfl ?_
        refine lv_aload_n hx hb d_IP_findSteps_39 rfl (lv_at hl 1 rfl) ?_
        refine va_get (D := D) (ci := 5) (v := .ref im) (C := cn_IP) (T := ft_IP) (N := 8) hx hb hf_IP (fun _ h => h) hown hK hP 0 rfl rfl 0 (by decide) (gw.at G hx0 mw_139 rfl _) (fun _ h9 => h9) rfl d_IP_findSteps_40 ?_
        refine cx_call (D := D) (cl := kl) (ws := _) (wc := [(im, .inr (2, [.ref ca_3, .ref nb_4, .int (nI ((lst yf (ch ^^^ (ch &&& 2 ^ (ek q))) yn).1))]))]) (wr := [(ip, .inr (5, [.ref im, .ref ie, .ref is, .ref iy, .ref ii, .int (nI mc), .int mx0, .int ix])), (ie, .inl (cI, 4, .inl (nf ek))), (is, .inl (cI, 16, .inl f2)), (ca_3, .inl (cJ, 16, .inr (.inl fa_5))), (nb_4, .inl (cJ, 16, .inr (.inl fb_6))), (yl, .inr (1, [.ref ya, .int (nI yn), .int (12 : Int32)])), (ya, .inl (cI, 48, .inl yf))]) (tx_runV (C := cn_MI) (b := im) (As := []) (rest := []) hx hb hml hown (c_MI_endOfChoices E H.size im ca_3 nb_4 ((lst yf (ch ^^^ (ch &&& 2 ^ (ek q))) yn).1) hll) (cx_C (b0 := b0) G hx0 mw_465 mw_4 ny_MI_endOfChoices (by decide)) (gw.at G hx0 mw_564 rfl _) (gw.at G hx0 mw_463 rfl _) (gw.at G hx0 mw_464 rfl _) ⟨cx_blind, va_recv hK hP (q0 := 3) (ci := 2) (q := (cn_MI, ft_MI, 3)) rfl rfl, (cx_pre (s := s) hx0 hP hD hS hA0 [3] rfl rfl (by decide))⟩ rfl rfl hl.1 rfl (lv_room (Nat.le_of_ble_eq_true rfl)) d_IP_findSteps_43 ⟨by decide, by decide⟩) hP hD hS hA [3] [0, 1, 2, 4, 5, 6, 7] rfl rfl (by decide) (by decide) (fun v t w1 H locs ht hW9 hp hP hD hS => ?_) (fun x t w1 H locs ht hW9 hp hP hD hS => by obtain ⟨h9, -⟩ := hp; cases h9)
        obtain ⟨h9, rfl⟩ := hp
        cases h9
        refine W.eq (g2 := F0 m 46 ls [.int (nI (csN (((lst yf (ch ^^^ (ch &&& 2 ^ (ek q))) yn).1) + 1)))]) rfl ?_
        refine W.widen (k := 0) (n := 0) (by decide) (by decide) ?_
        have hP : va_P D kl [(ip, .inr (5, [.ref im, .ref ie, .ref is, .ref iy, .ref ii, .int (nI mc), .int mx0, .int ix])), (ie, .inl (cI, 4, .inl (nf ek))), (is, .inl (cI, 16, .inl f2)), (ca_3, .inl (cJ, 16, .inr (.inl fa_5))), (nb_4, .inl (cJ, 16, .inr (.inl fb_6))), (yl, .inr (1, [.ref ya, .int (nI yn), .int (12 : Int32)])), (ya, .inl (cI, 48, .inl yf)), (im, .inr (2, [.ref ca_3, .ref nb_4, .int (nI ((lst yf (ch ^^^ (ch &&& 2 ^ (ek q))) yn).1))]))] H := hP
        have hD : va_D A [(ip, .inr (5, [.ref im, .ref ie, .ref is, .ref iy, .ref ii, .int (nI mc), .int mx0, .int ix])), (ie, .inl (cI, 4, .inl (nf ek))), (is, .inl (cI, 16, .inl f2)), (ca_3, .inl (cJ, 16, .inr (.inl fa_5))), (nb_4, .inl (cJ, 16, .inr (.inl fb_6))), (yl, .inr (1, [.ref ya, .int (nI yn), .int (12 : Int32)])), (ya, .inl (cI, 48, .inl yf)), (im, .inr (2, [.ref ca_3, .ref nb_4, .int (nI ((lst yf (ch ^^^ (ch &&& 2 ^ (ek q))) yn).1))]))] := hD
        refine lv_istore (lv' := [(4, .int (nI (csN (((lst yf (ch ^^^ (ch &&& 2 ^ (ek q))) yn).1) + 1)))), (3, .int (nI q)), (0, .ref ip), (1, .ref yl), (2, .int (nI ch))]) hx hb d_IP_findSteps_46 hl (by decide) rfl (fun ls hl => ?_)
        refine lv_aload_n hx hb d_IP_findSteps_48 rfl (lv_at hl 2 rfl) ?_
        refine va_get (D := D) (ci := 5) (v := .ref im) (C := cn_IP) (T := ft_IP) (N := 8) hx hb hf_IP (fun _ h => h) hown hK hP 0 rfl rfl 0 (by decide) (gw.at G hx0 mw_139 rfl _) (fun _ h9 => h9) rfl d_IP_findSteps_49 ?_
        refine cx_call (D := D) (cl := kl) (ws := _) (wc := [(im, .inr (2, [.ref ca_3, .ref nb_4, .int (nI ((lst yf (ch ^^^ (ch &&& 2 ^ (ek q))) yn).1))]))]) (wr := [(ip, .inr (5, [.ref im, .ref ie, .ref is, .ref iy, .ref ii, .int (nI mc), .int mx0, .int ix])), (ie, .inl (cI, 4, .inl (nf ek))), (is, .inl (cI, 16, .inl f2)), (ca_3, .inl (cJ, 16, .inr (.inl fa_5))), (nb_4, .inl (cJ, 16, .inr (.inl fb_6))), (yl, .inr (1, [.ref ya, .int (nI yn), .int (12 : Int32)])), (ya, .inl (cI, 48, .inl yf))]) (tx_runV (C := cn_MI) (b := im) (As := []) (rest := []) hx hb hml hown (c_MI_firstChoice E H.size im ca_3 nb_4 ((lst yf (ch ^^^ (ch &&& 2 ^ (ek q))) yn).1) hll) (cx_C (b0 := b0) G hx0 mw_469 mw_4 ny_MI_firstChoice (by decide)) (gw.at G hx0 mw_565 rfl _) (gw.at G hx0 mw_467 rfl _) (gw.at G hx0 mw_468 rfl _) ⟨cx_blind, va_recv hK hP (q0 := 7) (ci := 2) (q := (cn_MI, ft_MI, 3)) rfl rfl, (cx_pre (s := s) hx0 hP hD hS hA0 [7] rfl rfl (by decide))⟩ rfl rfl hl.1 rfl (lv_room (Nat.le_of_ble_eq_true rfl)) d_IP_findSteps_52 ⟨by decide, by decide⟩) hP hD hS hA [7] [0, 1, 2, 3, 4, 5, 6] rfl rfl (by decide) (by decide) (fun v t w1 H locs ht hW9 hp hP hD hS => ?_) (fun x t w1 H locs ht hW9 hp hP hD hS => by obtain ⟨h9, -⟩ := hp; cases h9)
        obtain ⟨h9, rfl⟩ := hp
        cases h9
        refine W.eq (g2 := F0 m 55 ls [.int (nI (csN ((lst yf (ch ^^^ (ch &&& 2 ^ (ek q))) yn).1)))]) rfl ?_
        refine W.widen (k := 0) (n := 0) (by decide) (by decide) ?_
        have hP : va_P D kl [(ip, .inr (5, [.ref im, .ref ie, .ref is, .ref iy, .ref ii, .int (nI mc), .int mx0, .int ix])), (ie, .inl (cI, 4, .inl (nf ek))), (is, .inl (cI, 16, .inl f2)), (ca_3, .inl (cJ, 16, .inr (.inl fa_5))), (nb_4, .inl (cJ, 16, .inr (.inl fb_6))), (yl, .inr (1, [.ref ya, .int (nI yn), .int (12 : Int32)])), (ya, .inl (cI, 48, .inl yf)), (im, .inr (2, [.ref ca_3, .ref nb_4, .int (nI ((lst yf (ch ^^^ (ch &&& 2 ^ (ek q))) yn).1))]))] H := hP
        have hD : va_D A [(ip, .inr (5, [.ref im, .ref ie, .ref is, .ref iy, .ref ii, .int (nI mc), .int mx0, .int ix])), (ie, .inl (cI, 4, .inl (nf ek))), (is, .inl (cI, 16, .inl f2)), (ca_3, .inl (cJ, 16, .inr (.inl fa_5))), (nb_4, .inl (cJ, 16, .inr (.inl fb_6))), (yl, .inr (1, [.ref ya, .int (nI yn), .int (12 : Int32)])), (ya, .inl (cI, 48, .inl yf)), (im, .inr (2, [.ref ca_3, .ref nb_4, .int (nI ((lst yf (ch ^^^ (ch &&& 2 ^ (ek q))) yn).1))]))] := hD
        refine lv_istore (lv' := [(5, .int (nI (csN ((lst yf (ch ^^^ (ch &&& 2 ^ (ek q))) yn).1)))), (4, .int (nI (csN (((lst yf (ch ^^^ (ch &&& 2 ^ (ek q))) yn).1) + 1)))), (3, .int (nI q)), (0, .ref ip), (1, .ref yl), (2, .int (nI ch))]) hx hb d_IP_findSteps_55 hl (by decide) rfl (fun ls hl => ?_)
        have lp_57 : ∀ (n9 : Nat) (tw : Nat) (f4 : Nat → Int32) (ls : Array Slot) (H : Heap) (locs : List Loc), csN ((lst yf (ch ^^^ (ch &&& 2 ^ (ek q))) yn).1 + 1) - (csN (lst yf (ch ^^^ (ch &&& 2 ^ (ek q))) yn).1 + tw) = n9 → (fsi ix fa_5 q (csN (lst yf (ch ^^^ (ch &&& 2 ^ (ek q))) yn).1) tw f2 = f4) → (csN (lst yf (ch ^^^ (ch &&& 2 ^ (ek q))) yn).1 + tw ≤ csN ((lst yf (ch ^^^ (ch &&& 2 ^ (ek q))) yn).1 + 1)) → lv_has ls 8 [(5, .int (nI (csN (lst yf (ch ^^^ (ch &&& 2 ^ (ek q))) yn).1 + tw))), (4, .int (nI (csN (((lst yf (ch ^^^ (ch &&& 2 ^ (ek q))) yn).1) + 1)))), (3, .int (nI q)), (0, .ref ip), (1, .ref yl), (2, .int (nI ch))] → va_P D kl [(ip, .inr (5, [.ref im, .ref ie, .ref is, .ref iy, .ref ii, .int (nI mc), .int mx0, .int ix])), (ie, .inl (cI, 4, .inl (nf ek))), (is, .inl (cI, 16, .inl f4)), (ca_3, .inl (cJ, 16, .inr (.inl fa_5))), (nb_4, .inl (cJ, 16, .inr (.inl fb_6))), (yl, .inr (1, [.ref ya, .int (nI yn), .int (12 : Int32)])), (ya, .inl (cI, 48, .inl yf)), (im, .inr (2, [.ref ca_3, .ref nb_4, .int (nI ((lst yf (ch ^^^ (ch &&& 2 ^ (ek q))) yn).1))]))] H → va_D A [(ip, .inr (5, [.ref im, .ref ie, .ref is, .ref iy, .ref ii, .int (nI mc), .int mx0, .int ix])), (ie, .inl (cI, 4, .inl (nf ek))), (is, .inl (cI, 16, .inl f4)), (ca_3, .inl (cJ, 16, .inr (.inl fa_5))), (nb_4, .inl (cJ, 16, .inr (.inl fb_6))), (yl, .inr (1, [.ref ya, .int (nI yn), .int (12 : Int32)])), (ya, .inl (cI, 48, .inl yf)), (im, .inr (2, [.ref ca_3, .ref nb_4, .int (nI ((lst yf (ch ^^^ (ch &&& 2 ^ (ek q))) yn).1))]))] → va_S A s.heap H locs → W p l e ({ frames := 2, cells := 0, slots := 0, locals := 53 } : Room) s m ([.ref ip, .ref yl, .int (nI ch)] : List Value).toArray below meth c H locs 0 0 Q (F0 m 57 ls []) := by
          intro n9
          induction n9 using Nat.strongRecOn with
          | ind n9 ih_57 =>
            intro tw f4 ls H locs hm_57 hp4 ht9 hl hP hD hS
            refine lv_iload hx hb d_IP_findSteps_57 (lv_at hl 0 rfl) ?_
            refine lv_iload hx hb d_IP_findSteps_59 (lv_at hl 1 rfl) ?_
            refine lv_icmp_ge (tgt := 117) hx hb d_IP_findSteps_61 (by decide) (fun h_8 => ?_) (fun h_8 => ?_)
            · have h_8 : (csN (((lst yf (ch ^^^ (ch &&& 2 ^ (ek q))) yn).1) + 1)) ≤ (csN (lst yf (ch ^^^ (ch &&& 2 ^ (ek q))) yn).1 + tw) := (nI_leI (a := csN (((lst yf (ch ^^^ (ch &&& 2 ^ (ek q))) yn).1) + 1)) (b := csN (lst yf (ch ^^^ (ch &&& 2 ^ (ek q))) yn).1 + tw) (by omega) (by omega)).mp h_8
              refine lv_iinc (lv' := [(3, .int (nI (q + 1))), (5, .int (nI (csN (lst yf (ch ^^^ (ch &&& 2 ^ (ek q))) yn).1 + tw))), (4, .int (nI (csN (((lst yf (ch ^^^ (ch &&& 2 ^ (ek q))) yn).1) + 1)))), (0, .ref ip), (1, .ref yl), (2, .int (nI ch))]) (k := 2) (v := nI (q + 1)) hx hb d_IP_findSteps_117 hl rfl (nI_add q 1) (by decide) rfl (fun ls hl => ?_)
              refine lv_goto (tgt := 10) hx hb d_IP_findSteps_120 (by decide) ?_
              exact ih_10 _ (by omega) (q + 1) f4 ca_3 nb_4 fa_5 fb_6 (nI ((lst yf (ch ^^^ (ch &&& 2 ^ (ek q))) yn).1)) ls H locs rfl (stp_s hp2 f_7 hp4 (by omega)) (by omega) (lv_sub hl [0, 3, 4, 5] rfl) (hP.sub [0, 1, 2, 7, 3, 4, 5, 6] rfl) (hD.sub [0, 1, 2, 7, 3, 4, 5, 6] (by decide) rfl) hS
            · have h_8 : ¬ ((csN (((lst yf (ch ^^^ (ch &&& 2 ^ (ek q))) yn).1) + 1)) ≤ (csN (lst yf (ch ^^^ (ch &&& 2 ^ (ek q))) yn).1 + tw)) := fun z99 => h_8 ((nI_leI (a := csN (((lst yf (ch ^^^ (ch &&& 2 ^ (ek q))) yn).1) + 1)) (b := csN (lst yf (ch ^^^ (ch &&& 2 ^ (ek q))) yn).1 + tw) (by omega) (by omega)).mpr z99)
              refine lv_aload_n hx hb d_IP_findSteps_64 rfl (lv_at hl 3 rfl) ?_
              refine va_get (D := D) (ci := 5) (v := .ref im) (C := cn_IP) (T := ft_IP) (N := 8) hx hb hf_IP (fun _ h => h) hown hK hP 0 rfl rfl 0 (by decide) (gw.at G hx0 mw_139 rfl _) (fun _ h9 => h9) rfl d_IP_findSteps_65 ?_
              refine va_getsN hx hb hZC hS hown (gw.at G hx0 mw_138 rfl _) (fun _ h9 => h9) d_IP_findSteps_68 ?_
              refine lv_iload hx hb d_IP_findSteps_71 (lv_at hl 0 rfl) ?_
              refine va_ti hx hb hTC hS (vp_in_nI (n := csN (lst yf (ch ^^^ (ch &&& 2 ^ (ek q))) yn).1 + tw) (by omega) (by omega)) (v := .int (nI (chN (csN (lst yf (ch ^^^ (ch &&& 2 ^ (ek q))) yn).1 + tw)))) (by show Value.int (ch_t.getD (nI (csN (lst yf (ch ^^^ (ch &&& 2 ^ (ek q))) yn).1 + tw)).toNatClampNeg 0) = _; rw [nI_clamp (n := csN (lst yf (ch ^^^ (ch &&& 2 ^ (ek q))) yn).1 + tw) (by omega), ch_nat (by omega)]) d_IP_findSteps_73 ?_
              refine cx_call (D := D) (cl := kl) (ws := _) (wc := [(im, .inr (2, [.ref ca_3, .ref nb_4, .int (nI ((lst yf (ch ^^^ (ch &&& 2 ^ (ek q))) yn).1))])), (ca_3, .inl (cJ, 16, .inr (.inl fa_5)))]) (wr := [(ip, .inr (5, [.ref im, .ref ie, .ref is, .ref iy, .ref ii, .int (nI mc), .int mx0, .int ix])), (ie, .inl (cI, 4, .inl (nf ek))), (is, .inl (cI, 16, .inl f4)), (nb_4, .inl (cJ, 16, .inr (.inl fb_6))), (yl, .inr (1, [.ref ya, .int (nI yn), .int (12 : Int32)])), (ya, .inl (cI, 48, .inl yf))]) (tx_runV (C := cn_MI) (b := im) (As := [.int (nI (chN (csN (lst yf (ch ^^^ (ch &&& 2 ^ (ek q))) yn).1 + tw)))]) (rest := []) hx hb hml hown (c_MI_minor E H.size im ca_3 nb_4 fa_5 (nI ((lst yf (ch ^^^ (ch &&& 2 ^ (ek q))) yn).1)) (chN (csN (lst yf (ch ^^^ (ch &&& 2 ^ (ek q))) yn).1 + tw)) (chN_lt (by omega))) (cx_C (b0 := b0) G hx0 mw_569 mw_4 ny_MI_minor (by decide)) (gw.at G hx0 mw_566 rfl _) (gw.at G hx0 mw_567 rfl _) (gw.at G hx0 mw_568 rfl _) ⟨cx_blind, va_recv hK hP (q0 := 7) (ci := 2) (q := (cn_MI, ft_MI, 3)) rfl rfl, (cx_pre (s := s) hx0 hP hD hS hA0 [7, 3] rfl rfl (by decide))⟩ rfl rfl hl.1 rfl (lv_room (Nat.le_of_ble_eq_true rfl)) d_IP_findSteps_74 ⟨by decide, by decide⟩) hP hD hS hA [7, 3] [0, 1, 2, 4, 5, 6] rfl rfl (by decide) (by decide) (fun v t w1 H locs ht hW9 hp hP hD hS => ?_) (fun x t w1 H locs ht hW9 hp hP hD hS => by obtain ⟨h9, -⟩ := hp; cases h9)
              obtain ⟨h9, rfl⟩ := hp
              cases h9
              refine W.eq (g2 := F0 m 77 ls [.long (fa_5 (chN (csN (lst yf (ch ^^^ (ch &&& 2 ^ (ek q))) yn).1 + tw)))]) rfl ?_
              refine W.widen (k := 0) (n := 0) (by decide) (by decide) ?_
              have hP : va_P D kl [(ip, .inr (5, [.ref im, .ref ie, .ref is, .ref iy, .ref ii, .int (nI mc), .int mx0, .int ix])), (ie, .inl (cI, 4, .inl (nf ek))), (is, .inl (cI, 16, .inl f4)), (nb_4, .inl (cJ, 16, .inr (.inl fb_6))), (yl, .inr (1, [.ref ya, .int (nI yn), .int (12 : Int32)])), (ya, .inl (cI, 48, .inl yf)), (im, .inr (2, [.ref ca_3, .ref nb_4, .int (nI ((lst yf (ch ^^^ (ch &&& 2 ^ (ek q))) yn).1))])), (ca_3, .inl (cJ, 16, .inr (.inl fa_5)))] H := hP
              have hD : va_D A [(ip, .inr (5, [.ref im, .ref ie, .ref is, .ref iy, .ref ii, .int (nI mc), .int mx0, .int ix])), (ie, .inl (cI, 4, .inl (nf ek))), (is, .inl (cI, 16, .inl f4)), (nb_4, .inl (cJ, 16, .inr (.inl fb_6))), (yl, .inr (1, [.ref ya, .int (nI yn), .int (12 : Int32)])), (ya, .inl (cI, 48, .inl yf)), (im, .inr (2, [.ref ca_3, .ref nb_4, .int (nI ((lst yf (ch ^^^ (ch &&& 2 ^ (ek q))) yn).1))])), (ca_3, .inl (cJ, 16, .inr (.inl fa_5)))] := hD
              refine lv_lstore (lv' := [(6, .long (fa_5 (chN (csN (lst yf (ch ^^^ (ch &&& 2 ^ (ek q))) yn).1 + tw)))), (5, .int (nI (csN (lst yf (ch ^^^ (ch &&& 2 ^ (ek q))) yn).1 + tw))), (4, .int (nI (csN (((lst yf (ch ^^^ (ch &&& 2 ^ (ek q))) yn).1) + 1)))), (3, .int (nI q)), (0, .ref ip), (1, .ref yl), (2, .int (nI ch))]) hx hb d_IP_findSteps_77 hl (by decide) rfl (fun ls hl => ?_)
              refine lv_aload_n hx hb d_IP_findSteps_79 rfl (lv_at hl 4 rfl) ?_
              refine va_get (D := D) (ci := 5) (v := .ref is) (C := cn_IP) (T := ft_IP) (N := 8) hx hb hf_IP (fun _ h => h) hown hK hP 0 rfl rfl 2 (by decide) (gw.at G hx0 mw_141 rfl _) (fun _ h9 => h9) rfl d_IP_findSteps_80 ?_
              refine lv_iload hx hb d_IP_findSteps_83 (lv_at hl 1 rfl) ?_
              refine lv_dup2_11 hx hb d_IP_findSteps_85 rfl rfl ?_
              refine va_iald hx hb hK hP 2 0 rfl rfl (vp_in_nI (n := csN (lst yf (ch ^^^ (ch &&& 2 ^ (ek q))) yn).1 + tw) (by omega) (by omega)) d_IP_findSteps_86 ?_
              refine tp_i (y := f4 (csN (lst yf (ch ^^^ (ch &&& 2 ^ (ek q))) yn).1 + tw)) (congrArg f4 (nI_clamp (n := csN (lst yf (ch ^^^ (ch &&& 2 ^ (ek q))) yn).1 + tw) (by omega))) ?_
              refine lv_aload_n hx hb d_IP_findSteps_87 rfl (lv_at hl 4 rfl) ?_
              refine lv_iload_n hx hb d_IP_findSteps_88 rfl (lv_at hl 3 rfl) ?_
              refine lv_iconst (v := (2 : Int32)) hx hb d_IP_findSteps_89 (by decide) ?_
              refine lv_irem hx hb d_IP_findSteps_90 (by decide) ?_
              refine lv_if_ne (tgt := 99) hx hb d_IP_findSteps_91 (by decide) (fun h_9 => ?_) (fun h_9 => ?_)
              · refine lv_lload hx hb d_IP_findSteps_99 (lv_at hl 0 rfl) ?_
                refine lv_lneg hx hb d_IP_findSteps_101 ?_
                refine tp_l (y := sgn q (fa_5 (chN (csN (lst yf (ch ^^^ (ch &&& 2 ^ (ek q))) yn).1 + tw)))) (by unfold sgn; rw [if_neg h_9]) ?_
                refine cx_call (D := D) (cl := kl) (ws := _) (wc := [(ip, .inr (5, [.ref im, .ref ie, .ref is, .ref iy, .ref ii, .int (nI mc), .int mx0, .int ix]))]) (wr := [(ie, .inl (cI, 4, .inl (nf ek))), (is, .inl (cI, 16, .inl f4)), (nb_4, .inl (cJ, 16, .inr (.inl fb_6))), (yl, .inr (1, [.ref ya, .int (nI yn), .int (12 : Int32)])), (ya, .inl (cI, 48, .inl yf)), (im, .inr (2, [.ref ca_3, .ref nb_4, .int (nI ((lst yf (ch ^^^ (ch &&& 2 ^ (ek q))) yn).1))])), (ca_3, .inl (cJ, 16, .inr (.inl fa_5)))]) (tx_runV (C := cn_IP) (b := ip) (As := [.long (sgn q (fa_5 (chN (csN (lst yf (ch ^^^ (ch &&& 2 ^ (ek q))) yn).1 + tw))))]) (rest := [.int (f4 (csN (lst yf (ch ^^^ (ch &&& 2 ^ (ek q))) yn).1 + tw)), .int (nI (csN (lst yf (ch ^^^ (ch &&& 2 ^ (ek q))) yn).1 + tw)), .ref is]) hx hb hml hown (c_IP_restOf E H.size ip im ie is iy ii (nI mc) mx0 ix (sgn q (fa_5 (chN (csN (lst yf (ch ^^^ (ch &&& 2 ^ (ek q))) yn).1 + tw)))) ) (cx_C (b0 := b0) G hx0 mw_573 mw_8 ny_IP_restOf (by decide)) (gw.at G hx0 mw_570 rfl _) (gw.at G hx0 mw_572 rfl _) (gw.at G hx0 ms_IP_restOf rfl _) ⟨cx_blind, va_recv hK hP (q0 := 0) (ci := 5) (q := (cn_IP, ft_IP, 8)) rfl rfl, (cx_pre (s := s) hx0 hP hD hS hA0 [0] rfl rfl (by decide))⟩ rfl rfl hl.1 rfl (lv_room (Nat.le_of_ble_eq_true rfl)) d_IP_findSteps_102 ⟨by decide, by decide⟩) hP hD hS hA [0] [1, 2, 3, 4, 5, 6, 7] rfl rfl (by decide) (by decide) (fun v t w1 H locs ht hW9 hp hP hD hS => ?_) (fun x t w1 H locs ht hW9 hp hP hD hS => by obtain ⟨h9, -⟩ := hp; cases h9)
                obtain ⟨h9, rfl⟩ := hp
                cases h9
                refine W.eq (g2 := F0 m 105 ls [.int (rsf ix (sgn q (fa_5 (chN (csN (lst yf (ch ^^^ (ch &&& 2 ^ (ek q))) yn).1 + tw))))), .int (f4 (csN (lst yf (ch ^^^ (ch &&& 2 ^ (ek q))) yn).1 + tw)), .int (nI (csN (lst yf (ch ^^^ (ch &&& 2 ^ (ek q))) yn).1 + tw)), .ref is]) rfl ?_
                refine W.widen (k := 0) (n := 0) (by decide) (by decide) ?_
                have hP : va_P D kl [(ie, .inl (cI, 4, .inl (nf ek))), (is, .inl (cI, 16, .inl f4)), (nb_4, .inl (cJ, 16, .inr (.inl fb_6))), (yl, .inr (1, [.ref ya, .int (nI yn), .int (12 : Int32)])), (ya, .inl (cI, 48, .inl yf)), (im, .inr (2, [.ref ca_3, .ref nb_4, .int (nI ((lst yf (ch ^^^ (ch &&& 2 ^ (ek q))) yn).1))])), (ca_3, .inl (cJ, 16, .inr (.inl fa_5))), (ip, .inr (5, [.ref im, .ref ie, .ref is, .ref iy, .ref ii, .int (nI mc), .int mx0, .int ix]))] H := hP
                have hD : va_D A [(ie, .inl (cI, 4, .inl (nf ek))), (is, .inl (cI, 16, .inl f4)), (nb_4, .inl (cJ, 16, .inr (.inl fb_6))), (yl, .inr (1, [.ref ya, .int (nI yn), .int (12 : Int32)])), (ya, .inl (cI, 48, .inl yf)), (im, .inr (2, [.ref ca_3, .ref nb_4, .int (nI ((lst yf (ch ^^^ (ch &&& 2 ^ (ek q))) yn).1))])), (ca_3, .inl (cJ, 16, .inr (.inl fa_5))), (ip, .inr (5, [.ref im, .ref ie, .ref is, .ref iy, .ref ii, .int (nI mc), .int mx0, .int ix]))] := hD
                refine lv_iload_n hx hb d_IP_findSteps_105 rfl (lv_at hl 3 rfl) ?_
                refine lv_iconst (v := (4 : Int32)) hx hb d_IP_findSteps_106 (by decide) ?_
                refine lv_imul hx hb d_IP_findSteps_107 ?_
                refine tp_i (y := nI (q * 4)) (nI_mul q 4) ?_
                refine lv_ishl hx hb d_IP_findSteps_108 ?_
                refine lv_ior hx hb d_IP_findSteps_109 ?_
                refine va_iast hx hb hK hP hD hS 1 0 rfl rfl (vp_in_nI (n := csN (lst yf (ch ^^^ (ch &&& 2 ^ (ek q))) yn).1 + tw) (by omega) (by omega)) d_IP_findSteps_110 (fun H locs hP hD hS => ?_)
                rw [nI_clamp (n := csN (lst yf (ch ^^^ (ch &&& 2 ^ (ek q))) yn).1 + tw) (by omega)] at hP hD
                have hP : va_P D kl [(ie, .inl (cI, 4, .inl (nf ek))), (is, .inl (cI, 16, .inl (upd f4 (csN (lst yf (ch ^^^ (ch &&& 2 ^ (ek q))) yn).1 + tw) ((f4 (csN (lst yf (ch ^^^ (ch &&& 2 ^ (ek q))) yn).1 + tw)) ||| ((rsf ix (sgn q (fa_5 (chN (csN (lst yf (ch ^^^ (ch &&& 2 ^ (ek q))) yn).1 + tw))))) <<< ((nI (q * 4)) &&& 31)))))), (nb_4, .inl (cJ, 16, .inr (.inl fb_6))), (yl, .inr (1, [.ref ya, .int (nI yn), .int (12 : Int32)])), (ya, .inl (cI, 48, .inl yf)), (im, .inr (2, [.ref ca_3, .ref nb_4, .int (nI ((lst yf (ch ^^^ (ch &&& 2 ^ (ek q))) yn).1))])), (ca_3, .inl (cJ, 16, .inr (.inl fa_5))), (ip, .inr (5, [.ref im, .ref ie, .ref is, .ref iy, .ref ii, .int (nI mc), .int mx0, .int ix]))] H := hP
                have hD : va_D A [(ie, .inl (cI, 4, .inl (nf ek))), (is, .inl (cI, 16, .inl (upd f4 (csN (lst yf (ch ^^^ (ch &&& 2 ^ (ek q))) yn).1 + tw) ((f4 (csN (lst yf (ch ^^^ (ch &&& 2 ^ (ek q))) yn).1 + tw)) ||| ((rsf ix (sgn q (fa_5 (chN (csN (lst yf (ch ^^^ (ch &&& 2 ^ (ek q))) yn).1 + tw))))) <<< ((nI (q * 4)) &&& 31)))))), (nb_4, .inl (cJ, 16, .inr (.inl fb_6))), (yl, .inr (1, [.ref ya, .int (nI yn), .int (12 : Int32)])), (ya, .inl (cI, 48, .inl yf)), (im, .inr (2, [.ref ca_3, .ref nb_4, .int (nI ((lst yf (ch ^^^ (ch &&& 2 ^ (ek q))) yn).1))])), (ca_3, .inl (cJ, 16, .inr (.inl fa_5))), (ip, .inr (5, [.ref im, .ref ie, .ref is, .ref iy, .ref ii, .int (nI mc), .int mx0, .int ix]))] := hD
                refine lv_iinc (lv' := [(5, .int (nI ((csN (lst yf (ch ^^^ (ch &&& 2 ^ (ek q))) yn).1 + tw) + 1))), (6, .long (fa_5 (chN (csN (lst yf (ch ^^^ (ch &&& 2 ^ (ek q))) yn).1 + tw)))), (4, .int (nI (csN (((lst yf (ch ^^^ (ch &&& 2 ^ (ek q))) yn).1) + 1)))), (3, .int (nI q)), (0, .ref ip), (1, .ref yl), (2, .int (nI ch))]) (k := 1) (v := nI ((csN (lst yf (ch ^^^ (ch &&& 2 ^ (ek q))) yn).1 + tw) + 1)) hx hb d_IP_findSteps_111 hl rfl (nI_add (csN (lst yf (ch ^^^ (ch &&& 2 ^ (ek q))) yn).1 + tw) 1) (by decide) rfl (fun ls hl => ?_)
                refine lv_goto (tgt := 57) hx hb d_IP_findSteps_114 (by decide) ?_
                exact ih_57 _ (by omega) (tw + 1) (upd f4 (csN (lst yf (ch ^^^ (ch &&& 2 ^ (ek q))) yn).1 + tw) ((f4 (csN (lst yf (ch ^^^ (ch &&& 2 ^ (ek q))) yn).1 + tw)) ||| ((rsf ix (sgn q (fa_5 (chN (csN (lst yf (ch ^^^ (ch &&& 2 ^ (ek q))) yn).1 + tw))))) <<< ((nI (q * 4)) &&& 31)))) ls H locs rfl (fsi_s hp4) (by omega) (lv_sub hl [0, 2, 3, 4, 5, 6] rfl) (hP.sub [7, 0, 1, 6, 2, 3, 4, 5] rfl) (hD.sub [7, 0, 1, 6, 2, 3, 4, 5] (by decide) rfl) hS
              · refine lv_lload hx hb d_IP_findSteps_94 (lv_at hl 0 rfl) ?_
                refine lv_goto (tgt := 102) hx hb d_IP_findSteps_96 (by decide) ?_
                refine tp_l (y := sgn q (fa_5 (chN (csN (lst yf (ch ^^^ (ch &&& 2 ^ (ek q))) yn).1 + tw)))) (by unfold sgn; rw [if_pos h_9]) ?_
                refine cx_call (D := D) (cl := kl) (ws := _) (wc := [(ip, .inr (5, [.ref im, .ref ie, .ref is, .ref iy, .ref ii, .int (nI mc), .int mx0, .int ix]))]) (wr := [(ie, .inl (cI, 4, .inl (nf ek))), (is, .inl (cI, 16, .inl f4)), (nb_4, .inl (cJ, 16, .inr (.inl fb_6))), (yl, .inr (1, [.ref ya, .int (nI yn), .int (12 : Int32)])), (ya, .inl (cI, 48, .inl yf)), (im, .inr (2, [.ref ca_3, .ref nb_4, .int (nI ((lst yf (ch ^^^ (ch &&& 2 ^ (ek q))) yn).1))])), (ca_3, .inl (cJ, 16, .inr (.inl fa_5)))]) (tx_runV (C := cn_IP) (b := ip) (As := [.long (sgn q (fa_5 (chN (csN (lst yf (ch ^^^ (ch &&& 2 ^ (ek q))) yn).1 + tw))))]) (rest := [.int (f4 (csN (lst yf (ch ^^^ (ch &&& 2 ^ (ek q))) yn).1 + tw)), .int (nI (csN (lst yf (ch ^^^ (ch &&& 2 ^ (ek q))) yn).1 + tw)), .ref is]) hx hb hml hown (c_IP_restOf E H.size ip im ie is iy ii (nI mc) mx0 ix (sgn q (fa_5 (chN (csN (lst yf (ch ^^^ (ch &&& 2 ^ (ek q))) yn).1 + tw)))) ) (cx_C (b0 := b0) G hx0 mw_573 mw_8 ny_IP_restOf (by decide)) (gw.at G hx0 mw_570 rfl _) (gw.at G hx0 mw_572 rfl _) (gw.at G hx0 ms_IP_restOf rfl _) ⟨cx_blind, va_recv hK hP (q0 := 0) (ci := 5) (q := (cn_IP, ft_IP, 8)) rfl rfl, (cx_pre (s := s) hx0 hP hD hS hA0 [0] rfl rfl (by decide))⟩ rfl rfl hl.1 rfl (lv_room (Nat.le_of_ble_eq_true rfl)) d_IP_findSteps_102 ⟨by decide, by decide⟩) hP hD hS hA [0] [1, 2, 3, 4, 5, 6, 7] rfl rfl (by decide) (by decide) (fun v t w1 H locs ht hW9 hp hP hD hS => ?_) (fun x t w1 H locs ht hW9 hp hP hD hS => by obtain ⟨h9, -⟩ := hp; cases h9)
                obtain ⟨h9, rfl⟩ := hp
                cases h9
                refine W.eq (g2 := F0 m 105 ls [.int (rsf ix (sgn q (fa_5 (chN (csN (lst yf (ch ^^^ (ch &&& 2 ^ (ek q))) yn).1 + tw))))), .int (f4 (csN (lst yf (ch ^^^ (ch &&& 2 ^ (ek q))) yn).1 + tw)), .int (nI (csN (lst yf (ch ^^^ (ch &&& 2 ^ (ek q))) yn).1 + tw)), .ref is]) rfl ?_
                refine W.widen (k := 0) (n := 0) (by decide) (by decide) ?_
                have hP : va_P D kl [(ie, .inl (cI, 4, .inl (nf ek))), (is, .inl (cI, 16, .inl f4)), (nb_4, .inl (cJ, 16, .inr (.inl fb_6))), (yl, .inr (1, [.ref ya, .int (nI yn), .int (12 : Int32)])), (ya, .inl (cI, 48, .inl yf)), (im, .inr (2, [.ref ca_3, .ref nb_4, .int (nI ((lst yf (ch ^^^ (ch &&& 2 ^ (ek q))) yn).1))])), (ca_3, .inl (cJ, 16, .inr (.inl fa_5))), (ip, .inr (5, [.ref im, .ref ie, .ref is, .ref iy, .ref ii, .int (nI mc), .int mx0, .int ix]))] H := hP
                have hD : va_D A [(ie, .inl (cI, 4, .inl (nf ek))), (is, .inl (cI, 16, .inl f4)), (nb_4, .inl (cJ, 16, .inr (.inl fb_6))), (yl, .inr (1, [.ref ya, .int (nI yn), .int (12 : Int32)])), (ya, .inl (cI, 48, .inl yf)), (im, .inr (2, [.ref ca_3, .ref nb_4, .int (nI ((lst yf (ch ^^^ (ch &&& 2 ^ (ek q))) yn).1))])), (ca_3, .inl (cJ, 16, .inr (.inl fa_5))), (ip, .inr (5, [.ref im, .ref ie, .ref is, .ref iy, .ref ii, .int (nI mc), .int mx0, .int ix]))] := hD
                refine lv_iload_n hx hb d_IP_findSteps_105 rfl (lv_at hl 3 rfl) ?_
                refine lv_iconst (v := (4 : Int32)) hx hb d_IP_findSteps_106 (by decide) ?_
                refine lv_imul hx hb d_IP_findSteps_107 ?_
                refine tp_i (y := nI (q * 4)) (nI_mul q 4) ?_
                refine lv_ishl hx hb d_IP_findSteps_108 ?_
                refine lv_ior hx hb d_IP_findSteps_109 ?_
                refine va_iast hx hb hK hP hD hS 1 0 rfl rfl (vp_in_nI (n := csN (lst yf (ch ^^^ (ch &&& 2 ^ (ek q))) yn).1 + tw) (by omega) (by omega)) d_IP_findSteps_110 (fun H locs hP hD hS => ?_)
                rw [nI_clamp (n := csN (lst yf (ch ^^^ (ch &&& 2 ^ (ek q))) yn).1 + tw) (by omega)] at hP hD
                have hP : va_P D kl [(ie, .inl (cI, 4, .inl (nf ek))), (is, .inl (cI, 16, .inl (upd f4 (csN (lst yf (ch ^^^ (ch &&& 2 ^ (ek q))) yn).1 + tw) ((f4 (csN (lst yf (ch ^^^ (ch &&& 2 ^ (ek q))) yn).1 + tw)) ||| ((rsf ix (sgn q (fa_5 (chN (csN (lst yf (ch ^^^ (ch &&& 2 ^ (ek q))) yn).1 + tw))))) <<< ((nI (q * 4)) &&& 31)))))), (nb_4, .inl (cJ, 16, .inr (.inl fb_6))), (yl, .inr (1, [.ref ya, .int (nI yn), .int (12 : Int32)])), (ya, .inl (cI, 48, .inl yf)), (im, .inr (2, [.ref ca_3, .ref nb_4, .int (nI ((lst yf (ch ^^^ (ch &&& 2 ^ (ek q))) yn).1))])), (ca_3, .inl (cJ, 16, .inr (.inl fa_5))), (ip, .inr (5, [.ref im, .ref ie, .ref is, .ref iy, .ref ii, .int (nI mc), .int mx0, .int ix]))] H := hP
                have hD : va_D A [(ie, .inl (cI, 4, .inl (nf ek))), (is, .inl (cI, 16, .inl (upd f4 (csN (lst yf (ch ^^^ (ch &&& 2 ^ (ek q))) yn).1 + tw) ((f4 (csN (lst yf (ch ^^^ (ch &&& 2 ^ (ek q))) yn).1 + tw)) ||| ((rsf ix (sgn q (fa_5 (chN (csN (lst yf (ch ^^^ (ch &&& 2 ^ (ek q))) yn).1 + tw))))) <<< ((nI (q * 4)) &&& 31)))))), (nb_4, .inl (cJ, 16, .inr (.inl fb_6))), (yl, .inr (1, [.ref ya, .int (nI yn), .int (12 : Int32)])), (ya, .inl (cI, 48, .inl yf)), (im, .inr (2, [.ref ca_3, .ref nb_4, .int (nI ((lst yf (ch ^^^ (ch &&& 2 ^ (ek q))) yn).1))])), (ca_3, .inl (cJ, 16, .inr (.inl fa_5))), (ip, .inr (5, [.ref im, .ref ie, .ref is, .ref iy, .ref ii, .int (nI mc), .int mx0, .int ix]))] := hD
                refine lv_iinc (lv' := [(5, .int (nI ((csN (lst yf (ch ^^^ (ch &&& 2 ^ (ek q))) yn).1 + tw) + 1))), (6, .long (fa_5 (chN (csN (lst yf (ch ^^^ (ch &&& 2 ^ (ek q))) yn).1 + tw)))), (4, .int (nI (csN (((lst yf (ch ^^^ (ch &&& 2 ^ (ek q))) yn).1) + 1)))), (3, .int (nI q)), (0, .ref ip), (1, .ref yl), (2, .int (nI ch))]) (k := 1) (v := nI ((csN (lst yf (ch ^^^ (ch &&& 2 ^ (ek q))) yn).1 + tw) + 1)) hx hb d_IP_findSteps_111 hl rfl (nI_add (csN (lst yf (ch ^^^ (ch &&& 2 ^ (ek q))) yn).1 + tw) 1) (by decide) rfl (fun ls hl => ?_)
                refine lv_goto (tgt := 57) hx hb d_IP_findSteps_114 (by decide) ?_
                exact ih_57 _ (by omega) (tw + 1) (upd f4 (csN (lst yf (ch ^^^ (ch &&& 2 ^ (ek q))) yn).1 + tw) ((f4 (csN (lst yf (ch ^^^ (ch &&& 2 ^ (ek q))) yn).1 + tw)) ||| ((rsf ix (sgn q (fa_5 (chN (csN (lst yf (ch ^^^ (ch &&& 2 ^ (ek q))) yn).1 + tw))))) <<< ((nI (q * 4)) &&& 31)))) ls H locs rfl (fsi_s hp4) (by omega) (lv_sub hl [0, 2, 3, 4, 5, 6] rfl) (hP.sub [7, 0, 1, 6, 2, 3, 4, 5] rfl) (hD.sub [7, 0, 1, 6, 2, 3, 4, 5] (by decide) rfl) hS
        exact lp_57 _ 0 f2 ls H locs rfl rfl hcm (lv_sub hl [0, 1, 2, 3, 4, 5] rfl) (hP.sub [0, 1, 2, 3, 4, 5, 6, 7] rfl) (hD.sub [0, 1, 2, 3, 4, 5, 6, 7] (by decide) rfl) hS
  exact lp_10 _ 0 (z16 sf) cu nx cf nf9 jz ls H locs rfl rfl (Nat.zero_le _) (lv_sub hl [0, 1, 2, 3] rfl) (hP.sub [0, 1, 7, 2, 3, 4, 5, 6] rfl) (hD.sub [0, 1, 7, 2, 3, 4, 5, 6] (by decide) rfl) hS

