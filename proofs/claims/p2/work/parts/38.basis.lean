/-! ===== own rows, laid by wip/tools/sym.py: BasisFinder: heights, sums ===== -/
/-- no height of q is above that of p -/
def bel (hh : Nat → Int32) (rc q p : Nat) : Prop := ∀ r, r < rc → hh (q * 8 + r) ≤ hh (p * 8 + r)
/-- p is a sum, as far as the points that are left say -/
def sumd (hh : Nat → Int32) (rc n p kp : Nat) : Prop := ∃ q, q < n ∧ (q < kp ∨ p < q) ∧ bel hh rc q p
/-- the points that are kept among the first p -/
noncomputable def sft (rc n : Nat) : Nat → Nat × (Nat → Int32) × (Nat → Int32) → Nat × (Nat → Int32) × (Nat → Int32)
  | 0, s => s
  | p + 1, s => @ite _ (sumd (sft rc n p s).2.2 rc n p (sft rc n p s).1) (Classical.propDecidable _) (sft rc n p s) ((sft rc n p s).1 + 1, va_cpy (sft rc n p s).2.1 (sft rc n p s).2.1 (p * 4) ((sft rc n p s).1 * 4) 4, va_cpy (sft rc n p s).2.2 (sft rc n p s).2.2 (p * 8) ((sft rc n p s).1 * 8) 8)
theorem sft_y {rc n p k : Nat} {s : Nat × (Nat → Int32) × (Nat → Int32)} {f g : Nat → Int32} (h : sft rc n p s = (k, f, g)) (hs : sumd g rc n p k) : sft rc n (p + 1) s = (k, f, g) := by
  have h1 : sft rc n (p + 1) s = sft rc n p s := @if_pos _ (Classical.propDecidable _) (by rw [h]; exact hs) _ _ _
  rw [h1, h]
theorem sft_n {rc n p k : Nat} {s : Nat × (Nat → Int32) × (Nat → Int32)} {f g : Nat → Int32} (h : sft rc n p s = (k, f, g)) (hs : ¬ sumd g rc n p k) : sft rc n (p + 1) s = (k + 1, va_cpy f f (p * 4) (k * 4) 4, va_cpy g g (p * 8) (k * 8) 8) := by
  have h1 : sft rc n (p + 1) s = ((sft rc n p s).1 + 1, va_cpy (sft rc n p s).2.1 (sft rc n p s).2.1 (p * 4) ((sft rc n p s).1 * 4) 4, va_cpy (sft rc n p s).2.2 (sft rc n p s).2.2 (p * 8) ((sft rc n p s).1 * 8) 8) := @if_neg _ (Classical.propDecidable _) (by rw [h]; exact hs) _ _ _
  rw [h1, h]
/-- the heights of the first p points -/
def msi (pf g : Nat → Int32) (p : Nat) : Nat → (Nat → Int32) → (Nat → Int32)
  | 0, h => h
  | r + 1, h => upd (msi pf g p r h) (p * 8 + r) (pr4 pf r g).toInt32
def mso (pf : Nat → Int32) (rc : Nat) (of : Nat → Int32) : Nat → (Nat → Int32) × (Nat → Int32) → (Nat → Int32) × (Nat → Int32)
  | 0, s => s
  | p + 1, s => (msi pf (va_cpy of (mso pf rc of p s).2 (p * 4) 0 4) p rc (mso pf rc of p s).1, va_cpy of (mso pf rc of p s).2 (p * 4) 0 4)
theorem msi_s {pf g : Nat → Int32} {p r : Nat} {h h2 : Nat → Int32} (e : msi pf g p r h = h2) : msi pf g p (r + 1) h = upd h2 (p * 8 + r) (pr4 pf r g).toInt32 := by
  show upd (msi pf g p r h) (p * 8 + r) (pr4 pf r g).toInt32 = _
  rw [e]
theorem mso_s {pf : Nat → Int32} {rc p : Nat} {of h g h2 : Nat → Int32} {s : (Nat → Int32) × (Nat → Int32)} (e : mso pf rc of p s = (h, g)) (e2 : msi pf (va_cpy of g (p * 4) 0 4) p rc h = h2) : mso pf rc of (p + 1) s = (h2, va_cpy of g (p * 4) 0 4) := by
  show (msi pf (va_cpy of (mso pf rc of p s).2 (p * 4) 0 4) p rc (mso pf rc of p s).1, va_cpy of (mso pf rc of p s).2 (p * 4) 0 4) = _
  rw [e, e2]
set_option maxHeartbeats 4000000 in
set_option maxRecDepth 100000 in
theorem c_BF_below_y {l : Launch} {s0 : State} {b0 : Addr} {D : va_G} {cI cJ cZ : ClassId} {tC tS : Nat} (E : gE l s0 b0 D cI cJ cZ tC tS) (sz : Nat) (bf : Nat) (fo : Nat) (bm : Nat) (bs : Nat) (ip : Nat) (bc : Nat) (bh : Nat) (br : Nat) (lg : Int32) (rc : Nat) (hh : Nat → Int32) (q : Nat) (p2 : Nat) (hrc : rc ≤ 8) (hq : q < 107) (hp : p2 < 107) (h : bel hh rc q p2) : cx_M l s0 D kl y_BF_isBelow b_BF_isBelow 4 (some .boolean) ({ frames := 0, cells := 0, slots := 0, locals := 0 } : Room) 0 0 [.ref bf, .int (nI q), .int (nI p2)] [(bf, .inr (6, [.ref fo, .int lg, .ref bm, .ref bs, .ref ip, .ref bc, .ref bh, .ref br, .int (nI rc)])), (bh, .inl (cI, 856, .inl hh))] sz (fun o9 _ w9 => o9 = .returned (some (.int (1 : Int32))) ∧ w9 = [(bf, .inr (6, [.ref fo, .int lg, .ref bm, .ref bs, .ref ip, .ref bc, .ref bh, .ref br, .int (nI rc)])), (bh, .inl (cI, 856, .inl hh))]) := by
  refine tx_ofW (cc := b_BF_isBelow) (maxL := 4) (ret := (some .boolean)) (by decide) rfl ?_
  intro p e s m args below meth c s₁ B hml hT hv
  obtain ⟨rfl, hsz, hP, hD0, hx0⟩ := hv
  have hx := B.exec
  have hb := B.bytes
  have hr := B.returns
  have G := E.2.1
  have hown : s.vm.findClass cn_BF = some m.cls := findClass_of_methodNamed B.named
  have hlocks := B.notSynchronized
  have hK := va_K.moved hx0.1.alike E.2.2.1
  have hf_BF : ∀ w99 ∈ u_ws cn_BF ft_BF 9, w99.before ([.ref bf, .int (nI q), .int (nI p2)] : List Value).toArray s = true := fun w99 h99 => gw.at G hx0 (fw_BF w99 h99) (fo_BF w99 h99) _
  subst hsz
  have hA0 := cx_new hD0 hx0.2.1
  have hD := hD0.self (sz := s.heap.size)
  generalize hAe : va_A [(bf, .inr (6, [.ref fo, .int lg, .ref bm, .ref bs, .ref ip, .ref bc, .ref bh, .ref br, .int (nI rc)])), (bh, .inl (cI, 856, .inl hh))] s.heap.size = A at hD hA0 ⊢
  have hA : ∀ q : Nat, s.heap.size ≤ q → A q := fun q h => by rw [← hAe]; exact Or.inr h
  have hS : va_S A s.heap s.heap [] := va_S.rf
  have hl := lv_entry ([.ref bf, .int (nI q), .int (nI p2)]) (n := 4) (Nat.le_of_ble_eq_true rfl)
  rw [lg_entry_eq]
  generalize (lg_sl ([.ref bf, .int (nI q), .int (nI p2)]) ++ List.replicate (4 - (lg_sl ([.ref bf, .int (nI q), .int (nI p2)])).length) Slot.unset).toArray = ls at hl ⊢
  have hl : lv_has ls 4 [(0, .ref bf), (1, .int (nI q)), (2, .int (nI p2))] := hl
  have hP : va_P D kl [(bf, .inr (6, [.ref fo, .int lg, .ref bm, .ref bs, .ref ip, .ref bc, .ref bh, .ref br, .int (nI rc)])), (bh, .inl (cI, 856, .inl hh))] s.heap := hP
  have hml : c.maxLocals = 4 := hml
  generalize hQe : tx_Z below (cx_Q D kl A (fun o9 _ w9 => o9 = .returned (some (.int (1 : Int32))) ∧ w9 = [(bf, .inr (6, [.ref fo, .int lg, .ref bm, .ref bs, .ref ip, .ref bc, .ref bh, .ref br, .int (nI rc)])), (bh, .inl (cI, 856, .inl hh))])) ([.ref bf, .int (nI q), .int (nI p2)] : List Value).toArray s 0 0 A = Q
  refine lv_iconst (v := (0 : Int32)) hx hb d_BF_isBelow_0 (by decide) ?_
  refine lv_istore_n (lv' := [(3, .int (0 : Int32)), (0, .ref bf), (1, .int (nI q)), (2, .int (nI p2))]) hx hb d_BF_isBelow_1 rfl hl (by decide) rfl (fun ls hl => ?_)
  have lp_2 : ∀ (n9 : Nat) (r : Nat) (ls : Array Slot) (H : Heap) (locs : List Loc), rc - r = n9 → (∀ k, k < r → hh (q * 8 + k) ≤ hh (p2 * 8 + k)) → (r ≤ rc) → lv_has ls 4 [(3, .int (nI r)), (0, .ref bf), (1, .int (nI q)), (2, .int (nI p2))] → va_P D kl [(bf, .inr (6, [.ref fo, .int lg, .ref bm, .ref bs, .ref ip, .ref bc, .ref bh, .ref br, .int (nI rc)])), (bh, .inl (cI, 856, .inl hh))] H → va_D A [(bf, .inr (6, [.ref fo, .int lg, .ref bm, .ref bs, .ref ip, .ref bc, .ref bh, .ref br, .int (nI rc)])), (bh, .inl (cI, 856, .inl hh))] → va_S A s.heap H locs → W p l e ({ frames := 0, cells := 0, slots := 0, locals := 0 } : Room) s m ([.ref bf, .int (nI q), .int (nI p2)] : List Value).toArray below meth c H locs 0 0 Q (F0 m 2 ls []) := by
    intro n9
    induction n9 using Nat.strongRecOn with
    | ind n9 ih_2 =>
      intro r ls H locs hm_2 hi hr9 hl hP hD hS
      refine lv_iload_n hx hb d_BF_isBelow_2 rfl (lv_at hl 0 rfl) ?_
      refine lv_aload_n hx hb d_BF_isBelow_3 rfl (lv_at hl 1 rfl) ?_
      refine va_get (D := D) (ci := 6) (v := .int (nI rc)) (C := cn_BF) (T := ft_BF) (N := 9) hx hb hf_BF (fun _ h => h) hown hK hP 0 rfl rfl 8 (by decide) (gw.at G hx0 mw_174 rfl _) (fun _ h9 => h9) rfl d_BF_isBelow_4 ?_
      refine lv_icmp_ge (tgt := 43) hx hb d_BF_isBelow_7 (by decide) (fun h_1 => ?_) (fun h_1 => ?_)
      · have h_1 : rc ≤ r := (nI_leI (a := rc) (b := r) (by omega) (by omega)).mp h_1
        refine lv_iconst (v := (1 : Int32)) hx hb d_BF_isBelow_43 (by decide) ?_
        rw [← hQe]
        exact tx_mono (fun _ h => tx_Z.of h) (W.zret (v := (1 : Int32)) hx hb hr (by decide) (fun t ht hW => ⟨⟨[(bf, .inr (6, [.ref fo, .int lg, .ref bm, .ref bs, .ref ip, .ref bc, .ref bh, .ref br, .int (nI rc)])), (bh, .inl (cI, 856, .inl hh))], ⟨rfl, rfl⟩, by rw [ht]; exact hP.sub [0, 1] rfl, hD.sub [0, 1] (by decide) rfl⟩, hS.F ht⟩) hS.2.2 d_BF_isBelow_44)
      · have h_1 : ¬ (rc ≤ r) := fun z99 => h_1 ((nI_leI (a := rc) (b := r) (by omega) (by omega)).mpr z99)
        refine lv_aload_n hx hb d_BF_isBelow_10 rfl (lv_at hl 1 rfl) ?_
        refine va_get (D := D) (ci := 6) (v := .ref bh) (C := cn_BF) (T := ft_BF) (N := 9) hx hb hf_BF (fun _ h => h) hown hK hP 0 rfl rfl 6 (by decide) (gw.at G hx0 mw_172 rfl _) (fun _ h9 => h9) rfl d_BF_isBelow_11 ?_
        refine lv_iload_n hx hb d_BF_isBelow_14 rfl (lv_at hl 2 rfl) ?_
        refine lv_bipush (v := (8 : Int32)) hx hb d_BF_isBelow_15 (by decide) ?_
        refine lv_imul hx hb d_BF_isBelow_17 ?_
        refine tp_i (y := nI (q * 8)) (nI_mul q 8) ?_
        refine lv_iload_n hx hb d_BF_isBelow_18 rfl (lv_at hl 0 rfl) ?_
        refine lv_iadd hx hb d_BF_isBelow_19 ?_
        refine tp_i (y := nI ((q * 8) + r)) (nI_add (q * 8) r) ?_
        refine va_iald hx hb hK hP 1 0 rfl rfl (vp_in_nI (n := (q * 8) + r) (by omega) (by omega)) d_BF_isBelow_20 ?_
        refine tp_i (y := hh ((q * 8) + r)) (congrArg hh (nI_clamp (n := (q * 8) + r) (by omega))) ?_
        refine lv_aload_n hx hb d_BF_isBelow_21 rfl (lv_at hl 1 rfl) ?_
        refine va_get (D := D) (ci := 6) (v := .ref bh) (C := cn_BF) (T := ft_BF) (N := 9) hx hb hf_BF (fun _ h => h) hown hK hP 0 rfl rfl 6 (by decide) (gw.at G hx0 mw_172 rfl _) (fun _ h9 => h9) rfl d_BF_isBelow_22 ?_
        refine lv_iload_n hx hb d_BF_isBelow_25 rfl (lv_at hl 3 rfl) ?_
        refine lv_bipush (v := (8 : Int32)) hx hb d_BF_isBelow_26 (by decide) ?_
        refine lv_imul hx hb d_BF_isBelow_28 ?_
        refine tp_i (y := nI (p2 * 8)) (nI_mul p2 8) ?_
        refine lv_iload_n hx hb d_BF_isBelow_29 rfl (lv_at hl 0 rfl) ?_
        refine lv_iadd hx hb d_BF_isBelow_30 ?_
        refine tp_i (y := nI ((p2 * 8) + r)) (nI_add (p2 * 8) r) ?_
        refine va_iald hx hb hK hP 1 0 rfl rfl (vp_in_nI (n := (p2 * 8) + r) (by omega) (by omega)) d_BF_isBelow_31 ?_
        refine tp_i (y := hh ((p2 * 8) + r)) (congrArg hh (nI_clamp (n := (p2 * 8) + r) (by omega))) ?_
        refine lv_icmp_le (tgt := 37) hx hb d_BF_isBelow_32 (by decide) (fun _ => ?_) (fun h99 => absurd h99 (not_not_intro (h r (by omega))))
        refine lv_iinc (lv' := [(3, .int (nI (r + 1))), (0, .ref bf), (1, .int (nI q)), (2, .int (nI p2))]) (k := 0) (v := nI (r + 1)) hx hb d_BF_isBelow_37 hl rfl (nI_add r 1) (by decide) rfl (fun ls hl => ?_)
        refine lv_goto (tgt := 2) hx hb d_BF_isBelow_40 (by decide) ?_
        exact ih_2 _ (by omega) (r + 1) ls H locs rfl (fun k hk => h k (by omega)) (by omega) (lv_sub hl [0, 1, 2, 3] rfl) (hP.sub [0, 1] rfl) (hD.sub [0, 1] (by decide) rfl) hS
  exact lp_2 _ 0 ls s.heap [] rfl (fun k hk => absurd hk (Nat.not_lt_zero k)) (Nat.zero_le _) (lv_sub hl [0, 1, 2, 3] rfl) (hP.sub [0, 1] rfl) (hD.sub [0, 1] (by decide) rfl) hS

set_option maxHeartbeats 4000000 in
set_option maxRecDepth 100000 in
theorem c_BF_below_n {l : Launch} {s0 : State} {b0 : Addr} {D : va_G} {cI cJ cZ : ClassId} {tC tS : Nat} (E : gE l s0 b0 D cI cJ cZ tC tS) (sz : Nat) (bf : Nat) (fo : Nat) (bm : Nat) (bs : Nat) (ip : Nat) (bc : Nat) (bh : Nat) (br : Nat) (lg : Int32) (rc : Nat) (hh : Nat → Int32) (q : Nat) (p2 : Nat) (hrc : rc ≤ 8) (hq : q < 107) (hp : p2 < 107) (h : ¬ bel hh rc q p2) : cx_M l s0 D kl y_BF_isBelow b_BF_isBelow 4 (some .boolean) ({ frames := 0, cells := 0, slots := 0, locals := 0 } : Room) 0 0 [.ref bf, .int (nI q), .int (nI p2)] [(bf, .inr (6, [.ref fo, .int lg, .ref bm, .ref bs, .ref ip, .ref bc, .ref bh, .ref br, .int (nI rc)])), (bh, .inl (cI, 856, .inl hh))] sz (fun o9 _ w9 => o9 = .returned (some (.int (0 : Int32))) ∧ w9 = [(bf, .inr (6, [.ref fo, .int lg, .ref bm, .ref bs, .ref ip, .ref bc, .ref bh, .ref br, .int (nI rc)])), (bh, .inl (cI, 856, .inl hh))]) := by
  refine tx_ofW (cc := b_BF_isBelow) (maxL := 4) (ret := (some .boolean)) (by decide) rfl ?_
  intro p e s m args below meth c s₁ B hml hT hv
  obtain ⟨rfl, hsz, hP, hD0, hx0⟩ := hv
  have hx := B.exec
  have hb := B.bytes
  have hr := B.returns
  have G := E.2.1
  have hown : s.vm.findClass cn_BF = some m.cls := findClass_of_methodNamed B.named
  have hlocks := B.notSynchronized
  have hK := va_K.moved hx0.1.alike E.2.2.1
  have hf_BF : ∀ w99 ∈ u_ws cn_BF ft_BF 9, w99.before ([.ref bf, .int (nI q), .int (nI p2)] : List Value).toArray s = true := fun w99 h99 => gw.at G hx0 (fw_BF w99 h99) (fo_BF w99 h99) _
  subst hsz
  have hA0 := cx_new hD0 hx0.2.1
  have hD := hD0.self (sz := s.heap.size)
  generalize hAe : va_A [(bf, .inr (6, [.ref fo, .int lg, .ref bm, .ref bs, .ref ip, .ref bc, .ref bh, .ref br, .int (nI rc)])), (bh, .inl (cI, 856, .inl hh))] s.heap.size = A at hD hA0 ⊢
  have hA : ∀ q : Nat, s.heap.size ≤ q → A q := fun q h => by rw [← hAe]; exact Or.inr h
  have hS : va_S A s.heap s.heap [] := va_S.rf
  have hl := lv_entry ([.ref bf, .int (nI q), .int (nI p2)]) (n := 4) (Nat.le_of_ble_eq_true rfl)
  rw [lg_entry_eq]
  generalize (lg_sl ([.ref bf, .int (nI q), .int (nI p2)]) ++ List.replicate (4 - (lg_sl ([.ref bf, .int (nI q), .int (nI p2)])).length) Slot.unset).toArray = ls at hl ⊢
  have hl : lv_has ls 4 [(0, .ref bf), (1, .int (nI q)), (2, .int (nI p2))] := hl
  have hP : va_P D kl [(bf, .inr (6, [.ref fo, .int lg, .ref bm, .ref bs, .ref ip, .ref bc, .ref bh, .ref br, .int (nI rc)])), (bh, .inl (cI, 856, .inl hh))] s.heap := hP
  have hml : c.maxLocals = 4 := hml
  generalize hQe : tx_Z below (cx_Q D kl A (fun o9 _ w9 => o9 = .returned (some (.int (0 : Int32))) ∧ w9 = [(bf, .inr (6, [.ref fo, .int lg, .ref bm, .ref bs, .ref ip, .ref bc, .ref bh, .ref br, .int (nI rc)])), (bh, .inl (cI, 856, .inl hh))])) ([.ref bf, .int (nI q), .int (nI p2)] : List Value).toArray s 0 0 A = Q
  refine lv_iconst (v := (0 : Int32)) hx hb d_BF_isBelow_0 (by decide) ?_
  refine lv_istore_n (lv' := [(3, .int (0 : Int32)), (0, .ref bf), (1, .int (nI q)), (2, .int (nI p2))]) hx hb d_BF_isBelow_1 rfl hl (by decide) rfl (fun ls hl => ?_)
  have lp_2 : ∀ (n9 : Nat) (r : Nat) (ls : Array Slot) (H : Heap) (locs : List Loc), rc - r = n9 → (∀ k, k < r → hh (q * 8 + k) ≤ hh (p2 * 8 + k)) → (r ≤ rc) → lv_has ls 4 [(3, .int (nI r)), (0, .ref bf), (1, .int (nI q)), (2, .int (nI p2))] → va_P D kl [(bf, .inr (6, [.ref fo, .int lg, .ref bm, .ref bs, .ref ip, .ref bc, .ref bh, .ref br, .int (nI rc)])), (bh, .inl (cI, 856, .inl hh))] H → va_D A [(bf, .inr (6, [.ref fo, .int lg, .ref bm, .ref bs, .ref ip, .ref bc, .ref bh, .ref br, .int (nI rc)])), (bh, .inl (cI, 856, .inl hh))] → va_S A s.heap H locs → W p l e ({ frames := 0, cells := 0, slots := 0, locals := 0 } : Room) s m ([.ref bf, .int (nI q), .int (nI p2)] : List Value).toArray below meth c H locs 0 0 Q (F0 m 2 ls []) := by
    intro n9
    induction n9 using Nat.strongRecOn with
    | ind n9 ih_2 =>
      intro r ls H locs hm_2 hi hr9 hl hP hD hS
      refine lv_iload_n hx hb d_BF_isBelow_2 rfl (lv_at hl 0 rfl) ?_
      refine lv_aload_n hx hb d_BF_isBelow_3 rfl (lv_at hl 1 rfl) ?_
      refine va_get (D := D) (ci := 6) (v := .int (nI rc)) (C := cn_BF) (T := ft_BF) (N := 9) hx hb hf_BF (fun _ h => h) hown hK hP 0 rfl rfl 8 (by decide) (gw.at G hx0 mw_174 rfl _) (fun _ h9 => h9) rfl d_BF_isBelow_4 ?_
      refine lv_icmp_ge (tgt := 43) hx hb d_BF_isBelow_7 (by decide) (fun h_1 => ?_) (fun h_1 => ?_)
      · have h_1 : rc ≤ r := (nI_leI (a := rc) (b := r) (by omega) (by omega)).mp h_1
        refine lv_iconst (v := (1 : Int32)) hx hb d_BF_isBelow_43 (by decide) ?_
        exact absurd (fun k hk => hi k (by omega)) h
      · have h_1 : ¬ (rc ≤ r) := fun z99 => h_1 ((nI_leI (a := rc) (b := r) (by omega) (by omega)).mpr z99)
        refine lv_aload_n hx hb d_BF_isBelow_10 rfl (lv_at hl 1 rfl) ?_
        refine va_get (D := D) (ci := 6) (v := .ref bh) (C := cn_BF) (T := ft_BF) (N := 9) hx hb hf_BF (fun _ h => h) hown hK hP 0 rfl rfl 6 (by decide) (gw.at G hx0 mw_172 rfl _) (fun _ h9 => h9) rfl d_BF_isBelow_11 ?_
        refine lv_iload_n hx hb d_BF_isBelow_14 rfl (lv_at hl 2 rfl) ?_
        refine lv_bipush (v := (8 : Int32)) hx hb d_BF_isBelow_15 (by decide) ?_
        refine lv_imul hx hb d_BF_isBelow_17 ?_
        refine tp_i (y := nI (q * 8)) (nI_mul q 8) ?_
        refine lv_iload_n hx hb d_BF_isBelow_18 rfl (lv_at hl 0 rfl) ?_
        refine lv_iadd hx hb d_BF_isBelow_19 ?_
        refine tp_i (y := nI ((q * 8) + r)) (nI_add (q * 8) r) ?_
        refine va_iald hx hb hK hP 1 0 rfl rfl (vp_in_nI (n := (q * 8) + r) (by omega) (by omega)) d_BF_isBelow_20 ?_
        refine tp_i (y := hh ((q * 8) + r)) (congrArg hh (nI_clamp (n := (q * 8) + r) (by omega))) ?_
        refine lv_aload_n hx hb d_BF_isBelow_21 rfl (lv_at hl 1 rfl) ?_
        refine va_get (D := D) (ci := 6) (v := .ref bh) (C := cn_BF) (T := ft_BF) (N := 9) hx hb hf_BF (fun _ h => h) hown hK hP 0 rfl rfl 6 (by decide) (gw.at G hx0 mw_172 rfl _) (fun _ h9 => h9) rfl d_BF_isBelow_22 ?_
        refine lv_iload_n hx hb d_BF_isBelow_25 rfl (lv_at hl 3 rfl) ?_
        refine lv_bipush (v := (8 : Int32)) hx hb d_BF_isBelow_26 (by decide) ?_
        refine lv_imul hx hb d_BF_isBelow_28 ?_
        refine tp_i (y := nI (p2 * 8)) (nI_mul p2 8) ?_
        refine lv_iload_n hx hb d_BF_isBelow_29 rfl (lv_at hl 0 rfl) ?_
        refine lv_iadd hx hb d_BF_isBelow_30 ?_
        refine tp_i (y := nI ((p2 * 8) + r)) (nI_add (p2 * 8) r) ?_
        refine va_iald hx hb hK hP 1 0 rfl rfl (vp_in_nI (n := (p2 * 8) + r) (by omega) (by omega)) d_BF_isBelow_31 ?_
        refine tp_i (y := hh ((p2 * 8) + r)) (congrArg hh (nI_clamp (n := (p2 * 8) + r) (by omega))) ?_
        refine lv_icmp_le (tgt := 37) hx hb d_BF_isBelow_32 (by decide) (fun h_2 => ?_) (fun h_2 => ?_)
        · refine lv_iinc (lv' := [(3, .int (nI (r + 1))), (0, .ref bf), (1, .int (nI q)), (2, .int (nI p2))]) (k := 0) (v := nI (r + 1)) hx hb d_BF_isBelow_37 hl rfl (nI_add r 1) (by decide) rfl (fun ls hl => ?_)
          refine lv_goto (tgt := 2) hx hb d_BF_isBelow_40 (by decide) ?_
          exact ih_2 _ (by omega) (r + 1) ls H locs rfl (fun k hk => (Nat.lt_succ_iff_lt_or_eq.mp hk).elim (hi k) (fun e => by rw [e]; exact h_2)) (by omega) (lv_sub hl [0, 1, 2, 3] rfl) (hP.sub [0, 1] rfl) (hD.sub [0, 1] (by decide) rfl) hS
        · refine lv_iconst (v := (0 : Int32)) hx hb d_BF_isBelow_35 (by decide) ?_
          rw [← hQe]
          exact tx_mono (fun _ h => tx_Z.of h) (W.zret (v := (0 : Int32)) hx hb hr (by decide) (fun t ht hW => ⟨⟨[(bf, .inr (6, [.ref fo, .int lg, .ref bm, .ref bs, .ref ip, .ref bc, .ref bh, .ref br, .int (nI rc)])), (bh, .inl (cI, 856, .inl hh))], ⟨rfl, rfl⟩, by rw [ht]; exact hP.sub [0, 1] rfl, hD.sub [0, 1] (by decide) rfl⟩, hS.F ht⟩) hS.2.2 d_BF_isBelow_36)
  exact lp_2 _ 0 ls s.heap [] rfl (fun k hk => absurd hk (Nat.not_lt_zero k)) (Nat.zero_le _) (lv_sub hl [0, 1, 2, 3] rfl) (hP.sub [0, 1] rfl) (hD.sub [0, 1] (by decide) rfl) hS

set_option maxHeartbeats 4000000 in
set_option maxRecDepth 100000 in
theorem c_BF_isSum_y {l : Launch} {s0 : State} {b0 : Addr} {D : va_G} {cI cJ cZ : ClassId} {tC tS : Nat} (E : gE l s0 b0 D cI cJ cZ tC tS) (sz : Nat) (bf : Nat) (fo : Nat) (bm : Nat) (bs : Nat) (ip : Nat) (bc : Nat) (bh : Nat) (br : Nat) (lg : Int32) (rc : Nat) (hh : Nat → Int32) (fq : Nat) (on : Nat) (p2 : Nat) (kp : Nat) (hrc : rc ≤ 8) (hon : on ≤ 107) (hp : p2 < 107) (hkp : kp ≤ 107) (h : sumd hh rc on p2 kp) : cx_M l s0 D kl y_BF_isSum b_BF_isSum 4 (some .boolean) ({ frames := 1, cells := 0, slots := 0, locals := 23 } : Room) 0 0 [.ref bf, .int (nI p2), .int (nI kp)] [(bf, .inr (6, [.ref fo, .int lg, .ref bm, .ref bs, .ref ip, .ref bc, .ref bh, .ref br, .int (nI rc)])), (bh, .inl (cI, 856, .inl hh)), (fo, .inr (1, [.ref fq, .int (nI on), .int (107 : Int32)]))] sz (fun o9 _ w9 => o9 = .returned (some (.int (1 : Int32))) ∧ w9 = [(bf, .inr (6, [.ref fo, .int lg, .ref bm, .ref bs, .ref ip, .ref bc, .ref bh, .ref br, .int (nI rc)])), (bh, .inl (cI, 856, .inl hh)), (fo, .inr (1, [.ref fq, .int (nI on), .int (107 : Int32)]))]) := by
  refine tx_ofW (cc := b_BF_isSum) (maxL := 4) (ret := (some .boolean)) (by decide) rfl ?_
  intro p e s m args below meth c s₁ B hml hT hv
  obtain ⟨rfl, hsz, hP, hD0, hx0⟩ := hv
  have hx := B.exec
  have hb := B.bytes
  have hr := B.returns
  have G := E.2.1
  have hown : s.vm.findClass cn_BF = some m.cls := findClass_of_methodNamed B.named
  have hlocks := B.notSynchronized
  have hK := va_K.moved hx0.1.alike E.2.2.1
  have hf_BF : ∀ w99 ∈ u_ws cn_BF ft_BF 9, w99.before ([.ref bf, .int (nI p2), .int (nI kp)] : List Value).toArray s = true := fun w99 h99 => gw.at G hx0 (fw_BF w99 h99) (fo_BF w99 h99) _
  have hf_PL : ∀ w99 ∈ u_ws cn_PL ft_PL 3, w99.before ([.ref bf, .int (nI p2), .int (nI kp)] : List Value).toArray s = true := fun w99 h99 => gw.at G hx0 (fw_PL w99 h99) (fo_PL w99 h99) _
  subst hsz
  have hA0 := cx_new hD0 hx0.2.1
  have hD := hD0.self (sz := s.heap.size)
  generalize hAe : va_A [(bf, .inr (6, [.ref fo, .int lg, .ref bm, .ref bs, .ref ip, .ref bc, .ref bh, .ref br, .int (nI rc)])), (bh, .inl (cI, 856, .inl hh)), (fo, .inr (1, [.ref fq, .int (nI on), .int (107 : Int32)]))] s.heap.size = A at hD hA0 ⊢
  have hA : ∀ q : Nat, s.heap.size ≤ q → A q := fun q h => by rw [← hAe]; exact Or.inr h
  have hS : va_S A s.heap s.heap [] := va_S.rf
  have hl := lv_entry ([.ref bf, .int (nI p2), .int (nI kp)]) (n := 4) (Nat.le_of_ble_eq_true rfl)
  rw [lg_entry_eq]
  generalize (lg_sl ([.ref bf, .int (nI p2), .int (nI kp)]) ++ List.replicate (4 - (lg_sl ([.ref bf, .int (nI p2), .int (nI kp)])).length) Slot.unset).toArray = ls at hl ⊢
  have hl : lv_has ls 4 [(0, .ref bf), (1, .int (nI p2)), (2, .int (nI kp))] := hl
  have hP : va_P D kl [(bf, .inr (6, [.ref fo, .int lg, .ref bm, .ref bs, .ref ip, .ref bc, .ref bh, .ref br, .int (nI rc)])), (bh, .inl (cI, 856, .inl hh)), (fo, .inr (1, [.ref fq, .int (nI on), .int (107 : Int32)]))] s.heap := hP
  have hml : c.maxLocals = 4 := hml
  generalize hQe : tx_Z below (cx_Q D kl A (fun o9 _ w9 => o9 = .returned (some (.int (1 : Int32))) ∧ w9 = [(bf, .inr (6, [.ref fo, .int lg, .ref bm, .ref bs, .ref ip, .ref bc, .ref bh, .ref br, .int (nI rc)])), (bh, .inl (cI, 856, .inl hh)), (fo, .inr (1, [.ref fq, .int (nI on), .int (107 : Int32)]))])) ([.ref bf, .int (nI p2), .int (nI kp)] : List Value).toArray s 0 0 A = Q
  refine lv_iconst (v := (0 : Int32)) hx hb d_BF_isSum_0 (by decide) ?_
  refine lv_istore_n (lv' := [(3, .int (0 : Int32)), (0, .ref bf), (1, .int (nI p2)), (2, .int (nI kp))]) hx hb d_BF_isSum_1 rfl hl (by decide) rfl (fun ls hl => ?_)
  have lp_2 : ∀ (n9 : Nat) (q : Nat) (ls : Array Slot) (H : Heap) (locs : List Loc), on - q = n9 → (∀ k, k < q → ¬ ((k < kp ∨ p2 < k) ∧ bel hh rc k p2)) → (q ≤ on) → lv_has ls 4 [(3, .int (nI q)), (0, .ref bf), (1, .int (nI p2)), (2, .int (nI kp))] → va_P D kl [(bf, .inr (6, [.ref fo, .int lg, .ref bm, .ref bs, .ref ip, .ref bc, .ref bh, .ref br, .int (nI rc)])), (bh, .inl (cI, 856, .inl hh)), (fo, .inr (1, [.ref fq, .int (nI on), .int (107 : Int32)]))] H → va_D A [(bf, .inr (6, [.ref fo, .int lg, .ref bm, .ref bs, .ref ip, .ref bc, .ref bh, .ref br, .int (nI rc)])), (bh, .inl (cI, 856, .inl hh)), (fo, .inr (1, [.ref fq, .int (nI on), .int (107 : Int32)]))] → va_S A s.heap H locs → W p l e ({ frames := 1, cells := 0, slots := 0, locals := 23 } : Room) s m ([.ref bf, .int (nI p2), .int (nI kp)] : List Value).toArray below meth c H locs 0 0 Q (F0 m 2 ls []) := by
    intro n9
    induction n9 using Nat.strongRecOn with
    | ind n9 ih_2 =>
      intro q ls H locs hm_2 hi hq9 hl hP hD hS
      refine lv_iload_n hx hb d_BF_isSum_2 rfl (lv_at hl 0 rfl) ?_
      refine lv_aload_n hx hb d_BF_isSum_3 rfl (lv_at hl 1 rfl) ?_
      refine va_get (D := D) (ci := 6) (v := .ref fo) (C := cn_BF) (T := ft_BF) (N := 9) hx hb hf_BF (fun _ h => h) hown hK hP 0 rfl rfl 0 (by decide) (gw.at G hx0 mw_164 rfl _) (fun _ h9 => h9) rfl d_BF_isSum_4 ?_
      refine va_get (D := D) (ci := 1) (v := .int (nI on)) (C := cn_PL) (T := ft_PL) (N := 3) hx hb hf_PL (fun _ h => h) hown hK hP 2 rfl rfl 1 (by decide) (gw.at G hx0 mw_41 rfl _) (fun _ h9 => h9) rfl d_BF_isSum_7 ?_
      refine lv_icmp_ge (tgt := 40) hx hb d_BF_isSum_10 (by decide) (fun h_1 => ?_) (fun h_1 => ?_)
      · have h_1 : on ≤ q := (nI_leI (a := on) (b := q) (by omega) (by omega)).mp h_1
        refine lv_iconst (v := (0 : Int32)) hx hb d_BF_isSum_40 (by decide) ?_
        exact absurd h (fun z99 => by obtain ⟨k, hk, hx9⟩ := z99; exact hi k (by omega) hx9)
      · have h_1 : ¬ (on ≤ q) := fun z99 => h_1 ((nI_leI (a := on) (b := q) (by omega) (by omega)).mpr z99)
        refine lv_iload_n hx hb d_BF_isSum_13 rfl (lv_at hl 0 rfl) ?_
        refine lv_iload_n hx hb d_BF_isSum_14 rfl (lv_at hl 3 rfl) ?_
        refine lv_icmp_lt (tgt := 23) hx hb d_BF_isSum_15 (by decide) (fun h_2 => ?_) (fun h_2 => ?_)
        · have h_2 : q < kp := (nI_ltI (a := q) (b := kp) (by omega) (by omega)).mp h_2
          refine lv_aload_n hx hb d_BF_isSum_23 rfl (lv_at hl 1 rfl) ?_
          refine lv_iload_n hx hb d_BF_isSum_24 rfl (lv_at hl 0 rfl) ?_
          refine lv_iload_n hx hb d_BF_isSum_25 rfl (lv_at hl 2 rfl) ?_
          by_cases h_3 : bel hh rc q p2
          · refine cx_call (D := D) (cl := kl) (ws := _) (wc := [(bf, .inr (6, [.ref fo, .int lg, .ref bm, .ref bs, .ref ip, .ref bc, .ref bh, .ref br, .int (nI rc)])), (bh, .inl (cI, 856, .inl hh))]) (wr := [(fo, .inr (1, [.ref fq, .int (nI on), .int (107 : Int32)]))]) (tx_runV (C := cn_BF) (b := bf) (As := [.int (nI q), .int (nI p2)]) (rest := []) hx hb hml hown (c_BF_below_y E H.size bf fo bm bs ip bc bh br lg rc hh q p2 hrc (by omega) hp h_3) (cx_C (b0 := b0) G hx0 mw_608 mw_6 ny_BF_isBelow (by decide)) (gw.at G hx0 mw_605 rfl _) (gw.at G hx0 mw_607 rfl _) (gw.at G hx0 ms_BF_isBelow rfl _) ⟨cx_blind, va_recv hK hP (q0 := 0) (ci := 6) (q := (cn_BF, ft_BF, 9)) rfl rfl, (cx_pre (s := s) hx0 hP hD hS hA0 [0, 1] rfl rfl (by decide))⟩ rfl rfl hl.1 rfl (lv_room (Nat.le_of_ble_eq_true rfl)) d_BF_isSum_26 ⟨by decide, by decide⟩) hP hD hS hA [0, 1] [2] rfl rfl (by decide) (by decide) (fun v t w1 H locs ht hW9 hp hP hD hS => ?_) (fun x t w1 H locs ht hW9 hp hP hD hS => by obtain ⟨h9, -⟩ := hp; cases h9)
            obtain ⟨h9, rfl⟩ := hp
            cases h9
            refine W.eq (g2 := F0 m 29 ls [.int (1 : Int32)]) rfl ?_
            refine W.widen (k := 0) (n := 0) (by decide) (by decide) ?_
            have hP : va_P D kl [(fo, .inr (1, [.ref fq, .int (nI on), .int (107 : Int32)])), (bf, .inr (6, [.ref fo, .int lg, .ref bm, .ref bs, .ref ip, .ref bc, .ref bh, .ref br, .int (nI rc)])), (bh, .inl (cI, 856, .inl hh))] H := hP
            have hD : va_D A [(fo, .inr (1, [.ref fq, .int (nI on), .int (107 : Int32)])), (bf, .inr (6, [.ref fo, .int lg, .ref bm, .ref bs, .ref ip, .ref bc, .ref bh, .ref br, .int (nI rc)])), (bh, .inl (cI, 856, .inl hh))] := hD
            refine lv_if_eq (tgt := 34) hx hb d_BF_isSum_29 (by decide) (fun h99 => absurd h99 (by decide)) (fun _ => ?_)
            refine lv_iconst (v := (1 : Int32)) hx hb d_BF_isSum_32 (by decide) ?_
            rw [← hQe]
            exact tx_mono (fun _ h => tx_Z.of h) (W.zret (v := (1 : Int32)) hx hb hr (by decide) (fun t ht hW => ⟨⟨[(bf, .inr (6, [.ref fo, .int lg, .ref bm, .ref bs, .ref ip, .ref bc, .ref bh, .ref br, .int (nI rc)])), (bh, .inl (cI, 856, .inl hh)), (fo, .inr (1, [.ref fq, .int (nI on), .int (107 : Int32)]))], ⟨rfl, rfl⟩, by rw [ht]; exact hP.sub [1, 2, 0] rfl, hD.sub [1, 2, 0] (by decide) rfl⟩, hS.F ht⟩) hS.2.2 d_BF_isSum_33)
          · refine cx_call (D := D) (cl := kl) (ws := _) (wc := [(bf, .inr (6, [.ref fo, .int lg, .ref bm, .ref bs, .ref ip, .ref bc, .ref bh, .ref br, .int (nI rc)])), (bh, .inl (cI, 856, .inl hh))]) (wr := [(fo, .inr (1, [.ref fq, .int (nI on), .int (107 : Int32)]))]) (tx_runV (C := cn_BF) (b := bf) (As := [.int (nI q), .int (nI p2)]) (rest := []) hx hb hml hown (c_BF_below_n E H.size bf fo bm bs ip bc bh br lg rc hh q p2 hrc (by omega) hp h_3) (cx_C (b0 := b0) G hx0 mw_608 mw_6 ny_BF_isBelow (by decide)) (gw.at G hx0 mw_605 rfl _) (gw.at G hx0 mw_607 rfl _) (gw.at G hx0 ms_BF_isBelow rfl _) ⟨cx_blind, va_recv hK hP (q0 := 0) (ci := 6) (q := (cn_BF, ft_BF, 9)) rfl rfl, (cx_pre (s := s) hx0 hP hD hS hA0 [0, 1] rfl rfl (by decide))⟩ rfl rfl hl.1 rfl (lv_room (Nat.le_of_ble_eq_true rfl)) d_BF_isSum_26 ⟨by decide, by decide⟩) hP hD hS hA [0, 1] [2] rfl rfl (by decide) (by decide) (fun v t w1 H locs ht hW9 hp hP hD hS => ?_) (fun x t w1 H locs ht hW9 hp hP hD hS => by obtain ⟨h9, -⟩ := hp; cases h9)
            obtain ⟨h9, rfl⟩ := hp
            cases h9
            refine W.eq (g2 := F0 m 29 ls [.int (0 : Int32)]) rfl ?_
            refine W.widen (k := 0) (n := 0) (by decide) (by decide) ?_
            have hP : va_P D kl [(fo, .inr (1, [.ref fq, .int (nI on), .int (107 : Int32)])), (bf, .inr (6, [.ref fo, .int lg, .ref bm, .ref bs, .ref ip, .ref bc, .ref bh, .ref br, .int (nI rc)])), (bh, .inl (cI, 856, .inl hh))] H := hP
            have hD : va_D A [(fo, .inr (1, [.ref fq, .int (nI on), .int (107 : Int32)])), (bf, .inr (6, [.ref fo, .int lg, .ref bm, .ref bs, .ref ip, .ref bc, .ref bh, .ref br, .int (nI rc)])), (bh, .inl (cI, 856, .inl hh))] := hD
            refine lv_if_eq (tgt := 34) hx hb d_BF_isSum_29 (by decide) (fun _ => ?_) (fun h99 => absurd h99 (by decide))
            refine lv_iinc (lv' := [(3, .int (nI (q + 1))), (0, .ref bf), (1, .int (nI p2)), (2, .int (nI kp))]) (k := 0) (v := nI (q + 1)) hx hb d_BF_isSum_34 hl rfl (nI_add q 1) (by decide) rfl (fun ls hl => ?_)
            refine lv_goto (tgt := 2) hx hb d_BF_isSum_37 (by decide) ?_
            exact ih_2 _ (by omega) (q + 1) ls H locs rfl (fun k hk z98 => (Nat.lt_succ_iff_lt_or_eq.mp hk).elim (fun z96 => hi k z96 z98) (fun e9 => by rw [e9] at z98; exact absurd z98.2 h_3)) (by omega) (lv_sub hl [0, 1, 2, 3] rfl) (hP.sub [1, 2, 0] rfl) (hD.sub [1, 2, 0] (by decide) rfl) hS
        · have h_2 : ¬ (q < kp) := fun z99 => h_2 ((nI_ltI (a := q) (b := kp) (by omega) (by omega)).mpr z99)
          refine lv_iload_n hx hb d_BF_isSum_18 rfl (lv_at hl 0 rfl) ?_
          refine lv_iload_n hx hb d_BF_isSum_19 rfl (lv_at hl 2 rfl) ?_
          refine lv_icmp_le (tgt := 34) hx hb d_BF_isSum_20 (by decide) (fun h_4 => ?_) (fun h_4 => ?_)
          · have h_4 : q ≤ p2 := (nI_leI (a := q) (b := p2) (by omega) (by omega)).mp h_4
            refine lv_iinc (lv' := [(3, .int (nI (q + 1))), (0, .ref bf), (1, .int (nI p2)), (2, .int (nI kp))]) (k := 0) (v := nI (q + 1)) hx hb d_BF_isSum_34 hl rfl (nI_add q 1) (by decide) rfl (fun ls hl => ?_)
            refine lv_goto (tgt := 2) hx hb d_BF_isSum_37 (by decide) ?_
            exact ih_2 _ (by omega) (q + 1) ls H locs rfl (fun k hk z98 => (Nat.lt_succ_iff_lt_or_eq.mp hk).elim (fun z96 => hi k z96 z98) (fun e9 => by rw [e9] at z98; rcases z98.1 with z97 | z97 <;> omega)) (by omega) (lv_sub hl [0, 1, 2, 3] rfl) (hP.sub [0, 1, 2] rfl) (hD.sub [0, 1, 2] (by decide) rfl) hS
          · have h_4 : ¬ (q ≤ p2) := fun z99 => h_4 ((nI_leI (a := q) (b := p2) (by omega) (by omega)).mpr z99)
            refine lv_aload_n hx hb d_BF_isSum_23 rfl (lv_at hl 1 rfl) ?_
            refine lv_iload_n hx hb d_BF_isSum_24 rfl (lv_at hl 0 rfl) ?_
            refine lv_iload_n hx hb d_BF_isSum_25 rfl (lv_at hl 2 rfl) ?_
            by_cases h_5 : bel hh rc q p2
            · refine cx_call (D := D) (cl := kl) (ws := _) (wc := [(bf, .inr (6, [.ref fo, .int lg, .ref bm, .ref bs, .ref ip, .ref bc, .ref bh, .ref br, .int (nI rc)])), (bh, .inl (cI, 856, .inl hh))]) (wr := [(fo, .inr (1, [.ref fq, .int (nI on), .int (107 : Int32)]))]) (tx_runV (C := cn_BF) (b := bf) (As := [.int (nI q), .int (nI p2)]) (rest := []) hx hb hml hown (c_BF_below_y E H.size bf fo bm bs ip bc bh br lg rc hh q p2 hrc (by omega) hp h_5) (cx_C (b0 := b0) G hx0 mw_608 mw_6 ny_BF_isBelow (by decide)) (gw.at G hx0 mw_605 rfl _) (gw.at G hx0 mw_607 rfl _) (gw.at G hx0 ms_BF_isBelow rfl _) ⟨cx_blind, va_recv hK hP (q0 := 0) (ci := 6) (q := (cn_BF, ft_BF, 9)) rfl rfl, (cx_pre (s := s) hx0 hP hD hS hA0 [0, 1] rfl rfl (by decide))⟩ rfl rfl hl.1 rfl (lv_room (Nat.le_of_ble_eq_true rfl)) d_BF_isSum_26 ⟨by decide, by decide⟩) hP hD hS hA [0, 1] [2] rfl rfl (by decide) (by decide) (fun v t w1 H locs ht hW9 hp hP hD hS => ?_) (fun x t w1 H locs ht hW9 hp hP hD hS => by obtain ⟨h9, -⟩ := hp; cases h9)
              obtain ⟨h9, rfl⟩ := hp
              cases h9
              refine W.eq (g2 := F0 m 29 ls [.int (1 : Int32)]) rfl ?_
              refine W.widen (k := 0) (n := 0) (by decide) (by decide) ?_
              have hP : va_P D kl [(fo, .inr (1, [.ref fq, .int (nI on), .int (107 : Int32)])), (bf, .inr (6, [.ref fo, .int lg, .ref bm, .ref bs, .ref ip, .ref bc, .ref bh, .ref br, .int (nI rc)])), (bh, .inl (cI, 856, .inl hh))] H := hP
              have hD : va_D A [(fo, .inr (1, [.ref fq, .int (nI on), .int (107 : Int32)])), (bf, .inr (6, [.ref fo, .int lg, .ref bm, .ref bs, .ref ip, .ref bc, .ref bh, .ref br, .int (nI rc)])), (bh, .inl (cI, 856, .inl hh))] := hD
              refine lv_if_eq (tgt := 34) hx hb d_BF_isSum_29 (by decide) (fun h99 => absurd h99 (by decide)) (fun _ => ?_)
              refine lv_iconst (v := (1 : Int32)) hx hb d_BF_isSum_32 (by decide) ?_
              rw [← hQe]
              exact tx_mono (fun _ h => tx_Z.of h) (W.zret (v := (1 : Int32)) hx hb hr (by decide) (fun t ht hW => ⟨⟨[(bf, .inr (6, [.ref fo, .int lg, .ref bm, .ref bs, .ref ip, .ref bc, .ref bh, .ref br, .int (nI rc)])), (bh, .inl (cI, 856, .inl hh)), (fo, .inr (1, [.ref fq, .int (nI on), .int (107 : Int32)]))], ⟨rfl, rfl⟩, by rw [ht]; exact hP.sub [1, 2, 0] rfl, hD.sub [1, 2, 0] (by decide) rfl⟩, hS.F ht⟩) hS.2.2 d_BF_isSum_33)
            · refine cx_call (D := D) (cl := kl) (ws := _) (wc := [(bf, .inr (6, [.ref fo, .int lg, .ref bm, .ref bs, .ref ip, .ref bc, .ref bh, .ref br, .int (nI rc)])), (bh, .inl (cI, 856, .inl hh))]) (wr := [(fo, .inr (1, [.ref fq, .int (nI on), .int (107 : Int32)]))]) (tx_runV (C := cn_BF) (b := bf) (As := [.int (nI q), .int (nI p2)]) (rest := []) hx hb hml hown (c_BF_below_n E H.size bf fo bm bs ip bc bh br lg rc hh q p2 hrc (by omega) hp h_5) (cx_C (b0 := b0) G hx0 mw_608 mw_6 ny_BF_isBelow (by decide)) (gw.at G hx0 mw_605 rfl _) (gw.at G hx0 mw_607 rfl _) (gw.at G hx0 ms_BF_isBelow rfl _) ⟨cx_blind, va_recv hK hP (q0 := 0) (ci := 6) (q := (cn_BF, ft_BF, 9)) rfl rfl, (cx_pre (s := s) hx0 hP hD hS hA0 [0, 1] rfl rfl (by decide))⟩ rfl rfl hl.1 rfl (lv_room (Nat.le_of_ble_eq_true rfl)) d_BF_isSum_26 ⟨by decide, by decide⟩) hP hD hS hA [0, 1] [2] rfl rfl (by decide) (by decide) (fun v t w1 H locs ht hW9 hp hP hD hS => ?_) (fun x t w1 H locs ht hW9 hp hP hD hS => by obtain ⟨h9, -⟩ := hp; cases h9)
              obtain ⟨h9, rfl⟩ := hp
              cases h9
              refine W.eq (g2 := F0 m 29 ls [.int (0 : Int32)]) rfl ?_
              refine W.widen (k := 0) (n := 0) (by decide) (by decide) ?_
              have hP : va_P D kl [(fo, .inr (1, [.ref fq, .int (nI on), .int (107 : Int32)])), (bf, .inr (6, [.ref fo, .int lg, .ref bm, .ref bs, .ref ip, .ref bc, .ref bh, .ref br, .int (nI rc)])), (bh, .inl (cI, 856, .inl hh))] H := hP
              have hD : va_D A [(fo, .inr (1, [.ref fq, .int (nI on), .int (107 : Int32)])), (bf, .inr (6, [.ref fo, .int lg, .ref bm, .ref bs, .ref ip, .ref bc, .ref bh, .ref br, .int (nI rc)])), (bh, .inl (cI, 856, .inl hh))] := hD
              refine lv_if_eq (tgt := 34) hx hb d_BF_isSum_29 (by decide) (fun _ => ?_) (fun h99 => absurd h99 (by decide))
              refine lv_iinc (lv' := [(3, .int (nI (q + 1))), (0, .ref bf), (1, .int (nI p2)), (2, .int (nI kp))]) (k := 0) (v := nI (q + 1)) hx hb d_BF_isSum_34 hl rfl (nI_add q 1) (by decide) rfl (fun ls hl => ?_)
              refine lv_goto (tgt := 2) hx hb d_BF_isSum_37 (by decide) ?_
              exact ih_2 _ (by omega) (q + 1) ls H locs rfl (fun k hk z98 => (Nat.lt_succ_iff_lt_or_eq.mp hk).elim (fun z96 => hi k z96 z98) (fun e9 => by rw [e9] at z98; exact absurd z98.2 h_5)) (by omega) (lv_sub hl [0, 1, 2, 3] rfl) (hP.sub [1, 2, 0] rfl) (hD.sub [1, 2, 0] (by decide) rfl) hS
  exact lp_2 _ 0 ls s.heap [] rfl (fun k hk => absurd hk (Nat.not_lt_zero k)) (Nat.zero_le _) (lv_sub hl [0, 1, 2, 3] rfl) (hP.sub [0, 1, 2] rfl) (hD.sub [0, 1, 2] (by decide) rfl) hS

set_option maxHeartbeats 4000000 in
set_option maxRecDepth 100000 in
theorem c_BF_isSum_n {l : Launch} {s0 : State} {b0 : Addr} {D : va_G} {cI cJ cZ : ClassId} {tC tS : Nat} (E : gE l s0 b0 D cI cJ cZ tC tS) (sz : Nat) (bf : Nat) (fo : Nat) (bm : Nat) (bs : Nat) (ip : Nat) (bc : Nat) (bh : Nat) (br : Nat) (lg : Int32) (rc : Nat) (hh : Nat → Int32) (fq : Nat) (on : Nat) (p2 : Nat) (kp : Nat) (hrc : rc ≤ 8) (hon : on ≤ 107) (hp : p2 < 107) (hkp : kp ≤ 107) (h : ¬ sumd hh rc on p2 kp) : cx_M l s0 D kl y_BF_isSum b_BF_isSum 4 (some .boolean) ({ frames := 1, cells := 0, slots := 0, locals := 23 } : Room) 0 0 [.ref bf, .int (nI p2), .int (nI kp)] [(bf, .inr (6, [.ref fo, .int lg, .ref bm, .ref bs, .ref ip, .ref bc, .ref bh, .ref br, .int (nI rc)])), (bh, .inl (cI, 856, .inl hh)), (fo, .inr (1, [.ref fq, .int (nI on), .int (107 : Int32)]))] sz (fun o9 _ w9 => o9 = .returned (some (.int (0 : Int32))) ∧ w9 = [(bf, .inr (6, [.ref fo, .int lg, .ref bm, .ref bs, .ref ip, .ref bc, .ref bh, .ref br, .int (nI rc)])), (bh, .inl (cI, 856, .inl hh)), (fo, .inr (1, [.ref fq, .int (nI on), .int (107 : Int32)]))]) := by
  refine tx_ofW (cc := b_BF_isSum) (maxL := 4) (ret := (some .boolean)) (by decide) rfl ?_
  intro p e s m args below meth c s₁ B hml hT hv
  obtain ⟨rfl, hsz, hP, hD0, hx0⟩ := hv
  have hx := B.exec
  have hb := B.bytes
  have hr := B.returns
  have G := E.2.1
  have hown : s.vm.findClass cn_BF = some m.cls := findClass_of_methodNamed B.named
  have hlocks := B.notSynchronized
  have hK := va_K.moved hx0.1.alike E.2.2.1
  have hf_BF : ∀ w99 ∈ u_ws cn_BF ft_BF 9, w99.before ([.ref bf, .int (nI p2), .int (nI kp)] : List Value).toArray s = true := fun w99 h99 => gw.at G hx0 (fw_BF w99 h99) (fo_BF w99 h99) _
  have hf_PL : ∀ w99 ∈ u_ws cn_PL ft_PL 3, w99.before ([.ref bf, .int (nI p2), .int (nI kp)] : List Value).toArray s = true := fun w99 h99 => gw.at G hx0 (fw_PL w99 h99) (fo_PL w99 h99) _
  subst hsz
  have hA0 := cx_new hD0 hx0.2.1
  have hD := hD0.self (sz := s.heap.size)
  generalize hAe : va_A [(bf, .inr (6, [.ref fo, .int lg, .ref bm, .ref bs, .ref ip, .ref bc, .ref bh, .ref br, .int (nI rc)])), (bh, .inl (cI, 856, .inl hh)), (fo, .inr (1, [.ref fq, .int (nI on), .int (107 : Int32)]))] s.heap.size = A at hD hA0 ⊢
  have hA : ∀ q : Nat, s.heap.size ≤ q → A q := fun q h => by rw [← hAe]; exact Or.inr h
  have hS : va_S A s.heap s.heap [] := va_S.rf
  have hl := lv_entry ([.ref bf, .int (nI p2), .int (nI kp)]) (n := 4) (Nat.le_of_ble_eq_true rfl)
  rw [lg_entry_eq]
  generalize (lg_sl ([.ref bf, .int (nI p2), .int (nI kp)]) ++ List.replicate (4 - (lg_sl ([.ref bf, .int (nI p2), .int (nI kp)])).length) Slot.unset).toArray = ls at hl ⊢
  have hl : lv_has ls 4 [(0, .ref bf), (1, .int (nI p2)), (2, .int (nI kp))] := hl
  have hP : va_P D kl [(bf, .inr (6, [.ref fo, .int lg, .ref bm, .ref bs, .ref ip, .ref bc, .ref bh, .ref br, .int (nI rc)])), (bh, .inl (cI, 856, .inl hh)), (fo, .inr (1, [.ref fq, .int (nI on), .int (107 : Int32)]))] s.heap := hP
  have hml : c.maxLocals = 4 := hml
  generalize hQe : tx_Z below (cx_Q D kl A (fun o9 _ w9 => o9 = .returned (some (.int (0 : Int32))) ∧ w9 = [(bf, .inr (6, [.ref fo, .int lg, .ref bm, .ref bs, .ref ip, .ref bc, .ref bh, .ref br, .int (nI rc)])), (bh, .inl (cI, 856, .inl hh)), (fo, .inr (1, [.ref fq, .int (nI on), .int (107 : Int32)]))])) ([.ref bf, .int (nI p2), .int (nI kp)] : List Value).toArray s 0 0 A = Q
  refine lv_iconst (v := (0 : Int32)) hx hb d_BF_isSum_0 (by decide) ?_
  refine lv_istore_n (lv' := [(3, .int (0 : Int32)), (0, .ref bf), (1, .int (nI p2)), (2, .int (nI kp))]) hx hb d_BF_isSum_1 rfl hl (by decide) rfl (fun ls hl => ?_)
  have lp_2 : ∀ (n9 : Nat) (q : Nat) (ls : Array Slot) (H : Heap) (locs : List Loc), on - q = n9 → (∀ k, k < q → ¬ ((k < kp ∨ p2 < k) ∧ bel hh rc k p2)) → (q ≤ on) → lv_has ls 4 [(3, .int (nI q)), (0, .ref bf), (1, .int (nI p2)), (2, .int (nI kp))] → va_P D kl [(bf, .inr (6, [.ref fo, .int lg, .ref bm, .ref bs, .ref ip, .ref bc, .ref bh, .ref br, .int (nI rc)])), (bh, .inl (cI, 856, .inl hh)), (fo, .inr (1, [.ref fq, .int (nI on), .int (107 : Int32)]))] H → va_D A [(bf, .inr (6, [.ref fo, .int lg, .ref bm, .ref bs, .ref ip, .ref bc, .ref bh, .ref br, .int (nI rc)])), (bh, .inl (cI, 856, .inl hh)), (fo, .inr (1, [.ref fq, .int (nI on), .int (107 : Int32)]))] → va_S A s.heap H locs → W p l e ({ frames := 1, cells := 0, slots := 0, locals := 23 } : Room) s m ([.ref bf, .int (nI p2), .int (nI kp)] : List Value).toArray below meth c H locs 0 0 Q (F0 m 2 ls []) := by
    intro n9
    induction n9 using Nat.strongRecOn with
    | ind n9 ih_2 =>
      intro q ls H locs hm_2 hi hq9 hl hP hD hS
      refine lv_iload_n hx hb d_BF_isSum_2 rfl (lv_at hl 0 rfl) ?_
      refine lv_aload_n hx hb d_BF_isSum_3 rfl (lv_at hl 1 rfl) ?_
      refine va_get (D := D) (ci := 6) (v := .ref fo) (C := cn_BF) (T := ft_BF) (N := 9) hx hb hf_BF (fun _ h => h) hown hK hP 0 rfl rfl 0 (by decide) (gw.at G hx0 mw_164 rfl _) (fun _ h9 => h9) rfl d_BF_isSum_4 ?_
      refine va_get (D := D) (ci := 1) (v := .int (nI on)) (C := cn_PL) (T := ft_PL) (N := 3) hx hb hf_PL (fun _ h => h) hown hK hP 2 rfl rfl 1 (by decide) (gw.at G hx0 mw_41 rfl _) (fun _ h9 => h9) rfl d_BF_isSum_7 ?_
      refine lv_icmp_ge (tgt := 40) hx hb d_BF_isSum_10 (by decide) (fun h_1 => ?_) (fun h_1 => ?_)
      · have h_1 : on ≤ q := (nI_leI (a := on) (b := q) (by omega) (by omega)).mp h_1
        refine lv_iconst (v := (0 : Int32)) hx hb d_BF_isSum_40 (by decide) ?_
        rw [← hQe]
        exact tx_mono (fun _ h => tx_Z.of h) (W.zret (v := (0 : Int32)) hx hb hr (by decide) (fun t ht hW => ⟨⟨[(bf, .inr (6, [.ref fo, .int lg, .ref bm, .ref bs, .ref ip, .ref bc, .ref bh, .ref br, .int (nI rc)])), (bh, .inl (cI, 856, .inl hh)), (fo, .inr (1, [.ref fq, .int (nI on), .int (107 : Int32)]))], ⟨rfl, rfl⟩, by rw [ht]; exact hP.sub [0, 1, 2] rfl, hD.sub [0, 1, 2] (by decide) rfl⟩, hS.F ht⟩) hS.2.2 d_BF_isSum_41)
      · have h_1 : ¬ (on ≤ q) := fun z99 => h_1 ((nI_leI (a := on) (b := q) (by omega) (by omega)).mpr z99)
        refine lv_iload_n hx hb d_BF_isSum_13 rfl (lv_at hl 0 rfl) ?_
        refine lv_iload_n hx hb d_BF_isSum_14 rfl (lv_at hl 3 rfl) ?_
        refine lv_icmp_lt (tgt := 23) hx hb d_BF_isSum_15 (by decide) (fun h_2 => ?_) (fun h_2 => ?_)
        · have h_2 : q < kp := (nI_ltI (a := q) (b := kp) (by omega) (by omega)).mp h_2
          refine lv_aload_n hx hb d_BF_isSum_23 rfl (lv_at hl 1 rfl) ?_
          refine lv_iload_n hx hb d_BF_isSum_24 rfl (lv_at hl 0 rfl) ?_
          refine lv_iload_n hx hb d_BF_isSum_25 rfl (lv_at hl 2 rfl) ?_
          by_cases h_3 : bel hh rc q p2
          · refine cx_call (D := D) (cl := kl) (ws := _) (wc := [(bf, .inr (6, [.ref fo, .int lg, .ref bm, .ref bs, .ref ip, .ref bc, .ref bh, .ref br, .int (nI rc)])), (bh, .inl (cI, 856, .inl hh))]) (wr := [(fo, .inr (1, [.ref fq, .int (nI on), .int (107 : Int32)]))]) (tx_runV (C := cn_BF) (b := bf) (As := [.int (nI q), .int (nI p2)]) (rest := []) hx hb hml hown (c_BF_below_y E H.size bf fo bm bs ip bc bh br lg rc hh q p2 hrc (by omega) hp h_3) (cx_C (b0 := b0) G hx0 mw_608 mw_6 ny_BF_isBelow (by decide)) (gw.at G hx0 mw_605 rfl _) (gw.at G hx0 mw_607 rfl _) (gw.at G hx0 ms_BF_isBelow rfl _) ⟨cx_blind, va_recv hK hP (q0 := 0) (ci := 6) (q := (cn_BF, ft_BF, 9)) rfl rfl, (cx_pre (s := s) hx0 hP hD hS hA0 [0, 1] rfl rfl (by decide))⟩ rfl rfl hl.1 rfl (lv_room (Nat.le_of_ble_eq_true rfl)) d_BF_isSum_26 ⟨by decide, by decide⟩) hP hD hS hA [0, 1] [2] rfl rfl (by decide) (by decide) (fun v t w1 H locs ht hW9 hp hP hD hS => ?_) (fun x t w1 H locs ht hW9 hp hP hD hS => by obtain ⟨h9, -⟩ := hp; cases h9)
            obtain ⟨h9, rfl⟩ := hp
            cases h9
            refine W.eq (g2 := F0 m 29 ls [.int (1 : Int32)]) rfl ?_
            refine W.widen (k := 0) (n := 0) (by decide) (by decide) ?_
            have hP : va_P D kl [(fo, .inr (1, [.ref fq, .int (nI on), .int (107 : Int32)])), (bf, .inr (6, [.ref fo, .int lg, .ref bm, .ref bs, .ref ip, .ref bc, .ref bh, .ref br, .int (nI rc)])), (bh, .inl (cI, 856, .inl hh))] H := hP
            have hD : va_D A [(fo, .inr (1, [.ref fq, .int (nI on), .int (107 : Int32)])), (bf, .inr (6, [.ref fo, .int lg, .ref bm, .ref bs, .ref ip, .ref bc, .ref bh, .ref br, .int (nI rc)])), (bh, .inl (cI, 856, .inl hh))] := hD
            refine lv_if_eq (tgt := 34) hx hb d_BF_isSum_29 (by decide) (fun h99 => absurd h99 (by decide)) (fun _ => ?_)
            refine lv_iconst (v := (1 : Int32)) hx hb d_BF_isSum_32 (by decide) ?_
            exact absurd ⟨q, by omega, by omega, h_3⟩ h
          · refine cx_call (D := D) (cl := kl) (ws := _) (wc := [(bf, .inr (6, [.ref fo, .int lg, .ref bm, .ref bs, .ref ip, .ref bc, .ref bh, .ref br, .int (nI rc)])), (bh, .inl (cI, 856, .inl hh))]) (wr := [(fo, .inr (1, [.ref fq, .int (nI on), .int (107 : Int32)]))]) (tx_runV (C := cn_BF) (b := bf) (As := [.int (nI q), .int (nI p2)]) (rest := []) hx hb hml hown (c_BF_below_n E H.size bf fo bm bs ip bc bh br lg rc hh q p2 hrc (by omega) hp h_3) (cx_C (b0 := b0) G hx0 mw_608 mw_6 ny_BF_isBelow (by decide)) (gw.at G hx0 mw_605 rfl _) (gw.at G hx0 mw_607 rfl _) (gw.at G hx0 ms_BF_isBelow rfl _) ⟨cx_blind, va_recv hK hP (q0 := 0) (ci := 6) (q := (cn_BF, ft_BF, 9)) rfl rfl, (cx_pre (s := s) hx0 hP hD hS hA0 [0, 1] rfl rfl (by decide))⟩ rfl rfl hl.1 rfl (lv_room (Nat.le_of_ble_eq_true rfl)) d_BF_isSum_26 ⟨by decide, by decide⟩) hP hD hS hA [0, 1] [2] rfl rfl (by decide) (by decide) (fun v t w1 H locs ht hW9 hp hP hD hS => ?_) (fun x t w1 H locs ht hW9 hp hP hD hS => by obtain ⟨h9, -⟩ := hp; cases h9)
            obtain ⟨h9, rfl⟩ := hp
            cases h9
            refine W.eq (g2 := F0 m 29 ls [.int (0 : Int32)]) rfl ?_
            refine W.widen (k := 0) (n := 0) (by decide) (by decide) ?_
            have hP : va_P D kl [(fo, .inr (1, [.ref fq, .int (nI on), .int (107 : Int32)])), (bf, .inr (6, [.ref fo, .int lg, .ref bm, .ref bs, .ref ip, .ref bc, .ref bh, .ref br, .int (nI rc)])), (bh, .inl (cI, 856, .inl hh))] H := hP
            have hD : va_D A [(fo, .inr (1, [.ref fq, .int (nI on), .int (107 : Int32)])), (bf, .inr (6, [.ref fo, .int lg, .ref bm, .ref bs, .ref ip, .ref bc, .ref bh, .ref br, .int (nI rc)])), (bh, .inl (cI, 856, .inl hh))] := hD
            refine lv_if_eq (tgt := 34) hx hb d_BF_isSum_29 (by decide) (fun _ => ?_) (fun h99 => absurd h99 (by decide))
            refine lv_iinc (lv' := [(3, .int (nI (q + 1))), (0, .ref bf), (1, .int (nI p2)), (2, .int (nI kp))]) (k := 0) (v := nI (q + 1)) hx hb d_BF_isSum_34 hl rfl (nI_add q 1) (by decide) rfl (fun ls hl => ?_)
            refine lv_goto (tgt := 2) hx hb d_BF_isSum_37 (by decide) ?_
            exact ih_2 _ (by omega) (q + 1) ls H locs rfl (fun k hk z98 => (Nat.lt_succ_iff_lt_or_eq.mp hk).elim (fun z96 => hi k z96 z98) (fun e9 => by rw [e9] at z98; exact absurd z98.2 h_3)) (by omega) (lv_sub hl [0, 1, 2, 3] rfl) (hP.sub [1, 2, 0] rfl) (hD.sub [1, 2, 0] (by decide) rfl) hS
        · have h_2 : ¬ (q < kp) := fun z99 => h_2 ((nI_ltI (a := q) (b := kp) (by omega) (by omega)).mpr z99)
          refine lv_iload_n hx hb d_BF_isSum_18 rfl (lv_at hl 0 rfl) ?_
          refine lv_iload_n hx hb d_BF_isSum_19 rfl (lv_at hl 2 rfl) ?_
          refine lv_icmp_le (tgt := 34) hx hb d_BF_isSum_20 (by decide) (fun h_4 => ?_) (fun h_4 => ?_)
          · have h_4 : q ≤ p2 := (nI_leI (a := q) (b := p2) (by omega) (by omega)).mp h_4
            refine lv_iinc (lv' := [(3, .int (nI (q + 1))), (0, .ref bf), (1, .int (nI p2)), (2, .int (nI kp))]) (k := 0) (v := nI (q + 1)) hx hb d_BF_isSum_34 hl rfl (nI_add q 1) (by decide) rfl (fun ls hl => ?_)
            refine lv_goto (tgt := 2) hx hb d_BF_isSum_37 (by decide) ?_
            exact ih_2 _ (by omega) (q + 1) ls H locs rfl (fun k hk z98 => (Nat.lt_succ_iff_lt_or_eq.mp hk).elim (fun z96 => hi k z96 z98) (fun e9 => by rw [e9] at z98; rcases z98.1 with z97 | z97 <;> omega)) (by omega) (lv_sub hl [0, 1, 2, 3] rfl) (hP.sub [0, 1, 2] rfl) (hD.sub [0, 1, 2] (by decide) rfl) hS
          · have h_4 : ¬ (q ≤ p2) := fun z99 => h_4 ((nI_leI (a := q) (b := p2) (by omega) (by omega)).mpr z99)
            refine lv_aload_n hx hb d_BF_isSum_23 rfl (lv_at hl 1 rfl) ?_
            refine lv_iload_n hx hb d_BF_isSum_24 rfl (lv_at hl 0 rfl) ?_
            refine lv_iload_n hx hb d_BF_isSum_25 rfl (lv_at hl 2 rfl) ?_
            by_cases h_5 : bel hh rc q p2
            · refine cx_call (D := D) (cl := kl) (ws := _) (wc := [(bf, .inr (6, [.ref fo, .int lg, .ref bm, .ref bs, .ref ip, .ref bc, .ref bh, .ref br, .int (nI rc)])), (bh, .inl (cI, 856, .inl hh))]) (wr := [(fo, .inr (1, [.ref fq, .int (nI on), .int (107 : Int32)]))]) (tx_runV (C := cn_BF) (b := bf) (As := [.int (nI q), .int (nI p2)]) (rest := []) hx hb hml hown (c_BF_below_y E H.size bf fo bm bs ip bc bh br lg rc hh q p2 hrc (by omega) hp h_5) (cx_C (b0 := b0) G hx0 mw_608 mw_6 ny_BF_isBelow (by decide)) (gw.at G hx0 mw_605 rfl _) (gw.at G hx0 mw_607 rfl _) (gw.at G hx0 ms_BF_isBelow rfl _) ⟨cx_blind, va_recv hK hP (q0 := 0) (ci := 6) (q := (cn_BF, ft_BF, 9)) rfl rfl, (cx_pre (s := s) hx0 hP hD hS hA0 [0, 1] rfl rfl (by decide))⟩ rfl rfl hl.1 rfl (lv_room (Nat.le_of_ble_eq_true rfl)) d_BF_isSum_26 ⟨by decide, by decide⟩) hP hD hS hA [0, 1] [2] rfl rfl (by decide) (by decide) (fun v t w1 H locs ht hW9 hp hP hD hS => ?_) (fun x t w1 H locs ht hW9 hp hP hD hS => by obtain ⟨h9, -⟩ := hp; cases h9)
              obtain ⟨h9, rfl⟩ := hp
              cases h9
              refine W.eq (g2 := F0 m 29 ls [.int (1 : Int32)]) rfl ?_
              refine W.widen (k := 0) (n := 0) (by decide) (by decide) ?_
              have hP : va_P D kl [(fo, .inr (1, [.ref fq, .int (nI on), .int (107 : Int32)])), (bf, .inr (6, [.ref fo, .int lg, .ref bm, .ref bs, .ref ip, .ref bc, .ref bh, .ref br, .int (nI rc)])), (bh, .inl (cI, 856, .inl hh))] H := hP
              have hD : va_D A [(fo, .inr (1, [.ref fq, .int (nI on), .int (107 : Int32)])), (bf, .inr (6, [.ref fo, .int lg, .ref bm, .ref bs, .ref ip, .ref bc, .ref bh, .ref br, .int (nI rc)])), (bh, .inl (cI, 856, .inl hh))] := hD
              refine lv_if_eq (tgt := 34) hx hb d_BF_isSum_29 (by decide) (fun h99 => absurd h99 (by decide)) (fun _ => ?_)
              refine lv_iconst (v := (1 : Int32)) hx hb d_BF_isSum_32 (by decide) ?_
              exact absurd ⟨q, by omega, by omega, h_5⟩ h
            · refine cx_call (D := D) (cl := kl) (ws := _) (wc := [(bf, .inr (6, [.ref fo, .int lg, .ref bm, .ref bs, .ref ip, .ref bc, .ref bh, .ref br, .int (nI rc)])), (bh, .inl (cI, 856, .inl hh))]) (wr := [(fo, .inr (1, [.ref fq, .int (nI on), .int (107 : Int32)]))]) (tx_runV (C := cn_BF) (b := bf) (As := [.int (nI q), .int (nI p2)]) (rest := []) hx hb hml hown (c_BF_below_n E H.size bf fo bm bs ip bc bh br lg rc hh q p2 hrc (by omega) hp h_5) (cx_C (b0 := b0) G hx0 mw_608 mw_6 ny_BF_isBelow (by decide)) (gw.at G hx0 mw_605 rfl _) (gw.at G hx0 mw_607 rfl _) (gw.at G hx0 ms_BF_isBelow rfl _) ⟨cx_blind, va_recv hK hP (q0 := 0) (ci := 6) (q := (cn_BF, ft_BF, 9)) rfl rfl, (cx_pre (s := s) hx0 hP hD hS hA0 [0, 1] rfl rfl (by decide))⟩ rfl rfl hl.1 rfl (lv_room (Nat.le_of_ble_eq_true rfl)) d_BF_isSum_26 ⟨by decide, by decide⟩) hP hD hS hA [0, 1] [2] rfl rfl (by decide) (by decide) (fun v t w1 H locs ht hW9 hp hP hD hS => ?_) (fun x t w1 H locs ht hW9 hp hP hD hS => by obtain ⟨h9, -⟩ := hp; cases h9)
              obtain ⟨h9, rfl⟩ := hp
              cases h9
              refine W.eq (g2 := F0 m 29 ls [.int (0 : Int32)]) rfl ?_
              refine W.widen (k := 0) (n := 0) (by decide) (by decide) ?_
              have hP : va_P D kl [(fo, .inr (1, [.ref fq, .int (nI on), .int (107 : Int32)])), (bf, .inr (6, [.ref fo, .int lg, .ref bm, .ref bs, .ref ip, .ref bc, .ref bh, .ref br, .int (nI rc)])), (bh, .inl (cI, 856, .inl hh))] H := hP
              have hD : va_D A [(fo, .inr (1, [.ref fq, .int (nI on), .int (107 : Int32)])), (bf, .inr (6, [.ref fo, .int lg, .ref bm, .ref bs, .ref ip, .ref bc, .ref bh, .ref br, .int (nI rc)])), (bh, .inl (cI, 856, .inl hh))] := hD
              refine lv_if_eq (tgt := 34) hx hb d_BF_isSum_29 (by decide) (fun _ => ?_) (fun h99 => absurd h99 (by decide))
              refine lv_iinc (lv' := [(3, .int (nI (q + 1))), (0, .ref bf), (1, .int (nI p2)), (2, .int (nI kp))]) (k := 0) (v := nI (q + 1)) hx hb d_BF_isSum_34 hl rfl (nI_add q 1) (by decide) rfl (fun ls hl => ?_)
              refine lv_goto (tgt := 2) hx hb d_BF_isSum_37 (by decide) ?_
              exact ih_2 _ (by omega) (q + 1) ls H locs rfl (fun k hk z98 => (Nat.lt_succ_iff_lt_or_eq.mp hk).elim (fun z96 => hi k z96 z98) (fun e9 => by rw [e9] at z98; exact absurd z98.2 h_5)) (by omega) (lv_sub hl [0, 1, 2, 3] rfl) (hP.sub [1, 2, 0] rfl) (hD.sub [1, 2, 0] (by decide) rfl) hS
  exact lp_2 _ 0 ls s.heap [] rfl (fun k hk => absurd hk (Nat.not_lt_zero k)) (Nat.zero_le _) (lv_sub hl [0, 1, 2, 3] rfl) (hP.sub [0, 1, 2] rfl) (hD.sub [0, 1, 2] (by decide) rfl) hS

set_option maxHeartbeats 4000000 in
set_option maxRecDepth 100000 in
theorem c_BF_sift {l : Launch} {s0 : State} {b0 : Addr} {D : va_G} {cI cJ cZ : ClassId} {tC tS : Nat} (E : gE l s0 b0 D cI cJ cZ tC tS) (sz : Nat) (bf : Nat) (fo : Nat) (bm : Nat) (bs : Nat) (ip : Nat) (bc : Nat) (bh : Nat) (br : Nat) (lg : Int32) (rc : Nat) (hh : Nat → Int32) (fq : Nat) (on : Nat) (of : Nat → Int32) (hrc : rc ≤ 8) (hon : on ≤ 107) : cx_M l s0 D kl y_BF_siftOutSums b_BF_siftOutSums 3 none ({ frames := 2, cells := 0, slots := 0, locals := 62 } : Room) 0 0 [.ref bf] [(bf, .inr (6, [.ref fo, .int lg, .ref bm, .ref bs, .ref ip, .ref bc, .ref bh, .ref br, .int (nI rc)])), (bh, .inl (cI, 856, .inl hh)), (fo, .inr (1, [.ref fq, .int (nI on), .int (107 : Int32)])), (fq, .inl (cI, 428, .inl of))] sz (fun o9 _ w9 => o9 = .returned none ∧ (sft rc on on (0, of, hh)).1 ≤ on ∧ w9 = [(bf, .inr (6, [.ref fo, .int lg, .ref bm, .ref bs, .ref ip, .ref bc, .ref bh, .ref br, .int (nI rc)])), (bh, .inl (cI, 856, .inl ((sft rc on on (0, of, hh)).2.2))), (fo, .inr (1, [.ref fq, .int (nI ((sft rc on on (0, of, hh)).1)), .int (107 : Int32)])), (fq, .inl (cI, 428, .inl ((sft rc on on (0, of, hh)).2.1)))]) := by
  refine tx_ofW (cc := b_BF_siftOutSums) (maxL := 3) (ret := none) (by decide) rfl ?_
  intro p e s m args below meth c s₁ B hml hT hv
  obtain ⟨rfl, hsz, hP, hD0, hx0⟩ := hv
  have hx := B.exec
  have hb := B.bytes
  have hr := B.returns
  have G := E.2.1
  have hown : s.vm.findClass cn_BF = some m.cls := findClass_of_methodNamed B.named
  have hlocks := B.notSynchronized
  have hK := va_K.moved hx0.1.alike E.2.2.1
  have hf_BF : ∀ w99 ∈ u_ws cn_BF ft_BF 9, w99.before ([.ref bf] : List Value).toArray s = true := fun w99 h99 => gw.at G hx0 (fw_BF w99 h99) (fo_BF w99 h99) _
  have hf_PL : ∀ w99 ∈ u_ws cn_PL ft_PL 3, w99.before ([.ref bf] : List Value).toArray s = true := fun w99 h99 => gw.at G hx0 (fw_PL w99 h99) (fo_PL w99 h99) _
  subst hsz
  have hA0 := cx_new hD0 hx0.2.1
  have hD := hD0.self (sz := s.heap.size)
  generalize hAe : va_A [(bf, .inr (6, [.ref fo, .int lg, .ref bm, .ref bs, .ref ip, .ref bc, .ref bh, .ref br, .int (nI rc)])), (bh, .inl (cI, 856, .inl hh)), (fo, .inr (1, [.ref fq, .int (nI on), .int (107 : Int32)])), (fq, .inl (cI, 428, .inl of))] s.heap.size = A at hD hA0 ⊢
  have hA : ∀ q : Nat, s.heap.size ≤ q → A q := fun q h => by rw [← hAe]; exact Or.inr h
  have hS : va_S A s.heap s.heap [] := va_S.rf
  have hl := lv_entry ([.ref bf]) (n := 3) (Nat.le_of_ble_eq_true rfl)
  rw [lg_entry_eq]
  generalize (lg_sl ([.ref bf]) ++ List.replicate (3 - (lg_sl ([.ref bf])).length) Slot.unset).toArray = ls at hl ⊢
  have hl : lv_has ls 3 [(0, .ref bf)] := hl
  have hP : va_P D kl [(bf, .inr (6, [.ref fo, .int lg, .ref bm, .ref bs, .ref ip, .ref bc, .ref bh, .ref br, .int (nI rc)])), (bh, .inl (cI, 856, .inl hh)), (fo, .inr (1, [.ref fq, .int (nI on), .int (107 : Int32)])), (fq, .inl (cI, 428, .inl of))] s.heap := hP
  have hml : c.maxLocals = 3 := hml
  generalize hQe : tx_Z below (cx_Q D kl A (fun o9 _ w9 => o9 = .returned none ∧ (sft rc on on (0, of, hh)).1 ≤ on ∧ w9 = [(bf, .inr (6, [.ref fo, .int lg, .ref bm, .ref bs, .ref ip, .ref bc, .ref bh, .ref br, .int (nI rc)])), (bh, .inl (cI, 856, .inl ((sft rc on on (0, of, hh)).2.2))), (fo, .inr (1, [.ref fq, .int (nI ((sft rc on on (0, of, hh)).1)), .int (107 : Int32)])), (fq, .inl (cI, 428, .inl ((sft rc on on (0, of, hh)).2.1)))])) ([.ref bf] : List Value).toArray s 0 0 A = Q
  refine lv_iconst (v := (0 : Int32)) hx hb d_BF_siftOutSums_0 (by decide) ?_
  refine lv_istore_n (lv' := [(1, .int (0 : Int32)), (0, .ref bf)]) hx hb d_BF_siftOutSums_1 rfl hl (by decide) rfl (fun ls hl => ?_)
  refine lv_iconst (v := (0 : Int32)) hx hb d_BF_siftOutSums_2 (by decide) ?_
  refine lv_istore_n (lv' := [(2, .int (0 : Int32)), (1, .int (0 : Int32)), (0, .ref bf)]) hx hb d_BF_siftOutSums_3 rfl hl (by decide) rfl (fun ls hl => ?_)
  have lp_4 : ∀ (n9 : Nat) (p2 : Nat) (k2 : Nat) (f2 : Nat → Int32) (g2 : Nat → Int32) (ls : Array Slot) (H : Heap) (locs : List Loc), on - p2 = n9 → (sft rc on p2 (0, of, hh) = (k2, f2, g2)) → (p2 ≤ on) → (k2 ≤ p2) → lv_has ls 3 [(2, .int (nI p2)), (1, .int (nI k2)), (0, .ref bf)] → va_P D kl [(bf, .inr (6, [.ref fo, .int lg, .ref bm, .ref bs, .ref ip, .ref bc, .ref bh, .ref br, .int (nI rc)])), (bh, .inl (cI, 856, .inl g2)), (fo, .inr (1, [.ref fq, .int (nI on), .int (107 : Int32)])), (fq, .inl (cI, 428, .inl f2))] H → va_D A [(bf, .inr (6, [.ref fo, .int lg, .ref bm, .ref bs, .ref ip, .ref bc, .ref bh, .ref br, .int (nI rc)])), (bh, .inl (cI, 856, .inl g2)), (fo, .inr (1, [.ref fq, .int (nI on), .int (107 : Int32)])), (fq, .inl (cI, 428, .inl f2))] → va_S A s.heap H locs → W p l e ({ frames := 2, cells := 0, slots := 0, locals := 62 } : Room) s m ([.ref bf] : List Value).toArray below meth c H locs 0 0 Q (F0 m 4 ls []) := by
    intro n9
    induction n9 using Nat.strongRecOn with
    | ind n9 ih_4 =>
      intro p2 k2 f2 g2 ls H locs hm_4 hp2 hpo hkp hl hP hD hS
      refine lv_iload_n hx hb d_BF_siftOutSums_4 rfl (lv_at hl 0 rfl) ?_
      refine lv_aload_n hx hb d_BF_siftOutSums_5 rfl (lv_at hl 2 rfl) ?_
      refine va_get (D := D) (ci := 6) (v := .ref fo) (C := cn_BF) (T := ft_BF) (N := 9) hx hb hf_BF (fun _ h => h) hown hK hP 0 rfl rfl 0 (by decide) (gw.at G hx0 mw_164 rfl _) (fun _ h9 => h9) rfl d_BF_siftOutSums_6 ?_
      refine va_get (D := D) (ci := 1) (v := .int (nI on)) (C := cn_PL) (T := ft_PL) (N := 3) hx hb hf_PL (fun _ h => h) hown hK hP 2 rfl rfl 1 (by decide) (gw.at G hx0 mw_41 rfl _) (fun _ h9 => h9) rfl d_BF_siftOutSums_9 ?_
      refine lv_icmp_ge (tgt := 63) hx hb d_BF_siftOutSums_12 (by decide) (fun h_1 => ?_) (fun h_1 => ?_)
      · have h_1 : on ≤ p2 := (nI_leI (a := on) (b := p2) (by omega) (by omega)).mp h_1
        have hkn : k2 ≤ on := by omega
        have ho9 : sft rc on on (0, of, hh) = (k2, f2, g2) := (show p2 = on by omega) ▸ hp2
        have e0 : (sft rc on on (0, of, hh)).1 = k2 := by rw [ho9]
        have e1 : (sft rc on on (0, of, hh)).2.1 = f2 := by rw [ho9]
        have e2 : (sft rc on on (0, of, hh)).2.2 = g2 := by rw [ho9]
        clear hp2 ho9
        subst e0 e1 e2
        refine lv_aload_n hx hb d_BF_siftOutSums_63 rfl (lv_at hl 2 rfl) ?_
        refine va_get (D := D) (ci := 6) (v := .ref fo) (C := cn_BF) (T := ft_BF) (N := 9) hx hb hf_BF (fun _ h => h) hown hK hP 0 rfl rfl 0 (by decide) (gw.at G hx0 mw_164 rfl _) (fun _ h9 => h9) rfl d_BF_siftOutSums_64 ?_
        refine lv_iload_n hx hb d_BF_siftOutSums_67 rfl (lv_at hl 1 rfl) ?_
        refine va_put (D := D) (ci := 1) (v := .int (nI ((sft rc on on (0, of, hh)).1))) (ty := .int) (C := cn_PL) (T := ft_PL) (N := 3) hx hb hf_PL (fun _ h => h) fy_PL fk_PL fn_PL hown hK hP hD hS 2 rfl rfl 1 (by decide) (gw.at G hx0 mw_41 rfl _) (fun _ h9 => h9) rfl (by decide +kernel) rfl rfl (Nat.le_of_ble_eq_true rfl) d_BF_siftOutSums_68 (fun H locs hP hD hS => ?_)
        have hP : va_P D kl [(bf, .inr (6, [.ref fo, .int lg, .ref bm, .ref bs, .ref ip, .ref bc, .ref bh, .ref br, .int (nI rc)])), (bh, .inl (cI, 856, .inl ((sft rc on on (0, of, hh)).2.2))), (fo, .inr (1, [.ref fq, .int (nI ((sft rc on on (0, of, hh)).1)), .int (107 : Int32)])), (fq, .inl (cI, 428, .inl ((sft rc on on (0, of, hh)).2.1)))] H := hP
        have hD : va_D A [(bf, .inr (6, [.ref fo, .int lg, .ref bm, .ref bs, .ref ip, .ref bc, .ref bh, .ref br, .int (nI rc)])), (bh, .inl (cI, 856, .inl ((sft rc on on (0, of, hh)).2.2))), (fo, .inr (1, [.ref fq, .int (nI ((sft rc on on (0, of, hh)).1)), .int (107 : Int32)])), (fq, .inl (cI, 428, .inl ((sft rc on on (0, of, hh)).2.1)))] := hD
        rw [← hQe]
        exact tx_mono (fun _ h => tx_Z.of h) (W.vret hx hb hr (fun t ht hW => ⟨⟨[(bf, .inr (6, [.ref fo, .int lg, .ref bm, .ref bs, .ref ip, .ref bc, .ref bh, .ref br, .int (nI rc)])), (bh, .inl (cI, 856, .inl ((sft rc on on (0, of, hh)).2.2))), (fo, .inr (1, [.ref fq, .int (nI ((sft rc on on (0, of, hh)).1)), .int (107 : Int32)])), (fq, .inl (cI, 428, .inl ((sft rc on on (0, of, hh)).2.1)))], ⟨rfl, hkn, rfl⟩, by rw [ht]; exact hP.sub [0, 1, 2, 3] rfl, hD.sub [0, 1, 2, 3] (by decide) rfl⟩, hS.F ht⟩) hS.2.2 d_BF_siftOutSums_71)
      · have h_1 : ¬ (on ≤ p2) := fun z99 => h_1 ((nI_leI (a := on) (b := p2) (by omega) (by omega)).mpr z99)
        refine lv_aload_n hx hb d_BF_siftOutSums_15 rfl (lv_at hl 2 rfl) ?_
        refine lv_iload_n hx hb d_BF_siftOutSums_16 rfl (lv_at hl 0 rfl) ?_
        refine lv_iload_n hx hb d_BF_siftOutSums_17 rfl (lv_at hl 1 rfl) ?_
        by_cases h_2 : sumd g2 rc on p2 k2
        · refine cx_call (D := D) (cl := kl) (ws := _) (wc := [(bf, .inr (6, [.ref fo, .int lg, .ref bm, .ref bs, .ref ip, .ref bc, .ref bh, .ref br, .int (nI rc)])), (bh, .inl (cI, 856, .inl g2)), (fo, .inr (1, [.ref fq, .int (nI on), .int (107 : Int32)]))]) (wr := [(fq, .inl (cI, 428, .inl f2))]) (tx_runV (C := cn_BF) (b := bf) (As := [.int (nI p2), .int (nI k2)]) (rest := []) hx hb hml hown (c_BF_isSum_y E H.size bf fo bm bs ip bc bh br lg rc g2 fq on p2 k2 hrc hon (by omega) (by omega) h_2) (cx_C (b0 := b0) G hx0 mw_604 mw_6 ny_BF_isSum (by decide)) (gw.at G hx0 mw_601 rfl _) (gw.at G hx0 mw_603 rfl _) (gw.at G hx0 ms_BF_isSum rfl _) ⟨cx_blind, va_recv hK hP (q0 := 0) (ci := 6) (q := (cn_BF, ft_BF, 9)) rfl rfl, (cx_pre (s := s) hx0 hP hD hS hA0 [0, 1, 2] rfl rfl (by decide))⟩ rfl rfl hl.1 rfl (lv_room (Nat.le_of_ble_eq_true rfl)) d_BF_siftOutSums_18 ⟨by decide, by decide⟩) hP hD hS hA [0, 1, 2] [3] rfl rfl (by decide) (by decide) (fun v t w1 H locs ht hW9 hp hP hD hS => ?_) (fun x t w1 H locs ht hW9 hp hP hD hS => by obtain ⟨h9, -⟩ := hp; cases h9)
          obtain ⟨h9, rfl⟩ := hp
          cases h9
          refine W.eq (g2 := F0 m 21 ls [.int (1 : Int32)]) rfl ?_
          refine W.widen (k := 0) (n := 0) (by decide) (by decide) ?_
          have hP : va_P D kl [(fq, .inl (cI, 428, .inl f2)), (bf, .inr (6, [.ref fo, .int lg, .ref bm, .ref bs, .ref ip, .ref bc, .ref bh, .ref br, .int (nI rc)])), (bh, .inl (cI, 856, .inl g2)), (fo, .inr (1, [.ref fq, .int (nI on), .int (107 : Int32)]))] H := hP
          have hD : va_D A [(fq, .inl (cI, 428, .inl f2)), (bf, .inr (6, [.ref fo, .int lg, .ref bm, .ref bs, .ref ip, .ref bc, .ref bh, .ref br, .int (nI rc)])), (bh, .inl (cI, 856, .inl g2)), (fo, .inr (1, [.ref fq, .int (nI on), .int (107 : Int32)]))] := hD
          refine lv_if_ne (tgt := 57) hx hb d_BF_siftOutSums_21 (by decide) (fun _ => ?_) (fun h99 => absurd h99 (by decide))
          refine lv_iinc (lv' := [(2, .int (nI (p2 + 1))), (1, .int (nI k2)), (0, .ref bf)]) (k := 0) (v := nI (p2 + 1)) hx hb d_BF_siftOutSums_57 hl rfl (nI_add p2 1) (by decide) rfl (fun ls hl => ?_)
          refine lv_goto (tgt := 4) hx hb d_BF_siftOutSums_60 (by decide) ?_
          exact ih_4 _ (by omega) (p2 + 1) k2 f2 g2 ls H locs rfl (sft_y hp2 h_2) (by omega) (by omega) (lv_sub hl [0, 1, 2] rfl) (hP.sub [1, 2, 3, 0] rfl) (hD.sub [1, 2, 3, 0] (by decide) rfl) hS
        · refine cx_call (D := D) (cl := kl) (ws := _) (wc := [(bf, .inr (6, [.ref fo, .int lg, .ref bm, .ref bs, .ref ip, .ref bc, .ref bh, .ref br, .int (nI rc)])), (bh, .inl (cI, 856, .inl g2)), (fo, .inr (1, [.ref fq, .int (nI on), .int (107 : Int32)]))]) (wr := [(fq, .inl (cI, 428, .inl f2))]) (tx_runV (C := cn_BF) (b := bf) (As := [.int (nI p2), .int (nI k2)]) (rest := []) hx hb hml hown (c_BF_isSum_n E H.size bf fo bm bs ip bc bh br lg rc g2 fq on p2 k2 hrc hon (by omega) (by omega) h_2) (cx_C (b0 := b0) G hx0 mw_604 mw_6 ny_BF_isSum (by decide)) (gw.at G hx0 mw_601 rfl _) (gw.at G hx0 mw_603 rfl _) (gw.at G hx0 ms_BF_isSum rfl _) ⟨cx_blind, va_recv hK hP (q0 := 0) (ci := 6) (q := (cn_BF, ft_BF, 9)) rfl rfl, (cx_pre (s := s) hx0 hP hD hS hA0 [0, 1, 2] rfl rfl (by decide))⟩ rfl rfl hl.1 rfl (lv_room (Nat.le_of_ble_eq_true rfl)) d_BF_siftOutSums_18 ⟨by decide, by decide⟩) hP hD hS hA [0, 1, 2] [3] rfl rfl (by decide) (by decide) (fun v t w1 H locs ht hW9 hp hP hD hS => ?_) (fun x t w1 H locs ht hW9 hp hP hD hS => by obtain ⟨h9, -⟩ := hp; cases h9)
          obtain ⟨h9, rfl⟩ := hp
          cases h9
          refine W.eq (g2 := F0 m 21 ls [.int (0 : Int32)]) rfl ?_
          refine W.widen (k := 0) (n := 0) (by decide) (by decide) ?_
          have hP : va_P D kl [(fq, .inl (cI, 428, .inl f2)), (bf, .inr (6, [.ref fo, .int lg, .ref bm, .ref bs, .ref ip, .ref bc, .ref bh, .ref br, .int (nI rc)])), (bh, .inl (cI, 856, .inl g2)), (fo, .inr (1, [.ref fq, .int (nI on), .int (107 : Int32)]))] H := hP
          have hD : va_D A [(fq, .inl (cI, 428, .inl f2)), (bf, .inr (6, [.ref fo, .int lg, .ref bm, .ref bs, .ref ip, .ref bc, .ref bh, .ref br, .int (nI rc)])), (bh, .inl (cI, 856, .inl g2)), (fo, .inr (1, [.ref fq, .int (nI on), .int (107 : Int32)]))] := hD
          refine lv_if_ne (tgt := 57) hx hb d_BF_siftOutSums_21 (by decide) (fun h99 => absurd h99 (by decide)) (fun _ => ?_)
          refine lv_aload_n hx hb d_BF_siftOutSums_24 rfl (lv_at hl 2 rfl) ?_
          refine va_get (D := D) (ci := 6) (v := .ref fo) (C := cn_BF) (T := ft_BF) (N := 9) hx hb hf_BF (fun _ h => h) hown hK hP 1 rfl rfl 0 (by decide) (gw.at G hx0 mw_164 rfl _) (fun _ h9 => h9) rfl d_BF_siftOutSums_25 ?_
          refine lv_iload_n hx hb d_BF_siftOutSums_28 rfl (lv_at hl 0 rfl) ?_
          refine lv_iload_n hx hb d_BF_siftOutSums_29 rfl (lv_at hl 1 rfl) ?_
          refine cx_call (D := D) (cl := kl) (ws := _) (wc := [(fo, .inr (1, [.ref fq, .int (nI on), .int (107 : Int32)])), (fq, .inl (cI, 428, .inl f2))]) (wr := [(bf, .inr (6, [.ref fo, .int lg, .ref bm, .ref bs, .ref ip, .ref bc, .ref bh, .ref br, .int (nI rc)])), (bh, .inl (cI, 856, .inl g2))]) (tx_runV (C := cn_PL) (b := fo) (As := [.int (nI p2), .int (nI k2)]) (rest := []) hx hb hml hown (c_PL_copyWithin E H.size fo fq on 107 428 f2 p2 k2 (by decide) (by decide) hon (by omega) (by omega)) (cx_C (b0 := b0) G hx0 mw_612 mw_3 ny_PL_copyWithin (by decide)) (gw.at G hx0 mw_609 rfl _) (gw.at G hx0 mw_610 rfl _) (gw.at G hx0 mw_611 rfl _) ⟨cx_blind, va_recv hK hP (q0 := 3) (ci := 1) (q := (cn_PL, ft_PL, 3)) rfl rfl, (cx_pre (s := s) hx0 hP hD hS hA0 [3, 0] rfl rfl (by decide))⟩ rfl rfl hl.1 rfl (lv_room (Nat.le_of_ble_eq_true rfl)) d_BF_siftOutSums_30 ⟨by decide, by decide⟩) hP hD hS hA [3, 0] [1, 2] rfl rfl (by decide) (by decide) (fun v t w1 H locs ht hW9 hp hP hD hS => ?_) (fun x t w1 H locs ht hW9 hp hP hD hS => by obtain ⟨h9, -⟩ := hp; cases h9)
          obtain ⟨h9, rfl⟩ := hp
          cases h9
          refine W.eq (g2 := F0 m 33 ls []) rfl ?_
          refine W.widen (k := 0) (n := 0) (by decide) (by decide) ?_
          have hP : va_P D kl [(bf, .inr (6, [.ref fo, .int lg, .ref bm, .ref bs, .ref ip, .ref bc, .ref bh, .ref br, .int (nI rc)])), (bh, .inl (cI, 856, .inl g2)), (fo, .inr (1, [.ref fq, .int (nI on), .int (107 : Int32)])), (fq, .inl (cI, 428, .inl (va_cpy f2 f2 (p2 * 4) (k2 * 4) 4)))] H := hP
          have hD : va_D A [(bf, .inr (6, [.ref fo, .int lg, .ref bm, .ref bs, .ref ip, .ref bc, .ref bh, .ref br, .int (nI rc)])), (bh, .inl (cI, 856, .inl g2)), (fo, .inr (1, [.ref fq, .int (nI on), .int (107 : Int32)])), (fq, .inl (cI, 428, .inl (va_cpy f2 f2 (p2 * 4) (k2 * 4) 4)))] := hD
          refine lv_aload_n hx hb d_BF_siftOutSums_33 rfl (lv_at hl 2 rfl) ?_
          refine va_get (D := D) (ci := 6) (v := .ref bh) (C := cn_BF) (T := ft_BF) (N := 9) hx hb hf_BF (fun _ h => h) hown hK hP 0 rfl rfl 6 (by decide) (gw.at G hx0 mw_172 rfl _) (fun _ h9 => h9) rfl d_BF_siftOutSums_34 ?_
          refine lv_iload_n hx hb d_BF_siftOutSums_37 rfl (lv_at hl 0 rfl) ?_
          refine lv_bipush (v := (8 : Int32)) hx hb d_BF_siftOutSums_38 (by decide) ?_
          refine lv_imul hx hb d_BF_siftOutSums_40 ?_
          refine tp_i (y := nI (p2 * 8)) (nI_mul p2 8) ?_
          refine lv_aload_n hx hb d_BF_siftOutSums_41 rfl (lv_at hl 2 rfl) ?_
          refine va_get (D := D) (ci := 6) (v := .ref bh) (C := cn_BF) (T := ft_BF) (N := 9) hx hb hf_BF (fun _ h => h) hown hK hP 0 rfl rfl 6 (by decide) (gw.at G hx0 mw_172 rfl _) (fun _ h9 => h9) rfl d_BF_siftOutSums_42 ?_
          refine lv_iload_n hx hb d_BF_siftOutSums_45 rfl (lv_at hl 1 rfl) ?_
          refine lv_bipush (v := (8 : Int32)) hx hb d_BF_siftOutSums_46 (by decide) ?_
          refine lv_imul hx hb d_BF_siftOutSums_48 ?_
          refine tp_i (y := nI (k2 * 8)) (nI_mul k2 8) ?_
          refine lv_bipush (v := (8 : Int32)) hx hb d_BF_siftOutSums_49 (by decide) ?_
          refine va_copyi hx hb (hml.trans hl.1.symm) hown (gw.at G hx0 mw_613 rfl _) (gw.at G hx0 mw_358 rfl _) (gw.at G hx0 mw_357 rfl _) (gw.at G hx0 mw_15 rfl _) hK hP hD hS 1 1 0 0 rfl rfl rfl rfl rfl (nI_pos (n := p2 * 8) (by omega)) (nI_pos (n := k2 * 8) (by omega)) (by decide) (by rw [nI_clamp (n := p2 * 8) (by omega)]; show (p2 * 8) + 8 ≤ 856; omega) (by rw [nI_clamp (n := k2 * 8) (by omega)]; show (k2 * 8) + 8 ≤ 856; omega) (fun _ _ => rfl) (by decide) (by decide) d_BF_siftOutSums_51 (fun H locs hP hD hS => ?_)
          rw [nI_clamp (n := p2 * 8) (by omega), nI_clamp (n := k2 * 8) (by omega)] at hP hD
          have hP : va_P D kl [(bf, .inr (6, [.ref fo, .int lg, .ref bm, .ref bs, .ref ip, .ref bc, .ref bh, .ref br, .int (nI rc)])), (bh, .inl (cI, 856, .inl (va_cpy g2 g2 (p2 * 8) (k2 * 8) 8))), (fo, .inr (1, [.ref fq, .int (nI on), .int (107 : Int32)])), (fq, .inl (cI, 428, .inl (va_cpy f2 f2 (p2 * 4) (k2 * 4) 4)))] H := hP
          have hD : va_D A [(bf, .inr (6, [.ref fo, .int lg, .ref bm, .ref bs, .ref ip, .ref bc, .ref bh, .ref br, .int (nI rc)])), (bh, .inl (cI, 856, .inl (va_cpy g2 g2 (p2 * 8) (k2 * 8) 8))), (fo, .inr (1, [.ref fq, .int (nI on), .int (107 : Int32)])), (fq, .inl (cI, 428, .inl (va_cpy f2 f2 (p2 * 4) (k2 * 4) 4)))] := hD
          refine lv_iinc (lv' := [(1, .int (nI (k2 + 1))), (2, .int (nI p2)), (0, .ref bf)]) (k := 1) (v := nI (k2 + 1)) hx hb d_BF_siftOutSums_54 hl rfl (nI_add k2 1) (by decide) rfl (fun ls hl => ?_)
          refine lv_iinc (lv' := [(2, .int (nI (p2 + 1))), (1, .int (nI (k2 + 1))), (0, .ref bf)]) (k := 1) (v := nI (p2 + 1)) hx hb d_BF_siftOutSums_57 hl rfl (nI_add p2 1) (by decide) rfl (fun ls hl => ?_)
          refine lv_goto (tgt := 4) hx hb d_BF_siftOutSums_60 (by decide) ?_
          exact ih_4 _ (by omega) (p2 + 1) (k2 + 1) (va_cpy f2 f2 (p2 * 4) (k2 * 4) 4) (va_cpy g2 g2 (p2 * 8) (k2 * 8) 8) ls H locs rfl (sft_n hp2 h_2) (by omega) (by omega) (lv_sub hl [0, 1, 2] rfl) (hP.sub [0, 1, 2, 3] rfl) (hD.sub [0, 1, 2, 3] (by decide) rfl) hS
  exact lp_4 _ 0 0 of hh ls s.heap [] rfl rfl (Nat.zero_le _) (Nat.le_refl _) (lv_sub hl [0, 1, 2] rfl) (hP.sub [0, 1, 2, 3] rfl) (hD.sub [0, 1, 2, 3] (by decide) rfl) hS

set_option maxHeartbeats 4000000 in
set_option maxRecDepth 100000 in
theorem c_BF_measure {l : Launch} {s0 : State} {b0 : Addr} {D : va_G} {cI cJ cZ : ClassId} {tC tS : Nat} (E : gE l s0 b0 D cI cJ cZ tC tS) (sz : Nat) (bf : Nat) (fo : Nat) (bm : Nat) (bs : Nat) (ip : Nat) (bc : Nat) (bh : Nat) (br : Nat) (lg : Int32) (rc : Nat) (hh : Nat → Int32) (cg : Nat → Int32) (fq : Nat) (on : Nat) (of : Nat → Int32) (pl : Nat) (pa : Nat) (ct : Nat) (mo : Nat) (pz : Nat) (pf : Nat → Int32) (hon : on ≤ 107) (hpz : pz = mo * 4) (hmo : mo ≤ 107) (hct : ct ≤ mo) (hrc : rc = ct) (hc8 : ct ≤ 8) : cx_M l s0 D kl y_BF_measure b_BF_measure 4 none ({ frames := 2, cells := 0, slots := 0, locals := 62 } : Room) 0 0 [.ref bf, .ref pl] [(bf, .inr (6, [.ref fo, .int lg, .ref bm, .ref bs, .ref ip, .ref bc, .ref bh, .ref br, .int (nI rc)])), (bh, .inl (cI, 856, .inl hh)), (bc, .inl (cI, 4, .inl cg)), (fo, .inr (1, [.ref fq, .int (nI on), .int (107 : Int32)])), (fq, .inl (cI, 428, .inl of)), (pl, .inr (1, [.ref pa, .int (nI ct), .int (nI mo)])), (pa, .inl (cI, pz, .inl pf))] sz (fun o9 _ w9 => o9 = .returned none ∧ w9 = [(bf, .inr (6, [.ref fo, .int lg, .ref bm, .ref bs, .ref ip, .ref bc, .ref bh, .ref br, .int (nI rc)])), (bh, .inl (cI, 856, .inl ((mso pf rc of on (hh, cg)).1))), (bc, .inl (cI, 4, .inl ((mso pf rc of on (hh, cg)).2))), (fo, .inr (1, [.ref fq, .int (nI on), .int (107 : Int32)])), (fq, .inl (cI, 428, .inl of)), (pl, .inr (1, [.ref pa, .int (nI ct), .int (nI mo)])), (pa, .inl (cI, pz, .inl pf))]) := by
  refine tx_ofW (cc := b_BF_measure) (maxL := 4) (ret := none) (by decide) rfl ?_
  intro p e s m args below meth c s₁ B hml hT hv
  obtain ⟨rfl, hsz, hP, hD0, hx0⟩ := hv
  have hx := B.exec
  have hb := B.bytes
  have hr := B.returns
  have G := E.2.1
  have hown : s.vm.findClass cn_BF = some m.cls := findClass_of_methodNamed B.named
  have hlocks := B.notSynchronized
  have hK := va_K.moved hx0.1.alike E.2.2.1
  have hf_BF : ∀ w99 ∈ u_ws cn_BF ft_BF 9, w99.before ([.ref bf, .ref pl] : List Value).toArray s = true := fun w99 h99 => gw.at G hx0 (fw_BF w99 h99) (fo_BF w99 h99) _
  have hf_PL : ∀ w99 ∈ u_ws cn_PL ft_PL 3, w99.before ([.ref bf, .ref pl] : List Value).toArray s = true := fun w99 h99 => gw.at G hx0 (fw_PL w99 h99) (fo_PL w99 h99) _
  subst hsz
  have hA0 := cx_new hD0 hx0.2.1
  have hD := hD0.self (sz := s.heap.size)
  generalize hAe : va_A [(bf, .inr (6, [.ref fo, .int lg, .ref bm, .ref bs, .ref ip, .ref bc, .ref bh, .ref br, .int (nI rc)])), (bh, .inl (cI, 856, .inl hh)), (bc, .inl (cI, 4, .inl cg)), (fo, .inr (1, [.ref fq, .int (nI on), .int (107 : Int32)])), (fq, .inl (cI, 428, .inl of)), (pl, .inr (1, [.ref pa, .int (nI ct), .int (nI mo)])), (pa, .inl (cI, pz, .inl pf))] s.heap.size = A at hD hA0 ⊢
  have hA : ∀ q : Nat, s.heap.size ≤ q → A q := fun q h => by rw [← hAe]; exact Or.inr h
  have hS : va_S A s.heap s.heap [] := va_S.rf
  have hl := lv_entry ([.ref bf, .ref pl]) (n := 4) (Nat.le_of_ble_eq_true rfl)
  rw [lg_entry_eq]
  generalize (lg_sl ([.ref bf, .ref pl]) ++ List.replicate (4 - (lg_sl ([.ref bf, .ref pl])).length) Slot.unset).toArray = ls at hl ⊢
  have hl : lv_has ls 4 [(0, .ref bf), (1, .ref pl)] := hl
  have hP : va_P D kl [(bf, .inr (6, [.ref fo, .int lg, .ref bm, .ref bs, .ref ip, .ref bc, .ref bh, .ref br, .int (nI rc)])), (bh, .inl (cI, 856, .inl hh)), (bc, .inl (cI, 4, .inl cg)), (fo, .inr (1, [.ref fq, .int (nI on), .int (107 : Int32)])), (fq, .inl (cI, 428, .inl of)), (pl, .inr (1, [.ref pa, .int (nI ct), .int (nI mo)])), (pa, .inl (cI, pz, .inl pf))] s.heap := hP
  have hml : c.maxLocals = 4 := hml
  generalize hQe : tx_Z below (cx_Q D kl A (fun o9 _ w9 => o9 = .returned none ∧ w9 = [(bf, .inr (6, [.ref fo, .int lg, .ref bm, .ref bs, .ref ip, .ref bc, .ref bh, .ref br, .int (nI rc)])), (bh, .inl (cI, 856, .inl ((mso pf rc of on (hh, cg)).1))), (bc, .inl (cI, 4, .inl ((mso pf rc of on (hh, cg)).2))), (fo, .inr (1, [.ref fq, .int (nI on), .int (107 : Int32)])), (fq, .inl (cI, 428, .inl of)), (pl, .inr (1, [.ref pa, .int (nI ct), .int (nI mo)])), (pa, .inl (cI, pz, .inl pf))])) ([.ref bf, .ref pl] : List Value).toArray s 0 0 A = Q
  refine lv_iconst (v := (0 : Int32)) hx hb d_BF_measure_0 (by decide) ?_
  refine lv_istore_n (lv' := [(2, .int (0 : Int32)), (0, .ref bf), (1, .ref pl)]) hx hb d_BF_measure_1 rfl hl (by decide) rfl (fun ls hl => ?_)
  have lp_2 : ∀ (n9 : Nat) (p2 : Nat) (h2 : Nat → Int32) (g2 : Nat → Int32) (ls : Array Slot) (H : Heap) (locs : List Loc), on - p2 = n9 → (mso pf rc of p2 (hh, cg) = (h2, g2)) → (p2 ≤ on) → lv_has ls 4 [(2, .int (nI p2)), (0, .ref bf), (1, .ref pl)] → va_P D kl [(bf, .inr (6, [.ref fo, .int lg, .ref bm, .ref bs, .ref ip, .ref bc, .ref bh, .ref br, .int (nI rc)])), (bh, .inl (cI, 856, .inl h2)), (bc, .inl (cI, 4, .inl g2)), (fo, .inr (1, [.ref fq, .int (nI on), .int (107 : Int32)])), (fq, .inl (cI, 428, .inl of)), (pl, .inr (1, [.ref pa, .int (nI ct), .int (nI mo)])), (pa, .inl (cI, pz, .inl pf))] H → va_D A [(bf, .inr (6, [.ref fo, .int lg, .ref bm, .ref bs, .ref ip, .ref bc, .ref bh, .ref br, .int (nI rc)])), (bh, .inl (cI, 856, .inl h2)), (bc, .inl (cI, 4, .inl g2)), (fo, .inr (1, [.ref fq, .int (nI on), .int (107 : Int32)])), (fq, .inl (cI, 428, .inl of)), (pl, .inr (1, [.ref pa, .int (nI ct), .int (nI mo)])), (pa, .inl (cI, pz, .inl pf))] → va_S A s.heap H locs → W p l e ({ frames := 2, cells := 0, slots := 0, locals := 62 } : Room) s m ([.ref bf, .ref pl] : List Value).toArray below meth c H locs 0 0 Q (F0 m 2 ls []) := by
    intro n9
    induction n9 using Nat.strongRecOn with
    | ind n9 ih_2 =>
      intro p2 h2 g2 ls H locs hm_2 hm2 hpo hl hP hD hS
      refine lv_iload_n hx hb d_BF_measure_2 rfl (lv_at hl 0 rfl) ?_
      refine lv_aload_n hx hb d_BF_measure_3 rfl (lv_at hl 1 rfl) ?_
      refine va_get (D := D) (ci := 6) (v := .ref fo) (C := cn_BF) (T := ft_BF) (N := 9) hx hb hf_BF (fun _ h => h) hown hK hP 0 rfl rfl 0 (by decide) (gw.at G hx0 mw_164 rfl _) (fun _ h9 => h9) rfl d_BF_measure_4 ?_
      refine va_get (D := D) (ci := 1) (v := .int (nI on)) (C := cn_PL) (T := ft_PL) (N := 3) hx hb hf_PL (fun _ h => h) hown hK hP 3 rfl rfl 1 (by decide) (gw.at G hx0 mw_41 rfl _) (fun _ h9 => h9) rfl d_BF_measure_7 ?_
      refine lv_icmp_ge (tgt := 68) hx hb d_BF_measure_10 (by decide) (fun h_1 => ?_) (fun h_1 => ?_)
      · have h_1 : on ≤ p2 := (nI_leI (a := on) (b := p2) (by omega) (by omega)).mp h_1
        have ho9 : mso pf rc of on (hh, cg) = (h2, g2) := (show p2 = on by omega) ▸ hm2
        have e1 : (mso pf rc of on (hh, cg)).1 = h2 := by rw [ho9]
        have e2 : (mso pf rc of on (hh, cg)).2 = g2 := by rw [ho9]
        clear hm2 ho9
        subst e1 e2
        rw [← hQe]
        exact tx_mono (fun _ h => tx_Z.of h) (W.vret hx hb hr (fun t ht hW => ⟨⟨[(bf, .inr (6, [.ref fo, .int lg, .ref bm, .ref bs, .ref ip, .ref bc, .ref bh, .ref br, .int (nI rc)])), (bh, .inl (cI, 856, .inl ((mso pf rc of on (hh, cg)).1))), (bc, .inl (cI, 4, .inl ((mso pf rc of on (hh, cg)).2))), (fo, .inr (1, [.ref fq, .int (nI on), .int (107 : Int32)])), (fq, .inl (cI, 428, .inl of)), (pl, .inr (1, [.ref pa, .int (nI ct), .int (nI mo)])), (pa, .inl (cI, pz, .inl pf))], ⟨rfl, rfl⟩, by rw [ht]; exact hP.sub [0, 1, 2, 3, 4, 5, 6] rfl, hD.sub [0, 1, 2, 3, 4, 5, 6] (by decide) rfl⟩, hS.F ht⟩) hS.2.2 d_BF_measure_68)
      · have h_1 : ¬ (on ≤ p2) := fun z99 => h_1 ((nI_leI (a := on) (b := p2) (by omega) (by omega)).mpr z99)
        refine lv_aload_n hx hb d_BF_measure_13 rfl (lv_at hl 1 rfl) ?_
        refine va_get (D := D) (ci := 6) (v := .ref fo) (C := cn_BF) (T := ft_BF) (N := 9) hx hb hf_BF (fun _ h => h) hown hK hP 0 rfl rfl 0 (by decide) (gw.at G hx0 mw_164 rfl _) (fun _ h9 => h9) rfl d_BF_measure_14 ?_
        refine lv_iload_n hx hb d_BF_measure_17 rfl (lv_at hl 0 rfl) ?_
        refine lv_aload_n hx hb d_BF_measure_18 rfl (lv_at hl 1 rfl) ?_
        refine va_get (D := D) (ci := 6) (v := .ref bc) (C := cn_BF) (T := ft_BF) (N := 9) hx hb hf_BF (fun _ h => h) hown hK hP 0 rfl rfl 5 (by decide) (gw.at G hx0 mw_171 rfl _) (fun _ h9 => h9) rfl d_BF_measure_19 ?_
        refine cx_call (D := D) (cl := kl) (ws := _) (wc := [(fo, .inr (1, [.ref fq, .int (nI on), .int (107 : Int32)])), (fq, .inl (cI, 428, .inl of)), (bc, .inl (cI, 4, .inl g2))]) (wr := [(bf, .inr (6, [.ref fo, .int lg, .ref bm, .ref bs, .ref ip, .ref bc, .ref bh, .ref br, .int (nI rc)])), (bh, .inl (cI, 856, .inl h2)), (pl, .inr (1, [.ref pa, .int (nI ct), .int (nI mo)])), (pa, .inl (cI, pz, .inl pf))]) (tx_runV (C := cn_PL) (b := fo) (As := [.int (nI p2), .ref bc]) (rest := []) hx hb hml hown (c_PL_copyOut E H.size fo fq on 107 428 of p2 bc g2 (by decide) (by decide) hon (by omega)) (cx_C (b0 := b0) G hx0 mw_510 mw_3 ny_PL_copyOut (by decide)) (gw.at G hx0 mw_546 rfl _) (gw.at G hx0 mw_508 rfl _) (gw.at G hx0 mw_509 rfl _) ⟨cx_blind, va_recv hK hP (q0 := 3) (ci := 1) (q := (cn_PL, ft_PL, 3)) rfl rfl, (cx_pre (s := s) hx0 hP hD hS hA0 [3, 4, 2] rfl rfl (by decide))⟩ rfl rfl hl.1 rfl (lv_room (Nat.le_of_ble_eq_true rfl)) d_BF_measure_22 ⟨by decide, by decide⟩) hP hD hS hA [3, 4, 2] [0, 1, 5, 6] rfl rfl (by decide) (by decide) (fun v t w1 H locs ht hW9 hp hP hD hS => ?_) (fun x t w1 H locs ht hW9 hp hP hD hS => by obtain ⟨h9, -⟩ := hp; cases h9)
        obtain ⟨h9, rfl⟩ := hp
        cases h9
        refine W.eq (g2 := F0 m 25 ls []) rfl ?_
        refine W.widen (k := 0) (n := 0) (by decide) (by decide) ?_
        have hP : va_P D kl [(bf, .inr (6, [.ref fo, .int lg, .ref bm, .ref bs, .ref ip, .ref bc, .ref bh, .ref br, .int (nI rc)])), (bh, .inl (cI, 856, .inl h2)), (pl, .inr (1, [.ref pa, .int (nI ct), .int (nI mo)])), (pa, .inl (cI, pz, .inl pf)), (fo, .inr (1, [.ref fq, .int (nI on), .int (107 : Int32)])), (fq, .inl (cI, 428, .inl of)), (bc, .inl (cI, 4, .inl (va_cpy of g2 (p2 * 4) 0 4)))] H := hP
        have hD : va_D A [(bf, .inr (6, [.ref fo, .int lg, .ref bm, .ref bs, .ref ip, .ref bc, .ref bh, .ref br, .int (nI rc)])), (bh, .inl (cI, 856, .inl h2)), (pl, .inr (1, [.ref pa, .int (nI ct), .int (nI mo)])), (pa, .inl (cI, pz, .inl pf)), (fo, .inr (1, [.ref fq, .int (nI on), .int (107 : Int32)])), (fq, .inl (cI, 428, .inl of)), (bc, .inl (cI, 4, .inl (va_cpy of g2 (p2 * 4) 0 4)))] := hD
        refine lv_iconst (v := (0 : Int32)) hx hb d_BF_measure_25 (by decide) ?_
        refine lv_istore_n (lv' := [(3, .int (0 : Int32)), (2, .int (nI p2)), (0, .ref bf), (1, .ref pl)]) hx hb d_BF_measure_26 rfl hl (by decide) rfl (fun ls hl => ?_)
        have lp_27 : ∀ (n9 : Nat) (r : Nat) (h4 : Nat → Int32) (ls : Array Slot) (H : Heap) (locs : List Loc), rc - r = n9 → (msi pf (va_cpy of g2 (p2 * 4) 0 4) p2 r h2 = h4) → (r ≤ rc) → lv_has ls 4 [(3, .int (nI r)), (2, .int (nI p2)), (0, .ref bf), (1, .ref pl)] → va_P D kl [(bf, .inr (6, [.ref fo, .int lg, .ref bm, .ref bs, .ref ip, .ref bc, .ref bh, .ref br, .int (nI rc)])), (bh, .inl (cI, 856, .inl h4)), (pl, .inr (1, [.ref pa, .int (nI ct), .int (nI mo)])), (pa, .inl (cI, pz, .inl pf)), (fo, .inr (1, [.ref fq, .int (nI on), .int (107 : Int32)])), (fq, .inl (cI, 428, .inl of)), (bc, .inl (cI, 4, .inl (va_cpy of g2 (p2 * 4) 0 4)))] H → va_D A [(bf, .inr (6, [.ref fo, .int lg, .ref bm, .ref bs, .ref ip, .ref bc, .ref bh, .ref br, .int (nI rc)])), (bh, .inl (cI, 856, .inl h4)), (pl, .inr (1, [.ref pa, .int (nI ct), .int (nI mo)])), (pa, .inl (cI, pz, .inl pf)), (fo, .inr (1, [.ref fq, .int (nI on), .int (107 : Int32)])), (fq, .inl (cI, 428, .inl of)), (bc, .inl (cI, 4, .inl (va_cpy of g2 (p2 * 4) 0 4)))] → va_S A s.heap H locs → W p l e ({ frames := 2, cells := 0, slots := 0, locals := 62 } : Room) s m ([.ref bf, .ref pl] : List Value).toArray below meth c H locs 0 0 Q (F0 m 27 ls []) := by
          intro n9
          induction n9 using Nat.strongRecOn with
          | ind n9 ih_27 =>
            intro r h4 ls H locs hm_27 hm4 hr9 hl hP hD hS
            refine lv_iload_n hx hb d_BF_measure_27 rfl (lv_at hl 0 rfl) ?_
            refine lv_aload_n hx hb d_BF_measure_28 rfl (lv_at hl 2 rfl) ?_
            refine va_get (D := D) (ci := 6) (v := .int (nI rc)) (C := cn_BF) (T := ft_BF) (N := 9) hx hb hf_BF (fun _ h => h) hown hK hP 0 rfl rfl 8 (by decide) (gw.at G hx0 mw_174 rfl _) (fun _ h9 => h9) rfl d_BF_measure_29 ?_
            refine lv_icmp_ge (tgt := 62) hx hb d_BF_measure_32 (by decide) (fun h_2 => ?_) (fun h_2 => ?_)
            · have h_2 : rc ≤ r := (nI_leI (a := rc) (b := r) (by omega) (by omega)).mp h_2
              refine lv_iinc (lv' := [(2, .int (nI (p2 + 1))), (3, .int (nI r)), (0, .ref bf), (1, .ref pl)]) (k := 1) (v := nI (p2 + 1)) hx hb d_BF_measure_62 hl rfl (nI_add p2 1) (by decide) rfl (fun ls hl => ?_)
              refine lv_goto (tgt := 2) hx hb d_BF_measure_65 (by decide) ?_
              exact ih_2 _ (by omega) (p2 + 1) h4 (va_cpy of g2 (p2 * 4) 0 4) ls H locs rfl (mso_s hm2 ((show r = rc by omega) ▸ hm4)) (by omega) (lv_sub hl [0, 2, 3] rfl) (hP.sub [0, 1, 6, 4, 5, 2, 3] rfl) (hD.sub [0, 1, 6, 4, 5, 2, 3] (by decide) rfl) hS
            · have h_2 : ¬ (rc ≤ r) := fun z99 => h_2 ((nI_leI (a := rc) (b := r) (by omega) (by omega)).mpr z99)
              refine lv_aload_n hx hb d_BF_measure_35 rfl (lv_at hl 2 rfl) ?_
              refine va_get (D := D) (ci := 6) (v := .ref bh) (C := cn_BF) (T := ft_BF) (N := 9) hx hb hf_BF (fun _ h => h) hown hK hP 0 rfl rfl 6 (by decide) (gw.at G hx0 mw_172 rfl _) (fun _ h9 => h9) rfl d_BF_measure_36 ?_
              refine lv_iload_n hx hb d_BF_measure_39 rfl (lv_at hl 1 rfl) ?_
              refine lv_bipush (v := (8 : Int32)) hx hb d_BF_measure_40 (by decide) ?_
              refine lv_imul hx hb d_BF_measure_42 ?_
              refine tp_i (y := nI (p2 * 8)) (nI_mul p2 8) ?_
              refine lv_iload_n hx hb d_BF_measure_43 rfl (lv_at hl 0 rfl) ?_
              refine lv_iadd hx hb d_BF_measure_44 ?_
              refine tp_i (y := nI ((p2 * 8) + r)) (nI_add (p2 * 8) r) ?_
              refine lv_aload_n hx hb d_BF_measure_45 rfl (lv_at hl 3 rfl) ?_
              refine lv_iload_n hx hb d_BF_measure_46 rfl (lv_at hl 0 rfl) ?_
              refine lv_aload_n hx hb d_BF_measure_47 rfl (lv_at hl 2 rfl) ?_
              refine va_get (D := D) (ci := 6) (v := .ref bc) (C := cn_BF) (T := ft_BF) (N := 9) hx hb hf_BF (fun _ h => h) hown hK hP 0 rfl rfl 5 (by decide) (gw.at G hx0 mw_171 rfl _) (fun _ h9 => h9) rfl d_BF_measure_48 ?_
              refine cx_call (D := D) (cl := kl) (ws := _) (wc := [(pl, .inr (1, [.ref pa, .int (nI ct), .int (nI mo)])), (pa, .inl (cI, pz, .inl pf)), (bc, .inl (cI, 4, .inl (va_cpy of g2 (p2 * 4) 0 4)))]) (wr := [(bf, .inr (6, [.ref fo, .int lg, .ref bm, .ref bs, .ref ip, .ref bc, .ref bh, .ref br, .int (nI rc)])), (bh, .inl (cI, 856, .inl h4)), (fo, .inr (1, [.ref fq, .int (nI on), .int (107 : Int32)])), (fq, .inl (cI, 428, .inl of))]) (tx_runV (C := cn_PL) (b := pl) (As := [.int (nI r), .ref bc]) (rest := [.int (nI ((p2 * 8) + r)), .ref bh]) hx hb hml hown (c_PL_product E H.size pl pa ct mo pz pf r bc (va_cpy of g2 (p2 * 4) 0 4) hpz hmo hct (by omega)) (cx_C (b0 := b0) G hx0 mw_247 mw_3 ny_PL_product (by decide)) (gw.at G hx0 mw_596 rfl _) (gw.at G hx0 mw_245 rfl _) (gw.at G hx0 mw_246 rfl _) ⟨cx_blind, va_recv hK hP (q0 := 2) (ci := 1) (q := (cn_PL, ft_PL, 3)) rfl rfl, (cx_pre (s := s) hx0 hP hD hS hA0 [2, 3, 6] rfl rfl (by decide))⟩ rfl rfl hl.1 rfl (lv_room (Nat.le_of_ble_eq_true rfl)) d_BF_measure_51 ⟨by decide, by decide⟩) hP hD hS hA [2, 3, 6] [0, 1, 4, 5] rfl rfl (by decide) (by decide) (fun v t w1 H locs ht hW9 hp hP hD hS => ?_) (fun x t w1 H locs ht hW9 hp hP hD hS => by obtain ⟨h9, -⟩ := hp; cases h9)
              obtain ⟨h9, rfl⟩ := hp
              cases h9
              refine W.eq (g2 := F0 m 54 ls [.long (pr4 pf r (va_cpy of g2 (p2 * 4) 0 4)), .int (nI ((p2 * 8) + r)), .ref bh]) rfl ?_
              refine W.widen (k := 0) (n := 0) (by decide) (by decide) ?_
              have hP : va_P D kl [(bf, .inr (6, [.ref fo, .int lg, .ref bm, .ref bs, .ref ip, .ref bc, .ref bh, .ref br, .int (nI rc)])), (bh, .inl (cI, 856, .inl h4)), (fo, .inr (1, [.ref fq, .int (nI on), .int (107 : Int32)])), (fq, .inl (cI, 428, .inl of)), (pl, .inr (1, [.ref pa, .int (nI ct), .int (nI mo)])), (pa, .inl (cI, pz, .inl pf)), (bc, .inl (cI, 4, .inl (va_cpy of g2 (p2 * 4) 0 4)))] H := hP
              have hD : va_D A [(bf, .inr (6, [.ref fo, .int lg, .ref bm, .ref bs, .ref ip, .ref bc, .ref bh, .ref br, .int (nI rc)])), (bh, .inl (cI, 856, .inl h4)), (fo, .inr (1, [.ref fq, .int (nI on), .int (107 : Int32)])), (fq, .inl (cI, 428, .inl of)), (pl, .inr (1, [.ref pa, .int (nI ct), .int (nI mo)])), (pa, .inl (cI, pz, .inl pf)), (bc, .inl (cI, 4, .inl (va_cpy of g2 (p2 * 4) 0 4)))] := hD
              refine lv_l2i (v := (pr4 pf r (va_cpy of g2 (p2 * 4) 0 4)).toInt32) hx hb d_BF_measure_54 rfl ?_
              refine va_iast hx hb hK hP hD hS 1 0 rfl rfl (vp_in_nI (n := (p2 * 8) + r) (by omega) (by omega)) d_BF_measure_55 (fun H locs hP hD hS => ?_)
              rw [nI_clamp (n := (p2 * 8) + r) (by omega)] at hP hD
              have hP : va_P D kl [(bf, .inr (6, [.ref fo, .int lg, .ref bm, .ref bs, .ref ip, .ref bc, .ref bh, .ref br, .int (nI rc)])), (bh, .inl (cI, 856, .inl (upd h4 ((p2 * 8) + r) ((pr4 pf r (va_cpy of g2 (p2 * 4) 0 4)).toInt32)))), (fo, .inr (1, [.ref fq, .int (nI on), .int (107 : Int32)])), (fq, .inl (cI, 428, .inl of)), (pl, .inr (1, [.ref pa, .int (nI ct), .int (nI mo)])), (pa, .inl (cI, pz, .inl pf)), (bc, .inl (cI, 4, .inl (va_cpy of g2 (p2 * 4) 0 4)))] H := hP
              have hD : va_D A [(bf, .inr (6, [.ref fo, .int lg, .ref bm, .ref bs, .ref ip, .ref bc, .ref bh, .ref br, .int (nI rc)])), (bh, .inl (cI, 856, .inl (upd h4 ((p2 * 8) + r) ((pr4 pf r (va_cpy of g2 (p2 * 4) 0 4)).toInt32)))), (fo, .inr (1, [.ref fq, .int (nI on), .int (107 : Int32)])), (fq, .inl (cI, 428, .inl of)), (pl, .inr (1, [.ref pa, .int (nI ct), .int (nI mo)])), (pa, .inl (cI, pz, .inl pf)), (bc, .inl (cI, 4, .inl (va_cpy of g2 (p2 * 4) 0 4)))] := hD
              refine lv_iinc (lv' := [(3, .int (nI (r + 1))), (2, .int (nI p2)), (0, .ref bf), (1, .ref pl)]) (k := 0) (v := nI (r + 1)) hx hb d_BF_measure_56 hl rfl (nI_add r 1) (by decide) rfl (fun ls hl => ?_)
              refine lv_goto (tgt := 27) hx hb d_BF_measure_59 (by decide) ?_
              exact ih_27 _ (by omega) (r + 1) (upd h4 ((p2 * 8) + r) ((pr4 pf r (va_cpy of g2 (p2 * 4) 0 4)).toInt32)) ls H locs rfl (msi_s hm4) (by omega) (lv_sub hl [0, 1, 2, 3] rfl) (hP.sub [0, 1, 4, 5, 2, 3, 6] rfl) (hD.sub [0, 1, 4, 5, 2, 3, 6] (by decide) rfl) hS
        exact lp_27 _ 0 h2 ls H locs rfl rfl (Nat.zero_le _) (lv_sub hl [0, 1, 2, 3] rfl) (hP.sub [0, 1, 2, 3, 4, 5, 6] rfl) (hD.sub [0, 1, 2, 3, 4, 5, 6] (by decide) rfl) hS
  exact lp_2 _ 0 hh cg ls s.heap [] rfl rfl (Nat.zero_le _) (lv_sub hl [0, 1, 2] rfl) (hP.sub [0, 1, 2, 3, 4, 5, 6] rfl) (hD.sub [0, 1, 2, 3, 4, 5, 6] (by decide) rfl) hS

