/-! ===== own rows, laid by wip/tools/g35.py: the reference, gcd, lessen, rankOf ===== -/
theorem lrem_int (x y : Int64) (h : ¬ y = 0) : (x - x / y * y).toInt = x.toInt.tmod y.toInt ∧ (x.toInt.tmod y.toInt).natAbs < y.toInt.natAbs := by
  have hy : y.toInt ≠ 0 := fun z => h (Int64.toInt_inj.mp (by rw [z]; rfl))
  have h1 := y.toInt_lt
  have h2 := y.le_toInt
  have h3 : (x.toInt.tmod y.toInt).natAbs < y.toInt.natAbs := by rw [Int.natAbs_tmod]; exact Nat.mod_lt _ (by omega)
  refine ⟨?_, h3⟩
  rw [Int64.toInt_sub, Int64.toInt_mul, Int64.toInt_div]
  rw [Int.bmod_mul_bmod, Int.sub_bmod_bmod]
  have e : x.toInt - x.toInt.tdiv y.toInt * y.toInt = x.toInt.tmod y.toInt := by
    have := Int.tmod_add_tdiv_mul x.toInt y.toInt
    omega
  rw [e]
  apply Int.bmod_eq_of_le <;> omega
theorem lrem_less {x y : Int64} (h : ¬ y = 0) : (x - x / y * y).toInt.natAbs < y.toInt.natAbs := by
  obtain ⟨h1, h2⟩ := lrem_int x y h
  rw [h1]; exact h2
/-- Euclid's steps, as the reference goes them -/
noncomputable def gcw (x y : Int64) : Int64 := if h : y = 0 then x else gcw y (x - x / y * y)
  termination_by y.toInt.natAbs
  decreasing_by exact lrem_less h
theorem gcw_0 {x y : Int64} (h : y = 0) : gcw x y = x := by rw [gcw, dif_pos h]
theorem gcw_s {x y : Int64} (h : ¬ y = 0) : gcw x y = gcw y (x - x / y * y) := by rw [gcw, dif_neg h]
def nabs (a : Int64) : Int64 := if lg_cmp a (0 : Int64) ≥ 0 then a else -a
noncomputable def gcv (a b : Int64) : Int64 := gcw (nabs a) (nabs b)
/-- a row of the square less a multiple of another: its first i coordinates, and their common divisor -/
noncomputable def ls1 (k r : Nat) (a b : Int64) : Nat → (Nat → Int64) × Int64 → (Nat → Int64) × Int64
  | 0, p => p
  | i + 1, p => (vp_updL (ls1 k r a b i p).1 (4 * k + i) ((ls1 k r a b i p).1 (4 * k + i) * a - (ls1 k r a b i p).1 (4 * r + i) * b), gcv (ls1 k r a b i p).2 (vp_updL (ls1 k r a b i p).1 (4 * k + i) ((ls1 k r a b i p).1 (4 * k + i) * a - (ls1 k r a b i p).1 (4 * r + i) * b) (4 * k + i)))
theorem ls1_s {k r i : Nat} {a b : Int64} {p : (Nat → Int64) × Int64} {f : Nat → Int64} {g : Int64} (h : ls1 k r a b i p = (f, g)) : ls1 k r a b (i + 1) p = (vp_updL f (4 * k + i) (f (4 * k + i) * a - f (4 * r + i) * b), gcv g (vp_updL f (4 * k + i) (f (4 * k + i) * a - f (4 * r + i) * b) (4 * k + i))) := by
  show (vp_updL (ls1 k r a b i p).1 (4 * k + i) ((ls1 k r a b i p).1 (4 * k + i) * a - (ls1 k r a b i p).1 (4 * r + i) * b), gcv (ls1 k r a b i p).2 (vp_updL (ls1 k r a b i p).1 (4 * k + i) ((ls1 k r a b i p).1 (4 * k + i) * a - (ls1 k r a b i p).1 (4 * r + i) * b) (4 * k + i))) = _
  rw [h]
def ls2 (k : Nat) (g : Int64) : Nat → (Nat → Int64) → (Nat → Int64)
  | 0, f => f
  | i + 1, f => vp_updL (ls2 k g i f) (4 * k + i) (ls2 k g i f (4 * k + i) / g)
theorem ls2_s {k i : Nat} {g : Int64} {f f2 : Nat → Int64} (h : ls2 k g i f = f2) : ls2 k g (i + 1) f = vp_updL f2 (4 * k + i) (f2 (4 * k + i) / g) := by
  show vp_updL (ls2 k g i f) (4 * k + i) (ls2 k g i f (4 * k + i) / g) = _
  rw [h]
noncomputable def lss (k r c : Nat) (f : Nat → Int64) : Nat → Int64 := if 1 < (ls1 k r (f (4 * r + c)) (f (4 * k + c)) 4 (f, 0)).2 then ls2 k (ls1 k r (f (4 * r + c)) (f (4 * k + c)) 4 (f, 0)).2 4 (ls1 k r (f (4 * r + c)) (f (4 * k + c)) 4 (f, 0)).1 else (ls1 k r (f (4 * r + c)) (f (4 * k + c)) 4 (f, 0)).1
theorem lss_y {k r c : Nat} {f f2 f3 : Nat → Int64} {g : Int64} (h : ls1 k r (f (4 * r + c)) (f (4 * k + c)) 4 (f, 0) = (f2, g)) (hg : 1 < g) (h3 : ls2 k g 4 f2 = f3) : lss k r c f = f3 := by
  unfold lss; rw [h, if_pos hg]; exact h3
theorem lss_n {k r c : Nat} {f f2 : Nat → Int64} {g : Int64} (h : ls1 k r (f (4 * r + c)) (f (4 * k + c)) 4 (f, 0) = (f2, g)) (hg : ¬ 1 < g) : lss k r c f = f2 := by
  unfold lss; rw [h, if_neg hg]
/-- the first row from p on, of m rows, with a coordinate c that is not 0 -/
def pvt (f : Nat → Int64) (c : Nat) : Nat → Nat → Nat
  | 0, p => p
  | m + 1, p => if f (4 * p + c) = 0 then pvt f c m (p + 1) else p
theorem pvt_s {f : Nat → Int64} {c n p : Nat} (hp : p < n) (h : f (4 * p + c) = 0) : pvt f c (n - p) p = pvt f c (n - (p + 1)) (p + 1) := by
  rw [show n - p = (n - (p + 1)) + 1 by omega]
  show (if f (4 * p + c) = 0 then _ else p) = _
  rw [if_pos h]
theorem pvt_y {f : Nat → Int64} {c n p : Nat} (hp : p < n) (h : ¬ f (4 * p + c) = 0) : pvt f c (n - p) p = p := by
  rw [show n - p = (n - (p + 1)) + 1 by omega]
  show (if f (4 * p + c) = 0 then _ else p) = _
  rw [if_neg h]
theorem pvt_n {f : Nat → Int64} {c n p : Nat} (hp : n ≤ p) : pvt f c (n - p) p = p := by
  rw [show n - p = 0 by omega]; rfl
def swp (p r : Nat) : Nat → (Nat → Int64) → (Nat → Int64)
  | 0, f => f
  | i + 1, f => vp_updL (vp_updL (swp p r i f) (4 * p + i) (swp p r i f (4 * r + i))) (4 * r + i) (swp p r i f (4 * p + i))
theorem swp_s {p r i : Nat} {f f2 : Nat → Int64} (h : swp p r i f = f2) : swp p r (i + 1) f = vp_updL (vp_updL f2 (4 * p + i) (f2 (4 * r + i))) (4 * r + i) (f2 (4 * p + i)) := by
  show vp_updL (vp_updL (swp p r i f) (4 * p + i) (swp p r i f (4 * r + i))) (4 * r + i) (swp p r i f (4 * p + i)) = _
  rw [h]
/-- the m rows behind row r, lessened -/
noncomputable def lsm (r c : Nat) : Nat → (Nat → Int64) → (Nat → Int64)
  | 0, f => f
  | m + 1, f => lss (r + 1 + m) r c (lsm r c m f)
theorem lsm_s {r c m : Nat} {f f2 : Nat → Int64} (h : lsm r c m f = f2) : lsm r c (m + 1) f = lss (r + 1 + m) r c f2 := by
  show lss (r + 1 + m) r c (lsm r c m f) = _
  rw [h]
/-- the rank of the first n rows of the square, by its first c coordinates -/
noncomputable def rkf (n : Nat) (f : Nat → Int64) : Nat → Nat × (Nat → Int64)
  | 0 => (0, f)
  | c + 1 => if pvt (rkf n f c).2 c (n - (rkf n f c).1) (rkf n f c).1 < n then ((rkf n f c).1 + 1, lsm (rkf n f c).1 c (n - ((rkf n f c).1 + 1)) (swp (pvt (rkf n f c).2 c (n - (rkf n f c).1) (rkf n f c).1) (rkf n f c).1 4 (rkf n f c).2)) else rkf n f c
theorem rkf_y {n c r p : Nat} {f g g2 g3 : Nat → Int64} (h : rkf n f c = (r, g)) (hp : pvt g c (n - r) r = p) (hn : p < n) (h2 : swp p r 4 g = g2) (h3 : lsm r c (n - (r + 1)) g2 = g3) : rkf n f (c + 1) = (r + 1, g3) := by
  show (if _ then _ else _) = _
  rw [h]
  simp only
  rw [hp, if_pos hn, h2, h3]
theorem rkf_n {n c r p : Nat} {f g : Nat → Int64} (h : rkf n f c = (r, g)) (hp : pvt g c (n - r) r = p) (hn : ¬ p < n) : rkf n f (c + 1) = (r, g) := by
  show (if _ then _ else _) = _
  rw [h]
  simp only
  rw [hp, if_neg hn]
theorem lg_le1 {x y : Int64} : lg_cmp x y ≤ 0 ↔ ¬ y < x := by
  rw [← lg_cmp_gt x y, Int32.not_lt]
theorem lgz {x : Int64} : lg_cmp x 0 = 0 ↔ x = 0 := by
  constructor
  · intro h; exact Classical.byContradiction (fun z => lg_ne.mpr z h)
  · intro h; subst h; decide
set_option maxHeartbeats 4000000 in
set_option maxRecDepth 100000 in
theorem c_M_gcd {l : Launch} {s0 : State} {b0 : Addr} {D : va_G} {cI cJ cZ : ClassId} {tC tS : Nat} (E : gE l s0 b0 D cI cJ cZ tC tS) (sz : Nat) (a : Int64) (b : Int64) : cx_M l s0 D kl y_M_gcd b_M_gcd 10 (some .long) ({ frames := 0, cells := 0, slots := 0, locals := 0 } : Room) 0 0 [.long a, .long b] [] sz (fun o9 _ w9 => o9 = .returned (some (.long (gcv a b))) ∧ w9 = []) := by
  refine tx_ofW (cc := b_M_gcd) (maxL := 10) (ret := (some .long)) (by decide) rfl ?_
  intro p e s m args below meth c s₁ B hml hT hv
  obtain ⟨rfl, hsz, hP, hD0, hx0⟩ := hv
  have hx := B.exec
  have hb := B.bytes
  have hr := B.returns
  have G := E.2.1
  have hown : s.vm.findClass cn_M = some m.cls := findClass_of_methodNamed B.named
  have hlocks := B.notSynchronized
  have hK := va_K.moved hx0.1.alike E.2.2.1
  subst hsz
  have hA0 := cx_new hD0 hx0.2.1
  have hD := hD0.self (sz := s.heap.size)
  generalize hAe : va_A [] s.heap.size = A at hD hA0 ⊢
  have hA : ∀ q : Nat, s.heap.size ≤ q → A q := fun q h => by rw [← hAe]; exact Or.inr h
  have hS : va_S A s.heap s.heap [] := va_S.rf
  have hl := lv_entry ([.long a, .long b]) (n := 10) (Nat.le_of_ble_eq_true rfl)
  rw [lg_entry_eq]
  generalize (lg_sl ([.long a, .long b]) ++ List.replicate (10 - (lg_sl ([.long a, .long b])).length) Slot.unset).toArray = ls at hl ⊢
  have hl : lv_has ls 10 [(0, .long a), (2, .long b)] := hl
  have hP : va_P D kl [] s.heap := hP
  have hml : c.maxLocals = 10 := hml
  generalize hQe : tx_Z below (cx_Q D kl A (fun o9 _ w9 => o9 = .returned (some (.long (gcv a b))) ∧ w9 = [])) ([.long a, .long b] : List Value).toArray s 0 0 A = Q
  refine lv_lload_n hx hb d_M_gcd_0 rfl (lv_at hl 0 rfl) ?_
  refine lv_lconst (v := (0 : Int64)) hx hb d_M_gcd_1 (by decide) ?_
  refine W.lcmp hx hb d_M_gcd_2 ?_
  have K_1 : W p l e ({ frames := 0, cells := 0, slots := 0, locals := 0 } : Room) s m ([.long a, .long b] : List Value).toArray below meth c s.heap [] 0 0 Q (F0 m 12 ls [.long (nabs a)]) := by
    refine lv_lstore (lv' := [(4, .long (nabs a)), (0, .long a), (2, .long b)]) hx hb d_M_gcd_12 hl (by decide) rfl (fun ls hl => ?_)
    refine lv_lload_n hx hb d_M_gcd_14 rfl (lv_at hl 2 rfl) ?_
    refine lv_lconst (v := (0 : Int64)) hx hb d_M_gcd_15 (by decide) ?_
    refine W.lcmp hx hb d_M_gcd_16 ?_
    have K_2 : W p l e ({ frames := 0, cells := 0, slots := 0, locals := 0 } : Room) s m ([.long a, .long b] : List Value).toArray below meth c s.heap [] 0 0 Q (F0 m 26 ls [.long (nabs b)]) := by
      refine lv_lstore (lv' := [(6, .long (nabs b)), (4, .long (nabs a)), (0, .long a), (2, .long b)]) hx hb d_M_gcd_26 hl (by decide) rfl (fun ls hl => ?_)
      have lp_28 : ∀ (n9 : Nat) (x : Int64) (y : Int64) (ls : Array Slot) (H : Heap) (locs : List Loc), y.toInt.natAbs = n9 → (gcv a b = gcw x y) → lv_has ls 10 [(4, .long x), (6, .long y), (0, .long a), (2, .long b)] → va_P D kl [] H → va_D A [] → va_S A s.heap H locs → W p l e ({ frames := 0, cells := 0, slots := 0, locals := 0 } : Room) s m ([.long a, .long b] : List Value).toArray below meth c H locs 0 0 Q (F0 m 28 ls []) := by
        intro n9
        induction n9 using Nat.strongRecOn with
        | ind n9 ih_28 =>
          intro x y ls H locs hm_28 hg hl hP hD hS
          refine lv_lload hx hb d_M_gcd_28 (lv_at hl 1 rfl) ?_
          refine lv_lconst (v := (0 : Int64)) hx hb d_M_gcd_30 (by decide) ?_
          refine W.lcmp hx hb d_M_gcd_31 ?_
          refine lv_if_eq (tgt := 53) hx hb d_M_gcd_32 (by decide) (fun h_3 => ?_) (fun h_3 => ?_)
          · refine lv_lload hx hb d_M_gcd_53 (lv_at hl 0 rfl) ?_
            rw [← hQe]
            exact tx_mono (fun _ h => tx_Z.of h) (W.lret (v := x) hx hb hr (fun t ht hW => ⟨⟨[], ⟨(by rw [hg, gcw_0 (lgz.mp h_3)]), rfl⟩, by rw [ht]; exact hP.sub [] rfl, hD.sub [] (by decide) rfl⟩, hS.F ht⟩) hS.2.2 d_M_gcd_55)
          · refine lv_lload hx hb d_M_gcd_35 (lv_at hl 0 rfl) ?_
            refine lv_lload hx hb d_M_gcd_37 (lv_at hl 1 rfl) ?_
            refine lv_lrem hx hb d_M_gcd_39 (lg_ne.mp h_3) ?_
            refine lv_lstore (lv' := [(8, .long (x - x / y * y)), (4, .long x), (6, .long y), (0, .long a), (2, .long b)]) hx hb d_M_gcd_40 hl (by decide) rfl (fun ls hl => ?_)
            refine lv_lload hx hb d_M_gcd_42 (lv_at hl 2 rfl) ?_
            refine lv_lstore (lv' := [(4, .long y), (8, .long (x - x / y * y)), (6, .long y), (0, .long a), (2, .long b)]) hx hb d_M_gcd_44 hl (by decide) rfl (fun ls hl => ?_)
            refine lv_lload hx hb d_M_gcd_46 (lv_at hl 1 rfl) ?_
            refine lv_lstore (lv' := [(6, .long (x - x / y * y)), (4, .long y), (8, .long (x - x / y * y)), (0, .long a), (2, .long b)]) hx hb d_M_gcd_48 hl (by decide) rfl (fun ls hl => ?_)
            refine lv_goto (tgt := 28) hx hb d_M_gcd_50 (by decide) ?_
            exact ih_28 _ (by subst hm_28; exact lrem_less (lg_ne.mp h_3)) y (x - x / y * y) ls H locs rfl (hg.trans (gcw_s (lg_ne.mp h_3))) (lv_sub hl [1, 0, 3, 4] rfl) (hP.sub [] rfl) (hD.sub [] (by decide) rfl) hS
      exact lp_28 _ (nabs a) (nabs b) ls s.heap [] rfl rfl (lv_sub hl [1, 0, 2, 3] rfl) (hP.sub [] rfl) (hD.sub [] (by decide) rfl) hS
    refine lv_if_ge (tgt := 25) hx hb d_M_gcd_17 (by decide) (fun h_4 => ?_) (fun h_4 => ?_)
    · refine lv_lload_n hx hb d_M_gcd_25 rfl (lv_at hl 2 rfl) ?_
      refine tp_l (y := nabs b) ((show nabs _ = _ from if_pos h_4).symm) ?_
      exact K_2
    · refine lv_lload_n hx hb d_M_gcd_20 rfl (lv_at hl 2 rfl) ?_
      refine lv_lneg hx hb d_M_gcd_21 ?_
      refine lv_goto (tgt := 26) hx hb d_M_gcd_22 (by decide) ?_
      refine tp_l (y := nabs b) ((show nabs _ = _ from if_neg h_4).symm) ?_
      exact K_2
  refine lv_if_ge (tgt := 11) hx hb d_M_gcd_3 (by decide) (fun h_5 => ?_) (fun h_5 => ?_)
  · refine lv_lload_n hx hb d_M_gcd_11 rfl (lv_at hl 0 rfl) ?_
    refine tp_l (y := nabs a) ((show nabs _ = _ from if_pos h_5).symm) ?_
    exact K_1
  · refine lv_lload_n hx hb d_M_gcd_6 rfl (lv_at hl 0 rfl) ?_
    refine lv_lneg hx hb d_M_gcd_7 ?_
    refine lv_goto (tgt := 12) hx hb d_M_gcd_8 (by decide) ?_
    refine tp_l (y := nabs a) ((show nabs _ = _ from if_neg h_5).symm) ?_
    exact K_1

set_option maxHeartbeats 4000000 in
set_option maxRecDepth 100000 in
theorem c_M_lessen {l : Launch} {s0 : State} {b0 : Addr} {D : va_G} {cI cJ cZ : ClassId} {tC tS : Nat} (E : gE l s0 b0 D cI cJ cZ tC tS) (sz : Nat) (m0 : Nat) (rw : Nat) (ry : Nat) (ti : Nat) (po : Nat) (su : Nat) (sq : Nat) (ch : Nat) (vt : Nat) (sh : Nat) (th : Int32) (zz : Int32) (rn : Int32) (kn : Int32) (rk : Int32) (y1 : Int32) (sp : Int32) (lg : Int32) (fo : Int32) (pt : Int32) (qf : Nat → Int64) (k : Nat) (r : Nat) (cc : Nat) (hk : k < 64) (hr : r < 64) (hc : cc < 4) : cx_M l s0 D kl y_M_lessen b_M_lessen 11 none ({ frames := 1, cells := 0, slots := 0, locals := 29 } : Room) 0 0 [.ref m0, .int (nI k), .int (nI r), .int (nI cc)] [(m0, .inr (7, [.int th, .int zz, .int rn, .ref rw, .int kn, .int rk, .int y1, .ref ry, .int sp, .int lg, .ref ti, .int fo, .int pt, .ref po, .ref su, .ref sq, .ref ch, .ref vt, .ref sh])), (sq, .inl (cJ, 256, .inr (.inl qf)))] sz (fun o9 _ w9 => o9 = .returned none ∧ w9 = [(m0, .inr (7, [.int th, .int zz, .int rn, .ref rw, .int kn, .int rk, .int y1, .ref ry, .int sp, .int lg, .ref ti, .int fo, .int pt, .ref po, .ref su, .ref sq, .ref ch, .ref vt, .ref sh])), (sq, .inl (cJ, 256, .inr (.inl (lss k r cc qf))))]) := by
  refine tx_ofW (cc := b_M_lessen) (maxL := 11) (ret := none) (by decide) rfl ?_
  intro p e s m args below meth c s₁ B hml hT hv
  obtain ⟨rfl, hsz, hP, hD0, hx0⟩ := hv
  have hx := B.exec
  have hb := B.bytes
  have hr := B.returns
  have G := E.2.1
  have hown : s.vm.findClass cn_M = some m.cls := findClass_of_methodNamed B.named
  have hlocks := B.notSynchronized
  have hK := va_K.moved hx0.1.alike E.2.2.1
  have hf_M : ∀ w99 ∈ u_ws cn_M ft_M 19, w99.before ([.ref m0, .int (nI k), .int (nI r), .int (nI cc)] : List Value).toArray s = true := fun w99 h99 => gw.at G hx0 (fw_M w99 h99) (fo_M w99 h99) _
  subst hsz
  have hA0 := cx_new hD0 hx0.2.1
  have hD := hD0.self (sz := s.heap.size)
  generalize hAe : va_A [(m0, .inr (7, [.int th, .int zz, .int rn, .ref rw, .int kn, .int rk, .int y1, .ref ry, .int sp, .int lg, .ref ti, .int fo, .int pt, .ref po, .ref su, .ref sq, .ref ch, .ref vt, .ref sh])), (sq, .inl (cJ, 256, .inr (.inl qf)))] s.heap.size = A at hD hA0 ⊢
  have hA : ∀ q : Nat, s.heap.size ≤ q → A q := fun q h => by rw [← hAe]; exact Or.inr h
  have hS : va_S A s.heap s.heap [] := va_S.rf
  have hl := lv_entry ([.ref m0, .int (nI k), .int (nI r), .int (nI cc)]) (n := 11) (Nat.le_of_ble_eq_true rfl)
  rw [lg_entry_eq]
  generalize (lg_sl ([.ref m0, .int (nI k), .int (nI r), .int (nI cc)]) ++ List.replicate (11 - (lg_sl ([.ref m0, .int (nI k), .int (nI r), .int (nI cc)])).length) Slot.unset).toArray = ls at hl ⊢
  have hl : lv_has ls 11 [(0, .ref m0), (1, .int (nI k)), (2, .int (nI r)), (3, .int (nI cc))] := hl
  have hP : va_P D kl [(m0, .inr (7, [.int th, .int zz, .int rn, .ref rw, .int kn, .int rk, .int y1, .ref ry, .int sp, .int lg, .ref ti, .int fo, .int pt, .ref po, .ref su, .ref sq, .ref ch, .ref vt, .ref sh])), (sq, .inl (cJ, 256, .inr (.inl qf)))] s.heap := hP
  have hml : c.maxLocals = 11 := hml
  generalize hQe : tx_Z below (cx_Q D kl A (fun o9 _ w9 => o9 = .returned none ∧ w9 = [(m0, .inr (7, [.int th, .int zz, .int rn, .ref rw, .int kn, .int rk, .int y1, .ref ry, .int sp, .int lg, .ref ti, .int fo, .int pt, .ref po, .ref su, .ref sq, .ref ch, .ref vt, .ref sh])), (sq, .inl (cJ, 256, .inr (.inl (lss k r cc qf))))])) ([.ref m0, .int (nI k), .int (nI r), .int (nI cc)] : List Value).toArray s 0 0 A = Q
  refine lv_aload_n hx hb d_M_lessen_0 rfl (lv_at hl 0 rfl) ?_
  refine va_get (D := D) (ci := 7) (v := .ref sq) (C := cn_M) (T := ft_M) (N := 19) hx hb hf_M (fun _ h => h) hown hK hP 0 rfl rfl 15 (by decide) (gw.at G hx0 mw_728 rfl _) (fun _ h9 => h9) rfl d_M_lessen_1 ?_
  refine lv_iconst (v := (4 : Int32)) hx hb d_M_lessen_4 (by decide) ?_
  refine lv_iload_n hx hb d_M_lessen_5 rfl (lv_at hl 2 rfl) ?_
  refine lv_imul hx hb d_M_lessen_6 ?_
  refine tp_i (y := nI (4 * r)) (nI_mul 4 r) ?_
  refine lv_iload_n hx hb d_M_lessen_7 rfl (lv_at hl 3 rfl) ?_
  refine lv_iadd hx hb d_M_lessen_8 ?_
  refine tp_i (y := nI ((4 * r) + cc)) (nI_add (4 * r) cc) ?_
  refine va_lald hx hb hK hP 1 1 rfl rfl (vp_in_nI (n := (4 * r) + cc) (by omega) (by omega)) d_M_lessen_9 ?_
  refine tp_l (y := qf ((4 * r) + cc)) (congrArg qf (nI_clamp (n := (4 * r) + cc) (by omega))) ?_
  refine lv_lstore (lv' := [(4, .long (qf ((4 * r) + cc))), (0, .ref m0), (1, .int (nI k)), (2, .int (nI r)), (3, .int (nI cc))]) hx hb d_M_lessen_10 hl (by decide) rfl (fun ls hl => ?_)
  refine lv_aload_n hx hb d_M_lessen_12 rfl (lv_at hl 1 rfl) ?_
  refine va_get (D := D) (ci := 7) (v := .ref sq) (C := cn_M) (T := ft_M) (N := 19) hx hb hf_M (fun _ h => h) hown hK hP 0 rfl rfl 15 (by decide) (gw.at G hx0 mw_728 rfl _) (fun _ h9 => h9) rfl d_M_lessen_13 ?_
  refine lv_iconst (v := (4 : Int32)) hx hb d_M_lessen_16 (by decide) ?_
  refine lv_iload_n hx hb d_M_lessen_17 rfl (lv_at hl 2 rfl) ?_
  refine lv_imul hx hb d_M_lessen_18 ?_
  refine tp_i (y := nI (4 * k)) (nI_mul 4 k) ?_
  refine lv_iload_n hx hb d_M_lessen_19 rfl (lv_at hl 4 rfl) ?_
  refine lv_iadd hx hb d_M_lessen_20 ?_
  refine tp_i (y := nI ((4 * k) + cc)) (nI_add (4 * k) cc) ?_
  refine va_lald hx hb hK hP 1 1 rfl rfl (vp_in_nI (n := (4 * k) + cc) (by omega) (by omega)) d_M_lessen_21 ?_
  refine tp_l (y := qf ((4 * k) + cc)) (congrArg qf (nI_clamp (n := (4 * k) + cc) (by omega))) ?_
  refine lv_lstore (lv' := [(6, .long (qf ((4 * k) + cc))), (4, .long (qf ((4 * r) + cc))), (0, .ref m0), (1, .int (nI k)), (2, .int (nI r)), (3, .int (nI cc))]) hx hb d_M_lessen_22 hl (by decide) rfl (fun ls hl => ?_)
  refine lv_lconst (v := (0 : Int64)) hx hb d_M_lessen_24 (by decide) ?_
  refine lv_lstore (lv' := [(8, .long (0 : Int64)), (6, .long (qf ((4 * k) + cc))), (4, .long (qf ((4 * r) + cc))), (0, .ref m0), (1, .int (nI k)), (2, .int (nI r)), (3, .int (nI cc))]) hx hb d_M_lessen_25 hl (by decide) rfl (fun ls hl => ?_)
  refine lv_iconst (v := (0 : Int32)) hx hb d_M_lessen_27 (by decide) ?_
  refine lv_istore (lv' := [(10, .int (0 : Int32)), (8, .long (0 : Int64)), (6, .long (qf ((4 * k) + cc))), (4, .long (qf ((4 * r) + cc))), (0, .ref m0), (1, .int (nI k)), (2, .int (nI r)), (3, .int (nI cc))]) hx hb d_M_lessen_28 hl (by decide) rfl (fun ls hl => ?_)
  have lp_30 : ∀ (n9 : Nat) (i : Nat) (f2 : Nat → Int64) (g2 : Int64) (ls : Array Slot) (H : Heap) (locs : List Loc), 4 - i = n9 → (ls1 k r (qf (4 * r + cc)) (qf (4 * k + cc)) i (qf, 0) = (f2, g2)) → (i ≤ 4) → lv_has ls 11 [(10, .int (nI i)), (8, .long g2), (4, .long (qf ((4 * r) + cc))), (6, .long (qf ((4 * k) + cc))), (0, .ref m0), (1, .int (nI k)), (2, .int (nI r)), (3, .int (nI cc))] → va_P D kl [(m0, .inr (7, [.int th, .int zz, .int rn, .ref rw, .int kn, .int rk, .int y1, .ref ry, .int sp, .int lg, .ref ti, .int fo, .int pt, .ref po, .ref su, .ref sq, .ref ch, .ref vt, .ref sh])), (sq, .inl (cJ, 256, .inr (.inl f2)))] H → va_D A [(m0, .inr (7, [.int th, .int zz, .int rn, .ref rw, .int kn, .int rk, .int y1, .ref ry, .int sp, .int lg, .ref ti, .int fo, .int pt, .ref po, .ref su, .ref sq, .ref ch, .ref vt, .ref sh])), (sq, .inl (cJ, 256, .inr (.inl f2)))] → va_S A s.heap H locs → W p l e ({ frames := 1, cells := 0, slots := 0, locals := 29 } : Room) s m ([.ref m0, .int (nI k), .int (nI r), .int (nI cc)] : List Value).toArray below meth c H locs 0 0 Q (F0 m 30 ls []) := by
    intro n9
    induction n9 using Nat.strongRecOn with
    | ind n9 ih_30 =>
      intro i f2 g2 ls H locs hm_30 h1 hi hl hP hD hS
      refine lv_iload hx hb d_M_lessen_30 (lv_at hl 0 rfl) ?_
      refine lv_iconst (v := (4 : Int32)) hx hb d_M_lessen_32 (by decide) ?_
      refine lv_icmp_ge (tgt := 100) hx hb d_M_lessen_33 (by decide) (fun h_1 => ?_) (fun h_1 => ?_)
      · have h_1 : 4 ≤ i := (nI_leI (a := 4) (b := i) (by omega) (by omega)).mp h_1
        have h0 : i = 4 := by omega
        rw [h0] at h1
        refine lv_iconst (v := (0 : Int32)) hx hb d_M_lessen_100 (by decide) ?_
        refine lv_istore (lv' := [(10, .int (0 : Int32)), (8, .long g2), (4, .long (qf ((4 * r) + cc))), (6, .long (qf ((4 * k) + cc))), (0, .ref m0), (1, .int (nI k)), (2, .int (nI r)), (3, .int (nI cc))]) hx hb d_M_lessen_101 hl (by decide) rfl (fun ls hl => ?_)
        have lp_103 : ∀ (n9 : Nat) (j : Nat) (f3 : Nat → Int64) (ls : Array Slot) (H : Heap) (locs : List Loc), 4 - j = n9 → (ls2 k g2 j f2 = f3) → (j ≤ 4) → (0 < j → 1 < g2) → lv_has ls 11 [(10, .int (nI j)), (8, .long g2), (0, .ref m0), (1, .int (nI k)), (2, .int (nI r)), (3, .int (nI cc))] → va_P D kl [(m0, .inr (7, [.int th, .int zz, .int rn, .ref rw, .int kn, .int rk, .int y1, .ref ry, .int sp, .int lg, .ref ti, .int fo, .int pt, .ref po, .ref su, .ref sq, .ref ch, .ref vt, .ref sh])), (sq, .inl (cJ, 256, .inr (.inl f3)))] H → va_D A [(m0, .inr (7, [.int th, .int zz, .int rn, .ref rw, .int kn, .int rk, .int y1, .ref ry, .int sp, .int lg, .ref ti, .int fo, .int pt, .ref po, .ref su, .ref sq, .ref ch, .ref vt, .ref sh])), (sq, .inl (cJ, 256, .inr (.inl f3)))] → va_S A s.heap H locs → W p l e ({ frames := 1, cells := 0, slots := 0, locals := 29 } : Room) s m ([.ref m0, .int (nI k), .int (nI r), .int (nI cc)] : List Value).toArray below meth c H locs 0 0 Q (F0 m 103 ls []) := by
          intro n9
          induction n9 using Nat.strongRecOn with
          | ind n9 ih_103 =>
            intro j f3 ls H locs hm_103 h2 hj hg hl hP hD hS
            refine lv_iload hx hb d_M_lessen_103 (lv_at hl 0 rfl) ?_
            refine lv_iconst (v := (4 : Int32)) hx hb d_M_lessen_105 (by decide) ?_
            refine lv_icmp_ge (tgt := 138) hx hb d_M_lessen_106 (by decide) (fun h_2 => ?_) (fun h_2 => ?_)
            · have h_2 : 4 ≤ j := (nI_leI (a := 4) (b := j) (by omega) (by omega)).mp h_2
              have hj4 : j = 4 := by omega
              have e9 : lss k r cc qf = f3 := lss_y h1 (hg (by omega)) (hj4 ▸ h2)
              rw [← e9] at hP hD
              have hP : va_P D kl [(m0, .inr (7, [.int th, .int zz, .int rn, .ref rw, .int kn, .int rk, .int y1, .ref ry, .int sp, .int lg, .ref ti, .int fo, .int pt, .ref po, .ref su, .ref sq, .ref ch, .ref vt, .ref sh])), (sq, .inl (cJ, 256, .inr (.inl (lss k r cc qf))))] H := hP
              have hD : va_D A [(m0, .inr (7, [.int th, .int zz, .int rn, .ref rw, .int kn, .int rk, .int y1, .ref ry, .int sp, .int lg, .ref ti, .int fo, .int pt, .ref po, .ref su, .ref sq, .ref ch, .ref vt, .ref sh])), (sq, .inl (cJ, 256, .inr (.inl (lss k r cc qf))))] := hD
              rw [← hQe]
              exact tx_mono (fun _ h => tx_Z.of h) (W.vret hx hb hr (fun t ht hW => ⟨⟨[(m0, .inr (7, [.int th, .int zz, .int rn, .ref rw, .int kn, .int rk, .int y1, .ref ry, .int sp, .int lg, .ref ti, .int fo, .int pt, .ref po, .ref su, .ref sq, .ref ch, .ref vt, .ref sh])), (sq, .inl (cJ, 256, .inr (.inl (lss k r cc qf))))], ⟨rfl, rfl⟩, by rw [ht]; exact hP.sub [0, 1] rfl, hD.sub [0, 1] (by decide) rfl⟩, hS.F ht⟩) hS.2.2 d_M_lessen_138)
            · have h_2 : ¬ (4 ≤ j) := fun z99 => h_2 ((nI_leI (a := 4) (b := j) (by omega) (by omega)).mpr z99)
              refine lv_lload hx hb d_M_lessen_109 (lv_at hl 1 rfl) ?_
              refine lv_lconst (v := (1 : Int64)) hx hb d_M_lessen_111 (by decide) ?_
              refine W.lcmp hx hb d_M_lessen_112 ?_
              refine lv_if_le (tgt := 138) hx hb d_M_lessen_113 (by decide) (fun h_3 => ?_) (fun h_3 => ?_)
              · have hng := lg_le1.mp h_3
                have hj0 : j = 0 := by rcases Nat.eq_zero_or_pos j with z9 | z9; exact z9; exact absurd (hg z9) hng
                rw [hj0] at h2
                have e9 : lss k r cc qf = f3 := (lss_n h1 hng).trans h2
                rw [← e9] at hP hD
                have hP : va_P D kl [(m0, .inr (7, [.int th, .int zz, .int rn, .ref rw, .int kn, .int rk, .int y1, .ref ry, .int sp, .int lg, .ref ti, .int fo, .int pt, .ref po, .ref su, .ref sq, .ref ch, .ref vt, .ref sh])), (sq, .inl (cJ, 256, .inr (.inl (lss k r cc qf))))] H := hP
                have hD : va_D A [(m0, .inr (7, [.int th, .int zz, .int rn, .ref rw, .int kn, .int rk, .int y1, .ref ry, .int sp, .int lg, .ref ti, .int fo, .int pt, .ref po, .ref su, .ref sq, .ref ch, .ref vt, .ref sh])), (sq, .inl (cJ, 256, .inr (.inl (lss k r cc qf))))] := hD
                rw [← hQe]
                exact tx_mono (fun _ h => tx_Z.of h) (W.vret hx hb hr (fun t ht hW => ⟨⟨[(m0, .inr (7, [.int th, .int zz, .int rn, .ref rw, .int kn, .int rk, .int y1, .ref ry, .int sp, .int lg, .ref ti, .int fo, .int pt, .ref po, .ref su, .ref sq, .ref ch, .ref vt, .ref sh])), (sq, .inl (cJ, 256, .inr (.inl (lss k r cc qf))))], ⟨rfl, rfl⟩, by rw [ht]; exact hP.sub [0, 1] rfl, hD.sub [0, 1] (by decide) rfl⟩, hS.F ht⟩) hS.2.2 d_M_lessen_138)
              · refine lv_aload_n hx hb d_M_lessen_116 rfl (lv_at hl 2 rfl) ?_
                refine va_get (D := D) (ci := 7) (v := .ref sq) (C := cn_M) (T := ft_M) (N := 19) hx hb hf_M (fun _ h => h) hown hK hP 0 rfl rfl 15 (by decide) (gw.at G hx0 mw_728 rfl _) (fun _ h9 => h9) rfl d_M_lessen_117 ?_
                refine lv_iconst (v := (4 : Int32)) hx hb d_M_lessen_120 (by decide) ?_
                refine lv_iload_n hx hb d_M_lessen_121 rfl (lv_at hl 3 rfl) ?_
                refine lv_imul hx hb d_M_lessen_122 ?_
                refine tp_i (y := nI (4 * k)) (nI_mul 4 k) ?_
                refine lv_iload hx hb d_M_lessen_123 (lv_at hl 0 rfl) ?_
                refine lv_iadd hx hb d_M_lessen_125 ?_
                refine tp_i (y := nI ((4 * k) + j)) (nI_add (4 * k) j) ?_
                refine lv_dup2_11 hx hb d_M_lessen_126 rfl rfl ?_
                refine va_lald hx hb hK hP 1 1 rfl rfl (vp_in_nI (n := (4 * k) + j) (by omega) (by omega)) d_M_lessen_127 ?_
                refine tp_l (y := f3 ((4 * k) + j)) (congrArg f3 (nI_clamp (n := (4 * k) + j) (by omega))) ?_
                refine lv_lload hx hb d_M_lessen_128 (lv_at hl 1 rfl) ?_
                refine lv_ldiv hx hb d_M_lessen_130 (fun z9 => by have z8 := Classical.not_not.mp (fun z7 => h_3 (lg_le1.mpr z7)); rw [z9] at z8; exact absurd z8 (by decide)) ?_
                refine va_last hx hb hK hP hD hS 1 1 rfl rfl (vp_in_nI (n := (4 * k) + j) (by omega) (by omega)) d_M_lessen_131 (fun H locs hP hD hS => ?_)
                rw [nI_clamp (n := (4 * k) + j) (by omega)] at hP hD
                have hP : va_P D kl [(m0, .inr (7, [.int th, .int zz, .int rn, .ref rw, .int kn, .int rk, .int y1, .ref ry, .int sp, .int lg, .ref ti, .int fo, .int pt, .ref po, .ref su, .ref sq, .ref ch, .ref vt, .ref sh])), (sq, .inl (cJ, 256, .inr (.inl (vp_updL f3 ((4 * k) + j) ((f3 ((4 * k) + j)) / g2)))))] H := hP
                have hD : va_D A [(m0, .inr (7, [.int th, .int zz, .int rn, .ref rw, .int kn, .int rk, .int y1, .ref ry, .int sp, .int lg, .ref ti, .int fo, .int pt, .ref po, .ref su, .ref sq, .ref ch, .ref vt, .ref sh])), (sq, .inl (cJ, 256, .inr (.inl (vp_updL f3 ((4 * k) + j) ((f3 ((4 * k) + j)) / g2)))))] := hD
                refine lv_iinc (lv' := [(10, .int (nI (j + 1))), (8, .long g2), (0, .ref m0), (1, .int (nI k)), (2, .int (nI r)), (3, .int (nI cc))]) (k := 0) (v := nI (j + 1)) hx hb d_M_lessen_132 hl rfl (nI_add j 1) (by decide) rfl (fun ls hl => ?_)
                refine lv_goto (tgt := 103) hx hb d_M_lessen_135 (by decide) ?_
                exact ih_103 _ (by omega) (j + 1) (vp_updL f3 ((4 * k) + j) ((f3 ((4 * k) + j)) / g2)) ls H locs rfl (ls2_s h2) (by omega) (fun _ => Classical.not_not.mp (fun z9 => h_3 (lg_le1.mpr z9))) (lv_sub hl [0, 1, 2, 3, 4, 5] rfl) (hP.sub [0, 1] rfl) (hD.sub [0, 1] (by decide) rfl) hS
        exact lp_103 _ 0 f2 ls H locs rfl rfl (Nat.zero_le _) (fun z9 => absurd z9 (Nat.lt_irrefl 0)) (lv_sub hl [0, 1, 4, 5, 6, 7] rfl) (hP.sub [0, 1] rfl) (hD.sub [0, 1] (by decide) rfl) hS
      · have h_1 : ¬ (4 ≤ i) := fun z99 => h_1 ((nI_leI (a := 4) (b := i) (by omega) (by omega)).mpr z99)
        refine lv_aload_n hx hb d_M_lessen_36 rfl (lv_at hl 4 rfl) ?_
        refine va_get (D := D) (ci := 7) (v := .ref sq) (C := cn_M) (T := ft_M) (N := 19) hx hb hf_M (fun _ h => h) hown hK hP 0 rfl rfl 15 (by decide) (gw.at G hx0 mw_728 rfl _) (fun _ h9 => h9) rfl d_M_lessen_37 ?_
        refine lv_iconst (v := (4 : Int32)) hx hb d_M_lessen_40 (by decide) ?_
        refine lv_iload_n hx hb d_M_lessen_41 rfl (lv_at hl 5 rfl) ?_
        refine lv_imul hx hb d_M_lessen_42 ?_
        refine tp_i (y := nI (4 * k)) (nI_mul 4 k) ?_
        refine lv_iload hx hb d_M_lessen_43 (lv_at hl 0 rfl) ?_
        refine lv_iadd hx hb d_M_lessen_45 ?_
        refine tp_i (y := nI ((4 * k) + i)) (nI_add (4 * k) i) ?_
        refine lv_aload_n hx hb d_M_lessen_46 rfl (lv_at hl 4 rfl) ?_
        refine va_get (D := D) (ci := 7) (v := .ref sq) (C := cn_M) (T := ft_M) (N := 19) hx hb hf_M (fun _ h => h) hown hK hP 0 rfl rfl 15 (by decide) (gw.at G hx0 mw_728 rfl _) (fun _ h9 => h9) rfl d_M_lessen_47 ?_
        refine lv_iconst (v := (4 : Int32)) hx hb d_M_lessen_50 (by decide) ?_
        refine lv_iload_n hx hb d_M_lessen_51 rfl (lv_at hl 5 rfl) ?_
        refine lv_imul hx hb d_M_lessen_52 ?_
        refine tp_i (y := nI (4 * k)) (nI_mul 4 k) ?_
        refine lv_iload hx hb d_M_lessen_53 (lv_at hl 0 rfl) ?_
        refine lv_iadd hx hb d_M_lessen_55 ?_
        refine tp_i (y := nI ((4 * k) + i)) (nI_add (4 * k) i) ?_
        refine va_lald hx hb hK hP 1 1 rfl rfl (vp_in_nI (n := (4 * k) + i) (by omega) (by omega)) d_M_lessen_56 ?_
        refine tp_l (y := f2 ((4 * k) + i)) (congrArg f2 (nI_clamp (n := (4 * k) + i) (by omega))) ?_
        refine lv_lload hx hb d_M_lessen_57 (lv_at hl 2 rfl) ?_
        refine lv_lmul hx hb d_M_lessen_59 ?_
        refine lv_aload_n hx hb d_M_lessen_60 rfl (lv_at hl 4 rfl) ?_
        refine va_get (D := D) (ci := 7) (v := .ref sq) (C := cn_M) (T := ft_M) (N := 19) hx hb hf_M (fun _ h => h) hown hK hP 0 rfl rfl 15 (by decide) (gw.at G hx0 mw_728 rfl _) (fun _ h9 => h9) rfl d_M_lessen_61 ?_
        refine lv_iconst (v := (4 : Int32)) hx hb d_M_lessen_64 (by decide) ?_
        refine lv_iload_n hx hb d_M_lessen_65 rfl (lv_at hl 6 rfl) ?_
        refine lv_imul hx hb d_M_lessen_66 ?_
        refine tp_i (y := nI (4 * r)) (nI_mul 4 r) ?_
        refine lv_iload hx hb d_M_lessen_67 (lv_at hl 0 rfl) ?_
        refine lv_iadd hx hb d_M_lessen_69 ?_
        refine tp_i (y := nI ((4 * r) + i)) (nI_add (4 * r) i) ?_
        refine va_lald hx hb hK hP 1 1 rfl rfl (vp_in_nI (n := (4 * r) + i) (by omega) (by omega)) d_M_lessen_70 ?_
        refine tp_l (y := f2 ((4 * r) + i)) (congrArg f2 (nI_clamp (n := (4 * r) + i) (by omega))) ?_
        refine lv_lload hx hb d_M_lessen_71 (lv_at hl 3 rfl) ?_
        refine lv_lmul hx hb d_M_lessen_73 ?_
        refine lv_lsub hx hb d_M_lessen_74 ?_
        refine va_last hx hb hK hP hD hS 1 1 rfl rfl (vp_in_nI (n := (4 * k) + i) (by omega) (by omega)) d_M_lessen_75 (fun H locs hP hD hS => ?_)
        rw [nI_clamp (n := (4 * k) + i) (by omega)] at hP hD
        have hP : va_P D kl [(m0, .inr (7, [.int th, .int zz, .int rn, .ref rw, .int kn, .int rk, .int y1, .ref ry, .int sp, .int lg, .ref ti, .int fo, .int pt, .ref po, .ref su, .ref sq, .ref ch, .ref vt, .ref sh])), (sq, .inl (cJ, 256, .inr (.inl (vp_updL f2 ((4 * k) + i) (((f2 ((4 * k) + i)) * (qf ((4 * r) + cc))) - ((f2 ((4 * r) + i)) * (qf ((4 * k) + cc))))))))] H := hP
        have hD : va_D A [(m0, .inr (7, [.int th, .int zz, .int rn, .ref rw, .int kn, .int rk, .int y1, .ref ry, .int sp, .int lg, .ref ti, .int fo, .int pt, .ref po, .ref su, .ref sq, .ref ch, .ref vt, .ref sh])), (sq, .inl (cJ, 256, .inr (.inl (vp_updL f2 ((4 * k) + i) (((f2 ((4 * k) + i)) * (qf ((4 * r) + cc))) - ((f2 ((4 * r) + i)) * (qf ((4 * k) + cc))))))))] := hD
        refine lv_lload hx hb d_M_lessen_76 (lv_at hl 1 rfl) ?_
        refine lv_aload_n hx hb d_M_lessen_78 rfl (lv_at hl 4 rfl) ?_
        refine va_get (D := D) (ci := 7) (v := .ref sq) (C := cn_M) (T := ft_M) (N := 19) hx hb hf_M (fun _ h => h) hown hK hP 0 rfl rfl 15 (by decide) (gw.at G hx0 mw_728 rfl _) (fun _ h9 => h9) rfl d_M_lessen_79 ?_
        refine lv_iconst (v := (4 : Int32)) hx hb d_M_lessen_82 (by decide) ?_
        refine lv_iload_n hx hb d_M_lessen_83 rfl (lv_at hl 5 rfl) ?_
        refine lv_imul hx hb d_M_lessen_84 ?_
        refine tp_i (y := nI (4 * k)) (nI_mul 4 k) ?_
        refine lv_iload hx hb d_M_lessen_85 (lv_at hl 0 rfl) ?_
        refine lv_iadd hx hb d_M_lessen_87 ?_
        refine tp_i (y := nI ((4 * k) + i)) (nI_add (4 * k) i) ?_
        refine va_lald hx hb hK hP 1 1 rfl rfl (vp_in_nI (n := (4 * k) + i) (by omega) (by omega)) d_M_lessen_88 ?_
        refine tp_l (y := (vp_updL f2 ((4 * k) + i) (((f2 ((4 * k) + i)) * (qf ((4 * r) + cc))) - ((f2 ((4 * r) + i)) * (qf ((4 * k) + cc))))) ((4 * k) + i)) (congrArg (vp_updL f2 ((4 * k) + i) (((f2 ((4 * k) + i)) * (qf ((4 * r) + cc))) - ((f2 ((4 * r) + i)) * (qf ((4 * k) + cc))))) (nI_clamp (n := (4 * k) + i) (by omega))) ?_
        refine cx_call (D := D) (cl := kl) (ws := _) (wc := []) (wr := [(m0, .inr (7, [.int th, .int zz, .int rn, .ref rw, .int kn, .int rk, .int y1, .ref ry, .int sp, .int lg, .ref ti, .int fo, .int pt, .ref po, .ref su, .ref sq, .ref ch, .ref vt, .ref sh])), (sq, .inl (cJ, 256, .inr (.inl (vp_updL f2 ((4 * k) + i) (((f2 ((4 * k) + i)) * (qf ((4 * r) + cc))) - ((f2 ((4 * r) + i)) * (qf ((4 * k) + cc))))))))]) (tx_runS (As := [.long g2, .long ((vp_updL f2 ((4 * k) + i) (((f2 ((4 * k) + i)) * (qf ((4 * r) + cc))) - ((f2 ((4 * r) + i)) * (qf ((4 * k) + cc))))) ((4 * k) + i))]) (rest := []) hx hb hml hown (c_M_gcd E H.size g2 ((vp_updL f2 ((4 * k) + i) (((f2 ((4 * k) + i)) * (qf ((4 * r) + cc))) - ((f2 ((4 * r) + i)) * (qf ((4 * k) + cc))))) ((4 * k) + i)) ) (cx_C (b0 := b0) G hx0 mw_817 mw_9 ny_M_gcd (by decide)) (gw.at G hx0 mw_815 rfl _) (gw.at G hx0 mw_816 rfl _) (gw.at G hx0 mw_9 rfl _) ⟨cx_blind, (cx_pre (s := s) hx0 hP hD hS hA0 [] rfl rfl (by decide))⟩ rfl rfl hl.1 rfl (lv_room (Nat.le_of_ble_eq_true rfl)) d_M_lessen_89 ⟨by decide, by decide⟩) hP hD hS hA [] [0, 1] rfl rfl (by decide) (by decide) (fun v t w1 H locs ht hW9 hp hP hD hS => ?_) (fun x t w1 H locs ht hW9 hp hP hD hS => by obtain ⟨h9, -⟩ := hp; cases h9)
        obtain ⟨h9, rfl⟩ := hp
        cases h9
        refine W.eq (g2 := F0 m 92 ls [.long (gcv g2 ((vp_updL f2 ((4 * k) + i) (((f2 ((4 * k) + i)) * (qf ((4 * r) + cc))) - ((f2 ((4 * r) + i)) * (qf ((4 * k) + cc))))) ((4 * k) + i)))]) rfl ?_
        refine W.widen (k := 0) (n := 0) (by decide) (by decide) ?_
        have hP : va_P D kl [(m0, .inr (7, [.int th, .int zz, .int rn, .ref rw, .int kn, .int rk, .int y1, .ref ry, .int sp, .int lg, .ref ti, .int fo, .int pt, .ref po, .ref su, .ref sq, .ref ch, .ref vt, .ref sh])), (sq, .inl (cJ, 256, .inr (.inl (vp_updL f2 ((4 * k) + i) (((f2 ((4 * k) + i)) * (qf ((4 * r) + cc))) - ((f2 ((4 * r) + i)) * (qf ((4 * k) + cc))))))))] H := hP
        have hD : va_D A [(m0, .inr (7, [.int th, .int zz, .int rn, .ref rw, .int kn, .int rk, .int y1, .ref ry, .int sp, .int lg, .ref ti, .int fo, .int pt, .ref po, .ref su, .ref sq, .ref ch, .ref vt, .ref sh])), (sq, .inl (cJ, 256, .inr (.inl (vp_updL f2 ((4 * k) + i) (((f2 ((4 * k) + i)) * (qf ((4 * r) + cc))) - ((f2 ((4 * r) + i)) * (qf ((4 * k) + cc))))))))] := hD
        refine lv_lstore (lv' := [(8, .long (gcv g2 ((vp_updL f2 ((4 * k) + i) (((f2 ((4 * k) + i)) * (qf ((4 * r) + cc))) - ((f2 ((4 * r) + i)) * (qf ((4 * k) + cc))))) ((4 * k) + i)))), (10, .int (nI i)), (4, .long (qf ((4 * r) + cc))), (6, .long (qf ((4 * k) + cc))), (0, .ref m0), (1, .int (nI k)), (2, .int (nI r)), (3, .int (nI cc))]) hx hb d_M_lessen_92 hl (by decide) rfl (fun ls hl => ?_)
        refine lv_iinc (lv' := [(10, .int (nI (i + 1))), (8, .long (gcv g2 ((vp_updL f2 ((4 * k) + i) (((f2 ((4 * k) + i)) * (qf ((4 * r) + cc))) - ((f2 ((4 * r) + i)) * (qf ((4 * k) + cc))))) ((4 * k) + i)))), (4, .long (qf ((4 * r) + cc))), (6, .long (qf ((4 * k) + cc))), (0, .ref m0), (1, .int (nI k)), (2, .int (nI r)), (3, .int (nI cc))]) (k := 1) (v := nI (i + 1)) hx hb d_M_lessen_94 hl rfl (nI_add i 1) (by decide) rfl (fun ls hl => ?_)
        refine lv_goto (tgt := 30) hx hb d_M_lessen_97 (by decide) ?_
        exact ih_30 _ (by omega) (i + 1) (vp_updL f2 ((4 * k) + i) (((f2 ((4 * k) + i)) * (qf ((4 * r) + cc))) - ((f2 ((4 * r) + i)) * (qf ((4 * k) + cc))))) (gcv g2 ((vp_updL f2 ((4 * k) + i) (((f2 ((4 * k) + i)) * (qf ((4 * r) + cc))) - ((f2 ((4 * r) + i)) * (qf ((4 * k) + cc))))) ((4 * k) + i))) ls H locs rfl (ls1_s h1) (by omega) (lv_sub hl [0, 1, 2, 3, 4, 5, 6, 7] rfl) (hP.sub [0, 1] rfl) (hD.sub [0, 1] (by decide) rfl) hS
  exact lp_30 _ 0 qf 0 ls s.heap [] rfl rfl (Nat.zero_le _) (lv_sub hl [0, 1, 3, 2, 4, 5, 6, 7] rfl) (hP.sub [0, 1] rfl) (hD.sub [0, 1] (by decide) rfl) hS

set_option maxHeartbeats 4000000 in
set_option maxRecDepth 100000 in
theorem c_M_rankOf {l : Launch} {s0 : State} {b0 : Addr} {D : va_G} {cI cJ cZ : ClassId} {tC tS : Nat} (E : gE l s0 b0 D cI cJ cZ tC tS) (sz : Nat) (m0 : Nat) (rw : Nat) (ry : Nat) (ti : Nat) (po : Nat) (su : Nat) (sq : Nat) (ch : Nat) (vt : Nat) (sh : Nat) (th : Int32) (zz : Int32) (rn : Int32) (kn : Int32) (rk : Int32) (y1 : Int32) (sp : Int32) (lg : Int32) (fo : Int32) (pt : Int32) (qf : Nat → Int64) (n : Nat) (hn : n ≤ 64) : cx_M l s0 D kl y_M_rankOf b_M_rankOf 8 (some .int) ({ frames := 2, cells := 0, slots := 0, locals := 59 } : Room) 0 0 [.ref m0, .int (nI n)] [(m0, .inr (7, [.int th, .int zz, .int rn, .ref rw, .int kn, .int rk, .int y1, .ref ry, .int sp, .int lg, .ref ti, .int fo, .int pt, .ref po, .ref su, .ref sq, .ref ch, .ref vt, .ref sh])), (sq, .inl (cJ, 256, .inr (.inl qf)))] sz (fun o9 _ w9 => o9 = .returned (some (.int (nI ((rkf n qf 4).1)))) ∧ (rkf n qf 4).1 ≤ 4 ∧ (rkf n qf 4).1 ≤ n ∧ w9 = [(m0, .inr (7, [.int th, .int zz, .int rn, .ref rw, .int kn, .int rk, .int y1, .ref ry, .int sp, .int lg, .ref ti, .int fo, .int pt, .ref po, .ref su, .ref sq, .ref ch, .ref vt, .ref sh])), (sq, .inl (cJ, 256, .inr (.inl ((rkf n qf 4).2))))]) := by
  refine tx_ofW (cc := b_M_rankOf) (maxL := 8) (ret := (some .int)) (by decide) rfl ?_
  intro p e s m args below meth c s₁ B hml hT hv
  obtain ⟨rfl, hsz, hP, hD0, hx0⟩ := hv
  have hx := B.exec
  have hb := B.bytes
  have hr := B.returns
  have G := E.2.1
  have hown : s.vm.findClass cn_M = some m.cls := findClass_of_methodNamed B.named
  have hlocks := B.notSynchronized
  have hK := va_K.moved hx0.1.alike E.2.2.1
  have hf_M : ∀ w99 ∈ u_ws cn_M ft_M 19, w99.before ([.ref m0, .int (nI n)] : List Value).toArray s = true := fun w99 h99 => gw.at G hx0 (fw_M w99 h99) (fo_M w99 h99) _
  subst hsz
  have hA0 := cx_new hD0 hx0.2.1
  have hD := hD0.self (sz := s.heap.size)
  generalize hAe : va_A [(m0, .inr (7, [.int th, .int zz, .int rn, .ref rw, .int kn, .int rk, .int y1, .ref ry, .int sp, .int lg, .ref ti, .int fo, .int pt, .ref po, .ref su, .ref sq, .ref ch, .ref vt, .ref sh])), (sq, .inl (cJ, 256, .inr (.inl qf)))] s.heap.size = A at hD hA0 ⊢
  have hA : ∀ q : Nat, s.heap.size ≤ q → A q := fun q h => by rw [← hAe]; exact Or.inr h
  have hS : va_S A s.heap s.heap [] := va_S.rf
  have hl := lv_entry ([.ref m0, .int (nI n)]) (n := 8) (Nat.le_of_ble_eq_true rfl)
  rw [lg_entry_eq]
  generalize (lg_sl ([.ref m0, .int (nI n)]) ++ List.replicate (8 - (lg_sl ([.ref m0, .int (nI n)])).length) Slot.unset).toArray = ls at hl ⊢
  have hl : lv_has ls 8 [(0, .ref m0), (1, .int (nI n))] := hl
  have hP : va_P D kl [(m0, .inr (7, [.int th, .int zz, .int rn, .ref rw, .int kn, .int rk, .int y1, .ref ry, .int sp, .int lg, .ref ti, .int fo, .int pt, .ref po, .ref su, .ref sq, .ref ch, .ref vt, .ref sh])), (sq, .inl (cJ, 256, .inr (.inl qf)))] s.heap := hP
  have hml : c.maxLocals = 8 := hml
  generalize hQe : tx_Z below (cx_Q D kl A (fun o9 _ w9 => o9 = .returned (some (.int (nI ((rkf n qf 4).1)))) ∧ (rkf n qf 4).1 ≤ 4 ∧ (rkf n qf 4).1 ≤ n ∧ w9 = [(m0, .inr (7, [.int th, .int zz, .int rn, .ref rw, .int kn, .int rk, .int y1, .ref ry, .int sp, .int lg, .ref ti, .int fo, .int pt, .ref po, .ref su, .ref sq, .ref ch, .ref vt, .ref sh])), (sq, .inl (cJ, 256, .inr (.inl ((rkf n qf 4).2))))])) ([.ref m0, .int (nI n)] : List Value).toArray s 0 0 A = Q
  refine lv_iconst (v := (0 : Int32)) hx hb d_M_rankOf_0 (by decide) ?_
  refine lv_istore_n (lv' := [(2, .int (0 : Int32)), (0, .ref m0), (1, .int (nI n))]) hx hb d_M_rankOf_1 rfl hl (by decide) rfl (fun ls hl => ?_)
  refine lv_iconst (v := (0 : Int32)) hx hb d_M_rankOf_2 (by decide) ?_
  refine lv_istore_n (lv' := [(3, .int (0 : Int32)), (2, .int (0 : Int32)), (0, .ref m0), (1, .int (nI n))]) hx hb d_M_rankOf_3 rfl hl (by decide) rfl (fun ls hl => ?_)
  have lp_4 : ∀ (n9 : Nat) (cc : Nat) (r : Nat) (f1 : Nat → Int64) (ls : Array Slot) (H : Heap) (locs : List Loc), 4 - cc = n9 → (rkf n qf cc = (r, f1)) → (cc ≤ 4) → (r ≤ cc) → (r ≤ n) → lv_has ls 8 [(3, .int (nI cc)), (2, .int (nI r)), (0, .ref m0), (1, .int (nI n))] → va_P D kl [(m0, .inr (7, [.int th, .int zz, .int rn, .ref rw, .int kn, .int rk, .int y1, .ref ry, .int sp, .int lg, .ref ti, .int fo, .int pt, .ref po, .ref su, .ref sq, .ref ch, .ref vt, .ref sh])), (sq, .inl (cJ, 256, .inr (.inl f1)))] H → va_D A [(m0, .inr (7, [.int th, .int zz, .int rn, .ref rw, .int kn, .int rk, .int y1, .ref ry, .int sp, .int lg, .ref ti, .int fo, .int pt, .ref po, .ref su, .ref sq, .ref ch, .ref vt, .ref sh])), (sq, .inl (cJ, 256, .inr (.inl f1)))] → va_S A s.heap H locs → W p l e ({ frames := 2, cells := 0, slots := 0, locals := 59 } : Room) s m ([.ref m0, .int (nI n)] : List Value).toArray below meth c H locs 0 0 Q (F0 m 4 ls []) := by
    intro n9
    induction n9 using Nat.strongRecOn with
    | ind n9 ih_4 =>
      intro cc r f1 ls H locs hm_4 hrk hc hrc hrn hl hP hD hS
      refine lv_iload_n hx hb d_M_rankOf_4 rfl (lv_at hl 0 rfl) ?_
      refine lv_iconst (v := (4 : Int32)) hx hb d_M_rankOf_5 (by decide) ?_
      refine lv_icmp_ge (tgt := 145) hx hb d_M_rankOf_6 (by decide) (fun h_1 => ?_) (fun h_1 => ?_)
      · have h_1 : 4 ≤ cc := (nI_leI (a := 4) (b := cc) (by omega) (by omega)).mp h_1
        have h0 : cc = 4 := by omega
        rw [h0] at hrk
        have e1 : (rkf n qf 4).1 = r := by rw [hrk]
        have e2 : (rkf n qf 4).2 = f1 := by rw [hrk]
        have hr4 : r ≤ 4 := by omega
        clear hrk
        subst e1 e2
        refine lv_iload_n hx hb d_M_rankOf_145 rfl (lv_at hl 1 rfl) ?_
        rw [← hQe]
        exact tx_mono (fun _ h => tx_Z.of h) (W.iret (v := nI ((rkf n qf 4).1)) hx hb hr (fun t ht hW => ⟨⟨[(m0, .inr (7, [.int th, .int zz, .int rn, .ref rw, .int kn, .int rk, .int y1, .ref ry, .int sp, .int lg, .ref ti, .int fo, .int pt, .ref po, .ref su, .ref sq, .ref ch, .ref vt, .ref sh])), (sq, .inl (cJ, 256, .inr (.inl ((rkf n qf 4).2))))], ⟨rfl, hr4, hrn, rfl⟩, by rw [ht]; exact hP.sub [0, 1] rfl, hD.sub [0, 1] (by decide) rfl⟩, hS.F ht⟩) hS.2.2 d_M_rankOf_146)
      · have h_1 : ¬ (4 ≤ cc) := fun z99 => h_1 ((nI_leI (a := 4) (b := cc) (by omega) (by omega)).mpr z99)
        refine lv_iload_n hx hb d_M_rankOf_9 rfl (lv_at hl 1 rfl) ?_
        refine lv_istore (lv' := [(4, .int (nI r)), (3, .int (nI cc)), (2, .int (nI r)), (0, .ref m0), (1, .int (nI n))]) hx hb d_M_rankOf_10 hl (by decide) rfl (fun ls hl => ?_)
        have lp_12 : ∀ (n9 : Nat) (p1 : Nat) (ls : Array Slot) (H : Heap) (locs : List Loc), n - p1 = n9 → (pvt f1 cc (n - r) r = pvt f1 cc (n - p1) p1) → (p1 ≤ n) → (r ≤ p1) → lv_has ls 8 [(4, .int (nI p1)), (3, .int (nI cc)), (2, .int (nI r)), (0, .ref m0), (1, .int (nI n))] → va_P D kl [(m0, .inr (7, [.int th, .int zz, .int rn, .ref rw, .int kn, .int rk, .int y1, .ref ry, .int sp, .int lg, .ref ti, .int fo, .int pt, .ref po, .ref su, .ref sq, .ref ch, .ref vt, .ref sh])), (sq, .inl (cJ, 256, .inr (.inl f1)))] H → va_D A [(m0, .inr (7, [.int th, .int zz, .int rn, .ref rw, .int kn, .int rk, .int y1, .ref ry, .int sp, .int lg, .ref ti, .int fo, .int pt, .ref po, .ref su, .ref sq, .ref ch, .ref vt, .ref sh])), (sq, .inl (cJ, 256, .inr (.inl f1)))] → va_S A s.heap H locs → W p l e ({ frames := 2, cells := 0, slots := 0, locals := 59 } : Room) s m ([.ref m0, .int (nI n)] : List Value).toArray below meth c H locs 0 0 Q (F0 m 12 ls []) := by
          intro n9
          induction n9 using Nat.strongRecOn with
          | ind n9 ih_12 =>
            intro p1 ls H locs hm_12 hpe hp9 hrp hl hP hD hS
            refine lv_iload hx hb d_M_rankOf_12 (lv_at hl 0 rfl) ?_
            refine lv_iload_n hx hb d_M_rankOf_14 rfl (lv_at hl 4 rfl) ?_
            refine lv_icmp_ge (tgt := 40) hx hb d_M_rankOf_15 (by decide) (fun h_2 => ?_) (fun h_2 => ?_)
            · have h_2 : n ≤ p1 := (nI_leI (a := n) (b := p1) (by omega) (by omega)).mp h_2
              have hpv := hpe.trans (pvt_n (by omega))
              refine lv_iload hx hb d_M_rankOf_40 (lv_at hl 0 rfl) ?_
              refine lv_iload_n hx hb d_M_rankOf_42 rfl (lv_at hl 4 rfl) ?_
              refine lv_icmp_ge (tgt := 139) hx hb d_M_rankOf_43 (by decide) (fun _ => ?_) (fun h99 => absurd h99 (not_not_intro ((nI_leI (a := n) (b := p1) (by omega) (by omega)).mpr (by omega))))
              have hpn : ¬ p1 < n := by omega
              refine lv_iinc (lv' := [(3, .int (nI (cc + 1))), (4, .int (nI p1)), (2, .int (nI r)), (0, .ref m0), (1, .int (nI n))]) (k := 1) (v := nI (cc + 1)) hx hb d_M_rankOf_139 hl rfl (nI_add cc 1) (by decide) rfl (fun ls hl => ?_)
              refine lv_goto (tgt := 4) hx hb d_M_rankOf_142 (by decide) ?_
              exact ih_4 _ (by omega) (cc + 1) r f1 ls H locs rfl (rkf_n hrk hpv hpn) (by omega) (by omega) (by omega) (lv_sub hl [0, 2, 3, 4] rfl) (hP.sub [0, 1] rfl) (hD.sub [0, 1] (by decide) rfl) hS
            · have h_2 : ¬ (n ≤ p1) := fun z99 => h_2 ((nI_leI (a := n) (b := p1) (by omega) (by omega)).mpr z99)
              refine lv_aload_n hx hb d_M_rankOf_18 rfl (lv_at hl 3 rfl) ?_
              refine va_get (D := D) (ci := 7) (v := .ref sq) (C := cn_M) (T := ft_M) (N := 19) hx hb hf_M (fun _ h => h) hown hK hP 0 rfl rfl 15 (by decide) (gw.at G hx0 mw_728 rfl _) (fun _ h9 => h9) rfl d_M_rankOf_19 ?_
              refine lv_iconst (v := (4 : Int32)) hx hb d_M_rankOf_22 (by decide) ?_
              refine lv_iload hx hb d_M_rankOf_23 (lv_at hl 0 rfl) ?_
              refine lv_imul hx hb d_M_rankOf_25 ?_
              refine tp_i (y := nI (4 * p1)) (nI_mul 4 p1) ?_
              refine lv_iload_n hx hb d_M_rankOf_26 rfl (lv_at hl 1 rfl) ?_
              refine lv_iadd hx hb d_M_rankOf_27 ?_
              refine tp_i (y := nI ((4 * p1) + cc)) (nI_add (4 * p1) cc) ?_
              refine va_lald hx hb hK hP 1 1 rfl rfl (vp_in_nI (n := (4 * p1) + cc) (by omega) (by omega)) d_M_rankOf_28 ?_
              refine tp_l (y := f1 ((4 * p1) + cc)) (congrArg f1 (nI_clamp (n := (4 * p1) + cc) (by omega))) ?_
              refine lv_lconst (v := (0 : Int64)) hx hb d_M_rankOf_29 (by decide) ?_
              refine W.lcmp hx hb d_M_rankOf_30 ?_
              refine lv_if_ne (tgt := 40) hx hb d_M_rankOf_31 (by decide) (fun h_3 => ?_) (fun h_3 => ?_)
              · have hpv := hpe.trans (pvt_y (by omega) (lg_ne.mp h_3))
                refine lv_iload hx hb d_M_rankOf_40 (lv_at hl 0 rfl) ?_
                refine lv_iload_n hx hb d_M_rankOf_42 rfl (lv_at hl 4 rfl) ?_
                refine lv_icmp_ge (tgt := 139) hx hb d_M_rankOf_43 (by decide) (fun h99 => absurd h99 (fun z99 => absurd ((nI_leI (a := n) (b := p1) (by omega) (by omega)).mp z99) (by omega))) (fun _ => ?_)
                have hpn : p1 < n := by omega
                refine lv_iconst (v := (0 : Int32)) hx hb d_M_rankOf_46 (by decide) ?_
                refine lv_istore (lv' := [(5, .int (0 : Int32)), (4, .int (nI p1)), (3, .int (nI cc)), (2, .int (nI r)), (0, .ref m0), (1, .int (nI n))]) hx hb d_M_rankOf_47 hl (by decide) rfl (fun ls hl => ?_)
                have lp_49 : ∀ (n9 : Nat) (i : Nat) (f2 : Nat → Int64) (ls : Array Slot) (H : Heap) (locs : List Loc), 4 - i = n9 → (swp p1 r i f1 = f2) → (i ≤ 4) → lv_has ls 8 [(5, .int (nI i)), (4, .int (nI p1)), (3, .int (nI cc)), (2, .int (nI r)), (0, .ref m0), (1, .int (nI n))] → va_P D kl [(m0, .inr (7, [.int th, .int zz, .int rn, .ref rw, .int kn, .int rk, .int y1, .ref ry, .int sp, .int lg, .ref ti, .int fo, .int pt, .ref po, .ref su, .ref sq, .ref ch, .ref vt, .ref sh])), (sq, .inl (cJ, 256, .inr (.inl f2)))] H → va_D A [(m0, .inr (7, [.int th, .int zz, .int rn, .ref rw, .int kn, .int rk, .int y1, .ref ry, .int sp, .int lg, .ref ti, .int fo, .int pt, .ref po, .ref su, .ref sq, .ref ch, .ref vt, .ref sh])), (sq, .inl (cJ, 256, .inr (.inl f2)))] → va_S A s.heap H locs → W p l e ({ frames := 2, cells := 0, slots := 0, locals := 59 } : Room) s m ([.ref m0, .int (nI n)] : List Value).toArray below meth c H locs 0 0 Q (F0 m 49 ls []) := by
                  intro n9
                  induction n9 using Nat.strongRecOn with
                  | ind n9 ih_49 =>
                    intro i f2 ls H locs hm_49 hsw hi9 hl hP hD hS
                    refine lv_iload hx hb d_M_rankOf_49 (lv_at hl 0 rfl) ?_
                    refine lv_iconst (v := (4 : Int32)) hx hb d_M_rankOf_51 (by decide) ?_
                    refine lv_icmp_ge (tgt := 111) hx hb d_M_rankOf_52 (by decide) (fun h_4 => ?_) (fun h_4 => ?_)
                    · have h_4 : 4 ≤ i := (nI_leI (a := 4) (b := i) (by omega) (by omega)).mp h_4
                      refine lv_iload_n hx hb d_M_rankOf_111 rfl (lv_at hl 3 rfl) ?_
                      refine lv_iconst (v := (1 : Int32)) hx hb d_M_rankOf_112 (by decide) ?_
                      refine lv_iadd hx hb d_M_rankOf_113 ?_
                      refine tp_i (y := nI (r + 1)) (nI_add r 1) ?_
                      refine lv_istore (lv' := [(5, .int (nI (r + 1))), (4, .int (nI p1)), (3, .int (nI cc)), (2, .int (nI r)), (0, .ref m0), (1, .int (nI n))]) hx hb d_M_rankOf_114 hl (by decide) rfl (fun ls hl => ?_)
                      have lp_116 : ∀ (n9 : Nat) (m2 : Nat) (f3 : Nat → Int64) (ls : Array Slot) (H : Heap) (locs : List Loc), n - (r + 1 + m2) = n9 → (lsm r cc m2 f2 = f3) → (r + 1 + m2 ≤ n) → lv_has ls 8 [(5, .int (nI (r + 1 + m2))), (4, .int (nI p1)), (3, .int (nI cc)), (2, .int (nI r)), (0, .ref m0), (1, .int (nI n))] → va_P D kl [(m0, .inr (7, [.int th, .int zz, .int rn, .ref rw, .int kn, .int rk, .int y1, .ref ry, .int sp, .int lg, .ref ti, .int fo, .int pt, .ref po, .ref su, .ref sq, .ref ch, .ref vt, .ref sh])), (sq, .inl (cJ, 256, .inr (.inl f3)))] H → va_D A [(m0, .inr (7, [.int th, .int zz, .int rn, .ref rw, .int kn, .int rk, .int y1, .ref ry, .int sp, .int lg, .ref ti, .int fo, .int pt, .ref po, .ref su, .ref sq, .ref ch, .ref vt, .ref sh])), (sq, .inl (cJ, 256, .inr (.inl f3)))] → va_S A s.heap H locs → W p l e ({ frames := 2, cells := 0, slots := 0, locals := 59 } : Room) s m ([.ref m0, .int (nI n)] : List Value).toArray below meth c H locs 0 0 Q (F0 m 116 ls []) := by
                        intro n9
                        induction n9 using Nat.strongRecOn with
                        | ind n9 ih_116 =>
                          intro m2 f3 ls H locs hm_116 hls hm9 hl hP hD hS
                          refine lv_iload hx hb d_M_rankOf_116 (lv_at hl 0 rfl) ?_
                          refine lv_iload_n hx hb d_M_rankOf_118 rfl (lv_at hl 5 rfl) ?_
                          refine lv_icmp_ge (tgt := 136) hx hb d_M_rankOf_119 (by decide) (fun h_5 => ?_) (fun h_5 => ?_)
                          · have h_5 : n ≤ (r + 1 + m2) := (nI_leI (a := n) (b := r + 1 + m2) (by omega) (by omega)).mp h_5
                            have hm2e : m2 = n - (r + 1) := by omega
                            refine lv_iinc (lv' := [(2, .int (nI (r + 1))), (5, .int (nI (r + 1 + m2))), (4, .int (nI p1)), (3, .int (nI cc)), (0, .ref m0), (1, .int (nI n))]) (k := 3) (v := nI (r + 1)) hx hb d_M_rankOf_136 hl rfl (nI_add r 1) (by decide) rfl (fun ls hl => ?_)
                            refine lv_iinc (lv' := [(3, .int (nI (cc + 1))), (2, .int (nI (r + 1))), (5, .int (nI (r + 1 + m2))), (4, .int (nI p1)), (0, .ref m0), (1, .int (nI n))]) (k := 3) (v := nI (cc + 1)) hx hb d_M_rankOf_139 hl rfl (nI_add cc 1) (by decide) rfl (fun ls hl => ?_)
                            refine lv_goto (tgt := 4) hx hb d_M_rankOf_142 (by decide) ?_
                            exact ih_4 _ (by omega) (cc + 1) (r + 1) f3 ls H locs rfl (rkf_y hrk hpv hpn ((show i = 4 by omega) ▸ hsw) (hm2e ▸ hls)) (by omega) (by omega) (by omega) (lv_sub hl [0, 1, 4, 5] rfl) (hP.sub [0, 1] rfl) (hD.sub [0, 1] (by decide) rfl) hS
                          · have h_5 : ¬ (n ≤ (r + 1 + m2)) := fun z99 => h_5 ((nI_leI (a := n) (b := r + 1 + m2) (by omega) (by omega)).mpr z99)
                            refine lv_aload_n hx hb d_M_rankOf_122 rfl (lv_at hl 4 rfl) ?_
                            refine lv_iload hx hb d_M_rankOf_123 (lv_at hl 0 rfl) ?_
                            refine lv_iload_n hx hb d_M_rankOf_125 rfl (lv_at hl 3 rfl) ?_
                            refine lv_iload_n hx hb d_M_rankOf_126 rfl (lv_at hl 2 rfl) ?_
                            refine cx_call (D := D) (cl := kl) (ws := _) (wc := [(m0, .inr (7, [.int th, .int zz, .int rn, .ref rw, .int kn, .int rk, .int y1, .ref ry, .int sp, .int lg, .ref ti, .int fo, .int pt, .ref po, .ref su, .ref sq, .ref ch, .ref vt, .ref sh])), (sq, .inl (cJ, 256, .inr (.inl f3)))]) (wr := []) (tx_runV (C := cn_M) (b := m0) (As := [.int (nI (r + 1 + m2)), .int (nI r), .int (nI cc)]) (rest := []) hx hb hml hown (c_M_lessen E H.size m0 rw ry ti po su sq ch vt sh th zz rn kn rk y1 sp lg fo pt f3 (r + 1 + m2) r cc (by omega) (by omega) (by omega)) (cx_C (b0 := b0) G hx0 mw_814 mw_9 ny_M_lessen (by decide)) (gw.at G hx0 mw_811 rfl _) (gw.at G hx0 mw_813 rfl _) (gw.at G hx0 ms_M_lessen rfl _) ⟨cx_blind, va_recv hK hP (q0 := 0) (ci := 7) (q := (cn_M, ft_M, 19)) rfl rfl, (cx_pre (s := s) hx0 hP hD hS hA0 [0, 1] rfl rfl (by decide))⟩ rfl rfl hl.1 rfl (lv_room (Nat.le_of_ble_eq_true rfl)) d_M_rankOf_127 ⟨by decide, by decide⟩) hP hD hS hA [0, 1] [] rfl rfl (by decide) (by decide) (fun v t w1 H locs ht hW9 hp hP hD hS => ?_) (fun x t w1 H locs ht hW9 hp hP hD hS => by obtain ⟨h9, -⟩ := hp; cases h9)
                            obtain ⟨h9, rfl⟩ := hp
                            cases h9
                            refine W.eq (g2 := F0 m 130 ls []) rfl ?_
                            refine W.widen (k := 0) (n := 0) (by decide) (by decide) ?_
                            have hP : va_P D kl [(m0, .inr (7, [.int th, .int zz, .int rn, .ref rw, .int kn, .int rk, .int y1, .ref ry, .int sp, .int lg, .ref ti, .int fo, .int pt, .ref po, .ref su, .ref sq, .ref ch, .ref vt, .ref sh])), (sq, .inl (cJ, 256, .inr (.inl (lss (r + 1 + m2) r cc f3))))] H := hP
                            have hD : va_D A [(m0, .inr (7, [.int th, .int zz, .int rn, .ref rw, .int kn, .int rk, .int y1, .ref ry, .int sp, .int lg, .ref ti, .int fo, .int pt, .ref po, .ref su, .ref sq, .ref ch, .ref vt, .ref sh])), (sq, .inl (cJ, 256, .inr (.inl (lss (r + 1 + m2) r cc f3))))] := hD
                            refine lv_iinc (lv' := [(5, .int (nI ((r + 1 + m2) + 1))), (4, .int (nI p1)), (3, .int (nI cc)), (2, .int (nI r)), (0, .ref m0), (1, .int (nI n))]) (k := 0) (v := nI ((r + 1 + m2) + 1)) hx hb d_M_rankOf_130 hl rfl (nI_add (r + 1 + m2) 1) (by decide) rfl (fun ls hl => ?_)
                            refine lv_goto (tgt := 116) hx hb d_M_rankOf_133 (by decide) ?_
                            exact ih_116 _ (by omega) (m2 + 1) (lss (r + 1 + m2) r cc f3) ls H locs rfl (lsm_s hls) (by omega) (lv_sub hl [0, 1, 2, 3, 4, 5] rfl) (hP.sub [0, 1] rfl) (hD.sub [0, 1] (by decide) rfl) hS
                      exact lp_116 _ 0 f2 ls H locs rfl rfl (by omega) (lv_sub hl [0, 1, 2, 3, 4, 5] rfl) (hP.sub [0, 1] rfl) (hD.sub [0, 1] (by decide) rfl) hS
                    · have h_4 : ¬ (4 ≤ i) := fun z99 => h_4 ((nI_leI (a := 4) (b := i) (by omega) (by omega)).mpr z99)
                      refine lv_aload_n hx hb d_M_rankOf_55 rfl (lv_at hl 4 rfl) ?_
                      refine va_get (D := D) (ci := 7) (v := .ref sq) (C := cn_M) (T := ft_M) (N := 19) hx hb hf_M (fun _ h => h) hown hK hP 0 rfl rfl 15 (by decide) (gw.at G hx0 mw_728 rfl _) (fun _ h9 => h9) rfl d_M_rankOf_56 ?_
                      refine lv_iconst (v := (4 : Int32)) hx hb d_M_rankOf_59 (by decide) ?_
                      refine lv_iload hx hb d_M_rankOf_60 (lv_at hl 1 rfl) ?_
                      refine lv_imul hx hb d_M_rankOf_62 ?_
                      refine tp_i (y := nI (4 * p1)) (nI_mul 4 p1) ?_
                      refine lv_iload hx hb d_M_rankOf_63 (lv_at hl 0 rfl) ?_
                      refine lv_iadd hx hb d_M_rankOf_65 ?_
                      refine tp_i (y := nI ((4 * p1) + i)) (nI_add (4 * p1) i) ?_
                      refine va_lald hx hb hK hP 1 1 rfl rfl (vp_in_nI (n := (4 * p1) + i) (by omega) (by omega)) d_M_rankOf_66 ?_
                      refine tp_l (y := f2 ((4 * p1) + i)) (congrArg f2 (nI_clamp (n := (4 * p1) + i) (by omega))) ?_
                      refine lv_lstore (lv' := [(6, .long (f2 ((4 * p1) + i))), (5, .int (nI i)), (4, .int (nI p1)), (3, .int (nI cc)), (2, .int (nI r)), (0, .ref m0), (1, .int (nI n))]) hx hb d_M_rankOf_67 hl (by decide) rfl (fun ls hl => ?_)
                      refine lv_aload_n hx hb d_M_rankOf_69 rfl (lv_at hl 5 rfl) ?_
                      refine va_get (D := D) (ci := 7) (v := .ref sq) (C := cn_M) (T := ft_M) (N := 19) hx hb hf_M (fun _ h => h) hown hK hP 0 rfl rfl 15 (by decide) (gw.at G hx0 mw_728 rfl _) (fun _ h9 => h9) rfl d_M_rankOf_70 ?_
                      refine lv_iconst (v := (4 : Int32)) hx hb d_M_rankOf_73 (by decide) ?_
                      refine lv_iload hx hb d_M_rankOf_74 (lv_at hl 2 rfl) ?_
                      refine lv_imul hx hb d_M_rankOf_76 ?_
                      refine tp_i (y := nI (4 * p1)) (nI_mul 4 p1) ?_
                      refine lv_iload hx hb d_M_rankOf_77 (lv_at hl 1 rfl) ?_
                      refine lv_iadd hx hb d_M_rankOf_79 ?_
                      refine tp_i (y := nI ((4 * p1) + i)) (nI_add (4 * p1) i) ?_
                      refine lv_aload_n hx hb d_M_rankOf_80 rfl (lv_at hl 5 rfl) ?_
                      refine va_get (D := D) (ci := 7) (v := .ref sq) (C := cn_M) (T := ft_M) (N := 19) hx hb hf_M (fun _ h => h) hown hK hP 0 rfl rfl 15 (by decide) (gw.at G hx0 mw_728 rfl _) (fun _ h9 => h9) rfl d_M_rankOf_81 ?_
                      refine lv_iconst (v := (4 : Int32)) hx hb d_M_rankOf_84 (by decide) ?_
                      refine lv_iload_n hx hb d_M_rankOf_85 rfl (lv_at hl 4 rfl) ?_
                      refine lv_imul hx hb d_M_rankOf_86 ?_
                      refine tp_i (y := nI (4 * r)) (nI_mul 4 r) ?_
                      refine lv_iload hx hb d_M_rankOf_87 (lv_at hl 1 rfl) ?_
                      refine lv_iadd hx hb d_M_rankOf_89 ?_
                      refine tp_i (y := nI ((4 * r) + i)) (nI_add (4 * r) i) ?_
                      refine va_lald hx hb hK hP 1 1 rfl rfl (vp_in_nI (n := (4 * r) + i) (by omega) (by omega)) d_M_rankOf_90 ?_
                      refine tp_l (y := f2 ((4 * r) + i)) (congrArg f2 (nI_clamp (n := (4 * r) + i) (by omega))) ?_
                      refine va_last hx hb hK hP hD hS 1 1 rfl rfl (vp_in_nI (n := (4 * p1) + i) (by omega) (by omega)) d_M_rankOf_91 (fun H locs hP hD hS => ?_)
                      rw [nI_clamp (n := (4 * p1) + i) (by omega)] at hP hD
                      have hP : va_P D kl [(m0, .inr (7, [.int th, .int zz, .int rn, .ref rw, .int kn, .int rk, .int y1, .ref ry, .int sp, .int lg, .ref ti, .int fo, .int pt, .ref po, .ref su, .ref sq, .ref ch, .ref vt, .ref sh])), (sq, .inl (cJ, 256, .inr (.inl (vp_updL f2 ((4 * p1) + i) (f2 ((4 * r) + i))))))] H := hP
                      have hD : va_D A [(m0, .inr (7, [.int th, .int zz, .int rn, .ref rw, .int kn, .int rk, .int y1, .ref ry, .int sp, .int lg, .ref ti, .int fo, .int pt, .ref po, .ref su, .ref sq, .ref ch, .ref vt, .ref sh])), (sq, .inl (cJ, 256, .inr (.inl (vp_updL f2 ((4 * p1) + i) (f2 ((4 * r) + i))))))] := hD
                      refine lv_aload_n hx hb d_M_rankOf_92 rfl (lv_at hl 5 rfl) ?_
                      refine va_get (D := D) (ci := 7) (v := .ref sq) (C := cn_M) (T := ft_M) (N := 19) hx hb hf_M (fun _ h => h) hown hK hP 0 rfl rfl 15 (by decide) (gw.at G hx0 mw_728 rfl _) (fun _ h9 => h9) rfl d_M_rankOf_93 ?_
                      refine lv_iconst (v := (4 : Int32)) hx hb d_M_rankOf_96 (by decide) ?_
                      refine lv_iload_n hx hb d_M_rankOf_97 rfl (lv_at hl 4 rfl) ?_
                      refine lv_imul hx hb d_M_rankOf_98 ?_
                      refine tp_i (y := nI (4 * r)) (nI_mul 4 r) ?_
                      refine lv_iload hx hb d_M_rankOf_99 (lv_at hl 1 rfl) ?_
                      refine lv_iadd hx hb d_M_rankOf_101 ?_
                      refine tp_i (y := nI ((4 * r) + i)) (nI_add (4 * r) i) ?_
                      refine lv_lload hx hb d_M_rankOf_102 (lv_at hl 0 rfl) ?_
                      refine va_last hx hb hK hP hD hS 1 1 rfl rfl (vp_in_nI (n := (4 * r) + i) (by omega) (by omega)) d_M_rankOf_104 (fun H locs hP hD hS => ?_)
                      rw [nI_clamp (n := (4 * r) + i) (by omega)] at hP hD
                      have hP : va_P D kl [(m0, .inr (7, [.int th, .int zz, .int rn, .ref rw, .int kn, .int rk, .int y1, .ref ry, .int sp, .int lg, .ref ti, .int fo, .int pt, .ref po, .ref su, .ref sq, .ref ch, .ref vt, .ref sh])), (sq, .inl (cJ, 256, .inr (.inl (vp_updL (vp_updL f2 ((4 * p1) + i) (f2 ((4 * r) + i))) ((4 * r) + i) (f2 ((4 * p1) + i))))))] H := hP
                      have hD : va_D A [(m0, .inr (7, [.int th, .int zz, .int rn, .ref rw, .int kn, .int rk, .int y1, .ref ry, .int sp, .int lg, .ref ti, .int fo, .int pt, .ref po, .ref su, .ref sq, .ref ch, .ref vt, .ref sh])), (sq, .inl (cJ, 256, .inr (.inl (vp_updL (vp_updL f2 ((4 * p1) + i) (f2 ((4 * r) + i))) ((4 * r) + i) (f2 ((4 * p1) + i))))))] := hD
                      refine lv_iinc (lv' := [(5, .int (nI (i + 1))), (6, .long (f2 ((4 * p1) + i))), (4, .int (nI p1)), (3, .int (nI cc)), (2, .int (nI r)), (0, .ref m0), (1, .int (nI n))]) (k := 1) (v := nI (i + 1)) hx hb d_M_rankOf_105 hl rfl (nI_add i 1) (by decide) rfl (fun ls hl => ?_)
                      refine lv_goto (tgt := 49) hx hb d_M_rankOf_108 (by decide) ?_
                      exact ih_49 _ (by omega) (i + 1) (vp_updL (vp_updL f2 ((4 * p1) + i) (f2 ((4 * r) + i))) ((4 * r) + i) (f2 ((4 * p1) + i))) ls H locs rfl (swp_s hsw) (by omega) (lv_sub hl [0, 2, 3, 4, 5, 6] rfl) (hP.sub [0, 1] rfl) (hD.sub [0, 1] (by decide) rfl) hS
                exact lp_49 _ 0 f1 ls H locs rfl rfl (Nat.zero_le _) (lv_sub hl [0, 1, 2, 3, 4, 5] rfl) (hP.sub [0, 1] rfl) (hD.sub [0, 1] (by decide) rfl) hS
              · refine lv_iinc (lv' := [(4, .int (nI (p1 + 1))), (3, .int (nI cc)), (2, .int (nI r)), (0, .ref m0), (1, .int (nI n))]) (k := 0) (v := nI (p1 + 1)) hx hb d_M_rankOf_34 hl rfl (nI_add p1 1) (by decide) rfl (fun ls hl => ?_)
                refine lv_goto (tgt := 12) hx hb d_M_rankOf_37 (by decide) ?_
                exact ih_12 _ (by omega) (p1 + 1) ls H locs rfl (hpe.trans (pvt_s (by omega) (lgz.mp h_3))) (by omega) (by omega) (lv_sub hl [0, 1, 2, 3, 4] rfl) (hP.sub [0, 1] rfl) (hD.sub [0, 1] (by decide) rfl) hS
        exact lp_12 _ r ls H locs rfl rfl hrn (Nat.le_refl _) (lv_sub hl [0, 1, 2, 3, 4] rfl) (hP.sub [0, 1] rfl) (hD.sub [0, 1] (by decide) rfl) hS
  exact lp_4 _ 0 0 qf ls s.heap [] rfl rfl (Nat.zero_le _) (Nat.le_refl _) (Nat.zero_le _) (lv_sub hl [0, 1, 2, 3] rfl) (hP.sub [0, 1] rfl) (hD.sub [0, 1] (by decide) rfl) hS

