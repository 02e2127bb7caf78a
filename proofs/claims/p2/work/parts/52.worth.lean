/-! ===== own rows, laid by wip/tools/g38.py: the reference, determinants ===== -/
/-- the first row from p on, of m rows, with a coordinate c that is not 0, rows of n -/
def pv2 (f : Nat → Int64) (n c : Nat) : Nat → Nat → Nat
  | 0, p => p
  | m + 1, p => if f (n * p + c) = 0 then pv2 f n c m (p + 1) else p
theorem pv2_s {f : Nat → Int64} {n c p : Nat} (hp : p < n) (h : f (n * p + c) = 0) : pv2 f n c (n - p) p = pv2 f n c (n - (p + 1)) (p + 1) := by
  rw [show n - p = (n - (p + 1)) + 1 by omega]
  show (if f (n * p + c) = 0 then _ else p) = _
  rw [if_pos h]
theorem pv2_y {f : Nat → Int64} {n c p : Nat} (hp : p < n) (h : ¬ f (n * p + c) = 0) : pv2 f n c (n - p) p = p := by
  rw [show n - p = (n - (p + 1)) + 1 by omega]
  show (if f (n * p + c) = 0 then _ else p) = _
  rw [if_neg h]
theorem pv2_n {f : Nat → Int64} {n c p : Nat} (hp : n ≤ p) : pv2 f n c (n - p) p = p := by
  rw [show n - p = 0 by omega]; rfl
def sw2 (n p c : Nat) : Nat → (Nat → Int64) → (Nat → Int64)
  | 0, f => f
  | i + 1, f => vp_updL (vp_updL (sw2 n p c i f) (n * p + i) (sw2 n p c i f (n * c + i))) (n * c + i) (sw2 n p c i f (n * p + i))
theorem sw2_s {n p c i : Nat} {f f2 : Nat → Int64} (h : sw2 n p c i f = f2) : sw2 n p c (i + 1) f = vp_updL (vp_updL f2 (n * p + i) (f2 (n * c + i))) (n * c + i) (f2 (n * p + i)) := by
  show vp_updL (vp_updL (sw2 n p c i f) (n * p + i) (sw2 n p c i f (n * c + i))) (n * c + i) (sw2 n p c i f (n * p + i)) = _
  rw [h]
/-- row k, its coordinates below u down to c, by the row c -/
def brd (n k c : Nat) (bf : Int64) : Nat → (Nat → Int64) → (Nat → Int64)
  | 0, f => f
  | u + 1, f => if u < c then f else brd n k c bf u (vp_updL f (n * k + u) ((f (n * k + u) * f (n * c + c) - f (n * c + u) * f (n * k + c)) / bf))
theorem brd_s {n k c u : Nat} {bf : Int64} {f : Nat → Int64} (hu : 0 < u) (h : ¬ u - 1 < c) : brd n k c bf u f = brd n k c bf (u - 1) (vp_updL f (n * k + (u - 1)) ((f (n * k + (u - 1)) * f (n * c + c) - f (n * c + (u - 1)) * f (n * k + c)) / bf)) := by
  obtain ⟨v, rfl⟩ : ∃ v, u = v + 1 := ⟨u - 1, by omega⟩
  show (if v < c then f else _) = _
  rw [if_neg (show ¬ v < c from h)]; rfl
theorem brd_e {n k c u : Nat} {bf : Int64} {f : Nat → Int64} (h : u = 0 ∨ u - 1 < c) : brd n k c bf u f = f := by
  cases u with
  | zero => rfl
  | succ v =>
    show (if v < c then f else _) = _
    rw [if_pos (by omega)]
def brk (n c : Nat) (bf : Int64) : Nat → (Nat → Int64) → (Nat → Int64)
  | 0, f => f
  | m + 1, f => brd n (c + 1 + m) c bf n (brk n c bf m f)
theorem brk_s {n c m : Nat} {bf : Int64} {f f2 f3 : Nat → Int64} (h : brk n c bf m f = f2) (h2 : brd n (c + 1 + m) c bf n f2 = f3) : brk n c bf (m + 1) f = f3 := by
  show brd n (c + 1 + m) c bf n (brk n c bf m f) = _
  rw [h, h2]
/-- the determinant of the square, from column c on, of m columns; and what is left in the square -/
def wth (n : Nat) : Nat → Nat → (Nat → Int64) → Int64 → Int32 → Int64 × (Nat → Int64)
  | 0, _, f, bf, sg => (sg.toInt64 * bf, f)
  | m + 1, c, f, bf, sg => if pv2 f n c (n - c) c = n then (0, f) else
      if pv2 f n c (n - c) c = c then wth n m (c + 1) (brk n c bf (n - (c + 1)) f) (brk n c bf (n - (c + 1)) f (n * c + c)) sg
      else wth n m (c + 1) (brk n c bf (n - (c + 1)) (sw2 n (pv2 f n c (n - c) c) c n f)) (brk n c bf (n - (c + 1)) (sw2 n (pv2 f n c (n - c) c) c n f) (n * c + c)) (-sg)
theorem wth_z {n c p : Nat} {f : Nat → Int64} {bf : Int64} {sg : Int32} (hc : c < n) (hp : pv2 f n c (n - c) c = p) (h : p = n) : wth n (n - c) c f bf sg = (0, f) := by
  rw [show wth n (n - c) = wth n ((n - (c + 1)) + 1) by rw [show (n - (c + 1)) + 1 = n - c by omega]]
  show (if pv2 f n c (n - c) c = n then _ else _) = _
  rw [hp, if_pos h]
theorem wth_c {n c p : Nat} {f f3 : Nat → Int64} {bf : Int64} {sg : Int32} (hc : c < n) (hp : pv2 f n c (n - c) c = p) (h : ¬ p = n) (h2 : p = c) (h3 : brk n c bf (n - (c + 1)) f = f3) : wth n (n - c) c f bf sg = wth n (n - (c + 1)) (c + 1) f3 (f3 (n * c + c)) sg := by
  rw [show wth n (n - c) = wth n ((n - (c + 1)) + 1) by rw [show (n - (c + 1)) + 1 = n - c by omega]]
  show (if pv2 f n c (n - c) c = n then _ else if pv2 f n c (n - c) c = c then _ else _) = _
  rw [hp, if_neg h, if_pos h2, h3]
theorem wth_s {n c p : Nat} {f f2 f3 : Nat → Int64} {bf : Int64} {sg : Int32} (hc : c < n) (hp : pv2 f n c (n - c) c = p) (h : ¬ p = n) (h2 : ¬ p = c) (hs : sw2 n p c n f = f2) (h3 : brk n c bf (n - (c + 1)) f2 = f3) : wth n (n - c) c f bf sg = wth n (n - (c + 1)) (c + 1) f3 (f3 (n * c + c)) (-sg) := by
  rw [show wth n (n - c) = wth n ((n - (c + 1)) + 1) by rw [show (n - (c + 1)) + 1 = n - c by omega]]
  show (if pv2 f n c (n - c) c = n then _ else if pv2 f n c (n - c) c = c then _ else _) = _
  rw [hp, if_neg h, if_neg h2, hs, h3]
theorem wth_e {n c : Nat} {f : Nat → Int64} {bf : Int64} {sg : Int32} (hc : n ≤ c) : wth n (n - c) c f bf sg = (sg.toInt64 * bf, f) := by
  rw [show n - c = 0 by omega]; rfl
-- the pivot stays
theorem updL_ne {f : Nat → Int64} {k j : Nat} {v : Int64} (h : ¬ j = k) : vp_updL f k v j = f j := by unfold vp_updL; rw [if_neg h]
theorem updL_eq {f : Nat → Int64} {k : Nat} {v : Int64} : vp_updL f k v k = v := by unfold vp_updL; rw [if_pos rfl]
theorem brd_o {n k c j : Nat} {bf : Int64} (hj : j < n * k) : ∀ (u : Nat) (f : Nat → Int64), brd n k c bf u f j = f j
  | 0, _ => rfl
  | u + 1, f => by
    show (if u < c then f else _) j = _
    by_cases h : u < c
    · rw [if_pos h]
    · rw [if_neg h, brd_o hj u, updL_ne (by omega)]
theorem brk_o {n c j : Nat} {bf : Int64} (hj : j < n * (c + 1)) : ∀ (m : Nat) (f : Nat → Int64), brk n c bf m f j = f j
  | 0, _ => rfl
  | m + 1, f => by
    show brd n (c + 1 + m) c bf n (brk n c bf m f) j = _
    rw [brd_o (Nat.lt_of_lt_of_le hj (Nat.mul_le_mul (Nat.le_refl n) (by omega))), brk_o hj m f]
theorem sw2_o {n p c j : Nat} : ∀ (i : Nat) (f : Nat → Int64), (∀ q, q < i → ¬ j = n * p + q ∧ ¬ j = n * c + q) → sw2 n p c i f j = f j
  | 0, _, _ => rfl
  | i + 1, f, h => by
    show vp_updL (vp_updL (sw2 n p c i f) (n * p + i) (sw2 n p c i f (n * c + i))) (n * c + i) (sw2 n p c i f (n * p + i)) j = _
    rw [updL_ne (h i (by omega)).2, updL_ne (h i (by omega)).1, sw2_o i f (fun q hq => h q (by omega))]
theorem sw2_at {n p c q : Nat} (hpc : c < p) : ∀ (i : Nat) (f : Nat → Int64), q < i → i ≤ n → sw2 n p c i f (n * c + q) = f (n * p + q)
  | 0, _, h, _ => absurd h (Nat.not_lt_zero _)
  | i + 1, f, h, hn => by
    have hm : n * (c + 1) ≤ n * p := Nat.mul_le_mul (Nat.le_refl n) hpc
    rw [Nat.mul_succ] at hm
    show vp_updL (vp_updL (sw2 n p c i f) (n * p + i) (sw2 n p c i f (n * c + i))) (n * c + i) (sw2 n p c i f (n * p + i)) (n * c + q) = _
    by_cases e : q = i
    · subst e
      rw [updL_eq, sw2_o q f (fun z hz => by omega)]
    · rw [updL_ne (by omega), updL_ne (by omega)]
      exact sw2_at hpc i f (by omega) (by omega)
set_option maxHeartbeats 4000000 in
set_option maxRecDepth 100000 in
theorem c_M_worth {l : Launch} {s0 : State} {b0 : Addr} {D : va_G} {cI cJ cZ : ClassId} {tC tS : Nat} (E : gE l s0 b0 D cI cJ cZ tC tS) (sz : Nat) (m0 : Nat) (rw : Nat) (ry : Nat) (ti : Nat) (po : Nat) (su : Nat) (sq : Nat) (ch : Nat) (vt : Nat) (sh : Nat) (th : Int32) (zz : Int32) (rn : Int32) (kn : Int32) (rk : Int32) (y1 : Int32) (sp : Int32) (lg : Int32) (fo : Int32) (pt : Int32) (qf : Nat → Int64) (n : Nat) (hn : n ≤ 4) : cx_M l s0 D kl y_M_worth b_M_worth 10 (some .long) ({ frames := 0, cells := 0, slots := 0, locals := 0 } : Room) 0 0 [.ref m0, .int (nI n)] [(m0, .inr (7, [.int th, .int zz, .int rn, .ref rw, .int kn, .int rk, .int y1, .ref ry, .int sp, .int lg, .ref ti, .int fo, .int pt, .ref po, .ref su, .ref sq, .ref ch, .ref vt, .ref sh])), (sq, .inl (cJ, 256, .inr (.inl qf)))] sz (fun o9 _ w9 => o9 = .returned (some (.long ((wth n n 0 qf 1 1).1))) ∧ w9 = [(m0, .inr (7, [.int th, .int zz, .int rn, .ref rw, .int kn, .int rk, .int y1, .ref ry, .int sp, .int lg, .ref ti, .int fo, .int pt, .ref po, .ref su, .ref sq, .ref ch, .ref vt, .ref sh])), (sq, .inl (cJ, 256, .inr (.inl ((wth n n 0 qf 1 1).2))))]) := by
  refine tx_ofW (cc := b_M_worth) (maxL := 10) (ret := (some .long)) (by decide) rfl ?_
  intro p e s m args below meth c s₁ B hml hT hv
  obtain ⟨rfl, hsz, hP, hD0, hx0⟩ := hv
  have hx := B.exec
  have hb := B.bytes
  have hr := B.returns
  have G := E.2.1
  have hown : s.vm.findClass cn_M = some m.cls := findClass_of_methodNamed B.named
  have hlocks := B.notSynchronized
  have hK := va_K.moved hx0.1.alike E.2.2.1
  have hf_M : ∀ w99 ∈ u_ws cn_M ft_M 19, w99.before ([.ref m0, .int (nI n)] : List Value).toArray s = true := fun w99 h99 => gw.at G hx0 (fw_M w99 h99) (fo_M w99 h99) _
  subst hsz
  have hA0 := cx_new hD0 hx0.2.1
  have hD := hD0.self (sz := s.heap.size)
  generalize hAe : va_A [(m0, .inr (7, [.int th, .int zz, .int rn, .ref rw, .int kn, .int rk, .int y1, .ref ry, .int sp, .int lg, .ref ti, .int fo, .int pt, .ref po, .ref su, .ref sq, .ref ch, .ref vt, .ref sh])), (sq, .inl (cJ, 256, .inr (.inl qf)))] s.heap.size = A at hD hA0 ⊢
  have hA : ∀ q : Nat, s.heap.size ≤ q → A q := fun q h => by rw [← hAe]; exact Or.inr h
  have hS : va_S A s.heap s.heap [] := va_S.rf
  have hl := lv_entry ([.ref m0, .int (nI n)]) (n := 10) (Nat.le_of_ble_eq_true rfl)
  rw [lg_entry_eq]
  generalize (lg_sl ([.ref m0, .int (nI n)]) ++ List.replicate (10 - (lg_sl ([.ref m0, .int (nI n)])).length) Slot.unset).toArray = ls at hl ⊢
  have hl : lv_has ls 10 [(0, .ref m0), (1, .int (nI n))] := hl
  have hP : va_P D kl [(m0, .inr (7, [.int th, .int zz, .int rn, .ref rw, .int kn, .int rk, .int y1, .ref ry, .int sp, .int lg, .ref ti, .int fo, .int pt, .ref po, .ref su, .ref sq, .ref ch, .ref vt, .ref sh])), (sq, .inl (cJ, 256, .inr (.inl qf)))] s.heap := hP
  have hml : c.maxLocals = 10 := hml
  have hix : ∀ a b : Nat, a < 4 → b < 4 → n * a + b < 256 := fun a b ha hb9 => by have := Nat.mul_le_mul (show n ≤ 4 from hn) (show a ≤ 3 by omega); omega
  generalize hQe : tx_Z below (cx_Q D kl A (fun o9 _ w9 => o9 = .returned (some (.long ((wth n n 0 qf 1 1).1))) ∧ w9 = [(m0, .inr (7, [.int th, .int zz, .int rn, .ref rw, .int kn, .int rk, .int y1, .ref ry, .int sp, .int lg, .ref ti, .int fo, .int pt, .ref po, .ref su, .ref sq, .ref ch, .ref vt, .ref sh])), (sq, .inl (cJ, 256, .inr (.inl ((wth n n 0 qf 1 1).2))))])) ([.ref m0, .int (nI n)] : List Value).toArray s 0 0 A = Q
  refine lv_lconst (v := (1 : Int64)) hx hb d_M_worth_0 (by decide) ?_
  refine lv_lstore_n (lv' := [(2, .long (1 : Int64)), (0, .ref m0), (1, .int (nI n))]) hx hb d_M_worth_1 rfl hl (by decide) rfl (fun ls hl => ?_)
  refine lv_iconst (v := (1 : Int32)) hx hb d_M_worth_2 (by decide) ?_
  refine lv_istore (lv' := [(4, .int (1 : Int32)), (2, .long (1 : Int64)), (0, .ref m0), (1, .int (nI n))]) hx hb d_M_worth_3 hl (by decide) rfl (fun ls hl => ?_)
  refine lv_iconst (v := (0 : Int32)) hx hb d_M_worth_5 (by decide) ?_
  refine lv_istore (lv' := [(5, .int (0 : Int32)), (4, .int (1 : Int32)), (2, .long (1 : Int64)), (0, .ref m0), (1, .int (nI n))]) hx hb d_M_worth_6 hl (by decide) rfl (fun ls hl => ?_)
  have lp_8 : ∀ (n9 : Nat) (cc : Nat) (f1 : Nat → Int64) (bf : Int64) (sg : Int32) (ls : Array Slot) (H : Heap) (locs : List Loc), n - cc = n9 → (wth n n 0 qf 1 1 = wth n (n - cc) cc f1 bf sg) → (cc ≤ n) → (¬ bf = 0) → lv_has ls 10 [(5, .int (nI cc)), (4, .int sg), (2, .long bf), (0, .ref m0), (1, .int (nI n))] → va_P D kl [(m0, .inr (7, [.int th, .int zz, .int rn, .ref rw, .int kn, .int rk, .int y1, .ref ry, .int sp, .int lg, .ref ti, .int fo, .int pt, .ref po, .ref su, .ref sq, .ref ch, .ref vt, .ref sh])), (sq, .inl (cJ, 256, .inr (.inl f1)))] H → va_D A [(m0, .inr (7, [.int th, .int zz, .int rn, .ref rw, .int kn, .int rk, .int y1, .ref ry, .int sp, .int lg, .ref ti, .int fo, .int pt, .ref po, .ref su, .ref sq, .ref ch, .ref vt, .ref sh])), (sq, .inl (cJ, 256, .inr (.inl f1)))] → va_S A s.heap H locs → W p l e ({ frames := 0, cells := 0, slots := 0, locals := 0 } : Room) s m ([.ref m0, .int (nI n)] : List Value).toArray below meth c H locs 0 0 Q (F0 m 8 ls []) := by
    intro n9
    induction n9 using Nat.strongRecOn with
    | ind n9 ih_8 =>
      intro cc f1 bf sg ls H locs hm_8 hwt hc9 hbf hl hP hD hS
      refine lv_iload hx hb d_M_worth_8 (lv_at hl 0 rfl) ?_
      refine lv_iload_n hx hb d_M_worth_10 rfl (lv_at hl 4 rfl) ?_
      refine lv_icmp_ge (tgt := 266) hx hb d_M_worth_11 (by decide) (fun h_1 => ?_) (fun h_1 => ?_)
      · have h_1 : n ≤ cc := (nI_leI (a := n) (b := cc) (by omega) (by omega)).mp h_1
        have hw9 := hwt.trans (wth_e (by omega))
        refine lv_iload hx hb d_M_worth_266 (lv_at hl 1 rfl) ?_
        refine lv_i2l (v := sg.toInt64) hx hb d_M_worth_268 rfl ?_
        refine lv_lload_n hx hb d_M_worth_269 rfl (lv_at hl 2 rfl) ?_
        refine lv_lmul hx hb d_M_worth_270 ?_
        have e2 : (wth n n 0 qf 1 1).2 = f1 := by rw [hw9]
        rw [← e2] at hP hD
        have hP : va_P D kl [(m0, .inr (7, [.int th, .int zz, .int rn, .ref rw, .int kn, .int rk, .int y1, .ref ry, .int sp, .int lg, .ref ti, .int fo, .int pt, .ref po, .ref su, .ref sq, .ref ch, .ref vt, .ref sh])), (sq, .inl (cJ, 256, .inr (.inl ((wth n n 0 qf 1 1).2))))] H := hP
        have hD : va_D A [(m0, .inr (7, [.int th, .int zz, .int rn, .ref rw, .int kn, .int rk, .int y1, .ref ry, .int sp, .int lg, .ref ti, .int fo, .int pt, .ref po, .ref su, .ref sq, .ref ch, .ref vt, .ref sh])), (sq, .inl (cJ, 256, .inr (.inl ((wth n n 0 qf 1 1).2))))] := hD
        rw [← hQe]
        exact tx_mono (fun _ h => tx_Z.of h) (W.lret (v := sg.toInt64 * bf) hx hb hr (fun t ht hW => ⟨⟨[(m0, .inr (7, [.int th, .int zz, .int rn, .ref rw, .int kn, .int rk, .int y1, .ref ry, .int sp, .int lg, .ref ti, .int fo, .int pt, .ref po, .ref su, .ref sq, .ref ch, .ref vt, .ref sh])), (sq, .inl (cJ, 256, .inr (.inl ((wth n n 0 qf 1 1).2))))], ⟨(by rw [hw9]), rfl⟩, by rw [ht]; exact hP.sub [0, 1] rfl, hD.sub [0, 1] (by decide) rfl⟩, hS.F ht⟩) hS.2.2 d_M_worth_271)
      · have h_1 : ¬ (n ≤ cc) := fun z99 => h_1 ((nI_leI (a := n) (b := cc) (by omega) (by omega)).mpr z99)
        refine lv_iload hx hb d_M_worth_14 (lv_at hl 0 rfl) ?_
        refine lv_istore (lv' := [(6, .int (nI cc)), (5, .int (nI cc)), (4, .int sg), (2, .long bf), (0, .ref m0), (1, .int (nI n))]) hx hb d_M_worth_16 hl (by decide) rfl (fun ls hl => ?_)
        have lp_18 : ∀ (n9 : Nat) (p1 : Nat) (ls : Array Slot) (H : Heap) (locs : List Loc), n - p1 = n9 → (pv2 f1 n cc (n - cc) cc = pv2 f1 n cc (n - p1) p1) → (p1 ≤ n) → (cc ≤ p1) → lv_has ls 10 [(6, .int (nI p1)), (5, .int (nI cc)), (4, .int sg), (2, .long bf), (0, .ref m0), (1, .int (nI n))] → va_P D kl [(m0, .inr (7, [.int th, .int zz, .int rn, .ref rw, .int kn, .int rk, .int y1, .ref ry, .int sp, .int lg, .ref ti, .int fo, .int pt, .ref po, .ref su, .ref sq, .ref ch, .ref vt, .ref sh])), (sq, .inl (cJ, 256, .inr (.inl f1)))] H → va_D A [(m0, .inr (7, [.int th, .int zz, .int rn, .ref rw, .int kn, .int rk, .int y1, .ref ry, .int sp, .int lg, .ref ti, .int fo, .int pt, .ref po, .ref su, .ref sq, .ref ch, .ref vt, .ref sh])), (sq, .inl (cJ, 256, .inr (.inl f1)))] → va_S A s.heap H locs → W p l e ({ frames := 0, cells := 0, slots := 0, locals := 0 } : Room) s m ([.ref m0, .int (nI n)] : List Value).toArray below meth c H locs 0 0 Q (F0 m 18 ls []) := by
          intro n9
          induction n9 using Nat.strongRecOn with
          | ind n9 ih_18 =>
            intro p1 ls H locs hm_18 hpe hp9 hcp hl hP hD hS
            refine lv_iload hx hb d_M_worth_18 (lv_at hl 0 rfl) ?_
            refine lv_iload_n hx hb d_M_worth_20 rfl (lv_at hl 5 rfl) ?_
            refine lv_icmp_ge (tgt := 47) hx hb d_M_worth_21 (by decide) (fun h_2 => ?_) (fun h_2 => ?_)
            · have h_2 : n ≤ p1 := (nI_leI (a := n) (b := p1) (by omega) (by omega)).mp h_2
              have hcn : cc < n := by omega
              have hpv := hpe.trans (pv2_n (by omega))
              refine lv_iload hx hb d_M_worth_47 (lv_at hl 0 rfl) ?_
              refine lv_iload_n hx hb d_M_worth_49 rfl (lv_at hl 5 rfl) ?_
              refine lv_icmp_ne (tgt := 55) hx hb d_M_worth_50 (by decide) (fun h99 => absurd h99 (not_not_intro ((nI_eq (a := p1) (b := n) (by omega) (by omega)).mpr (by omega)))) (fun _ => ?_)
              refine lv_lconst (v := (0 : Int64)) hx hb d_M_worth_53 (by decide) ?_
              have hw9 := hwt.trans (wth_z hcn hpv (by omega))
              have e2 : (wth n n 0 qf 1 1).2 = f1 := by rw [hw9]
              rw [← e2] at hP hD
              have hP : va_P D kl [(m0, .inr (7, [.int th, .int zz, .int rn, .ref rw, .int kn, .int rk, .int y1, .ref ry, .int sp, .int lg, .ref ti, .int fo, .int pt, .ref po, .ref su, .ref sq, .ref ch, .ref vt, .ref sh])), (sq, .inl (cJ, 256, .inr (.inl ((wth n n 0 qf 1 1).2))))] H := hP
              have hD : va_D A [(m0, .inr (7, [.int th, .int zz, .int rn, .ref rw, .int kn, .int rk, .int y1, .ref ry, .int sp, .int lg, .ref ti, .int fo, .int pt, .ref po, .ref su, .ref sq, .ref ch, .ref vt, .ref sh])), (sq, .inl (cJ, 256, .inr (.inl ((wth n n 0 qf 1 1).2))))] := hD
              rw [← hQe]
              exact tx_mono (fun _ h => tx_Z.of h) (W.lret (v := (0 : Int64)) hx hb hr (fun t ht hW => ⟨⟨[(m0, .inr (7, [.int th, .int zz, .int rn, .ref rw, .int kn, .int rk, .int y1, .ref ry, .int sp, .int lg, .ref ti, .int fo, .int pt, .ref po, .ref su, .ref sq, .ref ch, .ref vt, .ref sh])), (sq, .inl (cJ, 256, .inr (.inl ((wth n n 0 qf 1 1).2))))], ⟨(by rw [hw9]), rfl⟩, by rw [ht]; exact hP.sub [0, 1] rfl, hD.sub [0, 1] (by decide) rfl⟩, hS.F ht⟩) hS.2.2 d_M_worth_54)
            · have h_2 : ¬ (n ≤ p1) := fun z99 => h_2 ((nI_leI (a := n) (b := p1) (by omega) (by omega)).mpr z99)
              have hx24_0 := hix p1 cc (by omega) (by omega)
              refine lv_aload_n hx hb d_M_worth_24 rfl (lv_at hl 4 rfl) ?_
              refine va_get (D := D) (ci := 7) (v := .ref sq) (C := cn_M) (T := ft_M) (N := 19) hx hb hf_M (fun _ h => h) hown hK hP 0 rfl rfl 15 (by decide) (gw.at G hx0 mw_728 rfl _) (fun _ h9 => h9) rfl d_M_worth_25 ?_
              refine lv_iload_n hx hb d_M_worth_28 rfl (lv_at hl 5 rfl) ?_
              refine lv_iload hx hb d_M_worth_29 (lv_at hl 0 rfl) ?_
              refine lv_imul hx hb d_M_worth_31 ?_
              refine tp_i (y := nI (n * p1)) (nI_mul n p1) ?_
              refine lv_iload hx hb d_M_worth_32 (lv_at hl 1 rfl) ?_
              refine lv_iadd hx hb d_M_worth_34 ?_
              refine tp_i (y := nI ((n * p1) + cc)) (nI_add (n * p1) cc) ?_
              refine va_lald hx hb hK hP 1 1 rfl rfl (vp_in_nI (n := (n * p1) + cc) (by omega) (by omega)) d_M_worth_35 ?_
              refine tp_l (y := f1 ((n * p1) + cc)) (congrArg f1 (nI_clamp (n := (n * p1) + cc) (by omega))) ?_
              refine lv_lconst (v := (0 : Int64)) hx hb d_M_worth_36 (by decide) ?_
              refine W.lcmp hx hb d_M_worth_37 ?_
              refine lv_if_ne (tgt := 47) hx hb d_M_worth_38 (by decide) (fun h_3 => ?_) (fun h_3 => ?_)
              · have hcn : cc < n := by omega
                have hpv := hpe.trans (pv2_y (by omega) (lg_ne.mp h_3))
                have hnz := lg_ne.mp h_3
                refine lv_iload hx hb d_M_worth_47 (lv_at hl 0 rfl) ?_
                refine lv_iload_n hx hb d_M_worth_49 rfl (lv_at hl 5 rfl) ?_
                refine lv_icmp_ne (tgt := 55) hx hb d_M_worth_50 (by decide) (fun _ => ?_) (fun h99 => absurd h99 (fun z99 => absurd ((nI_eq (a := p1) (b := n) (by omega) (by omega)).mp z99) (by omega)))
                have hpn : ¬ p1 = n := by omega
                rcases Nat.eq_or_lt_of_le hcp with hpc | hpc
                · have hpc := hpc.symm
                  refine lv_iconst (v := (0 : Int32)) hx hb d_M_worth_55 (by decide) ?_
                  refine lv_istore (lv' := [(7, .int (0 : Int32)), (6, .int (nI p1)), (5, .int (nI cc)), (4, .int sg), (2, .long bf), (0, .ref m0), (1, .int (nI n))]) hx hb d_M_worth_56 hl (by decide) rfl (fun ls hl => ?_)
                  have lp_58 : ∀ (n9 : Nat) (i : Nat) (f2 : Nat → Int64) (ls : Array Slot) (H : Heap) (locs : List Loc), n - i = n9 → (sw2 n p1 cc i f1 = f2) → (i ≤ n) → (p1 = cc → i = 0) → lv_has ls 10 [(7, .int (nI i)), (6, .int (nI p1)), (5, .int (nI cc)), (4, .int sg), (2, .long bf), (0, .ref m0), (1, .int (nI n))] → va_P D kl [(m0, .inr (7, [.int th, .int zz, .int rn, .ref rw, .int kn, .int rk, .int y1, .ref ry, .int sp, .int lg, .ref ti, .int fo, .int pt, .ref po, .ref su, .ref sq, .ref ch, .ref vt, .ref sh])), (sq, .inl (cJ, 256, .inr (.inl f2)))] H → va_D A [(m0, .inr (7, [.int th, .int zz, .int rn, .ref rw, .int kn, .int rk, .int y1, .ref ry, .int sp, .int lg, .ref ti, .int fo, .int pt, .ref po, .ref su, .ref sq, .ref ch, .ref vt, .ref sh])), (sq, .inl (cJ, 256, .inr (.inl f2)))] → va_S A s.heap H locs → W p l e ({ frames := 0, cells := 0, slots := 0, locals := 0 } : Room) s m ([.ref m0, .int (nI n)] : List Value).toArray below meth c H locs 0 0 Q (F0 m 58 ls []) := by
                    intro n9
                    induction n9 using Nat.strongRecOn with
                    | ind n9 ih_58 =>
                      intro i f2 ls H locs hm_58 hsw hi9 hie hl hP hD hS
                      refine lv_iload hx hb d_M_worth_58 (lv_at hl 0 rfl) ?_
                      refine lv_iload_n hx hb d_M_worth_60 rfl (lv_at hl 6 rfl) ?_
                      refine lv_icmp_ge (tgt := 129) hx hb d_M_worth_61 (by decide) (fun h_4 => ?_) (fun h_4 => ?_)
                      · have h_4 : n ≤ i := (nI_leI (a := n) (b := i) (by omega) (by omega)).mp h_4
                        have hi0 : i = 0 := hie hpc
                        have hf2 : f2 = f1 := by rw [← hsw, hi0]; rfl
                        rw [hf2] at hP hD
                        have hP : va_P D kl [(m0, .inr (7, [.int th, .int zz, .int rn, .ref rw, .int kn, .int rk, .int y1, .ref ry, .int sp, .int lg, .ref ti, .int fo, .int pt, .ref po, .ref su, .ref sq, .ref ch, .ref vt, .ref sh])), (sq, .inl (cJ, 256, .inr (.inl f1)))] H := hP
                        have hD : va_D A [(m0, .inr (7, [.int th, .int zz, .int rn, .ref rw, .int kn, .int rk, .int y1, .ref ry, .int sp, .int lg, .ref ti, .int fo, .int pt, .ref po, .ref su, .ref sq, .ref ch, .ref vt, .ref sh])), (sq, .inl (cJ, 256, .inr (.inl f1)))] := hD
                        have hpz9 : ¬ f1 (n * cc + cc) = 0 := by have z9 := hnz; rw [hpc] at z9; exact z9
                        refine lv_iload hx hb d_M_worth_129 (lv_at hl 1 rfl) ?_
                        refine lv_iload hx hb d_M_worth_131 (lv_at hl 2 rfl) ?_
                        refine lv_icmp_eq (tgt := 142) hx hb d_M_worth_133 (by decide) (fun _ => ?_) (fun h99 => absurd h99 (not_not_intro ((nI_eq (a := p1) (b := cc) (by omega) (by omega)).mpr (by omega))))
                        refine lv_iload hx hb d_M_worth_142 (lv_at hl 3 rfl) ?_
                        refine lv_istore (lv' := [(4, .int sg), (7, .int (nI i)), (6, .int (nI p1)), (5, .int (nI cc)), (2, .long bf), (0, .ref m0), (1, .int (nI n))]) hx hb d_M_worth_144 hl (by decide) rfl (fun ls hl => ?_)
                        refine lv_iload hx hb d_M_worth_146 (lv_at hl 3 rfl) ?_
                        refine lv_iconst (v := (1 : Int32)) hx hb d_M_worth_148 (by decide) ?_
                        refine lv_iadd hx hb d_M_worth_149 ?_
                        refine tp_i (y := nI (cc + 1)) (nI_add cc 1) ?_
                        refine lv_istore (lv' := [(7, .int (nI (cc + 1))), (4, .int sg), (6, .int (nI p1)), (5, .int (nI cc)), (2, .long bf), (0, .ref m0), (1, .int (nI n))]) hx hb d_M_worth_150 hl (by decide) rfl (fun ls hl => ?_)
                        have lp_152 : ∀ (n9 : Nat) (m2 : Nat) (f3 : Nat → Int64) (ls : Array Slot) (H : Heap) (locs : List Loc), n - (cc + 1 + m2) = n9 → (brk n cc bf m2 f1 = f3) → (cc + 1 + m2 ≤ n) → lv_has ls 10 [(7, .int (nI (cc + 1 + m2))), (5, .int (nI cc)), (4, .int sg), (2, .long bf), (0, .ref m0), (1, .int (nI n))] → va_P D kl [(m0, .inr (7, [.int th, .int zz, .int rn, .ref rw, .int kn, .int rk, .int y1, .ref ry, .int sp, .int lg, .ref ti, .int fo, .int pt, .ref po, .ref su, .ref sq, .ref ch, .ref vt, .ref sh])), (sq, .inl (cJ, 256, .inr (.inl f3)))] H → va_D A [(m0, .inr (7, [.int th, .int zz, .int rn, .ref rw, .int kn, .int rk, .int y1, .ref ry, .int sp, .int lg, .ref ti, .int fo, .int pt, .ref po, .ref su, .ref sq, .ref ch, .ref vt, .ref sh])), (sq, .inl (cJ, 256, .inr (.inl f3)))] → va_S A s.heap H locs → W p l e ({ frames := 0, cells := 0, slots := 0, locals := 0 } : Room) s m ([.ref m0, .int (nI n)] : List Value).toArray below meth c H locs 0 0 Q (F0 m 152 ls []) := by
                          intro n9
                          induction n9 using Nat.strongRecOn with
                          | ind n9 ih_152 =>
                            intro m2 f3 ls H locs hm_152 hbk hm9 hl hP hD hS
                            refine lv_iload hx hb d_M_worth_152 (lv_at hl 0 rfl) ?_
                            refine lv_iload_n hx hb d_M_worth_154 rfl (lv_at hl 5 rfl) ?_
                            refine lv_icmp_ge (tgt := 247) hx hb d_M_worth_155 (by decide) (fun h_5 => ?_) (fun h_5 => ?_)
                            · have h_5 : n ≤ (cc + 1 + m2) := (nI_leI (a := n) (b := cc + 1 + m2) (by omega) (by omega)).mp h_5
                              have hmn : m2 = n - (cc + 1) := by omega
                              rw [hmn] at hbk
                              have hbf9 : ¬ f3 (n * cc + cc) = 0 := by rw [← hbk, brk_o (by rw [Nat.mul_succ]; omega)]; exact hpz9
                              have hx247 := hix cc cc (by omega) (by omega)
                              refine lv_aload_n hx hb d_M_worth_247 rfl (lv_at hl 4 rfl) ?_
                              refine va_get (D := D) (ci := 7) (v := .ref sq) (C := cn_M) (T := ft_M) (N := 19) hx hb hf_M (fun _ h => h) hown hK hP 0 rfl rfl 15 (by decide) (gw.at G hx0 mw_728 rfl _) (fun _ h9 => h9) rfl d_M_worth_248 ?_
                              refine lv_iload_n hx hb d_M_worth_251 rfl (lv_at hl 5 rfl) ?_
                              refine lv_iload hx hb d_M_worth_252 (lv_at hl 1 rfl) ?_
                              refine lv_imul hx hb d_M_worth_254 ?_
                              refine tp_i (y := nI (n * cc)) (nI_mul n cc) ?_
                              refine lv_iload hx hb d_M_worth_255 (lv_at hl 1 rfl) ?_
                              refine lv_iadd hx hb d_M_worth_257 ?_
                              refine tp_i (y := nI ((n * cc) + cc)) (nI_add (n * cc) cc) ?_
                              refine va_lald hx hb hK hP 1 1 rfl rfl (vp_in_nI (n := (n * cc) + cc) (by omega) (by omega)) d_M_worth_258 ?_
                              refine tp_l (y := f3 ((n * cc) + cc)) (congrArg f3 (nI_clamp (n := (n * cc) + cc) (by omega))) ?_
                              refine lv_lstore_n (lv' := [(2, .long (f3 ((n * cc) + cc))), (7, .int (nI (cc + 1 + m2))), (5, .int (nI cc)), (4, .int sg), (0, .ref m0), (1, .int (nI n))]) hx hb d_M_worth_259 rfl hl (by decide) rfl (fun ls hl => ?_)
                              refine lv_iinc (lv' := [(5, .int (nI (cc + 1))), (2, .long (f3 ((n * cc) + cc))), (7, .int (nI (cc + 1 + m2))), (4, .int sg), (0, .ref m0), (1, .int (nI n))]) (k := 2) (v := nI (cc + 1)) hx hb d_M_worth_260 hl rfl (nI_add cc 1) (by decide) rfl (fun ls hl => ?_)
                              refine lv_goto (tgt := 8) hx hb d_M_worth_263 (by decide) ?_
                              exact ih_8 _ (by omega) (cc + 1) f3 (f3 ((n * cc) + cc)) sg ls H locs rfl (hwt.trans (wth_c hcn hpv hpn hpc hbk)) (by omega) hbf9 (lv_sub hl [0, 3, 1, 4, 5] rfl) (hP.sub [0, 1] rfl) (hD.sub [0, 1] (by decide) rfl) hS
                            · have h_5 : ¬ (n ≤ (cc + 1 + m2)) := fun z99 => h_5 ((nI_leI (a := n) (b := cc + 1 + m2) (by omega) (by omega)).mpr z99)
                              refine lv_iload_n hx hb d_M_worth_158 rfl (lv_at hl 5 rfl) ?_
                              refine lv_iconst (v := (1 : Int32)) hx hb d_M_worth_159 (by decide) ?_
                              refine lv_isub hx hb d_M_worth_160 ?_
                              refine lv_istore (lv' := [(8, .int ((nI n) - (1 : Int32))), (7, .int (nI (cc + 1 + m2))), (5, .int (nI cc)), (4, .int sg), (2, .long bf), (0, .ref m0), (1, .int (nI n))]) hx hb d_M_worth_161 hl (by decide) rfl (fun ls hl => ?_)
                              have lp_163 : ∀ (n9 : Nat) (u : Nat) (f4 : Nat → Int64) (ls : Array Slot) (H : Heap) (locs : List Loc), u = n9 → (brd n (cc + 1 + m2) cc bf n f3 = brd n (cc + 1 + m2) cc bf u f4) → (u ≤ n) → lv_has ls 10 [(8, .int (nI u - (1 : Int32))), (7, .int (nI (cc + 1 + m2))), (5, .int (nI cc)), (4, .int sg), (2, .long bf), (0, .ref m0), (1, .int (nI n))] → va_P D kl [(m0, .inr (7, [.int th, .int zz, .int rn, .ref rw, .int kn, .int rk, .int y1, .ref ry, .int sp, .int lg, .ref ti, .int fo, .int pt, .ref po, .ref su, .ref sq, .ref ch, .ref vt, .ref sh])), (sq, .inl (cJ, 256, .inr (.inl f4)))] H → va_D A [(m0, .inr (7, [.int th, .int zz, .int rn, .ref rw, .int kn, .int rk, .int y1, .ref ry, .int sp, .int lg, .ref ti, .int fo, .int pt, .ref po, .ref su, .ref sq, .ref ch, .ref vt, .ref sh])), (sq, .inl (cJ, 256, .inr (.inl f4)))] → va_S A s.heap H locs → W p l e ({ frames := 0, cells := 0, slots := 0, locals := 0 } : Room) s m ([.ref m0, .int (nI n)] : List Value).toArray below meth c H locs 0 0 Q (F0 m 163 ls []) := by
                                intro n9
                                induction n9 using Nat.strongRecOn with
                                | ind n9 ih_163 =>
                                  intro u f4 ls H locs hm_163 hbd hu9 hl hP hD hS
                                  rcases Nat.eq_zero_or_pos u with hup | hup
                                  · rw [show nI u - (1 : Int32) = (-1 : Int32) by rw [hup]; decide] at hl
                                    refine lv_iload hx hb d_M_worth_163 (lv_at hl 0 rfl) ?_
                                    refine lv_iload hx hb d_M_worth_165 (lv_at hl 2 rfl) ?_
                                    refine lv_icmp_lt (tgt := 241) hx hb d_M_worth_167 (by decide) (fun _ => ?_) (fun h99 => absurd h99 (not_not_intro (m1_lt (n := cc) (by omega))))
                                    refine lv_iinc (lv' := [(7, .int (nI ((cc + 1 + m2) + 1))), (8, .int (-1 : Int32)), (5, .int (nI cc)), (4, .int sg), (2, .long bf), (0, .ref m0), (1, .int (nI n))]) (k := 1) (v := nI ((cc + 1 + m2) + 1)) hx hb d_M_worth_241 hl rfl (nI_add (cc + 1 + m2) 1) (by decide) rfl (fun ls hl => ?_)
                                    refine lv_goto (tgt := 152) hx hb d_M_worth_244 (by decide) ?_
                                    exact ih_152 _ (by omega) (m2 + 1) f4 ls H locs rfl (brk_s hbk (hbd.trans (brd_e (by omega)))) (by omega) (lv_sub hl [0, 2, 3, 4, 5, 6] rfl) (hP.sub [0, 1] rfl) (hD.sub [0, 1] (by decide) rfl) hS
                                  · rw [show nI u - (1 : Int32) = nI (u - 1) from nI_sub (a := u) (b := 1) hup] at hl
                                    refine lv_iload hx hb d_M_worth_163 (lv_at hl 0 rfl) ?_
                                    refine lv_iload hx hb d_M_worth_165 (lv_at hl 2 rfl) ?_
                                    refine lv_icmp_lt (tgt := 241) hx hb d_M_worth_167 (by decide) (fun h_6 => ?_) (fun h_6 => ?_)
                                    · have h_6 : (u - 1) < cc := (nI_ltI (a := u - 1) (b := cc) (by omega) (by omega)).mp h_6
                                      refine lv_iinc (lv' := [(7, .int (nI ((cc + 1 + m2) + 1))), (8, .int (nI (u - 1))), (5, .int (nI cc)), (4, .int sg), (2, .long bf), (0, .ref m0), (1, .int (nI n))]) (k := 1) (v := nI ((cc + 1 + m2) + 1)) hx hb d_M_worth_241 hl rfl (nI_add (cc + 1 + m2) 1) (by decide) rfl (fun ls hl => ?_)
                                      refine lv_goto (tgt := 152) hx hb d_M_worth_244 (by decide) ?_
                                      exact ih_152 _ (by omega) (m2 + 1) f4 ls H locs rfl (brk_s hbk (hbd.trans (brd_e (by omega)))) (by omega) (lv_sub hl [0, 2, 3, 4, 5, 6] rfl) (hP.sub [0, 1] rfl) (hD.sub [0, 1] (by decide) rfl) hS
                                    · have h_6 : ¬ ((u - 1) < cc) := fun z99 => h_6 ((nI_ltI (a := u - 1) (b := cc) (by omega) (by omega)).mpr z99)
                                      have hx170_0 := hix (cc + 1 + m2) (u - 1) (by omega) (by omega)
                                      have hx170_1 := hix cc cc (by omega) (by omega)
                                      have hx170_2 := hix cc (u - 1) (by omega) (by omega)
                                      have hx170_3 := hix (cc + 1 + m2) cc (by omega) (by omega)
                                      refine lv_aload_n hx hb d_M_worth_170 rfl (lv_at hl 5 rfl) ?_
                                      refine va_get (D := D) (ci := 7) (v := .ref sq) (C := cn_M) (T := ft_M) (N := 19) hx hb hf_M (fun _ h => h) hown hK hP 0 rfl rfl 15 (by decide) (gw.at G hx0 mw_728 rfl _) (fun _ h9 => h9) rfl d_M_worth_171 ?_
                                      refine lv_iload_n hx hb d_M_worth_174 rfl (lv_at hl 6 rfl) ?_
                                      refine lv_iload hx hb d_M_worth_175 (lv_at hl 1 rfl) ?_
                                      refine lv_imul hx hb d_M_worth_177 ?_
                                      refine tp_i (y := nI (n * (cc + 1 + m2))) (nI_mul n (cc + 1 + m2)) ?_
                                      refine lv_iload hx hb d_M_worth_178 (lv_at hl 0 rfl) ?_
                                      refine lv_iadd hx hb d_M_worth_180 ?_
                                      refine tp_i (y := nI ((n * (cc + 1 + m2)) + (u - 1))) (nI_add (n * (cc + 1 + m2)) (u - 1)) ?_
                                      refine lv_aload_n hx hb d_M_worth_181 rfl (lv_at hl 5 rfl) ?_
                                      refine va_get (D := D) (ci := 7) (v := .ref sq) (C := cn_M) (T := ft_M) (N := 19) hx hb hf_M (fun _ h => h) hown hK hP 0 rfl rfl 15 (by decide) (gw.at G hx0 mw_728 rfl _) (fun _ h9 => h9) rfl d_M_worth_182 ?_
                                      refine lv_iload_n hx hb d_M_worth_185 rfl (lv_at hl 6 rfl) ?_
                                      refine lv_iload hx hb d_M_worth_186 (lv_at hl 1 rfl) ?_
                                      refine lv_imul hx hb d_M_worth_188 ?_
                                      refine tp_i (y := nI (n * (cc + 1 + m2))) (nI_mul n (cc + 1 + m2)) ?_
                                      refine lv_iload hx hb d_M_worth_189 (lv_at hl 0 rfl) ?_
                                      refine lv_iadd hx hb d_M_worth_191 ?_
                                      refine tp_i (y := nI ((n * (cc + 1 + m2)) + (u - 1))) (nI_add (n * (cc + 1 + m2)) (u - 1)) ?_
                                      refine va_lald hx hb hK hP 1 1 rfl rfl (vp_in_nI (n := (n * (cc + 1 + m2)) + (u - 1)) (by omega) (by omega)) d_M_worth_192 ?_
                                      refine tp_l (y := f4 ((n * (cc + 1 + m2)) + (u - 1))) (congrArg f4 (nI_clamp (n := (n * (cc + 1 + m2)) + (u - 1)) (by omega))) ?_
                                      refine lv_aload_n hx hb d_M_worth_193 rfl (lv_at hl 5 rfl) ?_
                                      refine va_get (D := D) (ci := 7) (v := .ref sq) (C := cn_M) (T := ft_M) (N := 19) hx hb hf_M (fun _ h => h) hown hK hP 0 rfl rfl 15 (by decide) (gw.at G hx0 mw_728 rfl _) (fun _ h9 => h9) rfl d_M_worth_194 ?_
                                      refine lv_iload_n hx hb d_M_worth_197 rfl (lv_at hl 6 rfl) ?_
                                      refine lv_iload hx hb d_M_worth_198 (lv_at hl 2 rfl) ?_
                                      refine lv_imul hx hb d_M_worth_200 ?_
                                      refine tp_i (y := nI (n * cc)) (nI_mul n cc) ?_
                                      refine lv_iload hx hb d_M_worth_201 (lv_at hl 2 rfl) ?_
                                      refine lv_iadd hx hb d_M_worth_203 ?_
                                      refine tp_i (y := nI ((n * cc) + cc)) (nI_add (n * cc) cc) ?_
                                      refine va_lald hx hb hK hP 1 1 rfl rfl (vp_in_nI (n := (n * cc) + cc) (by omega) (by omega)) d_M_worth_204 ?_
                                      refine tp_l (y := f4 ((n * cc) + cc)) (congrArg f4 (nI_clamp (n := (n * cc) + cc) (by omega))) ?_
                                      refine lv_lmul hx hb d_M_worth_205 ?_
                                      refine lv_aload_n hx hb d_M_worth_206 rfl (lv_at hl 5 rfl) ?_
                                      refine va_get (D := D) (ci := 7) (v := .ref sq) (C := cn_M) (T := ft_M) (N := 19) hx hb hf_M (fun _ h => h) hown hK hP 0 rfl rfl 15 (by decide) (gw.at G hx0 mw_728 rfl _) (fun _ h9 => h9) rfl d_M_worth_207 ?_
                                      refine lv_iload_n hx hb d_M_worth_210 rfl (lv_at hl 6 rfl) ?_
                                      refine lv_iload hx hb d_M_worth_211 (lv_at hl 2 rfl) ?_
                                      refine lv_imul hx hb d_M_worth_213 ?_
                                      refine tp_i (y := nI (n * cc)) (nI_mul n cc) ?_
                                      refine lv_iload hx hb d_M_worth_214 (lv_at hl 0 rfl) ?_
                                      refine lv_iadd hx hb d_M_worth_216 ?_
                                      refine tp_i (y := nI ((n * cc) + (u - 1))) (nI_add (n * cc) (u - 1)) ?_
                                      refine va_lald hx hb hK hP 1 1 rfl rfl (vp_in_nI (n := (n * cc) + (u - 1)) (by omega) (by omega)) d_M_worth_217 ?_
                                      refine tp_l (y := f4 ((n * cc) + (u - 1))) (congrArg f4 (nI_clamp (n := (n * cc) + (u - 1)) (by omega))) ?_
                                      refine lv_aload_n hx hb d_M_worth_218 rfl (lv_at hl 5 rfl) ?_
                                      refine va_get (D := D) (ci := 7) (v := .ref sq) (C := cn_M) (T := ft_M) (N := 19) hx hb hf_M (fun _ h => h) hown hK hP 0 rfl rfl 15 (by decide) (gw.at G hx0 mw_728 rfl _) (fun _ h9 => h9) rfl d_M_worth_219 ?_
                                      refine lv_iload_n hx hb d_M_worth_222 rfl (lv_at hl 6 rfl) ?_
                                      refine lv_iload hx hb d_M_worth_223 (lv_at hl 1 rfl) ?_
                                      refine lv_imul hx hb d_M_worth_225 ?_
                                      refine tp_i (y := nI (n * (cc + 1 + m2))) (nI_mul n (cc + 1 + m2)) ?_
                                      refine lv_iload hx hb d_M_worth_226 (lv_at hl 2 rfl) ?_
                                      refine lv_iadd hx hb d_M_worth_228 ?_
                                      refine tp_i (y := nI ((n * (cc + 1 + m2)) + cc)) (nI_add (n * (cc + 1 + m2)) cc) ?_
                                      refine va_lald hx hb hK hP 1 1 rfl rfl (vp_in_nI (n := (n * (cc + 1 + m2)) + cc) (by omega) (by omega)) d_M_worth_229 ?_
                                      refine tp_l (y := f4 ((n * (cc + 1 + m2)) + cc)) (congrArg f4 (nI_clamp (n := (n * (cc + 1 + m2)) + cc) (by omega))) ?_
                                      refine lv_lmul hx hb d_M_worth_230 ?_
                                      refine lv_lsub hx hb d_M_worth_231 ?_
                                      refine lv_lload_n hx hb d_M_worth_232 rfl (lv_at hl 4 rfl) ?_
                                      refine lv_ldiv hx hb d_M_worth_233 hbf ?_
                                      refine va_last hx hb hK hP hD hS 1 1 rfl rfl (vp_in_nI (n := (n * (cc + 1 + m2)) + (u - 1)) (by omega) (by omega)) d_M_worth_234 (fun H locs hP hD hS => ?_)
                                      rw [nI_clamp (n := (n * (cc + 1 + m2)) + (u - 1)) (by omega)] at hP hD
                                      have hP : va_P D kl [(m0, .inr (7, [.int th, .int zz, .int rn, .ref rw, .int kn, .int rk, .int y1, .ref ry, .int sp, .int lg, .ref ti, .int fo, .int pt, .ref po, .ref su, .ref sq, .ref ch, .ref vt, .ref sh])), (sq, .inl (cJ, 256, .inr (.inl (vp_updL f4 ((n * (cc + 1 + m2)) + (u - 1)) ((((f4 ((n * (cc + 1 + m2)) + (u - 1))) * (f4 ((n * cc) + cc))) - ((f4 ((n * cc) + (u - 1))) * (f4 ((n * (cc + 1 + m2)) + cc)))) / bf)))))] H := hP
                                      have hD : va_D A [(m0, .inr (7, [.int th, .int zz, .int rn, .ref rw, .int kn, .int rk, .int y1, .ref ry, .int sp, .int lg, .ref ti, .int fo, .int pt, .ref po, .ref su, .ref sq, .ref ch, .ref vt, .ref sh])), (sq, .inl (cJ, 256, .inr (.inl (vp_updL f4 ((n * (cc + 1 + m2)) + (u - 1)) ((((f4 ((n * (cc + 1 + m2)) + (u - 1))) * (f4 ((n * cc) + cc))) - ((f4 ((n * cc) + (u - 1))) * (f4 ((n * (cc + 1 + m2)) + cc)))) / bf)))))] := hD
                                      refine lv_iinc (lv' := [(8, .int (nI (u - 1) - (1 : Int32))), (7, .int (nI (cc + 1 + m2))), (5, .int (nI cc)), (4, .int sg), (2, .long bf), (0, .ref m0), (1, .int (nI n))]) (k := 0) (v := nI (u - 1) - (1 : Int32)) hx hb d_M_worth_235 hl rfl (by rw [Int32.sub_eq_add_neg]; rfl) (by decide) rfl (fun ls hl => ?_)
                                      refine lv_goto (tgt := 163) hx hb d_M_worth_238 (by decide) ?_
                                      exact ih_163 _ (by omega) (u - 1) (vp_updL f4 ((n * (cc + 1 + m2)) + (u - 1)) ((((f4 ((n * (cc + 1 + m2)) + (u - 1))) * (f4 ((n * cc) + cc))) - ((f4 ((n * cc) + (u - 1))) * (f4 ((n * (cc + 1 + m2)) + cc)))) / bf)) ls H locs rfl (hbd.trans (brd_s hup (by omega))) (by omega) (lv_sub hl [0, 1, 2, 3, 4, 5, 6] rfl) (hP.sub [0, 1] rfl) (hD.sub [0, 1] (by decide) rfl) hS
                              exact lp_163 _ n f3 ls H locs rfl rfl (Nat.le_refl _) (lv_sub hl [0, 1, 2, 3, 4, 5, 6] rfl) (hP.sub [0, 1] rfl) (hD.sub [0, 1] (by decide) rfl) hS
                        exact lp_152 _ 0 f1 ls H locs rfl rfl (by omega) (lv_sub hl [0, 3, 1, 4, 5, 6] rfl) (hP.sub [0, 1] rfl) (hD.sub [0, 1] (by decide) rfl) hS
                      · have h_4 : ¬ (n ≤ i) := fun z99 => h_4 ((nI_leI (a := n) (b := i) (by omega) (by omega)).mpr z99)
                        refine lv_iload hx hb d_M_worth_64 (lv_at hl 1 rfl) ?_
                        refine lv_iload hx hb d_M_worth_66 (lv_at hl 2 rfl) ?_
                        refine lv_icmp_eq (tgt := 129) hx hb d_M_worth_68 (by decide) (fun _ => ?_) (fun h99 => absurd h99 (not_not_intro ((nI_eq (a := p1) (b := cc) (by omega) (by omega)).mpr (by omega))))
                        have hi0 : i = 0 := hie hpc
                        have hf2 : f2 = f1 := by rw [← hsw, hi0]; rfl
                        rw [hf2] at hP hD
                        have hP : va_P D kl [(m0, .inr (7, [.int th, .int zz, .int rn, .ref rw, .int kn, .int rk, .int y1, .ref ry, .int sp, .int lg, .ref ti, .int fo, .int pt, .ref po, .ref su, .ref sq, .ref ch, .ref vt, .ref sh])), (sq, .inl (cJ, 256, .inr (.inl f1)))] H := hP
                        have hD : va_D A [(m0, .inr (7, [.int th, .int zz, .int rn, .ref rw, .int kn, .int rk, .int y1, .ref ry, .int sp, .int lg, .ref ti, .int fo, .int pt, .ref po, .ref su, .ref sq, .ref ch, .ref vt, .ref sh])), (sq, .inl (cJ, 256, .inr (.inl f1)))] := hD
                        have hpz9 : ¬ f1 (n * cc + cc) = 0 := by have z9 := hnz; rw [hpc] at z9; exact z9
                        refine lv_iload hx hb d_M_worth_129 (lv_at hl 1 rfl) ?_
                        refine lv_iload hx hb d_M_worth_131 (lv_at hl 2 rfl) ?_
                        refine lv_icmp_eq (tgt := 142) hx hb d_M_worth_133 (by decide) (fun _ => ?_) (fun h99 => absurd h99 (not_not_intro ((nI_eq (a := p1) (b := cc) (by omega) (by omega)).mpr (by omega))))
                        refine lv_iload hx hb d_M_worth_142 (lv_at hl 3 rfl) ?_
                        refine lv_istore (lv' := [(4, .int sg), (7, .int (nI i)), (6, .int (nI p1)), (5, .int (nI cc)), (2, .long bf), (0, .ref m0), (1, .int (nI n))]) hx hb d_M_worth_144 hl (by decide) rfl (fun ls hl => ?_)
                        refine lv_iload hx hb d_M_worth_146 (lv_at hl 3 rfl) ?_
                        refine lv_iconst (v := (1 : Int32)) hx hb d_M_worth_148 (by decide) ?_
                        refine lv_iadd hx hb d_M_worth_149 ?_
                        refine tp_i (y := nI (cc + 1)) (nI_add cc 1) ?_
                        refine lv_istore (lv' := [(7, .int (nI (cc + 1))), (4, .int sg), (6, .int (nI p1)), (5, .int (nI cc)), (2, .long bf), (0, .ref m0), (1, .int (nI n))]) hx hb d_M_worth_150 hl (by decide) rfl (fun ls hl => ?_)
                        have lp_152 : ∀ (n9 : Nat) (m2 : Nat) (f3 : Nat → Int64) (ls : Array Slot) (H : Heap) (locs : List Loc), n - (cc + 1 + m2) = n9 → (brk n cc bf m2 f1 = f3) → (cc + 1 + m2 ≤ n) → lv_has ls 10 [(7, .int (nI (cc + 1 + m2))), (5, .int (nI cc)), (4, .int sg), (2, .long bf), (0, .ref m0), (1, .int (nI n))] → va_P D kl [(m0, .inr (7, [.int th, .int zz, .int rn, .ref rw, .int kn, .int rk, .int y1, .ref ry, .int sp, .int lg, .ref ti, .int fo, .int pt, .ref po, .ref su, .ref sq, .ref ch, .ref vt, .ref sh])), (sq, .inl (cJ, 256, .inr (.inl f3)))] H → va_D A [(m0, .inr (7, [.int th, .int zz, .int rn, .ref rw, .int kn, .int rk, .int y1, .ref ry, .int sp, .int lg, .ref ti, .int fo, .int pt, .ref po, .ref su, .ref sq, .ref ch, .ref vt, .ref sh])), (sq, .inl (cJ, 256, .inr (.inl f3)))] → va_S A s.heap H locs → W p l e ({ frames := 0, cells := 0, slots := 0, locals := 0 } : Room) s m ([.ref m0, .int (nI n)] : List Value).toArray below meth c H locs 0 0 Q (F0 m 152 ls []) := by
                          intro n9
                          induction n9 using Nat.strongRecOn with
                          | ind n9 ih_152 =>
                            intro m2 f3 ls H locs hm_152 hbk hm9 hl hP hD hS
                            refine lv_iload hx hb d_M_worth_152 (lv_at hl 0 rfl) ?_
                            refine lv_iload_n hx hb d_M_worth_154 rfl (lv_at hl 5 rfl) ?_
                            refine lv_icmp_ge (tgt := 247) hx hb d_M_worth_155 (by decide) (fun h_7 => ?_) (fun h_7 => ?_)
                            · have h_7 : n ≤ (cc + 1 + m2) := (nI_leI (a := n) (b := cc + 1 + m2) (by omega) (by omega)).mp h_7
                              have hmn : m2 = n - (cc + 1) := by omega
                              rw [hmn] at hbk
                              have hbf9 : ¬ f3 (n * cc + cc) = 0 := by rw [← hbk, brk_o (by rw [Nat.mul_succ]; omega)]; exact hpz9
                              have hx247 := hix cc cc (by omega) (by omega)
                              refine lv_aload_n hx hb d_M_worth_247 rfl (lv_at hl 4 rfl) ?_
                              refine va_get (D := D) (ci := 7) (v := .ref sq) (C := cn_M) (T := ft_M) (N := 19) hx hb hf_M (fun _ h => h) hown hK hP 0 rfl rfl 15 (by decide) (gw.at G hx0 mw_728 rfl _) (fun _ h9 => h9) rfl d_M_worth_248 ?_
                              refine lv_iload_n hx hb d_M_worth_251 rfl (lv_at hl 5 rfl) ?_
                              refine lv_iload hx hb d_M_worth_252 (lv_at hl 1 rfl) ?_
                              refine lv_imul hx hb d_M_worth_254 ?_
                              refine tp_i (y := nI (n * cc)) (nI_mul n cc) ?_
                              refine lv_iload hx hb d_M_worth_255 (lv_at hl 1 rfl) ?_
                              refine lv_iadd hx hb d_M_worth_257 ?_
                              refine tp_i (y := nI ((n * cc) + cc)) (nI_add (n * cc) cc) ?_
                              refine va_lald hx hb hK hP 1 1 rfl rfl (vp_in_nI (n := (n * cc) + cc) (by omega) (by omega)) d_M_worth_258 ?_
                              refine tp_l (y := f3 ((n * cc) + cc)) (congrArg f3 (nI_clamp (n := (n * cc) + cc) (by omega))) ?_
                              refine lv_lstore_n (lv' := [(2, .long (f3 ((n * cc) + cc))), (7, .int (nI (cc + 1 + m2))), (5, .int (nI cc)), (4, .int sg), (0, .ref m0), (1, .int (nI n))]) hx hb d_M_worth_259 rfl hl (by decide) rfl (fun ls hl => ?_)
                              refine lv_iinc (lv' := [(5, .int (nI (cc + 1))), (2, .long (f3 ((n * cc) + cc))), (7, .int (nI (cc + 1 + m2))), (4, .int sg), (0, .ref m0), (1, .int (nI n))]) (k := 2) (v := nI (cc + 1)) hx hb d_M_worth_260 hl rfl (nI_add cc 1) (by decide) rfl (fun ls hl => ?_)
                              refine lv_goto (tgt := 8) hx hb d_M_worth_263 (by decide) ?_
                              exact ih_8 _ (by omega) (cc + 1) f3 (f3 ((n * cc) + cc)) sg ls H locs rfl (hwt.trans (wth_c hcn hpv hpn hpc hbk)) (by omega) hbf9 (lv_sub hl [0, 3, 1, 4, 5] rfl) (hP.sub [0, 1] rfl) (hD.sub [0, 1] (by decide) rfl) hS
                            · have h_7 : ¬ (n ≤ (cc + 1 + m2)) := fun z99 => h_7 ((nI_leI (a := n) (b := cc + 1 + m2) (by omega) (by omega)).mpr z99)
                              refine lv_iload_n hx hb d_M_worth_158 rfl (lv_at hl 5 rfl) ?_
                              refine lv_iconst (v := (1 : Int32)) hx hb d_M_worth_159 (by decide) ?_
                              refine lv_isub hx hb d_M_worth_160 ?_
                              refine lv_istore (lv' := [(8, .int ((nI n) - (1 : Int32))), (7, .int (nI (cc + 1 + m2))), (5, .int (nI cc)), (4, .int sg), (2, .long bf), (0, .ref m0), (1, .int (nI n))]) hx hb d_M_worth_161 hl (by decide) rfl (fun ls hl => ?_)
                              have lp_163 : ∀ (n9 : Nat) (u : Nat) (f4 : Nat → Int64) (ls : Array Slot) (H : Heap) (locs : List Loc), u = n9 → (brd n (cc + 1 + m2) cc bf n f3 = brd n (cc + 1 + m2) cc bf u f4) → (u ≤ n) → lv_has ls 10 [(8, .int (nI u - (1 : Int32))), (7, .int (nI (cc + 1 + m2))), (5, .int (nI cc)), (4, .int sg), (2, .long bf), (0, .ref m0), (1, .int (nI n))] → va_P D kl [(m0, .inr (7, [.int th, .int zz, .int rn, .ref rw, .int kn, .int rk, .int y1, .ref ry, .int sp, .int lg, .ref ti, .int fo, .int pt, .ref po, .ref su, .ref sq, .ref ch, .ref vt, .ref sh])), (sq, .inl (cJ, 256, .inr (.inl f4)))] H → va_D A [(m0, .inr (7, [.int th, .int zz, .int rn, .ref rw, .int kn, .int rk, .int y1, .ref ry, .int sp, .int lg, .ref ti, .int fo, .int pt, .ref po, .ref su, .ref sq, .ref ch, .ref vt, .ref sh])), (sq, .inl (cJ, 256, .inr (.inl f4)))] → va_S A s.heap H locs → W p l e ({ frames := 0, cells := 0, slots := 0, locals := 0 } : Room) s m ([.ref m0, .int (nI n)] : List Value).toArray below meth c H locs 0 0 Q (F0 m 163 ls []) := by
                                intro n9
                                induction n9 using Nat.strongRecOn with
                                | ind n9 ih_163 =>
                                  intro u f4 ls H locs hm_163 hbd hu9 hl hP hD hS
                                  rcases Nat.eq_zero_or_pos u with hup | hup
                                  · rw [show nI u - (1 : Int32) = (-1 : Int32) by rw [hup]; decide] at hl
                                    refine lv_iload hx hb d_M_worth_163 (lv_at hl 0 rfl) ?_
                                    refine lv_iload hx hb d_M_worth_165 (lv_at hl 2 rfl) ?_
                                    refine lv_icmp_lt (tgt := 241) hx hb d_M_worth_167 (by decide) (fun _ => ?_) (fun h99 => absurd h99 (not_not_intro (m1_lt (n := cc) (by omega))))
                                    refine lv_iinc (lv' := [(7, .int (nI ((cc + 1 + m2) + 1))), (8, .int (-1 : Int32)), (5, .int (nI cc)), (4, .int sg), (2, .long bf), (0, .ref m0), (1, .int (nI n))]) (k := 1) (v := nI ((cc + 1 + m2) + 1)) hx hb d_M_worth_241 hl rfl (nI_add (cc + 1 + m2) 1) (by decide) rfl (fun ls hl => ?_)
                                    refine lv_goto (tgt := 152) hx hb d_M_worth_244 (by decide) ?_
                                    exact ih_152 _ (by omega) (m2 + 1) f4 ls H locs rfl (brk_s hbk (hbd.trans (brd_e (by omega)))) (by omega) (lv_sub hl [0, 2, 3, 4, 5, 6] rfl) (hP.sub [0, 1] rfl) (hD.sub [0, 1] (by decide) rfl) hS
                                  · rw [show nI u - (1 : Int32) = nI (u - 1) from nI_sub (a := u) (b := 1) hup] at hl
                                    refine lv_iload hx hb d_M_worth_163 (lv_at hl 0 rfl) ?_
                                    refine lv_iload hx hb d_M_worth_165 (lv_at hl 2 rfl) ?_
                                    refine lv_icmp_lt (tgt := 241) hx hb d_M_worth_167 (by decide) (fun h_8 => ?_) (fun h_8 => ?_)
                                    · have h_8 : (u - 1) < cc := (nI_ltI (a := u - 1) (b := cc) (by omega) (by omega)).mp h_8
                                      refine lv_iinc (lv' := [(7, .int (nI ((cc + 1 + m2) + 1))), (8, .int (nI (u - 1))), (5, .int (nI cc)), (4, .int sg), (2, .long bf), (0, .ref m0), (1, .int (nI n))]) (k := 1) (v := nI ((cc + 1 + m2) + 1)) hx hb d_M_worth_241 hl rfl (nI_add (cc + 1 + m2) 1) (by decide) rfl (fun ls hl => ?_)
                                      refine lv_goto (tgt := 152) hx hb d_M_worth_244 (by decide) ?_
                                      exact ih_152 _ (by omega) (m2 + 1) f4 ls H locs rfl (brk_s hbk (hbd.trans (brd_e (by omega)))) (by omega) (lv_sub hl [0, 2, 3, 4, 5, 6] rfl) (hP.sub [0, 1] rfl) (hD.sub [0, 1] (by decide) rfl) hS
                                    · have h_8 : ¬ ((u - 1) < cc) := fun z99 => h_8 ((nI_ltI (a := u - 1) (b := cc) (by omega) (by omega)).mpr z99)
                                      have hx170_0 := hix (cc + 1 + m2) (u - 1) (by omega) (by omega)
                                      have hx170_1 := hix cc cc (by omega) (by omega)
                                      have hx170_2 := hix cc (u - 1) (by omega) (by omega)
                                      have hx170_3 := hix (cc + 1 + m2) cc (by omega) (by omega)
                                      refine lv_aload_n hx hb d_M_worth_170 rfl (lv_at hl 5 rfl) ?_
                                      refine va_get (D := D) (ci := 7) (v := .ref sq) (C := cn_M) (T := ft_M) (N := 19) hx hb hf_M (fun _ h => h) hown hK hP 0 rfl rfl 15 (by decide) (gw.at G hx0 mw_728 rfl _) (fun _ h9 => h9) rfl d_M_worth_171 ?_
                                      refine lv_iload_n hx hb d_M_worth_174 rfl (lv_at hl 6 rfl) ?_
                                      refine lv_iload hx hb d_M_worth_175 (lv_at hl 1 rfl) ?_
                                      refine lv_imul hx hb d_M_worth_177 ?_
                                      refine tp_i (y := nI (n * (cc + 1 + m2))) (nI_mul n (cc + 1 + m2)) ?_
                                      refine lv_iload hx hb d_M_worth_178 (lv_at hl 0 rfl) ?_
                                      refine lv_iadd hx hb d_M_worth_180 ?_
                                      refine tp_i (y := nI ((n * (cc + 1 + m2)) + (u - 1))) (nI_add (n * (cc + 1 + m2)) (u - 1)) ?_
                                      refine lv_aload_n hx hb d_M_worth_181 rfl (lv_at hl 5 rfl) ?_
                                      refine va_get (D := D) (ci := 7) (v := .ref sq) (C := cn_M) (T := ft_M) (N := 19) hx hb hf_M (fun _ h => h) hown hK hP 0 rfl rfl 15 (by decide) (gw.at G hx0 mw_728 rfl _) (fun _ h9 => h9) rfl d_M_worth_182 ?_
                                      refine lv_iload_n hx hb d_M_worth_185 rfl (lv_at hl 6 rfl) ?_
                                      refine lv_iload hx hb d_M_worth_186 (lv_at hl 1 rfl) ?_
                                      refine lv_imul hx hb d_M_worth_188 ?_
                                      refine tp_i (y := nI (n * (cc + 1 + m2))) (nI_mul n (cc + 1 + m2)) ?_
                                      refine lv_iload hx hb d_M_worth_189 (lv_at hl 0 rfl) ?_
                                      refine lv_iadd hx hb d_M_worth_191 ?_
                                      refine tp_i (y := nI ((n * (cc + 1 + m2)) + (u - 1))) (nI_add (n * (cc + 1 + m2)) (u - 1)) ?_
                                      refine va_lald hx hb hK hP 1 1 rfl rfl (vp_in_nI (n := (n * (cc + 1 + m2)) + (u - 1)) (by omega) (by omega)) d_M_worth_192 ?_
                                      refine tp_l (y := f4 ((n * (cc + 1 + m2)) + (u - 1))) (congrArg f4 (nI_clamp (n := (n * (cc + 1 + m2)) + (u - 1)) (by omega))) ?_
                                      refine lv_aload_n hx hb d_M_worth_193 rfl (lv_at hl 5 rfl) ?_
                                      refine va_get (D := D) (ci := 7) (v := .ref sq) (C := cn_M) (T := ft_M) (N := 19) hx hb hf_M (fun _ h => h) hown hK hP 0 rfl rfl 15 (by decide) (gw.at G hx0 mw_728 rfl _) (fun _ h9 => h9) rfl d_M_worth_194 ?_
                                      refine lv_iload_n hx hb d_M_worth_197 rfl (lv_at hl 6 rfl) ?_
                                      refine lv_iload hx hb d_M_worth_198 (lv_at hl 2 rfl) ?_
                                      refine lv_imul hx hb d_M_worth_200 ?_
                                      refine tp_i (y := nI (n * cc)) (nI_mul n cc) ?_
                                      refine lv_iload hx hb d_M_worth_201 (lv_at hl 2 rfl) ?_
                                      refine lv_iadd hx hb d_M_worth_203 ?_
                                      refine tp_i (y := nI ((n * cc) + cc)) (nI_add (n * cc) cc) ?_
                                      refine va_lald hx hb hK hP 1 1 rfl rfl (vp_in_nI (n := (n * cc) + cc) (by omega) (by omega)) d_M_worth_204 ?_
                                      refine tp_l (y := f4 ((n * cc) + cc)) (congrArg f4 (nI_clamp (n := (n * cc) + cc) (by omega))) ?_
                                      refine lv_lmul hx hb d_M_worth_205 ?_
                                      refine lv_aload_n hx hb d_M_worth_206 rfl (lv_at hl 5 rfl) ?_
                                      refine va_get (D := D) (ci := 7) (v := .ref sq) (C := cn_M) (T := ft_M) (N := 19) hx hb hf_M (fun _ h => h) hown hK hP 0 rfl rfl 15 (by decide) (gw.at G hx0 mw_728 rfl _) (fun _ h9 => h9) rfl d_M_worth_207 ?_
                                      refine lv_iload_n hx hb d_M_worth_210 rfl (lv_at hl 6 rfl) ?_
                                      refine lv_iload hx hb d_M_worth_211 (lv_at hl 2 rfl) ?_
                                      refine lv_imul hx hb d_M_worth_213 ?_
                                      refine tp_i (y := nI (n * cc)) (nI_mul n cc) ?_
                                      refine lv_iload hx hb d_M_worth_214 (lv_at hl 0 rfl) ?_
                                      refine lv_iadd hx hb d_M_worth_216 ?_
                                      refine tp_i (y := nI ((n * cc) + (u - 1))) (nI_add (n * cc) (u - 1)) ?_
                                      refine va_lald hx hb hK hP 1 1 rfl rfl (vp_in_nI (n := (n * cc) + (u - 1)) (by omega) (by omega)) d_M_worth_217 ?_
                                      refine tp_l (y := f4 ((n * cc) + (u - 1))) (congrArg f4 (nI_clamp (n := (n * cc) + (u - 1)) (by omega))) ?_
                                      refine lv_aload_n hx hb d_M_worth_218 rfl (lv_at hl 5 rfl) ?_
                                      refine va_get (D := D) (ci := 7) (v := .ref sq) (C := cn_M) (T := ft_M) (N := 19) hx hb hf_M (fun _ h => h) hown hK hP 0 rfl rfl 15 (by decide) (gw.at G hx0 mw_728 rfl _) (fun _ h9 => h9) rfl d_M_worth_219 ?_
                                      refine lv_iload_n hx hb d_M_worth_222 rfl (lv_at hl 6 rfl) ?_
                                      refine lv_iload hx hb d_M_worth_223 (lv_at hl 1 rfl) ?_
                                      refine lv_imul hx hb d_M_worth_225 ?_
                                      refine tp_i (y := nI (n * (cc + 1 + m2))) (nI_mul n (cc + 1 + m2)) ?_
                                      refine lv_iload hx hb d_M_worth_226 (lv_at hl 2 rfl) ?_
                                      refine lv_iadd hx hb d_M_worth_228 ?_
                                      refine tp_i (y := nI ((n * (cc + 1 + m2)) + cc)) (nI_add (n * (cc + 1 + m2)) cc) ?_
                                      refine va_lald hx hb hK hP 1 1 rfl rfl (vp_in_nI (n := (n * (cc + 1 + m2)) + cc) (by omega) (by omega)) d_M_worth_229 ?_
                                      refine tp_l (y := f4 ((n * (cc + 1 + m2)) + cc)) (congrArg f4 (nI_clamp (n := (n * (cc + 1 + m2)) + cc) (by omega))) ?_
                                      refine lv_lmul hx hb d_M_worth_230 ?_
                                      refine lv_lsub hx hb d_M_worth_231 ?_
                                      refine lv_lload_n hx hb d_M_worth_232 rfl (lv_at hl 4 rfl) ?_
                                      refine lv_ldiv hx hb d_M_worth_233 hbf ?_
                                      refine va_last hx hb hK hP hD hS 1 1 rfl rfl (vp_in_nI (n := (n * (cc + 1 + m2)) + (u - 1)) (by omega) (by omega)) d_M_worth_234 (fun H locs hP hD hS => ?_)
                                      rw [nI_clamp (n := (n * (cc + 1 + m2)) + (u - 1)) (by omega)] at hP hD
                                      have hP : va_P D kl [(m0, .inr (7, [.int th, .int zz, .int rn, .ref rw, .int kn, .int rk, .int y1, .ref ry, .int sp, .int lg, .ref ti, .int fo, .int pt, .ref po, .ref su, .ref sq, .ref ch, .ref vt, .ref sh])), (sq, .inl (cJ, 256, .inr (.inl (vp_updL f4 ((n * (cc + 1 + m2)) + (u - 1)) ((((f4 ((n * (cc + 1 + m2)) + (u - 1))) * (f4 ((n * cc) + cc))) - ((f4 ((n * cc) + (u - 1))) * (f4 ((n * (cc + 1 + m2)) + cc)))) / bf)))))] H := hP
                                      have hD : va_D A [(m0, .inr (7, [.int th, .int zz, .int rn, .ref rw, .int kn, .int rk, .int y1, .ref ry, .int sp, .int lg, .ref ti, .int fo, .int pt, .ref po, .ref su, .ref sq, .ref ch, .ref vt, .ref sh])), (sq, .inl (cJ, 256, .inr (.inl (vp_updL f4 ((n * (cc + 1 + m2)) + (u - 1)) ((((f4 ((n * (cc + 1 + m2)) + (u - 1))) * (f4 ((n * cc) + cc))) - ((f4 ((n * cc) + (u - 1))) * (f4 ((n * (cc + 1 + m2)) + cc)))) / bf)))))] := hD
                                      refine lv_iinc (lv' := [(8, .int (nI (u - 1) - (1 : Int32))), (7, .int (nI (cc + 1 + m2))), (5, .int (nI cc)), (4, .int sg), (2, .long bf), (0, .ref m0), (1, .int (nI n))]) (k := 0) (v := nI (u - 1) - (1 : Int32)) hx hb d_M_worth_235 hl rfl (by rw [Int32.sub_eq_add_neg]; rfl) (by decide) rfl (fun ls hl => ?_)
                                      refine lv_goto (tgt := 163) hx hb d_M_worth_238 (by decide) ?_
                                      exact ih_163 _ (by omega) (u - 1) (vp_updL f4 ((n * (cc + 1 + m2)) + (u - 1)) ((((f4 ((n * (cc + 1 + m2)) + (u - 1))) * (f4 ((n * cc) + cc))) - ((f4 ((n * cc) + (u - 1))) * (f4 ((n * (cc + 1 + m2)) + cc)))) / bf)) ls H locs rfl (hbd.trans (brd_s hup (by omega))) (by omega) (lv_sub hl [0, 1, 2, 3, 4, 5, 6] rfl) (hP.sub [0, 1] rfl) (hD.sub [0, 1] (by decide) rfl) hS
                              exact lp_163 _ n f3 ls H locs rfl rfl (Nat.le_refl _) (lv_sub hl [0, 1, 2, 3, 4, 5, 6] rfl) (hP.sub [0, 1] rfl) (hD.sub [0, 1] (by decide) rfl) hS
                        exact lp_152 _ 0 f1 ls H locs rfl rfl (by omega) (lv_sub hl [0, 3, 1, 4, 5, 6] rfl) (hP.sub [0, 1] rfl) (hD.sub [0, 1] (by decide) rfl) hS
                  exact lp_58 _ 0 f1 ls H locs rfl rfl (Nat.zero_le _) (fun _ => rfl) (lv_sub hl [0, 1, 2, 3, 4, 5, 6] rfl) (hP.sub [0, 1] rfl) (hD.sub [0, 1] (by decide) rfl) hS
                · have hlt := hpc
                  have hpc : ¬ p1 = cc := by omega
                  refine lv_iconst (v := (0 : Int32)) hx hb d_M_worth_55 (by decide) ?_
                  refine lv_istore (lv' := [(7, .int (0 : Int32)), (6, .int (nI p1)), (5, .int (nI cc)), (4, .int sg), (2, .long bf), (0, .ref m0), (1, .int (nI n))]) hx hb d_M_worth_56 hl (by decide) rfl (fun ls hl => ?_)
                  have lp_58 : ∀ (n9 : Nat) (i : Nat) (f2 : Nat → Int64) (ls : Array Slot) (H : Heap) (locs : List Loc), n - i = n9 → (sw2 n p1 cc i f1 = f2) → (i ≤ n) → (p1 = cc → i = 0) → lv_has ls 10 [(7, .int (nI i)), (6, .int (nI p1)), (5, .int (nI cc)), (4, .int sg), (2, .long bf), (0, .ref m0), (1, .int (nI n))] → va_P D kl [(m0, .inr (7, [.int th, .int zz, .int rn, .ref rw, .int kn, .int rk, .int y1, .ref ry, .int sp, .int lg, .ref ti, .int fo, .int pt, .ref po, .ref su, .ref sq, .ref ch, .ref vt, .ref sh])), (sq, .inl (cJ, 256, .inr (.inl f2)))] H → va_D A [(m0, .inr (7, [.int th, .int zz, .int rn, .ref rw, .int kn, .int rk, .int y1, .ref ry, .int sp, .int lg, .ref ti, .int fo, .int pt, .ref po, .ref su, .ref sq, .ref ch, .ref vt, .ref sh])), (sq, .inl (cJ, 256, .inr (.inl f2)))] → va_S A s.heap H locs → W p l e ({ frames := 0, cells := 0, slots := 0, locals := 0 } : Room) s m ([.ref m0, .int (nI n)] : List Value).toArray below meth c H locs 0 0 Q (F0 m 58 ls []) := by
                    intro n9
                    induction n9 using Nat.strongRecOn with
                    | ind n9 ih_58 =>
                      intro i f2 ls H locs hm_58 hsw hi9 hie hl hP hD hS
                      refine lv_iload hx hb d_M_worth_58 (lv_at hl 0 rfl) ?_
                      refine lv_iload_n hx hb d_M_worth_60 rfl (lv_at hl 6 rfl) ?_
                      refine lv_icmp_ge (tgt := 129) hx hb d_M_worth_61 (by decide) (fun h_9 => ?_) (fun h_9 => ?_)
                      · have h_9 : n ≤ i := (nI_leI (a := n) (b := i) (by omega) (by omega)).mp h_9
                        have hin : i = n := by omega
                        have hsw9 : sw2 n p1 cc n f1 = f2 := hin ▸ hsw
                        have hpz9 : ¬ f2 (n * cc + cc) = 0 := by rw [← hsw9, sw2_at hlt n f1 hcn (Nat.le_refl n)]; exact hnz
                        refine lv_iload hx hb d_M_worth_129 (lv_at hl 1 rfl) ?_
                        refine lv_iload hx hb d_M_worth_131 (lv_at hl 2 rfl) ?_
                        refine lv_icmp_eq (tgt := 142) hx hb d_M_worth_133 (by decide) (fun h99 => absurd h99 (fun z99 => absurd ((nI_eq (a := p1) (b := cc) (by omega) (by omega)).mp z99) (by omega))) (fun _ => ?_)
                        refine lv_iload hx hb d_M_worth_136 (lv_at hl 3 rfl) ?_
                        refine lv_ineg hx hb d_M_worth_138 ?_
                        refine lv_goto (tgt := 144) hx hb d_M_worth_139 (by decide) ?_
                        refine lv_istore (lv' := [(4, .int (-sg)), (7, .int (nI i)), (6, .int (nI p1)), (5, .int (nI cc)), (2, .long bf), (0, .ref m0), (1, .int (nI n))]) hx hb d_M_worth_144 hl (by decide) rfl (fun ls hl => ?_)
                        refine lv_iload hx hb d_M_worth_146 (lv_at hl 3 rfl) ?_
                        refine lv_iconst (v := (1 : Int32)) hx hb d_M_worth_148 (by decide) ?_
                        refine lv_iadd hx hb d_M_worth_149 ?_
                        refine tp_i (y := nI (cc + 1)) (nI_add cc 1) ?_
                        refine lv_istore (lv' := [(7, .int (nI (cc + 1))), (4, .int (-sg)), (6, .int (nI p1)), (5, .int (nI cc)), (2, .long bf), (0, .ref m0), (1, .int (nI n))]) hx hb d_M_worth_150 hl (by decide) rfl (fun ls hl => ?_)
                        have lp_152 : ∀ (n9 : Nat) (m2 : Nat) (f3 : Nat → Int64) (ls : Array Slot) (H : Heap) (locs : List Loc), n - (cc + 1 + m2) = n9 → (brk n cc bf m2 f2 = f3) → (cc + 1 + m2 ≤ n) → lv_has ls 10 [(7, .int (nI (cc + 1 + m2))), (5, .int (nI cc)), (4, .int (-sg)), (2, .long bf), (0, .ref m0), (1, .int (nI n))] → va_P D kl [(m0, .inr (7, [.int th, .int zz, .int rn, .ref rw, .int kn, .int rk, .int y1, .ref ry, .int sp, .int lg, .ref ti, .int fo, .int pt, .ref po, .ref su, .ref sq, .ref ch, .ref vt, .ref sh])), (sq, .inl (cJ, 256, .inr (.inl f3)))] H → va_D A [(m0, .inr (7, [.int th, .int zz, .int rn, .ref rw, .int kn, .int rk, .int y1, .ref ry, .int sp, .int lg, .ref ti, .int fo, .int pt, .ref po, .ref su, .ref sq, .ref ch, .ref vt, .ref sh])), (sq, .inl (cJ, 256, .inr (.inl f3)))] → va_S A s.heap H locs → W p l e ({ frames := 0, cells := 0, slots := 0, locals := 0 } : Room) s m ([.ref m0, .int (nI n)] : List Value).toArray below meth c H locs 0 0 Q (F0 m 152 ls []) := by
                          intro n9
                          induction n9 using Nat.strongRecOn with
                          | ind n9 ih_152 =>
                            intro m2 f3 ls H locs hm_152 hbk hm9 hl hP hD hS
                            refine lv_iload hx hb d_M_worth_152 (lv_at hl 0 rfl) ?_
                            refine lv_iload_n hx hb d_M_worth_154 rfl (lv_at hl 5 rfl) ?_
                            refine lv_icmp_ge (tgt := 247) hx hb d_M_worth_155 (by decide) (fun h_10 => ?_) (fun h_10 => ?_)
                            · have h_10 : n ≤ (cc + 1 + m2) := (nI_leI (a := n) (b := cc + 1 + m2) (by omega) (by omega)).mp h_10
                              have hmn : m2 = n - (cc + 1) := by omega
                              rw [hmn] at hbk
                              have hbf9 : ¬ f3 (n * cc + cc) = 0 := by rw [← hbk, brk_o (by rw [Nat.mul_succ]; omega)]; exact hpz9
                              have hx247 := hix cc cc (by omega) (by omega)
                              refine lv_aload_n hx hb d_M_worth_247 rfl (lv_at hl 4 rfl) ?_
                              refine va_get (D := D) (ci := 7) (v := .ref sq) (C := cn_M) (T := ft_M) (N := 19) hx hb hf_M (fun _ h => h) hown hK hP 0 rfl rfl 15 (by decide) (gw.at G hx0 mw_728 rfl _) (fun _ h9 => h9) rfl d_M_worth_248 ?_
                              refine lv_iload_n hx hb d_M_worth_251 rfl (lv_at hl 5 rfl) ?_
                              refine lv_iload hx hb d_M_worth_252 (lv_at hl 1 rfl) ?_
                              refine lv_imul hx hb d_M_worth_254 ?_
                              refine tp_i (y := nI (n * cc)) (nI_mul n cc) ?_
                              refine lv_iload hx hb d_M_worth_255 (lv_at hl 1 rfl) ?_
                              refine lv_iadd hx hb d_M_worth_257 ?_
                              refine tp_i (y := nI ((n * cc) + cc)) (nI_add (n * cc) cc) ?_
                              refine va_lald hx hb hK hP 1 1 rfl rfl (vp_in_nI (n := (n * cc) + cc) (by omega) (by omega)) d_M_worth_258 ?_
                              refine tp_l (y := f3 ((n * cc) + cc)) (congrArg f3 (nI_clamp (n := (n * cc) + cc) (by omega))) ?_
                              refine lv_lstore_n (lv' := [(2, .long (f3 ((n * cc) + cc))), (7, .int (nI (cc + 1 + m2))), (5, .int (nI cc)), (4, .int (-sg)), (0, .ref m0), (1, .int (nI n))]) hx hb d_M_worth_259 rfl hl (by decide) rfl (fun ls hl => ?_)
                              refine lv_iinc (lv' := [(5, .int (nI (cc + 1))), (2, .long (f3 ((n * cc) + cc))), (7, .int (nI (cc + 1 + m2))), (4, .int (-sg)), (0, .ref m0), (1, .int (nI n))]) (k := 2) (v := nI (cc + 1)) hx hb d_M_worth_260 hl rfl (nI_add cc 1) (by decide) rfl (fun ls hl => ?_)
                              refine lv_goto (tgt := 8) hx hb d_M_worth_263 (by decide) ?_
                              exact ih_8 _ (by omega) (cc + 1) f3 (f3 ((n * cc) + cc)) (-sg) ls H locs rfl (hwt.trans (wth_s hcn hpv hpn hpc hsw9 hbk)) (by omega) hbf9 (lv_sub hl [0, 3, 1, 4, 5] rfl) (hP.sub [0, 1] rfl) (hD.sub [0, 1] (by decide) rfl) hS
                            · have h_10 : ¬ (n ≤ (cc + 1 + m2)) := fun z99 => h_10 ((nI_leI (a := n) (b := cc + 1 + m2) (by omega) (by omega)).mpr z99)
                              refine lv_iload_n hx hb d_M_worth_158 rfl (lv_at hl 5 rfl) ?_
                              refine lv_iconst (v := (1 : Int32)) hx hb d_M_worth_159 (by decide) ?_
                              refine lv_isub hx hb d_M_worth_160 ?_
                              refine lv_istore (lv' := [(8, .int ((nI n) - (1 : Int32))), (7, .int (nI (cc + 1 + m2))), (5, .int (nI cc)), (4, .int (-sg)), (2, .long bf), (0, .ref m0), (1, .int (nI n))]) hx hb d_M_worth_161 hl (by decide) rfl (fun ls hl => ?_)
                              have lp_163 : ∀ (n9 : Nat) (u : Nat) (f4 : Nat → Int64) (ls : Array Slot) (H : Heap) (locs : List Loc), u = n9 → (brd n (cc + 1 + m2) cc bf n f3 = brd n (cc + 1 + m2) cc bf u f4) → (u ≤ n) → lv_has ls 10 [(8, .int (nI u - (1 : Int32))), (7, .int (nI (cc + 1 + m2))), (5, .int (nI cc)), (4, .int (-sg)), (2, .long bf), (0, .ref m0), (1, .int (nI n))] → va_P D kl [(m0, .inr (7, [.int th, .int zz, .int rn, .ref rw, .int kn, .int rk, .int y1, .ref ry, .int sp, .int lg, .ref ti, .int fo, .int pt, .ref po, .ref su, .ref sq, .ref ch, .ref vt, .ref sh])), (sq, .inl (cJ, 256, .inr (.inl f4)))] H → va_D A [(m0, .inr (7, [.int th, .int zz, .int rn, .ref rw, .int kn, .int rk, .int y1, .ref ry, .int sp, .int lg, .ref ti, .int fo, .int pt, .ref po, .ref su, .ref sq, .ref ch, .ref vt, .ref sh])), (sq, .inl (cJ, 256, .inr (.inl f4)))] → va_S A s.heap H locs → W p l e ({ frames := 0, cells := 0, slots := 0, locals := 0 } : Room) s m ([.ref m0, .int (nI n)] : List Value).toArray below meth c H locs 0 0 Q (F0 m 163 ls []) := by
                                intro n9
                                induction n9 using Nat.strongRecOn with
                                | ind n9 ih_163 =>
                                  intro u f4 ls H locs hm_163 hbd hu9 hl hP hD hS
                                  rcases Nat.eq_zero_or_pos u with hup | hup
                                  · rw [show nI u - (1 : Int32) = (-1 : Int32) by rw [hup]; decide] at hl
                                    refine lv_iload hx hb d_M_worth_163 (lv_at hl 0 rfl) ?_
                                    refine lv_iload hx hb d_M_worth_165 (lv_at hl 2 rfl) ?_
                                    refine lv_icmp_lt (tgt := 241) hx hb d_M_worth_167 (by decide) (fun _ => ?_) (fun h99 => absurd h99 (not_not_intro (m1_lt (n := cc) (by omega))))
                                    refine lv_iinc (lv' := [(7, .int (nI ((cc + 1 + m2) + 1))), (8, .int (-1 : Int32)), (5, .int (nI cc)), (4, .int (-sg)), (2, .long bf), (0, .ref m0), (1, .int (nI n))]) (k := 1) (v := nI ((cc + 1 + m2) + 1)) hx hb d_M_worth_241 hl rfl (nI_add (cc + 1 + m2) 1) (by decide) rfl (fun ls hl => ?_)
                                    refine lv_goto (tgt := 152) hx hb d_M_worth_244 (by decide) ?_
                                    exact ih_152 _ (by omega) (m2 + 1) f4 ls H locs rfl (brk_s hbk (hbd.trans (brd_e (by omega)))) (by omega) (lv_sub hl [0, 2, 3, 4, 5, 6] rfl) (hP.sub [0, 1] rfl) (hD.sub [0, 1] (by decide) rfl) hS
                                  · rw [show nI u - (1 : Int32) = nI (u - 1) from nI_sub (a := u) (b := 1) hup] at hl
                                    refine lv_iload hx hb d_M_worth_163 (lv_at hl 0 rfl) ?_
                                    refine lv_iload hx hb d_M_worth_165 (lv_at hl 2 rfl) ?_
                                    refine lv_icmp_lt (tgt := 241) hx hb d_M_worth_167 (by decide) (fun h_11 => ?_) (fun h_11 => ?_)
                                    · have h_11 : (u - 1) < cc := (nI_ltI (a := u - 1) (b := cc) (by omega) (by omega)).mp h_11
                                      refine lv_iinc (lv' := [(7, .int (nI ((cc + 1 + m2) + 1))), (8, .int (nI (u - 1))), (5, .int (nI cc)), (4, .int (-sg)), (2, .long bf), (0, .ref m0), (1, .int (nI n))]) (k := 1) (v := nI ((cc + 1 + m2) + 1)) hx hb d_M_worth_241 hl rfl (nI_add (cc + 1 + m2) 1) (by decide) rfl (fun ls hl => ?_)
                                      refine lv_goto (tgt := 152) hx hb d_M_worth_244 (by decide) ?_
                                      exact ih_152 _ (by omega) (m2 + 1) f4 ls H locs rfl (brk_s hbk (hbd.trans (brd_e (by omega)))) (by omega) (lv_sub hl [0, 2, 3, 4, 5, 6] rfl) (hP.sub [0, 1] rfl) (hD.sub [0, 1] (by decide) rfl) hS
                                    · have h_11 : ¬ ((u - 1) < cc) := fun z99 => h_11 ((nI_ltI (a := u - 1) (b := cc) (by omega) (by omega)).mpr z99)
                                      have hx170_0 := hix (cc + 1 + m2) (u - 1) (by omega) (by omega)
                                      have hx170_1 := hix cc cc (by omega) (by omega)
                                      have hx170_2 := hix cc (u - 1) (by omega) (by omega)
                                      have hx170_3 := hix (cc + 1 + m2) cc (by omega) (by omega)
                                      refine lv_aload_n hx hb d_M_worth_170 rfl (lv_at hl 5 rfl) ?_
                                      refine va_get (D := D) (ci := 7) (v := .ref sq) (C := cn_M) (T := ft_M) (N := 19) hx hb hf_M (fun _ h => h) hown hK hP 0 rfl rfl 15 (by decide) (gw.at G hx0 mw_728 rfl _) (fun _ h9 => h9) rfl d_M_worth_171 ?_
                                      refine lv_iload_n hx hb d_M_worth_174 rfl (lv_at hl 6 rfl) ?_
                                      refine lv_iload hx hb d_M_worth_175 (lv_at hl 1 rfl) ?_
                                      refine lv_imul hx hb d_M_worth_177 ?_
                                      refine tp_i (y := nI (n * (cc + 1 + m2))) (nI_mul n (cc + 1 + m2)) ?_
                                      refine lv_iload hx hb d_M_worth_178 (lv_at hl 0 rfl) ?_
                                      refine lv_iadd hx hb d_M_worth_180 ?_
                                      refine tp_i (y := nI ((n * (cc + 1 + m2)) + (u - 1))) (nI_add (n * (cc + 1 + m2)) (u - 1)) ?_
                                      refine lv_aload_n hx hb d_M_worth_181 rfl (lv_at hl 5 rfl) ?_
                                      refine va_get (D := D) (ci := 7) (v := .ref sq) (C := cn_M) (T := ft_M) (N := 19) hx hb hf_M (fun _ h => h) hown hK hP 0 rfl rfl 15 (by decide) (gw.at G hx0 mw_728 rfl _) (fun _ h9 => h9) rfl d_M_worth_182 ?_
                                      refine lv_iload_n hx hb d_M_worth_185 rfl (lv_at hl 6 rfl) ?_
                                      refine lv_iload hx hb d_M_worth_186 (lv_at hl 1 rfl) ?_
                                      refine lv_imul hx hb d_M_worth_188 ?_
                                      refine tp_i (y := nI (n * (cc + 1 + m2))) (nI_mul n (cc + 1 + m2)) ?_
                                      refine lv_iload hx hb d_M_worth_189 (lv_at hl 0 rfl) ?_
                                      refine lv_iadd hx hb d_M_worth_191 ?_
                                      refine tp_i (y := nI ((n * (cc + 1 + m2)) + (u - 1))) (nI_add (n * (cc + 1 + m2)) (u - 1)) ?_
                                      refine va_lald hx hb hK hP 1 1 rfl rfl (vp_in_nI (n := (n * (cc + 1 + m2)) + (u - 1)) (by omega) (by omega)) d_M_worth_192 ?_
                                      refine tp_l (y := f4 ((n * (cc + 1 + m2)) + (u - 1))) (congrArg f4 (nI_clamp (n := (n * (cc + 1 + m2)) + (u - 1)) (by omega))) ?_
                                      refine lv_aload_n hx hb d_M_worth_193 rfl (lv_at hl 5 rfl) ?_
                                      refine va_get (D := D) (ci := 7) (v := .ref sq) (C := cn_M) (T := ft_M) (N := 19) hx hb hf_M (fun _ h => h) hown hK hP 0 rfl rfl 15 (by decide) (gw.at G hx0 mw_728 rfl _) (fun _ h9 => h9) rfl d_M_worth_194 ?_
                                      refine lv_iload_n hx hb d_M_worth_197 rfl (lv_at hl 6 rfl) ?_
                                      refine lv_iload hx hb d_M_worth_198 (lv_at hl 2 rfl) ?_
                                      refine lv_imul hx hb d_M_worth_200 ?_
                                      refine tp_i (y := nI (n * cc)) (nI_mul n cc) ?_
                                      refine lv_iload hx hb d_M_worth_201 (lv_at hl 2 rfl) ?_
                                      refine lv_iadd hx hb d_M_worth_203 ?_
                                      refine tp_i (y := nI ((n * cc) + cc)) (nI_add (n * cc) cc) ?_
                                      refine va_lald hx hb hK hP 1 1 rfl rfl (vp_in_nI (n := (n * cc) + cc) (by omega) (by omega)) d_M_worth_204 ?_
                                      refine tp_l (y := f4 ((n * cc) + cc)) (congrArg f4 (nI_clamp (n := (n * cc) + cc) (by omega))) ?_
                                      refine lv_lmul hx hb d_M_worth_205 ?_
                                      refine lv_aload_n hx hb d_M_worth_206 rfl (lv_at hl 5 rfl) ?_
                                      refine va_get (D := D) (ci := 7) (v := .ref sq) (C := cn_M) (T := ft_M) (N := 19) hx hb hf_M (fun _ h => h) hown hK hP 0 rfl rfl 15 (by decide) (gw.at G hx0 mw_728 rfl _) (fun _ h9 => h9) rfl d_M_worth_207 ?_
                                      refine lv_iload_n hx hb d_M_worth_210 rfl (lv_at hl 6 rfl) ?_
                                      refine lv_iload hx hb d_M_worth_211 (lv_at hl 2 rfl) ?_
                                      refine lv_imul hx hb d_M_worth_213 ?_
                                      refine tp_i (y := nI (n * cc)) (nI_mul n cc) ?_
                                      refine lv_iload hx hb d_M_worth_214 (lv_at hl 0 rfl) ?_
                                      refine lv_iadd hx hb d_M_worth_216 ?_
                                      refine tp_i (y := nI ((n * cc) + (u - 1))) (nI_add (n * cc) (u - 1)) ?_
                                      refine va_lald hx hb hK hP 1 1 rfl rfl (vp_in_nI (n := (n * cc) + (u - 1)) (by omega) (by omega)) d_M_worth_217 ?_
                                      refine tp_l (y := f4 ((n * cc) + (u - 1))) (congrArg f4 (nI_clamp (n := (n * cc) + (u - 1)) (by omega))) ?_
                                      refine lv_aload_n hx hb d_M_worth_218 rfl (lv_at hl 5 rfl) ?_
                                      refine va_get (D := D) (ci := 7) (v := .ref sq) (C := cn_M) (T := ft_M) (N := 19) hx hb hf_M (fun _ h => h) hown hK hP 0 rfl rfl 15 (by decide) (gw.at G hx0 mw_728 rfl _) (fun _ h9 => h9) rfl d_M_worth_219 ?_
                                      refine lv_iload_n hx hb d_M_worth_222 rfl (lv_at hl 6 rfl) ?_
                                      refine lv_iload hx hb d_M_worth_223 (lv_at hl 1 rfl) ?_
                                      refine lv_imul hx hb d_M_worth_225 ?_
                                      refine tp_i (y := nI (n * (cc + 1 + m2))) (nI_mul n (cc + 1 + m2)) ?_
                                      refine lv_iload hx hb d_M_worth_226 (lv_at hl 2 rfl) ?_
                                      refine lv_iadd hx hb d_M_worth_228 ?_
                                      refine tp_i (y := nI ((n * (cc + 1 + m2)) + cc)) (nI_add (n * (cc + 1 + m2)) cc) ?_
                                      refine va_lald hx hb hK hP 1 1 rfl rfl (vp_in_nI (n := (n * (cc + 1 + m2)) + cc) (by omega) (by omega)) d_M_worth_229 ?_
                                      refine tp_l (y := f4 ((n * (cc + 1 + m2)) + cc)) (congrArg f4 (nI_clamp (n := (n * (cc + 1 + m2)) + cc) (by omega))) ?_
                                      refine lv_lmul hx hb d_M_worth_230 ?_
                                      refine lv_lsub hx hb d_M_worth_231 ?_
                                      refine lv_lload_n hx hb d_M_worth_232 rfl (lv_at hl 4 rfl) ?_
                                      refine lv_ldiv hx hb d_M_worth_233 hbf ?_
                                      refine va_last hx hb hK hP hD hS 1 1 rfl rfl (vp_in_nI (n := (n * (cc + 1 + m2)) + (u - 1)) (by omega) (by omega)) d_M_worth_234 (fun H locs hP hD hS => ?_)
                                      rw [nI_clamp (n := (n * (cc + 1 + m2)) + (u - 1)) (by omega)] at hP hD
                                      have hP : va_P D kl [(m0, .inr (7, [.int th, .int zz, .int rn, .ref rw, .int kn, .int rk, .int y1, .ref ry, .int sp, .int lg, .ref ti, .int fo, .int pt, .ref po, .ref su, .ref sq, .ref ch, .ref vt, .ref sh])), (sq, .inl (cJ, 256, .inr (.inl (vp_updL f4 ((n * (cc + 1 + m2)) + (u - 1)) ((((f4 ((n * (cc + 1 + m2)) + (u - 1))) * (f4 ((n * cc) + cc))) - ((f4 ((n * cc) + (u - 1))) * (f4 ((n * (cc + 1 + m2)) + cc)))) / bf)))))] H := hP
                                      have hD : va_D A [(m0, .inr (7, [.int th, .int zz, .int rn, .ref rw, .int kn, .int rk, .int y1, .ref ry, .int sp, .int lg, .ref ti, .int fo, .int pt, .ref po, .ref su, .ref sq, .ref ch, .ref vt, .ref sh])), (sq, .inl (cJ, 256, .inr (.inl (vp_updL f4 ((n * (cc + 1 + m2)) + (u - 1)) ((((f4 ((n * (cc + 1 + m2)) + (u - 1))) * (f4 ((n * cc) + cc))) - ((f4 ((n * cc) + (u - 1))) * (f4 ((n * (cc + 1 + m2)) + cc)))) / bf)))))] := hD
                                      refine lv_iinc (lv' := [(8, .int (nI (u - 1) - (1 : Int32))), (7, .int (nI (cc + 1 + m2))), (5, .int (nI cc)), (4, .int (-sg)), (2, .long bf), (0, .ref m0), (1, .int (nI n))]) (k := 0) (v := nI (u - 1) - (1 : Int32)) hx hb d_M_worth_235 hl rfl (by rw [Int32.sub_eq_add_neg]; rfl) (by decide) rfl (fun ls hl => ?_)
                                      refine lv_goto (tgt := 163) hx hb d_M_worth_238 (by decide) ?_
                                      exact ih_163 _ (by omega) (u - 1) (vp_updL f4 ((n * (cc + 1 + m2)) + (u - 1)) ((((f4 ((n * (cc + 1 + m2)) + (u - 1))) * (f4 ((n * cc) + cc))) - ((f4 ((n * cc) + (u - 1))) * (f4 ((n * (cc + 1 + m2)) + cc)))) / bf)) ls H locs rfl (hbd.trans (brd_s hup (by omega))) (by omega) (lv_sub hl [0, 1, 2, 3, 4, 5, 6] rfl) (hP.sub [0, 1] rfl) (hD.sub [0, 1] (by decide) rfl) hS
                              exact lp_163 _ n f3 ls H locs rfl rfl (Nat.le_refl _) (lv_sub hl [0, 1, 2, 3, 4, 5, 6] rfl) (hP.sub [0, 1] rfl) (hD.sub [0, 1] (by decide) rfl) hS
                        exact lp_152 _ 0 f2 ls H locs rfl rfl (by omega) (lv_sub hl [0, 3, 1, 4, 5, 6] rfl) (hP.sub [0, 1] rfl) (hD.sub [0, 1] (by decide) rfl) hS
                      · have h_9 : ¬ (n ≤ i) := fun z99 => h_9 ((nI_leI (a := n) (b := i) (by omega) (by omega)).mpr z99)
                        refine lv_iload hx hb d_M_worth_64 (lv_at hl 1 rfl) ?_
                        refine lv_iload hx hb d_M_worth_66 (lv_at hl 2 rfl) ?_
                        refine lv_icmp_eq (tgt := 129) hx hb d_M_worth_68 (by decide) (fun h99 => absurd h99 (fun z99 => absurd ((nI_eq (a := p1) (b := cc) (by omega) (by omega)).mp z99) (by omega))) (fun _ => ?_)
                        have hx71_0 := hix p1 i (by omega) (by omega)
                        have hx71_1 := hix cc i (by omega) (by omega)
                        refine lv_aload_n hx hb d_M_worth_71 rfl (lv_at hl 5 rfl) ?_
                        refine va_get (D := D) (ci := 7) (v := .ref sq) (C := cn_M) (T := ft_M) (N := 19) hx hb hf_M (fun _ h => h) hown hK hP 0 rfl rfl 15 (by decide) (gw.at G hx0 mw_728 rfl _) (fun _ h9 => h9) rfl d_M_worth_72 ?_
                        refine lv_iload_n hx hb d_M_worth_75 rfl (lv_at hl 6 rfl) ?_
                        refine lv_iload hx hb d_M_worth_76 (lv_at hl 1 rfl) ?_
                        refine lv_imul hx hb d_M_worth_78 ?_
                        refine tp_i (y := nI (n * p1)) (nI_mul n p1) ?_
                        refine lv_iload hx hb d_M_worth_79 (lv_at hl 0 rfl) ?_
                        refine lv_iadd hx hb d_M_worth_81 ?_
                        refine tp_i (y := nI ((n * p1) + i)) (nI_add (n * p1) i) ?_
                        refine va_lald hx hb hK hP 1 1 rfl rfl (vp_in_nI (n := (n * p1) + i) (by omega) (by omega)) d_M_worth_82 ?_
                        refine tp_l (y := f2 ((n * p1) + i)) (congrArg f2 (nI_clamp (n := (n * p1) + i) (by omega))) ?_
                        refine lv_lstore (lv' := [(8, .long (f2 ((n * p1) + i))), (7, .int (nI i)), (6, .int (nI p1)), (5, .int (nI cc)), (4, .int sg), (2, .long bf), (0, .ref m0), (1, .int (nI n))]) hx hb d_M_worth_83 hl (by decide) rfl (fun ls hl => ?_)
                        refine lv_aload_n hx hb d_M_worth_85 rfl (lv_at hl 6 rfl) ?_
                        refine va_get (D := D) (ci := 7) (v := .ref sq) (C := cn_M) (T := ft_M) (N := 19) hx hb hf_M (fun _ h => h) hown hK hP 0 rfl rfl 15 (by decide) (gw.at G hx0 mw_728 rfl _) (fun _ h9 => h9) rfl d_M_worth_86 ?_
                        refine lv_iload_n hx hb d_M_worth_89 rfl (lv_at hl 7 rfl) ?_
                        refine lv_iload hx hb d_M_worth_90 (lv_at hl 2 rfl) ?_
                        refine lv_imul hx hb d_M_worth_92 ?_
                        refine tp_i (y := nI (n * p1)) (nI_mul n p1) ?_
                        refine lv_iload hx hb d_M_worth_93 (lv_at hl 1 rfl) ?_
                        refine lv_iadd hx hb d_M_worth_95 ?_
                        refine tp_i (y := nI ((n * p1) + i)) (nI_add (n * p1) i) ?_
                        refine lv_aload_n hx hb d_M_worth_96 rfl (lv_at hl 6 rfl) ?_
                        refine va_get (D := D) (ci := 7) (v := .ref sq) (C := cn_M) (T := ft_M) (N := 19) hx hb hf_M (fun _ h => h) hown hK hP 0 rfl rfl 15 (by decide) (gw.at G hx0 mw_728 rfl _) (fun _ h9 => h9) rfl d_M_worth_97 ?_
                        refine lv_iload_n hx hb d_M_worth_100 rfl (lv_at hl 7 rfl) ?_
                        refine lv_iload hx hb d_M_worth_101 (lv_at hl 3 rfl) ?_
                        refine lv_imul hx hb d_M_worth_103 ?_
                        refine tp_i (y := nI (n * cc)) (nI_mul n cc) ?_
                        refine lv_iload hx hb d_M_worth_104 (lv_at hl 1 rfl) ?_
                        refine lv_iadd hx hb d_M_worth_106 ?_
                        refine tp_i (y := nI ((n * cc) + i)) (nI_add (n * cc) i) ?_
                        refine va_lald hx hb hK hP 1 1 rfl rfl (vp_in_nI (n := (n * cc) + i) (by omega) (by omega)) d_M_worth_107 ?_
                        refine tp_l (y := f2 ((n * cc) + i)) (congrArg f2 (nI_clamp (n := (n * cc) + i) (by omega))) ?_
                        refine va_last hx hb hK hP hD hS 1 1 rfl rfl (vp_in_nI (n := (n * p1) + i) (by omega) (by omega)) d_M_worth_108 (fun H locs hP hD hS => ?_)
                        rw [nI_clamp (n := (n * p1) + i) (by omega)] at hP hD
                        have hP : va_P D kl [(m0, .inr (7, [.int th, .int zz, .int rn, .ref rw, .int kn, .int rk, .int y1, .ref ry, .int sp, .int lg, .ref ti, .int fo, .int pt, .ref po, .ref su, .ref sq, .ref ch, .ref vt, .ref sh])), (sq, .inl (cJ, 256, .inr (.inl (vp_updL f2 ((n * p1) + i) (f2 ((n * cc) + i))))))] H := hP
                        have hD : va_D A [(m0, .inr (7, [.int th, .int zz, .int rn, .ref rw, .int kn, .int rk, .int y1, .ref ry, .int sp, .int lg, .ref ti, .int fo, .int pt, .ref po, .ref su, .ref sq, .ref ch, .ref vt, .ref sh])), (sq, .inl (cJ, 256, .inr (.inl (vp_updL f2 ((n * p1) + i) (f2 ((n * cc) + i))))))] := hD
                        refine lv_aload_n hx hb d_M_worth_109 rfl (lv_at hl 6 rfl) ?_
                        refine va_get (D := D) (ci := 7) (v := .ref sq) (C := cn_M) (T := ft_M) (N := 19) hx hb hf_M (fun _ h => h) hown hK hP 0 rfl rfl 15 (by decide) (gw.at G hx0 mw_728 rfl _) (fun _ h9 => h9) rfl d_M_worth_110 ?_
                        refine lv_iload_n hx hb d_M_worth_113 rfl (lv_at hl 7 rfl) ?_
                        refine lv_iload hx hb d_M_worth_114 (lv_at hl 3 rfl) ?_
                        refine lv_imul hx hb d_M_worth_116 ?_
                        refine tp_i (y := nI (n * cc)) (nI_mul n cc) ?_
                        refine lv_iload hx hb d_M_worth_117 (lv_at hl 1 rfl) ?_
                        refine lv_iadd hx hb d_M_worth_119 ?_
                        refine tp_i (y := nI ((n * cc) + i)) (nI_add (n * cc) i) ?_
                        refine lv_lload hx hb d_M_worth_120 (lv_at hl 0 rfl) ?_
                        refine va_last hx hb hK hP hD hS 1 1 rfl rfl (vp_in_nI (n := (n * cc) + i) (by omega) (by omega)) d_M_worth_122 (fun H locs hP hD hS => ?_)
                        rw [nI_clamp (n := (n * cc) + i) (by omega)] at hP hD
                        have hP : va_P D kl [(m0, .inr (7, [.int th, .int zz, .int rn, .ref rw, .int kn, .int rk, .int y1, .ref ry, .int sp, .int lg, .ref ti, .int fo, .int pt, .ref po, .ref su, .ref sq, .ref ch, .ref vt, .ref sh])), (sq, .inl (cJ, 256, .inr (.inl (vp_updL (vp_updL f2 ((n * p1) + i) (f2 ((n * cc) + i))) ((n * cc) + i) (f2 ((n * p1) + i))))))] H := hP
                        have hD : va_D A [(m0, .inr (7, [.int th, .int zz, .int rn, .ref rw, .int kn, .int rk, .int y1, .ref ry, .int sp, .int lg, .ref ti, .int fo, .int pt, .ref po, .ref su, .ref sq, .ref ch, .ref vt, .ref sh])), (sq, .inl (cJ, 256, .inr (.inl (vp_updL (vp_updL f2 ((n * p1) + i) (f2 ((n * cc) + i))) ((n * cc) + i) (f2 ((n * p1) + i))))))] := hD
                        refine lv_iinc (lv' := [(7, .int (nI (i + 1))), (8, .long (f2 ((n * p1) + i))), (6, .int (nI p1)), (5, .int (nI cc)), (4, .int sg), (2, .long bf), (0, .ref m0), (1, .int (nI n))]) (k := 1) (v := nI (i + 1)) hx hb d_M_worth_123 hl rfl (nI_add i 1) (by decide) rfl (fun ls hl => ?_)
                        refine lv_goto (tgt := 58) hx hb d_M_worth_126 (by decide) ?_
                        exact ih_58 _ (by omega) (i + 1) (vp_updL (vp_updL f2 ((n * p1) + i) (f2 ((n * cc) + i))) ((n * cc) + i) (f2 ((n * p1) + i))) ls H locs rfl (sw2_s hsw) (by omega) (fun z9 => absurd z9 hpc) (lv_sub hl [0, 2, 3, 4, 5, 6, 7] rfl) (hP.sub [0, 1] rfl) (hD.sub [0, 1] (by decide) rfl) hS
                  exact lp_58 _ 0 f1 ls H locs rfl rfl (Nat.zero_le _) (fun _ => rfl) (lv_sub hl [0, 1, 2, 3, 4, 5, 6] rfl) (hP.sub [0, 1] rfl) (hD.sub [0, 1] (by decide) rfl) hS
              · refine lv_iinc (lv' := [(6, .int (nI (p1 + 1))), (5, .int (nI cc)), (4, .int sg), (2, .long bf), (0, .ref m0), (1, .int (nI n))]) (k := 0) (v := nI (p1 + 1)) hx hb d_M_worth_41 hl rfl (nI_add p1 1) (by decide) rfl (fun ls hl => ?_)
                refine lv_goto (tgt := 18) hx hb d_M_worth_44 (by decide) ?_
                exact ih_18 _ (by omega) (p1 + 1) ls H locs rfl (hpe.trans (pv2_s (by omega) (lgz.mp h_3))) (by omega) (by omega) (lv_sub hl [0, 1, 2, 3, 4, 5] rfl) (hP.sub [0, 1] rfl) (hD.sub [0, 1] (by decide) rfl) hS
        exact lp_18 _ cc ls H locs rfl rfl (by omega) (Nat.le_refl _) (lv_sub hl [0, 1, 2, 3, 4, 5] rfl) (hP.sub [0, 1] rfl) (hD.sub [0, 1] (by decide) rfl) hS
  exact lp_8 _ 0 qf 1 1 ls s.heap [] rfl rfl (Nat.zero_le _) (by decide) (lv_sub hl [0, 1, 2, 3, 4] rfl) (hP.sub [0, 1] rfl) (hD.sub [0, 1] (by decide) rfl) hS

