/-! ===== own rows: class and reference, 34 ===== -/
-- sums over the rays of a set
theorem isum_Jn {ch : Nat} {f : Nat → Int} : ∀ N, (∀ j, j < N → ¬ ch.testBit j = true → f j = 0) → isum f N = isum (fun l => f (Jn ch N l)) (mny ch N)
  | 0, _ => rfl
  | N + 1, h => by
    have ih := isum_Jn (ch := ch) (f := f) N (fun j hj => h j (by omega))
    by_cases e : (ch / 2 ^ N) % 2 = 1
    · rw [Jn_y e, mny_y e]
      show isum f N + f N = isum (fun l => f (updN (Jn ch N) (mny ch N) N l)) (mny ch N) + f (updN (Jn ch N) (mny ch N) N (mny ch N))
      have e1 : updN (Jn ch N) (mny ch N) N (mny ch N) = N := by unfold updN; rw [if_pos rfl]
      rw [e1, ih]
      have e2 : isum (fun l => f (updN (Jn ch N) (mny ch N) N l)) (mny ch N) = isum (fun l => f (Jn ch N l)) (mny ch N) := isum_congr _ (fun l hl => by
        show f (updN (Jn ch N) (mny ch N) N l) = f (Jn ch N l)
        unfold updN; rw [if_neg (by omega)])
      rw [e2]
    · rw [Jn_n e, mny_n e]
      show isum f N + f N = _
      rw [ih, h N (by omega) (fun z => e (tb_iff.mp z))]; omega
theorem mny_Jn {ch : Nat} : ∀ N l, l < mny ch N → mny ch (Jn ch N l) = l
  | 0, l, h => absurd h (Nat.not_lt_zero l)
  | N + 1, l, h => by
    by_cases e : (ch / 2 ^ N) % 2 = 1
    · rw [mny_y e] at h
      rw [Jn_y e]
      by_cases z : l = mny ch N
      · have e1 : updN (Jn ch N) (mny ch N) N l = N := by unfold updN; rw [if_pos z]
        rw [e1, z]
      · have e1 : updN (Jn ch N) (mny ch N) N l = Jn ch N l := by unfold updN; rw [if_neg z]
        rw [e1]; exact mny_Jn N l (by omega)
    · rw [mny_n e] at h
      rw [Jn_n e]; exact mny_Jn N l h
theorem mny_z : ∀ n, mny 0 n = 0
  | 0 => rfl
  | n + 1 => by rw [mny_n (by rw [Nat.zero_div]; decide)]; exact mny_z n
theorem mny_or {c v : Nat} (h : ¬ c.testBit v = true) (n : Nat) : mny (c ||| 2 ^ v) n = mny c n + if v < n then 1 else 0 := by
  have e : (c ||| 2 ^ v) ^^^ ((c ||| 2 ^ v) &&& 2 ^ v) = c := by
    refine Nat.eq_of_testBit_eq (fun j => ?_)
    rw [Bool.eq_iff_iff, del_bit, bit_or]
    constructor
    · rintro ⟨a | a, b⟩
      · exact a
      · exact absurd a b
    · intro a
      exact ⟨Or.inl a, fun z => h (by rw [← z]; exact a)⟩
  have := mny_del (ch := c ||| 2 ^ v) (e := v) (bit_or.mpr (Or.inr rfl)) n
  rw [e] at this; exact this
/-- a cut has as many rays as it is deep -/
theorem RC.cnt {n N al : Nat} {W V : Nat → Nat → Int} (h : CX n W N V) (hal : ∀ j, al.testBit j = true → j < N) : ∀ (d G ch : Nat), RC n W N V al d G ch → mny ch N = d
  | 0, G, ch, r => by
    obtain ⟨-, e⟩ := r
    rw [e]; exact mny_z N
  | d + 1, H, ch, r => by
    obtain ⟨G, c0, v, rc, fv, -, e⟩ := r
    obtain ⟨i1, i2, -⟩ := RC.ind h hal d G c0 rc
    rw [e, mny_or (fun z => (i2 v z).2 fv.1), RC.cnt h hal d G c0 rc, if_pos (i1 v fv.1)]
/-- its rays are independent -/
theorem RC.free {n N al : Nat} {W V : Nat → Nat → Int} (h : CX n W N V) (hal : ∀ j, al.testBit j = true → j < N) {d G ch : Nat} (r : RC n W N V al d G ch) : Ind (mny ch N) (fun l => V (Jn ch N l)) := by
  obtain ⟨-, i2, i3⟩ := RC.ind h hal d G ch r
  intro y hy l hl
  have key := i3 (fun j => if ch.testBit j = true then y (mny ch j) else 0) (fun _ => 0) (fun j _ hb => if_neg hb) (Sp.zero (fun _ _ => rfl)) (fun i hi => by
    have hz : ∀ j, j < N → ¬ ch.testBit j = true → (if ch.testBit j = true then y (mny ch j) else 0) * V j i = 0 := fun j _ hb => by rw [if_neg hb, Int.zero_mul]
    rw [isum_Jn N hz, Int.add_zero]
    have e : isum (fun l => (if ch.testBit (Jn ch N l) = true then y (mny ch (Jn ch N l)) else 0) * V (Jn ch N l) i) (mny ch N) = isum (fun l => y l * V (Jn ch N l) i) (mny ch N) := isum_congr _ (fun l hl => by
      show (if ch.testBit (Jn ch N l) = true then y (mny ch (Jn ch N l)) else 0) * V (Jn ch N l) i = _
      rw [if_pos ((Jn_spec N).1 l hl).2, mny_Jn N l hl])
    rw [e]; exact hy i hi) (Jn ch N l) ((Jn_spec N).1 l hl).1
  have key : (if ch.testBit (Jn ch N l) = true then y (mny ch (Jn ch N l)) else 0) = 0 := key
  rw [if_pos ((Jn_spec N).1 l hl).2, mny_Jn N l hl] at key
  exact key
theorem RC.rk {n N al : Nat} {W V : Nat → Nat → Int} (h : CX n W N V) (hal : ∀ j, al.testBit j = true → j < N) {d G ch : Nat} (r : RC n W N V al d G ch) : Rk N V ch d := by
  have hf := r.free h hal
  rw [RC.cnt h hal d G ch r] at hf
  have sp := Jn_spec (x := ch) N
  rw [RC.cnt h hal d G ch r] at sp
  refine ⟨fun l => V (Jn ch N l), hf, fun i hi => ?_, fun k hk => ?_⟩
  · have := Sp.mem (n := N) (t := mV ch V) (sp.1 i hi).1
    rw [mV_y (sp.1 i hi).2] at this; exact this
  · by_cases e : ch.testBit k = true
    · rw [mV_y e]
      obtain ⟨l, l1, l2⟩ := sp.2.2 k hk e
      have := Sp.mem (n := d) (t := fun l => V (Jn ch N l)) l1
      have t : Sp d (fun l => V (Jn ch N l)) (V (Jn ch N l)) := this
      rw [l2] at t; exact t
    · rw [mV_n e]; exact Sp.zero (fun _ _ => rfl)
/-- the class's INDEX of a simplex -/
theorem spx_of {pf yf : Nat → Int32} {yn ch k : Nat} (hf : ∀ i, i < 4 * yn → pf i = yf i) (hb : ∀ c, c < yn → ∀ i, i < 4 → (wr yf c i).natAbs ≤ 649) (hl : (lst pf ch yn).1 = k) (hm : mny ch yn = k) (k4 : k ≤ 4) (h12 : ¬ 12 < cdl (lst pf ch yn).2 (lev (lst pf ch yn).1)) : ∃ D : Nat, 1 ≤ D ∧ D ≤ 12 ∧ GC (D : Int) (mnI (fun l => wr yf (Jn ch yn l)) k) (lev k) ∧ ixv pf yn ch = nI D := by
  obtain ⟨a, b⟩ := lst_mn (x := ch) hf hb (hl.trans hm.symm)
  rw [hm] at a b
  have g := (cdl_gcd50 (f := (lst pf ch yn).2) (ms := lev k) (fun m hm => (a m hm).2)).congr (fun m hm => (a m hm).1)
  rw [hl] at h12
  have h12 : ¬ 12 < (cdl (lst pf ch yn).2 (lev k)).toInt := fun z => h12 (i64_12.mpr z)
  have h0 : ¬ (cdl (lst pf ch yn).2 (lev k)).toInt = 0 := fun z => by
    obtain ⟨m, hm, hz⟩ := b
    have := g.2.1 m hm
    rw [z] at this
    exact hz (Int.zero_dvd.mp this)
  have hp := g.1
  have eD : (((cdl (lst pf ch yn).2 (lev k)).toInt.toNat : Nat) : Int) = (cdl (lst pf ch yn).2 (lev k)).toInt := Int.toNat_of_nonneg hp
  refine ⟨(cdl (lst pf ch yn).2 (lev k)).toInt.toNat, by omega, by omega, by rw [eD]; exact g, ?_⟩
  unfold ixv
  rw [hl]
  apply Int32.toInt_inj.mp
  rw [Int64.toInt_toInt32, nI_toInt (by omega), eD]
  apply Int.bmod_eq_of_le <;> omega
-- all mixes of a simplex
theorem nib_z (m : Nat) : nib 0 m = 0 := by unfold nib; rw [Nat.zero_div]
theorem VMX.zero {R : Nat → Nat → Int} {k D : Nat} (D1 : 1 ≤ D) : VMX R k D 0 := by
  refine ⟨Nat.pow_pos (by decide), fun m _ => by rw [nib_z]; omega, fun m _ => ?_, fun _ => 0, fun i _ => ?_⟩
  · show 0 ≤ ((nib 0 m : Nat) : Int) ∧ ((nib 0 m : Nat) : Int) < D
    rw [nib_z]; omega
  · rw [isum_zero k (fun l _ => by show ((nib 0 l : Nat) : Int) * R l i = 0; rw [nib_z]; exact Int.zero_mul _)]
    exact Int.mul_zero _
/-- a step stands for a whole point -/
theorem VMX.step {R : Nat → Nat → Int} {k D T : Nat} (h1 : 1 ≤ k) (h4 : k ≤ 4) (D1 : 1 ≤ D) (D12 : D ≤ 12) (hD : GC (D : Int) (mnI R k) (lev k)) (hT : T ∈ lev (k - 1)) : VMX R k D (esum (fun m => rst0 R k D T m) k) := by
  have lt : ∀ m, m < k → rst0 R k D T m < 16 := fun m _ => by have := (rst0_lt (R := R) (k := k) (T := T) (m := m) D1).1; omega
  have nb := esum_nib (s := fun m => rst0 R k D T m) k lt
  have dv := nt_div h1 h4 hD.2.1 hT
  refine ⟨esum_lt k lt, fun m hm => by rw [nb m hm]; exact (rst0_lt D1).1, fun m hm => ?_, ?_⟩
  · show 0 ≤ ((nib (esum (fun m => rst0 R k D T m) k) m : Nat) : Int) ∧ ((nib (esum (fun m => rst0 R k D T m) k) m : Nat) : Int) < D
    rw [nb m hm]
    have := (rst0_lt (R := R) (k := k) (T := T) (m := m) D1).1
    show 0 ≤ ((rst0 R k D T m : Nat) : Int) ∧ ((rst0 R k D T m : Nat) : Int) < D
    omega
  · refine ⟨fun i => isum (fun m => NT R k T m * R m i) k / (D : Int) - isum (fun m => (NT R k T m / (D : Int)) * R m i) k, fun i hi => ?_⟩
    have e1 : isum (fun m => ((nib (esum (fun m => rst0 R k D T m) k) m : Nat) : Int) * R m i) k = isum (fun m => NT R k T m * R m i) k + -(D : Int) * isum (fun m => (NT R k T m / (D : Int)) * R m i) k := by
      rw [← isum_mul, ← isum_add]
      refine isum_congr k (fun m hm => ?_)
      show ((nib (esum (fun m => rst0 R k D T m) k) m : Nat) : Int) * R m i = NT R k T m * R m i + -(D : Int) * (NT R k T m / (D : Int) * R m i)
      rw [nb m hm]
      show ((rst0 R k D T m : Nat) : Int) * R m i = _
      rw [(rst0_lt D1).2]
      have := Int.mul_ediv_add_emod (NT R k T m) (D : Int)
      have e : NT R k T m % (D : Int) = NT R k T m - (D : Int) * (NT R k T m / (D : Int)) := by omega
      rw [e]; grind
    rw [e1, Int.mul_sub, Int.mul_ediv_cancel' (dv i hi)]; grind
theorem amx_z {R : Nat → Nat → Int} {k D A : Nat} (D1 : 1 ≤ D) (D12 : D ≤ 12) (h : VMX R k D A) : amx D k A 0 = A := by
  refine nib_ext k (esum_lt k (fun m _ => by
    have := Nat.mod_lt (nib A m + nib 0 m) (show D > 0 by omega)
    show (nib A m + nib 0 m) % D < 16
    omega)) h.1 (fun m hm => ?_)
  rw [amx_nib D1 D12 m hm, nib_z, Nat.add_zero]
  exact Nat.mod_eq_of_lt (h.2.1 m hm)
theorem lev_at : ∀ k, k ≤ 4 → 1 ≤ k → ∀ T ∈ lev (k - 1), ∃ t, t < 16 ∧ csN (k - 1) ≤ t ∧ t < csN k ∧ chN t = T := by
  have h : ∀ k, k < 5 → 1 ≤ k → ∀ T ∈ lev (k - 1), ∃ t, t < 16 ∧ csN (k - 1) ≤ t ∧ t < csN k ∧ chN t = T := by decide +kernel
  exact fun k hk => h k (by omega)
/-- what is closed under the steps has all that they make -/
theorem gen_mix {R : Nat → Nat → Int} {k D n : Nat} {a : Nat → Nat} (D1 : 1 ≤ D) (D12 : D ≤ 12) (h0 : 0 < n) (a0 : a 0 = 0) (hc : ∀ i, i < n → ∀ T ∈ lev (k - 1), ∃ j, j < n ∧ a j = amx D k (a i) (esum (fun m => rst0 R k D T m) k)) : ∀ (ts : List Nat) (s : Nat → Int), (∀ T ∈ ts, T ∈ lev (k - 1)) → GEN (NT R k) k ts s → ∃ j, j < n ∧ ∀ m, m < k → ((nib (a j) m : Nat) : Int) = s m % (D : Int)
  | [], s, _, h => ⟨0, h0, fun m hm => by rw [a0, nib_z, show s m = 0 from h m hm]; rfl⟩
  | T :: ts, s, ht, ⟨u, s', h, e⟩ => by
    obtain ⟨j0, j1, j2⟩ := gen_mix D1 D12 h0 a0 hc ts s' (fun t ht2 => ht t (List.mem_cons_of_mem _ ht2)) h
    have lt : ∀ m, m < k → rst0 R k D T m < 16 := fun m _ => by have := (rst0_lt (R := R) (k := k) (T := T) (m := m) D1).1; omega
    have nb := esum_nib (s := fun m => rst0 R k D T m) k lt
    have step : ∀ w : Nat, ∃ j, j < n ∧ ∀ m, m < k → ((nib (a j) m : Nat) : Int) = ((w : Int) * NT R k T m + s' m) % (D : Int) := by
      intro w
      induction w with
      | zero => exact ⟨j0, j1, fun m hm => by rw [j2 m hm, show ((0 : Nat) : Int) * NT R k T m + s' m = s' m by rw [show ((0 : Nat) : Int) = 0 from rfl, Int.zero_mul]; omega]⟩
      | succ w ih =>
        obtain ⟨j, k1, k2⟩ := ih
        obtain ⟨j', l1, l2⟩ := hc j k1 T (ht T List.mem_cons_self)
        refine ⟨j', l1, fun m hm => ?_⟩
        rw [l2, amx_nib D1 D12 m hm, nb m hm]
        rw [Int.natCast_emod, Int.natCast_add, k2 m hm, (rst0_lt D1).2, ← Int.add_emod]
        congr 1
        rw [Int.natCast_add]; grind
    obtain ⟨j, k1, k2⟩ := step (u % (D : Int)).toNat
    refine ⟨j, k1, fun m hm => ?_⟩
    have hu := Int.emod_nonneg u (show ¬ (D : Int) = 0 by omega)
    rw [k2 m hm, e m hm, Int.toNat_of_nonneg hu]
    have := Int.mul_ediv_add_emod u (D : Int)
    have e2 : u * NT R k T m + s' m = (u % (D : Int) * NT R k T m + s' m) + (D : Int) * (u / (D : Int) * NT R k T m) := by
      have e3 : u % (D : Int) = u - (D : Int) * (u / (D : Int)) := by omega
      rw [e3]; grind
    rw [e2, Int.add_mul_emod_self_left]
/-- the mixes that the class finds: all -/
theorem mxv_all {pf yf sf xf : Nat → Int32} {yn ch k D : Nat} {ek : Nat → Nat} (h : SPX pf yf yn ch k D) (hi : ixv pf yn ch = nI D) : (mbr ch yn (0, ek)).1 = k ∧ (∀ j, j < k → (mbr ch yn (0, ek)).2 j = Jn ch yn j) ∧ ∃ a, VML (fun l => wr yf (Jn ch yn l)) k D (mxv (ixv pf yn ch) pf yn ch ek sf xf).1 (mxv (ixv pf yn ch) pf yn ch ek sf xf).2 a ∧ 0 < (mxv (ixv pf yn ch) pf yn ch ek sf xf).1 ∧ a 0 = 0 ∧ ∀ s, GEN (NT (fun l => wr yf (Jn ch yn l)) k) k (lev (k - 1)) s → ∃ j, j < (mxv (ixv pf yn ch) pf yn ch ek sf xf).1 ∧ ∀ m, m < k → ((nib (a j) m : Nat) : Int) = s m % (D : Int) := by
  obtain ⟨hf, hb, hl, hm, k1, k4, D1, D12, hD⟩ := id h
  obtain ⟨b1, b2⟩ := mbr_val (ch := ch) (ek := ek) yn (by omega)
  rw [hm] at b1 b2
  refine ⟨b1, b2, ?_⟩
  have sv := stp_val (sf := sf) (ek := (mbr ch yn (0, ek)).2) h b2 k (Nat.le_refl k)
  have l16 := p16 k4
  have hB : ∀ t, t < 16 → stp (nI D) pf yn ch (mbr ch yn (0, ek)).2 k (z16 sf) t = nI (if csN (k - 1) ≤ t ∧ t < csN k then esum (fun m => rst0 (fun l => wr yf (Jn ch yn l)) k D (chN t) m) k else 0) ∧ VMX (fun l => wr yf (Jn ch yn l)) k D (if csN (k - 1) ≤ t ∧ t < csN k then esum (fun m => rst0 (fun l => wr yf (Jn ch yn l)) k D (chN t) m) k else 0) := fun t ht => by
    rw [sv t ht]
    by_cases c : csN (k - 1) ≤ t ∧ t < csN k
    · rw [if_pos c, if_pos c]
      refine ⟨rfl, VMX.step k1 k4 D1 D12 hD ?_⟩
      have := chN_lev (j := k - 1) (t := t - csN (k - 1)) (by omega) (by rw [show k - 1 + 1 = k by omega]; omega)
      rw [show csN (k - 1) + (t - csN (k - 1)) = t by omega] at this
      exact this
    · rw [if_neg c, if_neg c]
      exact ⟨rfl, VMX.zero D1⟩
  obtain ⟨a, v, hp, a0, hc⟩ := fmo_has (f0 := upd xf 0 (0 : Int32)) k4 D1 D12 hD hB (by unfold upd; rw [if_pos rfl]) (VMX.zero D1) 12 (Nat.le_refl _)
  have e : mxv (ixv pf yn ch) pf yn ch ek sf xf = fmo (nI D) k (stp (nI D) pf yn ch (mbr ch yn (0, ek)).2 k (z16 sf)) 12 (1, upd xf 0 (0 : Int32)) := by
    unfold mxv; rw [hi, b1]
  rw [e]
  generalize fmo (nI D) k (stp (nI D) pf yn ch (mbr ch yn (0, ek)).2 k (z16 sf)) 12 (1, upd xf 0 (0 : Int32)) = r at *
  refine ⟨a, v, hp, a0, fun s hs => ?_⟩
  have n12 := v.le k4 D1 hD
  refine gen_mix D1 D12 hp a0 (fun i hi T hT => ?_) (lev (k - 1)) s (fun _ h => h) hs
  obtain ⟨t, t1, t2, t3, t4⟩ := lev_at k k4 k1 T hT
  obtain ⟨q1, q2⟩ := hB t t1
  rw [if_pos ⟨t2, t3⟩, t4] at q1 q2
  by_cases z : stp (nI D) pf yn ch (mbr ch yn (0, ek)).2 k (z16 sf) t = 0
  · refine ⟨i, hi, ?_⟩
    rw [z] at q1
    have l := q2.1
    have : (0 : Nat) = esum (fun m => rst0 (fun l => wr yf (Jn ch yn l)) k D T m) k := nI_inj (by decide) (by omega) q1
    rw [← this]; exact (amx_z D1 D12 (v.1 i hi).2).symm
  · have := hc i (by omega) hi t t1 z
    rw [if_pos ⟨t2, t3⟩, t4] at this; exact this
-- the inner points of the class
theorem fsum_val {pf yf : Nat → Int32} {yn ch k D A i : Nat} {ek : Nat → Nat} (h : SPX pf yf yn ch k D) (he : ∀ j, j < k → ek j = Jn ch yn j) (hA : VMX (fun l => wr yf (Jn ch yn l)) k D A) (hi : i < 4) : ∀ q, q ≤ k → (fsum (nI A) ek pf i q).toInt = isum (fun m => ((nib A m : Nat) : Int) * wr yf (Jn ch yn m) i) q ∧ (isum (fun m => ((nib A m : Nat) : Int) * wr yf (Jn ch yn m) i) q).natAbs ≤ (D - 1) * 649 * q
  | 0, _ => ⟨by show (0 : Int32).toInt = 0; decide, Nat.zero_le _⟩
  | q + 1, hq => by
    obtain ⟨ih1, ih2⟩ := fsum_val (i := i) h he hA hi q (by omega)
    obtain ⟨hf, hb, hl, hm, k1, k4, D1, D12, hD⟩ := h
    have sp := (Jn_spec (x := ch) yn).1 q (by omega)
    have l16 := p16 k4
    have lA := hA.1
    have n1 := hA.2.1 q (by omega)
    have w := hb _ sp.1 i hi
    have m1 : (((nib A q : Nat) : Int) * wr yf (Jn ch yn q) i).natAbs ≤ (D - 1) * 649 := abs_mul (by omega) w
    have m2 : (D - 1) * 649 ≤ 11 * 649 := Nat.mul_le_mul_right _ (by omega)
    have m3 : (D - 1) * 649 * q ≤ 11 * 649 * 4 := Nat.mul_le_mul m2 (by omega)
    have ey : pf (ek q * 4 + i) = yf (4 * Jn ch yn q + i) := by rw [he q (by omega), show Jn ch yn q * 4 + i = 4 * Jn ch yn q + i by omega]; exact hf _ (by omega)
    have et : (nI A >>> (nI (q * 4) &&& 31) &&& 15) = nI (nib A q) := by rw [show q * 4 = 4 * q by omega]; exact nib_I (by omega) (by omega)
    have e1 : (nI (nib A q) * yf (4 * Jn ch yn q + i)).toInt = ((nib A q : Nat) : Int) * wr yf (Jn ch yn q) i := by
      rw [Int32.toInt_mul, nI_toInt (by omega)]
      show (((nib A q : Nat) : Int) * wr yf (Jn ch yn q) i).bmod (2 ^ 32) = _
      apply Int.bmod_eq_of_le <;> omega
    show (fsum (nI A) ek pf i q + (nI A >>> (nI (q * 4) &&& 31) &&& 15) * pf (ek q * 4 + i)).toInt = isum (fun m => ((nib A m : Nat) : Int) * wr yf (Jn ch yn m) i) q + ((nib A q : Nat) : Int) * wr yf (Jn ch yn q) i ∧ (isum (fun m => ((nib A m : Nat) : Int) * wr yf (Jn ch yn m) i) q + ((nib A q : Nat) : Int) * wr yf (Jn ch yn q) i).natAbs ≤ (D - 1) * 649 * (q + 1)
    rw [et, ey, Nat.mul_succ]
    refine ⟨?_, by omega⟩
    rw [Int32.toInt_add, ih1, e1]
    apply Int.bmod_eq_of_le <;> omega
theorem filI_at {ix mix : Int32} {mc : Nat} {ek : Nat → Nat} {yf ig : Nat → Int32} : ∀ i, i < 4 → filI ix mc ek yf mix ig i = fsum mix ek yf i mc / ix := fun i hi => by
  unfold filI upd
  rcases (show i = 0 ∨ i = 1 ∨ i = 2 ∨ i = 3 by omega) with rfl | rfl | rfl | rfl <;> simp
/-- a mix as a point -/
theorem filI_val {pf yf ig : Nat → Int32} {yn ch k D A : Nat} {ek : Nat → Nat} (h : SPX pf yf yn ch k D) (he : ∀ j, j < k → ek j = Jn ch yn j) (hA : VMX (fun l => wr yf (Jn ch yn l)) k D A) : ∀ i, i < 4 → (D : Int) * vI (filI (nI D) k ek pf (nI A) ig) i = isum (fun m => ((nib A m : Nat) : Int) * wr yf (Jn ch yn m) i) k ∧ (vI (filI (nI D) k ek pf (nI A) ig) i).natAbs ≤ 20000 := by
  intro i hi
  obtain ⟨a1, a2⟩ := fsum_val (i := i) h he hA hi k (Nat.le_refl k)
  obtain ⟨-, -, -, -, k1, k4, D1, D12, -⟩ := h
  obtain ⟨-, -, -, x, hx⟩ := hA
  have hx := hx i hi
  have hx : (D : Int) * x i = isum (fun m => ((nib A m : Nat) : Int) * wr yf (Jn ch yn m) i) k := hx
  have m2 : (D - 1) * 649 ≤ D * 649 := Nat.mul_le_mul_right _ (by omega)
  have m3 : (D - 1) * 649 * k ≤ D * 649 * 4 := Nat.mul_le_mul m2 k4
  have m4 : D * 649 * 4 = D * 2596 := by omega
  have b1 : D * (x i).natAbs ≤ D * 2596 := by
    have : ((D : Int) * x i).natAbs = D * (x i).natAbs := by rw [Int.natAbs_mul]; rfl
    rw [hx] at this; omega
  have b2 : (x i).natAbs ≤ 2596 := Nat.le_of_mul_le_mul_left b1 (by omega)
  have e : vI (filI (nI D) k ek pf (nI A) ig) i = x i := by
    show (filI (nI D) k ek pf (nI A) ig i).toInt = x i
    rw [filI_at i hi, Int32.toInt_div, a1, ← hx, nI_toInt (by omega), Int.mul_tdiv_cancel_left _ (by omega)]
    apply Int.bmod_eq_of_le <;> omega
  rw [e]
  exact ⟨hx, by omega⟩
/-- what is out of nonnegative shares of rays lies in the cone -/
theorem Cn.shares {n k : Nat} {W R : Nat → Nat → Int} {D : Int} {s x : Nat → Int} (hD : 0 < D) (hR : ∀ m, m < k → Cn n W (R m)) (hs : ∀ m, m < k → 0 ≤ s m) (e : ∀ i, i < 4 → D * x i = isum (fun m => s m * R m i) k) : Cn n W x := fun r hr => by
  have h1 := dot4_smul (l := W r) (x := x) (y := fun i => isum (fun m => s m * R m i) k) (g := D) e
  rw [isum_dot] at h1
  have h2 := isum_nn (f := fun m => s m * dot4 (W r) (R m)) k (fun m hm => Int.mul_nonneg (hs m hm) (hR m hm r hr))
  rw [← h1] at h2
  exact Classical.byContradiction (fun z => absurd (Int.mul_neg_of_pos_of_neg hD (by omega : dot4 (W r) x < 0)) (by omega))
/-- one simplex: all its inner points are put in -/
theorem ado_has {pf yf xf : Nat → Int32} {yn ch k D n0 n : Nat} {ek a : Nat → Nat} {f0 ig : Nat → Int32} {P : (Nat → Int) → Prop} (hP : ext4 P) (h : SPX pf yf yn ch k D) (he : ∀ j, j < k → ek j = Jn ch yn j) (hv : VML (fun l => wr yf (Jn ch yn l)) k D n xf a) (a0 : a 0 = 0) (hin : ∀ A (g : Nat → Int32), VMX (fun l => wr yf (Jn ch yn l)) k D A → ¬ A = 0 → P (vI (filI (nI D) k ek pf (nI A) g))) (hs : SL n0 f0) (hl : ∀ j, j < n0 → P (wr f0 j)) (h107 : n0 + 11 ≤ 107) : ∀ t, t + 1 ≤ n → t ≤ 11 → SL (ado (nI D) k ek pf xf t (n0, f0, ig)).1 (ado (nI D) k ek pf xf t (n0, f0, ig)).2.1 ∧ (∀ j, j < (ado (nI D) k ek pf xf t (n0, f0, ig)).1 → P (wr (ado (nI D) k ek pf xf t (n0, f0, ig)).2.1 j)) ∧ n0 ≤ (ado (nI D) k ek pf xf t (n0, f0, ig)).1 ∧ (ado (nI D) k ek pf xf t (n0, f0, ig)).1 ≤ n0 + t ∧ (∀ u, inL n0 f0 u → inL (ado (nI D) k ek pf xf t (n0, f0, ig)).1 (ado (nI D) k ek pf xf t (n0, f0, ig)).2.1 u) ∧ ∀ j, 1 ≤ j → j ≤ t → ∃ g : Nat → Int32, inL (ado (nI D) k ek pf xf t (n0, f0, ig)).1 (ado (nI D) k ek pf xf t (n0, f0, ig)).2.1 (vI (filI (nI D) k ek pf (nI (a j)) g))
  | 0, _, _ => ⟨hs, hl, Nat.le_refl _, Nat.le_refl _, fun _ h => h, fun j h1 h2 => by omega⟩
  | t + 1, ht, h11 => by
    obtain ⟨b1, b2, b3, b4, b5, b6⟩ := ado_has (ig := ig) hP h he hv a0 hin hs hl h107 t (by omega) (by omega)
    obtain ⟨x1, x2⟩ := hv.1 (1 + t) (by omega)
    have nz : ¬ a (1 + t) = 0 := fun z => hv.2 0 (1 + t) (by omega) (by omega) (by rw [a0, z])
    have pg := hin (a (1 + t)) (ado (nI D) k ek pf xf t (n0, f0, ig)).2.2 x2 nz
    rw [ado_s (n := (ado (nI D) k ek pf xf t (n0, f0, ig)).1) (f := (ado (nI D) k ek pf xf t (n0, f0, ig)).2.1) (g := (ado (nI D) k ek pf xf t (n0, f0, ig)).2.2) rfl, x1]
    generalize (ado (nI D) k ek pf xf t (n0, f0, ig)).1 = n1 at *
    generalize (ado (nI D) k ek pf xf t (n0, f0, ig)).2.1 = f1 at *
    generalize (ado (nI D) k ek pf xf t (n0, f0, ig)).2.2 = g1 at *
    obtain ⟨c1, c2, c3, c4, c5, c6⟩ := ins_put (mo := 107) hP (by omega) b1 b2 pg
    refine ⟨c1, c2, by show n0 ≤ insN 107 n1 f1 (filI (nI D) k ek pf (nI (a (1 + t))) g1); omega, by show insN 107 n1 f1 (filI (nI D) k ek pf (nI (a (1 + t))) g1) ≤ n0 + (t + 1); omega, fun u hu => c5 u (b5 u hu), fun j j1 j2 => ?_⟩
    by_cases e : j = t + 1
    · refine ⟨g1, ?_⟩
      rw [show j = 1 + t by omega]; exact c6
    · obtain ⟨g, hg⟩ := b6 j j1 (by omega)
      exact ⟨g, c5 _ hg⟩
