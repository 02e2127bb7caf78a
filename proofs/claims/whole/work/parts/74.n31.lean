/-! ===== own rows: class and reference, 31 ===== -/
-- shares, four bits each
def esum (s : Nat → Nat) : Nat → Nat
  | 0 => 0
  | k + 1 => esum s k + s k * 16 ^ k
def nib (A m : Nat) : Nat := A / 16 ^ m % 16
theorem esum_lt {s : Nat → Nat} : ∀ k, (∀ m, m < k → s m < 16) → esum s k < 16 ^ k
  | 0, _ => by show 0 < 1; decide
  | k + 1, h => by
    have h1 := esum_lt k (fun m hm => h m (by omega))
    have h2 : s k * 16 ^ k ≤ 15 * 16 ^ k := Nat.mul_le_mul_right _ (by have := h k (by omega); omega)
    show esum s k + s k * 16 ^ k < 16 ^ (k + 1)
    rw [Nat.pow_succ]; omega
theorem esum_nib {s : Nat → Nat} : ∀ k, (∀ m, m < k → s m < 16) → ∀ m, m < k → nib (esum s k) m = s m
  | 0, _, m, hm => absurd hm (by omega)
  | k + 1, h, m, hm => by
    have h1 := esum_lt k (fun m hm => h m (by omega))
    have hp : 0 < 16 ^ m := Nat.pow_pos (by decide)
    show (esum s k + s k * 16 ^ k) / 16 ^ m % 16 = s m
    by_cases e : m = k
    · subst e
      rw [Nat.add_mul_div_right _ _ hp, Nat.div_eq_of_lt h1, Nat.zero_add]
      exact Nat.mod_eq_of_lt (h m (by omega))
    · have ih := esum_nib k (fun m hm => h m (by omega)) m (by omega)
      have e2 : 16 ^ k = 16 ^ (k - m - 1) * 16 * 16 ^ m := by rw [← Nat.pow_succ, ← Nat.pow_add]; congr 1; omega
      rw [e2, ← Nat.mul_assoc, Nat.add_mul_div_right _ _ hp, ← Nat.mul_assoc, Nat.add_mul_mod_self_right]
      exact ih
theorem esum_congr {s r : Nat → Nat} : ∀ k, (∀ m, m < k → s m = r m) → esum s k = esum r k
  | 0, _ => rfl
  | k + 1, h => by
    show esum s k + s k * 16 ^ k = esum r k + r k * 16 ^ k
    rw [esum_congr k (fun m hm => h m (by omega)), h k (by omega)]
theorem p16 {k : Nat} (hk : k ≤ 4) : 16 ^ k ≤ 65536 := Nat.le_trans (Nat.pow_le_pow_right (by decide) hk) (by decide)
theorem nib_I {M k : Nat} (hM : M < 2 ^ 31) (hk : k < 4) : (nI M >>> (nI (4 * k) &&& 31)) &&& 15 = nI (nib M k) := by
  rw [nI_shr hM (by omega), show (15 : Int32) = nI 15 from rfl, nI_and]
  congr 1
  unfold nib
  rw [show (15 : Nat) = 2 ^ 4 - 1 from rfl, Nat.and_two_pow_sub_one_eq_mod, Nat.pow_mul]
theorem shl4 {t k : Nat} (ht : t < 16) (hk : k < 4) : nI t <<< (nI (4 * k) &&& 31) = nI (t * 16 ^ k) := by
  have h1 : ∀ k, k < 4 → ∀ t, t < 16 → nI t <<< (nI (4 * k) &&& 31) = nI (t * 16 ^ k) := by decide +kernel
  exact h1 k hk t ht
theorem or_add {v t k : Nat} (hv : v < 16 ^ k) : v ||| t * 16 ^ k = v + t * 16 ^ k := by
  have e : 16 ^ k = 2 ^ (4 * k) := by rw [Nat.pow_mul]
  rw [e] at hv ⊢
  rw [Nat.mul_comm t, Nat.or_comm, ← Nat.two_pow_add_eq_or_of_lt hv t]; omega
theorem smf_val {D A B : Nat} (hD : D ≤ 12) (hA : A < 2 ^ 31) (hB : B < 2 ^ 31) : ∀ k, k ≤ 4 → (∀ m, m < k → nib A m < D ∧ nib B m < D) → smf (nI D) (nI A) (nI B) k = nI (esum (fun m => (nib A m + nib B m) % D) k)
  | 0, _, _ => rfl
  | k + 1, hk, h => by
    have ih := smf_val hD hA hB k (by omega) (fun m hm => h m (by omega))
    obtain ⟨a, b⟩ := h k (by omega)
    have hs : shr4 (nI A) (nI B) k = nI (nib A k + nib B k) := by
      unfold shr4
      rw [nib_I hA (by omega), nib_I hB (by omega)]
      exact (Int32.ofNat_add _ _).symm
    have hlt : esum (fun m => (nib A m + nib B m) % D) k < 16 ^ k := esum_lt k (fun m hm => by
      have := h m (by omega)
      have := Nat.mod_lt (nib A m + nib B m) (show D > 0 by omega)
      show (nib A m + nib B m) % D < 16
      omega)
    show _ = nI (esum _ k + (nib A k + nib B k) % D * 16 ^ k)
    by_cases c : nib A k + nib B k < D
    · rw [smf_y ih (by rw [hs]; exact nI_lt c (by omega)), hs, shl4 (by omega) (by omega), nI_or, or_add hlt, Nat.mod_eq_of_lt c]
    · have e : (nib A k + nib B k) % D = nib A k + nib B k - D := by
        rw [Nat.mod_eq_sub_mod (by omega), Nat.mod_eq_of_lt (by omega)]
      rw [smf_n ih (by rw [hs]; intro z; exact c (by
        have := Int32.lt_iff_toInt_lt.mp z
        rw [nI_toInt (by omega), nI_toInt (by omega)] at this; omega)), hs, nI_sub (by omega), shl4 (by omega) (by omega), nI_or, or_add hlt, e]
-- members
theorem mbr_val {ch : Nat} {ek : Nat → Nat} : ∀ p, mny ch p ≤ 4 → (mbr ch p (0, ek)).1 = mny ch p ∧ ∀ j, j < mny ch p → (mbr ch p (0, ek)).2 j = Jn ch p j
  | 0, _ => ⟨rfl, fun j hj => absurd hj (Nat.not_lt_zero j)⟩
  | p + 1, h => by
    by_cases e : (ch / 2 ^ p) % 2 = 1
    · rw [mny_y e] at h ⊢
      obtain ⟨a, b⟩ := mbr_val (ch := ch) (ek := ek) p (by omega)
      rw [mbr_y (n := (mbr ch p (0, ek)).1) (f := (mbr ch p (0, ek)).2) rfl (tb_iff.mpr e) (by omega), Jn_y e]
      refine ⟨by show (mbr ch p (0, ek)).1 + 1 = _; omega, fun j hj => ?_⟩
      show updN (mbr ch p (0, ek)).2 (mbr ch p (0, ek)).1 p j = updN (Jn ch p) (mny ch p) p j
      rw [a]
      unfold updN
      by_cases z : j = mny ch p
      · rw [if_pos z, if_pos z]
      · rw [if_neg z, if_neg z]; exact b j (by omega)
    · rw [mny_n e] at h ⊢
      obtain ⟨a, b⟩ := mbr_val (ch := ch) (ek := ek) p h
      rw [mbr_n (n := (mbr ch p (0, ek)).1) (f := (mbr ch p (0, ek)).2) rfl (fun z => e (tb_iff.mp z.1)), Jn_n e]
      exact ⟨a, b⟩
-- one ray less
theorem del_bit {ch e j : Nat} : (ch ^^^ (ch &&& 2 ^ e)).testBit j = true ↔ ch.testBit j = true ∧ ¬ j = e := by
  rw [Nat.testBit_xor, Nat.testBit_and, Nat.testBit_two_pow]
  by_cases z : e = j
  · subst z; cases ch.testBit e <;> simp
  · have z2 : ¬ j = e := fun q => z q.symm
    simp [z, z2]
theorem mny_del {ch e : Nat} (hb : ch.testBit e = true) : ∀ n, mny ch n = mny (ch ^^^ (ch &&& 2 ^ e)) n + if e < n then 1 else 0
  | 0 => rfl
  | n + 1 => by
    have ih := mny_del hb n
    have d := del_bit (ch := ch) (e := e) (j := n)
    by_cases z : n = e
    · subst z
      rw [mny_y (tb_iff.mp hb), mny_n (fun q => (d.mp (tb_iff.mpr q)).2 rfl), if_pos (by omega), ih, if_neg (by omega)]
    · by_cases b : ch.testBit n = true
      · rw [mny_y (tb_iff.mp b), mny_y (tb_iff.mp (d.mpr ⟨b, z⟩)), ih]
        by_cases l : e < n
        · rw [if_pos l, if_pos (by omega)]
        · rw [if_neg l, if_neg (by omega)]
      · rw [mny_n (fun q => b (tb_iff.mpr q)), mny_n (fun q => b (d.mp (tb_iff.mpr q)).1), ih]
        by_cases l : e < n
        · rw [if_pos l, if_pos (by omega)]
        · rw [if_neg l, if_neg (by omega)]
theorem Jn_del {ch yn q : Nat} (hq : q < mny ch yn) : mny (ch ^^^ (ch &&& 2 ^ Jn ch yn q)) yn + 1 = mny ch yn ∧ ∀ l, l + 1 < mny ch yn → Jn (ch ^^^ (ch &&& 2 ^ Jn ch yn q)) yn l = Jn ch yn (skp q l) := by
  obtain ⟨j1, j2, j3⟩ := Jn_spec (x := ch) yn
  obtain ⟨a, b⟩ := j1 q hq
  have hc := mny_del b yn
  rw [if_pos a] at hc
  refine ⟨by omega, fun l hl => ?_⟩
  have sk : ∀ l, l + 1 < mny ch yn → skp q l < mny ch yn ∧ ¬ skp q l = q := fun l hl => by unfold skp; split <;> omega
  refine (inc_eq (x := ch ^^^ (ch &&& 2 ^ Jn ch yn q)) (J := fun l => Jn ch yn (skp q l)) yn (mny ch yn - 1) (by omega) (fun l hl => ?_) (fun l l' h1 h2 => ?_) l (by omega)).symm
  · obtain ⟨s1, s2⟩ := sk l (by omega)
    refine ⟨(j1 _ s1).1, del_bit.mpr ⟨(j1 _ s1).2, fun z => ?_⟩⟩
    rcases Nat.lt_or_gt_of_ne s2 with w | w
    · have := j2 _ _ w hq; omega
    · have := j2 _ _ w s1; omega
  · refine j2 _ _ ?_ (sk l' (by omega)).1
    unfold skp
    split <;> split <;> omega
theorem Ind.skip {k q : Nat} {R : Nat → Nat → Int} (hq : q < k + 1) (h : Ind (k + 1) R) : Ind k (fun l => R (skp q l)) := by
  intro y hy i hi
  have := h (fun j => if j < q then y j else if j = q then 0 else y (j - 1)) (fun z hz => by
    rw [isum_skip (k := q) k hq]
    have e1 : (fun j => if j < q then y j else if j = q then 0 else y (j - 1)) q = 0 := by
      show (if q < q then y q else if q = q then 0 else y (q - 1)) = 0
      rw [if_neg (Nat.lt_irrefl q), if_pos rfl]
    rw [show (if q < q then y q else if q = q then 0 else y (q - 1)) = 0 from e1, Int.zero_mul, Int.zero_add, ← hy z hz]
    refine isum_congr k (fun i _ => ?_)
    congr 1
    unfold skp
    by_cases w : i < q
    · rw [if_pos w, if_pos w]
    · rw [if_neg w, if_neg (by omega), if_neg (by omega)]; rfl)
  have h1 := this (skp q i) (by unfold skp; split <;> omega)
  have h1 : (if skp q i < q then y (skp q i) else if skp q i = q then 0 else y (skp q i - 1)) = 0 := h1
  unfold skp at h1
  by_cases w : i < q
  · rw [if_pos w, if_pos w] at h1; exact h1
  · rw [if_neg w, if_neg (by omega), if_neg (by omega)] at h1; exact h1
/-- what load finds of a set less one ray -/
theorem lst_del {pf yf : Nat → Int32} {yn ch q : Nat} (hf : ∀ i, i < 4 * yn → pf i = yf i) (hb : ∀ c, c < yn → ∀ i, i < 4 → (wr yf c i).natAbs ≤ 649) (hl : (lst pf ch yn).1 = mny ch yn) (hq : q < mny ch yn) : (lst pf (ch ^^^ (ch &&& 2 ^ Jn ch yn q)) yn).1 = mny ch yn - 1 ∧ ∀ m ∈ lev (mny ch yn - 1), ((lst pf (ch ^^^ (ch &&& 2 ^ Jn ch yn q)) yn).2 m).toInt = mnI (fun l => wr yf (Jn ch yn (skp q l))) (mny ch yn - 1) m ∧ ((lst pf (ch ^^^ (ch &&& 2 ^ Jn ch yn q)) yn).2 m).toInt.natAbs < 2 ^ 50 := by
  obtain ⟨d1, d2⟩ := Jn_del hq
  obtain ⟨-, hne⟩ := lst_mn (x := ch) hf hb hl
  have h4 : mny ch yn ≤ 4 := by rw [← hl]; exact lst_le _ _ _
  have hI := mnI_ind h4 hne
  obtain ⟨k, hk⟩ : ∃ k, mny ch yn = k + 1 := ⟨mny ch yn - 1, by omega⟩
  rw [hk] at hI
  have hI2 := hI.skip (q := q) (by omega)
  have hm : mny (ch ^^^ (ch &&& 2 ^ Jn ch yn q)) yn = k := by omega
  have hrank : (lst pf (ch ^^^ (ch &&& 2 ^ Jn ch yn q)) yn).1 = k := by
    obtain ⟨t, -, -, b3⟩ := lst_Rk (m := ch ^^^ (ch &&& 2 ^ Jn ch yn q)) hf hb
    obtain ⟨j1, j2, j3⟩ := Jn_spec (x := ch ^^^ (ch &&& 2 ^ Jn ch yn q)) yn
    have l1 : k ≤ (lst pf (ch ^^^ (ch &&& 2 ^ Jn ch yn q)) yn).1 := hI2.le (fun l hl => by
      obtain ⟨p1, p2⟩ := j1 l (by omega)
      have := b3 _ p1
      rw [mV_y p2, d2 l (by omega)] at this; exact this)
    obtain ⟨Jx, a1, a2, -, -, -⟩ := LST.all (pf := pf) (C := 649) (ch := ch ^^^ (ch &&& 2 ^ Jn ch yn q)) (by decide) yn (fun q hq _ i hi => by
      rw [show q * 4 + i = 4 * q + i by omega, hf _ (by omega)]
      exact hb q hq i hi)
    have l2 := inc_le (J := Jx) yn _ a1 a2
    omega
  refine ⟨by omega, fun m hm9 => ?_⟩
  obtain ⟨a, -⟩ := lst_mn (x := ch ^^^ (ch &&& 2 ^ Jn ch yn q)) hf hb (by rw [hrank, hm])
  rw [hm] at a
  rw [show mny ch yn - 1 = k by omega] at hm9 ⊢
  have e : mnI (fun l => wr yf (Jn (ch ^^^ (ch &&& 2 ^ Jn ch yn q)) yn l)) k = mnI (fun l => wr yf (Jn ch yn (skp q l))) k := mnI_congr k (fun l hl => by
    show wr yf (Jn (ch ^^^ (ch &&& 2 ^ Jn ch yn q)) yn l) = wr yf (Jn ch yn (skp q l))
    rw [d2 l (by omega)])
  rw [e] at a
  exact a m hm9
-- steps
theorem rsf_val {D : Nat} {x : Int64} (h1 : 1 ≤ D) (hD : D ≤ 12) (hx : x.toInt.natAbs < 2 ^ 50) : rsf (nI D) x = nI (x.toInt % (D : Int)).toNat := by
  have hD0 : ¬ nI D = 0 := fun z => by
    have := nI_inj (show D < 2 ^ 31 by omega) (by decide) (show nI D = nI 0 from z); omega
  have d64 : (nI D).toInt64.toInt = D := by rw [i3264, nI_toInt (by omega)]
  have e1 : (x - x / (nI D).toInt64 * (nI D).toInt64).toInt = x.toInt.tmod D := by
    have q1 : (x / (nI D).toInt64).toInt = x.toInt.tdiv D := by
      rw [Int64.toInt_div, d64]
      have : (x.toInt.tdiv D).natAbs ≤ x.toInt.natAbs := by rw [Int.natAbs_tdiv]; exact Nat.div_le_self _ _
      apply Int.bmod_eq_of_le <;> omega
    have t := Int.tmod_add_mul_tdiv x.toInt D
    have m0 : (x.toInt.tdiv D * D).natAbs ≤ x.toInt.natAbs := by
      rw [Int.natAbs_mul, Int.natAbs_tdiv, Int.natAbs_natCast]; exact Nat.div_mul_le_self _ _
    have m1 : (x / (nI D).toInt64 * (nI D).toInt64).toInt = x.toInt.tdiv D * D := by
      rw [Int64.toInt_mul, q1, d64]
      apply Int.bmod_eq_of_le <;> omega
    rw [Int64.toInt_sub, m1]
    have tm : (x.toInt.tmod D).natAbs ≤ 12 := by
      rw [Int.natAbs_tmod]
      have := Nat.mod_lt x.toInt.natAbs (show (D : Int).natAbs > 0 by omega)
      omega
    rw [Int.mul_comm] at t
    rw [show x.toInt - x.toInt.tdiv D * D = x.toInt.tmod D by omega]
    apply Int.bmod_eq_of_le <;> omega
  have tb : (x.toInt.tmod D).natAbs < D := by
    rw [Int.natAbs_tmod]
    exact Nat.mod_lt _ (by omega)
  have e0 : (rs0 (nI D) x).toInt = x.toInt.tmod D := by
    unfold rs0
    rw [if_neg hD0, i32_of64 (by rw [e1]; omega), e1]
  have em : x.toInt % (D : Int) = if x.toInt.tmod D < 0 then x.toInt.tmod D + D else x.toInt.tmod D := by
    have t := Int.tmod_add_mul_tdiv x.toInt D
    split
    · rename_i hn
      have : x.toInt = (x.toInt.tmod D + D) + D * (x.toInt.tdiv D - 1) := by rw [Int.mul_sub]; omega
      rw [this, Int.add_mul_emod_self_left]
      rw [← this]
      exact Int.emod_eq_of_lt (by omega) (by omega)
    · have : x.toInt = x.toInt.tmod D + D * x.toInt.tdiv D := by omega
      rw [this, Int.add_mul_emod_self_left, ← this]
      exact Int.emod_eq_of_lt (by omega) (by omega)
  apply Int32.toInt_inj.mp
  rw [nI_toInt (by rw [em]; split <;> omega)]
  unfold rsf
  by_cases c : x.toInt.tmod D < 0
  · have cI : rs0 (nI D) x < 0 := Int32.lt_iff_toInt_lt.mpr (by rw [e0]; exact c)
    rw [if_pos cI, em, if_pos c, Int32.toInt_add, e0, nI_toInt (by omega)]
    rw [Int.toNat_of_nonneg (by omega)]
    apply Int.bmod_eq_of_le <;> omega
  · have cI : ¬ rs0 (nI D) x < 0 := fun z => c (by have := Int32.lt_iff_toInt_lt.mp z; rw [e0] at this; exact this)
    rw [if_neg cI, em, if_neg c, e0, Int.toNat_of_nonneg (by omega)]
theorem sgn_val {q : Nat} {x : Int64} (hq : q < 4) (hx : x.toInt.natAbs < 2 ^ 50) : (sgn q x).toInt = (if q % 2 = 0 then 1 else -1) * x.toInt := by
  unfold sgn
  rw [show (2 : Int32) = nI 2 from rfl, nI_rem (by omega) (by decide)]
  have e : nI (q % 2) = 0 ↔ q % 2 = 0 := ⟨fun z => nI_inj (by omega) (by decide) (show nI (q % 2) = nI 0 from z), fun z => by rw [z]; rfl⟩
  by_cases c : q % 2 = 0
  · rw [if_pos (e.mpr c), if_pos c]; omega
  · rw [if_neg (fun z => c (e.mp z)), if_neg c, Int64.toInt_neg]
    rw [show -x.toInt = -1 * x.toInt by omega]
    apply Int.bmod_eq_of_le <;> omega
