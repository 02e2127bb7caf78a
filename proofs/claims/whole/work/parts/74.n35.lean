/-! ===== own rows: class and reference, 35 ===== -/
-- the class's candidates
/-- points of the cone, not 0, not large -/
def PTS (n : Nat) (W : Nat → Nat → Int) (x : Nat → Int) : Prop := (Cn n W x ∧ nz4 x) ∧ ∀ i, i < 4 → (x i).natAbs ≤ 20000
theorem PTS.ext {n : Nat} {W : Nat → Nat → Int} : ext4 (PTS n W) := fun u v e h => ⟨⟨h.1.1.cg e, h.1.2.cg e⟩, fun i hi => by rw [← e i hi]; exact h.2 i hi⟩
theorem inL.ex {n : Nat} {f : Nat → Int32} {u v : Nat → Int} (h : inL n f v) (e : ∀ i, i < 4 → v i = u i) : inL n f u := by
  obtain ⟨k, hk, hv⟩ := h
  exact ⟨k, hk, fun i hi => (hv i hi).trans (e i hi)⟩
theorem SPX.ind {pf yf : Nat → Int32} {yn ch k D : Nat} (h : SPX pf yf yn ch k D) : Ind k (fun l => wr yf (Jn ch yn l)) := by
  obtain ⟨-, -, -, -, -, k4, D1, -, hD⟩ := h
  refine mnI_ind k4 (Classical.byContradiction (fun z => ?_))
  have := hD.2.2 0 (fun m hm => by rw [show mnI (fun l => wr yf (Jn ch yn l)) k m = 0 from Classical.byContradiction (fun w => z ⟨m, hm, w⟩)]; exact Int.dvd_refl 0)
  have := Int.zero_dvd.mp this
  omega
/-- an inner point is a point of the cone -/
theorem filI_PTS {pf yf g : Nat → Int32} {n yn ch k D A : Nat} {W : Nat → Nat → Int} {ek : Nat → Nat} (h : SPX pf yf yn ch k D) (he : ∀ j, j < k → ek j = Jn ch yn j) (hR : ∀ j, j < yn → Cn n W (wr yf j)) (hA : VMX (fun l => wr yf (Jn ch yn l)) k D A) (nz : ¬ A = 0) : PTS n W (vI (filI (nI D) k ek pf (nI A) g)) := by
  have hv := filI_val (ig := g) h he hA
  have hi := h.ind
  obtain ⟨-, -, -, hm, k1, k4, D1, D12, -⟩ := h
  have sp := (Jn_spec (x := ch) yn).1
  refine ⟨⟨Cn.shares (k := k) (R := fun l => wr yf (Jn ch yn l)) (D := (D : Int)) (s := fun m => ((nib A m : Nat) : Int)) (by omega) (fun m hm9 => hR _ (sp m (by omega)).1) (fun m _ => by show (0 : Int) ≤ ((nib A m : Nat) : Int); omega) (fun i hi => (hv i hi).1), ?_⟩, fun i hi => (hv i hi).2⟩
  refine Classical.byContradiction (fun z => nz ?_)
  have z := nz4_not z
  have key := hi (fun m => ((nib A m : Nat) : Int)) (fun q hq => by
    have := (hv q hq).1
    rw [z q hq, Int.mul_zero] at this; exact this.symm)
  refine nib_ext k hA.1 (Nat.pow_pos (by decide)) (fun m hm => ?_)
  have := key m hm
  have this : ((nib A m : Nat) : Int) = 0 := this
  rw [nib_z]; omega
/-- shares below 1 of the rays of a set -/
def SHR (yf : Nat → Int32) (yn ch k : Nat) (u : Nat → Int) : Prop := ∃ (M : Int) (c : Nat → Int), 0 < M ∧ (∀ m, m < k → 0 ≤ c m ∧ c m < M) ∧ ∀ i, i < 4 → M * u i = isum (fun l => c l * wr yf (Jn ch yn l) i) k
/-- shares in parts of INDEX -/
theorem SHR.parts {yf : Nat → Int32} {yn ch k D : Nat} {u : Nat → Int} (k1 : 1 ≤ k) (k4 : k ≤ 4) (D1 : 1 ≤ D) (hD : GC (D : Int) (mnI (fun l => wr yf (Jn ch yn l)) k) (lev k)) (h : SHR yf yn ch k u) : ∃ s, GEN (NT (fun l => wr yf (Jn ch yn l)) k) k (lev (k - 1)) s ∧ (∀ m, m < k → 0 ≤ s m ∧ s m < D) ∧ ∀ i, i < 4 → (D : Int) * u i = isum (fun l => s l * wr yf (Jn ch yn l) i) k := by
  obtain ⟨M, c, hM, hc, e⟩ := h
  obtain ⟨s, hs, es⟩ := shares (R := fun l => wr yf (Jn ch yn l)) k1 k4 hD e
  refine ⟨s, hs, fun m hm => ?_, fun i hi => ?_⟩
  · have e1 := es m hm
    obtain ⟨c1, c2⟩ := hc m hm
    constructor
    · refine Classical.byContradiction (fun z => ?_)
      have a := Int.mul_neg_of_pos_of_neg hM (by omega : s m < 0)
      have b := Int.mul_nonneg c1 (by omega : (0 : Int) ≤ D)
      omega
    · refine Int.lt_of_mul_lt_mul_left (a := M) ?_ (by omega)
      rw [e1]
      exact Int.mul_lt_mul_of_pos_right c2 (by omega)
  · refine Int.eq_of_mul_eq_mul_left (a := M) (by omega) ?_
    have e2 : M * isum (fun l => s l * wr yf (Jn ch yn l) i) k = isum (fun l => (D : Int) * (c l * wr yf (Jn ch yn l) i)) k := by
      rw [← isum_mul]
      refine isum_congr k (fun l hl => ?_)
      have := es l hl
      show M * (s l * wr yf (Jn ch yn l) i) = (D : Int) * (c l * wr yf (Jn ch yn l) i)
      rw [← Int.mul_assoc, this]; grind
    rw [e2, isum_mul, ← e i hi]; grind
theorem i32_1 {D : Nat} (h : D ≤ 12) : ((1 : Int32) < nI D ∧ nI D ≤ (12 : Int32)) ↔ 1 < D := by
  rw [Int32.lt_iff_toInt_lt, Int32.le_iff_toInt_le, nI_toInt (by omega), show (1 : Int32).toInt = 1 by decide, show (12 : Int32).toInt = 12 by decide]
  omega
/-- what a list is after the inner points of a simplex are put in -/
theorem ats_has {pf yf : Nat → Int32} {n yn ch k D : Nat} {W : Nat → Nat → Int} (h : SPX pf yf yn ch k D) (hi : ixv pf yn ch = nI D) (hR : ∀ j, j < yn → Cn n W (wr yf j)) {p : (Nat × (Nat → Int32)) × ipS} (hs : SL p.1.1 p.1.2) (hl : ∀ j, j < p.1.1 → PTS n W (wr p.1.2 j)) (h107 : p.1.1 + 11 ≤ 107) : SL (ats pf yn ch p).1.1 (ats pf yn ch p).1.2 ∧ (∀ j, j < (ats pf yn ch p).1.1 → PTS n W (wr (ats pf yn ch p).1.2 j)) ∧ (ats pf yn ch p).1.1 ≤ p.1.1 + 11 ∧ (∀ u, inL p.1.1 p.1.2 u → inL (ats pf yn ch p).1.1 (ats pf yn ch p).1.2 u) ∧ ∀ u, nz4 u → SHR yf yn ch k u → inL (ats pf yn ch p).1.1 (ats pf yn ch p).1.2 u := by
  obtain ⟨hf, hb, hl9, hm, k1, k4, D1, D12, hD⟩ := id h
  have zero : ∀ u, nz4 u → ∀ s : Nat → Int, (∀ m, m < k → s m = 0) → ¬ ∀ i, i < 4 → (D : Int) * u i = isum (fun l => s l * wr yf (Jn ch yn l) i) k := fun u nu s hs0 e => by
    obtain ⟨i, hi, hu⟩ := nu
    have := e i hi
    rw [isum_zero k (fun l hl => by rw [hs0 l hl, Int.zero_mul])] at this
    rcases Int.mul_eq_zero.mp this with z | z
    · omega
    · exact hu z
  by_cases c : 1 < D
  · have c1 : 1 < ixv pf yn ch ∧ ixv pf yn ch ≤ 12 := by rw [hi]; exact (i32_1 D12).mpr c
    obtain ⟨b1, b2, a, v, hp, a0, hall⟩ := mxv_all (ek := p.2.1) (sf := p.2.2.1) (xf := p.2.2.2.1) h hi
    have e1 : (ats pf yn ch p).1 = ((ado (nI D) k (mbr ch yn (0, p.2.1)).2 pf (mxv (ixv pf yn ch) pf yn ch p.2.1 p.2.2.1 p.2.2.2.1).2 ((mxv (ixv pf yn ch) pf yn ch p.2.1 p.2.2.1 p.2.2.2.1).1 - 1) (p.1.1, p.1.2, p.2.2.2.2)).1, (ado (nI D) k (mbr ch yn (0, p.2.1)).2 pf (mxv (ixv pf yn ch) pf yn ch p.2.1 p.2.2.1 p.2.2.2.1).2 ((mxv (ixv pf yn ch) pf yn ch p.2.1 p.2.2.1 p.2.2.2.1).1 - 1) (p.1.1, p.1.2, p.2.2.2.2)).2.1) := by
      unfold ats
      rw [@if_pos _ (Classical.propDecidable _) c1]
      rw [← hi, ← b1]
    have l1 := v.le k4 D1 hD
    rw [e1]
    generalize mxv (ixv pf yn ch) pf yn ch p.2.1 p.2.2.1 p.2.2.2.1 = r at *
    obtain ⟨q1, q2, q3, q4, q5, q6⟩ := ado_has (ig := p.2.2.2.2) PTS.ext h b2 v a0 (fun A g hA nz => filI_PTS h b2 hR hA nz) hs hl h107 (r.1 - 1) (by omega) (by omega)
    refine ⟨q1, q2, Nat.le_trans q4 (by omega), q5, fun u nu su => ?_⟩
    obtain ⟨s, g1, g2, g3⟩ := su.parts k1 k4 D1 hD
    obtain ⟨j, j1, j2⟩ := hall s g1
    have j3 : ∀ m, m < k → ((nib (a j) m : Nat) : Int) = s m := fun m hm => by rw [j2 m hm]; exact Int.emod_eq_of_lt (g2 m hm).1 (g2 m hm).2
    have j0 : ¬ j = 0 := fun z => by
      refine zero u nu s (fun m hm => ?_) g3
      rw [← j3 m hm, z, a0, nib_z]; rfl
    obtain ⟨g, hg⟩ := q6 j (by omega) (by omega)
    refine hg.ex (fun i hi9 => ?_)
    have w := (filI_val (ig := g) h b2 (v.1 j j1).2 i hi9).1
    refine Int.eq_of_mul_eq_mul_left (a := (D : Int)) (by omega) ?_
    rw [w, g3 i hi9]
    exact isum_congr k (fun m hm => by rw [j3 m hm])
  · have c1 : ¬ (1 < ixv pf yn ch ∧ ixv pf yn ch ≤ 12) := fun z => c ((i32_1 D12).mp (by rw [← hi]; exact z))
    rw [ats_n c1]
    refine ⟨hs, hl, by omega, fun _ h => h, fun u nu su => ?_⟩
    obtain ⟨s, g1, g2, g3⟩ := su.parts k1 k4 D1 hD
    exact absurd g3 (zero u nu s (fun m hm => by have := g2 m hm; omega))
theorem ato_has {pf yf : Nat → Int32} {n yn k sn : Nat} {sk : Nat → Nat} {W : Nat → Nat → Int} (hR : ∀ j, j < yn → Cn n W (wr yf j)) (hk : ∀ s, s < sn → ∃ D, ixv pf yn (sk s) = nI D ∧ (D = 1 ∨ SPX pf yf yn (sk s) k D)) {p : (Nat × (Nat → Int32)) × ipS} (hs : SL p.1.1 p.1.2) (hl : ∀ j, j < p.1.1 → PTS n W (wr p.1.2 j)) (h8 : p.1.1 ≤ 8) (h9 : sn ≤ 9) : ∀ q, q ≤ sn → SL (ato pf yn sk q p).1.1 (ato pf yn sk q p).1.2 ∧ (∀ j, j < (ato pf yn sk q p).1.1 → PTS n W (wr (ato pf yn sk q p).1.2 j)) ∧ (ato pf yn sk q p).1.1 ≤ 8 + 11 * q ∧ (∀ u, inL p.1.1 p.1.2 u → inL (ato pf yn sk q p).1.1 (ato pf yn sk q p).1.2 u) ∧ ∀ s, s < q → ∀ D, ixv pf yn (sk s) = nI D → SPX pf yf yn (sk s) k D → ∀ u, nz4 u → SHR yf yn (sk s) k u → inL (ato pf yn sk q p).1.1 (ato pf yn sk q p).1.2 u
  | 0, _ => ⟨hs, hl, h8, fun _ h => h, fun s h => absurd h (Nat.not_lt_zero s)⟩
  | q + 1, hq => by
    obtain ⟨a1, a2, a3, a4, a5⟩ := ato_has hR hk hs hl h8 h9 q (by omega)
    rw [ato_s rfl]
    generalize ato pf yn sk q p = r at *
    obtain ⟨D, d1, d2⟩ := hk q (by omega)
    by_cases c : SPX pf yf yn (sk q) k D
    · obtain ⟨b1, b2, b3, b4, b5⟩ := ats_has c d1 hR a1 a2 (by omega)
      refine ⟨b1, b2, by omega, fun u hu => b4 u (a4 u hu), fun s hs D' e1 e2 u nu su => ?_⟩
      by_cases z : s = q
      · subst z; exact b5 u nu su
      · exact b4 u (a5 s (by omega) D' e1 e2 u nu su)
    · have D1 : D = 1 := d2.resolve_right c
      have c1 : ¬ (1 < ixv pf yn (sk q) ∧ ixv pf yn (sk q) ≤ 12) := fun z => by rw [d1, D1] at z; exact absurd z.1 (by decide)
      rw [ats_n c1]
      refine ⟨a1, a2, by omega, a4, fun s hs D' e1 e2 u nu su => ?_⟩
      by_cases z : s = q
      · subst z
        have l1 : D' ≤ 12 := e2.2.2.2.2.2.2.2.1
        have : D' = D := nI_inj (by omega) (by omega) (e1.symm.trans d1)
        rw [this] at e2; exact absurd e2 c
      · exact a5 s (by omega) D' e1 e2 u nu su
theorem fri_has {pf yf of0 cc0 : Nat → Int32} {n yn : Nat} {W : Nat → Nat → Int} (hf : ∀ i, i < 4 * yn → pf i = yf i) (hR : ∀ j, j < yn → PTS n W (wr yf j)) (h8 : yn ≤ 8) : ∀ q, q ≤ yn → SL (fri pf q (0, of0, cc0)).1 (fri pf q (0, of0, cc0)).2.1 ∧ (∀ j, j < (fri pf q (0, of0, cc0)).1 → PTS n W (wr (fri pf q (0, of0, cc0)).2.1 j)) ∧ (fri pf q (0, of0, cc0)).1 ≤ q ∧ ∀ j, j < q → inL (fri pf q (0, of0, cc0)).1 (fri pf q (0, of0, cc0)).2.1 (wr yf j)
  | 0, _ => ⟨fun j k _ hk => absurd hk (Nat.not_lt_zero k), fun j hj => absurd hj (Nat.not_lt_zero j), Nat.le_refl 0, fun j hj => absurd hj (Nat.not_lt_zero j)⟩
  | q + 1, hq => by
    obtain ⟨a1, a2, a3, a4⟩ := fri_has (of0 := of0) (cc0 := cc0) hf hR h8 q (by omega)
    rw [fri_s (n := (fri pf q (0, of0, cc0)).1) (f := (fri pf q (0, of0, cc0)).2.1) (g := (fri pf q (0, of0, cc0)).2.2) rfl]
    generalize (fri pf q (0, of0, cc0)).1 = n1 at *
    generalize (fri pf q (0, of0, cc0)).2.1 = f1 at *
    generalize (fri pf q (0, of0, cc0)).2.2 = g1 at *
    have e : ∀ i, i < 4 → vI (va_cpy pf g1 (q * 4) 0 4) i = wr yf q i := fun i hi => by
      show (va_cpy pf g1 (q * 4) 0 4 i).toInt = _
      rw [cpy_at, if_pos (by omega), show q * 4 + (i - 0) = 4 * q + i by omega, hf _ (by omega)]; rfl
    obtain ⟨b1, b2, b3, b4, b5, b6⟩ := ins_put (mo := 107) (g := va_cpy pf g1 (q * 4) 0 4) PTS.ext (by omega) a1 a2 (PTS.ext _ _ (fun i hi => (e i hi).symm) (hR q (by omega)))
    refine ⟨b1, b2, by show insN 107 n1 f1 (va_cpy pf g1 (q * 4) 0 4) ≤ q + 1; omega, fun j hj => ?_⟩
    by_cases z : j = q
    · rw [z]; exact b6.ex e
    · exact b5 _ (a4 j (by omega))
-- heights
theorem msi_at {pf g h : Nat → Int32} {p : Nat} : ∀ r j, msi pf g p r h j = if p * 8 ≤ j ∧ j < p * 8 + r then (pr4 pf (j - p * 8) g).toInt32 else h j
  | 0, j => by rw [if_neg (by omega)]; rfl
  | r + 1, j => by
    show upd (msi pf g p r h) (p * 8 + r) (pr4 pf r g).toInt32 j = _
    unfold upd
    by_cases e : j = p * 8 + r
    · rw [if_pos e, if_pos (by omega), show j - p * 8 = r by omega]
    · rw [if_neg e, msi_at r j]
      by_cases c : p * 8 ≤ j ∧ j < p * 8 + r
      · rw [if_pos c, if_pos (by omega)]
      · rw [if_neg c, if_neg (by omega)]
theorem mso_HT {pf wf f5 hh0 g2 : Nat → Int32} {rn zs n5 : Nat} (hr8 : rn ≤ 8) (hr : rowsOK wf rn zs) (hs : ∀ i, i < 4 * rn → pf i = wf i) (hb : ∀ k, k < n5 → ∀ i, i < 4 → (wr f5 k i).natAbs ≤ 20000) : ∀ p, p ≤ n5 → HT wf rn p f5 (mso pf rn f5 p (hh0, g2)).1
  | 0, _ => fun i hi => absurd hi (Nat.not_lt_zero i)
  | p + 1, hp => by
    have ih := mso_HT (hh0 := hh0) (g2 := g2) hr8 hr hs hb p (by omega)
    rw [mso_s (h := (mso pf rn f5 p (hh0, g2)).1) (g := (mso pf rn f5 p (hh0, g2)).2) rfl rfl]
    generalize (mso pf rn f5 p (hh0, g2)).1 = h1 at *
    generalize (mso pf rn f5 p (hh0, g2)).2 = g1 at *
    intro i hi r hr9
    show (msi pf (va_cpy f5 g1 (p * 4) 0 4) p rn h1 (i * 8 + r)).toInt = _
    rw [msi_at]
    by_cases e : i = p
    · subst e
      rw [if_pos (by omega), show i * 8 + r - i * 8 = r by omega]
      have e1 : pr4 pf r (va_cpy f5 g1 (i * 4) 0 4) = prm wf r f5 (4 * i) := by
        rw [pr_same (h := va_cpy f5 g1 (i * 4) 0 4) hs hr9 (fun _ _ => rfl)]
        unfold prm
        rw [cpy_at, cpy_at, cpy_at, cpy_at, if_pos (by omega), if_pos (by omega), if_pos (by omega), if_pos (by omega)]
        rw [show i * 4 + (0 + 0 - 0) = 4 * i + 0 by omega, show i * 4 + (0 + 1 - 0) = 4 * i + 1 by omega, show i * 4 + (0 + 2 - 0) = 4 * i + 2 by omega, show i * 4 + (0 + 3 - 0) = 4 * i + 3 by omega]
      have e2 := prm_dot (f := f5) (k := i) hr hr9
      have e3 := dot4_le (wr_5 hr hr9) (hb i (by omega))
      rw [e1, Int64.toInt_toInt32, e2]
      apply Int.bmod_eq_of_le <;> omega
    · rw [if_neg (by omega)]
      exact ih i (by omega) r hr9
/-- every point of the cone that is no sum is a ray or has shares below 1 in a simplex -/
theorem irr_cover {c : MC} {yf : Nat → Int32} (h : RAYS c yf) {u : Nat → Int} (hu : IRR (xn c.rn c.zs) (XW c.wf c.rn) u) : (∃ j, j < c.yn ∧ ∀ i, i < 4 → wr c.yf j i = u i) ∨ ∃ G ch, RC (xn c.rn c.zs) (XW c.wf c.rn) c.yn (wr c.yf) (2 ^ c.yn - 1) c.sp G ch ∧ (∀ j, ¬ G.testBit j = true) ∧ 1 ≤ c.sp ∧ SHR c.yf c.yn ch c.sp u := by
  obtain ⟨hX, h12, hb, hrk, hsp⟩ := h
  obtain ⟨G, ch, rc, hG, D, cf, hD, hc, hch, e⟩ := hX.simp (fun m _ => ⟨_, hrk m⟩) (fun j hj => all_bit.mpr hj) (fun j hj => all_bit.mp hj) hsp hu.1
  by_cases big : ∃ j, j < c.yn ∧ D ≤ cf j
  · obtain ⟨j, hj, hDj⟩ := big
    refine Or.inl ⟨j, hj, fun i hi => ?_⟩
    refine (hu.eq (hX.2.2.1 j hj).1 (hX.2.2.1 j hj).2 ?_ i hi).symm
    refine Cn.shares (k := c.yn) (R := wr c.yf) (D := D) (s := fun l => cf l + -1 * (if l = j then D else 0)) hD (fun m hm => (hX.2.2.1 m hm).1) (fun m hm => ?_) (fun i hi => ?_)
    · show 0 ≤ cf m + -1 * (if m = j then D else 0)
      by_cases z : m = j
      · rw [if_pos z, z]; omega
      · rw [if_neg z]; have := hc m hm; omega
    · show D * (u i - wr c.yf j i) = isum (fun l => (cf l + -1 * (if l = j then D else 0)) * wr c.yf l i) c.yn
      have e1 : isum (fun l => (cf l + -1 * (if l = j then D else 0)) * wr c.yf l i) c.yn = isum (fun l => cf l * wr c.yf l i) c.yn + -1 * isum (fun l => (if l = j then D else 0) * wr c.yf l i) c.yn := by
        rw [← isum_mul, ← isum_add]
        exact isum_congr _ (fun l _ => by show (cf l + -1 * (if l = j then D else 0)) * wr c.yf l i = cf l * wr c.yf l i + -1 * ((if l = j then D else 0) * wr c.yf l i); grind)
      rw [e1, isum_one c.yn hj, ← e i hi]; grind
  · refine Or.inr ⟨G, ch, rc, hG, ?_, D, fun l => cf (Jn ch c.yn l), hD, fun m hm => ?_, fun i hi => ?_⟩
    · refine Nat.pos_of_ne_zero (fun z => ?_)
      have cnt := RC.cnt hX (fun j hj => all_bit.mp hj) _ _ _ rc
      obtain ⟨i, hi, hne⟩ := hu.2.1
      have := e i hi
      rw [isum_Jn (ch := ch) c.yn (fun j hj hb => by
        have : cf j = 0 := Classical.byContradiction (fun w => hb (hch j hj w))
        rw [this, Int.zero_mul]), cnt, z] at this
      have this : D * u i = 0 := this
      rcases Int.mul_eq_zero.mp this with w | w
      · omega
      · exact hne w
    · have cnt := RC.cnt hX (fun j hj => all_bit.mp hj) _ _ _ rc
      have sp := (Jn_spec (x := ch) c.yn).1 m (by omega)
      refine ⟨hc _ sp.1, ?_⟩
      refine Int.lt_of_not_ge (fun z => big ⟨_, sp.1, z⟩)
    · have cnt := RC.cnt hX (fun j hj => all_bit.mp hj) _ _ _ rc
      rw [e i hi, isum_Jn (ch := ch) c.yn (fun j hj hb => by
        have : cf j = 0 := Classical.byContradiction (fun w => hb (hch j hj w))
        rw [this, Int.zero_mul]), cnt]
/-- what the class has found, at last -/
theorem desk_bas {d : DC} {c : MC} (hd : DI d) (hc : MJ c) (hs : SY d c) (h3 : 3 ≤ d.kn) (hk : c.kn = 1) (hz : c.zs ≤ c.rk) (hlg : d.lg = 0) : BAS (xn c.rn c.zs) (XW c.wf c.rn) d.on d.of ∧ HT c.wf c.rn d.on d.of d.hh ∧ d.rc = c.rn ∧ ∀ k, k < d.on → ∀ i, i < 4 → (wr d.of k i).natAbs ≤ 20000 := by
  have hR := desk_rays hd hc hs (by omega) hk hz
  have hF := desk_faces hd hc hs (by omega) hk hz
  obtain ⟨e1, e2, e3, e4⟩ := rays_same hd hc hs (by omega) hk hz
  obtain ⟨-, -, esp⟩ := RY_holds d c hd hc hs (by omega) hk hz
  obtain ⟨hrc, hB⟩ := hd.k3 h3
  obtain ⟨s1, s2, s3⟩ := hs
  rcases hB with ⟨z, -⟩ | ⟨-, y8, nl, ck0, sk0, ek0, of0, cc0, sf0, xf0, ig0, hh0, f2, g2, f5, h6, g6, n2, n5, m1, m2, m3, m4, m5⟩
  · omega
  rw [e1] at y8 nl m2 m3
  rw [esp] at nl
  have hcut : CUTS d c := ⟨hR, hF, y8, hc, hd.dk⟩
  obtain ⟨hX, h12, hb, hrk, hsp⟩ := hR
  have f0 : 0 < d.fn := by
    obtain ⟨i, hi, -⟩ := hF.2.2.1 (2 ^ c.yn - 1) ⟨fun j hj => all_bit.mp hj, fun j hj _ => all_bit.mpr hj⟩
    omega
  obtain ⟨a1, a2, a3⟩ := hcut.all hd.fn f0 m1
  have hy : ∀ j, j < c.yn → PTS (xn c.rn c.zs) (XW c.wf c.rn) (wr c.yf j) := fun j hj => ⟨hX.2.2.1 j hj, fun i hi => Nat.le_trans (hb j hj i hi) (by decide)⟩
  have hpow : 2 ^ c.yn ≤ 2 ^ 8 := Nat.pow_le_pow_right (by decide) y8
  have spx : ∀ ch G, RC (xn c.rn c.zs) (XW c.wf c.rn) c.yn (wr c.yf) (2 ^ c.yn - 1) c.sp G ch → ∃ D : Nat, 1 ≤ D ∧ D ≤ 12 ∧ GC (D : Int) (mnI (fun l => wr c.yf (Jn ch c.yn l)) c.sp) (lev c.sp) ∧ ixv d.yf c.yn ch = nI D ∧ (lst d.yf ch c.yn).1 = c.sp ∧ mny ch c.yn = c.sp := fun ch G rc => by
    have cnt := RC.cnt hX (fun j hj => all_bit.mp hj) _ _ _ rc
    have rk := (hrk ch).uniq (rc.rk hX (fun j hj => all_bit.mp hj))
    have lt : ch < 2 ^ c.yn := bits_lt (fun j hj => ((RC.ind hX (fun j hj => all_bit.mp hj) _ _ _ rc).2.1 j hj).1)
    obtain ⟨D, d1, d2, d3, d4⟩ := spx_of e2 hb rk cnt hc.sp (fun z => nl ⟨ch, lt, by rw [pcn_mny ch (by omega), mny_hi lt 16 (by omega)]; exact cnt, rk, z⟩)
    exact ⟨D, d1, d2, d3, d4, rk, cnt⟩
  have g1 := fri_has (of0 := of0) (cc0 := cc0) e2 hy y8 c.yn (Nat.le_refl _)
  rw [m2] at g1
  obtain ⟨p1, p2, p3, p4⟩ := g1
  have p1 : SL n2 f2 := p1
  have p2 : ∀ j, j < n2 → PTS (xn c.rn c.zs) (XW c.wf c.rn) (wr f2 j) := p2
  have p3 : n2 ≤ c.yn := p3
  have p4 : ∀ j, j < c.yn → inL n2 f2 (wr c.yf j) := p4
  have g2' := ato_has (pf := d.yf) (yf := c.yf) (yn := c.yn) (k := c.sp) (sn := d.sn) (sk := d.sk) (n := xn c.rn c.zs) (W := XW c.wf c.rn) (fun j hj => (hy j hj).1.1) (fun s hs9 => by
    obtain ⟨G, rc⟩ := a3 s hs9
    obtain ⟨D, d1, d2, d3, d4, d5, d6⟩ := spx _ G rc
    refine ⟨D, d4, ?_⟩
    by_cases z : c.sp = 0
    · refine Or.inl ?_
      rw [z] at d3
      have := d3.2.1 0 (by decide)
      have this : (D : Int) ∣ 1 := this
      have := Int.le_of_dvd (by decide) this
      omega
    · exact Or.inr ⟨e2, hb, d5, d6, by omega, hc.sp, d1, d2, d3⟩) (p := ((n2, f2), ek0, sf0, xf0, ig0)) p1 p2 (by show n2 ≤ 8; omega) a1 d.sn (Nat.le_refl _)
  rw [m3] at g2'
  obtain ⟨q1, q2, q3, q4, q5⟩ := g2'
  have q1 : SL n5 f5 := q1
  have q2 : ∀ j, j < n5 → PTS (xn c.rn c.zs) (XW c.wf c.rn) (wr f5 j) := q2
  have q4 : ∀ u, inL n2 f2 u → inL n5 f5 u := q4
  have q5 : ∀ s, s < d.sn → ∀ D, ixv d.yf c.yn (d.sk s) = nI D → SPX d.yf c.yf c.yn (d.sk s) c.sp D → ∀ u, nz4 u → SHR c.yf c.yn (d.sk s) c.sp u → inL n5 f5 u := q5
  have cnd : CND c.rn c.zs c.wf n5 f5 := by
    refine ⟨q1, q2, fun u hu => ?_⟩
    rcases irr_cover ⟨hX, h12, hb, hrk, hsp⟩ hu with ⟨j, hj, ej⟩ | ⟨G, ch, rc, hG, sp1, sh⟩
    · exact q4 u ((p4 j hj).ex ej)
    · obtain ⟨s, hs9, es⟩ := a2 G ch rc hG
      obtain ⟨D, d1, d2, d3, d4, d5, d6⟩ := spx ch G rc
      rw [← es] at d3 d4 d5 d6 sh
      exact q5 s hs9 D d4 ⟨e2, hb, d5, d6, sp1, hc.sp, d1, d2, d3⟩ u hu.2.1 sh
  rw [s2] at m4 m5
  have ht := mso_HT (hh0 := hh0) (g2 := g2) hc.r8 hc.ro (fun i hi => s3 i (by omega)) (fun k hk9 i hi => (q2 k hk9).2 i hi) n5 (Nat.le_refl _)
  rw [m4] at ht
  obtain ⟨b1, b2, b3⟩ := sft_bas (zs := c.zs) hc.z2 hc.r8 hX.1 cnd ht
  rw [m5] at b1 b2 b3
  refine ⟨b1, b3, hrc.trans s2, fun k hk9 i hi => ?_⟩
  obtain ⟨j, hj, ej⟩ := cnd.2.2 _ (b1.2.1 k hk9)
  have b9 : (wr d.of k i).natAbs ≤ 20000 := by rw [← ej i hi]; exact (q2 j hj).2 i hi
  exact b9
