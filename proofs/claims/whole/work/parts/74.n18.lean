/-! ===== own rows: class and reference, 18 ===== -/
-- ranks of sets of rays, closed sets
def mV (m : Nat) (V : Nat → Nat → Int) : Nat → Nat → Int := fun j => if m.testBit j = true then V j else fun _ => 0
def Rk (N : Nat) (V : Nat → Nat → Int) (m R : Nat) : Prop := RNK N (mV m V) R
def msub (m k : Nat) : Prop := ∀ j, m.testBit j = true → k.testBit j = true
theorem mV_y {m j : Nat} {V : Nat → Nat → Int} (h : m.testBit j = true) : mV m V j = V j := if_pos h
theorem mV_n {m j : Nat} {V : Nat → Nat → Int} (h : ¬ m.testBit j = true) : mV m V j = fun _ => 0 := if_neg h
theorem Sp.in {N m j : Nat} {V : Nat → Nat → Int} (hj : j < N) (h : m.testBit j = true) : Sp N (mV m V) (V j) := by
  have := Sp.mem (n := N) (t := mV m V) hj
  rw [mV_y h] at this; exact this
theorem Sp.sub {N m k : Nat} {V : Nat → Nat → Int} {x : Nat → Int} (h : msub m k) (hx : Sp N (mV m V) x) : Sp N (mV k V) x := by
  refine hx.trans (fun i hi => ?_)
  by_cases e : m.testBit i = true
  · rw [mV_y e]; exact Sp.in hi (h i e)
  · rw [mV_n e]; exact Sp.zero (fun _ _ => rfl)
theorem Rk.mono {N m k R S : Nat} {V : Nat → Nat → Int} (h : msub m k) (hm : Rk N V m R) (hk : Rk N V k S) : R ≤ S := by
  obtain ⟨t, a1, a2, -⟩ := hm
  obtain ⟨u, -, -, b3⟩ := hk
  exact a1.le (fun i hi => ((a2 i hi).sub h).trans b3)
theorem Rk.uniq {N m R S : Nat} {V : Nat → Nat → Int} (hm : Rk N V m R) (hk : Rk N V m S) : R = S := by
  have h1 := hm.mono (fun _ h => h) hk
  have h2 := hk.mono (fun _ h => h) hm
  omega
theorem Ind.ext {R : Nat} {s : Nat → Nat → Int} {x : Nat → Int} (h : Ind R s) (hx : ¬ Sp R s x) : Ind (R + 1) (fun i => if i < R then s i else x) := by
  intro y hy
  have e : ∀ q, q < 4 → isum (fun i => y i * s i q) R + y R * x q = 0 := fun q hq => by
    have := hy q hq
    have e1 : isum (fun i => y i * (if i < R then s i else x) q) (R + 1) = isum (fun i => y i * (if i < R then s i else x) q) R + y R * (if R < R then s R else x) q := rfl
    rw [e1, if_neg (Nat.lt_irrefl R), isum_congr (g := fun i => y i * s i q) R (fun i hi => by rw [if_pos hi])] at this
    exact this
  have hR : y R = 0 := Classical.byContradiction (fun z => hx ⟨y R, fun i => -1 * y i, z, fun q hq => by
    have := e q hq
    have e2 : isum (fun i => -1 * y i * s i q) R = -1 * isum (fun i => y i * s i q) R := by
      rw [← isum_mul]; exact isum_congr R (fun i _ => by rw [Int.mul_assoc])
    rw [e2]; omega⟩)
  have hlt := h y (fun q hq => by have := e q hq; rw [hR] at this; omega)
  intro i hi
  by_cases e : i = R
  · rw [e]; exact hR
  · exact hlt i (by omega)
theorem exch {R : Nat} {s t : Nat → Nat → Int} {x : Nat → Int} (hs : Ind R s) (h : ∀ i, i < R → Sp R t (s i)) (hx : Sp R t x) : Sp R s x :=
  Classical.byContradiction (fun z => by
    have := (hs.ext z).le (r := R) (t := t) (fun i hi => by
      by_cases e : i < R
      · show Sp R t (if i < R then s i else x)
        rw [if_pos e]; exact h i e
      · show Sp R t (if i < R then s i else x)
        rw [if_neg e]; exact hx)
    omega)
theorem Rk.same {N m k R : Nat} {V : Nat → Nat → Int} (h : msub m k) (hm : Rk N V m R) (hk : Rk N V k R) {j : Nat} (hj : j < N) (hb : k.testBit j = true) : Sp N (mV m V) (V j) := by
  obtain ⟨t, a1, a2, -⟩ := hm
  obtain ⟨u, -, -, b3⟩ := hk
  have h1 := b3 j hj
  rw [mV_y hb] at h1
  exact (exch a1 (fun i hi => ((a2 i hi).sub h).trans b3) h1).trans a2
theorem Sp.row {N m : Nat} {V : Nat → Nat → Int} {x l : Nat → Int} (hx : Sp N (mV m V) x) (h : ∀ j, j < N → m.testBit j = true → dot4 l (V j) = 0) : dot4 l x = 0 := by
  obtain ⟨D, c, hD, e⟩ := hx
  have h1 := dot4_smul (l := l) e
  rw [isum_dot, isum_zero N (fun j hj => by
    by_cases b : m.testBit j = true
    · rw [mV_y b, h j hj b, Int.mul_zero]
    · rw [mV_n b, dot4_z (fun _ _ => rfl), Int.mul_zero])] at h1
  exact (Int.mul_eq_zero.mp h1).resolve_left hD
/-- a row is tight on a set -/
def TM (W : Nat → Nat → Int) (N : Nat) (V : Nat → Nat → Int) (m k : Nat) : Prop := ∀ q, q < N → m.testBit q = true → dot4 (W k) (V q) = 0
def Cl (n : Nat) (W : Nat → Nat → Int) (N : Nat) (V : Nat → Nat → Int) (m : Nat) : Prop := ∀ j, j < N → (∀ k, k < n → TM W N V m k → dot4 (W k) (V j) = 0) → m.testBit j = true
/-- a cone with its rays -/
def CX (n : Nat) (W : Nat → Nat → Int) (N : Nat) (V : Nat → Nat → Int) : Prop := Ptd n W ∧ CMP n W N V ∧ (∀ j, j < N → Cn n W (V j) ∧ nz4 (V j)) ∧ (∀ j k, j < N → k < N → ¬ j = k → NP (V j) (V k)) ∧ ∀ j, j < N → ∃ a b c, a < n ∧ b < n ∧ c < n ∧ AX (W a) (W b) (W c) (V j)
theorem CX.ext {n N : Nat} {W V : Nat → Nat → Int} (h : CX n W N V) {j k : Nat} (hj : j < N) (hk : k < N) (ht : Tle n W (V j) (V k)) : j = k := Classical.byContradiction (fun ne => by
  obtain ⟨-, -, -, h4, h5⟩ := h
  obtain ⟨a, b, c, ha, hb, hc, A⟩ := h5 j hj
  obtain ⟨za, zb, zc⟩ := A.dots
  exact A.some (h4 k j hk hj (fun z => ne z.symm)) ⟨ht a ha za, ht b hb zb, ht c hc zc⟩)
/-- a ray is no sum of another one and a point of the cone -/
theorem CX.nosum {n N : Nat} {W V : Nat → Nat → Int} (h : CX n W N V) {j k : Nat} {y : Nat → Int} {D p : Int} (hj : j < N) (hk : k < N) (ne : ¬ j = k) (hy : Cn n W y) (hp : 0 < p) (e : ∀ i, i < 4 → D * V j i = p * V k i + y i) : False := by
  refine ne (h.ext hj hk (fun r hr ht => ?_))
  have h1 := dot4_smul (l := W r) (x := V j) (y := fun i => p * V k i + 1 * y i) (g := D) (fun i hi => by rw [e i hi]; omega)
  rw [ht, Int.mul_zero, dot4_2 (a := p) (b := 1) (x := V k) (y := y) (fun i hi => rfl)] at h1
  have h2 := (h.2.2.1 k hk).1 r hr
  have h3 := hy r hr
  have h4 := Int.mul_nonneg (Int.le_of_lt hp) h2
  have h5 : p * dot4 (W r) (V k) = 0 := by omega
  exact (Int.mul_eq_zero.mp h5).resolve_left (by omega)
theorem Cn.smul {n : Nat} {W : Nat → Nat → Int} {x : Nat → Int} {a : Int} (h : Cn n W x) (ha : 0 ≤ a) : Cn n W (fun i => a * x i) := fun k hk => by
  rw [← dot4_smul (l := W k) (x := x) (g := a) (fun i hi => rfl)]
  exact Int.mul_nonneg ha (h k hk)
theorem CX.no3 {n N : Nat} {W V : Nat → Nat → Int} (h : CX n W N V) {u v w : Nat} (hu : u < N) (hv : v < N) (hw : w < N) (uv : ¬ u = v) (vw : ¬ v = w) (uw : ¬ u = w) {D p q : Int} (hD : ¬ D = 0) (e : ∀ i, i < 4 → D * V v i = p * V u i + q * V w i) : False := by
  have main : ∀ D p q : Int, 0 < D → (∀ i, i < 4 → D * V v i = p * V u i + q * V w i) → False := by
    intro D p q hD e
    rcases Int.lt_trichotomy p 0 with hp | hp | hp
    · rcases Int.lt_or_le 0 q with hq | hq
      · exact h.nosum (j := w) (k := v) (D := q) (p := D) (y := fun i => (-p) * V u i) hw hv (fun z => vw z.symm) ((h.2.2.1 u hu).1.smul (by omega)) hD (fun i hi => by have := e i hi; show q * V w i = D * V v i + -p * V u i; rw [Int.neg_mul]; omega)
      · obtain ⟨hp0, -, h3, -, -⟩ := h
        obtain ⟨i, hi, hne⟩ := (h3 v hv).2
        refine hne (hp0 (V v) (fun k hk => ?_) i hi)
        have h1 := dot4_smul (l := W k) (x := V v) (y := fun i => p * V u i + q * V w i) (g := D) e
        rw [dot4_2 (a := p) (b := q) (x := V u) (y := V w) (fun i hi => rfl)] at h1
        have a1 := (h3 v hv).1 k hk
        have a2 := Int.mul_nonneg (show 0 ≤ -p by omega) ((h3 u hu).1 k hk)
        have a3 := Int.mul_nonneg (show 0 ≤ -q by omega) ((h3 w hw).1 k hk)
        have a4 := Int.mul_nonneg (Int.le_of_lt hD) a1
        rw [Int.neg_mul] at a2 a3
        have : D * dot4 (W k) (V v) = 0 := by omega
        exact (Int.mul_eq_zero.mp this).resolve_left (by omega)
    · exact h.2.2.2.1 v w hv hw vw D q (by omega) (fun i hi => by rw [e i hi, hp]; omega)
    · rcases Int.lt_or_le q 0 with hq | hq
      · exact h.nosum (j := u) (k := v) (D := p) (p := D) (y := fun i => (-q) * V w i) hu hv uv ((h.2.2.1 w hw).1.smul (by omega)) hD (fun i hi => by have := e i hi; show p * V u i = D * V v i + -q * V w i; rw [Int.neg_mul]; omega)
      · exact h.nosum (j := v) (k := u) (D := D) (p := p) (y := fun i => q * V w i) hv hu (fun z => uv z.symm) ((h.2.2.1 w hw).1.smul hq) hp e
  rcases Int.lt_or_lt_of_ne hD with hD | hD
  · exact main (-D) (-p) (-q) (by omega) (fun i hi => by have := e i hi; rw [Int.neg_mul, Int.neg_mul, Int.neg_mul]; omega)
  · exact main D p q hD e
def two (a b : Nat → Int) : Nat → Nat → Int := fun i => if i = 0 then a else b
theorem isum_2 (f : Nat → Int) : isum f 2 = f 0 + f 1 := by show 0 + f 0 + f 1 = _; omega
theorem Ind.two {u w : Nat → Int} (h : NP u w) (hw : nz4 w) : Ind 2 (two u w) := by
  intro y hy
  have e : ∀ q, q < 4 → y 0 * u q + y 1 * w q = 0 := fun q hq => by have := hy q hq; rw [isum_2] at this; exact this
  have h0 : y 0 = 0 := Classical.byContradiction (fun z => h (y 0) (-y 1) z (fun i hi => by have := e i hi; rw [Int.neg_mul]; omega))
  have h1 : y 1 = 0 := by
    obtain ⟨i, hi, hne⟩ := hw
    have := e i hi
    rw [h0, Int.zero_mul, Int.zero_add] at this
    exact (Int.mul_eq_zero.mp this).resolve_right hne
  intro i hi
  rcases (show i = 0 ∨ i = 1 by omega) with rfl | rfl
  · exact h0
  · exact h1
theorem CX.ind2 {n N : Nat} {W V : Nat → Nat → Int} (h : CX n W N V) {u w : Nat} (hu : u < N) (hw : w < N) (uw : ¬ u = w) : Ind 2 (two (V u) (V w)) := Ind.two (h.2.2.2.1 u w hu hw uw) (h.2.2.1 w hw).2
theorem CX.nosp {n N : Nat} {W V : Nat → Nat → Int} (h : CX n W N V) {u v w : Nat} (hu : u < N) (hv : v < N) (hw : w < N) (uv : ¬ u = v) (vw : ¬ v = w) (uw : ¬ u = w) : ¬ Sp 2 (two (V u) (V w)) (V v) := fun ⟨D, c, hD, e⟩ =>
  h.no3 hu hv hw uv vw uw (p := c 0) (q := c 1) hD (fun i hi => by have := e i hi; rw [isum_2] at this; exact this)
theorem Rk.zero {n N m : Nat} {W V : Nat → Nat → Int} (h : CX n W N V) (hm : Rk N V m 0) {j : Nat} (hj : j < N) : ¬ m.testBit j = true := fun b => by
  obtain ⟨t, -, -, a3⟩ := hm
  obtain ⟨D, c, hD, e⟩ := a3 j hj
  rw [mV_y b] at e
  obtain ⟨i, hi, hne⟩ := (h.2.2.1 j hj).2
  exact hne ((Int.mul_eq_zero.mp (e i hi)).resolve_left hD)
theorem Rk.none {N m R : Nat} {V : Nat → Nat → Int} (hm : Rk N V m R) (hn : ∀ j, j < N → ¬ m.testBit j = true) : R = 0 := by
  obtain ⟨t, a1, a2, -⟩ := hm
  have := a1.le (r := 0) (t := fun _ _ => 0) (fun i hi => (a2 i hi).trans (fun j hj => by rw [mV_n (hn j hj)]; exact Sp.zero (fun _ _ => rfl)))
  omega
theorem Rk.single {N m R u : Nat} {V : Nat → Nat → Int} (hm : Rk N V m R) (hn : ∀ j, j < N → m.testBit j = true → j = u) : R ≤ 1 := by
  obtain ⟨t, a1, a2, -⟩ := hm
  exact a1.le (r := 1) (t := fun _ => V u) (fun i hi => (a2 i hi).trans (fun j hj => by
    by_cases b : m.testBit j = true
    · rw [mV_y b, hn j hj b]; exact Sp.mem (n := 1) (t := fun _ => V u) (k := 0) (by decide)
    · rw [mV_n b]; exact Sp.zero (fun _ _ => rfl)))
theorem Rk.pair {n N m R u w : Nat} {W V : Nat → Nat → Int} (h : CX n W N V) (hm : Rk N V m R) (hu : u < N) (hw : w < N) (bu : m.testBit u = true) (bw : m.testBit w = true) (uw : ¬ u = w) : 2 ≤ R := by
  obtain ⟨t, a1, a2, a3⟩ := hm
  refine (h.ind2 hu hw uw).le (t := t) (fun i hi => ?_)
  rcases (show i = 0 ∨ i = 1 by omega) with rfl | rfl
  · have := a3 u hu; rw [mV_y bu] at this; exact this
  · have := a3 w hw; rw [mV_y bw] at this; exact this
theorem Rk.three {n N m R u v w : Nat} {W V : Nat → Nat → Int} (h : CX n W N V) (hm : Rk N V m R) (hu : u < N) (hv : v < N) (hw : w < N) (bu : m.testBit u = true) (bv : m.testBit v = true) (bw : m.testBit w = true) (uv : ¬ u = v) (vw : ¬ v = w) (uw : ¬ u = w) : 3 ≤ R := by
  obtain ⟨t, a1, a2, a3⟩ := hm
  refine ((h.ind2 hu hw uw).ext (h.nosp hu hv hw uv vw uw)).le (t := t) (fun i hi => ?_)
  rcases (show i = 0 ∨ i = 1 ∨ i = 2 by omega) with rfl | rfl | rfl
  · have := a3 u hu; rw [mV_y bu] at this; exact this
  · have := a3 w hw; rw [mV_y bw] at this; exact this
  · have := a3 v hv; rw [mV_y bv] at this; exact this
theorem Rk.one {n N m : Nat} {W V : Nat → Nat → Int} (h : CX n W N V) (hm : Rk N V m 1) : ∃ u, u < N ∧ m.testBit u = true ∧ ∀ j, j < N → m.testBit j = true → j = u := by
  by_cases e : ∃ u, u < N ∧ m.testBit u = true
  · obtain ⟨u, hu, bu⟩ := e
    refine ⟨u, hu, bu, fun j hj bj => Classical.byContradiction (fun z => ?_)⟩
    have := hm.pair h hj hu bj bu z
    omega
  · have := hm.none (fun j hj b => e ⟨j, hj, b⟩)
    omega
theorem Rk.two {n N m : Nat} {W V : Nat → Nat → Int} (h : CX n W N V) (hm : Rk N V m 2) : ∃ u w, u < N ∧ w < N ∧ u < w ∧ m.testBit u = true ∧ m.testBit w = true ∧ ∀ j, j < N → m.testBit j = true → j = u ∨ j = w := by
  by_cases e : ∃ u w, u < N ∧ w < N ∧ u < w ∧ m.testBit u = true ∧ m.testBit w = true
  · obtain ⟨u, w, hu, hw, uw, bu, bw⟩ := e
    refine ⟨u, w, hu, hw, uw, bu, bw, fun j hj bj => Classical.byContradiction (fun z => ?_)⟩
    have := hm.three h hu hj hw bu bj bw (fun q => z (Or.inl q.symm)) (fun q => z (Or.inr q)) (by omega)
    omega
  · exfalso
    by_cases e1 : ∃ u, u < N ∧ m.testBit u = true
    · obtain ⟨u, hu, bu⟩ := e1
      have := hm.single (u := u) (fun j hj bj => Classical.byContradiction (fun z => by
        rcases Nat.lt_or_gt_of_ne z with q | q
        · exact e ⟨j, u, hj, hu, q, bj, bu⟩
        · exact e ⟨u, j, hu, hj, q, bu, bj⟩))
      omega
    · have := hm.none (fun j hj b => e1 ⟨j, hj, b⟩)
      omega
/-- a closed set of full rank is all -/
theorem Cl.full {n N m k R : Nat} {W V : Nat → Nat → Int} (hc : Cl n W N V m) (hs : msub m k) (hm : Rk N V m R) (hk : Rk N V k R) : ∀ j, j < N → k.testBit j = true → m.testBit j = true := fun j hj b =>
  hc j hj (fun r hr ht => (hm.same hs hk hj b).row ht)
/-- a closed set of one rank less is what a row is tight at -/
theorem Cl.side {n N m k R : Nat} {W V : Nat → Nat → Int} {T : Nat → Nat} {dm : Nat → Nat} (hT : ∀ r, r < n → ∀ j, j < N → ((T r).testBit j = true ↔ dot4 (W r) (V j) = 0)) (hTN : ∀ r, r < n → ∀ j, (T r).testBit j = true → j < N) (hd : ∀ r, r < n → ∃ R, Rk N V (T r) R) (ha : ∀ j, j < N → k.testBit j = true) (hmN : ∀ j, m.testBit j = true → j < N) (hc : Cl n W N V m) (hm : Rk N V m R) (hk : Rk N V k (R + 1)) : ∃ r, r < n ∧ ∀ j, j < N → (m.testBit j = true ↔ dot4 (W r) (V j) = 0) := by
  have hmk : msub m k := fun j b => ha j (hmN j b)
  have : ∃ r, r < n ∧ TM W N V m r ∧ ¬ TM W N V k r := Classical.byContradiction (fun z => by
    have hb : ∀ j, j < N → m.testBit j = true := fun j hj => hc j hj (fun r hr ht => Classical.byContradiction (fun w => z ⟨r, hr, ht, fun q => w (q j hj (ha j hj))⟩))
    have hkm : Rk N V k R := by
      obtain ⟨t, a1, a2, a3⟩ := hm
      refine ⟨t, a1, fun i hi => (a2 i hi).sub hmk, fun j hj => ?_⟩
      have := a3 j hj
      rw [mV_y (hb j hj)] at this
      rw [mV_y (ha j hj)]; exact this
    have := hk.uniq hkm
    omega)
  obtain ⟨r, hr, tr, nr⟩ := this
  refine ⟨r, hr, ?_⟩
  obtain ⟨S, hS⟩ := hd r hr
  have hmT : msub m (T r) := fun j b => (hT r hr j (hmN j b)).mpr (tr j (hmN j b) b)
  have hTk : msub (T r) k := fun j b => ha j (hTN r hr j b)
  have l1 := hm.mono hmT hS
  have l2 := hS.mono hTk hk
  have ne : ¬ S = R + 1 := fun e => nr (fun j hj b => by
    subst e
    exact (hS.same hTk hk hj b).row (fun q hq bq => (hT r hr q hq).mp bq))
  have eS : S = R := by omega
  subst eS
  intro j hj
  constructor
  · exact fun b => tr j hj b
  · intro hz
    exact hc j hj (fun q hq tq => (hm.same hmT hS hj ((hT r hr j hj).mpr hz)).row tq)
/-- the sum of a set of rays -/
def psum (N : Nat) (V : Nat → Nat → Int) (m : Nat) : Nat → Int := fun i => isum (fun j => (if m.testBit j = true then 1 else 0) * V j i) N
theorem isum_nn {f : Nat → Int} : ∀ n, (∀ i, i < n → 0 ≤ f i) → 0 ≤ isum f n
  | 0, _ => Int.le_refl 0
  | n + 1, h => by
    have h1 := isum_nn n (fun i hi => h i (by omega))
    have h2 := h n (by omega)
    show 0 ≤ isum f n + f n
    omega
theorem isum_z {f : Nat → Int} : ∀ n, (∀ i, i < n → 0 ≤ f i) → isum f n = 0 → ∀ i, i < n → f i = 0
  | 0, _, _ => fun i hi => absurd hi (by omega)
  | n + 1, h, e => by
    have h1 := isum_nn n (fun i hi => h i (by omega))
    have h2 := h n (by omega)
    have e : isum f n + f n = 0 := e
    have ih := isum_z n (fun i hi => h i (by omega)) (by omega)
    intro i hi
    by_cases q : i = n
    · subst q; omega
    · exact ih i (by omega)
theorem psum_nn {n N m k : Nat} {W V : Nat → Nat → Int} (h : CX n W N V) (hk : k < n) : ∀ j, j < N → 0 ≤ (if m.testBit j = true then (1 : Int) else 0) * dot4 (W k) (V j) := fun j hj => by
  have := (h.2.2.1 j hj).1 k hk
  split <;> omega
theorem psum_Cn {n N m : Nat} {W V : Nat → Nat → Int} (h : CX n W N V) : Cn n W (psum N V m) := fun k hk => by
  show 0 ≤ dot4 (W k) (fun i => isum (fun j => (if m.testBit j = true then 1 else 0) * V j i) N)
  rw [isum_dot]
  exact isum_nn N (psum_nn h hk)
theorem psum_t {n N m k : Nat} {W V : Nat → Nat → Int} (h : CX n W N V) (hk : k < n) : dot4 (W k) (psum N V m) = 0 ↔ TM W N V m k := by
  have e : dot4 (W k) (psum N V m) = isum (fun j => (if m.testBit j = true then (1 : Int) else 0) * dot4 (W k) (V j)) N := isum_dot N
  rw [e]
  constructor
  · intro z q hq b
    have := isum_z N (psum_nn h hk) z q hq
    rw [if_pos b, Int.one_mul] at this
    exact this
  · intro t
    refine isum_zero N (fun j hj => ?_)
    by_cases b : m.testBit j = true
    · rw [t j hj b, Int.mul_zero]
    · rw [if_neg b, Int.zero_mul]
/-- a point of the cone at which all is tight that is tight on a closed set is a sum of its rays -/
theorem CX.mwm {n N m : Nat} {W V : Nat → Nat → Int} (h : CX n W N V) (hc : Cl n W N V m) {x : Nat → Int} (hx : Cn n W x) (ht : ∀ k, k < n → TM W N V m k → dot4 (W k) x = 0) : ∃ (D : Int) (c : Nat → Int), 0 < D ∧ (∀ j, j < N → 0 ≤ c j) ∧ (∀ j, j < N → ¬ c j = 0 → m.testBit j = true ∧ Tle n W x (V j)) ∧ ∀ i, i < 4 → D * x i = isum (fun j => c j * V j i) N := by
  obtain ⟨D, c, hD, hn, hb, e⟩ := mw h.1 h.2.1 h.2.2.1 _ x (Nat.le_refl _) hx
  exact ⟨D, c, hD, hn, fun j hj hne => ⟨hc j hj (fun k hk tk => hb j hj hne k hk (ht k hk tk)), hb j hj hne⟩, e⟩
/-- what is across all that is tight on a closed set is in its span -/
theorem CX.spm {n N m : Nat} {W V : Nat → Nat → Int} (h : CX n W N V) (hc : Cl n W N V m) {y : Nat → Int} (ht : ∀ k, k < n → TM W N V m k → dot4 (W k) y = 0) : Sp N (mV m V) y := by
  obtain ⟨D, c, hD, hb, e⟩ := spd h.1 h.2.1 h.2.2.1 (psum_Cn (m := m) h) (y := y) (fun k hk z => ht k hk ((psum_t h hk).mp z))
  refine ⟨D, c, by omega, fun q hq => ?_⟩
  rw [e q hq]
  refine isum_congr N (fun j hj => ?_)
  by_cases z : c j = 0
  · rw [z, Int.zero_mul, Int.zero_mul]
  · rw [mV_y (hc j hj (fun k hk tk => hb j hj z k hk ((psum_t h hk).mpr tk)))]
theorem par_of {u w : Nat → Int} (hw : nz4 w) (h : dot4 u u * dot4 w w = dot4 u w * dot4 u w) : ¬ NP u w := fun np => by
  refine np (dot4 w w) (dot4 u w) (by have := dot4_pos hw; omega) ?_
  have l := lagr u w
  have q := fun x => sq_nn x
  have z : ∀ x : Int, x * x = 0 → x = 0 := fun x hx => by rcases Int.mul_eq_zero.mp hx with e | e <;> exact e
  have s1 := q (u 0 * w 1 - u 1 * w 0); have s2 := q (u 0 * w 2 - u 2 * w 0); have s3 := q (u 0 * w 3 - u 3 * w 0)
  have s4 := q (u 1 * w 2 - u 2 * w 1); have s5 := q (u 1 * w 3 - u 3 * w 1); have s6 := q (u 2 * w 3 - u 3 * w 2)
  have m1 := z (u 0 * w 1 - u 1 * w 0) (by omega); have m2 := z (u 0 * w 2 - u 2 * w 0) (by omega); have m3 := z (u 0 * w 3 - u 3 * w 0) (by omega)
  have m4 := z (u 1 * w 2 - u 2 * w 1) (by omega); have m5 := z (u 1 * w 3 - u 3 * w 1) (by omega); have m6 := z (u 2 * w 3 - u 3 * w 2) (by omega)
  intro i hi
  unfold dot4
  rcases (show i = 0 ∨ i = 1 ∨ i = 2 ∨ i = 3 by omega) with rfl | rfl | rfl | rfl <;> grind
/-- an edge lies on two independent rows -/
theorem CX.edge {n N m u w : Nat} {W V : Nat → Nat → Int} (h : CX n W N V) (hc : Cl n W N V m) (hu : u < N) (hw : w < N) (uw : ¬ u = w) (bu : m.testBit u = true) (bw : m.testBit w = true) (ho : ∀ j, j < N → m.testBit j = true → j = u ∨ j = w) : ∃ f g, f < n ∧ g < n ∧ TM W N V m f ∧ TM W N V m g ∧ ¬ dot4 (W g) (crs (W f) (V w) (V u)) = 0 := Classical.byContradiction (fun hno => by
  have key : ∀ y, nz4 y → dot4 y (V u) = 0 → dot4 y (V w) = 0 → (∀ k, k < n → TM W N V m k → dot4 (W k) y = 0) → False := by
    intro y hy yu yw ht
    have s := h.spm hc ht
    have z : dot4 y y = 0 := s.row (fun j hj b => by
      rcases ho j hj b with e | e
      · rw [e]; exact yu
      · rw [e]; exact yw)
    have := dot4_pos hy
    omega
  by_cases hf : ∃ f, f < n ∧ TM W N V m f ∧ nz4 (crs (W f) (V w) (V u))
  · obtain ⟨f, hf, tf, nf⟩ := hf
    refine key (crs (W f) (V w) (V u)) nf (by rw [dot4_comm]; exact crs_c _ _ _) (by rw [dot4_comm]; exact crs_b _ _ _) (fun k hk tk => Classical.byContradiction (fun z => hno ⟨f, k, hf, hk, tf, tk, z⟩))
  · have : ∃ k, k < 4 ∧ nz4 (crs (V u) (V w) (un k)) := Classical.byContradiction (fun z => par_of (h.2.2.1 w hw).2 (crs_un (fun k hk q => z ⟨k, hk, q⟩)) (h.2.2.2.1 u w hu hw uw))
    obtain ⟨k, hk, hz⟩ := this
    refine key _ hz (by rw [dot4_comm]; exact crs_a _ _ _) (by rw [dot4_comm]; exact crs_b _ _ _) (fun r hr tr => ?_)
    have e : dot4 (W r) (crs (V u) (V w) (un k)) = dot4 (un k) (crs (W r) (V w) (V u)) := by unfold dot4; simp only [crs]; grind
    rw [e]
    exact dot4_z (nz4_not (fun q => hf ⟨r, hr, tr, q⟩)))
