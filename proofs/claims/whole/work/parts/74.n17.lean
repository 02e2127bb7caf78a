/-! ===== own rows: class and reference, 17 ===== -/
-- cones: rows, rays, what is a sum of rays
def Cn (n : Nat) (W : Nat → Nat → Int) (x : Nat → Int) : Prop := ∀ k, k < n → 0 ≤ dot4 (W k) x
def nz4 (x : Nat → Int) : Prop := ∃ i, i < 4 ∧ ¬ x i = 0
/-- what is tight at x is tight at y -/
def Tle (n : Nat) (W : Nat → Nat → Int) (x y : Nat → Int) : Prop := ∀ k, k < n → dot4 (W k) x = 0 → dot4 (W k) y = 0
def Ptd (n : Nat) (W : Nat → Nat → Int) : Prop := ∀ y : Nat → Int, (∀ k, k < n → dot4 (W k) y = 0) → ∀ i, i < 4 → y i = 0
/-- every direction across three rows is among the rays -/
def CMP (n : Nat) (W : Nat → Nat → Int) (N : Nat) (V : Nat → Nat → Int) : Prop := ∀ x a b c, Cn n W x → a < n → b < n → c < n → dot4 (W a) x = 0 → dot4 (W b) x = 0 → dot4 (W c) x = 0 → nz4 (crs (W a) (W b) (W c)) → nz4 x → ∃ j, j < N ∧ ∃ p q : Int, 0 < p ∧ 0 < q ∧ ∀ i, i < 4 → p * x i = q * V j i
theorem nz4_not {x : Nat → Int} (h : ¬ nz4 x) : ∀ i, i < 4 → x i = 0 := fun i hi => Classical.byContradiction (fun z => h ⟨i, hi, z⟩)
theorem dot4_z {l x : Nat → Int} (h : ∀ i, i < 4 → x i = 0) : dot4 l x = 0 := by
  unfold dot4; rw [h 0 (by decide), h 1 (by decide), h 2 (by decide), h 3 (by decide)]; simp
theorem dot4_zl {l x : Nat → Int} (h : ∀ i, i < 4 → l i = 0) : dot4 l x = 0 := by rw [dot4_comm]; exact dot4_z h
theorem dot4_2 {l x y z : Nat → Int} {a b : Int} (h : ∀ i, i < 4 → z i = a * x i + b * y i) : dot4 l z = a * dot4 l x + b * dot4 l y := by
  unfold dot4; rw [h 0 (by decide), h 1 (by decide), h 2 (by decide), h 3 (by decide)]; grind
theorem nz4_dot {x y : Nat → Int} (h : ¬ dot4 x y = 0) : nz4 y := Classical.byContradiction (fun z => h (dot4_z (nz4_not z)))
theorem dot_self {x : Nat → Int} (h : dot4 x x = 0) : ∀ i, i < 4 → x i = 0 := nz4_not (fun z => by have := dot4_pos z; omega)
/-- number of rows that are not tight -/
def nt (W : Nat → Nat → Int) (x : Nat → Int) : Nat → Nat
  | 0 => 0
  | k + 1 => nt W x k + if dot4 (W k) x = 0 then 0 else 1
theorem nt_le {W : Nat → Nat → Int} {x y : Nat → Int} : ∀ n, Tle n W x y → nt W y n ≤ nt W x n
  | 0, _ => Nat.le_refl 0
  | k + 1, h => by
    have ih := nt_le k (fun q hq => h q (by omega))
    show nt W y k + (if dot4 (W k) y = 0 then 0 else 1) ≤ nt W x k + (if dot4 (W k) x = 0 then 0 else 1)
    by_cases e : dot4 (W k) x = 0
    · rw [if_pos e, if_pos (h k (by omega) e)]; omega
    · rw [if_neg e]; split <;> omega
theorem nt_lt {W : Nat → Nat → Int} {x y : Nat → Int} {r : Nat} : ∀ n, Tle n W x y → r < n → ¬ dot4 (W r) x = 0 → dot4 (W r) y = 0 → nt W y n < nt W x n
  | 0, _, h, _, _ => absurd h (by omega)
  | k + 1, h, hr, h1, h2 => by
    show nt W y k + (if dot4 (W k) y = 0 then 0 else 1) < nt W x k + (if dot4 (W k) x = 0 then 0 else 1)
    by_cases e : r = k
    · subst e
      have := nt_le r (fun q hq => h q (by omega))
      rw [if_pos h2, if_neg h1]; omega
    · have ih := nt_lt k (fun q hq => h q (by omega)) (by omega) h1 h2
      by_cases e : dot4 (W k) x = 0
      · rw [if_pos e, if_pos (h k (by omega) e)]; omega
      · rw [if_neg e]; split <;> omega
/-- the least quotient -/
theorem argmin {P : Nat → Prop} {f g : Nat → Int} : ∀ n, (∃ k, k < n ∧ P k) → (∀ k, k < n → P k → 0 < g k) → ∃ r, r < n ∧ P r ∧ ∀ k, k < n → P k → f r * g k ≤ f k * g r
  | 0, ⟨k, hk, _⟩, _ => absurd hk (by omega)
  | n + 1, h, hg => by
    by_cases hn : ∃ k, k < n ∧ P k
    · obtain ⟨r, hr, pr, hm⟩ := argmin n hn (fun k hk => hg k (by omega))
      by_cases pn : P n ∧ f n * g r < f r * g n
      · obtain ⟨pn, hlt⟩ := pn
        refine ⟨n, by omega, pn, fun k hk pk => ?_⟩
        by_cases e : k = n
        · subst e; exact Int.le_refl _
        · have h1 := hm k (by omega) pk
          have gr := hg r (by omega) pr
          have gk := hg k hk pk
          have gn := hg n (by omega) pn
          have a1 : (f n * g r) * g k ≤ (f r * g n) * g k := Int.mul_le_mul_of_nonneg_right (Int.le_of_lt hlt) (Int.le_of_lt gk)
          have a2 : (f r * g k) * g n ≤ (f k * g r) * g n := Int.mul_le_mul_of_nonneg_right h1 (Int.le_of_lt gn)
          have a3 : (f n * g k) * g r ≤ (f k * g n) * g r := by
            have e1 : (f n * g r) * g k = (f n * g k) * g r := by grind
            have e2 : (f r * g n) * g k = (f r * g k) * g n := by grind
            have e3 : (f k * g r) * g n = (f k * g n) * g r := by grind
            omega
          exact Int.le_of_mul_le_mul_right a3 gr
      · refine ⟨r, by omega, pr, fun k hk pk => ?_⟩
        by_cases e : k = n
        · subst e; exact Int.not_lt.mp (fun z => pn ⟨pk, z⟩)
        · exact hm k (by omega) pk
    · obtain ⟨k, hk, pk⟩ := h
      have e : k = n := Classical.byContradiction (fun z => hn ⟨k, by omega, pk⟩)
      subst e
      refine ⟨k, by omega, pk, fun q hq pq => ?_⟩
      have e : q = k := Classical.byContradiction (fun z => hn ⟨q, by omega, pq⟩)
      subst e; exact Int.le_refl _
theorem lagr (a x : Nat → Int) : dot4 a a * dot4 x x = dot4 a x * dot4 a x + ((a 0 * x 1 - a 1 * x 0) * (a 0 * x 1 - a 1 * x 0) + (a 0 * x 2 - a 2 * x 0) * (a 0 * x 2 - a 2 * x 0) + (a 0 * x 3 - a 3 * x 0) * (a 0 * x 3 - a 3 * x 0) + (a 1 * x 2 - a 2 * x 1) * (a 1 * x 2 - a 2 * x 1) + (a 1 * x 3 - a 3 * x 1) * (a 1 * x 3 - a 3 * x 1) + (a 2 * x 3 - a 3 * x 2) * (a 2 * x 3 - a 3 * x 2)) := by
  unfold dot4; grind
/-- two vectors: a third one, or they are in one line -/
theorem crs_un {a x : Nat → Int} (h : ∀ k, k < 4 → ¬ nz4 (crs a x (un k))) : dot4 a a * dot4 x x = dot4 a x * dot4 a x := by
  have g := fun k hk => nz4_not (h k hk)
  have c0 := g 0 (by decide); have c1 := g 1 (by decide); have c3 := g 3 (by decide)
  have m12 : a 1 * x 2 - a 2 * x 1 = 0 := by have := c0 3 (by decide); simp [crs, un] at this; grind
  have m13 : a 1 * x 3 - a 3 * x 1 = 0 := by have := c0 2 (by decide); simp [crs, un] at this; grind
  have m23 : a 2 * x 3 - a 3 * x 2 = 0 := by have := c0 1 (by decide); simp [crs, un] at this; grind
  have m02 : a 0 * x 2 - a 2 * x 0 = 0 := by have := c1 3 (by decide); simp [crs, un] at this; grind
  have m03 : a 0 * x 3 - a 3 * x 0 = 0 := by have := c1 2 (by decide); simp [crs, un] at this; grind
  have m01 : a 0 * x 1 - a 1 * x 0 = 0 := by have := c3 2 (by decide); simp [crs, un] at this; grind
  rw [lagr, m01, m02, m03, m12, m13, m23]; simp
theorem mul_pos_ne {a b : Int} (ha : 0 < a) (hb : 0 < b) : ¬ a * b = 0 := fun z => by
  rcases Int.mul_eq_zero.mp z with z | z <;> omega
/-- something across x and all of P -/
theorem ortho {P : (Nat → Int) → Prop} {x : Nat → Int} (hx : nz4 x) (hP : ∀ a, P a → dot4 a x = 0) (h3 : ∀ a b c, P a → P b → P c → ¬ nz4 (crs a b c)) : ∃ y, nz4 y ∧ dot4 x y = 0 ∧ ∀ a, P a → dot4 a y = 0 := by
  by_cases h1 : ∃ a b, P a ∧ P b ∧ nz4 (crs a b x)
  · obtain ⟨a, b, pa, pb, hz⟩ := h1
    refine ⟨crs a b x, hz, crs_c a b x, fun r pr => ?_⟩
    rw [crs_3]
    have := dot4_zl (x := x) (nz4_not (h3 a b r pa pb pr))
    omega
  · by_cases h2 : ∃ a, P a ∧ nz4 a
    · obtain ⟨a, pa, ha⟩ := h2
      have : ∃ k, k < 4 ∧ nz4 (crs a x (un k)) := Classical.byContradiction (fun z => by
        have e := crs_un (a := a) (x := x) (fun k hk hc => z ⟨k, hk, hc⟩)
        rw [hP a pa] at e
        exact mul_pos_ne (dot4_pos ha) (dot4_pos hx) (by rw [e]; rfl))
      obtain ⟨k, hk, hc⟩ := this
      refine ⟨crs a x (un k), hc, crs_b a x (un k), fun r pr => ?_⟩
      have z : ¬ nz4 (crs a r x) := fun w => h1 ⟨a, r, pa, pr, w⟩
      have e : dot4 r (crs a x (un k)) = dot4 (un k) (crs a r x) := by unfold dot4; simp only [crs]; grind
      rw [e]; exact dot4_z (nz4_not z)
    · refine ⟨fun i => if i = 0 then -x 1 else if i = 1 then x 0 else if i = 2 then -x 3 else x 2, ?_, ?_, fun a pa => dot4_zl (nz4_not (fun w => h2 ⟨a, pa, w⟩))⟩
      · obtain ⟨i, hi, hne⟩ := hx
        rcases (show i = 0 ∨ i = 1 ∨ i = 2 ∨ i = 3 by omega) with rfl | rfl | rfl | rfl
        · exact ⟨1, by decide, by simpa using hne⟩
        · exact ⟨0, by decide, by simpa using hne⟩
        · exact ⟨3, by decide, by simpa using hne⟩
        · exact ⟨2, by decide, by simpa using hne⟩
      · unfold dot4; simp; grind
theorem Tle.refl {n : Nat} {W : Nat → Nat → Int} {x : Nat → Int} : Tle n W x x := fun _ _ h => h
theorem Tle.tr {n : Nat} {W : Nat → Nat → Int} {x y z : Nat → Int} (h1 : Tle n W x y) (h2 : Tle n W y z) : Tle n W x z := fun k hk h => h2 k hk (h1 k hk h)
/-- there is a ray at which all is tight that is tight at x -/
theorem ray_at {n N : Nat} {W V : Nat → Nat → Int} (hp : Ptd n W) (hc : CMP n W N V) : ∀ (m : Nat) (x : Nat → Int), nt W x n ≤ m → Cn n W x → nz4 x → ∃ j, j < N ∧ Tle n W x (V j) := by
  intro m
  induction m with
  | zero =>
    intro x hm hx hz
    exfalso
    have : ∀ k, k < n → dot4 (W k) x = 0 := fun k hk => Classical.byContradiction (fun z => by
      have := nt_lt (W := W) (x := x) (y := fun _ => 0) n (fun q hq _ => dot4_z (fun _ _ => rfl)) hk z (dot4_z (fun _ _ => rfl))
      omega)
    obtain ⟨i, hi, hne⟩ := hz
    exact hne (hp x this i hi)
  | succ m ih =>
    intro x hm hx hz
    by_cases h3 : ∃ a b c, a < n ∧ b < n ∧ c < n ∧ dot4 (W a) x = 0 ∧ dot4 (W b) x = 0 ∧ dot4 (W c) x = 0 ∧ nz4 (crs (W a) (W b) (W c))
    · obtain ⟨a, b, c, ha, hb, hcn, ta, tb, tc, hn⟩ := h3
      obtain ⟨j, hj, p, q, hp0, hq0, e⟩ := hc x a b c hx ha hb hcn ta tb tc hn hz
      refine ⟨j, hj, fun k hk h => ?_⟩
      have := dot4_smul (l := W k) (x := x) (y := fun i => q * V j i) (g := p) e
      have e2 := dot4_smul (l := W k) (x := V j) (y := fun i => q * V j i) (g := q) (fun i hi => rfl)
      rw [h, Int.mul_zero] at this
      rw [← this] at e2
      exact (Int.mul_eq_zero.mp e2).resolve_left (by omega)
    · obtain ⟨y, hy, hxy, ht⟩ := ortho (P := fun a => ∃ k, k < n ∧ a = W k ∧ dot4 (W k) x = 0) hz (fun a ⟨k, hk, e, h⟩ => by rw [e]; exact h) (fun a b c ⟨k, hk, e, h⟩ ⟨k2, hk2, e2, h2⟩ ⟨k4, hk4, e4, h4⟩ hz => h3 ⟨k, k2, k4, hk, hk2, hk4, h, h2, h4, by rw [← e, ← e2, ← e4]; exact hz⟩)
      -- the sign
      have : ∃ y, dot4 x y = 0 ∧ (∀ k, k < n → dot4 (W k) x = 0 → dot4 (W k) y = 0) ∧ ∃ k, k < n ∧ dot4 (W k) y < 0 := by
        have hk : ∃ k, k < n ∧ ¬ dot4 (W k) y = 0 := Classical.byContradiction (fun z => by
          obtain ⟨i, hi, hne⟩ := hy
          exact hne (hp y (fun k hk => Classical.byContradiction (fun w => z ⟨k, hk, w⟩)) i hi))
        obtain ⟨k, hk, hne⟩ := hk
        by_cases hs : dot4 (W k) y < 0
        · exact ⟨y, hxy, fun q hq h => ht (W q) ⟨q, hq, rfl, h⟩, k, hk, hs⟩
        · have sm : ∀ l, dot4 l (fun i => -1 * y i) = -dot4 l y := fun l => by unfold dot4; grind
          refine ⟨fun i => -1 * y i, by rw [sm, hxy]; rfl, fun q hq h => by rw [sm, ht (W q) ⟨q, hq, rfl, h⟩]; rfl, k, hk, ?_⟩
          rw [sm]; omega
      obtain ⟨y, hxy, ht, hneg⟩ := this
      obtain ⟨r, hr, hry, hmin⟩ := argmin (P := fun k => dot4 (W k) y < 0) (f := fun k => dot4 (W k) x) (g := fun k => -dot4 (W k) y) n hneg (fun k hk h => by omega)
      have hrx : 0 < dot4 (W r) x := by
        have := hx r hr
        rcases Int.lt_or_eq_of_le this with h | h
        · exact h
        · have := ht r hr h.symm; omega
      have hd : ∀ l, dot4 l (fun i => (-dot4 (W r) y) * x i + dot4 (W r) x * y i) = (-dot4 (W r) y) * dot4 l x + dot4 (W r) x * dot4 l y := fun l => dot4_2 (fun i hi => rfl)
      have tz : Tle n W x (fun i => (-dot4 (W r) y) * x i + dot4 (W r) x * y i) := fun k hk h => by rw [hd, h, ht k hk h]; simp
      have rz : dot4 (W r) (fun i => (-dot4 (W r) y) * x i + dot4 (W r) x * y i) = 0 := by rw [hd]; grind
      obtain ⟨j, hj, h⟩ := ih (fun i => (-dot4 (W r) y) * x i + dot4 (W r) x * y i) (by have := nt_lt n tz hr (by omega) rz; omega) (fun k hk => by
        rw [hd]
        by_cases hs : dot4 (W k) y < 0
        · have := hmin k hk hs
          have e : (-dot4 (W r) y) * dot4 (W k) x + dot4 (W r) x * dot4 (W k) y = dot4 (W k) x * (-dot4 (W r) y) - dot4 (W r) x * (-dot4 (W k) y) := by grind
          rw [e]; omega
        · have h1 := Int.mul_nonneg (show 0 ≤ -dot4 (W r) y by omega) (hx k hk)
          have h2 := Int.mul_nonneg (Int.le_of_lt hrx) (Int.not_lt.mp hs)
          omega) (nz4_dot (x := x) (by
            rw [hd, hxy, Int.mul_zero, Int.add_zero]
            exact mul_pos_ne (by omega) (dot4_pos hz)))
      exact ⟨j, hj, tz.tr h⟩
theorem isum_dot {l : Nat → Int} {c : Nat → Int} {V : Nat → Nat → Int} : ∀ N, dot4 l (fun i => isum (fun j => c j * V j i) N) = isum (fun j => c j * dot4 l (V j)) N
  | 0 => by show dot4 l (fun _ => 0) = 0; exact dot4_z (fun _ _ => rfl)
  | N + 1 => by
    have ih := isum_dot (l := l) (c := c) (V := V) N
    show dot4 l (fun i => isum (fun j => c j * V j i) N + c N * V N i) = isum (fun j => c j * dot4 l (V j)) N + c N * dot4 l (V N)
    rw [← ih, dot4_2 (l := l) (x := fun i => isum (fun j => c j * V j i) N) (y := V N) (a := 1) (b := c N) (fun i hi => by rw [Int.one_mul])]
    omega
theorem isum_one {k : Nat} {a : Int} {f : Nat → Int} : ∀ N, k < N → isum (fun j => (if j = k then a else 0) * f j) N = a * f k
  | 0, h => absurd h (by omega)
  | N + 1, h => by
    show isum (fun j => (if j = k then a else 0) * f j) N + (if N = k then a else 0) * f N = a * f k
    by_cases e : N = k
    · subst e
      rw [isum_zero N (fun i hi => by rw [if_neg (by omega)]; exact Int.zero_mul _), if_pos rfl]; omega
    · rw [isum_one N (by omega), if_neg e]; omega
/-- every point of the cone is a sum of rays, of its own face -/
theorem mw {n N : Nat} {W V : Nat → Nat → Int} (hp : Ptd n W) (hc : CMP n W N V) (hV : ∀ j, j < N → Cn n W (V j) ∧ nz4 (V j)) : ∀ (m : Nat) (x : Nat → Int), nt W x n ≤ m → Cn n W x → ∃ (D : Int) (c : Nat → Int), 0 < D ∧ (∀ j, j < N → 0 ≤ c j) ∧ (∀ j, j < N → ¬ c j = 0 → Tle n W x (V j)) ∧ ∀ i, i < 4 → D * x i = isum (fun j => c j * V j i) N := by
  have zero : ∀ x : Nat → Int, ¬ nz4 x → ∃ (D : Int) (c : Nat → Int), 0 < D ∧ (∀ j, j < N → 0 ≤ c j) ∧ (∀ j, j < N → ¬ c j = 0 → Tle n W x (V j)) ∧ ∀ i, i < 4 → D * x i = isum (fun j => c j * V j i) N := fun x hz =>
    ⟨1, fun _ => 0, by decide, fun _ _ => Int.le_refl 0, fun _ _ h => absurd rfl h, fun i hi => by rw [nz4_not hz i hi, isum_zero N (fun j _ => Int.zero_mul _)]; rfl⟩
  intro m
  induction m with
  | zero =>
    intro x hm hx
    by_cases hz : nz4 x
    · exfalso
      obtain ⟨j, hj, ht⟩ := ray_at hp hc 0 x hm hx hz
      have : ∀ k, k < n → dot4 (W k) x = 0 := fun k hk => Classical.byContradiction (fun z => by
        have := nt_lt (W := W) (x := x) (y := fun _ => 0) n (fun q hq _ => dot4_z (fun _ _ => rfl)) hk z (dot4_z (fun _ _ => rfl))
        omega)
      obtain ⟨i, hi, hne⟩ := hz
      exact hne (hp x this i hi)
    · exact zero x hz
  | succ m ih =>
    intro x hm hx
    by_cases hz : nz4 x
    · obtain ⟨j0, hj0, ht⟩ := ray_at hp hc (m + 1) x hm hx hz
      obtain ⟨hv, hvz⟩ := hV j0 hj0
      have hpos : ∃ k, k < n ∧ 0 < dot4 (W k) (V j0) := Classical.byContradiction (fun z => by
        obtain ⟨i, hi, hne⟩ := hvz
        refine hne (hp (V j0) (fun k hk => ?_) i hi)
        have := hv k hk
        have : ¬ 0 < dot4 (W k) (V j0) := fun w => z ⟨k, hk, w⟩
        omega)
      obtain ⟨r, hr, hrv, hmin⟩ := argmin (P := fun k => 0 < dot4 (W k) (V j0)) (f := fun k => dot4 (W k) x) (g := fun k => dot4 (W k) (V j0)) n hpos (fun k hk h => h)
      have hrx : 0 < dot4 (W r) x := by
        have := hx r hr
        rcases Int.lt_or_eq_of_le this with h | h
        · exact h
        · have := ht r hr h.symm; omega
      have hd : ∀ l, dot4 l (fun i => dot4 (W r) (V j0) * x i + -(dot4 (W r) x) * V j0 i) = dot4 (W r) (V j0) * dot4 l x + -(dot4 (W r) x) * dot4 l (V j0) := fun l => dot4_2 (fun i hi => rfl)
      have tz : Tle n W x (fun i => dot4 (W r) (V j0) * x i + -(dot4 (W r) x) * V j0 i) := fun k hk h => by rw [hd, h, ht k hk h]; simp
      have rz : dot4 (W r) (fun i => dot4 (W r) (V j0) * x i + -(dot4 (W r) x) * V j0 i) = 0 := by rw [hd]; grind
      obtain ⟨D, c, hD, hcn, hct, he⟩ := ih (fun i => dot4 (W r) (V j0) * x i + -(dot4 (W r) x) * V j0 i) (by have := nt_lt n tz hr (by omega) rz; omega) (fun k hk => by
        rw [hd]
        by_cases hs : 0 < dot4 (W k) (V j0)
        · have := hmin k hk hs
          have e : dot4 (W r) (V j0) * dot4 (W k) x + -(dot4 (W r) x) * dot4 (W k) (V j0) = dot4 (W k) x * dot4 (W r) (V j0) - dot4 (W r) x * dot4 (W k) (V j0) := by grind
          rw [e]; omega
        · have h0 : dot4 (W k) (V j0) = 0 := by have := hv k hk; omega
          rw [h0, Int.mul_zero, Int.add_zero]
          exact Int.mul_nonneg (Int.le_of_lt hrv) (hx k hk))
      refine ⟨D * dot4 (W r) (V j0), fun j => c j + (if j = j0 then D * dot4 (W r) x else 0), Int.mul_pos hD hrv, fun j hj => ?_, fun j hj hne => ?_, fun i hi => ?_⟩
      · have h1 := hcn j hj
        have h2 := Int.mul_pos hD hrx
        show 0 ≤ c j + (if j = j0 then D * dot4 (W r) x else 0)
        split <;> omega
      · by_cases e : j = j0
        · subst e; exact ht
        · refine tz.tr (hct j hj (fun z => hne ?_))
          show c j + (if j = j0 then D * dot4 (W r) x else 0) = 0
          rw [z, if_neg e]; rfl
      · have h1 := he i hi
        have e : isum (fun j => (c j + if j = j0 then D * dot4 (W r) x else 0) * V j i) N = isum (fun j => c j * V j i) N + D * dot4 (W r) x * V j0 i := by
          rw [← isum_one (k := j0) (a := D * dot4 (W r) x) (f := fun j => V j i) N hj0, ← isum_add]
          exact isum_congr N (fun j _ => by rw [Int.add_mul])
        rw [e, ← h1]
        grind
    · exact zero x hz
/-- what is across all that is tight at p is in the span of p's face -/
theorem spd {n N : Nat} {W V : Nat → Nat → Int} (hp : Ptd n W) (hc : CMP n W N V) (hV : ∀ j, j < N → Cn n W (V j) ∧ nz4 (V j)) {p y : Nat → Int} (hp0 : Cn n W p) (hy : Tle n W p y) : ∃ (D : Int) (c : Nat → Int), 0 < D ∧ (∀ j, j < N → ¬ c j = 0 → Tle n W p (V j)) ∧ ∀ i, i < 4 → D * y i = isum (fun j => c j * V j i) N := by
  have hM : ∀ m, ∃ M : Int, 0 ≤ M ∧ ∀ k, k < m → -dot4 (W k) y ≤ M := by
    intro m
    induction m with
    | zero => exact ⟨0, Int.le_refl 0, fun k hk => absurd hk (by omega)⟩
    | succ m ih =>
      obtain ⟨M, h0, h⟩ := ih
      refine ⟨M + (dot4 (W m) y).natAbs, by omega, fun k hk => ?_⟩
      by_cases e : k = m
      · subst e; omega
      · have := h k (by omega); omega
  obtain ⟨M, hM0, hM⟩ := hM n
  have hd : ∀ l, dot4 l (fun i => M * p i + 1 * y i) = M * dot4 l p + 1 * dot4 l y := fun l => dot4_2 (fun i hi => rfl)
  have hq : Cn n W (fun i => M * p i + 1 * y i) := fun k hk => by
    rw [hd]
    by_cases e : dot4 (W k) p = 0
    · rw [e, hy k hk e]; simp
    · have h1 : 1 ≤ dot4 (W k) p := by have := hp0 k hk; omega
      have h2 := Int.mul_le_mul_of_nonneg_left h1 hM0
      have h3 := hM k hk
      omega
  have tq : Tle n W p (fun i => M * p i + 1 * y i) := fun k hk h => by rw [hd, h, hy k hk h]; simp
  obtain ⟨D, c, hD, -, hct, he⟩ := mw hp hc hV _ _ (Nat.le_refl _) hq
  obtain ⟨D2, c2, hD2, -, hct2, he2⟩ := mw hp hc hV _ p (Nat.le_refl _) hp0
  refine ⟨D * D2, fun j => D2 * c j + -(D * M) * c2 j, Int.mul_pos hD hD2, fun j hj hne => ?_, fun i hi => ?_⟩
  · by_cases e : c j = 0
    · refine hct2 j hj (fun z => hne ?_)
      show D2 * c j + -(D * M) * c2 j = 0
      rw [e, z]; simp
    · exact tq.tr (hct j hj e)
  · have e : isum (fun j => (D2 * c j + -(D * M) * c2 j) * V j i) N = D2 * isum (fun j => c j * V j i) N + -(D * M) * isum (fun j => c2 j * V j i) N := by
      rw [← isum_mul, ← isum_mul, ← isum_add]
      exact isum_congr N (fun j _ => by grind)
    rw [e, ← he i hi, ← he2 i hi]
    grind
