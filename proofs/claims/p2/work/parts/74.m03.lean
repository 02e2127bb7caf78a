/-! ===== own rows: mathematics of the reference, 03 ===== -/
-- the rank, by elimination
theorem lsm_out {r c : Nat} {f : Nat → Int64} {B : Nat} (hc : c < 4) (hB : B * B + B * B < 2 ^ 63) : ∀ (m : Nat), (∀ k, k < r + 1 + m → ∀ i, i < 4 → (f (4 * k + i)).toInt.natAbs ≤ B) →
    (∀ j, (j < 4 * (r + 1) ∨ 4 * (r + 1 + m) ≤ j) → lsm r c m f j = f j) ∧ (∀ k, r < k → k < r + 1 + m → ∀ i, i < 4 → lsm r c m f (4 * k + i) = lss k r c f (4 * k + i))
  | 0, _ => ⟨fun j _ => rfl, fun k h1 h2 => absurd h2 (by omega)⟩
  | m + 1, hb => by
    obtain ⟨i1, i2⟩ := lsm_out (r := r) (f := f) hc hB m (fun k hk => hb k (by omega))
    have er : ∀ i, i < 4 → lsm r c m f (4 * r + i) = f (4 * r + i) := fun i hi => i1 _ (Or.inl (by omega))
    have ek : ∀ i, i < 4 → lsm r c m f (4 * (r + 1 + m) + i) = f (4 * (r + 1 + m) + i) := fun i hi => i1 _ (Or.inr (by omega))
    obtain ⟨s1, -, -⟩ := lss_spec (k := r + 1 + m) (r := r) (c := c) (B := B) (f := lsm r c m f) (by omega) hc hB (fun i hi => by rw [ek i hi]; exact hb _ (by omega) i hi) (fun i hi => by rw [er i hi]; exact hb _ (by omega) i hi)
    have hcong : ∀ i, i < 4 → lss (r + 1 + m) r c (lsm r c m f) (4 * (r + 1 + m) + i) = lss (r + 1 + m) r c f (4 * (r + 1 + m) + i) := by
      intro i hi
      exact lss_congr (by omega) hc ek er i hi
    refine ⟨fun j hj => ?_, fun k h1 h2 i hi => ?_⟩
    · show lss (r + 1 + m) r c (lsm r c m f) j = _
      rw [s1 j (by omega), i1 j (by omega)]
    · show lss (r + 1 + m) r c (lsm r c m f) (4 * k + i) = _
      by_cases e : k = r + 1 + m
      · subst e; exact hcong i hi
      · rw [s1 _ (by omega)]; exact i2 k h1 (by omega) i hi
def Bd (c : Nat) : Nat := if c = 0 then 5 else if c = 1 then 50 else if c = 2 then 5000 else if c = 3 then 50000000 else 5000000000000000
theorem Bd_s {c : Nat} (h : c < 4) : Bd c * Bd c + Bd c * Bd c = Bd (c + 1) ∧ Bd c * Bd c + Bd c * Bd c < 2 ^ 63 ∧ Bd c ≤ Bd (c + 1) := by
  rcases (show c = 0 ∨ c = 1 ∨ c = 2 ∨ c = 3 by omega) with rfl | rfl | rfl | rfl <;> decide
theorem swp_out {p r : Nat} {f : Nat → Int64} : ∀ (i j : Nat), i ≤ 4 → (∀ q, q < i → ¬ j = 4 * p + q ∧ ¬ j = 4 * r + q) → swp p r i f j = f j
  | 0, _, _, _ => rfl
  | i + 1, j, hi, h => by
    show vp_updL (vp_updL (swp p r i f) (4 * p + i) (swp p r i f (4 * r + i))) (4 * r + i) (swp p r i f (4 * p + i)) j = _
    rw [updL_ne (h i (by omega)).2, updL_ne (h i (by omega)).1, swp_out i j (by omega) (fun q hq => h q (by omega))]
theorem swp_in {p r : Nat} {f : Nat → Int64} : ∀ (i : Nat), i ≤ 4 → ∀ q, q < i → swp p r i f (4 * r + q) = f (4 * p + q) ∧ swp p r i f (4 * p + q) = f (4 * r + q)
  | 0, _, q, hq => absurd hq (Nat.not_lt_zero q)
  | i + 1, hi, q, hq => by
    have e1 : swp p r i f (4 * p + i) = f (4 * p + i) := swp_out i _ (by omega) (fun z hz => by omega)
    have e2 : swp p r i f (4 * r + i) = f (4 * r + i) := swp_out i _ (by omega) (fun z hz => by omega)
    show vp_updL (vp_updL (swp p r i f) (4 * p + i) (swp p r i f (4 * r + i))) (4 * r + i) (swp p r i f (4 * p + i)) (4 * r + q) = _ ∧ vp_updL (vp_updL (swp p r i f) (4 * p + i) (swp p r i f (4 * r + i))) (4 * r + i) (swp p r i f (4 * p + i)) (4 * p + q) = _
    rw [e1, e2]
    by_cases e : q = i
    · subst e
      refine ⟨updL_eq, ?_⟩
      by_cases hpr : p = r
      · subst hpr; exact updL_eq
      · rw [updL_ne (by omega), updL_eq]
    · obtain ⟨a, b⟩ := swp_in (p := p) (r := r) (f := f) i (by omega) q (by omega)
      rw [updL_ne (by omega), updL_ne (by omega), updL_ne (by omega), updL_ne (by omega)]
      exact ⟨a, b⟩
theorem swp_row {p r n : Nat} {f : Nat → Int64} (hp : p < n) (hr : r ≤ p) (k : Nat) (hk : k < n) : ∃ q, q < n ∧ (k < r → q = k) ∧ (r ≤ k → r ≤ q) ∧ (k = r → q = p) ∧ ∀ i, i < 4 → swp p r 4 f (4 * k + i) = f (4 * q + i) := by
  by_cases e1 : k = r
  · subst e1
    exact ⟨p, hp, fun h => absurd h (by omega), fun _ => hr, fun _ => rfl, fun i hi => (swp_in 4 (Nat.le_refl 4) i hi).1⟩
  · by_cases e2 : k = p
    · subst e2
      exact ⟨r, by omega, fun h => absurd h (by omega), fun _ => Nat.le_refl r, fun h => absurd h e1, fun i hi => (swp_in 4 (Nat.le_refl 4) i hi).2⟩
    · exact ⟨k, hk, fun _ => rfl, fun h => h, fun h => absurd h e1, fun i hi => swp_out 4 _ (Nat.le_refl 4) (fun z hz => by omega)⟩
theorem pvt_spec {f : Nat → Int64} {c n : Nat} : ∀ (m p : Nat), p + m = n → (pvt f c m p = n ∧ ∀ q, p ≤ q → q < n → f (4 * q + c) = 0) ∨ (p ≤ pvt f c m p ∧ pvt f c m p < n ∧ ¬ f (4 * pvt f c m p + c) = 0)
  | 0, p, h => Or.inl ⟨by show p = n; omega, fun q h1 h2 => absurd h1 (by omega)⟩
  | m + 1, p, h => by
    by_cases e : f (4 * p + c) = 0
    · have e1 : pvt f c (m + 1) p = pvt f c m (p + 1) := by show (if f (4 * p + c) = 0 then _ else _) = _; rw [if_pos e]
      rw [e1]
      rcases pvt_spec (f := f) (c := c) (n := n) m (p + 1) (by omega) with ⟨a, b⟩ | ⟨a, b, d⟩
      · refine Or.inl ⟨a, fun q h1 h2 => ?_⟩
        by_cases z : q = p
        · subst z; exact e
        · exact b q (by omega) h2
      · exact Or.inr ⟨by omega, b, d⟩
    · have e1 : pvt f c (m + 1) p = p := by show (if f (4 * p + c) = 0 then _ else _) = _; rw [if_neg e]
      rw [e1]
      exact Or.inr ⟨Nat.le_refl p, by omega, e⟩
theorem rdot_congr {f g : Nat → Int64} {k q : Nat} {v : Nat → Int} (h : ∀ i, i < 4 → f (4 * k + i) = g (4 * q + i)) : rdot f k v = rdot g q v := by
  unfold rdot
  rw [h 0 (by decide), h 1 (by decide), h 2 (by decide), h 3 (by decide)]
/-- what stands after c columns, r of them with a pivot -/
def RKI (n zs : Nat) (v : Nat → Int) (c r : Nat) (f : Nat → Int64) : Prop :=
  r ≤ c ∧ r ≤ n ∧ (∀ k, k < n → ∀ i, i < 4 → (f (4 * k + i)).toInt.natAbs ≤ Bd c) ∧ (∀ k, k < n → ∀ i, i < 4 → zs ≤ i → f (4 * k + i) = 0) ∧ (∀ k, k < n → rdot f k v = 0) ∧ (r = c → (∀ j, j < c → ¬ f (4 * j + j) = 0) ∧ ∀ j, j < c → ∀ k, k < n → j < k → f (4 * k + j) = 0)
theorem i64_zero {x : Int64} : x = 0 ↔ x.toInt = 0 := by
  constructor
  · intro h; rw [h]; rfl
  · intro h; exact Int64.toInt_inj.mp (by rw [h]; rfl)
theorem RKI.step {n zs c r p : Nat} {v : Nat → Int} {f : Nat → Int64} (h : RKI n zs v c r f) (hc : c < 4) (hp : r ≤ p) (hpn : p < n) (hnz : ¬ f (4 * p + c) = 0) : RKI n zs v (c + 1) (r + 1) (lsm r c (n - (r + 1)) (swp p r 4 f)) := by
  obtain ⟨a1, a2, a3, a4, a5, a6⟩ := h
  obtain ⟨b1, b2, b3⟩ := Bd_s hc
  have hrow := fun k hk => swp_row (f := f) hpn hp k hk
  have B1 : ∀ k, k < n → ∀ i, i < 4 → (swp p r 4 f (4 * k + i)).toInt.natAbs ≤ Bd c := fun k hk i hi => by
    obtain ⟨q, q1, -, -, -, q5⟩ := hrow k hk
    rw [q5 i hi]; exact a3 q q1 i hi
  have B2 : ∀ k, k < n → ∀ i, i < 4 → zs ≤ i → swp p r 4 f (4 * k + i) = 0 := fun k hk i hi hz => by
    obtain ⟨q, q1, -, -, -, q5⟩ := hrow k hk
    rw [q5 i hi]; exact a4 q q1 i hi hz
  have B3 : ∀ k, k < n → rdot (swp p r 4 f) k v = 0 := fun k hk => by
    obtain ⟨q, q1, -, -, -, q5⟩ := hrow k hk
    rw [rdot_congr q5]; exact a5 q q1
  obtain ⟨l1, l2⟩ := lsm_out (r := r) (c := c) (f := swp p r 4 f) (B := Bd c) hc b2 (n - (r + 1)) (fun k hk => B1 k (by omega))
  have low : ∀ k, k ≤ r → ∀ i, i < 4 → lsm r c (n - (r + 1)) (swp p r 4 f) (4 * k + i) = swp p r 4 f (4 * k + i) := fun k hk i hi => l1 _ (Or.inl (by omega))
  have high : ∀ k, r < k → k < n → ∀ i, i < 4 → lsm r c (n - (r + 1)) (swp p r 4 f) (4 * k + i) = lss k r c (swp p r 4 f) (4 * k + i) := fun k h1 h2 i hi => l2 k h1 (by omega) i hi
  have spec := fun k (h1 : r < k) (h2 : k < n) => lss_spec (k := k) (r := r) (c := c) (B := Bd c) (f := swp p r 4 f) (by omega) hc b2 (B1 k h2) (B1 r (by omega))
  refine ⟨by omega, by omega, fun k hk i hi => ?_, fun k hk i hi hz => ?_, fun k hk => ?_, fun hrc => ⟨fun j hj => ?_, fun j hj k hk hjk => ?_⟩⟩
  · by_cases e : k ≤ r
    · rw [low k e i hi]; exact Nat.le_trans (B1 k hk i hi) b3
    · rw [high k (by omega) hk i hi, ← b1]; exact (spec k (by omega) hk).2.1 i hi
  · by_cases e : k ≤ r
    · rw [low k e i hi]; exact B2 k hk i hi hz
    · rw [high k (by omega) hk i hi]
      obtain ⟨-, -, g, hg, h⟩ := spec k (by omega) hk
      have h1 := h i hi
      rw [B2 k hk i hi hz, B2 r (by omega) i hi hz] at h1
      have z0 : (0 : Int64).toInt = 0 := by decide
      rw [z0, Int.zero_mul, Int.zero_mul, Int.sub_self] at h1
      rw [i64_zero]
      rcases Int.mul_eq_zero.mp h1 with e1 | e1
      · omega
      · exact e1
  · by_cases e : k ≤ r
    · rw [rdot_congr (low k e)]; exact B3 k hk
    · rw [rdot_congr (high k (by omega) hk)]
      exact lss_ker (by omega) hc b2 (B1 k hk) (B1 r (by omega)) (B3 k hk) (B3 r (by omega))
  · have hrc' : r = c := by omega
    subst hrc'
    obtain ⟨c1, c2⟩ := a6 rfl
    rw [low j (by omega) j (by omega)]
    obtain ⟨q, q1, q2, q3, q4, q5⟩ := hrow j (by omega)
    rw [q5 j (by omega)]
    by_cases e : j = r
    · rw [q4 e, e]; exact hnz
    · rw [q2 (by omega)]; exact c1 j (by omega)
  · have hrc' : r = c := by omega
    subst hrc'
    obtain ⟨c1, c2⟩ := a6 rfl
    by_cases e : k ≤ r
    · rw [low k e j (by omega)]
      obtain ⟨q, q1, q2, q3, q4, q5⟩ := hrow k hk
      rw [q5 j (by omega)]
      by_cases e2 : k < r
      · rw [q2 e2]; exact c2 j (by omega) k hk hjk
      · exact c2 j (by omega) q q1 (by have := q3 (by omega); omega)
    · rw [high k (by omega) hk j (by omega)]
      obtain ⟨-, -, g, hg, h⟩ := spec k (by omega) hk
      have h1 := h j (by omega)
      have z0 : (0 : Int64).toInt = 0 := by decide
      have e3 : (swp p r 4 f (4 * k + j)).toInt * (swp p r 4 f (4 * r + r)).toInt - (swp p r 4 f (4 * r + j)).toInt * (swp p r 4 f (4 * k + r)).toInt = 0 := by
        by_cases e4 : j = r
        · rw [e4, Int.mul_comm]; omega
        · obtain ⟨q, q1, q2, q3, q4, q5⟩ := hrow k hk
          obtain ⟨t, t1, t2, t3, t4, t5⟩ := hrow r (by omega)
          rw [q5 j (by omega), t5 j (by omega), c2 j (by omega) q q1 (by have := q3 (by omega); omega), c2 j (by omega) t t1 (by have := t3 (by omega); omega), z0, Int.zero_mul, Int.zero_mul, Int.sub_self]
      rw [e3] at h1
      rw [i64_zero]
      rcases Int.mul_eq_zero.mp h1 with e1 | e1
      · omega
      · exact e1
theorem RKI.stay {n zs c r : Nat} {v : Nat → Int} {f : Nat → Int64} (h : RKI n zs v c r f) (hc : c < 4) : RKI n zs v (c + 1) r f := by
  obtain ⟨a1, a2, a3, a4, a5, a6⟩ := h
  obtain ⟨b1, b2, b3⟩ := Bd_s hc
  exact ⟨by omega, a2, fun k hk i hi => Nat.le_trans (a3 k hk i hi) b3, a4, a5, fun e => absurd e (by omega)⟩
theorem RKI.all {n zs : Nat} {v : Nat → Int} {f : Nat → Int64} (h : RKI n zs v 0 0 f) : ∀ c, c ≤ 4 → RKI n zs v c (rkf n f c).1 (rkf n f c).2
  | 0, _ => h
  | c + 1, hc => by
    have ih := RKI.all h c (by omega)
    rcases pvt_spec (f := (rkf n f c).2) (c := c) (n := n) (n - (rkf n f c).1) (rkf n f c).1 (by have := ih.2.1; omega) with ⟨a, -⟩ | ⟨a, b, d⟩
    · rw [rkf_n (r := (rkf n f c).1) (g := (rkf n f c).2) rfl rfl (by rw [a]; omega)]
      exact ih.stay (by omega)
    · rw [rkf_y (r := (rkf n f c).1) (g := (rkf n f c).2) rfl rfl b rfl rfl]
      exact ih.step (by omega) a b d
/-- columns of zeros have no pivot -/
theorem rkf_zero {n zs : Nat} {v : Nat → Int} {f : Nat → Int64} (h : RKI n zs v 0 0 f) : ∀ c, zs ≤ c → c ≤ 4 → (rkf n f c).1 = (rkf n f zs).1 := by
  intro c hz
  induction hz with
  | refl => intro _; rfl
  | step hm ih =>
    rename_i c
    intro hc
    have hc' : zs ≤ c := hm
    have hi := RKI.all h c (by omega)
    rcases pvt_spec (f := (rkf n f c).2) (c := c) (n := n) (n - (rkf n f c).1) (rkf n f c).1 (by have := hi.2.1; omega) with ⟨a, -⟩ | ⟨a, b, d⟩
    · rw [rkf_n (r := (rkf n f c).1) (g := (rkf n f c).2) rfl rfl (by rw [a]; omega)]
      exact ih (by omega)
    · exact absurd (hi.2.2.2.1 _ b c (by omega) hc') d
/-- full rank: only 0 is orthogonal to all rows -/
theorem ker_zero {n zs : Nat} {v : Nat → Int} {f : Nat → Int64} (h2 : zs ≤ 4) (h : RKI n zs v 0 0 f) (hr : zs ≤ (rkf n f 4).1) : ∀ i, i < zs → v i = 0 := by
  have e := rkf_zero h 4 h2 (Nat.le_refl 4)
  have hi := RKI.all h zs h2
  have hrz : (rkf n f zs).1 = zs := by have := hi.1; omega
  obtain ⟨-, a2, -, a4, a5, a6⟩ := hi
  obtain ⟨c1, c2⟩ := a6 hrz
  rw [hrz] at a2
  generalize (rkf n f zs).2 = g at *
  have z0 : (0 : Int64).toInt = 0 := by decide
  have one : ∀ j, j < zs → (∀ i, j < i → i < zs → v i = 0) → v j = 0 := by
    intro j hj hv
    have hd := a5 j (by omega)
    have hz : ∀ i, i < 4 → ¬ i = j → (g (4 * j + i)).toInt * v i = 0 := by
      intro i hi hij
      by_cases l : i < j
      · rw [c2 i (by omega) j (by omega) l, z0, Int.zero_mul]
      · by_cases u : zs ≤ i
        · rw [a4 j (by omega) i hi u, z0, Int.zero_mul]
        · rw [hv i (by omega) (by omega), Int.mul_zero]
    have hj0 : (g (4 * j + j)).toInt * v j = 0 := by
      unfold rdot at hd
      rcases (show j = 0 ∨ j = 1 ∨ j = 2 ∨ j = 3 by omega) with rfl | rfl | rfl | rfl
      · rw [hz 1 (by decide) (by decide), hz 2 (by decide) (by decide), hz 3 (by decide) (by decide)] at hd; omega
      · rw [hz 0 (by decide) (by decide), hz 2 (by decide) (by decide), hz 3 (by decide) (by decide)] at hd; omega
      · rw [hz 0 (by decide) (by decide), hz 1 (by decide) (by decide), hz 3 (by decide) (by decide)] at hd; omega
      · rw [hz 0 (by decide) (by decide), hz 1 (by decide) (by decide), hz 2 (by decide) (by decide)] at hd; omega
    rcases Int.mul_eq_zero.mp hj0 with e1 | e1
    · exact absurd (i64_zero.mpr e1) (c1 j hj)
    · exact e1
  -- from the last coordinate down
  have down : ∀ m, m ≤ zs → ∀ i, zs - m ≤ i → i < zs → v i = 0 := by
    intro m
    induction m with
    | zero => intro _ i h1 h2; omega
    | succ m ih =>
      intro hm i h1 h2
      by_cases e9 : i = zs - (m + 1)
      · subst e9
        exact one _ h2 (fun q h3 h4 => ih (by omega) q (by omega) h4)
      · exact ih (by omega) i (by omega) h2
  intro i hi
  exact down zs (Nat.le_refl zs) i (by omega) hi
