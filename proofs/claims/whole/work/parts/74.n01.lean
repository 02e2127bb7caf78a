/-! ===== own rows: class and reference, 01 ===== -/
-- sums, and systems of equations with more unknowns than equations
def isum (f : Nat → Int) : Nat → Int
  | 0 => 0
  | n + 1 => isum f n + f n
theorem isum_congr {f g : Nat → Int} : ∀ n, (∀ i, i < n → f i = g i) → isum f n = isum g n
  | 0, _ => rfl
  | n + 1, h => by
    show isum f n + f n = isum g n + g n
    rw [isum_congr n (fun i hi => h i (by omega)), h n (by omega)]
theorem isum_add {f g : Nat → Int} : ∀ n, isum (fun i => f i + g i) n = isum f n + isum g n
  | 0 => rfl
  | n + 1 => by
    show isum (fun i => f i + g i) n + (f n + g n) = (isum f n + f n) + (isum g n + g n)
    rw [isum_add n]; omega
theorem isum_mul {f : Nat → Int} {a : Int} : ∀ n, isum (fun i => a * f i) n = a * isum f n
  | 0 => (Int.mul_zero a).symm
  | n + 1 => by
    show isum (fun i => a * f i) n + a * f n = a * (isum f n + f n)
    rw [isum_mul n, Int.mul_add]
theorem isum_zero {f : Nat → Int} : ∀ n, (∀ i, i < n → f i = 0) → isum f n = 0
  | 0, _ => rfl
  | n + 1, h => by
    show isum f n + f n = 0
    rw [isum_zero n (fun i hi => h i (by omega)), h n (by omega)]; rfl
/-- the place k is left out -/
def skp (k i : Nat) : Nat := if i < k then i else i + 1
theorem isum_skip {f : Nat → Int} {k : Nat} : ∀ n, k < n + 1 → isum f (n + 1) = f k + isum (fun i => f (skp k i)) n
  | 0, h => by
    have : k = 0 := by omega
    subst this
    show 0 + f 0 = f 0 + 0
    omega
  | n + 1, h => by
    by_cases e : k = n + 1
    · subst e
      show isum f (n + 1) + f (n + 1) = f (n + 1) + isum (fun i => f (skp (n + 1) i)) (n + 1)
      rw [isum_congr (f := fun i => f (skp (n + 1) i)) (g := f) (n + 1) (fun i hi => by show f (skp (n + 1) i) = f i; unfold skp; rw [if_pos hi])]
      omega
    · show isum f (n + 1) + f (n + 1) = f k + (isum (fun i => f (skp k i)) n + f (skp k n))
      rw [isum_skip (k := k) n (by omega)]
      have : skp k n = n + 1 := by unfold skp; rw [if_neg (by omega)]
      rw [this]; omega
/-- more unknowns than equations -/
theorem hsys : ∀ (r s : Nat) (c : Nat → Nat → Int), r < s → ∃ x : Nat → Int, (∃ i, i < s ∧ ¬ x i = 0) ∧ ∀ j, j < r → isum (fun i => x i * c i j) s = 0
  | 0, s, c, h => ⟨fun _ => 1, ⟨0, h, by decide⟩, fun j hj => absurd hj (Nat.not_lt_zero j)⟩
  | r + 1, s, c, h => by
    by_cases hz : ∀ i, i < s → c i r = 0
    · obtain ⟨x, hx, h1⟩ := hsys r s c (by omega)
      refine ⟨x, hx, fun j hj => ?_⟩
      by_cases e : j = r
      · subst e; exact isum_zero s (fun i hi => by rw [hz i hi, Int.mul_zero])
      · exact h1 j (by omega)
    · obtain ⟨k, hk, hck⟩ : ∃ k, k < s ∧ ¬ c k r = 0 := Classical.byContradiction (fun hn => hz (fun i hi => Classical.byContradiction (fun z => hn ⟨i, hi, z⟩)))
      obtain ⟨n, rfl⟩ : ∃ n, s = n + 1 := ⟨s - 1, by omega⟩
      obtain ⟨x, ⟨i0, hi0, hx0⟩, h1⟩ := hsys r n (fun i j => c k r * c (skp k i) j - c (skp k i) r * c k j) (by omega)
      -- the other unknowns times c k r; the one at k takes what is left
      have hinj : ∀ i, i < n → skp k i < n + 1 ∧ ¬ skp k i = k := fun i hi => by unfold skp; split <;> omega
      let y : Nat → Int := fun i => if i = k then -isum (fun i => x i * c (skp k i) r) n else c k r * x (if i < k then i else i - 1)
      have yk : y k = -isum (fun i => x i * c (skp k i) r) n := by show (if k = k then _ else _) = _; rw [if_pos rfl]
      have ys : ∀ i, i < n → y (skp k i) = c k r * x i := by
        intro i hi
        show (if skp k i = k then _ else c k r * x (if skp k i < k then skp k i else skp k i - 1)) = _
        rw [if_neg (hinj i hi).2]
        congr 2
        unfold skp
        by_cases e : i < k
        · rw [if_pos e, if_pos e]
        · rw [if_neg e, if_neg (by omega)]; omega
      refine ⟨y, ⟨skp k i0, (hinj i0 hi0).1, by rw [ys i0 hi0]; intro z; rcases Int.mul_eq_zero.mp z with q | q; exact hck q; exact hx0 q⟩, fun j hj => ?_⟩
      rw [isum_skip (k := k) n hk, yk]
      have e1 : isum (fun i => y (skp k i) * c (skp k i) j) n = isum (fun i => c k r * (x i * c (skp k i) j)) n := isum_congr n (fun i hi => by rw [ys i hi, Int.mul_assoc])
      rw [e1, isum_mul]
      by_cases e : j = r
      · subst e; rw [Int.neg_mul, Int.mul_comm (c k j)]; omega
      · have h2 := h1 j (by omega)
        have e2 : isum (fun i => x i * (c k r * c (skp k i) j - c (skp k i) r * c k j)) n = c k r * isum (fun i => x i * c (skp k i) j) n + -(c k j) * isum (fun i => x i * c (skp k i) r) n := by
          rw [← isum_mul, ← isum_mul, ← isum_add]
          exact isum_congr n (fun i hi => by grind)
        rw [e2] at h2
        rw [Int.neg_mul, Int.mul_comm (isum _ n) (c k j)]
        rw [Int.neg_mul] at h2
        omega
/-- vectors out of fewer vectors depend on each other -/
theorem steinitz {r s : Nat} {u t : Nat → Nat → Int} {m : Nat → Int} {c : Nat → Nat → Int} (h : r < s) (hm : ∀ i, i < s → ¬ m i = 0) (hu : ∀ i, i < s → ∀ q, q < 4 → m i * u i q = isum (fun j => c i j * t j q) r) : ∃ y : Nat → Int, (∃ i, i < s ∧ ¬ y i = 0) ∧ ∀ q, q < 4 → isum (fun i => y i * u i q) s = 0 := by
  obtain ⟨x, ⟨i0, hi0, hx0⟩, hx⟩ := hsys r s c h
  refine ⟨fun i => x i * m i, ⟨i0, hi0, fun z => ?_⟩, fun q hq => ?_⟩
  · rcases Int.mul_eq_zero.mp z with e | e
    · exact hx0 e
    · exact hm i0 hi0 e
  · have e1 : isum (fun i => x i * m i * u i q) s = isum (fun i => isum (fun j => x i * (c i j * t j q)) r) s := isum_congr s (fun i hi => by rw [Int.mul_assoc, hu i hi q hq, isum_mul])
    rw [e1]
    have sw : ∀ r', r' ≤ r → isum (fun i => isum (fun j => x i * (c i j * t j q)) r') s = isum (fun j => t j q * isum (fun i => x i * c i j) s) r' := by
      intro r'
      induction r' with
      | zero => intro _; exact isum_zero s (fun i _ => rfl)
      | succ r' ih =>
        intro hr
        show isum (fun i => isum (fun j => x i * (c i j * t j q)) r' + x i * (c i r' * t r' q)) s = isum (fun j => t j q * isum (fun i => x i * c i j) s) r' + t r' q * isum (fun i => x i * c i r') s
        rw [isum_add, ih (by omega), ← isum_mul]
        congr 1
        exact isum_congr s (fun i _ => by grind)
    rw [sw r (Nat.le_refl r)]
    exact isum_zero r (fun j hj => by rw [hx j hj, Int.mul_zero])
