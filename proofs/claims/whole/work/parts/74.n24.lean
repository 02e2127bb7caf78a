/-! ===== own rows: class and reference, 24 ===== -/
-- shares of the rays of a simplex in whole points
def LC (f : Nat → Int) : List Nat → Int → Prop
  | [], g => g = 0
  | m :: ms, g => ∃ u g', LC f ms g' ∧ g = u * f m + g'
theorem LC.smul {f : Nat → Int} (v : Int) : ∀ (ms : List Nat) (g : Int), LC f ms g → LC f ms (v * g)
  | [], g, h => by show v * g = 0; rw [show g = 0 from h, Int.mul_zero]
  | m :: ms, g, ⟨u, g', h, e⟩ => ⟨v * u, v * g', LC.smul v ms g' h, by rw [e]; grind⟩
theorem bez2 : ∀ (n : Nat) (x y : Int), y.natAbs = n → ∃ u v : Int, (u * x + v * y) ∣ x ∧ (u * x + v * y) ∣ y := by
  intro n
  induction n using Nat.strongRecOn with
  | _ n ih =>
    intro x y hn
    by_cases hy : y = 0
    · subst hy; exact ⟨1, 0, by simp, by simp⟩
    · have hlt : (x.emod y).natAbs < n := by
        have h1 := Int.emod_nonneg x hy
        have h2 := Int.emod_lt x hy
        rw [show x.emod y = x % y from rfl]
        omega
      obtain ⟨u, v, h1, h2⟩ := ih _ hlt y (x.emod y) rfl
      have e : x.emod y = x - y * (x / y) := by
        have := Int.emod_add_mul_ediv x y
        rw [show x.emod y = x % y from rfl]; omega
      rw [e] at h1 h2
      refine ⟨v, u - v * (x / y), ?_, ?_⟩
      · have e2 : v * x + (u - v * (x / y)) * y = u * y + v * (x - y * (x / y)) := by grind
        rw [e2]
        have h3 := Int.dvd_add h2 (Int.dvd_mul_of_dvd_left (c := x / y) h1)
        have e3 : x - y * (x / y) + y * (x / y) = x := by omega
        rw [e3] at h3; exact h3
      · have e2 : v * x + (u - v * (x / y)) * y = u * y + v * (x - y * (x / y)) := by grind
        rw [e2]; exact h1
theorem bezL (f : Nat → Int) : ∀ ms : List Nat, ∃ g, LC f ms g ∧ ∀ m ∈ ms, g ∣ f m
  | [] => ⟨0, rfl, fun m hm => absurd hm (by simp)⟩
  | m :: ms => by
    obtain ⟨g, h1, h2⟩ := bezL f ms
    obtain ⟨u, v, h3, h4⟩ := bez2 _ (f m) g rfl
    refine ⟨u * f m + v * g, ⟨u, v * g, LC.smul v ms g h1, rfl⟩, fun q hq => ?_⟩
    rcases List.mem_cons.mp hq with e | e
    · rw [e]; exact h3
    · exact Int.dvd_trans h4 (h2 q e)
theorem LC.dvd {f : Nat → Int} {d : Int} : ∀ (ms : List Nat) (g : Int), LC f ms g → (∀ m ∈ ms, d ∣ f m) → d ∣ g
  | [], g, h, _ => by rw [show g = 0 from h]; exact Int.dvd_zero d
  | m :: ms, g, ⟨u, g', h, e⟩, hd => by
    rw [e]
    exact Int.dvd_add (Int.dvd_mul_of_dvd_right (hd m (List.mem_cons_self ..))) (LC.dvd ms g' h (fun q hq => hd q (List.mem_cons_of_mem _ hq)))
/-- a gcd is a sum of multiples -/
theorem GC.lc {g : Int} {f : Nat → Int} {ms : List Nat} (h : GC g f ms) : LC f ms g := by
  obtain ⟨h0, h1, h2⟩ := h
  obtain ⟨b, l, hb⟩ := bezL f ms
  obtain ⟨c, e⟩ := h2 b hb
  have := LC.smul c ms b l
  rw [Int.mul_comm, ← e] at this
  exact this
-- sums of multiples of vectors
def GEN (st : Nat → Nat → Int) (k : Nat) : List Nat → (Nat → Int) → Prop
  | [], s => ∀ m, m < k → s m = 0
  | t :: ts, s => ∃ u s', GEN st k ts s' ∧ ∀ m, m < k → s m = u * st t m + s' m
theorem GEN.zero {st : Nat → Nat → Int} {k : Nat} : ∀ (ts : List Nat) (s : Nat → Int), (∀ m, m < k → s m = 0) → GEN st k ts s
  | [], s, h => h
  | t :: ts, s, h => ⟨0, fun _ => 0, GEN.zero ts _ (fun _ _ => rfl), fun m hm => by rw [h m hm]; simp⟩
theorem GEN.lin {st : Nat → Nat → Int} {k : Nat} (a b : Int) : ∀ (ts : List Nat) (s r q : Nat → Int), GEN st k ts s → GEN st k ts r → (∀ m, m < k → q m = a * s m + b * r m) → GEN st k ts q
  | [], s, r, q, h1, h2, e => fun m hm => by rw [e m hm, show s m = 0 from h1 m hm, show r m = 0 from h2 m hm]; simp
  | t :: ts, s, r, q, ⟨u, s', h1, e1⟩, ⟨v, r', h2, e2⟩, e => ⟨a * u + b * v, fun m => a * s' m + b * r' m, GEN.lin a b ts s' r' _ h1 h2 (fun _ _ => rfl), fun m hm => by rw [e m hm, e1 m hm, e2 m hm]; grind⟩
theorem GEN.mem {st : Nat → Nat → Int} {k : Nat} : ∀ (ts : List Nat) (t : Nat), t ∈ ts → GEN st k ts (st t)
  | [], t, h => absurd h (by simp)
  | q :: ts, t, h => by
    by_cases e : t = q
    · subst e
      exact ⟨1, fun _ => 0, GEN.zero ts _ (fun _ _ => rfl), fun m hm => by simp⟩
    · have := (List.mem_cons.mp h).resolve_left e
      exact ⟨0, st t, GEN.mem ts t this, fun m hm => by simp⟩
/-- the step over the coordinates T: determinants of all lines but one, with signs by turns -/
def NT (R : Nat → Nat → Int) (k T m : Nat) : Int := (if m % 2 = 0 then 1 else -1) * mnI (fun l => R (skp m l)) (k - 1) T
theorem isum_1 (f : Nat → Int) : isum f 1 = f 0 := by show 0 + f 0 = _; omega
theorem isum_3 (f : Nat → Int) : isum f 3 = f 0 + f 1 + f 2 := by show 0 + f 0 + f 1 + f 2 = _; omega
theorem isum_4 (f : Nat → Int) : isum f 4 = f 0 + f 1 + f 2 + f 3 := by show 0 + f 0 + f 1 + f 2 + f 3 = _; omega
theorem gen2 {st : Nat → Nat → Int} {k : Nat} {ts : List Nat} {a b : Nat} (ha : a ∈ ts) (hb : b ∈ ts) (x y : Int) : GEN st k ts (fun m => x * st a m + y * st b m) := GEN.lin x y ts _ _ _ (GEN.mem ts a ha) (GEN.mem ts b hb) (fun _ _ => rfl)
theorem gen3 {st : Nat → Nat → Int} {k : Nat} {ts : List Nat} {a b c : Nat} (ha : a ∈ ts) (hb : b ∈ ts) (hc : c ∈ ts) (x y z : Int) : GEN st k ts (fun m => x * st a m + y * st b m + z * st c m) := GEN.lin 1 z ts _ _ _ (gen2 ha hb x y) (GEN.mem ts c hc) (fun m _ => by rw [Int.one_mul])
theorem gen4 {st : Nat → Nat → Int} {k : Nat} {ts : List Nat} {a b c d : Nat} (ha : a ∈ ts) (hb : b ∈ ts) (hc : c ∈ ts) (hd : d ∈ ts) (x y z w : Int) : GEN st k ts (fun m => x * st a m + y * st b m + z * st c m + w * st d m) := GEN.lin 1 w ts _ _ _ (gen3 ha hb hc x y z) (GEN.mem ts d hd) (fun m _ => by rw [Int.one_mul])
theorem cram1 {R : Nat → Nat → Int} (x : Nat → Int) {U : Nat} (hU : U ∈ lev 1) : ∃ E, GEN (NT R 1) 1 (lev 0) E ∧ ∀ (M : Int) (c : Nat → Int), (∀ i, i < 4 → M * x i = isum (fun l => c l * R l i) 1) → ∀ m, m < 1 → M * E m = c m * mnI R 1 U := by
  have main : ∀ i, i < 4 → mnI R 1 U = R 0 i → ∃ E, GEN (NT R 1) 1 (lev 0) E ∧ ∀ (M : Int) (c : Nat → Int), (∀ i, i < 4 → M * x i = isum (fun l => c l * R l i) 1) → ∀ m, m < 1 → M * E m = c m * mnI R 1 U := fun i hi e => by
    refine ⟨_, GEN.lin (x i) 0 (lev 0) _ _ (fun m => x i * NT R 1 0 m + 0 * NT R 1 0 m) (GEN.mem (lev 0) 0 (by decide)) (GEN.mem (lev 0) 0 (by decide)) (fun _ _ => rfl), fun M c h m hm => ?_⟩
    obtain rfl : m = 0 := by omega
    have := h i hi
    rw [isum_1] at this
    have z : NT R 1 0 0 = 1 := rfl
    show M * (x i * NT R 1 0 0 + 0 * NT R 1 0 0) = _
    rw [e, z, ← this]; simp
  simp only [lev, List.mem_cons, List.not_mem_nil, or_false] at hU
  rcases hU with rfl | rfl | rfl | rfl
  · exact main 0 (by decide) (by simp [mnI, mexI])
  · exact main 1 (by decide) (by simp [mnI, mexI])
  · exact main 2 (by decide) (by simp [mnI, mexI])
  · exact main 3 (by decide) (by simp [mnI, mexI])
theorem cram2 {R : Nat → Nat → Int} (x : Nat → Int) {U : Nat} (hU : U ∈ lev 2) : ∃ E, GEN (NT R 2) 2 (lev 1) E ∧ ∀ (M : Int) (c : Nat → Int), (∀ i, i < 4 → M * x i = isum (fun l => c l * R l i) 2) → ∀ m, m < 2 → M * E m = c m * mnI R 2 U := by
  have main : ∀ i j a b, i < 4 → j < 4 → a ∈ lev 1 → b ∈ lev 1 → (∀ R : Nat → Nat → Int, mnI R 1 a = R 0 i ∧ mnI R 1 b = R 0 j) → mnI R 2 U = R 0 i * R 1 j - R 0 j * R 1 i → ∃ E, GEN (NT R 2) 2 (lev 1) E ∧ ∀ (M : Int) (c : Nat → Int), (∀ i, i < 4 → M * x i = isum (fun l => c l * R l i) 2) → ∀ m, m < 2 → M * E m = c m * mnI R 2 U := fun i j a b hi hj ha hb e1 e2 => by
    refine ⟨_, gen2 hb ha (x i) (-x j), fun M c h m hm => ?_⟩
    have h1 := h i hi
    have h2 := h j hj
    rw [isum_2] at h1 h2
    have n1 := fun m => (e1 (fun l => R (skp m l))).1
    have n2 := fun m => (e1 (fun l => R (skp m l))).2
    rw [e2]
    rcases (show m = 0 ∨ m = 1 by omega) with rfl | rfl
    · simp only [NT, show 2 - 1 = 1 from rfl, n1, n2, skp]
      simp
      grind
    · simp only [NT, show 2 - 1 = 1 from rfl, n1, n2, skp]
      simp
      grind
  simp only [lev, List.mem_cons, List.not_mem_nil, or_false] at hU
  rcases hU with rfl | rfl | rfl | rfl | rfl | rfl
  · exact main 0 1 1 2 (by decide) (by decide) (by decide) (by decide) (fun R => by simp [mnI, mexI]) (by simp [mnI, mexI])
  · exact main 0 2 1 4 (by decide) (by decide) (by decide) (by decide) (fun R => by simp [mnI, mexI]) (by simp [mnI, mexI])
  · exact main 1 2 2 4 (by decide) (by decide) (by decide) (by decide) (fun R => by simp [mnI, mexI]) (by simp [mnI, mexI])
  · exact main 0 3 1 8 (by decide) (by decide) (by decide) (by decide) (fun R => by simp [mnI, mexI]) (by simp [mnI, mexI])
  · exact main 1 3 2 8 (by decide) (by decide) (by decide) (by decide) (fun R => by simp [mnI, mexI]) (by simp [mnI, mexI])
  · exact main 2 3 4 8 (by decide) (by decide) (by decide) (by decide) (fun R => by simp [mnI, mexI]) (by simp [mnI, mexI])
theorem cram3 {R : Nat → Nat → Int} (x : Nat → Int) {U : Nat} (hU : U ∈ lev 3) : ∃ E, GEN (NT R 3) 3 (lev 2) E ∧ ∀ (M : Int) (c : Nat → Int), (∀ i, i < 4 → M * x i = isum (fun l => c l * R l i) 3) → ∀ m, m < 3 → M * E m = c m * mnI R 3 U := by
  have main : ∀ i j l a b d, i < 4 → j < 4 → l < 4 → a ∈ lev 2 → b ∈ lev 2 → d ∈ lev 2 → (∀ R : Nat → Nat → Int, mnI R 2 a = R 0 j * R 1 l - R 0 l * R 1 j ∧ mnI R 2 b = R 0 i * R 1 l - R 0 l * R 1 i ∧ mnI R 2 d = R 0 i * R 1 j - R 0 j * R 1 i) → mnI R 3 U = (R 0 i * R 1 j - R 0 j * R 1 i) * R 2 l - (R 0 i * R 1 l - R 0 l * R 1 i) * R 2 j + (R 0 j * R 1 l - R 0 l * R 1 j) * R 2 i → ∃ E, GEN (NT R 3) 3 (lev 2) E ∧ ∀ (M : Int) (c : Nat → Int), (∀ i, i < 4 → M * x i = isum (fun l => c l * R l i) 3) → ∀ m, m < 3 → M * E m = c m * mnI R 3 U := fun i j l a b d hi hj hl ha hb hd e1 e2 => by
    refine ⟨_, gen3 ha hb hd (x i) (-x j) (x l), fun M c h m hm => ?_⟩
    have h1 := h i hi
    have h2 := h j hj
    have h3 := h l hl
    rw [isum_3] at h1 h2 h3
    have n1 := fun m => (e1 (fun l => R (skp m l))).1
    have n2 := fun m => (e1 (fun l => R (skp m l))).2.1
    have n3 := fun m => (e1 (fun l => R (skp m l))).2.2
    rw [e2]
    rcases (show m = 0 ∨ m = 1 ∨ m = 2 by omega) with rfl | rfl | rfl
    · simp only [NT, show 3 - 1 = 2 from rfl, n1, n2, n3, skp]
      simp
      grind
    · simp only [NT, show 3 - 1 = 2 from rfl, n1, n2, n3, skp]
      simp
      grind
    · simp only [NT, show 3 - 1 = 2 from rfl, n1, n2, n3, skp]
      simp
      grind
  simp only [lev, List.mem_cons, List.not_mem_nil, or_false] at hU
  rcases hU with rfl | rfl | rfl | rfl
  · exact main 0 1 2 6 5 3 (by decide) (by decide) (by decide) (by decide) (by decide) (by decide) (fun R => by simp [mnI, mexI]) (by simp [mnI, mexI])
  · exact main 0 1 3 10 9 3 (by decide) (by decide) (by decide) (by decide) (by decide) (by decide) (fun R => by simp [mnI, mexI]) (by simp [mnI, mexI])
  · exact main 0 2 3 12 9 5 (by decide) (by decide) (by decide) (by decide) (by decide) (by decide) (fun R => by simp [mnI, mexI]) (by simp [mnI, mexI])
  · exact main 1 2 3 12 10 6 (by decide) (by decide) (by decide) (by decide) (by decide) (by decide) (fun R => by simp [mnI, mexI]) (by simp [mnI, mexI])
theorem cram4 {R : Nat → Nat → Int} (x : Nat → Int) {U : Nat} (hU : U ∈ lev 4) : ∃ E, GEN (NT R 4) 4 (lev 3) E ∧ ∀ (M : Int) (c : Nat → Int), (∀ i, i < 4 → M * x i = isum (fun l => c l * R l i) 4) → ∀ m, m < 4 → M * E m = c m * mnI R 4 U := by
  simp only [lev, List.mem_cons, List.not_mem_nil, or_false] at hU
  subst hU
  refine ⟨_, gen4 (a := 14) (b := 13) (c := 11) (d := 7) (by decide) (by decide) (by decide) (by decide) (x 0) (-x 1) (x 2) (-x 3), fun M c h m hm => ?_⟩
  have h0 := h 0 (by decide)
  have h1 := h 1 (by decide)
  have h2 := h 2 (by decide)
  have h3 := h 3 (by decide)
  rw [isum_4] at h0 h1 h2 h3
  have k : ∀ A B C D : Int, M * (x 0 * A + -x 1 * B + x 2 * C + -x 3 * D) = (M * x 0) * A - (M * x 1) * B + (M * x 2) * C - (M * x 3) * D := fun A B C D => by grind
  rw [k, h0, h1, h2, h3]
  clear k h h0 h1 h2 h3
  rcases (show m = 0 ∨ m = 1 ∨ m = 2 ∨ m = 3 by omega) with rfl | rfl | rfl | rfl <;> simp [NT, mnI, mexI, skp] <;> grind
theorem cram {R : Nat → Nat → Int} {k : Nat} (h1 : 1 ≤ k) (h4 : k ≤ 4) (x : Nat → Int) {U : Nat} (hU : U ∈ lev k) : ∃ E, GEN (NT R k) k (lev (k - 1)) E ∧ ∀ (M : Int) (c : Nat → Int), (∀ i, i < 4 → M * x i = isum (fun l => c l * R l i) k) → ∀ m, m < k → M * E m = c m * mnI R k U := by
  rcases (show k = 1 ∨ k = 2 ∨ k = 3 ∨ k = 4 by omega) with rfl | rfl | rfl | rfl
  · exact cram1 x hU
  · exact cram2 x hU
  · exact cram3 x hU
  · exact cram4 x hU
/-- the shares of a whole point, in parts of INDEX, are made of the steps -/
theorem shares {R : Nat → Nat → Int} {k : Nat} {D : Int} (h1 : 1 ≤ k) (h4 : k ≤ 4) (hD : GC D (mnI R k) (lev k)) {x : Nat → Int} {M : Int} {c : Nat → Int} (hx : ∀ i, i < 4 → M * x i = isum (fun l => c l * R l i) k) : ∃ s, GEN (NT R k) k (lev (k - 1)) s ∧ ∀ m, m < k → M * s m = c m * D := by
  have go : ∀ (ms : List Nat) (g : Int), (∀ U ∈ ms, U ∈ lev k) → LC (mnI R k) ms g → ∃ s, GEN (NT R k) k (lev (k - 1)) s ∧ ∀ m, m < k → M * s m = c m * g := by
    intro ms
    induction ms with
    | nil =>
      intro g _ h
      have h : g = 0 := h
      exact ⟨fun _ => 0, GEN.zero _ _ (fun _ _ => rfl), fun m _ => by rw [h]; simp⟩
    | cons U ms ih =>
      intro g hm h
      obtain ⟨u, g', hl, e⟩ := h
      obtain ⟨s, a, b⟩ := ih g' (fun q hq => hm q (List.mem_cons_of_mem _ hq)) hl
      obtain ⟨E, e1, e2⟩ := cram h1 h4 x (hm U (List.mem_cons_self ..))
      refine ⟨fun m => u * E m + 1 * s m, GEN.lin u 1 _ _ _ _ e1 a (fun _ _ => rfl), fun m hm9 => ?_⟩
      have p1 := e2 M c hx m hm9
      have p2 := b m hm9
      rw [e]
      grind
  exact go _ _ (fun _ h => h) hD.lc
-- how many shares there are
theorem mexI_dvd {f : Nat → Int} {a : Nat → Int} {d : Int} {j : Nat} (h : ∀ m ∈ lev j, d ∣ f m) : ∀ m ∈ lev (j + 1), d ∣ mexI f a m := by
  intro m hm
  rcases (show j = 0 ∨ j = 1 ∨ j = 2 ∨ j = 3 ∨ 4 ≤ j by omega) with rfl | rfl | rfl | rfl | h4
  · obtain ⟨c0, h0⟩ := h 0 (by decide)
    simp only [lev, List.mem_cons, List.not_mem_nil, or_false] at hm
    rcases hm with rfl | rfl | rfl | rfl <;> simp only [mexI, h0] <;> exact ⟨_, by rw [Int.mul_assoc]⟩
  · obtain ⟨c1, h1⟩ := h 1 (by decide); obtain ⟨c2, h2⟩ := h 2 (by decide); obtain ⟨c4, h4⟩ := h 4 (by decide); obtain ⟨c8, h8⟩ := h 8 (by decide)
    have k : ∀ p q u v : Int, d ∣ d * p * u - d * q * v := fun p q u v => ⟨p * u - q * v, by grind⟩
    simp only [lev, List.mem_cons, List.not_mem_nil, or_false] at hm
    rcases hm with rfl | rfl | rfl | rfl | rfl | rfl <;> simp only [mexI, h1, h2, h4, h8] <;> exact k _ _ _ _
  · obtain ⟨c3, h3⟩ := h 3 (by decide); obtain ⟨c5, h5⟩ := h 5 (by decide); obtain ⟨c6, h6⟩ := h 6 (by decide); obtain ⟨c9, h9⟩ := h 9 (by decide); obtain ⟨c10, h10⟩ := h 10 (by decide); obtain ⟨c12, h12⟩ := h 12 (by decide)
    have k : ∀ p q r u v w : Int, d ∣ d * p * u - d * q * v + d * r * w := fun p q r u v w => ⟨p * u - q * v + r * w, by grind⟩
    simp only [lev, List.mem_cons, List.not_mem_nil, or_false] at hm
    rcases hm with rfl | rfl | rfl | rfl <;> simp only [mexI, h3, h5, h6, h9, h10, h12] <;> exact k _ _ _ _ _ _
  · obtain ⟨c7, h7⟩ := h 7 (by decide); obtain ⟨c11, h11⟩ := h 11 (by decide); obtain ⟨c13, h13⟩ := h 13 (by decide); obtain ⟨c14, h14⟩ := h 14 (by decide)
    simp only [lev, List.mem_cons, List.not_mem_nil, or_false] at hm
    subst hm
    simp only [mexI, h7, h11, h13, h14]
    exact ⟨c7 * a 3 - c11 * a 2 + c13 * a 1 - c14 * a 0, by grind⟩
  · obtain ⟨k, rfl⟩ : ∃ k, j = k + 4 := ⟨j - 4, by omega⟩
    exact absurd hm (by show ¬ m ∈ ([] : List Nat); simp)
theorem mexI_lin {f : Nat → Int} {a b c : Nat → Int} {p q : Int} (h : ∀ i, i < 4 → c i = p * a i + q * b i) (m : Nat) : mexI f c m = p * mexI f a m + q * mexI f b m := by
  have h0 := h 0 (by decide); have h1 := h 1 (by decide); have h2 := h 2 (by decide); have h3 := h 3 (by decide)
  unfold mexI
  split <;> first | (simp only [h0, h1, h2, h3]; grind) | simp
theorem mexI_old {R : Nat → Nat → Int} {j l : Nat} (hj : j < 4) (hl : l < j) : ∀ m ∈ lev (j + 1), mexI (mnI R j) (R l) m = 0 := by
  intro m hm
  rcases (show j = 1 ∨ j = 2 ∨ j = 3 by omega) with rfl | rfl | rfl
  · obtain rfl : l = 0 := by omega
    simp only [lev, List.mem_cons, List.not_mem_nil, or_false] at hm
    rcases hm with rfl | rfl | rfl | rfl | rfl | rfl <;> simp only [mnI, mexI] <;> grind
  · simp only [lev, List.mem_cons, List.not_mem_nil, or_false] at hm
    rcases (show l = 0 ∨ l = 1 by omega) with rfl | rfl <;> rcases hm with rfl | rfl | rfl | rfl <;> simp only [mnI, mexI] <;> grind
  · simp only [lev, List.mem_cons, List.not_mem_nil, or_false] at hm
    subst hm
    rcases (show l = 0 ∨ l = 1 ∨ l = 2 by omega) with rfl | rfl | rfl <;> simp only [mnI, mexI] <;> grind
theorem mexI_sum {R : Nat → Nat → Int} {j : Nat} (hj : j < 4) {s : Nat → Int} : ∀ n, n ≤ j → ∀ m ∈ lev (j + 1), mexI (mnI R j) (fun i => isum (fun l => s l * R l i) n) m = 0
  | 0, _, m, hm => by
    have := mexI_lin (f := mnI R j) (a := fun _ => 0) (b := fun _ => 0) (c := fun i => isum (fun l => s l * R l i) 0) (p := 0) (q := 0) (fun i _ => rfl) m
    rw [this]; simp
  | n + 1, hn, m, hm => by
    rw [mexI_lin (f := mnI R j) (a := fun i => isum (fun l => s l * R l i) n) (b := R n) (c := fun i => isum (fun l => s l * R l i) (n + 1)) (p := 1) (q := s n) (fun i _ => by show isum (fun l => s l * R l i) n + s n * R n i = _; omega) m]
    rw [mexI_sum hj n (by omega) m hm, mexI_old hj (by omega) m hm]; simp
/-- the shares below D of whole points -/
def inG (R : Nat → Nat → Int) (k : Nat) (D : Int) (s : Nat → Int) : Prop := (∀ m, m < k → 0 ≤ s m ∧ s m < D) ∧ ∃ x : Nat → Int, ∀ i, i < 4 → D * x i = isum (fun l => s l * R l i) k
theorem shares_le {R : Nat → Nat → Int} {D : Int} (hD : 0 < D) : ∀ k, k ≤ 4 → (∃ m ∈ lev k, ¬ mnI R k m = 0) → ∃ (g : Int) (sg : (Nat → Int) → Nat), 0 < g ∧ GC g (mnI R k) (lev k) ∧ ∀ s, inG R k D s → (sg s : Int) < g ∧ ∀ r, inG R k D r → sg s = sg r → ∀ m, m < k → s m = r m
  | 0, _, _ => ⟨1, fun _ => 0, by decide, ⟨by decide, fun m _ => by show (1 : Int) ∣ 1; exact Int.dvd_refl 1, fun d hd => hd 0 (by decide)⟩, fun s _ => ⟨by show ((0 : Nat) : Int) < 1; decide, fun r _ _ m hm => absurd hm (by omega)⟩⟩
  | j + 1, hj, hne => by
    have hne2 : ∃ m ∈ lev j, ¬ mnI R j m = 0 := Classical.byContradiction (fun z => by
      obtain ⟨m, hm, hn⟩ := hne
      refine hn ?_
      have : (0 : Int) ∣ mexI (mnI R j) (R j) m := mexI_dvd (fun q hq => by rw [show mnI R j q = 0 from Classical.byContradiction (fun w => z ⟨q, hq, w⟩)]; exact Int.dvd_refl 0) m hm
      exact Int.zero_dvd.mp this)
    obtain ⟨g, sg, hg, hgc, hsg⟩ := shares_le hD j (by omega) hne2
    -- the gcd one step on
    obtain ⟨b, lb, hb⟩ := bezL (mnI R (j + 1)) (lev (j + 1))
    have hb0 : ¬ b = 0 := fun z => by
      obtain ⟨m, hm, hn⟩ := hne
      have := hb m hm
      rw [z] at this
      exact hn (Int.zero_dvd.mp this)
    obtain ⟨g2, hg2, lg, dg⟩ : ∃ g2 : Int, 0 < g2 ∧ LC (mnI R (j + 1)) (lev (j + 1)) g2 ∧ ∀ m ∈ lev (j + 1), g2 ∣ mnI R (j + 1) m := by
      rcases Int.lt_or_lt_of_ne hb0 with z | z
      · refine ⟨-1 * b, by omega, LC.smul (-1) _ _ lb, fun m hm => ?_⟩
        obtain ⟨c, e⟩ := hb m hm
        exact ⟨-c, by rw [e]; grind⟩
      · exact ⟨b, z, lb, hb⟩
    have hgc2 : GC g2 (mnI R (j + 1)) (lev (j + 1)) := ⟨by omega, dg, fun d hd => LC.dvd _ _ lg hd⟩
    obtain ⟨e, he⟩ : g ∣ g2 := LC.dvd _ _ lg (fun m hm => mexI_dvd hgc.2.1 m hm)
    have he0 : 0 < e := by
      rcases Int.lt_or_le 0 e with z | z
      · exact z
      · have := Int.mul_nonneg (Int.le_of_lt hg) (show 0 ≤ -e by omega)
        rw [Int.mul_neg] at this; omega
    -- the last share
    have last : ∀ s, inG R (j + 1) D s → ∃ a : Int, s j * e = D * a ∧ 0 ≤ a ∧ a < e := by
      intro s hs
      obtain ⟨hb9, x, hx⟩ := hs
      have hd : D * g ∣ s j * g2 := by
        have lc2 : LC (fun m => s j * mnI R (j + 1) m) (lev (j + 1)) (s j * g2) := by
          have : ∀ (ms : List Nat) (y : Int), LC (mnI R (j + 1)) ms y → LC (fun m => s j * mnI R (j + 1) m) ms (s j * y) := by
            intro ms
            induction ms with
            | nil => intro y h; show s j * y = 0; rw [show y = 0 from h, Int.mul_zero]
            | cons q ms ih => intro y h; obtain ⟨u, y', h1, e1⟩ := h; exact ⟨u, s j * y', ih y' h1, by rw [e1]; grind⟩
          exact this _ _ lg
        refine LC.dvd _ _ lc2 (fun m hm => ?_)
        have e1 : D * mexI (mnI R j) x m = s j * mnI R (j + 1) m := by
          have k1 := mexI_lin (f := mnI R j) (a := x) (b := fun _ => 0) (c := fun i => isum (fun l => s l * R l i) (j + 1)) (p := D) (q := 0) (fun i hi => by rw [← hx i hi]; simp) m
          have k2 := mexI_lin (f := mnI R j) (a := fun i => isum (fun l => s l * R l i) j) (b := R j) (c := fun i => isum (fun l => s l * R l i) (j + 1)) (p := 1) (q := s j) (fun i _ => by show isum (fun l => s l * R l i) j + s j * R j i = _; omega) m
          rw [mexI_sum (by omega) j (Nat.le_refl j) m hm] at k2
          show _ = s j * mexI (mnI R j) (R j) m
          omega
        rw [← e1]
        exact Int.mul_dvd_mul (Int.dvd_refl D) (mexI_dvd hgc.2.1 m hm)
      obtain ⟨a, ha⟩ := hd
      have e1 : s j * e = D * a := by
        rw [he] at ha
        have : g * (s j * e) = g * (D * a) := by grind
        exact Int.eq_of_mul_eq_mul_left (by omega) this
      obtain ⟨q1, q2⟩ := hb9 j (by omega)
      refine ⟨a, e1, ?_, ?_⟩
      · have := Int.mul_nonneg q1 (Int.le_of_lt he0)
        rcases Int.lt_or_le a 0 with z | z
        · have := Int.mul_pos hD (show 0 < -a by omega)
          rw [Int.mul_neg] at this; omega
        · exact z
      · have h3 : s j * e < D * e := Int.mul_lt_mul_of_pos_right q2 he0
        rw [e1] at h3
        exact Int.lt_of_mul_lt_mul_left h3 (Int.le_of_lt hD)
    -- the others, less those of a chosen one
    have hrep : ∃ rep : Int → Nat → Int, ∀ s, inG R (j + 1) D s → inG R (j + 1) D (rep (s j)) ∧ rep (s j) j = s j := by
      have hc : ∀ a : Int, ∃ r : Nat → Int, ∀ s, inG R (j + 1) D s → s j = a → inG R (j + 1) D r ∧ r j = a := fun a => by
        by_cases h : ∃ s, inG R (j + 1) D s ∧ s j = a
        · obtain ⟨r, h1, h2⟩ := h
          exact ⟨r, fun _ _ _ => ⟨h1, h2⟩⟩
        · exact ⟨fun _ => 0, fun s h1 h2 => absurd ⟨s, h1, h2⟩ h⟩
      obtain ⟨f, hf⟩ := Classical.axiomOfChoice hc
      exact ⟨f, fun s hs => hf (s j) s hs rfl⟩
    obtain ⟨rep, hrep⟩ := hrep
    let nm : (Nat → Int) → Nat → Int := fun s m => (s m - rep (s j) m) % D
    have hnm : ∀ s, inG R (j + 1) D s → inG R j D (nm s) := by
      intro s hs
      obtain ⟨⟨-, y, hy⟩, ry⟩ := hrep s hs
      obtain ⟨-, x, hx⟩ := hs
      refine ⟨fun m _ => ⟨Int.emod_nonneg _ (by omega), Int.emod_lt_of_pos _ hD⟩, fun i => x i - y i - isum (fun l => ((s l - rep (s j) l) / D) * R l i) j, fun i hi => ?_⟩
      have h1 := hx i hi
      have h2 := hy i hi
      have h1 : D * x i = isum (fun l => s l * R l i) j + s j * R j i := h1
      have h2 : D * y i = isum (fun l => rep (s j) l * R l i) j + rep (s j) j * R j i := h2
      rw [ry] at h2
      have h3 : isum (fun l => nm s l * R l i) j = isum (fun l => s l * R l i) j + -1 * isum (fun l => rep (s j) l * R l i) j + -D * isum (fun l => ((s l - rep (s j) l) / D) * R l i) j := by
        rw [← isum_mul, ← isum_mul, ← isum_add, ← isum_add]
        refine isum_congr j (fun l _ => ?_)
        have := Int.emod_add_mul_ediv (s l - rep (s j) l) D
        show (s l - rep (s j) l) % D * R l i = _
        rw [show (s l - rep (s j) l) % D = s l - rep (s j) l - D * ((s l - rep (s j) l) / D) by omega]
        grind
      rw [h3]
      grind
    refine ⟨g2, fun s => (s j * e / D).toNat * g.toNat + sg (nm s), hg2, hgc2, fun s hs => ⟨?_, fun r hr heq => ?_⟩⟩
    · obtain ⟨a, a1, a2, a3⟩ := last s hs
      have q1 := (hsg _ (hnm s hs)).1
      show ((((s j * e / D).toNat * g.toNat + sg (nm s) : Nat)) : Int) < g2
      rw [a1, Int.mul_ediv_cancel_left a (show ¬ D = 0 by omega), Int.natCast_add, Int.natCast_mul, Int.toNat_of_nonneg a2, Int.toNat_of_nonneg (Int.le_of_lt hg), he]
      have : (a + 1) * g ≤ e * g := Int.mul_le_mul_of_nonneg_right (by omega) (Int.le_of_lt hg)
      rw [Int.add_mul, Int.one_mul, Int.mul_comm e g] at this
      omega
    · obtain ⟨a, a1, a2, a3⟩ := last s hs
      obtain ⟨b', b1, b2, b3⟩ := last r hr
      have q1 := hsg _ (hnm s hs)
      have q2 := hsg _ (hnm r hr)
      have heq : (s j * e / D).toNat * g.toNat + sg (nm s) = (r j * e / D).toNat * g.toNat + sg (nm r) := heq
      rw [a1, b1, Int.mul_ediv_cancel_left a (show ¬ D = 0 by omega), Int.mul_ediv_cancel_left b' (show ¬ D = 0 by omega)] at heq
      have l1 : sg (nm s) < g.toNat := by have := q1.1; omega
      have l2 : sg (nm r) < g.toNat := by have := q2.1; omega
      have eab : a.toNat = b'.toNat := by
        rcases Nat.lt_trichotomy a.toNat b'.toNat with z | z | z
        · have : (a.toNat + 1) * g.toNat ≤ b'.toNat * g.toNat := Nat.mul_le_mul_right _ z
          rw [Nat.add_mul, Nat.one_mul] at this; omega
        · exact z
        · have : (b'.toNat + 1) * g.toNat ≤ a.toNat * g.toNat := Nat.mul_le_mul_right _ z
          rw [Nat.add_mul, Nat.one_mul] at this; omega
      have eab2 : a = b' := by omega
      have ej : s j = r j := by
        have : s j * e = r j * e := by rw [a1, b1, eab2]
        exact Int.eq_of_mul_eq_mul_right (by omega) this
      rw [eab] at heq
      have esg : sg (nm s) = sg (nm r) := by omega
      have en := q1.2 _ (hnm r hr) esg
      intro m hm
      by_cases z : m = j
      · rw [z]; exact ej
      · have := en m (by omega)
        have this : (s m - rep (s j) m) % D = (r m - rep (r j) m) % D := this
        rw [ej] at this
        obtain ⟨p1, p2⟩ := hs.1 m hm
        obtain ⟨p3, p4⟩ := hr.1 m hm
        have hdv := (Int.emod_emod_of_dvd (s m - r m) (Int.dvd_refl D))
        have k1 := Int.emod_eq_emod_iff_emod_sub_eq_zero.mp this
        have k2 : D ∣ (s m - rep (r j) m - (r m - rep (r j) m)) := Int.dvd_of_emod_eq_zero k1
        have k3 : s m - rep (r j) m - (r m - rep (r j) m) = s m - r m := by omega
        rw [k3] at k2
        obtain ⟨t, ht⟩ := k2
        have : t = 0 := by
          rcases Int.lt_trichotomy t 0 with q | q | q
          · have := Int.mul_le_mul_of_nonneg_left (show t ≤ -1 by omega) (Int.le_of_lt hD)
            omega
          · exact q
          · have := Int.mul_le_mul_of_nonneg_left (show 1 ≤ t by omega) (Int.le_of_lt hD)
            omega
        rw [this, Int.mul_zero] at ht
        omega
