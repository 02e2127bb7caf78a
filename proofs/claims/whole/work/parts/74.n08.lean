/-! ===== own rows: class and reference, 08 ===== -/
-- at most twelve rays: geometry of four coordinates
def dot4 (u v : Nat → Int) : Int := u 0 * v 0 + u 1 * v 1 + u 2 * v 2 + u 3 * v 3
/-- across three vectors -/
def crs (a b c : Nat → Int) : Nat → Int
  | 0 => a 1 * (b 2 * c 3 - b 3 * c 2) - a 2 * (b 1 * c 3 - b 3 * c 1) + a 3 * (b 1 * c 2 - b 2 * c 1)
  | 1 => -(a 0 * (b 2 * c 3 - b 3 * c 2) - a 2 * (b 0 * c 3 - b 3 * c 0) + a 3 * (b 0 * c 2 - b 2 * c 0))
  | 2 => a 0 * (b 1 * c 3 - b 3 * c 1) - a 1 * (b 0 * c 3 - b 3 * c 0) + a 3 * (b 0 * c 1 - b 1 * c 0)
  | 3 => -(a 0 * (b 1 * c 2 - b 2 * c 1) - a 1 * (b 0 * c 2 - b 2 * c 0) + a 2 * (b 0 * c 1 - b 1 * c 0))
  | _ => 0
theorem crs_a (a b c : Nat → Int) : dot4 a (crs a b c) = 0 := by unfold dot4; simp only [crs]; grind
theorem crs_b (a b c : Nat → Int) : dot4 b (crs a b c) = 0 := by unfold dot4; simp only [crs]; grind
theorem crs_c (a b c : Nat → Int) : dot4 c (crs a b c) = 0 := by unfold dot4; simp only [crs]; grind
/-- any vector by three rows and a fourth vector -/
theorem dual (a b c v x : Nat → Int) : ∀ i, i < 4 → dot4 (crs a b c) v * x i = -(dot4 a x * crs b c v i) + dot4 b x * crs a c v i - dot4 c x * crs a b v i + dot4 v x * crs a b c i := by
  intro i hi
  rcases (show i = 0 ∨ i = 1 ∨ i = 2 ∨ i = 3 by omega) with rfl | rfl | rfl | rfl <;> unfold dot4 <;> simp only [crs] <;> grind
theorem dot4_lin (l : Nat → Int) {D p q r s : Int} {x E1 E2 E3 E4 : Nat → Int} (h : ∀ i, i < 4 → D * x i = -(p * E1 i) + q * E2 i - r * E3 i + s * E4 i) : D * dot4 l x = -(p * dot4 l E1) + q * dot4 l E2 - r * dot4 l E3 + s * dot4 l E4 := by
  have h0 := h 0 (by decide); have h1 := h 1 (by decide); have h2 := h 2 (by decide); have h3 := h 3 (by decide)
  unfold dot4
  have e : D * (l 0 * x 0 + l 1 * x 1 + l 2 * x 2 + l 3 * x 3) = l 0 * (D * x 0) + l 1 * (D * x 1) + l 2 * (D * x 2) + l 3 * (D * x 3) := by grind
  rw [e, h0, h1, h2, h3]
  grind
theorem dot4_smul {l x y : Nat → Int} {g : Int} (h : ∀ i, i < 4 → g * x i = y i) : g * dot4 l x = dot4 l y := by
  unfold dot4
  rw [← h 0 (by decide), ← h 1 (by decide), ← h 2 (by decide), ← h 3 (by decide)]; grind
theorem dot4_comm (u v : Nat → Int) : dot4 u v = dot4 v u := by unfold dot4; grind
theorem sq_nn (x : Int) : 0 ≤ x * x := by
  rcases Int.le_total 0 x with h | h
  · exact Int.mul_nonneg h h
  · exact Int.mul_nonneg_of_nonpos_of_nonpos h h
theorem dot4_pos {v : Nat → Int} (h : ∃ i, i < 4 ∧ ¬ v i = 0) : 0 < dot4 v v := by
  have q := fun i => sq_nn (v i)
  have q0 := q 0; have q1 := q 1; have q2 := q 2; have q3 := q 3
  obtain ⟨i, hi, hne⟩ := h
  have hp : 0 < v i * v i := by
    have := q i
    rcases Int.lt_or_eq_of_le this with z | z
    · exact z
    · exact absurd (by rcases Int.mul_eq_zero.mp z.symm with w | w <;> exact w) hne
  unfold dot4
  rcases (show i = 0 ∨ i = 1 ∨ i = 2 ∨ i = 3 by omega) with rfl | rfl | rfl | rfl <;> omega
/-- not in one line -/
def NP (u v : Nat → Int) : Prop := ∀ A B : Int, ¬ A = 0 → ¬ ∀ i, i < 4 → A * u i = B * v i
/-- v is across the three rows a, b, c -/
def AX (a b c v : Nat → Int) : Prop := (∃ g : Int, ¬ g = 0 ∧ ∀ i, i < 4 → g * v i = crs a b c i) ∧ ∃ i, i < 4 ∧ ¬ v i = 0
theorem AX.dots {a b c v : Nat → Int} (h : AX a b c v) : dot4 a v = 0 ∧ dot4 b v = 0 ∧ dot4 c v = 0 := by
  obtain ⟨⟨g, hg, e⟩, -⟩ := h
  have k : ∀ l, dot4 l (crs a b c) = 0 → dot4 l v = 0 := fun l hl => by
    have := dot4_smul (l := l) e
    rw [hl] at this
    exact (Int.mul_eq_zero.mp this).resolve_left hg
  exact ⟨k a (crs_a a b c), k b (crs_b a b c), k c (crs_c a b c)⟩
theorem AX.ker {a b c v z : Nat → Int} (h : AX a b c v) (h1 : dot4 a z = 0) (h2 : dot4 b z = 0) (h3 : dot4 c z = 0) : ∀ i, i < 4 → dot4 v v * z i = dot4 v z * v i := by
  obtain ⟨⟨g, hg, e⟩, -⟩ := h
  intro i hi
  have d := dual a b c v z i hi
  rw [h1, h2, h3, ← e i hi, dot4_comm (crs a b c) v, ← dot4_smul (l := v) e] at d
  have : g * (dot4 v v * z i - dot4 v z * v i) = 0 := by grind
  have := (Int.mul_eq_zero.mp this).resolve_left hg
  omega
theorem AX.some {a b c v u : Nat → Int} (h : AX a b c v) (hn : NP u v) : ¬ (dot4 a u = 0 ∧ dot4 b u = 0 ∧ dot4 c u = 0) := fun ⟨h1, h2, h3⟩ =>
  hn (dot4 v v) (dot4 v u) (by have := dot4_pos h.2; omega) (h.ker h1 h2 h3)
/-- one before the other, seen along a line -/
def swS (f p x v : Nat → Int) : Int := dot4 f x * dot4 p v - dot4 f v * dot4 p x
theorem swS_anti (f p x v : Nat → Int) : swS f p x v = -swS f p v x := by unfold swS; grind
theorem swS_self (f p v : Nat → Int) : swS f p v v = 0 := by unfold swS; grind
theorem swS_dual {f p a b c v : Nat → Int} (h : AX a b c v) (x : Nat → Int) : dot4 (crs a b c) v * swS f p x v = -(dot4 a x * swS f p (crs b c v) v) + dot4 b x * swS f p (crs a c v) v - dot4 c x * swS f p (crs a b v) v := by
  have d1 := dot4_lin f (dual a b c v x)
  have d2 := dot4_lin p (dual a b c v x)
  obtain ⟨⟨g, hg, e⟩, -⟩ := h
  have e1 := dot4_smul (l := f) e
  have e2 := dot4_smul (l := p) e
  rw [← e1] at d1
  rw [← e2] at d2
  have k : dot4 (crs a b c) v * swS f p x v = (dot4 (crs a b c) v * dot4 f x) * dot4 p v - dot4 f v * (dot4 (crs a b c) v * dot4 p x) := by unfold swS; grind
  rw [k, d1, d2]
  unfold swS
  grind
-- numbers by their digits
theorem dig {d M r : Int} (h : d.natAbs < M.natAbs) (e : d + M * r = 0) : d = 0 ∧ r = 0 := by
  by_cases hr : r = 0
  · subst hr; rw [Int.mul_zero] at e; exact ⟨by omega, rfl⟩
  · exfalso
    have h1 : d.natAbs = M.natAbs * r.natAbs := by rw [← Int.natAbs_mul]; omega
    have h2 : M.natAbs * 1 ≤ M.natAbs * r.natAbs := Nat.mul_le_mul (Nat.le_refl _) (by omega)
    omega
def swp3 (M : Int) (a b c : Nat → Int) : Nat → Int := fun i => a i + M * (b i + M * c i)
theorem swp3_dot (M : Int) (a b c x : Nat → Int) : dot4 (swp3 M a b c) x = dot4 a x + M * (dot4 b x + M * dot4 c x) := by unfold dot4 swp3; grind
theorem swS_alg (M a b c a' b' c' d e f d' e' f' : Int) : (a + M * (b + M * c)) * (d' + M * M * M * (e' + M * M * M * f')) - (a' + M * (b' + M * c')) * (d + M * M * M * (e + M * M * M * f)) = (a * d' - a' * d) + M * ((b * d' - b' * d) + M * ((c * d' - c' * d) + M * ((a * e' - a' * e) + M * ((b * e' - b' * e) + M * ((c * e' - c' * e) + M * ((a * f' - a' * f) + M * ((b * f' - b' * f) + M * ((c * f' - c' * f) + M * 0)))))))) := by grind
theorem swS_dig {M : Int} {a b c d e f x v : Nat → Int} (h : swS (swp3 M a b c) (swp3 (M * M * M) d e f) x v = 0)
    (hd : ∀ l ∈ [a, b, c], ∀ m ∈ [d, e, f], (dot4 l x * dot4 m v - dot4 l v * dot4 m x).natAbs < M.natAbs) : ∀ l ∈ [a, b, c], ∀ m ∈ [d, e, f], dot4 l x * dot4 m v - dot4 l v * dot4 m x = 0 := by
  have H : ∀ l m : Nat → Int, ∃ y : Int, y = dot4 l x * dot4 m v - dot4 l v * dot4 m x := fun l m => ⟨_, rfl⟩
  obtain ⟨ad, had⟩ := H a d; obtain ⟨ae, hae⟩ := H a e; obtain ⟨af, haf⟩ := H a f
  obtain ⟨bd, hbd⟩ := H b d; obtain ⟨be, hbe⟩ := H b e; obtain ⟨bf, hbf⟩ := H b f
  obtain ⟨cd, hcd⟩ := H c d; obtain ⟨ce, hce⟩ := H c e; obtain ⟨cf, hcf⟩ := H c f
  have k : ad + M * (bd + M * (cd + M * (ae + M * (be + M * (ce + M * (af + M * (bf + M * (cf + M * 0)))))))) = 0 := by
    refine Eq.trans ?_ h
    unfold swS
    rw [swp3_dot, swp3_dot, swp3_dot, swp3_dot, had, hae, haf, hbd, hbe, hbf, hcd, hce, hcf, swS_alg]
  have mem : ∀ (l m : Nat → Int) (y : Int), l ∈ [a, b, c] → m ∈ [d, e, f] → y = dot4 l x * dot4 m v - dot4 l v * dot4 m x → y.natAbs < M.natAbs := fun l m y hl hm hy => by rw [hy]; exact hd l hl m hm
  obtain ⟨z1, k⟩ := dig (mem a d ad (by simp) (by simp) had) k
  obtain ⟨z2, k⟩ := dig (mem b d bd (by simp) (by simp) hbd) k
  obtain ⟨z3, k⟩ := dig (mem c d cd (by simp) (by simp) hcd) k
  obtain ⟨z4, k⟩ := dig (mem a e ae (by simp) (by simp) hae) k
  obtain ⟨z5, k⟩ := dig (mem b e be (by simp) (by simp) hbe) k
  obtain ⟨z6, k⟩ := dig (mem c e ce (by simp) (by simp) hce) k
  obtain ⟨z7, k⟩ := dig (mem a f af (by simp) (by simp) haf) k
  obtain ⟨z8, k⟩ := dig (mem b f bf (by simp) (by simp) hbf) k
  obtain ⟨z9, -⟩ := dig (mem c f cf (by simp) (by simp) hcf) k
  intro l hl m hm
  simp only [List.mem_cons, List.not_mem_nil, or_false] at hl hm
  rcases hl with rfl | rfl | rfl <;> rcases hm with rfl | rfl | rfl <;> omega
/-- seen along the line, what is not in one line with v is before or behind it -/
theorem swS_ne {M : Int} {a b c v0 d e f v1 v x t : Nat → Int} (A0 : AX a b c v0) (A1 : AX d e f v1) (h01 : NP v0 v1) (h0 : NP v v0) (h1 : NP v v1) (ht : dot4 t v = 0) (hx : ¬ dot4 t x = 0)
    (hd : ∀ l ∈ [a, b, c], ∀ m ∈ [d, e, f], (dot4 l x * dot4 m v - dot4 l v * dot4 m x).natAbs < M.natAbs) : ¬ swS (swp3 M a b c) (swp3 (M * M * M) d e f) x v = 0 := by
  intro hs
  have D := swS_dig hs hd
  obtain ⟨l, hl, hlv⟩ : ∃ l ∈ [a, b, c], ¬ dot4 l v = 0 := Classical.byContradiction (fun z => A0.some h0 ⟨Classical.byContradiction (fun w => z ⟨a, by simp, w⟩), Classical.byContradiction (fun w => z ⟨b, by simp, w⟩), Classical.byContradiction (fun w => z ⟨c, by simp, w⟩)⟩)
  obtain ⟨m, hm, hmv⟩ : ∃ m ∈ [d, e, f], ¬ dot4 m v = 0 := Classical.byContradiction (fun z => A1.some h1 ⟨Classical.byContradiction (fun w => z ⟨d, by simp, w⟩), Classical.byContradiction (fun w => z ⟨e, by simp, w⟩), Classical.byContradiction (fun w => z ⟨f, by simp, w⟩)⟩)
  obtain ⟨w, hw⟩ : ∃ w : Nat → Int, ∀ i, w i = dot4 l v * dot4 m v * x i - dot4 l x * dot4 m v * v i := ⟨_, fun i => rfl⟩
  have hz : ∀ k : Nat → Int, dot4 k w = dot4 l v * dot4 m v * dot4 k x - dot4 l x * dot4 m v * dot4 k v := fun k => by
    show k 0 * w 0 + k 1 * w 1 + k 2 * w 2 + k 3 * w 3 = dot4 l v * dot4 m v * (k 0 * x 0 + k 1 * x 1 + k 2 * x 2 + k 3 * x 3) - dot4 l x * dot4 m v * (k 0 * v 0 + k 1 * v 1 + k 2 * v 2 + k 3 * v 3)
    rw [hw 0, hw 1, hw 2, hw 3]; grind
  have ka : ∀ k ∈ [a, b, c], dot4 k w = 0 := fun k hk => by
    rw [hz k]
    have d1 := D k hk m hm
    have d2 := D l hl m hm
    grind
  have kd : ∀ k ∈ [d, e, f], dot4 k w = 0 := fun k hk => by
    rw [hz k]
    have d1 := D l hl k hk
    grind
  have e0 := A0.ker (ka a (by simp)) (ka b (by simp)) (ka c (by simp))
  have e1 := A1.ker (kd d (by simp)) (kd e (by simp)) (kd f (by simp))
  have p0 := dot4_pos A0.2
  have p1 := dot4_pos A1.2
  have w0 : dot4 v0 w = 0 := Classical.byContradiction (fun z => h01 (dot4 v1 v1 * dot4 v0 w) (dot4 v0 v0 * dot4 v1 w) (fun q => by
    rcases Int.mul_eq_zero.mp q with q | q
    · omega
    · exact z q) (fun i hi => by
      have a1 := e0 i hi
      have a2 := e1 i hi
      grind))
  have wz : ∀ i, i < 4 → w i = 0 := fun i hi => by
    have := e0 i hi
    rw [w0, Int.zero_mul] at this
    rcases Int.mul_eq_zero.mp this with q | q
    · omega
    · exact q
  have : dot4 t w = 0 := by unfold dot4; rw [wz 0 (by decide), wz 1 (by decide), wz 2 (by decide), wz 3 (by decide)]; simp
  rw [hz t, ht, Int.mul_zero, Int.sub_zero] at this
  rcases Int.mul_eq_zero.mp this with q | q
  · rcases Int.mul_eq_zero.mp q with q | q
    · exact hlv q
    · exact hmv q
  · exact hx q
