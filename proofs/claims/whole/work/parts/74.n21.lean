/-! ===== own rows: class and reference, 21 ===== -/
-- sides of faces, and what they cover
theorem mask_of (P : Nat → Prop) : ∀ N, ∃ m, ∀ j, Nat.testBit m j = true ↔ j < N ∧ P j
  | 0 => ⟨0, fun j => by rw [Nat.zero_testBit]; constructor; intro h; cases h; intro h; omega⟩
  | N + 1 => by
    obtain ⟨m, h⟩ := mask_of P N
    by_cases p : P N
    · refine ⟨m ||| 2 ^ N, fun j => ?_⟩
      rw [Nat.testBit_or, Bool.or_eq_true, h j, Nat.testBit_two_pow]
      constructor
      · rintro (z | z)
        · exact ⟨by omega, z.2⟩
        · have : N = j := by simpa using z
          subst this; exact ⟨by omega, p⟩
      · rintro ⟨z1, z2⟩
        by_cases e : j = N
        · subst e; right; simp
        · left; exact ⟨by omega, z2⟩
    · refine ⟨m, fun j => (h j).trans ⟨fun z => ⟨by omega, z.2⟩, fun z => ⟨?_, z.2⟩⟩⟩
      have : ¬ j = N := fun e => p (by rw [← e]; exact z.2)
      omega
/-- the face of a point -/
theorem face_of {n N : Nat} {W V : Nat → Nat → Int} (q : Nat → Int) : ∃ m, (∀ j, Nat.testBit m j = true ↔ j < N ∧ Tle n W q (V j)) ∧ Cl n W N V m := by
  obtain ⟨m, h⟩ := mask_of (fun j => Tle n W q (V j)) N
  exact ⟨m, h, fun j hj hk => (h j).mpr ⟨hj, fun k hk1 hz => hk k hk1 (fun i hi b => ((h i).mp b).2 k hk1 hz)⟩⟩
theorem big {n : Nat} (W : Nat → Nat → Int) (y : Nat → Int) : ∃ M : Int, 0 ≤ M ∧ ∀ k, k < n → -dot4 (W k) y < M := by
  induction n with
  | zero => exact ⟨0, Int.le_refl 0, fun k hk => absurd hk (by omega)⟩
  | succ m ih =>
    obtain ⟨M, h0, h⟩ := ih
    refine ⟨M + (dot4 (W m) y).natAbs + 1, by omega, fun k hk => ?_⟩
    by_cases e : k = m
    · subst e; omega
    · have := h k (by omega); omega
/-- a closed set without v grows, within G, to a side of G without v -/
theorem CX.fac {n N : Nat} {W V : Nat → Nat → Int} (h : CX n W N V) (hrk : ∀ m, (∀ j, Nat.testBit m j = true → j < N) → ∃ R, Rk N V m R) {G g v : Nat} (hG : Cl n W N V G) (bG : ∀ j, G.testBit j = true → j < N) (rG : Rk N V G g) (vG : G.testBit v = true) : ∀ (e : Nat) (H r : Nat), r + e = g → Cl n W N V H → (∀ j, H.testBit j = true → j < N) → Rk N V H r → msub H G → ¬ H.testBit v = true → ∃ K, Cl n W N V K ∧ (∀ j, K.testBit j = true → j < N) ∧ Rk N V K (g - 1) ∧ msub H K ∧ msub K G ∧ ¬ K.testBit v = true := by
  intro e
  have hv := bG v vG
  induction e using Nat.strongRecOn with
  | _ e ih =>
  intro H r hre hH bH rH sH vH
  by_cases e0 : e = 0
  · exfalso
    have : r = g := by omega
    subst this
    exact vH (hH.full sH rH rG v hv vG)
  · by_cases e1 : e = 1
    · exact ⟨H, hH, bH, by rw [show g - 1 = r by omega]; exact rH, fun _ b => b, sH, vH⟩
    · -- something of G beyond H and v
      obtain ⟨t, a1, a2, a3⟩ := rH
      have hu : ∃ u, G.testBit u = true ∧ ¬ Sp (r + 1) (fun i => if i < r then t i else V v) (V u) := Classical.byContradiction (fun z => by
        obtain ⟨s, b1, b2, -⟩ := rG
        have := b1.le (r := r + 1) (t := fun i => if i < r then t i else V v) (fun i hi => (b2 i hi).trans (fun j hj => by
          by_cases b : G.testBit j = true
          · rw [mV_y b]; exact Classical.byContradiction (fun w => z ⟨j, b, w⟩)
          · rw [mV_n b]; exact Sp.zero (fun _ _ => rfl)))
        omega)
      obtain ⟨u, uG, hu⟩ := hu
      have hun := bG u uG
      have hr : ∃ k, k < n ∧ (TM W N V H k ∧ 0 < dot4 (W k) (V v)) := Classical.byContradiction (fun z => vH (hH v hv (fun k hk tk => by
        have := (h.2.2.1 v hv).1 k hk
        exact Classical.byContradiction (fun w => z ⟨k, hk, tk, by omega⟩))))
      obtain ⟨r0, hr0, ⟨tr0, pr0⟩, hmin⟩ := argmin (P := fun k => TM W N V H k ∧ 0 < dot4 (W k) (V v)) (f := fun k => dot4 (W k) (V u)) (g := fun k => dot4 (W k) (V v)) n hr (fun k hk p => p.2)
      obtain ⟨y, hy⟩ : ∃ y : Nat → Int, ∀ i, y i = dot4 (W r0) (V v) * V u i + -(dot4 (W r0) (V u)) * V v i := ⟨_, fun i => rfl⟩
      have dy : ∀ l, dot4 l y = dot4 (W r0) (V v) * dot4 l (V u) + -(dot4 (W r0) (V u)) * dot4 l (V v) := fun l => dot4_2 (fun i _ => hy i)
      obtain ⟨M, M0, hM⟩ := big (n := n) W y
      obtain ⟨q, hq⟩ : ∃ q : Nat → Int, ∀ i, q i = M * psum N V H i + 1 * y i := ⟨_, fun i => rfl⟩
      have dq : ∀ l, dot4 l q = M * dot4 l (psum N V H) + 1 * dot4 l y := fun l => dot4_2 (fun i _ => hq i)
      have pc := psum_Cn (m := H) h
      have yH : ∀ k, k < n → TM W N V H k → 0 ≤ dot4 (W k) y := fun k hk tk => by
        rw [dy]
        by_cases p : 0 < dot4 (W k) (V v)
        · have := hmin k hk ⟨tk, p⟩
          have e : dot4 (W r0) (V v) * dot4 (W k) (V u) + -(dot4 (W r0) (V u)) * dot4 (W k) (V v) = dot4 (W k) (V u) * dot4 (W r0) (V v) - dot4 (W r0) (V u) * dot4 (W k) (V v) := by grind
          rw [e]; omega
        · have : dot4 (W k) (V v) = 0 := by have := (h.2.2.1 v hv).1 k hk; omega
          rw [this, Int.mul_zero, Int.add_zero]
          exact Int.mul_nonneg (Int.le_of_lt pr0) ((h.2.2.1 u hun).1 k hk)
      have qn : ∀ k, k < n → ¬ TM W N V H k → 0 < dot4 (W k) q := fun k hk tk => by
        rw [dq]
        have h1 : 1 ≤ dot4 (W k) (psum N V H) := by
          have := pc k hk
          have : ¬ dot4 (W k) (psum N V H) = 0 := fun z => tk ((psum_t h hk).mp z)
          omega
        have h2 := Int.mul_le_mul_of_nonneg_left h1 M0
        have h3 := hM k hk
        omega
      have qt : ∀ k, k < n → TM W N V H k → dot4 (W k) q = dot4 (W k) y := fun k hk tk => by
        rw [dq, (psum_t h hk).mpr tk]; omega
      have qC : Cn n W q := fun k hk => by
        by_cases tk : TM W N V H k
        · rw [qt k hk tk]; exact yH k hk tk
        · exact Int.le_of_lt (qn k hk tk)
      obtain ⟨K, bK, cK⟩ := face_of (n := n) (N := N) (W := W) (V := V) q
      have HK : msub H K := fun j b => (bK j).mpr ⟨bH j b, fun k hk z => Classical.byContradiction (fun w => by
        have := qn k hk (fun tk => w (tk j (bH j b) b))
        omega)⟩
      have KG : msub K G := fun j b => hG j ((bK j).mp b).1 (fun k hk tk => ((bK j).mp b).2 k hk (by
        rw [qt k hk (fun i hi bi => tk i hi (sH i bi)), dy, tk u hun uG, tk v hv vG]; simp))
      have vK : ¬ K.testBit v = true := fun b => by
        have := ((bK v).mp b).2 r0 hr0 (by rw [qt r0 hr0 tr0, dy]; grind)
        omega
      have bK2 : ∀ j, K.testBit j = true → j < N := fun j b => ((bK j).mp b).1
      obtain ⟨R, rK⟩ := hrk K bK2
      have l1 := Rk.mono HK ⟨t, a1, a2, a3⟩ rK
      have ne : ¬ R = r := fun z => by
        subst z
        refine hu ?_
        have sK : ∀ x, Sp N (mV K V) x → Sp R t x := fun x sx => sx.trans (fun j hj => by
          by_cases b : K.testBit j = true
          · rw [mV_y b]
            exact (Rk.same HK ⟨t, a1, a2, a3⟩ rK hj b).trans a3
          · rw [mV_n b]; exact Sp.zero (fun _ _ => rfl))
        have q1 : Sp N (mV K V) q := by
          obtain ⟨D, c, hD, -, hb, e⟩ := h.mwm cK qC (fun k hk tk => Classical.byContradiction (fun w => by
            obtain ⟨D, c, hD, -, hb, e⟩ := mw h.1 h.2.1 h.2.2.1 _ q (Nat.le_refl _) qC
            have h1 := dot4_smul (l := W k) e
            rw [isum_dot, isum_zero N (fun j hj => by
              by_cases z : c j = 0
              · rw [z, Int.zero_mul]
              · rw [tk j hj ((bK j).mpr ⟨hj, hb j hj z⟩), Int.mul_zero])] at h1
            exact w ((Int.mul_eq_zero.mp h1).resolve_left (by omega))))
          refine ⟨D, c, by omega, fun i hi => ?_⟩
          rw [e i hi]
          refine isum_congr N (fun j hj => ?_)
          by_cases z : c j = 0
          · rw [z, Int.zero_mul, Int.zero_mul]
          · rw [mV_y (hb j hj z).1]
        have p1 : Sp N (mV K V) (psum N V H) := by
          refine ⟨1, fun j => if H.testBit j = true then 1 else 0, by decide, fun i hi => ?_⟩
          rw [Int.one_mul]
          refine isum_congr N (fun j hj => ?_)
          by_cases b : H.testBit j = true
          · rw [mV_y (HK j b)]
          · show (if H.testBit j = true then (1 : Int) else 0) * V j i = (if H.testBit j = true then 1 else 0) * mV K V j i
            rw [if_neg b, Int.zero_mul, Int.zero_mul]
        have y1 : Sp R t y := (sK _ (q1.lin p1 1 (-M))).congr (fun i hi => by rw [hq i]; grind)
        have y2 : Sp (R + 1) (fun i => if i < R then t i else V v) y := y1.trans (fun i hi => by
          have := Sp.mem (n := R + 1) (t := fun i => if i < R then t i else V v) (k := i) (by omega)
          simp only [if_pos hi] at this; exact this)
        have v2 : Sp (R + 1) (fun i => if i < R then t i else V v) (V v) := by
          have := Sp.mem (n := R + 1) (t := fun i => if i < R then t i else V v) (k := R) (by omega)
          simp only [if_neg (Nat.lt_irrefl R)] at this; exact this
        refine (y2.lin v2 1 (dot4 (W r0) (V u))).div (g := dot4 (W r0) (V v)) (by omega) (fun i hi => ?_)
        rw [hy i]; grind
      have lK : R ≤ g := Rk.mono KG rK rG
      obtain ⟨K2, c1, c2, c3, c4, c5, c6⟩ := ih (g - R) (by omega) K R (by omega) cK bK2 rK KG vK
      exact ⟨K2, c1, c2, c3, fun j b => c4 j (HK j b), c5, c6⟩
/-- one cut: the ray v is taken away from z as far as it goes; what is left lies on a side without v -/
theorem CX.cut {n N : Nat} {W V : Nat → Nat → Int} (h : CX n W N V) (hrk : ∀ m, (∀ j, Nat.testBit m j = true → j < N) → ∃ R, Rk N V m R) {G g v : Nat} (hG : Cl n W N V G) (bG : ∀ j, G.testBit j = true → j < N) (rG : Rk N V G g) (vG : G.testBit v = true) {z : Nat → Int} (hz : Cn n W z) (tz : ∀ k, k < n → TM W N V G k → dot4 (W k) z = 0) :
    ∃ K, Cl n W N V K ∧ (∀ j, K.testBit j = true → j < N) ∧ Rk N V K (g - 1) ∧ msub K G ∧ ¬ K.testBit v = true ∧ ∃ (A B : Int) (y : Nat → Int), 0 < A ∧ 0 ≤ B ∧ (∀ i, i < 4 → A * z i = B * V v i + y i) ∧ Cn n W y ∧ ∀ k, k < n → TM W N V K k → dot4 (W k) y = 0 := by
  have hv := bG v vG
  obtain ⟨cv, nv⟩ := h.2.2.1 v hv
  have hpos : ∃ k, k < n ∧ 0 < dot4 (W k) (V v) := Classical.byContradiction (fun q => by
    obtain ⟨i, hi, hne⟩ := nv
    refine hne (h.1 (V v) (fun k hk => ?_) i hi)
    have := cv k hk
    have : ¬ 0 < dot4 (W k) (V v) := fun w => q ⟨k, hk, w⟩
    omega)
  obtain ⟨r, hr, hrv, hmin⟩ := argmin (P := fun k => 0 < dot4 (W k) (V v)) (f := fun k => dot4 (W k) z) (g := fun k => dot4 (W k) (V v)) n hpos (fun k hk p => p)
  obtain ⟨y, hy⟩ : ∃ y : Nat → Int, ∀ i, y i = dot4 (W r) (V v) * z i + -(dot4 (W r) z) * V v i := ⟨_, fun i => rfl⟩
  have dy : ∀ l, dot4 l y = dot4 (W r) (V v) * dot4 l z + -(dot4 (W r) z) * dot4 l (V v) := fun l => dot4_2 (fun i _ => hy i)
  have cy : Cn n W y := fun k hk => by
    rw [dy]
    by_cases hs : 0 < dot4 (W k) (V v)
    · have := hmin k hk hs
      have e : dot4 (W r) (V v) * dot4 (W k) z + -(dot4 (W r) z) * dot4 (W k) (V v) = dot4 (W k) z * dot4 (W r) (V v) - dot4 (W r) z * dot4 (W k) (V v) := by grind
      rw [e]; omega
    · have h0 : dot4 (W k) (V v) = 0 := by have := cv k hk; omega
      rw [h0, Int.mul_zero, Int.add_zero]
      exact Int.mul_nonneg (Int.le_of_lt hrv) (hz k hk)
  have ry : dot4 (W r) y = 0 := by rw [dy]; grind
  have ty : ∀ k, k < n → TM W N V G k → dot4 (W k) y = 0 := fun k hk tk => by rw [dy, tz k hk tk, tk v hv vG]; simp
  obtain ⟨H, bH, cH⟩ := face_of (n := n) (N := N) (W := W) (V := V) y
  have bH2 : ∀ j, H.testBit j = true → j < N := fun j b => ((bH j).mp b).1
  have HG : msub H G := fun j b => hG j (bH2 j b) (fun k hk tk => ((bH j).mp b).2 k hk (ty k hk tk))
  have vH : ¬ H.testBit v = true := fun b => by
    have := ((bH v).mp b).2 r hr ry
    omega
  obtain ⟨R, rH⟩ := hrk H bH2
  have lR := Rk.mono HG rH rG
  obtain ⟨K, c1, c2, c3, c4, c5, c6⟩ := h.fac hrk hG bG rG vG (g - R) H R (by omega) cH bH2 rH HG vH
  refine ⟨K, c1, c2, c3, c5, c6, dot4 (W r) (V v), dot4 (W r) z, y, hrv, hz r hr, fun i hi => by rw [hy i]; grind, cy, fun k hk tk => ?_⟩
  obtain ⟨D, c, hD, -, hb, e⟩ := mw h.1 h.2.1 h.2.2.1 _ y (Nat.le_refl _) cy
  have h1 := dot4_smul (l := W k) e
  rw [isum_dot, isum_zero N (fun j hj => by
    by_cases q : c j = 0
    · rw [q, Int.zero_mul]
    · rw [tk j hj (c4 j ((bH j).mpr ⟨hj, hb j hj q⟩)), Int.mul_zero])] at h1
  exact (Int.mul_eq_zero.mp h1).resolve_left (by omega)
/-- H is a side of G without its first ray v -/
def SD (n : Nat) (W : Nat → Nat → Int) (N : Nat) (V : Nat → Nat → Int) (G H v : Nat) : Prop := Cl n W N V H ∧ (∀ j, H.testBit j = true → j < N) ∧ (∀ g, Rk N V G g → Rk N V H (g - 1)) ∧ msub H G ∧ ¬ H.testBit v = true
def fst1 (G v : Nat) : Prop := G.testBit v = true ∧ ∀ j, j < v → ¬ G.testBit j = true
theorem fst1.ex {G : Nat} : ∀ N, (∃ j, j < N ∧ G.testBit j = true) → ∃ v, v < N ∧ fst1 G v
  | 0, ⟨j, hj, _⟩ => absurd hj (by omega)
  | N + 1, h => by
    by_cases e : ∃ j, j < N ∧ G.testBit j = true
    · obtain ⟨v, hv, f⟩ := fst1.ex N e
      exact ⟨v, by omega, f⟩
    · obtain ⟨j, hj, b⟩ := h
      have : j = N := Classical.byContradiction (fun z => e ⟨j, by omega, b⟩)
      subst this
      exact ⟨j, by omega, b, fun i hi q => e ⟨i, hi, q⟩⟩
theorem fst1.uniq {G v w : Nat} (h : fst1 G v) (k : fst1 G w) : v = w := by
  rcases Nat.lt_trichotomy v w with q | q | q
  · exact absurd h.1 (k.2 v q)
  · exact q
  · exact absurd k.1 (h.2 w q)
/-- cuts: a face that is still to be filled, and the rays that are to be added -/
def RC (n : Nat) (W : Nat → Nat → Int) (N : Nat) (V : Nat → Nat → Int) (al : Nat) : Nat → Nat → Nat → Prop
  | 0, G, ch => G = al ∧ ch = 0
  | d + 1, H, ch => ∃ G c0 v, RC n W N V al d G c0 ∧ fst1 G v ∧ SD n W N V G H v ∧ ch = c0 ||| 2 ^ v
theorem CX.cover {n N al sp : Nat} {W V : Nat → Nat → Int} (h : CX n W N V) (hrk : ∀ m, (∀ j, Nat.testBit m j = true → j < N) → ∃ R, Rk N V m R) (ha : ∀ j, j < N → al.testBit j = true) (hal : ∀ j, al.testBit j = true → j < N) (hsp : Rk N V al sp) {x : Nat → Int} (hx : Cn n W x) : ∀ d, d ≤ sp → ∃ G ch, RC n W N V al d G ch ∧ Cl n W N V G ∧ (∀ j, G.testBit j = true → j < N) ∧ Rk N V G (sp - d) ∧ ∃ (D : Int) (c : Nat → Int) (z : Nat → Int), 0 < D ∧ (∀ j, j < N → 0 ≤ c j) ∧ (∀ j, j < N → ¬ c j = 0 → ch.testBit j = true) ∧ Cn n W z ∧ (∀ k, k < n → TM W N V G k → dot4 (W k) z = 0) ∧ ∀ i, i < 4 → D * x i = isum (fun j => c j * V j i) N + z i
  | 0, _ => by
    refine ⟨al, 0, ⟨rfl, rfl⟩, fun j hj _ => ha j hj, hal, hsp, 1, fun _ => 0, x, by decide, fun _ _ => Int.le_refl 0, fun _ _ q => absurd rfl q, hx, fun k hk tk => ?_, fun i hi => by rw [isum_zero N (fun _ _ => Int.zero_mul _)]; omega⟩
    obtain ⟨D, c, hD, -, hb, e⟩ := mw h.1 h.2.1 h.2.2.1 _ x (Nat.le_refl _) hx
    have h1 := dot4_smul (l := W k) e
    rw [isum_dot, isum_zero N (fun j hj => by rw [tk j hj (ha j hj), Int.mul_zero])] at h1
    exact (Int.mul_eq_zero.mp h1).resolve_left (by omega)
  | d + 1, hd => by
    obtain ⟨G, ch, rc, cG, bG, rG, D, c, z, hD, c0, cb, hz, tz, e⟩ := h.cover hrk ha hal hsp hx d (by omega)
    have hex : ∃ j, j < N ∧ G.testBit j = true := Classical.byContradiction (fun q => by
      have := rG.none (fun j hj b => q ⟨j, hj, b⟩)
      omega)
    obtain ⟨v, hv, fv⟩ := fst1.ex N hex
    obtain ⟨K, k1, k2, k3, k4, k5, A, B, y, hA, hB, ey, cy, ty⟩ := h.cut hrk cG bG rG fv.1 hz tz
    refine ⟨K, ch ||| 2 ^ v, ⟨G, ch, v, rc, fv, ⟨k1, k2, fun g hg => by rw [hg.uniq rG]; exact k3, k4, k5⟩, rfl⟩, k1, k2, by rw [show sp - (d + 1) = sp - d - 1 by omega]; exact k3, A * D, fun j => A * c j + (if j = v then B else 0), y, Int.mul_pos hA hD, fun j hj => ?_, fun j hj q => ?_, cy, ty, fun i hi => ?_⟩
    · have := Int.mul_nonneg (Int.le_of_lt hA) (c0 j hj)
      show 0 ≤ A * c j + (if j = v then B else 0)
      split <;> omega
    · rw [Nat.testBit_or, Bool.or_eq_true, Nat.testBit_two_pow]
      by_cases w : j = v
      · right; simp [w]
      · left
        refine cb j hj (fun p => q ?_)
        show A * c j + (if j = v then B else 0) = 0
        rw [p, if_neg w]; simp
    · have e1 : isum (fun j => (A * c j + if j = v then B else 0) * V j i) N = A * isum (fun j => c j * V j i) N + B * V v i := by
        rw [← isum_one (k := v) (a := B) (f := fun j => V j i) N hv, ← isum_mul, ← isum_add]
        exact isum_congr N (fun j _ => by grind)
      rw [e1, Int.mul_assoc, e i hi, Int.mul_add, ey i hi]
      omega
/-- every point of the cone lies in one of the simplices -/
theorem CX.simp {n N al sp : Nat} {W V : Nat → Nat → Int} (h : CX n W N V) (hrk : ∀ m, (∀ j, Nat.testBit m j = true → j < N) → ∃ R, Rk N V m R) (ha : ∀ j, j < N → al.testBit j = true) (hal : ∀ j, al.testBit j = true → j < N) (hsp : Rk N V al sp) {x : Nat → Int} (hx : Cn n W x) : ∃ G ch, RC n W N V al sp G ch ∧ (∀ j, ¬ G.testBit j = true) ∧ ∃ (D : Int) (c : Nat → Int), 0 < D ∧ (∀ j, j < N → 0 ≤ c j) ∧ (∀ j, j < N → ¬ c j = 0 → ch.testBit j = true) ∧ ∀ i, i < 4 → D * x i = isum (fun j => c j * V j i) N := by
  obtain ⟨G, ch, rc, cG, bG, rG, D, c, z, hD, c0, cb, hz, tz, e⟩ := h.cover hrk ha hal hsp hx sp (Nat.le_refl _)
  rw [Nat.sub_self] at rG
  have hn : ∀ j, ¬ G.testBit j = true := fun j b => rG.zero h (bG j b) b
  refine ⟨G, ch, rc, hn, D, c, hD, c0, cb, fun i hi => ?_⟩
  rw [e i hi, h.1 z (fun k hk => tz k hk (fun q _ b => absurd b (hn q))) i hi]; omega
/-- the rays of a cut are independent of its face -/
theorem RC.ind {n N al : Nat} {W V : Nat → Nat → Int} (h : CX n W N V) (hal : ∀ j, al.testBit j = true → j < N) : ∀ (d G ch : Nat), RC n W N V al d G ch → (∀ j, G.testBit j = true → j < N) ∧ (∀ j, ch.testBit j = true → j < N ∧ ¬ G.testBit j = true) ∧ ∀ (a : Nat → Int) (y : Nat → Int), (∀ j, j < N → ¬ ch.testBit j = true → a j = 0) → Sp N (mV G V) y → (∀ i, i < 4 → isum (fun j => a j * V j i) N + y i = 0) → ∀ j, j < N → a j = 0
  | 0, G, ch, ⟨e1, e2⟩ => by
    subst e1; subst e2
    refine ⟨hal, fun j b => ?_, fun a y ha _ _ j hj => ha j hj (by rw [Nat.zero_testBit]; decide)⟩
    rw [Nat.zero_testBit] at b; cases b
  | d + 1, H, ch, ⟨G, c0, v, rc, fv, ⟨s1, s2, s3, s4, s5⟩, e⟩ => by
    obtain ⟨i1, i2, i3⟩ := RC.ind h hal d G c0 rc
    subst e
    have hv := i1 v fv.1
    have vc : ¬ c0.testBit v = true := fun b => (i2 v b).2 fv.1
    have bits : ∀ j, (c0 ||| 2 ^ v).testBit j = true ↔ c0.testBit j = true ∨ j = v := fun j => by
      rw [Nat.testBit_or, Bool.or_eq_true, Nat.testBit_two_pow]
      constructor
      · rintro (q | q)
        · exact Or.inl q
        · right; simpa using (of_decide_eq_true q).symm
      · rintro (q | q)
        · exact Or.inl q
        · right; simp [q]
    refine ⟨s2, fun j b => ?_, fun a y ha sy ey => ?_⟩
    · rcases (bits j).mp b with q | q
      · exact ⟨(i2 j q).1, fun w => (i2 j q).2 (s4 j w)⟩
      · rw [q]; exact ⟨hv, s5⟩
    · -- a row that is tight on H and not at v
      have hr : ∃ k, k < n ∧ TM W N V H k ∧ ¬ dot4 (W k) (V v) = 0 := Classical.byContradiction (fun q => s5 (s1 v hv (fun k hk tk => Classical.byContradiction (fun w => q ⟨k, hk, tk, w⟩))))
      obtain ⟨k, hk, tk, nk⟩ := hr
      have split : ∀ i, i < 4 → isum (fun j => a j * V j i) N = isum (fun j => (if j = v then 0 else a j) * V j i) N + a v * V v i := fun i hi => by
        rw [← isum_one (k := v) (a := a v) (f := fun j => V j i) N hv, ← isum_add]
        refine isum_congr N (fun j _ => ?_)
        by_cases w : j = v
        · subst w; simp
        · rw [if_neg w, if_neg w]; omega
      have sub := i3 (fun j => if j = v then 0 else a j) (fun i => a v * V v i + 1 * y i) (fun j hj nb => by
        by_cases w : j = v
        · exact if_pos w
        · show (if j = v then 0 else a j) = 0
          rw [if_neg w]
          exact ha j hj (fun q => by rcases (bits j).mp q with q | q; exact nb q; exact w q)) ((Sp.in hv fv.1).lin (sy.sub s4) (a v) 1) (fun i hi => by
        have := ey i hi
        rw [split i hi] at this
        omega)
      have av : a v = 0 := by
        have z : ∀ i, i < 4 → 0 = a v * V v i + 1 * y i := fun i hi => by
          have := ey i hi
          rw [split i hi, isum_zero N (fun j hj => by rw [show (if j = v then 0 else a j) = 0 from sub j hj]; exact Int.zero_mul _)] at this
          omega
        have d := dot4_2 (l := W k) (x := V v) (y := y) (z := fun _ => 0) (a := a v) (b := 1) z
        rw [dot4_z (fun _ _ => rfl), sy.row tk] at d
        have : a v * dot4 (W k) (V v) = 0 := by omega
        exact (Int.mul_eq_zero.mp this).resolve_right nk
      intro j hj
      by_cases w : j = v
      · rw [w]; exact av
      · have := sub j hj
        have this : (if j = v then 0 else a j) = 0 := this
        rw [if_neg w] at this; exact this
