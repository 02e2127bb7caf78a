/-! ===== own rows: class and reference, 14 ===== -/
-- lists in order
def lx (u v : Nat → Int) : Prop := u 0 < v 0 ∨ (u 0 = v 0 ∧ (u 1 < v 1 ∨ (u 1 = v 1 ∧ (u 2 < v 2 ∨ (u 2 = v 2 ∧ u 3 < v 3)))))
theorem lx_tr {u v w : Nat → Int} (h1 : lx u v) (h2 : lx v w) : lx u w := by unfold lx at *; omega
theorem lx_ir {u : Nat → Int} : ¬ lx u u := by unfold lx; omega
theorem lx_3 (u v : Nat → Int) : lx u v ∨ (∀ i, i < 4 → u i = v i) ∨ lx v u := by
  by_cases h : ∀ i, i < 4 → u i = v i
  · exact Or.inr (Or.inl h)
  · have : ¬ (u 0 = v 0 ∧ u 1 = v 1 ∧ u 2 = v 2 ∧ u 3 = v 3) := fun ⟨a, b, c, d⟩ => h (fun i hi => by
      rcases (show i = 0 ∨ i = 1 ∨ i = 2 ∨ i = 3 by omega) with rfl | rfl | rfl | rfl
      · exact a
      · exact b
      · exact c
      · exact d)
    unfold lx
    omega
theorem lx_congr {u u' v v' : Nat → Int} (hu : ∀ i, i < 4 → u i = u' i) (hv : ∀ i, i < 4 → v i = v' i) : lx u v ↔ lx u' v' := by
  unfold lx
  rw [hu 0 (by decide), hu 1 (by decide), hu 2 (by decide), hu 3 (by decide), hv 0 (by decide), hv 1 (by decide), hv 2 (by decide), hv 3 (by decide)]
def vI (g : Nat → Int32) : Nat → Int := fun i => (g i).toInt
theorem cmo_neg {a b : Int32} : (cmo a b < 0 ↔ a.toInt < b.toInt) ∧ ¬ cmo a b = 0 ∧ (0 < cmo a b ↔ b.toInt ≤ a.toInt) := by
  unfold cmo
  by_cases h : b ≤ a
  · rw [if_pos h]
    have := Int32.le_iff_toInt_le.mp h
    refine ⟨⟨fun z => absurd z (by decide), fun z => by omega⟩, by decide, ⟨fun _ => this, fun _ => by decide⟩⟩
  · rw [if_neg h]
    have : ¬ b.toInt ≤ a.toInt := fun z => h (Int32.le_iff_toInt_le.mpr z)
    refine ⟨⟨fun _ => by omega, fun _ => by decide⟩, by decide, ⟨fun z => absurd z (by decide), fun z => absurd z this⟩⟩
theorem i32_ne {a b : Int32} (h : ¬ a = b) : ¬ a.toInt = b.toInt := fun z => h (Int32.toInt_inj.mp z)
theorem cmp4_spec {f g : Nat → Int32} {k : Nat} : (cmp4 f (4 * k) g < 0 ↔ lx (wr f k) (vI g)) ∧ (cmp4 f (4 * k) g = 0 ↔ ∀ i, i < 4 → wr f k i = vI g i) ∧ (0 < cmp4 f (4 * k) g ↔ lx (vI g) (wr f k)) := by
  have e : (∀ i, i < 4 → wr f k i = vI g i) ↔ (f (4 * k + 0)).toInt = (g 0).toInt ∧ (f (4 * k + 1)).toInt = (g 1).toInt ∧ (f (4 * k + 2)).toInt = (g 2).toInt ∧ (f (4 * k + 3)).toInt = (g 3).toInt := by
    constructor
    · intro h; exact ⟨h 0 (by decide), h 1 (by decide), h 2 (by decide), h 3 (by decide)⟩
    · intro ⟨a, b, c, d⟩ i hi
      rcases (show i = 0 ∨ i = 1 ∨ i = 2 ∨ i = 3 by omega) with rfl | rfl | rfl | rfl
      · exact a
      · exact b
      · exact c
      · exact d
  rw [e]
  unfold cmp4 lx
  show _ ∧ _ ∧ _
  simp only [wr, vI]
  by_cases h0 : f (4 * k + 0) = g 0
  · rw [if_pos h0, h0]
    by_cases h1 : f (4 * k + 1) = g 1
    · rw [if_pos h1, h1]
      by_cases h2 : f (4 * k + 2) = g 2
      · rw [if_pos h2, h2]
        by_cases h3 : f (4 * k + 3) = g 3
        · rw [if_pos h3, h3]
          refine ⟨⟨fun z => absurd z (by decide), fun z => by omega⟩, ⟨fun _ => by simp, fun _ => rfl⟩, ⟨fun z => absurd z (by decide), fun z => by omega⟩⟩
        · rw [if_neg h3]
          obtain ⟨a, b, c⟩ := cmo_neg (a := f (4 * k + 3)) (b := g 3)
          have := i32_ne h3
          refine ⟨a.trans ⟨fun z => by omega, fun z => by omega⟩, ⟨fun z => absurd z b, fun z => by omega⟩, c.trans ⟨fun z => by omega, fun z => by omega⟩⟩
      · rw [if_neg h2]
        obtain ⟨a, b, c⟩ := cmo_neg (a := f (4 * k + 2)) (b := g 2)
        have := i32_ne h2
        refine ⟨a.trans ⟨fun z => by omega, fun z => by omega⟩, ⟨fun z => absurd z b, fun z => by omega⟩, c.trans ⟨fun z => by omega, fun z => by omega⟩⟩
    · rw [if_neg h1]
      obtain ⟨a, b, c⟩ := cmo_neg (a := f (4 * k + 1)) (b := g 1)
      have := i32_ne h1
      refine ⟨a.trans ⟨fun z => by omega, fun z => by omega⟩, ⟨fun z => absurd z b, fun z => by omega⟩, c.trans ⟨fun z => by omega, fun z => by omega⟩⟩
  · rw [if_neg h0]
    obtain ⟨a, b, c⟩ := cmo_neg (a := f (4 * k + 0)) (b := g 0)
    have := i32_ne h0
    refine ⟨a.trans ⟨fun z => by omega, fun z => by omega⟩, ⟨fun z => absurd z b, fun z => by omega⟩, c.trans ⟨fun z => by omega, fun z => by omega⟩⟩
theorem ord_cmp {f g f' g' : Nat → Int32} {k : Nat} (hf : ∀ i, i < 4 → f (4 * k + i) = f' (4 * k + i)) (hg : ∀ i, i < 4 → g i = g' i) : ord4 f k g = cmp4 f' (4 * k) g' := by
  unfold ord4 cmp4
  rw [show k * 4 = 4 * k by omega, hf 0 (by decide), hf 1 (by decide), hf 2 (by decide), hf 3 (by decide), hg 0 (by decide), hg 1 (by decide), hg 2 (by decide), hg 3 (by decide)]
  rfl
/-- in order, no two alike -/
def SL (n : Nat) (f : Nat → Int32) : Prop := ∀ j k, j < k → k < n → lx (wr f j) (wr f k)
theorem kpl_spec {f g : Nat → Int32} : ∀ (m k : Nat), k ≤ kpl f g m k ∧ kpl f g m k ≤ k + m ∧ (∀ j, k ≤ j → j < kpl f g m k → lx (wr f j) (vI g)) ∧ (kpl f g m k < k + m → ¬ lx (wr f (kpl f g m k)) (vI g))
  | 0, k => ⟨Nat.le_refl k, Nat.le_refl k, fun j h1 h2 => absurd h2 (by show ¬ j < k; omega), fun h => absurd h (Nat.lt_irrefl k)⟩
  | m + 1, k => by
    by_cases e : cmp4 f (4 * k) g < 0
    · have e1 : kpl f g (m + 1) k = kpl f g m (k + 1) := by show (if cmp4 f (4 * k) g < 0 then _ else _) = _; rw [if_pos e]
      rw [e1]
      obtain ⟨a, b, c, d⟩ := kpl_spec (f := f) (g := g) m (k + 1)
      refine ⟨by omega, by omega, fun j h1 h2 => ?_, fun h => d (by omega)⟩
      by_cases z : j = k
      · subst z; exact cmp4_spec.1.mp e
      · exact c j (by omega) h2
    · have e1 : kpl f g (m + 1) k = k := by show (if cmp4 f (4 * k) g < 0 then _ else _) = _; rw [if_neg e]
      rw [e1]
      exact ⟨Nat.le_refl k, by omega, fun j h1 h2 => absurd h2 (by omega), fun _ z => e (cmp4_spec.1.mpr z)⟩
theorem ipl_spec {f g : Nat → Int32} : ∀ n, (∀ j, ipl f g n ≤ j → j < n → 0 < ord4 f j g) ∧ (0 < ipl f g n → ¬ 0 < ord4 f (ipl f g n - 1) g)
  | 0 => ⟨fun j _ h => absurd h (Nat.not_lt_zero j), fun h => absurd h (Nat.lt_irrefl 0)⟩
  | n + 1 => by
    obtain ⟨a, b⟩ := ipl_spec (f := f) (g := g) n
    by_cases e : 0 < ord4 f n g
    · have e1 : ipl f g (n + 1) = ipl f g n := by show (if 0 < ord4 f n g then _ else _) = _; rw [if_pos e]
      rw [e1]
      refine ⟨fun j h1 h2 => ?_, b⟩
      by_cases z : j = n
      · subst z; exact e
      · exact a j h1 (by omega)
    · have e1 : ipl f g (n + 1) = n + 1 := by show (if 0 < ord4 f n g then _ else _) = _; rw [if_neg e]
      rw [e1]
      exact ⟨fun j h1 h2 => absurd h1 (by omega), fun _ => e⟩
/-- the list with one more at place p -/
theorem SL.put {n p : Nat} {f f2 g : Nat → Int32} (h : SL n f) (hp : p ≤ n) (h1 : ∀ j, j < p → lx (wr f j) (vI g)) (h2 : ∀ j, p ≤ j → j < n → lx (vI g) (wr f j)) (hf : ∀ q, q < n + 1 → ∀ i, i < 4 → f2 (4 * q + i) = if q < p then f (4 * q + i) else if q = p then g i else f (4 * (q - 1) + i)) : SL (n + 1) f2 := by
  have r : ∀ q, q < n + 1 → ∀ i, i < 4 → wr f2 q i = (if q < p then wr f q else if q = p then vI g else wr f (q - 1)) i := fun q hq i hi => by
    show (f2 (4 * q + i)).toInt = _
    rw [hf q hq i hi]
    by_cases e : q < p
    · rw [if_pos e, if_pos e]; rfl
    · rw [if_neg e, if_neg e]
      by_cases e2 : q = p
      · rw [if_pos e2, if_pos e2]; rfl
      · rw [if_neg e2, if_neg e2]; rfl
  intro j k hjk hk
  rw [lx_congr (r j (by omega)) (r k hk)]
  by_cases e : k < p
  · rw [if_pos (by omega), if_pos e]; exact h j k hjk (by omega)
  · rw [if_neg e]
    by_cases e2 : k = p
    · rw [if_pos e2, if_pos (by omega)]; exact h1 j (by omega)
    · rw [if_neg e2]
      by_cases e3 : j < p
      · rw [if_pos e3]; exact h j (k - 1) (by omega) (by omega)
      · rw [if_neg e3]
        by_cases e4 : j = p
        · rw [if_pos e4]; exact h2 (k - 1) (by omega) (by omega)
        · rw [if_neg e4]; exact h (j - 1) (k - 1) (by omega) (by omega)
theorem SL.ky {n : Nat} {f g : Nat → Int32} (h : SL n f) : SL (kyN n f g) (kyF n f g) := by
  by_cases e : kyP n f g
  · rw [kyN_y e, kyF_y e]; exact h
  · rw [kyN_n e, kyF_n e]
    obtain ⟨a, b, c, d⟩ := kpl_spec (f := f) (g := g) n 0
    have hp : kpl f g n 0 ≤ n := by omega
    refine h.put (p := kpl f g n 0) (g := g) hp (fun j hj => c j (by omega) hj) (fun j h1 h2 => ?_) (fun q hq i hi => kpF_at hp hq hi)
    have hpn : kpl f g n 0 < n := by omega
    have hgt : lx (vI g) (wr f (kpl f g n 0)) := by
      rcases lx_3 (wr f (kpl f g n 0)) (vI g) with z | z | z
      · exact absurd z (d (by omega))
      · exact absurd ⟨hpn, cmp4_spec.2.1.mpr z⟩ e
      · exact z
    by_cases z : j = kpl f g n 0
    · rw [z]; exact hgt
    · exact lx_tr hgt (h _ _ (by omega) h2)
/-- both lists take a point alike, while there is room -/
theorem ins_same {n : Nat} {f f' g g' : Nat → Int32} (h : SL n f) (hf : ∀ i, i < 4 * n → f' i = f i) (hg : ∀ i, i < 4 → g' i = g i) (hn : kyN n f g ≤ 12) : insN 12 n f' g' = kyN n f g ∧ ∀ i, i < 4 * kyN n f g → insF 12 n f' g' i = kyF n f g i := by
  have ho : ∀ j, j < n → ord4 f' j g' = cmp4 f (4 * j) g := fun j hj => ord_cmp (fun i hi => hf _ (by omega)) hg
  obtain ⟨a, b, c, d⟩ := kpl_spec (f := f) (g := g) n 0
  obtain ⟨p1, p2⟩ := ipl_spec (f := f') (g := g') n
  have p0 := ipl_le f' g' n
  by_cases e : kyP n f g
  · obtain ⟨e1, e2⟩ := e
    have e : kyP n f g := ⟨e1, e2⟩
    have hno : ¬ insC 12 n f' g' := by
      rintro ⟨i1, -⟩
      have q1 : kpl f g n 0 < ipl f' g' n := Nat.lt_of_not_le (fun z => by
        have := p1 _ z e1
        rw [ho _ e1, e2] at this
        exact absurd this (by decide))
      rcases i1 with z | z
      · omega
      · rw [ho _ (by omega)] at z
        have z1 := cmp4_spec.1.mp z
        by_cases y : ipl f' g' n - 1 = kpl f g n 0
        · rw [y, e2] at z; exact absurd z (by decide)
        · have := h (kpl f g n 0) (ipl f' g' n - 1) (by omega) (by omega)
          have e3 := cmp4_spec.2.1.mp e2
          rw [lx_congr e3 (fun _ _ => rfl)] at this
          exact lx_ir (lx_tr this z1)
    rw [insN_n hno, insF_n hno, kyN_y e, kyF_y e]
    exact ⟨rfl, hf⟩
  · rw [kyN_n e] at hn
    rw [kyN_n e, kyF_n e]
    have hp : kpl f g n 0 ≤ n := by omega
    have hgt : kpl f g n 0 < n → lx (vI g) (wr f (kpl f g n 0)) := fun hpn => by
      rcases lx_3 (wr f (kpl f g n 0)) (vI g) with z | z | z
      · exact absurd z (d (by omega))
      · exact absurd ⟨hpn, cmp4_spec.2.1.mpr z⟩ e
      · exact z
    have hpp : ipl f' g' n = kpl f g n 0 := by
      refine Nat.le_antisymm (Nat.le_of_not_lt (fun z => ?_)) (Nat.le_of_not_lt (fun z => ?_))
      · have q := p2 (by omega)
        rw [ho _ (by omega)] at q
        apply q
        rw [cmp4_spec.2.2]
        have hpn : kpl f g n 0 < n := by omega
        by_cases y : ipl f' g' n - 1 = kpl f g n 0
        · rw [y]; exact hgt hpn
        · exact lx_tr (hgt hpn) (h _ _ (by omega) (by omega))
      · have q := p1 _ (Nat.le_refl _) (by omega)
        rw [ho _ (by omega)] at q
        have q1 := cmp4_spec.2.2.mp q
        exact lx_ir (lx_tr q1 (c _ (by omega) z))
    have hC : insC 12 n f' g' := by
      refine ⟨?_, by omega⟩
      by_cases y : ipl f' g' n = 0
      · exact Or.inl y
      · refine Or.inr ?_
        rw [ho _ (by omega)]
        exact cmp4_spec.1.mpr (c _ (by omega) (by omega))
    rw [insN_y hC, insF_y hC, hpp]
    refine ⟨rfl, fun i hi => ?_⟩
    obtain ⟨q, r, hr, rfl⟩ : ∃ q r, r < 4 ∧ i = 4 * q + r := ⟨i / 4, i % 4, by omega, by omega⟩
    rw [kpF_at hp (by omega) hr, cpy_at, cpy_at]
    by_cases y : q < kpl f g n 0
    · rw [if_pos y, if_neg (by omega), if_neg (by omega)]; exact hf _ (by omega)
    · rw [if_neg y]
      by_cases y2 : q = kpl f g n 0
      · rw [if_pos y2, if_pos (by omega), show 0 + (4 * q + r - kpl f g n 0 * 4) = r by omega]; exact hg r hr
      · rw [if_neg y2, if_neg (by omega), if_pos (by omega), show kpl f g n 0 * 4 + (4 * q + r - (kpl f g n 0 * 4 + 4)) = 4 * (q - 1) + r by omega]
        exact hf _ (by omega)
