/-! ===== own rows: class and reference, 20 ===== -/
-- at most forty faces: the count
def SLT (W : Nat → Nat → Int) (N : Nat) (V : Nat → Nat → Int) (F P : Nat → Int) (s f w : Nat) : Prop :=
  (s = f ∧ ∀ j, j < N → ¬ j = w → dot4 (W f) (V j) = 0 → swS F P (V j) (V w) < 0) ∨ (s = 8 + f ∧ ∀ j, j < N → ¬ j = w → dot4 (W f) (V j) = 0 → 0 < swS F P (V j) (V w)) ∨
  (2 ≤ w ∧ ∃ p q, p < N ∧ q < N ∧ dot4 (W f) (V p) = 0 ∧ dot4 (W f) (V q) = 0 ∧ swS F P (V p) (V w) < 0 ∧ 0 < swS F P (V q) (V w) ∧ s = 16 + 2 * (w - 2) + if 0 < dot4 (W f) (crs (swv F P (V w)) (V w) (swy F P (V w) (V p) (V q))) then 1 else 0)
/-- what a sweep gives -/
def SWP (N : Nat) (V : Nat → Nat → Int) (F P : Nat → Int) : Prop := (∀ j k, j < N → k < N → ¬ j = k → ¬ swS F P (V j) (V k) = 0) ∧ (∀ j, j < N → ¬ j = 0 → 0 < swS F P (V j) (V 0)) ∧ ∀ j, j < N → ¬ j = 1 → swS F P (V j) (V 1) < 0
theorem SLT.ex {W V : Nat → Nat → Int} {N f w : Nat} {F P : Nat → Int} (hs : SWP N V F P) (hN : N ≤ 12) (hf : f < 8) (hw : w < N) : ∃ s, s < 36 ∧ SLT W N V F P s f w := by
  obtain ⟨s1, s2, s3⟩ := hs
  by_cases ht : ∀ j, j < N → ¬ j = w → dot4 (W f) (V j) = 0 → swS F P (V j) (V w) < 0
  · exact ⟨f, by omega, Or.inl ⟨rfl, ht⟩⟩
  · by_cases hb : ∀ j, j < N → ¬ j = w → dot4 (W f) (V j) = 0 → 0 < swS F P (V j) (V w)
    · exact ⟨8 + f, by omega, Or.inr (Or.inl ⟨rfl, hb⟩)⟩
    · have hq : ∃ q, q < N ∧ ¬ q = w ∧ dot4 (W f) (V q) = 0 ∧ ¬ swS F P (V q) (V w) < 0 := Classical.byContradiction (fun z => ht (fun j hj ne tj => Classical.byContradiction (fun x => z ⟨j, hj, ne, tj, x⟩)))
      have hp : ∃ q, q < N ∧ ¬ q = w ∧ dot4 (W f) (V q) = 0 ∧ ¬ 0 < swS F P (V q) (V w) := Classical.byContradiction (fun z => hb (fun j hj ne tj => Classical.byContradiction (fun x => z ⟨j, hj, ne, tj, x⟩)))
      obtain ⟨q, hq, qw, tq, q0⟩ := hq
      obtain ⟨p, hp, pw, tp, p0⟩ := hp
      have nq := s1 q w hq hw qw
      have np := s1 p w hp hw pw
      have w0 : ¬ w = 0 := fun z => by subst z; exact p0 (s2 p hp pw)
      have w1 : ¬ w = 1 := fun z => by subst z; exact q0 (s3 q hq qw)
      refine ⟨16 + 2 * (w - 2) + if 0 < dot4 (W f) (crs (swv F P (V w)) (V w) (swy F P (V w) (V p) (V q))) then 1 else 0, ?_, Or.inr (Or.inr ⟨by omega, p, q, hp, hq, tp, tq, by omega, by omega, rfl⟩)⟩
      split <;> omega
/-- rows on the same side of w are in one line -/
theorem CX.side_par {n N al : Nat} {W V : Nat → Nat → Int} (h : CX n W N V) (hm : Rk N V al 4) {F P : Nat → Int} {f f' p q p' q' w : Nat} (hf : f < n) (hf' : f' < n) (hw : w < N) (hp : p < N) (hq : q < N) (hp' : p' < N) (hq' : q' < N) (nf : nz4 (W f)) (nf' : nz4 (W f')) (tw : dot4 (W f) (V w) = 0) (tp : dot4 (W f) (V p) = 0) (tq : dot4 (W f) (V q) = 0) (tw' : dot4 (W f') (V w) = 0) (tp' : dot4 (W f') (V p') = 0) (tq' : dot4 (W f') (V q') = 0)
    (h1 : swS F P (V p) (V w) < 0) (h2 : 0 < swS F P (V q) (V w)) (h1' : swS F P (V p') (V w) < 0) (h2' : 0 < swS F P (V q') (V w)) (he : (0 < dot4 (W f) (crs (swv F P (V w)) (V w) (swy F P (V w) (V p) (V q)))) ↔ (0 < dot4 (W f') (crs (swv F P (V w)) (V w) (swy F P (V w) (V p') (V q'))))) :
    (∃ A B : Int, 0 < A ∧ 0 < B ∧ ∀ i, i < 4 → A * W f' i = B * W f i) ∧ dot4 (W f) (swy F P (V w) (V p') (V q')) = 0 := by
  have n1 := h.side_ne hp hq hw h1 h2 nf tw tp tq
  have n2 := h.side_ne hp' hq' hw h1' h2' nf' tw' tp' tq'
  obtain ⟨pw, qw, pq, -, -⟩ := h.swy_np hp hq hw h1 h2
  have D : 0 < dot4 (W f) (crs (swv F P (V w)) (V w) (swy F P (V w) (V p) (V q))) * dot4 (W f') (crs (swv F P (V w)) (V w) (swy F P (V w) (V p') (V q'))) := by
    rcases Int.lt_or_lt_of_ne n1 with a | a
    · rcases Int.lt_or_lt_of_ne n2 with b | b
      · exact Int.mul_pos_of_neg_of_neg a b
      · have := he.mpr b; omega
    · exact Int.mul_pos a (he.mp a)
  have pos : ∀ r a b, r < n → a < N → b < N → swS F P (V a) (V w) < 0 → 0 < swS F P (V b) (V w) → 0 ≤ dot4 (W r) (swy F P (V w) (V a) (V b)) := fun r a b hr ha hb x1 x2 => by
    rw [swy_dot]
    have a1 := Int.mul_nonneg (Int.le_of_lt x2) ((h.2.2.1 a ha).1 r hr)
    have a2 := Int.mul_nonneg (show 0 ≤ -(swS F P (V a) (V w)) by omega) ((h.2.2.1 b hb).1 r hr)
    omega
  obtain ⟨z1, z2⟩ := orl (swy_w F P (V w)) (swy_s F P (V w) (V p) (V q)) (swy_s F P (V w) (V p') (V q')) tw (by rw [swy_dot, tp, tq]; simp) tw' (by rw [swy_dot, tp', tq']; simp) (pos f p' q' hf hp' hq' h1' h2') (pos f' p q hf' hp hq h1 h2) D
  refine ⟨?_, z1⟩
  rw [swy_dot] at z2
  have a1 := Int.mul_nonneg (Int.le_of_lt h2) ((h.2.2.1 p hp).1 f' hf')
  have a2 := Int.mul_nonneg (show 0 ≤ -(swS F P (V p) (V w)) by omega) ((h.2.2.1 q hq).1 f' hf')
  have gp : dot4 (W f') (V p) = 0 := (Int.mul_eq_zero.mp (show swS F P (V q) (V w) * dot4 (W f') (V p) = 0 by omega)).resolve_left (by omega)
  have gq : dot4 (W f') (V q) = 0 := (Int.mul_eq_zero.mp (show -(swS F P (V p) (V w)) * dot4 (W f') (V q) = 0 by omega)).resolve_left (by omega)
  obtain ⟨x, hx, fx⟩ := full_row hm nf
  have e := h.par hw hp hq pw qw pq fx tw tp tq tw' gp gq
  have fx0 := (h.2.2.1 x hx).1 f hf
  have gx0 := (h.2.2.1 x hx).1 f' hf'
  refine ⟨dot4 (W f) (V x), dot4 (W f') (V x), by omega, ?_, fun i hi => (e i hi).symm⟩
  rcases Int.lt_or_eq_of_le gx0 with g | g
  · exact g
  · exfalso
    obtain ⟨i, hi, hne⟩ := nf'
    have := e i hi
    rw [← g, Int.zero_mul] at this
    rcases Int.mul_eq_zero.mp this.symm with q | q
    · exact fx q
    · exact hne q
theorem SLT.same {n N al : Nat} {W V : Nat → Nat → Int} (h : CX n W N V) (hm : Rk N V al 4) {F P : Nat → Int} {s f f' w w' : Nat} (hn : n ≤ 8) (hf : f < n) (hf' : f' < n) (hw : w < N) (hw' : w' < N) (nf : nz4 (W f)) (nf' : nz4 (W f')) (tw : dot4 (W f) (V w) = 0) (tw' : dot4 (W f') (V w') = 0) (h1 : SLT W N V F P s f w) (h2 : SLT W N V F P s f' w') : w = w' ∧ ∃ A B : Int, 0 < A ∧ 0 < B ∧ ∀ i, i < 4 → A * W f' i = B * W f i := by
  rcases h1 with ⟨s1, o1⟩ | ⟨s1, o1⟩ | ⟨w2, p, q, hp, hq, tp, tq, x1, x2, s1⟩ <;> rcases h2 with ⟨s2, o2⟩ | ⟨s2, o2⟩ | ⟨w2', p', q', hp', hq', tp', tq', x1', x2', s2⟩
  · have e : f = f' := by omega
    subst e
    refine ⟨Classical.byContradiction (fun ne => ?_), 1, 1, by decide, by decide, fun _ _ => rfl⟩
    have y1 := o1 w' hw' (fun z => ne z.symm) tw'
    have y2 := o2 w hw ne tw
    rw [swS_anti] at y1; omega
  · omega
  · split at s2 <;> omega
  · omega
  · have e : f = f' := by omega
    subst e
    refine ⟨Classical.byContradiction (fun ne => ?_), 1, 1, by decide, by decide, fun _ _ => rfl⟩
    have y1 := o1 w' hw' (fun z => ne z.symm) tw'
    have y2 := o2 w hw ne tw
    rw [swS_anti] at y1; omega
  · split at s2 <;> omega
  · split at s1 <;> omega
  · split at s1 <;> omega
  · have e : w = w' := by
      split at s1 <;> split at s2 <;> omega
    subst e
    refine ⟨rfl, (h.side_par hm hf hf' hw hp hq hp' hq' nf nf' tw tp tq tw' tp' tq' x1 x2 x1' x2' ?_).1⟩
    rw [s1] at s2
    constructor
    · intro z
      rw [if_pos z] at s2
      exact Classical.byContradiction (fun q => by rw [if_neg q] at s2; omega)
    · intro z
      rw [if_pos z] at s2
      exact Classical.byContradiction (fun q => by rw [if_neg q] at s2; omega)
/-- on a row, one way from w there is one edge -/
theorem CX.turn {n N : Nat} {W V : Nat → Nat → Int} (h : CX n W N V) {f f' g g' u u' w : Nat} (hg : g < n) (hg' : g' < n) (hu : u < N) (hu' : u' < N) (hw : w < N) (uw : ¬ u = w) (uw' : ¬ u' = w) (fu : dot4 (W f) (V u) = 0) (fw : dot4 (W f) (V w) = 0) (gu : dot4 (W g) (V u) = 0) (gw : dot4 (W g) (V w) = 0) (fu' : dot4 (W f') (V u') = 0) (gu' : dot4 (W g') (V u') = 0) (gw' : dot4 (W g') (V w) = 0) (o : 0 < dot4 (W g) (crs (W f) (V w) (V u))) (o' : 0 < dot4 (W g') (crs (W f') (V w) (V u'))) {A B : Int} (hA : 0 < A) (hB : 0 < B) (e : ∀ i, i < 4 → A * W f' i = B * W f i) : u = u' := by
  have fx : ∀ x : Nat → Int, A * dot4 (W f') x = B * dot4 (W f) x := fun x => by
    have e0 := e 0 (by decide); have e1 := e 1 (by decide); have e2 := e 2 (by decide); have e3 := e 3 (by decide)
    unfold dot4; grind
  have fu2 : dot4 (W f) (V u') = 0 := by
    have := fx (V u')
    rw [fu', Int.mul_zero] at this
    exact (Int.mul_eq_zero.mp this.symm).resolve_left (by omega)
  have o2 : 0 < dot4 (W g') (crs (W f) (V w) (V u')) := by
    have c : A * dot4 (W g') (crs (W f') (V w) (V u')) = B * dot4 (W g') (crs (W f) (V w) (V u')) := by
      have k : ∀ f : Nat → Int, dot4 (W g') (crs f (V w) (V u')) = -dot4 f (crs (W g') (V w) (V u')) := fun f => by unfold dot4; simp only [crs]; grind
      rw [k, k]
      have := fx (crs (W g') (V w) (V u'))
      grind
    exact sgn_pos hB c.symm (Int.mul_pos hA o')
  obtain ⟨z1, -⟩ := orl (h := W f) (w := V w) (u1 := V u) (u2 := V u') (g1 := W g) (g2 := W g') fw fu fu2 gw gu gw' gu' ((h.2.2.1 u' hu').1 g hg) ((h.2.2.1 u hu).1 g' hg') (Int.mul_pos o o2)
  refine Classical.byContradiction (fun ne => ?_)
  have D : ¬ dot4 (crs (W f) (V w) (V u)) (W g) = 0 := by rw [dot4_comm]; omega
  have sp : ∀ x : Nat → Int, dot4 (W f) x = 0 → dot4 (W g) x = 0 → Sp 2 (two (crs (W f) (V u) (W g)) (crs (W f) (V w) (W g))) x := fun x x1 x2 => ⟨_, fun i => if i = 0 then dot4 (V w) x else -(dot4 (V u) x), D, fun i hi => by
    rw [dual (W f) (V w) (V u) (W g) x i hi, x1, x2, isum_2]
    show _ = dot4 (V w) x * crs (W f) (V u) (W g) i + -(dot4 (V u) x) * crs (W f) (V w) (W g) i
    grind⟩
  have := ((h.ind2 hu hw uw).ext (h.nosp hu hu' hw ne uw' uw)).le (r := 2) (t := two (crs (W f) (V u) (W g)) (crs (W f) (V w) (W g))) (fun i hi => by
    rcases (show i = 0 ∨ i = 1 ∨ i = 2 by omega) with rfl | rfl | rfl
    · exact sp _ fu gu
    · exact sp _ fw gw
    · exact sp _ fu2 z1)
  omega
/-- where an edge is counted -/
def ESL (n : Nat) (W : Nat → Nat → Int) (N : Nat) (V : Nat → Nat → Int) (F P : Nat → Int) (s m : Nat) : Prop := ∃ f g u w, f < n ∧ g < n ∧ u < N ∧ w < N ∧ ¬ u = w ∧ (∀ j, m.testBit j = true ↔ j = u ∨ j = w) ∧ dot4 (W f) (V u) = 0 ∧ dot4 (W f) (V w) = 0 ∧ dot4 (W g) (V u) = 0 ∧ dot4 (W g) (V w) = 0 ∧ 0 < dot4 (W g) (crs (W f) (V w) (V u)) ∧ SLT W N V F P s f w
theorem nz_first {g f w u : Nat → Int} (h : ¬ dot4 g (crs f w u) = 0) : nz4 f := Classical.byContradiction (fun z => h (by
  have e : dot4 g (crs f w u) = -dot4 f (crs g w u) := by unfold dot4; simp only [crs]; grind
  rw [e, dot4_zl (nz4_not z)]; rfl))
theorem ESL.own {n N al : Nat} {W V : Nat → Nat → Int} (h : CX n W N V) (hm : Rk N V al 4) {F P : Nat → Int} (hn : n ≤ 8) {s m k : Nat} (h1 : ESL n W N V F P s m) (h2 : ESL n W N V F P s k) : m = k := by
  obtain ⟨f, g, u, w, hf, hg, hu, hw, uw, hb, fu, fw, gu, gw, o, sl⟩ := h1
  obtain ⟨f', g', u', w', hf', hg', hu', hw', uw', hb', fu', fw', gu', gw', o', sl'⟩ := h2
  obtain ⟨e, A, B, hA, hB, hp⟩ := SLT.same h hm hn hf hf' hw hw' (nz_first (g := W g) (w := V w) (u := V u) (by omega)) (nz_first (g := W g') (w := V w') (u := V u') (by omega)) fw fw' sl sl'
  subst e
  have := h.turn hg hg' hu hu' hw uw uw' fu fw gu gw fu' gu' gw' o o' hA hB hp
  subst this
  refine Nat.eq_of_testBit_eq (fun j => ?_)
  have h1 := hb j
  have h2 := hb' j
  rcases Bool.eq_false_or_eq_true (m.testBit j) with e | e
  · rw [e, h2.mpr (h1.mp e)]
  · rcases Bool.eq_false_or_eq_true (k.testBit j) with e2 | e2
    · rw [h1.mpr (h2.mp e2)] at e; cases e
    · rw [e, e2]
theorem ESL.two {n N m : Nat} {W V : Nat → Nat → Int} (h : CX n W N V) {F P : Nat → Int} (hn : n ≤ 8) (hN : N ≤ 12) (hs : SWP N V F P) (hc : Cl n W N V m) (hb : ∀ j, m.testBit j = true → j < N) (hm : Rk N V m 2) : ∃ s t, s < 36 ∧ t < 36 ∧ ¬ s = t ∧ ESL n W N V F P s m ∧ ESL n W N V F P t m := by
  obtain ⟨u, w, hu, hw, uw, bu, bw, ho⟩ := hm.two h
  obtain ⟨f, g, hf, hg, tf, tg, D⟩ := h.edge hc hu hw (by omega) bu bw ho
  have bits : ∀ j, m.testBit j = true ↔ j = u ∨ j = w := fun j => ⟨fun b => ho j (hb j b) b, fun e => by rcases e with e | e <;> rw [e]; exact bu; exact bw⟩
  have fg : ¬ f = g := fun e => D (by rw [e]; exact crs_a _ _ _)
  -- f with head x, g with head y
  have main : ∀ x y, x < N → y < N → ¬ x = y → (∀ j, m.testBit j = true ↔ j = x ∨ j = y) → 0 < dot4 (W g) (crs (W f) (V x) (V y)) → ∃ s t, s < 36 ∧ t < 36 ∧ ¬ s = t ∧ ESL n W N V F P s m ∧ ESL n W N V F P t m := by
    intro x y hx hy xy bt o
    have bx := (bt x).mpr (Or.inl rfl)
    have by' := (bt y).mpr (Or.inr rfl)
    obtain ⟨s, hs36, sl⟩ := SLT.ex (W := W) hs hN (by omega : f < 8) hx
    obtain ⟨t, ht36, tl⟩ := SLT.ex (W := W) hs hN (by omega : g < 8) hy
    have o2 : dot4 (W f) (crs (W g) (V y) (V x)) = dot4 (W g) (crs (W f) (V x) (V y)) := by unfold dot4; simp only [crs]; grind
    refine ⟨s, t, hs36, ht36, ?_, ⟨f, g, y, x, hf, hg, hy, hx, fun z => xy z.symm, fun j => by rw [bt j]; exact Or.comm, tf y hy by', tf x hx bx, tg y hy by', tg x hx bx, o, sl⟩, ⟨g, f, x, y, hg, hf, hx, hy, xy, bt, tg x hx bx, tg y hy by', tf x hx bx, tf y hy by', by omega, tl⟩⟩
    intro e
    subst e
    rcases sl with ⟨s1, -⟩ | ⟨s1, -⟩ | ⟨w2, p, q, hp, hq, tp, tq, x1, x2, s1⟩ <;> rcases tl with ⟨s2, -⟩ | ⟨s2, -⟩ | ⟨w2', p', q', hp', hq', tp', tq', x1', x2', s2⟩
    · omega
    · omega
    · split at s2 <;> omega
    · omega
    · omega
    · split at s2 <;> omega
    · split at s1 <;> omega
    · split at s1 <;> omega
    · split at s1 <;> split at s2 <;> omega
  rcases Int.lt_or_lt_of_ne D with D | D
  · refine main u w hu hw (by omega) bits ?_
    have : dot4 (W g) (crs (W f) (V u) (V w)) = -dot4 (W g) (crs (W f) (V w) (V u)) := by unfold dot4; simp only [crs]; grind
    omega
  · exact main w u hw hu (by omega) (fun j => by rw [bits j]; exact Or.comm) D
theorem php2 {M K : Nat} {O : Nat → Nat → Prop} (own : ∀ s i j, i < M → j < M → O s i → O s j → i = j) (ex : ∀ i, i < M → ∃ s t, s < K ∧ t < K ∧ ¬ s = t ∧ O s i ∧ O t i) : 2 * M ≤ K := by
  refine Classical.byContradiction (fun hn => ?_)
  have hs : ∃ sl tl : Nat → Nat, ∀ j, j < M → sl j < K ∧ tl j < K ∧ ¬ sl j = tl j ∧ O (sl j) j ∧ O (tl j) j := by
    refine ⟨fun j => if h : j < M then (ex j h).choose else 0, fun j => if h : j < M then (ex j h).choose_spec.choose else 0, fun j h1 => ?_⟩
    simp only [dif_pos h1]
    exact (ex j h1).choose_spec.choose_spec
  obtain ⟨sl, tl, hsl⟩ := hs
  obtain ⟨i, j, hij, hj, heq⟩ := php K (fun i => if i % 2 = 0 then sl (i / 2) else tl (i / 2)) (fun i hi => by
    obtain ⟨s1, s2, -⟩ := hsl (i / 2) (by omega)
    show (if i % 2 = 0 then sl (i / 2) else tl (i / 2)) < K
    split
    · exact s1
    · exact s2)
  have heq : (if i % 2 = 0 then sl (i / 2) else tl (i / 2)) = (if j % 2 = 0 then sl (j / 2) else tl (j / 2)) := heq
  obtain ⟨-, -, i3, i4, i5⟩ := hsl (i / 2) (by omega)
  obtain ⟨-, -, j3, j4, j5⟩ := hsl (j / 2) (by omega)
  have oi : O (if i % 2 = 0 then sl (i / 2) else tl (i / 2)) (i / 2) := by split; exact i4; exact i5
  have oj : O (if j % 2 = 0 then sl (j / 2) else tl (j / 2)) (j / 2) := by split; exact j4; exact j5
  rw [heq] at oi
  have e := own _ _ _ (by omega) (by omega) oi oj
  by_cases hi2 : i % 2 = 0
  · by_cases hj2 : j % 2 = 0
    · omega
    · rw [if_pos hi2, if_neg hj2, e] at heq; exact j3 heq
  · by_cases hj2 : j % 2 = 0
    · rw [if_neg hi2, if_pos hj2, e] at heq; exact j3 heq.symm
    · omega
theorem Rk.le4 {N m R : Nat} {V : Nat → Nat → Int} (h : Rk N V m R) : R ≤ 4 := by
  obtain ⟨t, a1, -, -⟩ := h
  exact a1.le (fun i _ => Sp.units _)
theorem bits_eq {N m k : Nat} (hm : ∀ j, m.testBit j = true → j < N) (hk : ∀ j, k.testBit j = true → j < N) (h : ∀ j, j < N → (m.testBit j = true ↔ k.testBit j = true)) : m = k := by
  refine Nat.eq_of_testBit_eq (fun j => ?_)
  rcases Bool.eq_false_or_eq_true (m.testBit j) with e | e
  · rw [e, (h j (hm j e)).mp e]
  · rcases Bool.eq_false_or_eq_true (k.testBit j) with e2 | e2
    · rw [(h j (hk j e2)).mpr e2] at e; cases e
    · rw [e, e2]
theorem faces40 {n N M al sp : Nat} {W V : Nat → Nat → Int} {T mk : Nat → Nat} (h : CX n W N V) (hN : N ≤ 12) (hT : ∀ r, r < n → ∀ j, j < N → ((T r).testBit j = true ↔ dot4 (W r) (V j) = 0)) (hTN : ∀ r, r < n → ∀ j, (T r).testBit j = true → j < N) (hd : ∀ r, r < n → ∃ R, Rk N V (T r) R) (ha : ∀ j, j < N → al.testBit j = true) (hal : ∀ j, al.testBit j = true → j < N) (hsp : Rk N V al sp)
    (h8 : ∀ r, r < n → ¬ TM W N V al r → r < 8) (h4 : sp = 4 → n ≤ 8 ∧ (∀ k, k < n → ∀ i, i < 4 → (W k i).natAbs ≤ 5) ∧ ∀ j, j < N → ∀ i, i < 4 → (V j i).natAbs ≤ 750)
    (hdis : ∀ i j, i < j → j < M → ¬ mk i = mk j) (hb : ∀ i, i < M → ∀ j, (mk i).testBit j = true → j < N) (hc : ∀ i, i < M → Cl n W N V (mk i)) (hr : ∀ i, i < M → ∃ R, Rk N V (mk i) R) : M ≤ 40 := by
  have hsw : ∃ F P, sp = 4 → 2 ≤ N → SWP N V F P := by
    by_cases e : sp = 4 ∧ 2 ≤ N
    · obtain ⟨-, a, b⟩ := h4 e.1
      obtain ⟨F, P, q⟩ := sweep h e.2 a b
      exact ⟨F, P, fun _ _ => q⟩
    · exact ⟨fun _ => 0, fun _ => 0, fun a b => absurd ⟨a, b⟩ e⟩
  obtain ⟨F, P, hsw⟩ := hsw
  let Q : Nat → Nat → Prop := fun s m => (s < 2 ∧ ∀ j, j < N → ¬ m.testBit j = true) ∨ (2 ≤ s ∧ s < 4 ∧ ∀ j, j < N → m.testBit j = true) ∨ (4 ≤ s ∧ s < 28 ∧ ∀ j, j < N → (m.testBit j = true ↔ j = (s - 4) / 2)) ∨ (28 ≤ s ∧ s < 44 ∧ ∀ j, j < N → (m.testBit j = true ↔ dot4 (W ((s - 28) / 2)) (V j) = 0)) ∨ (44 ≤ s ∧ sp = 4 ∧ ESL n W N V F P (s - 44) m)
  have := php2 (M := M) (K := 80) (O := fun s i => Q s (mk i)) (fun s i j hi hj h1 h2 => by
    have eq : mk i = mk j := by
      have h1 : Q s (mk i) := h1
      have h2 : Q s (mk j) := h2
      rcases h1 with ⟨a, x⟩ | ⟨a, b, x⟩ | ⟨a, b, x⟩ | ⟨a, b, x⟩ | ⟨a, b, x⟩ <;> rcases h2 with ⟨a', y⟩ | ⟨a', b', y⟩ | ⟨a', b', y⟩ | ⟨a', b', y⟩ | ⟨a', b', y⟩ <;> first | omega | skip
      · exact bits_eq (hb i hi) (hb j hj) (fun q hq => ⟨fun z => absurd z (x q hq), fun z => absurd z (y q hq)⟩)
      · exact bits_eq (hb i hi) (hb j hj) (fun q hq => ⟨fun z => y q hq, fun z => x q hq⟩)
      · exact bits_eq (hb i hi) (hb j hj) (fun q hq => (x q hq).trans (y q hq).symm)
      · exact bits_eq (hb i hi) (hb j hj) (fun q hq => (x q hq).trans (y q hq).symm)
      · subst b; exact ESL.own h hsp (h4 rfl).1 x y
    refine Classical.byContradiction (fun ne => ?_)
    rcases Nat.lt_or_gt_of_ne ne with z | z
    · exact hdis i j z hj eq
    · exact hdis j i z hi eq.symm) (fun i hi => by
    show ∃ s t, s < 80 ∧ t < 80 ∧ ¬ s = t ∧ Q s (mk i) ∧ Q t (mk i)
    obtain ⟨R, hR⟩ := hr i hi
    have hsub : msub (mk i) al := fun j b => ha j (hb i hi j b)
    have hle := hR.mono hsub hsp
    have h44 := hsp.le4
    by_cases e1 : R = sp
    · subst e1
      have := (hc i hi).full hsub hR hsp
      exact ⟨2, 3, by decide, by decide, by decide, Or.inr (Or.inl ⟨by decide, by decide, fun j hj => this j hj (ha j hj)⟩), Or.inr (Or.inl ⟨by decide, by decide, fun j hj => this j hj (ha j hj)⟩)⟩
    · by_cases e2 : R + 1 = sp
      · subst e2
        obtain ⟨r, hr, hx⟩ := Cl.side (dm := fun _ => 0) hT hTN hd ha (hb i hi) (hc i hi) hR hsp
        by_cases ta : TM W N V al r
        · exact ⟨2, 3, by decide, by decide, by decide, Or.inr (Or.inl ⟨by decide, by decide, fun j hj => (hx j hj).mpr (ta j hj (ha j hj))⟩), Or.inr (Or.inl ⟨by decide, by decide, fun j hj => (hx j hj).mpr (ta j hj (ha j hj))⟩)⟩
        · have r8 := h8 r hr ta
          refine ⟨28 + 2 * r, 29 + 2 * r, by omega, by omega, by omega, Or.inr (Or.inr (Or.inr (Or.inl ⟨by omega, by omega, ?_⟩))), Or.inr (Or.inr (Or.inr (Or.inl ⟨by omega, by omega, ?_⟩)))⟩
          · rw [show (28 + 2 * r - 28) / 2 = r by omega]; exact hx
          · rw [show (29 + 2 * r - 28) / 2 = r by omega]; exact hx
      · rcases (show R = 0 ∨ R = 1 ∨ R = 2 by omega) with e | e | e
        · subst e
          exact ⟨0, 1, by decide, by decide, by decide, Or.inl ⟨by decide, fun j hj => hR.zero h hj⟩, Or.inl ⟨by decide, fun j hj => hR.zero h hj⟩⟩
        · subst e
          obtain ⟨u, hu, bu, ho⟩ := hR.one h
          refine ⟨4 + 2 * u, 5 + 2 * u, by omega, by omega, by omega, Or.inr (Or.inr (Or.inl ⟨by omega, by omega, fun j hj => ?_⟩)), Or.inr (Or.inr (Or.inl ⟨by omega, by omega, fun j hj => ?_⟩))⟩
          · rw [show (4 + 2 * u - 4) / 2 = u by omega]; exact ⟨ho j hj, fun z => by rw [z]; exact bu⟩
          · rw [show (5 + 2 * u - 4) / 2 = u by omega]; exact ⟨ho j hj, fun z => by rw [z]; exact bu⟩
        · subst e
          have e4 : sp = 4 := by omega
          obtain ⟨u, w, hu, hw, uw, -⟩ := hR.two h
          obtain ⟨s, t, hs, ht, st, x, y⟩ := ESL.two h (h4 e4).1 hN (hsw e4 (by omega)) (hc i hi) (hb i hi) hR
          refine ⟨44 + s, 44 + t, by omega, by omega, by omega, Or.inr (Or.inr (Or.inr (Or.inr ⟨by omega, e4, ?_⟩))), Or.inr (Or.inr (Or.inr (Or.inr ⟨by omega, e4, ?_⟩)))⟩
          · rw [show 44 + s - 44 = s by omega]; exact x
          · rw [show 44 + t - 44 = t by omega]; exact y)
  omega
