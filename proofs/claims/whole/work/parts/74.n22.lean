/-! ===== own rows: class and reference, 22 ===== -/
-- at most nine simplices
def TS (W : Nat → Nat → Int) (N : Nat) (V : Nat → Nat → Int) (F P : Nat → Int) (s r w p q : Nat) : Prop := p < N ∧ q < N ∧ w < N ∧ 2 ≤ w ∧ dot4 (W r) (V w) = 0 ∧ dot4 (W r) (V p) = 0 ∧ dot4 (W r) (V q) = 0 ∧ swS F P (V p) (V w) < 0 ∧ 0 < swS F P (V q) (V w) ∧ s = 2 * (w - 2) + if 0 < dot4 (W r) (crs (swv F P (V w)) (V w) (swy F P (V w) (V p) (V q))) then 1 else 0
theorem TS.same {n N al : Nat} {W V : Nat → Nat → Int} (h : CX n W N V) (hm : Rk N V al 4) {F P : Nat → Int} {s r r' w w' p p' q q' : Nat} (hr : r < n) (hr' : r' < n) (nr : nz4 (W r)) (nr' : nz4 (W r')) (t : TS W N V F P s r w p q) (t' : TS W N V F P s r' w' p' q') : w = w' ∧ (∃ A B : Int, 0 < A ∧ 0 < B ∧ ∀ i, i < 4 → A * W r' i = B * W r i) ∧ dot4 (W r) (swy F P (V w) (V p') (V q')) = 0 := by
  obtain ⟨hp, hq, hw, w2, tw, tp, tq, x1, x2, s1⟩ := t
  obtain ⟨hp', hq', hw', w2', tw', tp', tq', x1', x2', s2⟩ := t'
  have e : w = w' := by split at s1 <;> split at s2 <;> omega
  subst e
  refine ⟨rfl, h.side_par hm hr hr' hw hp hq hp' hq' nr nr' tw tp tq tw' tp' tq' x1 x2 x1' x2' ?_⟩
  rw [s1] at s2
  constructor
  · intro z
    rw [if_pos z] at s2
    exact Classical.byContradiction (fun q => by rw [if_neg q] at s2; omega)
  · intro z
    rw [if_pos z] at s2
    exact Classical.byContradiction (fun q => by rw [if_neg q] at s2; omega)
theorem TS.mid {N : Nat} {W V : Nat → Nat → Int} {F P : Nat → Int} (hs : SWP N V F P) {r x y z : Nat} (hx : x < N) (hy : y < N) (hz : z < N) (xy : ¬ x = y) (xz : ¬ x = z) (yz : ¬ y = z) (tx : dot4 (W r) (V x) = 0) (ty : dot4 (W r) (V y) = 0) (tz : dot4 (W r) (V z) = 0) : ∃ s w p q, s < 2 * (N - 2) ∧ TS W N V F P s r w p q ∧ ((w = x ∧ ((p = y ∧ q = z) ∨ (p = z ∧ q = y))) ∨ (w = y ∧ ((p = x ∧ q = z) ∨ (p = z ∧ q = x))) ∨ (w = z ∧ ((p = x ∧ q = y) ∨ (p = y ∧ q = x)))) := by
  obtain ⟨s1, s2, s3⟩ := hs
  have mk : ∀ w p q, w < N → p < N → q < N → ¬ p = w → ¬ q = w → dot4 (W r) (V w) = 0 → dot4 (W r) (V p) = 0 → dot4 (W r) (V q) = 0 → swS F P (V p) (V w) < 0 → 0 < swS F P (V q) (V w) → ∃ s, s < 2 * (N - 2) ∧ TS W N V F P s r w p q := by
    intro w p q hw hp hq pw qw tw tp tq x1 x2
    have w0 : ¬ w = 0 := fun e => by subst e; have := s2 p hp pw; omega
    have w1 : ¬ w = 1 := fun e => by subst e; have := s3 q hq qw; omega
    refine ⟨2 * (w - 2) + if 0 < dot4 (W r) (crs (swv F P (V w)) (V w) (swy F P (V w) (V p) (V q))) then 1 else 0, ?_, hp, hq, hw, by omega, tw, tp, tq, x1, x2, rfl⟩
    split <;> omega
  have a1 := s1 y x hy hx (fun e => xy e.symm)
  have a2 := s1 z x hz hx (fun e => xz e.symm)
  have a3 := s1 z y hz hy (fun e => yz e.symm)
  have b1 := swS_anti F P (V x) (V y)
  have b2 := swS_anti F P (V x) (V z)
  have b3 := swS_anti F P (V y) (V z)
  rcases Int.lt_or_lt_of_ne a1 with c1 | c1 <;> rcases Int.lt_or_lt_of_ne a2 with c2 | c2
  · rcases Int.lt_or_lt_of_ne a3 with c3 | c3
    · obtain ⟨s, h1, h2⟩ := mk y z x hy hz hx (fun e => yz e.symm) xy ty tz tx (by omega) (by omega)
      exact ⟨s, y, z, x, h1, h2, Or.inr (Or.inl ⟨rfl, Or.inr ⟨rfl, rfl⟩⟩)⟩
    · obtain ⟨s, h1, h2⟩ := mk z y x hz hy hx yz xz tz ty tx (by omega) (by omega)
      exact ⟨s, z, y, x, h1, h2, Or.inr (Or.inr ⟨rfl, Or.inr ⟨rfl, rfl⟩⟩)⟩
  · obtain ⟨s, h1, h2⟩ := mk x y z hx hy hz (fun e => xy e.symm) (fun e => xz e.symm) tx ty tz (by omega) (by omega)
    exact ⟨s, x, y, z, h1, h2, Or.inl ⟨rfl, Or.inl ⟨rfl, rfl⟩⟩⟩
  · obtain ⟨s, h1, h2⟩ := mk x z y hx hz hy (fun e => xz e.symm) (fun e => xy e.symm) tx tz ty (by omega) (by omega)
    exact ⟨s, x, z, y, h1, h2, Or.inl ⟨rfl, Or.inr ⟨rfl, rfl⟩⟩⟩
  · rcases Int.lt_or_lt_of_ne a3 with c3 | c3
    · obtain ⟨s, h1, h2⟩ := mk z x y hz hx hy xz yz tz tx ty (by omega) (by omega)
      exact ⟨s, z, x, y, h1, h2, Or.inr (Or.inr ⟨rfl, Or.inl ⟨rfl, rfl⟩⟩)⟩
    · obtain ⟨s, h1, h2⟩ := mk y x z hy hx hz xy (fun e => yz e.symm) ty tx tz (by omega) (by omega)
      exact ⟨s, y, x, z, h1, h2, Or.inr (Or.inl ⟨rfl, Or.inl ⟨rfl, rfl⟩⟩)⟩
/-- the place of a simplex: a side B and an edge E of it, without its first ray -/
def TP (n : Nat) (W : Nat → Nat → Int) (N : Nat) (V : Nat → Nat → Int) (F P : Nat → Int) (s B E : Nat) : Prop := ∃ r a w p q, r < n ∧ nz4 (W r) ∧ (∀ j, B.testBit j = true ↔ j < N ∧ dot4 (W r) (V j) = 0) ∧ fst1 B a ∧ Cl n W N V E ∧ ¬ E.testBit a = true ∧ TS W N V F P s r w p q ∧
  ((w = a ∧ ∀ j, E.testBit j = true ↔ j = p ∨ j = q) ∨ (¬ w = a ∧ ∃ c, ¬ c = w ∧ ¬ c = a ∧ (∀ j, E.testBit j = true ↔ j = w ∨ j = c) ∧ ((p = a ∧ q = c) ∨ (p = c ∧ q = a))))
theorem bit_pair {m k p q : Nat} (hm : ∀ j, m.testBit j = true ↔ j = p ∨ j = q) (hk : ∀ j, k.testBit j = true ↔ j = p ∨ j = q) : m = k :=
  bits_eq (N := max p q + 1) (fun j b => by rcases (hm j).mp b with e | e <;> omega) (fun j b => by rcases (hk j).mp b with e | e <;> omega) (fun j _ => (hm j).trans (hk j).symm)
theorem TP.own {n N al : Nat} {W V : Nat → Nat → Int} (h : CX n W N V) (hm : Rk N V al 4) {F P : Nat → Int} {s B E B' E' : Nat} (t : TP n W N V F P s B E) (t' : TP n W N V F P s B' E') : B = B' ∧ E = E' := by
  obtain ⟨r, a, w, p, q, hr, nr, bB, fa, cE, aE, ts, cs⟩ := t
  obtain ⟨r', a', w', p', q', hr', nr', bB', fa', cE', aE', ts', cs'⟩ := t'
  obtain ⟨e, ⟨A, B0, hA, hB, ep⟩, fy2⟩ := TS.same h hm hr hr' nr nr' ts ts'
  subst e
  have fx : ∀ x : Nat → Int, A * dot4 (W r') x = B0 * dot4 (W r) x := fun x => by
    have e0 := ep 0 (by decide); have e1 := ep 1 (by decide); have e2 := ep 2 (by decide); have e3 := ep 3 (by decide)
    unfold dot4; grind
  have fz : ∀ x : Nat → Int, dot4 (W r) x = 0 ↔ dot4 (W r') x = 0 := fun x => by
    have := fx x
    constructor
    · intro z; rw [z, Int.mul_zero] at this; exact (Int.mul_eq_zero.mp this).resolve_left (by omega)
    · intro z; rw [z, Int.mul_zero] at this; exact (Int.mul_eq_zero.mp this.symm).resolve_left (by omega)
  have eB : B = B' := bits_eq (N := N) (fun j b => ((bB j).mp b).1) (fun j b => ((bB' j).mp b).1) (fun j hj => by rw [bB j, bB' j, fz])
  refine ⟨eB, ?_⟩
  subst eB
  have ea := fa.uniq fa'
  subst ea
  obtain ⟨hp, hq, hw, w2, tw, tp, tq, x1, x2, -⟩ := ts
  obtain ⟨hp', hq', -, -, tw', tp', tq', x1', x2', -⟩ := ts'
  obtain ⟨ha, ta⟩ := (bB a).mp fa.1
  obtain ⟨pw, qw, pq, np, ny⟩ := h.swy_np hp hq hw x1 x2
  obtain ⟨pw', qw', pq', np', ny'⟩ := h.swy_np hp' hq' hw x1' x2'
  have rowE : ∀ E, Cl n W N V E → ¬ E.testBit a = true → ∃ g, g < n ∧ TM W N V E g ∧ 0 < dot4 (W g) (V a) := fun E cE aE => Classical.byContradiction (fun z => aE (cE a ha (fun k hk tk => by
    have := (h.2.2.1 a ha).1 k hk
    exact Classical.byContradiction (fun y => z ⟨k, hk, tk, by omega⟩))))
  obtain ⟨g, hg, tg, ga⟩ := rowE E cE aE
  obtain ⟨g', hg', tg', ga'⟩ := rowE E' cE' aE'
  rcases cs with ⟨wa, bE⟩ | ⟨wa, c, cw, ca, bE, pqc⟩ <;> rcases cs' with ⟨wa', bE'⟩ | ⟨wa', c', cw', ca', bE', pqc'⟩
  · -- the first ray is in the middle
    have D := h.side_ne hp hq hw x1 x2 nr tw tp tq
    have sw := swy_w F P (V w)
    have sy := swy_s F P (V w) (V p) (V q)
    have sy' := swy_s F P (V w) (V p') (V q')
    have fy : dot4 (W r) (swy F P (V w) (V p) (V q)) = 0 := by rw [swy_dot, tp, tq]; simp
    have sp : ∀ x : Nat → Int, dot4 (swv F P (V w)) x = 0 → dot4 (W r) x = 0 → Sp 2 (two (crs (swv F P (V w)) (swy F P (V w) (V p) (V q)) (W r)) (crs (swv F P (V w)) (V w) (W r))) x := fun x y1 y2 => ⟨dot4 (crs (swv F P (V w)) (V w) (swy F P (V w) (V p) (V q))) (W r), fun i => if i = 0 then dot4 (V w) x else -(dot4 (swy F P (V w) (V p) (V q)) x), by rw [dot4_comm]; exact D, fun i hi => by
      rw [dual _ _ _ _ x i hi, y1, y2, isum_2]
      show _ = dot4 (V w) x * crs (swv F P (V w)) (swy F P (V w) (V p) (V q)) (W r) i + -(dot4 (swy F P (V w) (V p) (V q)) x) * crs (swv F P (V w)) (V w) (W r) i
      grind⟩
    have I2 := Ind.two np ny
    have S2 := exch I2 (fun i hi => by
      rcases (show i = 0 ∨ i = 1 by omega) with rfl | rfl
      · exact sp _ sw tw
      · exact sp _ sy fy) (sp _ sy' fy2)
    have hpos : ∃ (m c0 c1 : Int), 0 < m ∧ ∀ i, i < 4 → m * swy F P (V w) (V p') (V q') i = c0 * V w i + c1 * swy F P (V w) (V p) (V q) i := by
      obtain ⟨m, c, hm0, e⟩ := S2
      have e : ∀ i, i < 4 → m * swy F P (V w) (V p') (V q') i = c 0 * V w i + c 1 * swy F P (V w) (V p) (V q) i := fun i hi => by have := e i hi; rw [isum_2] at this; exact this
      rcases Int.lt_or_lt_of_ne hm0 with z | z
      · exact ⟨-m, -c 0, -c 1, by omega, fun i hi => by have := e i hi; rw [Int.neg_mul, Int.neg_mul, Int.neg_mul]; omega⟩
      · exact ⟨m, c 0, c 1, z, e⟩
    obtain ⟨m, c0, c1, hm0, ey⟩ := hpos
    have dl : ∀ l, m * dot4 l (swy F P (V w) (V p') (V q')) = c0 * dot4 l (V w) + c1 * dot4 l (swy F P (V w) (V p) (V q)) := fun l => by
      rw [dot4_smul (l := l) (y := fun i => c0 * V w i + c1 * swy F P (V w) (V p) (V q) i) ey]
      exact dot4_2 (fun i _ => rfl)
    have yn : ∀ k, k < n → 0 ≤ dot4 (W k) (swy F P (V w) (V p) (V q)) := fun k hk => by
      rw [swy_dot]
      have a1 := Int.mul_nonneg (Int.le_of_lt x2) ((h.2.2.1 p hp).1 k hk)
      have a2 := Int.mul_nonneg (show 0 ≤ -(swS F P (V p) (V w)) by omega) ((h.2.2.1 q hq).1 k hk)
      omega
    have yn' : ∀ k, k < n → 0 ≤ dot4 (W k) (swy F P (V w) (V p') (V q')) := fun k hk => by
      rw [swy_dot]
      have a1 := Int.mul_nonneg (Int.le_of_lt x2') ((h.2.2.1 p' hp').1 k hk)
      have a2 := Int.mul_nonneg (show 0 ≤ -(swS F P (V p') (V w)) by omega) ((h.2.2.1 q' hq').1 k hk)
      omega
    rcases Int.lt_or_le 0 c1 with hc1 | hc1
    · -- c0 = 0
      have g0 := dl (W g)
      have g1 := dl (W g')
      have gz : dot4 (W g) (swy F P (V w) (V p) (V q)) = 0 := by rw [swy_dot, tg p hp ((bE p).mpr (Or.inl rfl)), tg q hq ((bE q).mpr (Or.inr rfl))]; simp
      have gz' : dot4 (W g') (swy F P (V w) (V p') (V q')) = 0 := by rw [swy_dot, tg' p' hp' ((bE' p').mpr (Or.inl rfl)), tg' q' hq' ((bE' q').mpr (Or.inr rfl))]; simp
      rw [gz, Int.mul_zero, Int.add_zero, wa] at g0
      rw [gz', Int.mul_zero, wa] at g1
      have k0 := Int.mul_nonneg (Int.le_of_lt hm0) (yn' g hg)
      have k1 := Int.mul_nonneg (Int.le_of_lt hc1) (yn g' hg')
      rw [wa] at k0 k1
      have c0z : c0 = 0 := by
        rcases Int.lt_trichotomy c0 0 with z | z | z
        · have := Int.mul_pos (show 0 < -c0 by omega) ga
          rw [Int.neg_mul] at this; omega
        · exact z
        · have := Int.mul_pos z ga'
          omega
      have sub : ∀ j, j = p ∨ j = q → E'.testBit j = true := fun j hj => by
        have hjN : j < N := by rcases hj with e | e <;> rw [e]; exact hp; exact hq
        refine cE' j hjN (fun k hk tk => ?_)
        have z := dl (W k)
        rw [swy_dot, tk p' hp' ((bE' p').mpr (Or.inl rfl)), tk q' hq' ((bE' q').mpr (Or.inr rfl)), c0z] at z
        have z2 : c1 * dot4 (W k) (swy F P (V w) (V p) (V q)) = 0 := by
          have : m * (swS F P (V q') (V w) * 0 + -(swS F P (V p') (V w)) * 0) = 0 := by simp
          omega
        have z3 := (Int.mul_eq_zero.mp z2).resolve_left (by omega)
        rw [swy_dot] at z3
        have a1 := Int.mul_nonneg (Int.le_of_lt x2) ((h.2.2.1 p hp).1 k hk)
        have a2 := Int.mul_nonneg (show 0 ≤ -(swS F P (V p) (V w)) by omega) ((h.2.2.1 q hq).1 k hk)
        rcases hj with e | e
        · rw [e]; exact (Int.mul_eq_zero.mp (show swS F P (V q) (V w) * dot4 (W k) (V p) = 0 by omega)).resolve_left (by omega)
        · rw [e]; exact (Int.mul_eq_zero.mp (show -(swS F P (V p) (V w)) * dot4 (W k) (V q) = 0 by omega)).resolve_left (by omega)
      have s1 := (bE' p).mp (sub p (Or.inl rfl))
      have s2 := (bE' q).mp (sub q (Or.inr rfl))
      refine bit_pair (p := p) (q := q) bE (fun j => (bE' j).trans ?_)
      constructor
      · intro z; rcases z with z | z <;> rcases s1 with s1 | s1 <;> rcases s2 with s2 | s2 <;> omega
      · intro z; rcases z with z | z <;> rcases s1 with s1 | s1 <;> rcases s2 with s2 | s2 <;> omega
    · exfalso
      refine h.nosum (j := w) (k := p') (D := c0) (p := m * swS F P (V q') (V w)) (y := fun i => (m * -(swS F P (V p') (V w))) * V q' i + (-c1) * swy F P (V w) (V p) (V q) i) hw hp' (fun z => pw' z.symm) (fun k hk => ?_) (Int.mul_pos hm0 x2') (fun i hi => ?_)
      · rw [dot4_2 (a := m * -(swS F P (V p') (V w))) (b := -c1) (x := V q') (y := swy F P (V w) (V p) (V q)) (fun i _ => rfl)]
        have a1 := Int.mul_nonneg (Int.mul_nonneg (Int.le_of_lt hm0) (show 0 ≤ -(swS F P (V p') (V w)) by omega)) ((h.2.2.1 q' hq').1 k hk)
        have a2 := Int.mul_nonneg (show 0 ≤ -c1 by omega) (yn k hk)
        omega
      · have := ey i hi
        have e1 : swy F P (V w) (V p') (V q') i = swS F P (V q') (V w) * V p' i + -(swS F P (V p') (V w)) * V q' i := rfl
        rw [e1] at this
        grind
  · exact absurd wa wa'
  · exact absurd wa' wa
  · by_cases cc : c = c'
    · subst cc; exact bit_pair (p := w) (q := c) bE bE'
    · exfalso
      have hcN : c < N := by rcases pqc with z | z <;> omega
      have hcN' : c' < N := by rcases pqc' with z | z <;> omega
      have tc : dot4 (W r) (V c) = 0 := by rcases pqc with z | z; rw [← z.2]; exact tq; rw [← z.1]; exact tp
      have tc' : dot4 (W r) (V c') = 0 := (fz _).mpr (by rcases pqc' with z | z; rw [← z.2]; exact tq'; rw [← z.1]; exact tp')
      have I3 := (h.ind2 hcN hcN' cc).ext (h.nosp hcN hw hcN' cw (fun z => cw' z.symm) cc)
      have S3 : Sp 3 (fun i => if i < 2 then two (V c) (V c') i else V w) (V a) := Classical.byContradiction (fun z => by
        have I4 := I3.ext z
        have := dot_self ((I4.span (W r)).perp (l := W r) (fun i hi => by
          rcases (show i = 0 ∨ i = 1 ∨ i = 2 ∨ i = 3 by omega) with rfl | rfl | rfl | rfl
          · exact tc
          · exact tc'
          · exact tw
          · exact ta))
        obtain ⟨i, hi, hne⟩ := nr
        exact hne (this i hi))
      have hpos : ∃ (m x y z : Int), 0 < m ∧ ∀ i, i < 4 → m * V a i = x * V c i + y * V c' i + z * V w i := by
        obtain ⟨m, cf, hm0, e⟩ := S3
        have e : ∀ i, i < 4 → m * V a i = cf 0 * V c i + cf 1 * V c' i + cf 2 * V w i := fun i hi => by
          have := e i hi
          have e3 : isum (fun j => cf j * (if j < 2 then two (V c) (V c') j else V w) i) 3 = 0 + cf 0 * V c i + cf 1 * V c' i + cf 2 * V w i := rfl
          rw [e3] at this; omega
        rcases Int.lt_or_lt_of_ne hm0 with z | z
        · exact ⟨-m, -cf 0, -cf 1, -cf 2, by omega, fun i hi => by have := e i hi; rw [Int.neg_mul, Int.neg_mul, Int.neg_mul, Int.neg_mul]; omega⟩
        · exact ⟨m, cf 0, cf 1, cf 2, z, e⟩
      obtain ⟨m, x, y, z, hm0, ea⟩ := hpos
      have dl : ∀ l, m * dot4 l (V a) = x * dot4 l (V c) + y * dot4 l (V c') + z * dot4 l (V w) := fun l => by
        have e0 := ea 0 (by decide); have e1 := ea 1 (by decide); have e2 := ea 2 (by decide); have e3 := ea 3 (by decide)
        unfold dot4; grind
      have g0 := dl (W g)
      rw [tg c hcN ((bE c).mpr (Or.inr rfl)), tg w hw ((bE w).mpr (Or.inl rfl)), Int.mul_zero, Int.mul_zero] at g0
      have g1 := dl (W g')
      rw [tg' c' hcN' ((bE' c').mpr (Or.inr rfl)), tg' w hw ((bE' w).mpr (Or.inl rfl)), Int.mul_zero, Int.mul_zero] at g1
      have q0 := Int.mul_pos hm0 ga
      have q1 := Int.mul_pos hm0 ga'
      have pos : ∀ u v : Int, 0 ≤ v → 0 < u * v → 0 < u := fun u v hv huv => by
        rcases Int.lt_or_le 0 u with z | z
        · exact z
        · have := Int.mul_nonneg (show 0 ≤ -u by omega) hv
          rw [Int.neg_mul] at this; omega
      have hy := pos y _ ((h.2.2.1 c' hcN').1 g hg) (by omega)
      have hx := pos x _ ((h.2.2.1 c hcN).1 g' hg') (by omega)
      have sS := dl (swv F P (V w))
      rw [swv_dot, swv_dot, swv_dot, swv_dot, swS_self, Int.mul_zero, Int.add_zero] at sS
      rcases pqc with ⟨z1, z2⟩ | ⟨z1, z2⟩ <;> rcases pqc' with ⟨z3, z4⟩ | ⟨z3, z4⟩
      · rw [z1] at x1; rw [z2] at x2; rw [z4] at x2'
        have k1 := Int.mul_pos hm0 (show 0 < -(swS F P (V a) (V w)) by omega)
        have k2 := Int.mul_pos hx x2
        have k3 := Int.mul_pos hy x2'
        rw [Int.mul_neg] at k1; omega
      · rw [z1] at x1; rw [z4] at x2'; omega
      · rw [z2] at x2; rw [z3] at x1'; omega
      · rw [z1] at x1; rw [z2] at x2; rw [z3] at x1'
        have k1 := Int.mul_pos hm0 x2
        have k2 := Int.mul_pos hx (show 0 < -(swS F P (V c) (V w)) by omega)
        have k3 := Int.mul_pos hy (show 0 < -(swS F P (V c') (V w)) by omega)
        rw [Int.mul_neg] at k2 k3; omega
