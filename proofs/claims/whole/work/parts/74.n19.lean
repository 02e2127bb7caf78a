/-! ===== own rows: class and reference, 19 ===== -/
-- at most forty faces: where an edge is counted
theorem Sp.perp {n : Nat} {t : Nat → Nat → Int} {z l : Nat → Int} (hz : Sp n t z) (h : ∀ i, i < n → dot4 l (t i) = 0) : dot4 l z = 0 := by
  obtain ⟨D, c, hD, e⟩ := hz
  have h1 := dot4_smul (l := l) e
  rw [isum_dot, isum_zero n (fun j hj => by rw [h j hj, Int.mul_zero])] at h1
  exact (Int.mul_eq_zero.mp h1).resolve_left hD
theorem Sp.units (v : Nat → Int) : Sp 4 un v := ⟨1, v, by decide, fun q hq => by
  rw [Int.one_mul]
  show v q = 0 + v 0 * un 0 q + v 1 * un 1 q + v 2 * un 2 q + v 3 * un 3 q
  rcases (show q = 0 ∨ q = 1 ∨ q = 2 ∨ q = 3 by omega) with rfl | rfl | rfl | rfl <;> simp [un]⟩
theorem Ind.span {t : Nat → Nat → Int} (h : Ind 4 t) (z : Nat → Int) : Sp 4 t z := Classical.byContradiction (fun n => by
  have := (h.ext n).le (fun i _ => Sp.units _)
  omega)
/-- two that turn the same way are in one line -/
theorem orl {h w u1 u2 g1 g2 : Nat → Int} (hw : dot4 h w = 0) (h1 : dot4 h u1 = 0) (h2 : dot4 h u2 = 0) (a1 : dot4 g1 w = 0) (b1 : dot4 g1 u1 = 0) (a2 : dot4 g2 w = 0) (b2 : dot4 g2 u2 = 0) (p1 : 0 ≤ dot4 g1 u2) (p2 : 0 ≤ dot4 g2 u1) (D : 0 < dot4 g1 (crs h w u1) * dot4 g2 (crs h w u2)) : dot4 g1 u2 = 0 ∧ dot4 g2 u1 = 0 := by
  have key : ∀ g u x : Nat → Int, dot4 h u = 0 → dot4 g w = 0 → dot4 g u = 0 → dot4 h x = 0 → ¬ dot4 g (crs h w u) = 0 → dot4 (crs h w u) (crs h w u) * dot4 g x = dot4 g (crs h w u) * dot4 (crs h w u) x := by
    intro g u x hu gw gu hx hg
    have nz : nz4 (crs h w u) := nz4_dot hg
    have A : AX h w u (crs h w u) := ⟨⟨1, by decide, fun i _ => Int.one_mul _⟩, nz⟩
    have hh : 0 < dot4 h h := dot4_pos (Classical.byContradiction (fun z => hg (by
      have z := nz4_not z
      refine dot4_z (fun i hi => ?_)
      have z0 := z 0 (by decide); have z1 := z 1 (by decide); have z2 := z 2 (by decide); have z3 := z 3 (by decide)
      rcases (show i = 0 ∨ i = 1 ∨ i = 2 ∨ i = 3 by omega) with rfl | rfl | rfl | rfl <;> simp only [crs, z0, z1, z2, z3] <;> simp)))
    have dz : ∀ l, dot4 l (fun i => dot4 h h * g i + -(dot4 h g) * h i) = dot4 h h * dot4 l g + -(dot4 h g) * dot4 l h := fun l => dot4_2 (fun i hi => rfl)
    have k := A.ker (z := fun i => dot4 h h * g i + -(dot4 h g) * h i) (by rw [dz]; grind) (by rw [dz, dot4_comm w g, gw, dot4_comm w h, hw]; simp) (by rw [dz, dot4_comm u g, gu, dot4_comm u h, hu]; simp)
    have k2 := dot4_smul (l := x) k
    rw [dz] at k2
    have e1 : dot4 x (fun i => dot4 (crs h w u) (fun i => dot4 h h * g i + -(dot4 h g) * h i) * crs h w u i) = dot4 (crs h w u) (fun i => dot4 h h * g i + -(dot4 h g) * h i) * dot4 x (crs h w u) := (dot4_smul (l := x) (x := crs h w u) (g := dot4 (crs h w u) (fun i => dot4 h h * g i + -(dot4 h g) * h i)) (fun i hi => rfl)).symm
    rw [e1, dz, dot4_comm (crs h w u) h, crs_a, dot4_comm x h, hx, dot4_comm x g, dot4_comm (crs h w u) g, dot4_comm x] at k2
    have k3 : dot4 h h * (dot4 (crs h w u) (crs h w u) * dot4 g x) = dot4 h h * (dot4 g (crs h w u) * dot4 (crs h w u) x) := by grind
    exact Int.eq_of_mul_eq_mul_left (by omega) k3
  have d1 : ¬ dot4 g1 (crs h w u1) = 0 := fun z => by rw [z] at D; omega
  have d2 : ¬ dot4 g2 (crs h w u2) = 0 := fun z => by rw [z] at D; omega
  have k1 := key g1 u1 u2 h1 a1 b1 h2 d1
  have k2 := key g2 u2 u1 h2 a2 b2 h1 d2
  have c1 := dot4_pos (nz4_dot d1)
  have c2 := dot4_pos (nz4_dot d2)
  have an : dot4 (crs h w u2) u1 = -dot4 (crs h w u1) u2 := by unfold dot4; simp only [crs]; grind
  rw [an] at k2
  have n1 := Int.mul_nonneg (Int.le_of_lt c1) p1
  have n2 := Int.mul_nonneg (Int.le_of_lt c2) p2
  rw [k1] at n1
  rw [k2] at n2
  generalize dot4 g1 (crs h w u1) = X at *
  generalize dot4 g2 (crs h w u2) = Y at *
  generalize dot4 (crs h w u1) u2 = t at *
  have t0 : t = 0 := by
    refine Classical.byContradiction (fun z => ?_)
    have tt : 0 < t * t := by have := sq_nn t; have : ¬ t * t = 0 := fun q => by rcases Int.mul_eq_zero.mp q with q | q <;> exact z q
                              omega
    have m1 := Int.mul_nonneg n1 n2
    have m2 := Int.mul_pos D tt
    have e : X * t * (Y * -t) = -(X * Y * (t * t)) := by grind
    omega
  rw [t0] at k1 k2
  refine ⟨?_, ?_⟩
  · have : dot4 (crs h w u1) (crs h w u1) * dot4 g1 u2 = 0 := by rw [k1, Int.mul_zero]
    exact (Int.mul_eq_zero.mp this).resolve_left (by omega)
  · have : dot4 (crs h w u2) (crs h w u2) * dot4 g2 u1 = 0 := by rw [k2]; simp
    exact (Int.mul_eq_zero.mp this).resolve_left (by omega)
theorem crs_nz {s w y : Nat → Int} (hs : nz4 s) (h1 : dot4 w s = 0) (h2 : dot4 y s = 0) (hy : nz4 y) (np : NP w y) : nz4 (crs s w y) := Classical.byContradiction (fun hz => by
  have hz := nz4_not hz
  have ss := dot4_pos hs
  refine par_of hy (crs_un (fun k hk q => ?_)) np
  obtain ⟨i, hi, hne⟩ := q
  have d := dual w y (un k) s s i hi
  have e1 : dot4 (crs w y (un k)) s = -dot4 (un k) (crs s w y) := by unfold dot4; simp only [crs]; grind
  have e2 : crs w y s i = crs s w y i := by
    rcases (show i = 0 ∨ i = 1 ∨ i = 2 ∨ i = 3 by omega) with rfl | rfl | rfl | rfl <;> simp only [crs] <;> grind
  rw [e1, dot4_z hz, h1, h2, e2, hz i hi] at d
  have : dot4 s s * crs w y (un k) i = 0 := by grind
  rcases Int.mul_eq_zero.mp this with q | q
  · omega
  · exact hne q)
/-- the sweep -/
theorem sweep {n N : Nat} {W V : Nat → Nat → Int} (h : CX n W N V) (hN : 2 ≤ N) (hW : ∀ k, k < n → ∀ i, i < 4 → (W k i).natAbs ≤ 5) (hV : ∀ j, j < N → ∀ i, i < 4 → (V j i).natAbs ≤ 750) : ∃ F P : Nat → Int, (∀ j k, j < N → k < N → ¬ j = k → ¬ swS F P (V j) (V k) = 0) ∧ (∀ j, j < N → ¬ j = 0 → 0 < swS F P (V j) (V 0)) ∧ ∀ j, j < N → ¬ j = 1 → swS F P (V j) (V 1) < 0 := by
  obtain ⟨-, -, hc, hp, hr⟩ := h
  obtain ⟨a, b, c, ha, hb, hcn, A0⟩ := hr 0 (by omega)
  obtain ⟨d, e, f, hd, he, hfn, A1⟩ := hr 1 (by omega)
  have hM : (1 : Int) ≤ 100000000000 := by decide
  have hM3 : (1 : Int) ≤ 100000000000 * 100000000000 * 100000000000 := by decide
  have F0 : dot4 (swp3 100000000000 (W a) (W b) (W c)) (V 0) = 0 := by
    obtain ⟨z1, z2, z3⟩ := A0.dots
    rw [swp3_dot, z1, z2, z3]; rfl
  have P1 : dot4 (swp3 (100000000000 * 100000000000 * 100000000000) (W d) (W e) (W f)) (V 1) = 0 := by
    obtain ⟨z1, z2, z3⟩ := A1.dots
    rw [swp3_dot, z1, z2, z3]; rfl
  have Fp : ∀ j, j < N → ¬ j = 0 → 0 < dot4 (swp3 100000000000 (W a) (W b) (W c)) (V j) := fun j hj h0 => by
    rw [swp3_dot]
    exact pos3 hM ((hc j hj).1 a ha) ((hc j hj).1 b hb) ((hc j hj).1 c hcn) (A0.some (hp j 0 hj (by omega) h0))
  have Pp : ∀ j, j < N → ¬ j = 1 → 0 < dot4 (swp3 (100000000000 * 100000000000 * 100000000000) (W d) (W e) (W f)) (V j) := fun j hj h0 => by
    rw [swp3_dot]
    exact pos3 hM3 ((hc j hj).1 d hd) ((hc j hj).1 e he) ((hc j hj).1 f hfn) (A1.some (hp j 1 hj (by omega) h0))
  have o0 : ∀ j, j < N → ¬ j = 0 → 0 < swS (swp3 100000000000 (W a) (W b) (W c)) (swp3 (100000000000 * 100000000000 * 100000000000) (W d) (W e) (W f)) (V j) (V 0) := fun j hj h0 => by
    unfold swS
    rw [F0, Int.zero_mul, Int.sub_zero]
    exact Int.mul_pos (Fp j hj h0) (Pp 0 (by omega) (by omega))
  have o1 : ∀ j, j < N → ¬ j = 1 → swS (swp3 100000000000 (W a) (W b) (W c)) (swp3 (100000000000 * 100000000000 * 100000000000) (W d) (W e) (W f)) (V j) (V 1) < 0 := fun j hj h0 => by
    unfold swS
    rw [P1, Int.mul_zero]
    have := Int.mul_pos (Fp 1 (by omega) (by omega)) (Pp j hj h0)
    omega
  refine ⟨_, _, fun j k hj hk ne => ?_, o0, o1⟩
  by_cases k0 : k = 0
  · subst k0; have := o0 j hj ne; omega
  · by_cases k1 : k = 1
    · subst k1; have := o1 j hj ne; omega
    · obtain ⟨x, y, z, hx, hy, hz, A⟩ := hr k hk
      obtain ⟨zx, zy, zz⟩ := A.dots
      have ex : ∃ t, t < n ∧ dot4 (W t) (V k) = 0 ∧ ¬ dot4 (W t) (V j) = 0 := Classical.byContradiction (fun q => A.some (hp j k hj hk ne) ⟨Classical.byContradiction (fun w => q ⟨x, hx, zx, w⟩), Classical.byContradiction (fun w => q ⟨y, hy, zy, w⟩), Classical.byContradiction (fun w => q ⟨z, hz, zz, w⟩)⟩)
      obtain ⟨t, ht, t1, t2⟩ := ex
      refine swS_ne (t := W t) A0 A1 (hp 0 1 (by omega) (by omega) (by omega)) (hp k 0 hk (by omega) k0) (hp k 1 hk (by omega) k1) t1 t2 (fun l hl m hm => ?_)
      have hl5 : ∀ i, i < 4 → (l i).natAbs ≤ 5 := by
        simp only [List.mem_cons, List.not_mem_nil, or_false] at hl
        rcases hl with rfl | rfl | rfl
        · exact hW a ha
        · exact hW b hb
        · exact hW c hcn
      have hm5 : ∀ i, i < 4 → (m i).natAbs ≤ 5 := by
        simp only [List.mem_cons, List.not_mem_nil, or_false] at hm
        rcases hm with rfl | rfl | rfl
        · exact hW d hd
        · exact hW e he
        · exact hW f hfn
      exact dig_le hl5 hm5 (fun i hi => Nat.le_trans (hV j hj i hi) (by decide)) (hV k hk)
/-- the sweep, seen from w, as a row -/
def swv (F P w : Nat → Int) : Nat → Int := fun i => dot4 P w * F i + -(dot4 F w) * P i
theorem swv_dot (F P w x : Nat → Int) : dot4 (swv F P w) x = swS F P x w := by
  unfold swS swv dot4; grind
def swy (F P w p q : Nat → Int) : Nat → Int := fun i => swS F P q w * p i + -(swS F P p w) * q i
theorem swy_dot (F P w p q l : Nat → Int) : dot4 l (swy F P w p q) = swS F P q w * dot4 l p + -(swS F P p w) * dot4 l q := dot4_2 (fun i hi => rfl)
theorem swy_s (F P w p q : Nat → Int) : dot4 (swv F P w) (swy F P w p q) = 0 := by rw [swy_dot, swv_dot, swv_dot]; grind
theorem swy_w (F P w : Nat → Int) : dot4 (swv F P w) w = 0 := by rw [swv_dot]; exact swS_self F P w
theorem CX.swy_np {n N : Nat} {W V : Nat → Nat → Int} (h : CX n W N V) {F P : Nat → Int} {p q w : Nat} (hp : p < N) (hq : q < N) (hw : w < N) (h1 : swS F P (V p) (V w) < 0) (h2 : 0 < swS F P (V q) (V w)) : ¬ p = w ∧ ¬ q = w ∧ ¬ p = q ∧ NP (V w) (swy F P (V w) (V p) (V q)) ∧ nz4 (swy F P (V w) (V p) (V q)) := by
  have pw : ¬ p = w := fun z => by rw [z, swS_self] at h1; omega
  have qw : ¬ q = w := fun z => by rw [z, swS_self] at h2; omega
  have pq : ¬ p = q := fun z => by rw [z] at h1; omega
  refine ⟨pw, qw, pq, fun A B hA e => h.no3 (u := p) (v := w) (w := q) hp hw hq pw (fun z => qw z.symm) pq (D := A) (p := B * swS F P (V q) (V w)) (q := B * -(swS F P (V p) (V w))) hA (fun i hi => ?_), Classical.byContradiction (fun z => ?_)⟩
  · rw [e i hi]; unfold swy; grind
  · refine h.2.2.2.1 p q hp hq pq (swS F P (V q) (V w)) (swS F P (V p) (V w)) (by omega) (fun i hi => ?_)
    have := nz4_not z i hi
    unfold swy at this
    rw [Int.neg_mul] at this
    omega
/-- the side on which a row lies of w -/
theorem CX.side_ne {n N : Nat} {W V : Nat → Nat → Int} (h : CX n W N V) {F P f : Nat → Int} {p q w : Nat} (hp : p < N) (hq : q < N) (hw : w < N) (h1 : swS F P (V p) (V w) < 0) (h2 : 0 < swS F P (V q) (V w)) (hf : nz4 f) (fw : dot4 f (V w) = 0) (fp : dot4 f (V p) = 0) (fq : dot4 f (V q) = 0) : ¬ dot4 f (crs (swv F P (V w)) (V w) (swy F P (V w) (V p) (V q))) = 0 := by
  obtain ⟨pw, qw, pq, np, ny⟩ := h.swy_np hp hq hw h1 h2
  have fy : dot4 f (swy F P (V w) (V p) (V q)) = 0 := by rw [swy_dot, fp, fq]; simp
  have sw := swy_w F P (V w)
  have sy := swy_s F P (V w) (V p) (V q)
  have sp : dot4 (swv F P (V w)) (V p) < 0 := by rw [swv_dot]; exact h1
  generalize swv F P (V w) = s at sw sy sp
  generalize swy F P (V w) (V p) (V q) = y at np ny fy sy
  intro z
  have hs : nz4 s := Classical.byContradiction (fun q => by rw [dot4_zl (nz4_not q)] at sp; omega)
  have hc := crs_nz hs (by rw [dot4_comm]; exact sw) (by rw [dot4_comm]; exact sy) ny np
  have cs : dot4 (crs s (V w) y) s = 0 := by rw [dot4_comm]; exact crs_a _ _ _
  have e1 : dot4 s (crs (V w) y (crs s (V w) y)) = -dot4 (crs s (V w) y) (crs s (V w) y) := by
    rw [crs_1]
  have nn : nz4 (crs (V w) y (crs s (V w) y)) := nz4_dot (x := s) (by have := dot4_pos hc; omega)
  have A : AX (V w) y (crs s (V w) y) (crs (V w) y (crs s (V w) y)) := ⟨⟨1, by decide, fun i _ => Int.one_mul _⟩, nn⟩
  have pn := dot4_pos nn
  generalize crs (V w) y (crs s (V w) y) = nv at A pn nn
  have kf := A.ker (z := f) (by rw [dot4_comm]; exact fw) (by rw [dot4_comm]; exact fy) (by rw [dot4_comm]; exact z)
  have ks := A.ker (z := s) (by rw [dot4_comm]; exact sw) (by rw [dot4_comm]; exact sy) cs
  have lf := dot4_smul (l := V p) kf
  have ls := dot4_smul (l := V p) ks
  rw [← dot4_smul (l := V p) (x := nv) (g := dot4 nv f) (fun i hi => rfl), dot4_comm (V p) f, fp] at lf
  rw [← dot4_smul (l := V p) (x := nv) (g := dot4 nv s) (fun i hi => rfl), dot4_comm (V p) s] at ls
  have np0 : ¬ dot4 (V p) nv = 0 := fun q => by
    rw [q, Int.mul_zero] at ls
    rcases Int.mul_eq_zero.mp ls with e | e <;> omega
  have nf0 : dot4 nv f = 0 := by
    rw [Int.mul_zero] at lf
    exact (Int.mul_eq_zero.mp lf.symm).resolve_right np0
  obtain ⟨i, hi, hne⟩ := hf
  have := kf i hi
  rw [nf0, Int.zero_mul] at this
  rcases Int.mul_eq_zero.mp this with e | e
  · omega
  · exact hne e
/-- rows that are tight at three rays and not at a fourth are in one line -/
theorem CX.par {n N : Nat} {W V : Nat → Nat → Int} (h : CX n W N V) {f f' : Nat → Int} {w p q x : Nat} (hw : w < N) (hp : p < N) (hq : q < N) (pw : ¬ p = w) (qw : ¬ q = w) (pq : ¬ p = q) (fx : ¬ dot4 f (V x) = 0) (fw : dot4 f (V w) = 0) (fp : dot4 f (V p) = 0) (fq : dot4 f (V q) = 0) (gw : dot4 f' (V w) = 0) (gp : dot4 f' (V p) = 0) (gq : dot4 f' (V q) = 0) : ∀ i, i < 4 → dot4 f' (V x) * f i = dot4 f (V x) * f' i := by
  have I3 := (h.ind2 hw hp (fun z => pw z.symm)).ext (h.nosp hw hq hp (fun z => qw z.symm) (fun z => pq z.symm) (fun z => pw z.symm))
  have I4 := I3.ext (x := V x) (fun s => fx (s.perp (l := f) (fun i hi => by
    rcases (show i = 0 ∨ i = 1 ∨ i = 2 by omega) with rfl | rfl | rfl
    · exact fw
    · exact fp
    · exact fq)))
  have dz : ∀ l, dot4 l (fun i => dot4 f' (V x) * f i + -(dot4 f (V x)) * f' i) = dot4 f' (V x) * dot4 l f + -(dot4 f (V x)) * dot4 l f' := fun l => dot4_2 (fun i hi => rfl)
  have cm : ∀ v, dot4 (fun i => dot4 f' (V x) * f i + -(dot4 f (V x)) * f' i) v = dot4 f' (V x) * dot4 f v + -(dot4 f (V x)) * dot4 f' v := fun v => by rw [dot4_comm, dz, dot4_comm v f, dot4_comm v f']
  have z := dot_self ((I4.span (fun i => dot4 f' (V x) * f i + -(dot4 f (V x)) * f' i)).perp (l := fun i => dot4 f' (V x) * f i + -(dot4 f (V x)) * f' i) (fun i hi => by
    rcases (show i = 0 ∨ i = 1 ∨ i = 2 ∨ i = 3 by omega) with rfl | rfl | rfl | rfl
    · show dot4 _ (V w) = 0; rw [cm, fw, gw]; simp
    · show dot4 _ (V p) = 0; rw [cm, fp, gp]; simp
    · show dot4 _ (V q) = 0; rw [cm, fq, gq]; simp
    · show dot4 _ (V x) = 0; rw [cm]; grind))
  intro i hi
  have := z i hi
  have this : dot4 f' (V x) * f i + -(dot4 f (V x)) * f' i = 0 := this
  rw [Int.neg_mul] at this
  omega
/-- a row that is tight everywhere is no row, in full rank -/
theorem full_row {N m : Nat} {V : Nat → Nat → Int} {f : Nat → Int} (hm : Rk N V m 4) (hf : nz4 f) : ∃ x, x < N ∧ ¬ dot4 f (V x) = 0 := Classical.byContradiction (fun z => by
  obtain ⟨t, a1, a2, -⟩ := hm
  have := dot_self ((a1.span f).perp (l := f) (fun i hi => (a2 i hi).row (fun j hj _ => Classical.byContradiction (fun q => z ⟨j, hj, q⟩))))
  obtain ⟨i, hi, hne⟩ := hf
  exact hne (this i hi))
