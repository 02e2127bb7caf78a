/-! ===== own rows: class and reference, 33 ===== -/
-- lists in order: what is put in, and when two are the same
theorem ins_sm {mo n : Nat} {f f' g g' : Nat → Int32} (h : SL n f) (hf : ∀ i, i < 4 * n → f' i = f i) (hg : ∀ i, i < 4 → g' i = g i) (hn : kyN n f g ≤ mo) : insN mo n f' g' = kyN n f g ∧ ∀ i, i < 4 * kyN n f g → insF mo n f' g' i = kyF n f g i := by
  have ho : ∀ j, j < n → ord4 f' j g' = cmp4 f (4 * j) g := fun j hj => ord_cmp (fun i hi => hf _ (by omega)) hg
  obtain ⟨a, b, c, d⟩ := kpl_spec (f := f) (g := g) n 0
  obtain ⟨p1, p2⟩ := ipl_spec (f := f') (g := g') n
  have p0 := ipl_le f' g' n
  by_cases e : kyP n f g
  · obtain ⟨e1, e2⟩ := e
    have e : kyP n f g := ⟨e1, e2⟩
    have hno : ¬ insC mo n f' g' := by
      rintro ⟨i1, -⟩
      have q1 : kpl f g n 0 < ipl f' g' n := Nat.lt_of_not_le (fun z => by
        have := p1 _ z e1
        rw [ho _ e1, e2] at this
        exact absurd this (by decide))
      rcases i1 with z | z
      · omega
      · rw [ho _ (by omega)] at z
        have z1 := cmp4_spec.1.mp z
        by_cases y : ipl f' g' n - 1 = kpl f g n 0
        · rw [y, e2] at z; exact absurd z (by decide)
        · have := h (kpl f g n 0) (ipl f' g' n - 1) (by omega) (by omega)
          have e3 := cmp4_spec.2.1.mp e2
          rw [lx_congr e3 (fun _ _ => rfl)] at this
          exact lx_ir (lx_tr this z1)
    rw [insN_n hno, insF_n hno, kyN_y e, kyF_y e]
    exact ⟨rfl, hf⟩
  · rw [kyN_n e] at hn
    rw [kyN_n e, kyF_n e]
    have hp : kpl f g n 0 ≤ n := by omega
    have hgt : kpl f g n 0 < n → lx (vI g) (wr f (kpl f g n 0)) := fun hpn => by
      rcases lx_3 (wr f (kpl f g n 0)) (vI g) with z | z | z
      · exact absurd z (d (by omega))
      · exact absurd ⟨hpn, cmp4_spec.2.1.mpr z⟩ e
      · exact z
    have hpp : ipl f' g' n = kpl f g n 0 := by
      refine Nat.le_antisymm (Nat.le_of_not_lt (fun z => ?_)) (Nat.le_of_not_lt (fun z => ?_))
      · have q := p2 (by omega)
        rw [ho _ (by omega)] at q
        apply q
        rw [cmp4_spec.2.2]
        have hpn : kpl f g n 0 < n := by omega
        by_cases y : ipl f' g' n - 1 = kpl f g n 0
        · rw [y]; exact hgt hpn
        · exact lx_tr (hgt hpn) (h _ _ (by omega) (by omega))
      · have q := p1 _ (Nat.le_refl _) (by omega)
        rw [ho _ (by omega)] at q
        have q1 := cmp4_spec.2.2.mp q
        exact lx_ir (lx_tr q1 (c _ (by omega) z))
    have hC : insC mo n f' g' := by
      refine ⟨?_, by omega⟩
      by_cases y : ipl f' g' n = 0
      · exact Or.inl y
      · refine Or.inr ?_
        rw [ho _ (by omega)]
        exact cmp4_spec.1.mpr (c _ (by omega) (by omega))
    rw [insN_y hC, insF_y hC, hpp]
    refine ⟨rfl, fun i hi => ?_⟩
    obtain ⟨q, r, hr, rfl⟩ : ∃ q r, r < 4 ∧ i = 4 * q + r := ⟨i / 4, i % 4, by omega, by omega⟩
    rw [kpF_at hp (by omega) hr, cpy_at, cpy_at]
    by_cases y : q < kpl f g n 0
    · rw [if_pos y, if_neg (by omega), if_neg (by omega)]; exact hf _ (by omega)
    · rw [if_neg y]
      by_cases y2 : q = kpl f g n 0
      · rw [if_pos y2, if_pos (by omega), show 0 + (4 * q + r - kpl f g n 0 * 4) = r by omega]; exact hg r hr
      · rw [if_neg y2, if_neg (by omega), if_pos (by omega), show kpl f g n 0 * 4 + (4 * q + r - (kpl f g n 0 * 4 + 4)) = 4 * (q - 1) + r by omega]
        exact hf _ (by omega)
theorem wr_cg {n : Nat} {f f' : Nat → Int32} (e : ∀ i, i < 4 * n → f' i = f i) {k : Nat} (hk : k < n) : ∀ i, i < 4 → wr f' k i = wr f k i := fun i hi => by
  show (f' (4 * k + i)).toInt = (f (4 * k + i)).toInt
  rw [e _ (by omega)]
theorem SL.cg {n : Nat} {f f' : Nat → Int32} (h : SL n f) (e : ∀ i, i < 4 * n → f' i = f i) : SL n f' := fun j k hjk hk => (lx_congr (wr_cg e (by omega)) (wr_cg e hk)).mpr (h j k hjk hk)
theorem inL.cg {n : Nat} {f f' : Nat → Int32} {u : Nat → Int} (h : inL n f u) (e : ∀ i, i < 4 * n → f' i = f i) : inL n f' u := by
  obtain ⟨k, hk, hu⟩ := h
  exact ⟨k, hk, fun i hi => (wr_cg e hk i hi).trans (hu i hi)⟩
/-- a property of points that hangs on the four coordinates alone -/
def ext4 (P : (Nat → Int) → Prop) : Prop := ∀ u v, (∀ i, i < 4 → u i = v i) → P u → P v
theorem v4_wr (f : Nat → Int32) (k : Nat) : ∀ i, i < 4 → vec4 (f (4 * k + 0)) (f (4 * k + 1)) (f (4 * k + 2)) (f (4 * k + 3)) i = wr f k i := fun i hi => by
  rcases (show i = 0 ∨ i = 1 ∨ i = 2 ∨ i = 3 by omega) with rfl | rfl | rfl | rfl <;> rfl
theorem all_ky {P : (Nat → Int) → Prop} (hP : ext4 P) {n : Nat} {f g : Nat → Int32} (h : ∀ k, k < n → P (wr f k)) (hg : P (vI g)) : ∀ k, k < kyN n f g → P (wr (kyF n f g) k) := fun k hk =>
  hP _ _ (v4_wr _ k) (LsP.ky (Q := fun a b c d => P (vec4 a b c d)) (fun j hj => hP _ _ (fun i hi => (v4_wr f j i hi).symm) (h j hj)) (hP _ _ (fun i hi => (vec4_at (g := g) i hi).symm) hg) k hk)
theorem ky_ge {n : Nat} {f g : Nat → Int32} : n ≤ kyN n f g := by
  by_cases e : kyP n f g
  · rw [kyN_y e]; exact Nat.le_refl n
  · rw [kyN_n e]; omega
/-- what a list is after a point is put in -/
def PUT (P : (Nat → Int) → Prop) (n : Nat) (f : Nat → Int32) (n2 : Nat) (f2 : Nat → Int32) (u : Nat → Int) : Prop := SL n2 f2 ∧ (∀ k, k < n2 → P (wr f2 k)) ∧ n ≤ n2 ∧ n2 ≤ n + 1 ∧ (∀ v, inL n f v → inL n2 f2 v) ∧ inL n2 f2 u
theorem ky_put {P : (Nat → Int) → Prop} (hP : ext4 P) {n : Nat} {f g : Nat → Int32} (h : SL n f) (hl : ∀ k, k < n → P (wr f k)) (hg : P (vI g)) : PUT P n f (kyN n f g) (kyF n f g) (vI g) := ⟨h.ky, all_ky hP hl hg, ky_ge, kyN_le, fun _ hu => hu.ky, inL.new⟩
theorem ins_put {P : (Nat → Int) → Prop} (hP : ext4 P) {mo n : Nat} {f g : Nat → Int32} (hn : n < mo) (h : SL n f) (hl : ∀ k, k < n → P (wr f k)) (hg : P (vI g)) : PUT P n f (insN mo n f g) (insF mo n f g) (vI g) := by
  obtain ⟨e1, e2⟩ := ins_sm (mo := mo) (f' := f) (g' := g) h (fun _ _ => rfl) (fun _ _ => rfl) (by have := kyN_le (n := n) (f := f) (g := g); omega)
  obtain ⟨a, b, c, d, e, i⟩ := ky_put hP h hl hg
  rw [e1]
  exact ⟨a.cg e2, fun k hk => hP _ _ (fun i hi => (wr_cg e2 hk i hi).symm) (b k hk), c, d, fun u hu => (e u hu).cg e2, i.cg e2⟩
theorem kq_put {P : (Nat → Int) → Prop} (hP : ext4 P) {n : Nat} {f g : Nat → Int32} (hn : n < 1000) (h : SL n f) (hl : ∀ k, k < n → P (wr f k)) (hg : P (vI g)) : PUT P n f (kqN n f g) (kqF n f g) (vI g) := by
  have hk := ky_put hP h hl hg
  by_cases e : kyP n f g
  · rw [kqN_y (Or.inr e), kqF_y (Or.inr e)]
    rw [kyN_y e, kyF_y e] at hk; exact hk
  · have e2 : ¬ kqP n f g := fun z => z.elim (fun z => by omega) e
    rw [kqN_n e2, kqF_n e2]
    rw [kyN_n e, kyF_n e] at hk; exact hk
/-- two lists in order with the same points are the same -/
theorem SL.uniq {n m : Nat} {f g : Nat → Int32} (hf : SL n f) (hg : SL m g) (h1 : ∀ k, k < n → inL m g (wr f k)) (h2 : ∀ k, k < m → inL n f (wr g k)) : n = m ∧ ∀ k, k < n → ∀ i, i < 4 → wr f k i = wr g k i := by
  have key : ∀ k, (k < n → k < m ∧ ∀ i, i < 4 → wr f k i = wr g k i) ∧ (k < m → k < n) := by
    intro k
    induction k using Nat.strongRecOn with
    | _ k ih =>
      refine ⟨fun hk => ?_, fun hkm => ?_⟩
      · obtain ⟨p, hp, ep⟩ := h1 k hk
        have kp : k ≤ p := Nat.le_of_not_lt (fun z => by
          have t := ((ih p z).1 (by omega)).2
          exact lx_ir ((lx_congr (fun i hi => (t i hi).trans (ep i hi)) (fun _ _ => rfl)).mp (hf p k z hk)))
        have hkm : k < m := by omega
        obtain ⟨q, hq, eq⟩ := h2 k hkm
        refine ⟨hkm, ?_⟩
        have kq : k ≤ q := Nat.le_of_not_lt (fun z => by
          have t := ((ih q z).1 (by omega)).2
          exact lx_ir ((lx_congr (fun i hi => (t i hi).symm.trans (eq i hi)) (fun _ _ => rfl)).mp (hg q k z hkm)))
        by_cases e : p = k
        · subst e; exact fun i hi => (ep i hi).symm
        · have l := (lx_congr (fun i hi => (eq i hi).symm) ep).mp (hg k p (by omega) hp)
          by_cases e2 : q = k
          · rw [e2] at l; exact absurd l lx_ir
          · exact absurd (lx_tr l (hf k q (by omega) hq)) lx_ir
      · obtain ⟨q, hq, eq⟩ := h2 k hkm
        refine Nat.lt_of_not_le (fun z => ?_)
        have t := ((ih q (by omega)).1 hq).2
        exact lx_ir ((lx_congr (fun i hi => (t i hi).symm.trans (eq i hi)) (fun _ _ => rfl)).mp (hg q k (by omega) hkm))
  refine ⟨Nat.le_antisymm (Nat.le_of_not_lt (fun z => ?_)) (Nat.le_of_not_lt (fun z => ?_)), fun k hk => ((key k).1 hk).2⟩
  · have := ((key m).1 z).1; omega
  · have := (key n).2 z; omega
-- points that are no sums of two others
theorem dot4_cg {l x y : Nat → Int} (e : ∀ i, i < 4 → x i = y i) : dot4 l x = dot4 l y := by
  unfold dot4
  rw [e 0 (by decide), e 1 (by decide), e 2 (by decide), e 3 (by decide)]
theorem Cn.cg {n : Nat} {W : Nat → Nat → Int} {x y : Nat → Int} (h : Cn n W x) (e : ∀ i, i < 4 → x i = y i) : Cn n W y := fun k hk => by rw [← dot4_cg e]; exact h k hk
theorem nz4.cg {x y : Nat → Int} (h : nz4 x) (e : ∀ i, i < 4 → x i = y i) : nz4 y := by
  obtain ⟨i, hi, hz⟩ := h
  exact ⟨i, hi, by rw [← e i hi]; exact hz⟩
/-- a whole point of the cone, not 0, that is no sum of two others -/
def IRR (n : Nat) (W : Nat → Nat → Int) (x : Nat → Int) : Prop := Cn n W x ∧ nz4 x ∧ ∀ y z, Cn n W y → nz4 y → Cn n W z → nz4 z → ¬ ∀ i, i < 4 → x i = y i + z i
theorem IRR.cg {n : Nat} {W : Nat → Nat → Int} {x y : Nat → Int} (h : IRR n W x) (e : ∀ i, i < 4 → x i = y i) : IRR n W y := ⟨h.1.cg e, h.2.1.cg e, fun a b ha na hb nb z => h.2.2 a b ha na hb nb (fun i hi => (e i hi).trans (z i hi))⟩
/-- what may be taken away from such a point is the point -/
theorem IRR.eq {n : Nat} {W : Nat → Nat → Int} {x y : Nat → Int} (h : IRR n W x) (hy : Cn n W y) (ny : nz4 y) (hd : Cn n W (fun i => x i - y i)) : ∀ i, i < 4 → x i = y i := by
  have := fun nd => h.2.2 y (fun i => x i - y i) hy ny hd nd (fun i hi => by show x i = y i + (x i - y i); omega)
  intro i hi
  have z := nz4_not this i hi
  have z : x i - y i = 0 := z
  omega
def hsm (W : Nat → Nat → Int) (x : Nat → Int) : Nat → Nat
  | 0 => 0
  | n + 1 => hsm W x n + (dot4 (W n) x).toNat
theorem dot4_add {l x y z : Nat → Int} (e : ∀ i, i < 4 → x i = y i + z i) : dot4 l x = dot4 l y + dot4 l z := by
  rw [dot4_2 (x := y) (y := z) (a := 1) (b := 1) (fun i hi => by rw [e i hi]; omega)]; omega
theorem dot4_sub {l x y : Nat → Int} : dot4 l (fun i => x i - y i) = dot4 l x - dot4 l y := by
  rw [dot4_2 (x := x) (y := y) (a := 1) (b := -1) (fun i hi => by show x i - y i = _; omega)]; omega
theorem hsm_add {W : Nat → Nat → Int} {x y z : Nat → Int} (e : ∀ i, i < 4 → x i = y i + z i) : ∀ n, Cn n W y → Cn n W z → hsm W x n = hsm W y n + hsm W z n
  | 0, _, _ => rfl
  | n + 1, hy, hz => by
    have ih := hsm_add (W := W) e n (fun k hk => hy k (by omega)) (fun k hk => hz k (by omega))
    have a := hy n (by omega)
    have b := hz n (by omega)
    have c := dot4_add (l := W n) e
    show hsm W x n + (dot4 (W n) x).toNat = hsm W y n + (dot4 (W n) y).toNat + (hsm W z n + (dot4 (W n) z).toNat)
    omega
theorem hsm_zero {W : Nat → Nat → Int} {x : Nat → Int} : ∀ n, Cn n W x → hsm W x n = 0 → ∀ k, k < n → dot4 (W k) x = 0
  | 0, _, _, k, hk => absurd hk (Nat.not_lt_zero k)
  | n + 1, h, e, k, hk => by
    have e : hsm W x n + (dot4 (W n) x).toNat = 0 := e
    have a := h n (by omega)
    by_cases z : k = n
    · subst z; omega
    · exact hsm_zero n (fun k hk => h k (by omega)) (by omega) k (by omega)
theorem hsm_pos {n : Nat} {W : Nat → Nat → Int} {x : Nat → Int} (hp : Ptd n W) (h : Cn n W x) (hn : nz4 x) : 0 < hsm W x n := Nat.pos_of_ne_zero (fun z => by
  obtain ⟨i, hi, hx⟩ := hn
  exact hx (hp x (hsm_zero n h z) i hi))
/-- below every point of the cone there is one that is no sum -/
theorem irr_below {n : Nat} {W : Nat → Nat → Int} (hp : Ptd n W) : ∀ (h : Nat) (x : Nat → Int), hsm W x n = h → Cn n W x → nz4 x → ∃ q, IRR n W q ∧ Cn n W (fun i => x i - q i) := by
  intro h
  induction h using Nat.strongRecOn with
  | _ h ih =>
    intro x hx cx nx
    by_cases c : ∃ y z, Cn n W y ∧ nz4 y ∧ Cn n W z ∧ nz4 z ∧ ∀ i, i < 4 → x i = y i + z i
    · obtain ⟨y, z, cy, ny, cz, nz, e⟩ := c
      have a := hsm_add (W := W) e n cy cz
      have b := hsm_pos hp cz nz
      obtain ⟨q, hq, hd⟩ := ih (hsm W y n) (by omega) y rfl cy ny
      refine ⟨q, hq, fun k hk => ?_⟩
      have d1 := hd k hk
      have d2 := cz k hk
      rw [dot4_sub] at d1
      rw [dot4_sub, dot4_add e]; omega
    · refine ⟨x, ⟨cx, nx, fun y z cy ny cz nz e => c ⟨y, z, cy, ny, cz, nz, e⟩⟩, fun k hk => ?_⟩
      rw [dot4_sub]; omega
-- sifting
/-- of the first N points of F those with K are kept, in their order -/
def KEPT (N : Nat) (F : Nat → Int32) (K : Nat → Prop) (M : Nat) (G : Nat → Int32) : Prop := ∃ idx : Nat → Nat, (∀ i, i < M → idx i < N ∧ K (idx i) ∧ ∀ c, c < 4 → wr G i c = wr F (idx i) c) ∧ (∀ i j, i < j → j < M → idx i < idx j) ∧ ∀ j, j < N → K j → ∃ i, i < M ∧ idx i = j
theorem KEPT.skip {k M : Nat} {F G : Nat → Int32} {K : Nat → Prop} (h : KEPT k F K M G) (hk : ¬ K k) : KEPT (k + 1) F K M G := by
  obtain ⟨idx, a, b, c⟩ := h
  refine ⟨idx, fun i hi => ⟨by have := (a i hi).1; omega, (a i hi).2⟩, b, fun j hj kj => ?_⟩
  by_cases e : j = k
  · rw [e] at kj; exact absurd kj hk
  · exact c j (by omega) kj
theorem KEPT.add {k M : Nat} {F G G' : Nat → Int32} {K : Nat → Prop} (h : KEPT k F K M G) (hk : K k) (h1 : ∀ i, i < M → ∀ c, c < 4 → wr G' i c = wr G i c) (h2 : ∀ c, c < 4 → wr G' M c = wr F k c) : KEPT (k + 1) F K (M + 1) G' := by
  obtain ⟨idx, a, b, c⟩ := h
  have u0 : updN idx M k M = k := by unfold updN; rw [if_pos rfl]
  have u1 : ∀ i, ¬ i = M → updN idx M k i = idx i := fun i hi => by unfold updN; rw [if_neg hi]
  refine ⟨updN idx M k, fun i hi => ?_, fun i j hij hj => ?_, fun j hj kj => ?_⟩
  · by_cases e : i = M
    · subst e; rw [u0]; exact ⟨by omega, hk, h2⟩
    · rw [u1 i e]
      obtain ⟨a1, a2, a3⟩ := a i (by omega)
      exact ⟨by omega, a2, fun c hc => (h1 i (by omega) c hc).trans (a3 c hc)⟩
  · by_cases e : j = M
    · rw [e, u0, u1 i (by omega)]; exact (a i (by omega)).1
    · rw [u1 i (by omega), u1 j e]; exact b i j hij (by omega)
  · by_cases e : j = k
    · exact ⟨M, by omega, by rw [u0, e]⟩
    · obtain ⟨i, i1, i2⟩ := c j (by omega) kj
      exact ⟨i, by omega, by rw [u1 i (by omega)]; exact i2⟩
/-- the basis, as a list in order -/
def BAS (n : Nat) (W : Nat → Nat → Int) (M : Nat) (G : Nat → Int32) : Prop := SL M G ∧ (∀ k, k < M → IRR n W (wr G k)) ∧ ∀ u, IRR n W u → inL M G u
theorem KEPT.bas {n N M : Nat} {W : Nat → Nat → Int} {F G : Nat → Int32} {K : Nat → Prop} (h : KEPT N F K M G) (hs : SL N F) (hi : ∀ u, IRR n W u → inL N F u) (hK : ∀ j, j < N → (K j ↔ IRR n W (wr F j))) : BAS n W M G := by
  obtain ⟨idx, a, b, c⟩ := h
  refine ⟨fun j k hjk hk => ?_, fun k hk => ?_, fun u hu => ?_⟩
  · exact (lx_congr (a j (by omega)).2.2 (a k hk).2.2).mpr (hs _ _ (b j k hjk hk) (a k hk).1)
  · obtain ⟨a1, a2, a3⟩ := a k hk
    exact ((hK _ a1).mp a2).cg (fun i hi => (a3 i hi).symm)
  · obtain ⟨j, hj, ej⟩ := hi u hu
    obtain ⟨i, i1, i2⟩ := c j hj ((hK j hj).mpr (hu.cg (fun i hi => (ej i hi).symm)))
    refine ⟨i, i1, fun q hq => ?_⟩
    rw [(a i i1).2.2 q hq, i2]; exact ej q hq
/-- two bases are the same -/
theorem BAS.uniq {n M M' : Nat} {W : Nat → Nat → Int} {G G' : Nat → Int32} (h : BAS n W M G) (h' : BAS n W M' G') : M = M' ∧ ∀ i, i < 4 * M → G i = G' i := by
  obtain ⟨e1, e2⟩ := h.1.uniq h'.1 (fun k hk => h'.2.2 _ (h.2.1 k hk)) (fun k hk => h.2.2 _ (h'.2.1 k hk))
  refine ⟨e1, fun i hi => ?_⟩
  obtain ⟨q, r, hr, rfl⟩ : ∃ q r, r < 4 ∧ i = 4 * q + r := ⟨i / 4, i % 4, by omega, by omega⟩
  exact Int32.toInt_inj.mp (e2 q (by omega) r hr)
/-- what stands of a list of candidates -/
def CND (rn zs : Nat) (wf : Nat → Int32) (N : Nat) (F : Nat → Int32) : Prop := SL N F ∧ (∀ k, k < N → (Cn (xn rn zs) (XW wf rn) (wr F k) ∧ nz4 (wr F k)) ∧ ∀ i, i < 4 → (wr F k i).natAbs ≤ 20000) ∧ ∀ u, IRR (xn rn zs) (XW wf rn) u → inL N F u
theorem SL.ne {n j k : Nat} {f : Nat → Int32} (h : SL n f) (hj : j < n) (hk : k < n) (ne : ¬ j = k) : ¬ ∀ i, i < 4 → wr f j i = wr f k i := fun z => by
  rcases Nat.lt_or_gt_of_ne ne with l | l
  · exact lx_ir ((lx_congr z (fun _ _ => rfl)).mp (h j k l hk))
  · exact lx_ir ((lx_congr (fun _ _ => rfl) z).mp (h k j l hj))
/-- what may be taken away, by the rows alone -/
theorem XW_sub {wf : Nat → Int32} {rn zs : Nat} {x y : Nat → Int} (h2 : 2 ≤ zs) (hx : Cn (xn rn zs) (XW wf rn) x) (hy : Cn (xn rn zs) (XW wf rn) y) : Cn (xn rn zs) (XW wf rn) (fun i => x i - y i) ↔ ∀ r, r < rn → dot4 (wr wf r) y ≤ dot4 (wr wf r) x := by
  rw [XW_cn h2]
  obtain ⟨-, x2⟩ := (XW_cn h2).mp hx
  obtain ⟨-, y2⟩ := (XW_cn h2).mp hy
  constructor
  · intro h r hr
    have := h.1 r hr
    rw [dot4_sub] at this; omega
  · intro h
    refine ⟨fun r hr => by rw [dot4_sub]; have := h r hr; omega, fun i hi h4 => ?_⟩
    show x i - y i = 0
    rw [x2 i hi h4, y2 i hi h4]; rfl
/-- the heights of a list -/
def HT (wf : Nat → Int32) (rn n : Nat) (f h : Nat → Int32) : Prop := ∀ i, i < n → ∀ r, r < rn → (h (i * 8 + r)).toInt = dot4 (wr wf r) (wr f i)
theorem HT.bel {wf f h : Nat → Int32} {rn n q p : Nat} (hh : HT wf rn n f h) (hq : q < n) (hp : p < n) : bel h rn q p ↔ ∀ r, r < rn → dot4 (wr wf r) (wr f q) ≤ dot4 (wr wf r) (wr f p) := by
  constructor
  · intro b r hr
    rw [← hh q hq r hr, ← hh p hp r hr]; exact Int32.le_iff_toInt_le.mp (b r hr)
  · intro b r hr
    refine Int32.le_iff_toInt_le.mpr ?_
    rw [hh q hq r hr, hh p hp r hr]; exact b r hr
theorem sft_kept {wf f5 h6 : Nat → Int32} {rn zs n5 : Nat} (h2 : 2 ≤ zs) (hr8 : rn ≤ 8) (hp : Ptd (xn rn zs) (XW wf rn)) (hc : CND rn zs wf n5 f5) (hh : HT wf rn n5 f5 h6) : ∀ p, p ≤ n5 → (sft rn n5 p (0, f5, h6)).1 ≤ p ∧ KEPT p f5 (fun j => IRR (xn rn zs) (XW wf rn) (wr f5 j)) (sft rn n5 p (0, f5, h6)).1 (sft rn n5 p (0, f5, h6)).2.1 ∧ (∀ i, (sft rn n5 p (0, f5, h6)).1 ≤ i → i < n5 → ∀ c, c < 4 → wr (sft rn n5 p (0, f5, h6)).2.1 i c = wr f5 i c) ∧ HT wf rn n5 (sft rn n5 p (0, f5, h6)).2.1 (sft rn n5 p (0, f5, h6)).2.2
  | 0, _ => ⟨Nat.le_refl 0, ⟨fun _ => 0, fun i hi => absurd hi (Nat.not_lt_zero i), fun i j _ hj => absurd hj (Nat.not_lt_zero j), fun j hj => absurd hj (Nat.not_lt_zero j)⟩, fun _ _ _ _ _ => rfl, hh⟩
  | p + 1, hp1 => by
    obtain ⟨ih1, ih2, ih3, ih4⟩ := sft_kept h2 hr8 hp hc hh p (by omega)
    obtain ⟨hs, hl, hi⟩ := hc
    have e0 : sft rn n5 p (0, f5, h6) = ((sft rn n5 p (0, f5, h6)).1, (sft rn n5 p (0, f5, h6)).2.1, (sft rn n5 p (0, f5, h6)).2.2) := rfl
    by_cases c : IRR (xn rn zs) (XW wf rn) (wr f5 p)
    · have hno : ¬ sumd (sft rn n5 p (0, f5, h6)).2.2 rn n5 p (sft rn n5 p (0, f5, h6)).1 := by
        rintro ⟨q, hq, hqq, hb⟩
        have hb := (ih4.bel hq (by omega)).mp hb
        obtain ⟨q', hq', ne, eq⟩ : ∃ q', q' < n5 ∧ ¬ q' = p ∧ ∀ c, c < 4 → wr (sft rn n5 p (0, f5, h6)).2.1 q c = wr f5 q' c := by
          rcases hqq with z | z
          · obtain ⟨idx, a, -, -⟩ := ih2
            obtain ⟨a1, -, a3⟩ := a q z
            exact ⟨idx q, by omega, by omega, a3⟩
          · exact ⟨q, hq, by omega, ih3 q (by omega) hq⟩
        have ep := ih3 p ih1 (by omega)
        refine hs.ne (by omega : p < n5) hq' (fun z => ne z.symm) (c.eq (hl q' hq').1.1 (hl q' hq').1.2 ((XW_sub h2 c.1 (hl q' hq').1.1).mpr (fun r hr => ?_)))
        have := hb r hr
        rw [dot4_cg eq, dot4_cg ep] at this; exact this
      rw [sft_n e0 hno]
      generalize (sft rn n5 p (0, f5, h6)).1 = kp at *
      generalize (sft rn n5 p (0, f5, h6)).2.1 = F at *
      generalize (sft rn n5 p (0, f5, h6)).2.2 = H at *
      have c0 : ∀ i, ¬ i = kp → ∀ c, c < 4 → wr (va_cpy F F (p * 4) (kp * 4) 4) i c = wr F i c := fun i hi c hc => by
        show (va_cpy F F (p * 4) (kp * 4) 4 (4 * i + c)).toInt = _
        rw [cpy_at, if_neg (by omega)]; rfl
      have c1 : ∀ c, c < 4 → wr (va_cpy F F (p * 4) (kp * 4) 4) kp c = wr F p c := fun c hc => by
        show (va_cpy F F (p * 4) (kp * 4) 4 (4 * kp + c)).toInt = _
        rw [cpy_at, if_pos (by omega), show p * 4 + (4 * kp + c - kp * 4) = 4 * p + c by omega]; rfl
      refine ⟨by show kp + 1 ≤ p + 1; omega, ih2.add c (fun i hi => c0 i (by omega)) (fun q hq => (c1 q hq).trans (ih3 p ih1 (by omega) q hq)), fun i hi hin q hq => ?_, fun i hi r hr => ?_⟩
      · have hi : kp + 1 ≤ i := hi
        exact (c0 i (by omega) q hq).trans (ih3 i (by omega) hin q hq)
      · show (va_cpy H H (p * 8) (kp * 8) 8 (i * 8 + r)).toInt = dot4 (wr wf r) (wr (va_cpy F F (p * 4) (kp * 4) 4) i)
        rw [cpy_at]
        by_cases e : i = kp
        · subst e
          rw [if_pos (by omega), show p * 8 + (i * 8 + r - i * 8) = p * 8 + r by omega, dot4_cg c1]
          exact ih4 p (by omega) r hr
        · rw [if_neg (by omega), dot4_cg (c0 i e)]
          exact ih4 i hi r hr
    · have hyes : sumd (sft rn n5 p (0, f5, h6)).2.2 rn n5 p (sft rn n5 p (0, f5, h6)).1 := by
        obtain ⟨u, hu, hd⟩ := irr_below hp _ _ rfl (hl p (by omega)).1.1 (hl p (by omega)).1.2
        obtain ⟨j, hj, ej⟩ := hi u hu
        have njp : ¬ j = p := fun z => c (by rw [← z]; exact hu.cg (fun i hi => (ej i hi).symm))
        obtain ⟨q, hq, hqq, eq⟩ : ∃ q, q < n5 ∧ (q < (sft rn n5 p (0, f5, h6)).1 ∨ p < q) ∧ ∀ c, c < 4 → wr (sft rn n5 p (0, f5, h6)).2.1 q c = u c := by
          by_cases z : j < p
          · obtain ⟨idx, a, -, cc⟩ := ih2
            obtain ⟨i, i1, i2⟩ := cc j z (hu.cg (fun i hi => (ej i hi).symm))
            exact ⟨i, by omega, Or.inl i1, fun c hc => by rw [(a i i1).2.2 c hc, i2]; exact ej c hc⟩
          · exact ⟨j, hj, Or.inr (by omega), fun c hc => (ih3 j (by omega) hj c hc).trans (ej c hc)⟩
        refine ⟨q, hq, hqq, (ih4.bel hq (by omega)).mpr (fun r hr => ?_)⟩
        have := (XW_sub h2 (hl p (by omega)).1.1 hu.1).mp hd r hr
        rw [dot4_cg eq, dot4_cg (ih3 p ih1 (by omega))]; exact this
      rw [sft_y e0 hyes]
      exact ⟨by omega, ih2.skip c, ih3, ih4⟩
/-- the class's sifting leaves the basis -/
theorem sft_bas {wf f5 h6 : Nat → Int32} {rn zs n5 : Nat} (h2 : 2 ≤ zs) (hr8 : rn ≤ 8) (hp : Ptd (xn rn zs) (XW wf rn)) (hc : CND rn zs wf n5 f5) (hh : HT wf rn n5 f5 h6) : BAS (xn rn zs) (XW wf rn) (sft rn n5 n5 (0, f5, h6)).1 (sft rn n5 n5 (0, f5, h6)).2.1 ∧ (sft rn n5 n5 (0, f5, h6)).1 ≤ n5 ∧ HT wf rn (sft rn n5 n5 (0, f5, h6)).1 (sft rn n5 n5 (0, f5, h6)).2.1 (sft rn n5 n5 (0, f5, h6)).2.2 := by
  obtain ⟨a, b, c, d⟩ := sft_kept h2 hr8 hp hc hh n5 (Nat.le_refl _)
  exact ⟨b.bas hc.1 hc.2.2 (fun j _ => Iff.rfl), a, fun i hi => d i (by omega)⟩
/-- the reference's sifting leaves the basis -/
theorem prm_dot {wf f : Nat → Int32} {rn zs r k : Nat} (hr : rowsOK wf rn zs) (h : r < rn) : (prm wf r f (4 * k)).toInt = dot4 (wr wf r) (wr f k) := by
  rw [prm_int (fun i hi => ⟨(hr r i h hi).1, (hr r i h hi).2.1⟩)]; rfl
theorem smd_irr {wf f2 : Nat → Int32} {rn zs n2 k : Nat} (h2 : 2 ≤ zs) (hr : rowsOK wf rn zs) (hp : Ptd (xn rn zs) (XW wf rn)) (hc : CND rn zs wf n2 f2) (hk : k < n2) : ¬ smd wf f2 rn n2 k ↔ IRR (xn rn zs) (XW wf rn) (wr f2 k) := by
  obtain ⟨hs, hl, hi⟩ := hc
  have cmp : ∀ j r, r < rn → (¬ prm wf r f2 (4 * k) < prm wf r f2 (4 * j) ↔ dot4 (wr wf r) (wr f2 j) ≤ dot4 (wr wf r) (wr f2 k)) := fun j r h => by
    rw [Int64.lt_iff_toInt_lt, prm_dot hr h, prm_dot hr h]; omega
  constructor
  · intro h
    refine Classical.byContradiction (fun c => h ?_)
    obtain ⟨u, hu, hd⟩ := irr_below hp _ _ rfl (hl k hk).1.1 (hl k hk).1.2
    obtain ⟨j, hj, ej⟩ := hi u hu
    refine ⟨j, hj, fun z => c (by rw [← z]; exact hu.cg (fun i hi => (ej i hi).symm)), fun r hr9 => (cmp j r hr9).mpr ?_⟩
    have := (XW_sub h2 (hl k hk).1.1 hu.1).mp hd r hr9
    rw [dot4_cg ej]; exact this
  · rintro c ⟨j, hj, ne, hb⟩
    exact hs.ne hk hj (fun z => ne z.symm) (c.eq (hl j hj).1.1 (hl j hj).1.2 ((XW_sub h2 c.1 (hl j hj).1.1).mpr (fun r hr9 => (cmp j r hr9).mp (hb r hr9))))
theorem cmq_kept {wf f2 : Nat → Int32} {rn n2 : Nat} : ∀ k, k ≤ n2 → (cmq wf f2 rn n2 k (0, f2)).1 ≤ k ∧ KEPT k f2 (fun j => ¬ smd wf f2 rn n2 j) (cmq wf f2 rn n2 k (0, f2)).1 (cmq wf f2 rn n2 k (0, f2)).2 ∧ ∀ j, 4 * (cmq wf f2 rn n2 k (0, f2)).1 ≤ j → (cmq wf f2 rn n2 k (0, f2)).2 j = f2 j
  | 0, _ => ⟨Nat.le_refl 0, ⟨fun _ => 0, fun i hi => absurd hi (Nat.not_lt_zero i), fun i j _ hj => absurd hj (Nat.not_lt_zero j), fun j hj => absurd hj (Nat.not_lt_zero j)⟩, fun _ _ => rfl⟩
  | k + 1, hk => by
    obtain ⟨a, b, c⟩ := cmq_kept (wf := wf) (f2 := f2) (rn := rn) (n2 := n2) k (by omega)
    by_cases e : smd wf f2 rn n2 k
    · rw [cmq_y rfl e]; exact ⟨by omega, b.skip (fun z => z e), c⟩
    · rw [cmq_n (n := (cmq wf f2 rn n2 k (0, f2)).1) (f := (cmq wf f2 rn n2 k (0, f2)).2) rfl e]
      generalize (cmq wf f2 rn n2 k (0, f2)).1 = n at *
      generalize (cmq wf f2 rn n2 k (0, f2)).2 = f at *
      obtain ⟨d1, d2⟩ := cp4_at (f := f) a
      refine ⟨by show n + 1 ≤ k + 1; omega, b.add e (fun i hi q hq => ?_) (fun q hq => ?_), fun j hj => ?_⟩
      · show (cp4 f n k (4 * i + q)).toInt = (f (4 * i + q)).toInt
        rw [d2 _ (by omega)]
      · show (cp4 f n k (4 * n + q)).toInt = (f2 (4 * k + q)).toInt
        rw [d1 q hq, c _ (by omega)]
      · show cp4 f n k j = f2 j
        have hj : 4 * (n + 1) ≤ j := hj
        rw [d2 j (by omega)]; exact c j (by omega)
theorem cmq_bas {wf f2 : Nat → Int32} {rn zs n2 : Nat} (h2 : 2 ≤ zs) (hr : rowsOK wf rn zs) (hp : Ptd (xn rn zs) (XW wf rn)) (hc : CND rn zs wf n2 f2) : BAS (xn rn zs) (XW wf rn) (cmq wf f2 rn n2 n2 (0, f2)).1 (cmq wf f2 rn n2 n2 (0, f2)).2 := by
  obtain ⟨-, b, -⟩ := cmq_kept (wf := wf) (f2 := f2) (rn := rn) n2 (Nat.le_refl _)
  exact b.bas hc.1 hc.2.2 (fun j hj => smd_irr h2 hr hp hc hj)
