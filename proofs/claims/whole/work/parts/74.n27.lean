/-! ===== own rows: class and reference, 27 ===== -/
-- the faces of the desk
theorem lst_Rk {pf yf : Nat → Int32} {yn m : Nat} (hf : ∀ i, i < 4 * yn → pf i = yf i) (hb : ∀ k, k < yn → ∀ i, i < 4 → (wr yf k i).natAbs ≤ 649) : Rk yn (wr yf) m (lst pf m yn).1 := by
  have hw : ∀ k, k < yn → ∀ i, i < 4 → rwI pf k i = wr yf k i := fun k hk i hi => by
    show (pf (k * 4 + i)).toInt = (yf (4 * k + i)).toInt
    rw [show k * 4 + i = 4 * k + i by omega, hf _ (by omega)]
  obtain ⟨Jx, h1, h2, h3, h4, h5⟩ := LST.all (pf := pf) (C := 649) (ch := m) (by decide) yn (fun q hq _ i hi => by
    have := hw q hq i hi
    show (rwI pf q i).natAbs ≤ 649
    rw [this]; exact hb q hq i hi)
  refine ⟨fun l => rwI pf (Jx l), mnI_ind (lst_le pf m yn) h4, fun l hl => ?_, fun k hk => ?_⟩
  · obtain ⟨a, b⟩ := h1 l hl
    exact (Sp.in a b).congr (fun q hq => hw _ a q hq)
  · by_cases b : m.testBit k = true
    · rw [mV_y b]
      exact (h5 k hk b).congr (fun q hq => (hw k hk q hq).symm)
    · rw [mV_n b]; exact Sp.zero (fun _ _ => rfl)
theorem TT_congr {W W' V : Nat → Nat → Int} {r : Nat} (h : W r = W' r) : ∀ k, TT W V r k = TT W' V r k
  | 0 => rfl
  | k + 1 => by
    show (if dot4 (W r) (V k) = 0 then _ else _) = (if dot4 (W' r) (V k) = 0 then _ else _)
    rw [h, TT_congr h k]
/-- good masks: the closed sets -/
def gdm (n : Nat) (W : Nat → Nat → Int) (N : Nat) (V : Nat → Nat → Int) (m : Nat) : Prop := (∀ j, m.testBit j = true → j < N) ∧ Cl n W N V m
theorem all_bit {N j : Nat} : (2 ^ N - 1).testBit j = true ↔ j < N := by
  rw [Nat.testBit_two_pow_sub_one]; exact decide_eq_true_iff
theorem bits_lt {N m : Nat} (h : ∀ j, m.testBit j = true → j < N) : m < 2 ^ N := by
  have : m = m % 2 ^ N := by
    refine Nat.eq_of_testBit_eq (fun j => ?_)
    rw [Nat.testBit_mod_two_pow]
    rcases Bool.eq_false_or_eq_true (m.testBit j) with e | e
    · rw [e, decide_eq_true (h j e)]; rfl
    · rw [e]; simp
  rw [this]; exact Nat.mod_lt _ (Nat.two_pow_pos N)
theorem lt_bits {N m : Nat} (h : m < 2 ^ N) : ∀ j, m.testBit j = true → j < N := fun j b => by
  refine Classical.byContradiction (fun z => ?_)
  rw [Nat.testBit_lt_two_pow (Nat.lt_of_lt_of_le h (Nat.pow_le_pow_right (by decide) (by omega)))] at b
  cases b
/-- what is known of the rays, in whole numbers -/
def RAYS (c : MC) (yf : Nat → Int32) : Prop := CX (xn c.rn c.zs) (XW c.wf c.rn) c.yn (wr c.yf) ∧ c.yn ≤ 12 ∧ (∀ k, k < c.yn → ∀ i, i < 4 → (wr c.yf k i).natAbs ≤ 649) ∧ (∀ m, Rk c.yn (wr c.yf) m (lst yf m c.yn).1) ∧ Rk c.yn (wr c.yf) (2 ^ c.yn - 1) c.sp
theorem desk_rays {d : DC} {c : MC} (hd : DI d) (hc : MJ c) (hs : SY d c) (h1 : 1 ≤ d.kn) (hk : c.kn = 1) (hz : c.zs ≤ c.rk) : RAYS c d.yf := by
  obtain ⟨e1, e2, e3, e4⟩ := rays_same hd hc hs h1 hk hz
  have hb : ∀ k, k < c.yn → ∀ i, i < 4 → (wr c.yf k i).natAbs ≤ 649 := fun k hk i hi => by
    have := (e4 k hk).1.1 i hi
    rcases (show i = 0 ∨ i = 1 ∨ i = 2 ∨ i = 3 by omega) with rfl | rfl | rfl | rfl <;> exact this
  have hR : ∀ m, Rk c.yn (wr c.yf) m (lst d.yf m c.yn).1 := fun m => lst_Rk e2 hb
  refine ⟨desk_CX hc hk hz e3 e4, by have := hd.yn; omega, hb, hR, ?_⟩
  obtain ⟨-, -, e⟩ := RY_holds d c hd hc hs h1 hk hz
  obtain ⟨-, hsp⟩ := hd.k1 h1
  rw [← e, hsp, e1]
  exact hR _
theorem RAYS.z4 {c : MC} {yf : Nat → Int32} (h : RAYS c yf) (h2 : 2 ≤ c.zs) (h4 : c.zs ≤ 4) (hsp : c.sp = 4) : c.zs = 4 := by
  obtain ⟨hX, -, -, -, hk⟩ := h
  rw [hsp] at hk
  refine Classical.byContradiction (fun z => ?_)
  obtain ⟨x, hx, hne⟩ := full_row (f := un 3) hk ⟨3, by decide, by decide⟩
  rw [un3] at hne
  exact hne (((XW_cn h2).mp (hX.2.2.1 x hx).1).2 3 (by omega) (by decide))
/-- at most forty -/
theorem RAYS.f40 {c : MC} {yf : Nat → Int32} (h : RAYS c yf) (hc : MJ c) : ∀ n t, LG (gdm (xn c.rn c.zs) (XW c.wf c.rn) c.yn (wr c.yf)) n t → n ≤ 40 := by
  intro n t hl
  have z4 := h.z4 hc.z2 hc.z4
  obtain ⟨hX, h12, hb, hR, hsp⟩ := h
  refine faces40 (T := fun r => TT (XW c.wf c.rn) (wr c.yf) r c.yn) (al := 2 ^ c.yn - 1) (sp := c.sp) (mk := t) hX h12 (fun r hr j hj => ?_) (fun r hr j b => ((TT_bit _ _).mp b).1) (fun r hr => ⟨_, hR _⟩) (fun j hj => all_bit.mpr hj) (fun j b => all_bit.mp b) hsp (fun r hr ht => ?_) (fun e => ?_) hl.1 (fun i hi => (hl.2 i hi).1) (fun i hi => (hl.2 i hi).2) (fun i hi => ⟨_, hR _⟩)
  · rw [TT_bit]; exact ⟨fun z => z.2, fun z => ⟨hj, z⟩⟩
  · by_cases e : r < c.rn
    · have := hc.r8; omega
    · exact absurd (fun q hq _ => XW_hi hc.z2 hr (by omega) ((XW_cn hc.z2).mp (hX.2.2.1 q hq).1).2) ht
  · have e := z4 e
    have en : xn c.rn c.zs = c.rn := by unfold xn; omega
    refine ⟨by rw [en]; exact hc.r8, fun k hk i hi => ?_, fun j hj i hi => Nat.le_trans (hb j hj i hi) (by decide)⟩
    rw [en] at hk
    rw [XW_lo hk]
    exact wr_5 hc.ro hk i hi
theorem gdm_and {c : MC} {yf : Nat → Int32} (h : RAYS c yf) {r m : Nat} (hr : r < c.rn) (hm : gdm (xn c.rn c.zs) (XW c.wf c.rn) c.yn (wr c.yf) m) : gdm (xn c.rn c.zs) (XW c.wf c.rn) c.yn (wr c.yf) (m &&& TT (XW c.wf c.rn) (wr c.yf) r c.yn) := by
  obtain ⟨a, b⟩ := hm
  refine ⟨fun j z => ?_, fun j hj hk => ?_⟩
  · rw [Nat.testBit_and, Bool.and_eq_true] at z
    exact a j z.1
  · rw [Nat.testBit_and, Bool.and_eq_true]
    refine ⟨b j hj (fun k hk1 tk => hk k hk1 (fun q hq z => ?_)), (TT_bit _ _).mpr ⟨hj, hk r (by unfold xn; omega) (fun q hq z => ?_)⟩⟩
    · rw [Nat.testBit_and, Bool.and_eq_true] at z
      exact tk q hq z.1
    · rw [Nat.testBit_and, Bool.and_eq_true] at z
      exact ((TT_bit _ _).mp z.2).2
/-- a closed set is a meet -/
theorem gdm_mt {c : MC} {yf : Nat → Int32} (h : RAYS c yf) (h2 : 2 ≤ c.zs) {m m0 : Nat} (hm : ∀ j, m.testBit j = true → j < c.yn) (hb : ∀ j, m0.testBit j = true ↔ (2 ^ c.yn - 1).testBit j = true ∧ ∀ k, k < c.rn → msub m (TT (XW c.wf c.rn) (wr c.yf) k c.yn) → (TT (XW c.wf c.rn) (wr c.yf) k c.yn).testBit j = true) : m0 = m ↔ Cl (xn c.rn c.zs) (XW c.wf c.rn) c.yn (wr c.yf) m := by
  obtain ⟨hX, -, -, -, -⟩ := h
  have sub : ∀ k, msub m (TT (XW c.wf c.rn) (wr c.yf) k c.yn) ↔ TM (XW c.wf c.rn) c.yn (wr c.yf) m k := fun k => ⟨fun s q hq z => ((TT_bit _ _).mp (s q z)).2, fun t j z => (TT_bit _ _).mpr ⟨hm j z, t j (hm j z) z⟩⟩
  constructor
  · intro e j hj hk
    rw [← e]
    refine (hb j).mpr ⟨all_bit.mpr hj, fun k hk1 s => (TT_bit _ _).mpr ⟨hj, hk k (by unfold xn; omega) ((sub k).mp s)⟩⟩
  · intro cl
    refine bits_eq (N := c.yn) (fun j z => all_bit.mp ((hb j).mp z).1) hm (fun j hj => ⟨fun z => ?_, fun z => (hb j).mpr ⟨all_bit.mpr hj, fun k hk1 s => s j z⟩⟩)
    refine cl j hj (fun k hk tk => ?_)
    by_cases e : k < c.rn
    · exact ((TT_bit _ _).mp (((hb j).mp z).2 k e ((sub k).mpr tk))).2
    · exact XW_hi h2 hk (by omega) ((XW_cn h2).mp (hX.2.2.1 j hj).1).2
/-- what is known of the faces, in whole numbers -/
def FACES (d : DC) (c : MC) : Prop := (∀ r, r < c.rn → d.tn r = TT (XW c.wf c.rn) (wr c.yf) r c.yn) ∧ LG (gdm (xn c.rn c.zs) (XW c.wf c.rn) c.yn (wr c.yf)) d.fn d.mk ∧ (∀ m, gdm (xn c.rn c.zs) (XW c.wf c.rn) c.yn (wr c.yf) m → ∃ i, i < d.fn ∧ d.mk i = m) ∧ (∀ i, i < d.fn → d.dk i = (lst d.yf (d.mk i) c.yn).1) ∧ d.mk 0 = 2 ^ c.yn - 1
theorem fA_0 {T : Nat → Nat} : ∀ (r : Nat) (p : Nat × (Nat → Nat)), 0 < p.1 → 0 < (fA T r p).1 ∧ (fA T r p).2 0 = p.2 0
  | 0, _, h => ⟨h, rfl⟩
  | r + 1, p, h => by
    obtain ⟨a, b⟩ := fA_0 (T := T) r p h
    have inc0 : ∀ (c : Nat) (t : Nat → Nat) (m : Nat), 0 < c → incF c t m 0 = t 0 := fun c t m hc => by
      by_cases e : incC c t m
      · rw [incF_y e]; unfold updN; rw [if_neg (by omega)]
      · rw [incF_n e]
    have fb : ∀ (tr k : Nat) (q : Nat × (Nat → Nat)), 0 < q.1 → 0 < (fB tr k q).1 ∧ (fB tr k q).2 0 = q.2 0 := by
      intro tr k
      induction k with
      | zero => intro q hq; exact ⟨hq, rfl⟩
      | succ k ih =>
        intro q hq
        obtain ⟨x, y⟩ := ih q hq
        rw [fB_s (n2 := (fB tr k q).1) (m2 := (fB tr k q).2) rfl]
        exact ⟨Nat.lt_of_lt_of_le x incN_ge, (inc0 _ _ _ x).trans y⟩
    obtain ⟨x, y⟩ := fb (T r) (fA T r p).1 (fA T r p) a
    exact ⟨x, y.trans b⟩
theorem desk_faces {d : DC} {c : MC} (hd : DI d) (hc : MJ c) (hs : SY d c) (h2 : 2 ≤ d.kn) (hk : c.kn = 1) (hz : c.zs ≤ c.rk) : FACES d c := by
  have hR := desk_rays hd hc hs (by omega) hk hz
  obtain ⟨e1, e2, e3, e4⟩ := rays_same hd hc hs (by omega) hk hz
  obtain ⟨mk0, dk0, tn0, cg0, f1, f2, f3⟩ := hd.k2 h2
  obtain ⟨s1, s2, s3⟩ := hs
  have ht : ∀ r, r < c.rn → d.tn r = TT (XW c.wf c.rn) (wr c.yf) r c.yn := fun r hr => by
    have := tto_TT (pf := d.pf) (cg := cg0) (tn := tn0) hc.r8 hc.ro (fun i hi => s3 i (by omega)) e2 c.yn (Nat.le_refl _) r hr
    rw [TT_congr (XW_lo hr), ← this]
    have f1' : tto d.pf c.rn d.yf (z8 tn0) cg0 c.yn = (d.tn, d.cg) := by rw [← s2, ← e1]; exact f1
    rw [f1']
  have H := hR.f40 hc
  have gal : gdm (xn c.rn c.zs) (XW c.wf c.rn) c.yn (wr c.yf) (2 ^ c.yn - 1) := ⟨fun j b => all_bit.mp b, fun j hj _ => all_bit.mpr hj⟩
  have hc0 : incC 0 mk0 (2 ^ d.yn - 1) := ⟨by decide, rfl⟩
  have hp : LG (gdm (xn c.rn c.zs) (XW c.wf c.rn) c.yn (wr c.yf)) (incN 0 mk0 (2 ^ d.yn - 1)) (incF 0 mk0 (2 ^ d.yn - 1)) := by
    rw [incN_y hc0, incF_y hc0, e1]
    exact LG.add ⟨fun i j _ hj => absurd hj (by omega), fun i hi => absurd hi (by omega)⟩ gal (fun k hk => absurd hk (by omega))
  have h0 : ∃ i, i < incN 0 mk0 (2 ^ d.yn - 1) ∧ incF 0 mk0 (2 ^ d.yn - 1) i = 2 ^ c.yn - 1 := by
    rw [incN_y hc0, incF_y hc0, e1]
    exact ⟨0, by decide, by unfold updN; rw [if_pos rfl]⟩
  obtain ⟨a, b⟩ := fA_has H (T := d.tn) (rn := c.rn) (al := 2 ^ c.yn - 1) (fun r hr m hm => by rw [ht r hr]; exact gdm_and hR hr hm) (p := (incN 0 mk0 (2 ^ d.yn - 1), incF 0 mk0 (2 ^ d.yn - 1))) hp h0 c.rn (Nat.le_refl _)
  have f2' : fA d.tn c.rn (incN 0 mk0 (2 ^ d.yn - 1), incF 0 mk0 (2 ^ d.yn - 1)) = (d.fn, d.mk) := by rw [← s2]; exact f2
  rw [f2'] at a b
  refine ⟨ht, a, fun m hm => ?_, fun i hi => by rw [← f3, fC_at d.fn i hi, e1], ?_⟩
  · obtain ⟨m0, x1, x2⟩ := mtR_ex (T := d.tn) (S := fun k => msub m (d.tn k)) (al := 2 ^ c.yn - 1) c.rn
    have : m0 = m := (gdm_mt hR hc.z2 hm.1 (fun j => by
      rw [x2 j]
      constructor
      · rintro ⟨y1, y2⟩
        exact ⟨y1, fun k hk s => by rw [← ht k hk]; exact y2 k hk (by rw [ht k hk]; exact s)⟩
      · rintro ⟨y1, y2⟩
        exact ⟨y1, fun k hk s => by rw [ht k hk]; exact y2 k hk (by rw [← ht k hk]; exact s)⟩)).mpr hm.2
    subst this
    exact b _ _ x1
  · have := (fA_0 (T := d.tn) c.rn (incN 0 mk0 (2 ^ d.yn - 1), incF 0 mk0 (2 ^ d.yn - 1)) (by show 0 < incN 0 mk0 (2 ^ d.yn - 1); rw [incN_y hc0]; decide)).2
    rw [f2'] at this
    rw [show d.mk 0 = incF 0 mk0 (2 ^ d.yn - 1) 0 from this, incF_y hc0, e1]
    unfold updN; rw [if_pos rfl]
-- counting
noncomputable def cntP (P : Nat → Prop) : Nat → Nat
  | 0 => 0
  | x + 1 => @ite _ (P x) (Classical.propDecidable _) (cntP P x + 1) (cntP P x)
theorem cntP_y {P : Nat → Prop} {x : Nat} (h : P x) : cntP P (x + 1) = cntP P x + 1 := @if_pos _ (Classical.propDecidable _) h _ _ _
theorem cntP_n {P : Nat → Prop} {x : Nat} (h : ¬ P x) : cntP P (x + 1) = cntP P x := @if_neg _ (Classical.propDecidable _) h _ _ _
theorem cntP_congr {P Q : Nat → Prop} : ∀ K, (∀ x, x < K → (P x ↔ Q x)) → cntP P K = cntP Q K
  | 0, _ => rfl
  | K + 1, h => by
    have ih := cntP_congr K (fun x hx => h x (by omega))
    by_cases e : P K
    · rw [cntP_y e, cntP_y ((h K (by omega)).mp e), ih]
    · rw [cntP_n e, cntP_n (fun z => e ((h K (by omega)).mpr z)), ih]
theorem cntP_none {P : Nat → Prop} : ∀ K, (∀ x, x < K → ¬ P x) → cntP P K = 0
  | 0, _ => rfl
  | K + 1, h => by rw [cntP_n (h K (by omega))]; exact cntP_none K (fun x hx => h x (by omega))
theorem cntP_or {P Q : Nat → Prop} {a : Nat} (ha : ¬ Q a) : ∀ K, cntP (fun x => P x ∧ (Q x ∨ x = a)) K = cntP (fun x => P x ∧ Q x) K + cntP (fun x => P x ∧ x = a) K
  | 0 => rfl
  | K + 1 => by
    have ih := cntP_or (P := P) ha K
    by_cases p : P K
    · by_cases e : K = a
      · rw [cntP_y (P := fun x => P x ∧ (Q x ∨ x = a)) ⟨p, Or.inr e⟩, cntP_n (P := fun x => P x ∧ Q x) (fun z => ha (by rw [← e]; exact z.2)), cntP_y (P := fun x => P x ∧ x = a) ⟨p, e⟩, ih]; omega
      · by_cases q : Q K
        · rw [cntP_y (P := fun x => P x ∧ (Q x ∨ x = a)) ⟨p, Or.inl q⟩, cntP_y (P := fun x => P x ∧ Q x) ⟨p, q⟩, cntP_n (P := fun x => P x ∧ x = a) (fun z => e z.2), ih]; omega
        · rw [cntP_n (P := fun x => P x ∧ (Q x ∨ x = a)) (fun z => z.2.elim q e), cntP_n (P := fun x => P x ∧ Q x) (fun z => q z.2), cntP_n (P := fun x => P x ∧ x = a) (fun z => e z.2), ih]
    · rw [cntP_n (P := fun x => P x ∧ (Q x ∨ x = a)) (fun z => p z.1), cntP_n (P := fun x => P x ∧ Q x) (fun z => p z.1), cntP_n (P := fun x => P x ∧ x = a) (fun z => p z.1), ih]
theorem cntP_one {P : Nat → Prop} {a : Nat} : ∀ K, a < K → (P a → cntP (fun x => P x ∧ x = a) K = 1) ∧ (¬ P a → cntP (fun x => P x ∧ x = a) K = 0)
  | 0, h => absurd h (by omega)
  | K + 1, h => by
    refine ⟨fun p => ?_, fun p => cntP_none _ (fun x _ z => p (by rw [← z.2]; exact z.1))⟩
    by_cases e : K = a
    · rw [cntP_y (P := fun x => P x ∧ x = a) ⟨by rw [e]; exact p, e⟩, cntP_none K (fun x hx z => by omega)]
    · rw [cntP_n (P := fun x => P x ∧ x = a) (fun z => e z.2)]
      exact (cntP_one K (by omega)).1 p
theorem cnt_bij {P : Nat → Prop} {K : Nat} {t : Nat → Nat} : ∀ n, (∀ i, i < n → t i < K) → (∀ i j, i < j → j < n → ¬ t i = t j) → cntP (fun i => P (t i)) n = cntP (fun x => P x ∧ ∃ i, i < n ∧ t i = x) K
  | 0, _, _ => by rw [cntP_none K (fun x _ ⟨_, i, hi, _⟩ => absurd hi (by omega))]; rfl
  | n + 1, h1, h2 => by
    have ih := cnt_bij (P := P) n (fun i hi => h1 i (by omega)) (fun i j a b => h2 i j a (by omega))
    have e : cntP (fun x => P x ∧ ∃ i, i < n + 1 ∧ t i = x) K = cntP (fun x => P x ∧ ((∃ i, i < n ∧ t i = x) ∨ x = t n)) K := cntP_congr K (fun x _ => by
      constructor
      · rintro ⟨p, i, hi, hx⟩
        by_cases z : i = n
        · subst z; exact ⟨p, Or.inr hx.symm⟩
        · exact ⟨p, Or.inl ⟨i, by omega, hx⟩⟩
      · rintro ⟨p, ⟨i, hi, hx⟩ | z⟩
        · exact ⟨p, i, by omega, hx⟩
        · exact ⟨p, n, by omega, z.symm⟩)
    rw [e, cntP_or (fun ⟨i, hi, hx⟩ => h2 i n hi (by omega) hx), ← ih]
    obtain ⟨o1, o2⟩ := cntP_one (P := P) K (h1 n (by omega))
    by_cases p : P (t n)
    · rw [cntP_y (P := fun i => P (t i)) p, o1 p]
    · rw [cntP_n (P := fun i => P (t i)) p, o2 p]; rfl
theorem cof_cnt {dk : Nat → Nat} {d : Int32} : ∀ n, cof dk d n = cntP (fun i => nI (dk i) = d) n
  | 0 => rfl
  | n + 1 => by
    by_cases e : nI (dk n) = d
    · rw [cof_y e, cntP_y (P := fun i => nI (dk i) = d) e, cof_cnt n]
    · rw [cof_n e, cntP_n (P := fun i => nI (dk i) = d) e, cof_cnt n]
theorem RF_holds : RFE := by
  intro d c hd hc hs h2 hk hz w v q0 q1 hf
  have hR := desk_rays hd hc hs (by omega) hk hz
  obtain ⟨ht, hL, hA, hD, -⟩ := desk_faces hd hc hs h2 hk hz
  obtain ⟨e1, e2, e3, e4⟩ := rays_same hd hc hs (by omega) hk hz
  obtain ⟨-, h12, hb, -, -⟩ := hR
  obtain ⟨-, -, h3⟩ := hc.k1 hk
  obtain ⟨-, ⟨tf0, htf⟩, -⟩ := h3 hz
  have tfe : ∀ r, r < c.rn → c.tf r = nI (TT (XW c.wf c.rn) (wr c.yf) r c.yn) := fun r hr => by
    rw [← htf, tmo_TT hc.ro (by omega) c.rn (Nat.le_refl _) r hr, TT_congr (XW_lo hr)]
  have hpw : 2 ^ c.yn ≤ 2 ^ 12 := Nat.pow_le_pow_right (by decide) h12
  have isf : ∀ x, x < 2 ^ c.yn → (isfP c.tf c.rn c.yn (nI x) ↔ gdm (xn c.rn c.zs) (XW c.wf c.rn) c.yn (wr c.yf) x) := fun x hx => by
    obtain ⟨m0, x1, x2⟩ := mtR_ex (T := fun k => TT (XW c.wf c.rn) (wr c.yf) k c.yn) (S := fun k => msub x (TT (XW c.wf c.rn) (wr c.yf) k c.yn)) (al := 2 ^ c.yn - 1) c.rn
    have i1 := ism_mt (tf := c.tf) (al := 2 ^ c.yn - 1) (show x < 2 ^ 31 by omega) tfe c.rn m0 (Nat.le_refl _) x1
    unfold isfP
    rw [allx_nI (by omega), i1]
    have m0b : m0 < 2 ^ c.yn := bits_lt (fun j z => all_bit.mp ((x2 j).mp z).1)
    have g := gdm_mt ⟨desk_CX hc hk hz e3 e4, h12, hb, fun m => lst_Rk (pf := d.yf) e2 hb, (desk_rays hd hc hs (by omega) hk hz).2.2.2.2⟩ hc.z2 (lt_bits hx) x2
    constructor
    · intro z; exact ⟨lt_bits hx, g.mp (nI_inj (by omega) (by omega) z)⟩
    · intro z; rw [g.mpr z.2]
  have key : ∀ X, X ≤ 2 ^ c.yn → (fcs c.yf c.tf c.rn c.yn w X (0, q0)).1 = cntP (fun x => nI (lst d.yf x c.yn).1 = w ∧ ∃ i, i < d.fn ∧ d.mk i = x) X := by
    intro X
    induction X with
    | zero => intro _; rfl
    | succ X ih =>
      intro hX
      have ih := ih (by omega)
      have gi : gdm (xn c.rn c.zs) (XW c.wf c.rn) c.yn (wr c.yf) X ↔ ∃ i, i < d.fn ∧ d.mk i = X := ⟨fun g => hA X g, fun ⟨i, hi, e⟩ => by rw [← e]; exact hL.2 i hi⟩
      by_cases e : isfP c.tf c.rn c.yn (nI X)
      · have dm := dmo_lst (yf := c.yf) (yf' := d.yf) (yn := c.yn) (m := X) (q := (fcs c.yf c.tf c.rn c.yn w X (0, q0)).2) (by omega) (by omega) e2 (fun k hk i hi => hb k hk i hi)
        rw [fcs_y (n := (fcs c.yf c.tf c.rn c.yn w X (0, q0)).1) (q := (fcs c.yf c.tf c.rn c.yn w X (0, q0)).2) (v := (dmo c.yf c.yn (nI X) (fcs c.yf c.tf c.rn c.yn w X (0, q0)).2).1) (q2 := (dmo c.yf c.yn (nI X) (fcs c.yf c.tf c.rn c.yn w X (0, q0)).2).2) rfl e rfl]
        show (if _ then _ else _) = _
        rw [← dm]
        have g := gi.mp ((isf X (by omega)).mp e)
        by_cases z : nI (lst d.yf X c.yn).1 = w
        · rw [if_pos z, cntP_y (P := fun x => nI (lst d.yf x c.yn).1 = w ∧ ∃ i, i < d.fn ∧ d.mk i = x) ⟨z, g⟩, ih]
        · rw [if_neg z, cntP_n (P := fun x => nI (lst d.yf x c.yn).1 = w ∧ ∃ i, i < d.fn ∧ d.mk i = x) (fun q => z q.1), ih]
      · rw [fcs_n rfl e, cntP_n (P := fun x => nI (lst d.yf x c.yn).1 = w ∧ ∃ i, i < d.fn ∧ d.mk i = x) (fun q => e ((isf X (by omega)).mpr (gi.mpr q.2))), ih]
  have eX : ((1 : Int32) <<< (nI c.yn &&& 31)).toNatClampNeg = 2 ^ c.yn := by
    rw [nI_shl (by omega)]
    show (nI (2 ^ c.yn)).toInt.toNat = _
    rw [nI_toInt (by omega)]; rfl
  rw [eX] at hf
  have hv := key (2 ^ c.yn) (Nat.le_refl _)
  rw [hf] at hv
  rw [cof_cnt]
  have hv : v = cntP (fun x => nI (lst d.yf x c.yn).1 = w ∧ ∃ i, i < d.fn ∧ d.mk i = x) (2 ^ c.yn) := hv
  rw [hv, ← cnt_bij (P := fun x => nI (lst d.yf x c.yn).1 = w) (K := 2 ^ c.yn) (t := d.mk) d.fn (fun i hi => bits_lt (hL.2 i hi).1) hL.1]
  exact cntP_congr d.fn (fun i hi => by rw [hD i hi])
theorem RB_holds : RBE := by
  intro d c hd hc hs h2 hk hz k v q0 q1 hkc hv
  have hR := desk_rays hd hc hs (by omega) hk hz
  obtain ⟨ht, hL, hA, hD, -⟩ := desk_faces hd hc hs h2 hk hz
  obtain ⟨e1, e2, e3, e4⟩ := rays_same hd hc hs (by omega) hk hz
  obtain ⟨hX, h12, hb, -, -⟩ := hR
  obtain ⟨-, -, h3⟩ := hc.k1 hk
  obtain ⟨-, ⟨tf0, htf⟩, -⟩ := h3 hz
  have hkr : k < c.rn := by rw [← hs.2.1]; exact hkc
  have tfe : ∀ r, r < c.rn → c.tf r = nI (d.tn r) := fun r hr => by
    rw [← htf, tmo_TT hc.ro (by omega) c.rn (Nat.le_refl _) r hr, ht r hr, TT_congr (XW_lo hr)]
  have tl := hd.tn
  have teq : ∀ r, r < k → (d.tn r = d.tn k ↔ c.tf r = c.tf k) := fun r hr => by
    rw [tfe r (by omega), tfe k hkr]
    have l1 := tl r
    have l2 := tl k
    exact ⟨fun z => by rw [z], fun z => nI_inj (by omega) (by omega) z⟩
  have gk : gdm (xn c.rn c.zs) (XW c.wf c.rn) c.yn (wr c.yf) (d.tn k) := by
    have gal : gdm (xn c.rn c.zs) (XW c.wf c.rn) c.yn (wr c.yf) (2 ^ c.yn - 1) := ⟨fun j b => all_bit.mp b, fun j hj _ => all_bit.mpr hj⟩
    have := gdm_and (desk_rays hd hc hs (by omega) hk hz) hkr gal
    rw [ht k hkr]
    have e : (2 ^ c.yn - 1) &&& TT (XW c.wf c.rn) (wr c.yf) k c.yn = TT (XW c.wf c.rn) (wr c.yf) k c.yn := by
      rw [Nat.and_comm]
      exact msub_and.mpr (fun j b => all_bit.mpr ((TT_bit _ _).mp b).1)
    rw [e] at this; exact this
  obtain ⟨i, hi, hmi⟩ := hA _ gk
  have hidx : idx d.mk (d.tn k) d.fn < d.fn ∧ d.mk (idx d.mk (d.tn k) d.fn) = d.tn k := idx_hit d.fn (fun z => idx_none d.fn z i hi hmi)
  have l2 := tl k
  have dm := dmo_lst (yf := c.yf) (yf' := d.yf) (yn := c.yn) (m := d.tn k) (q := q0) (by omega) (by omega) e2 (fun k hk i hi => hb k hk i hi)
  rw [← tfe k hkr, hv] at dm
  obtain ⟨-, -, esp⟩ := RY_holds d c hd hc hs (by omega) hk hz
  have da : dAt d k = nI v := by
    unfold dAt
    rw [if_pos hidx.1, hD _ hidx.1, hidx.2]
    exact congrArg nI dm
  unfold bndP
  rw [da, esp]
  constructor
  · rintro ⟨a, b⟩
    exact ⟨b, fun r hr z => a r hr ((teq r hr).mpr z)⟩
  · rintro ⟨a, b⟩
    exact ⟨fun r hr z => b r hr ((teq r hr).mp z), a⟩
