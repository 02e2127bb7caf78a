/-! ===== own rows: class and reference, 26 ===== -/
-- the faces of both
theorem andn0 (a b : Int32) : a &&& (b ^^^ (-1 : Int32)) = 0 ↔ a &&& b = a := by
  rw [← Int32.toBitVec_inj, ← Int32.toBitVec_inj]
  simp only [Int32.toBitVec_and, Int32.toBitVec_xor]
  rw [show (-1 : Int32).toBitVec = BitVec.allOnes 32 by decide, show (0 : Int32).toBitVec = 0#32 by decide]
  have key : ∀ x y : Bool, (x && (y ^^ true)) = false ↔ (x && y) = x := by decide
  constructor
  · intro h
    apply BitVec.eq_of_getLsbD_eq
    intro i hi
    have := congrArg (fun v => v.getLsbD i) h
    simp only [BitVec.getLsbD_and, BitVec.getLsbD_xor, BitVec.getLsbD_allOnes, BitVec.getLsbD_zero, decide_eq_true hi] at this ⊢
    exact (key _ _).mp this
  · intro h
    apply BitVec.eq_of_getLsbD_eq
    intro i hi
    have := congrArg (fun v => v.getLsbD i) h
    simp only [BitVec.getLsbD_and, BitVec.getLsbD_xor, BitVec.getLsbD_allOnes, BitVec.getLsbD_zero, decide_eq_true hi] at this ⊢
    exact (key _ _).mpr this
theorem msub_and {x t : Nat} : x &&& t = x ↔ msub x t := by
  constructor
  · intro h j b
    rw [← h, Nat.testBit_and, Bool.and_eq_true] at b
    exact b.2
  · intro h
    refine Nat.eq_of_testBit_eq (fun j => ?_)
    rw [Nat.testBit_and]
    rcases Bool.eq_false_or_eq_true (x.testBit j) with e | e
    · rw [e, h j e]; rfl
    · rw [e]; rfl
theorem sub_nI {x t : Nat} (hx : x < 2 ^ 31) : nI x &&& (nI t ^^^ (-1 : Int32)) = 0 ↔ msub x t := by
  rw [andn0, nI_and, ← msub_and]
  have : x &&& t < 2 ^ 31 := Nat.lt_of_le_of_lt Nat.and_le_left hx
  exact ⟨fun h => nI_inj this hx h, fun h => by rw [h]⟩
/-- the rays at which a row is tight -/
def TT (W : Nat → Nat → Int) (V : Nat → Nat → Int) (r : Nat) : Nat → Nat
  | 0 => 0
  | k + 1 => if dot4 (W r) (V k) = 0 then TT W V r k ||| 2 ^ k else TT W V r k
theorem bit_or {m v j : Nat} : (m ||| 2 ^ v).testBit j = true ↔ m.testBit j = true ∨ j = v := by
  rw [Nat.testBit_or, Bool.or_eq_true, Nat.testBit_two_pow]
  constructor
  · rintro (q | q)
    · exact Or.inl q
    · right; exact (of_decide_eq_true q).symm
  · rintro (q | q)
    · exact Or.inl q
    · right; simp [q]
theorem TT_bit {W V : Nat → Nat → Int} {r : Nat} : ∀ k j, (TT W V r k).testBit j = true ↔ j < k ∧ dot4 (W r) (V j) = 0
  | 0, j => by show Nat.testBit 0 j = true ↔ _; rw [Nat.zero_testBit]; constructor; intro h; cases h; intro h; omega
  | k + 1, j => by
    show (if dot4 (W r) (V k) = 0 then TT W V r k ||| 2 ^ k else TT W V r k).testBit j = true ↔ _
    have ih := TT_bit (W := W) (V := V) (r := r) k j
    by_cases e : dot4 (W r) (V k) = 0
    · rw [if_pos e, bit_or, ih]
      constructor
      · rintro (z | z)
        · exact ⟨by omega, z.2⟩
        · rw [z]; exact ⟨by omega, e⟩
      · rintro ⟨z1, z2⟩
        by_cases q : j = k
        · exact Or.inr q
        · exact Or.inl ⟨by omega, z2⟩
    · rw [if_neg e, ih]
      constructor
      · rintro ⟨z1, z2⟩; exact ⟨by omega, z2⟩
      · rintro ⟨z1, z2⟩
        refine ⟨?_, z2⟩
        have : ¬ j = k := fun q => e (by rw [← q]; exact z2)
        omega
theorem TT_lt {W V : Nat → Nat → Int} {r : Nat} : ∀ k, TT W V r k < 2 ^ k
  | 0 => by show 0 < 1; decide
  | k + 1 => by
    have ih := TT_lt (W := W) (V := V) (r := r) k
    show (if dot4 (W r) (V k) = 0 then TT W V r k ||| 2 ^ k else TT W V r k) < _
    have h1 : TT W V r k < 2 ^ (k + 1) := Nat.lt_of_lt_of_le ih (Nat.pow_le_pow_right (by decide) (by omega))
    split
    · exact Nat.or_lt_two_pow h1 (Nat.pow_lt_pow_right (by decide) (by omega))
    · exact h1
theorem prm_zero {wf h : Nat → Int32} {rn zs r a : Nat} (hr : rowsOK wf rn zs) (h1 : r < rn) : prm wf r h a = 0 ↔ dot4 (wr wf r) (fun i => (h (a + i)).toInt) = 0 := by
  rw [i64_zero, prm_int (fun i hi => ⟨(hr r i h1 hi).1, (hr r i h1 hi).2.1⟩)]
  exact Iff.rfl
-- the class's
theorem tin_at {pf g : Nat → Int32} {q : Nat} {t : Nat → Nat} : ∀ r k, tin pf g q r t k = if k < r ∧ pr4 pf k g = 0 then t k ||| 2 ^ q else t k
  | 0, k => by rw [if_neg (by omega)]; rfl
  | r + 1, k => by
    have ih := tin_at (pf := pf) (g := g) (q := q) (t := t) r
    by_cases e : pr4 pf r g = 0
    · rw [tin_y rfl e]
      unfold updN
      by_cases z : k = r
      · subst z
        rw [if_pos rfl, if_pos ⟨by omega, e⟩, ih k, if_neg (by omega)]
      · rw [if_neg z, ih k]
        by_cases w : k < r ∧ pr4 pf k g = 0
        · rw [if_pos w, if_pos ⟨by omega, w.2⟩]
        · rw [if_neg w, if_neg (fun q => w ⟨by omega, q.2⟩)]
    · rw [tin_n rfl e, ih k]
      by_cases w : k < r ∧ pr4 pf k g = 0
      · rw [if_pos w, if_pos ⟨by omega, w.2⟩]
      · rw [if_neg w, if_neg (fun q => w ⟨by
          have : ¬ k = r := fun z => e (by rw [← z]; exact q.2)
          omega, q.2⟩)]
theorem tto_TT {pf wf yf yf' cg : Nat → Int32} {rn zs yn : Nat} {tn : Nat → Nat} (hr8 : rn ≤ 8) (hr : rowsOK wf rn zs) (hs : ∀ i, i < 4 * rn → pf i = wf i) (hy : ∀ i, i < 4 * yn → yf' i = yf i) : ∀ k, k ≤ yn → ∀ r, r < rn → (tto pf rn yf' (z8 tn) cg k).1 r = TT (wr wf) (wr yf) r k
  | 0, _, r, h => by
    show z8 tn r = 0
    unfold z8 updN
    rcases (show r = 0 ∨ r = 1 ∨ r = 2 ∨ r = 3 ∨ r = 4 ∨ r = 5 ∨ r = 6 ∨ r = 7 by omega) with rfl | rfl | rfl | rfl | rfl | rfl | rfl | rfl <;> rfl
  | k + 1, hk, r, h => by
    have ih := tto_TT (cg := cg) (tn := tn) hr8 hr hs hy k (by omega) r h
    show tin pf (va_cpy yf' (tto pf rn yf' (z8 tn) cg k).2 (k * 4) 0 4) k rn (tto pf rn yf' (z8 tn) cg k).1 r = if dot4 (wr wf r) (wr yf k) = 0 then TT (wr wf) (wr yf) r k ||| 2 ^ k else TT (wr wf) (wr yf) r k
    rw [tin_at, ih, pr_same (h := fun i => yf (4 * k + i)) hs h (fun i hi => by
      rw [cpy_at, if_pos (by omega), show k * 4 + (i - 0) = 4 * k + i by omega]; exact hy _ (by omega))]
    have e := prm_zero (h := fun i => yf (4 * k + i)) (a := 0) hr h
    have e2 : dot4 (wr wf r) (fun i => (yf (4 * k + (0 + i))).toInt) = dot4 (wr wf r) (wr yf k) := by
      unfold wr; simp only [Nat.zero_add]
    rw [e2] at e
    by_cases z : dot4 (wr wf r) (wr yf k) = 0
    · rw [if_pos z, if_pos ⟨h, e.mpr z⟩]
    · rw [if_neg z, if_neg (fun q => z (e.mp q.2))]
-- the reference's
theorem tm1_at {wf yf : Nat → Int32} {rn zs r : Nat} (hr : rowsOK wf rn zs) (h1 : r < rn) : ∀ (k : Nat) (f : Nat → Int32), k ≤ 30 → f r = 0 → tm1 wf yf r k f r = nI (TT (wr wf) (wr yf) r k) ∧ ∀ j, ¬ j = r → tm1 wf yf r k f j = f j
  | 0, f, _, h => ⟨by show f r = nI 0; rw [h]; rfl, fun _ _ => rfl⟩
  | k + 1, f, hk, h => by
    obtain ⟨a, b⟩ := tm1_at (yf := yf) hr h1 k f (by omega) h
    have e := prm_zero (h := yf) (a := 4 * k) hr h1
    have e : prm wf r yf (4 * k) = 0 ↔ dot4 (wr wf r) (wr yf k) = 0 := e
    by_cases z : dot4 (wr wf r) (wr yf k) = 0
    · rw [tm1_y rfl (e.mpr z)]
      refine ⟨?_, fun j hj => ?_⟩
      · rw [show upd (tm1 wf yf r k f) r (tm1 wf yf r k f r ||| (1 : Int32) <<< (nI k &&& 31)) r = tm1 wf yf r k f r ||| (1 : Int32) <<< (nI k &&& 31) by unfold upd; rw [if_pos rfl], a, nI_shl (by omega), nI_or]
        show _ = nI (if dot4 (wr wf r) (wr yf k) = 0 then _ else _)
        rw [if_pos z]
      · rw [show upd (tm1 wf yf r k f) r (tm1 wf yf r k f r ||| (1 : Int32) <<< (nI k &&& 31)) j = tm1 wf yf r k f j by unfold upd; rw [if_neg hj]]
        exact b j hj
    · rw [tm1_n rfl (fun q => z (e.mp q))]
      refine ⟨?_, fun j hj => ?_⟩
      · rw [show upd (tm1 wf yf r k f) r (tm1 wf yf r k f r) r = tm1 wf yf r k f r by unfold upd; rw [if_pos rfl], a]
        show _ = nI (if dot4 (wr wf r) (wr yf k) = 0 then _ else _)
        rw [if_neg z]
      · rw [show upd (tm1 wf yf r k f) r (tm1 wf yf r k f r) j = tm1 wf yf r k f j by unfold upd; rw [if_neg hj]]
        exact b j hj
theorem tmo_TT {wf yf tf0 : Nat → Int32} {rn zs yn : Nat} (hr : rowsOK wf rn zs) (hy : yn ≤ 30) : ∀ k, k ≤ rn → ∀ r, r < k → tmo wf yf yn k tf0 r = nI (TT (wr wf) (wr yf) r yn)
  | 0, _, r, h => absurd h (by omega)
  | k + 1, hk, r, h => by
    show tm1 wf yf k yn (upd (tmo wf yf yn k tf0) k 0) r = _
    obtain ⟨a, b⟩ := tm1_at (yf := yf) hr (show k < rn by omega) yn (upd (tmo wf yf yn k tf0) k 0) hy (by unfold upd; rw [if_pos rfl])
    by_cases e : r = k
    · rw [e]; exact a
    · rw [b r e, show upd (tmo wf yf yn k tf0) k 0 r = tmo wf yf yn k tf0 r by unfold upd; rw [if_neg e]]
      exact tmo_TT hr hy k (by omega) r (by omega)
/-- what the reference holds against a set -/
def mtR (T : Nat → Nat) (S : Nat → Prop) (al : Nat) : Nat → Nat → Prop
  | 0, m => m = al
  | r + 1, m => ∃ m', mtR T S al r m' ∧ ((S r ∧ m = m' &&& T r) ∨ (¬ S r ∧ m = m'))
theorem mtR_ex {T : Nat → Nat} {S : Nat → Prop} {al : Nat} : ∀ r, ∃ m, mtR T S al r m ∧ ∀ j, m.testBit j = true ↔ al.testBit j = true ∧ ∀ k, k < r → S k → (T k).testBit j = true
  | 0 => ⟨al, rfl, fun j => ⟨fun h => ⟨h, fun k hk => absurd hk (by omega)⟩, fun h => h.1⟩⟩
  | r + 1 => by
    obtain ⟨m, h1, h2⟩ := mtR_ex (T := T) (S := S) (al := al) r
    by_cases s : S r
    · refine ⟨m &&& T r, ⟨m, h1, Or.inl ⟨s, rfl⟩⟩, fun j => ?_⟩
      rw [Nat.testBit_and, Bool.and_eq_true, h2 j]
      constructor
      · rintro ⟨⟨a, b⟩, c⟩
        refine ⟨a, fun k hk sk => ?_⟩
        by_cases e : k = r
        · rw [e]; exact c
        · exact b k (by omega) sk
      · rintro ⟨a, b⟩
        exact ⟨⟨a, fun k hk sk => b k (by omega) sk⟩, b r (by omega) s⟩
    · refine ⟨m, ⟨m, h1, Or.inr ⟨s, rfl⟩⟩, fun j => ?_⟩
      rw [h2 j]
      constructor
      · rintro ⟨a, b⟩
        refine ⟨a, fun k hk sk => ?_⟩
        by_cases e : k = r
        · exact absurd (by rw [← e]; exact sk) s
        · exact b k (by omega) sk
      · rintro ⟨a, b⟩
        exact ⟨a, fun k hk sk => b k (by omega) sk⟩
theorem ism_mt {tf : Nat → Int32} {T : Nat → Nat} {x al rn : Nat} (hx : x < 2 ^ 31) (ht : ∀ r, r < rn → tf r = nI (T r)) : ∀ r m, r ≤ rn → mtR T (fun k => msub x (T k)) al r m → ism tf (nI x) (nI al) r = nI m
  | 0, m, _, h => by rw [show m = al from h]; rfl
  | r + 1, m, hr, ⟨m', h1, h2⟩ => by
    have ih := ism_mt (al := al) hx ht r m' (by omega) h1
    rcases h2 with ⟨s, e⟩ | ⟨s, e⟩
    · rw [ism_y ih (by rw [ht r (by omega)]; exact (sub_nI hx).mpr s), ht r (by omega), nI_and, e]
    · rw [ism_n ih (fun z => by rw [ht r (by omega)] at z; exact s ((sub_nI hx).mp z)), e]
-- the class's list
theorem idx_none {t : Nat → Nat} {m : Nat} : ∀ n, idx t m n = n → ∀ k, k < n → ¬ t k = m := fun n h k hk e => by
  have : ∃ z, z < n ∧ t z = m ∧ ∀ q, q < z → ¬ t q = m := by
    have : ∀ k, t k = m → ∃ z, z ≤ k ∧ t z = m ∧ ∀ q, q < z → ¬ t q = m := by
      intro k
      induction k using Nat.strongRecOn with
      | _ k ih =>
        intro hk
        by_cases c : ∃ q, q < k ∧ t q = m
        · obtain ⟨q, h1, h2⟩ := c
          obtain ⟨z, z1, z2, z3⟩ := ih q h1 h2
          exact ⟨z, by omega, z2, z3⟩
        · exact ⟨k, Nat.le_refl k, hk, fun q hq z => c ⟨q, hq, z⟩⟩
    obtain ⟨z, z1, z2, z3⟩ := this k e
    exact ⟨z, by omega, z2, z3⟩
  obtain ⟨z, z1, z2, z3⟩ := this
  rw [idx_at z3 z2 n z1] at h
  omega
theorem idx_hit {t : Nat → Nat} {m : Nat} : ∀ n, ¬ idx t m n = n → idx t m n < n ∧ t (idx t m n) = m
  | 0, h => absurd rfl h
  | n + 1, h => by
    have hl := idx_le t m n
    have e : idx t m (n + 1) = if idx t m n < n then idx t m n else if t n = m then n else n + 1 := rfl
    rw [e] at h ⊢
    by_cases c : idx t m n < n
    · rw [if_pos c]
      obtain ⟨a, b⟩ := idx_hit (t := t) (m := m) n (by omega)
      exact ⟨by omega, b⟩
    · rw [if_neg c] at h ⊢
      by_cases c2 : t n = m
      · rw [if_pos c2]; exact ⟨by omega, c2⟩
      · rw [if_neg c2] at h; exact absurd rfl h
/-- different good masks -/
def LG (good : Nat → Prop) (n : Nat) (t : Nat → Nat) : Prop := (∀ i j, i < j → j < n → ¬ t i = t j) ∧ ∀ i, i < n → good (t i)
theorem LG.add {good : Nat → Prop} {n : Nat} {t : Nat → Nat} {m : Nat} (h : LG good n t) (hm : good m) (hn : ∀ k, k < n → ¬ t k = m) : LG good (n + 1) (updN t n m) := by
  obtain ⟨a, b⟩ := h
  refine ⟨fun i j hij hj => ?_, fun i hi => ?_⟩
  · show ¬ (if i = n then m else t i) = (if j = n then m else t j)
    by_cases e : j = n
    · rw [if_neg (by omega), if_pos e]; exact hn i (by omega)
    · rw [if_neg (by omega), if_neg e]; exact a i j hij (by omega)
  · show good (if i = n then m else t i)
    by_cases e : i = n
    · rw [if_pos e]; exact hm
    · rw [if_neg e]; exact b i (by omega)
theorem inc_has {good : Nat → Prop} (H : ∀ n t, LG good n t → n ≤ 40) {c m : Nat} {t : Nat → Nat} (h : LG good c t) (hm : good m) : LG good (incN c t m) (incF c t m) ∧ c ≤ incN c t m ∧ (∀ i, i < c → incF c t m i = t i) ∧ ∃ i, i < incN c t m ∧ incF c t m i = m := by
  by_cases e : incC c t m
  · rw [incN_y e, incF_y e]
    refine ⟨h.add hm (idx_none c e.2), by omega, fun i hi => by unfold updN; rw [if_neg (by omega)], c, by omega, by unfold updN; rw [if_pos rfl]⟩
  · rw [incN_n e, incF_n e]
    refine ⟨h, Nat.le_refl c, fun _ _ => rfl, ?_⟩
    by_cases z : idx t m c = c
    · exfalso
      have := H _ _ (h.add hm (idx_none c z))
      exact e ⟨by omega, z⟩
    · obtain ⟨a, b⟩ := idx_hit c z
      exact ⟨_, a, b⟩
theorem fB_has {good : Nat → Prop} (H : ∀ n t, LG good n t → n ≤ 40) {tr : Nat} (hg : ∀ m, good m → good (m &&& tr)) {p : Nat × (Nat → Nat)} (h : LG good p.1 p.2) : ∀ k, k ≤ p.1 → LG good (fB tr k p).1 (fB tr k p).2 ∧ p.1 ≤ (fB tr k p).1 ∧ (∀ i, i < p.1 → (fB tr k p).2 i = p.2 i) ∧ ∀ i, i < k → ∃ j, j < (fB tr k p).1 ∧ (fB tr k p).2 j = p.2 i &&& tr
  | 0, _ => ⟨h, Nat.le_refl _, fun _ _ => rfl, fun i hi => absurd hi (by omega)⟩
  | k + 1, hk => by
    obtain ⟨a, b, c, d⟩ := fB_has H hg h k (by omega)
    rw [fB_s (n2 := (fB tr k p).1) (m2 := (fB tr k p).2) rfl]
    obtain ⟨a', b', c', d'⟩ := inc_has H a (hg _ (a.2 k (by omega)))
    refine ⟨a', by show p.1 ≤ incN _ _ _; omega, fun i hi => (c' i (by omega)).trans (c i hi), fun i hi => ?_⟩
    by_cases e : i = k
    · subst e
      obtain ⟨j, j1, j2⟩ := d'
      exact ⟨j, j1, by rw [← c i (by omega)]; exact j2⟩
    · obtain ⟨j, j1, j2⟩ := d i (by omega)
      exact ⟨j, Nat.lt_of_lt_of_le j1 b', (c' j j1).trans j2⟩
theorem fA_has {good : Nat → Prop} (H : ∀ n t, LG good n t → n ≤ 40) {T : Nat → Nat} {rn al : Nat} (hg : ∀ r, r < rn → ∀ m, good m → good (m &&& T r)) {p : Nat × (Nat → Nat)} (h : LG good p.1 p.2) (h0 : ∃ i, i < p.1 ∧ p.2 i = al) : ∀ r, r ≤ rn → LG good (fA T r p).1 (fA T r p).2 ∧ ∀ (S : Nat → Prop) (m : Nat), mtR T S al r m → ∃ i, i < (fA T r p).1 ∧ (fA T r p).2 i = m
  | 0, _ => ⟨h, fun S m hm => by rw [show m = al from hm]; exact h0⟩
  | r + 1, hr => by
    obtain ⟨a, b⟩ := fA_has H hg h h0 r (by omega)
    obtain ⟨a', b', c', d'⟩ := fB_has H (hg r (by omega)) (p := fA T r p) a (fA T r p).1 (Nat.le_refl _)
    refine ⟨a', fun S m ⟨m', h1, h2⟩ => ?_⟩
    obtain ⟨i, i1, i2⟩ := b S m' h1
    rcases h2 with ⟨s, e⟩ | ⟨s, e⟩
    · obtain ⟨j, j1, j2⟩ := d' i i1
      exact ⟨j, j1, by rw [e, ← i2]; exact j2⟩
    · exact ⟨i, Nat.lt_of_lt_of_le i1 b', by rw [e]; exact (c' i i1).trans i2⟩
theorem fC_at {yf : Nat → Int32} {yn : Nat} {m d : Nat → Nat} : ∀ f k, k < f → fC yf yn m f d k = (lst yf (m k) yn).1
  | 0, k, h => absurd h (by omega)
  | f + 1, k, h => by
    rw [fC_s rfl]
    unfold updN
    by_cases e : k = f
    · subst e; rw [if_pos rfl]
    · rw [if_neg e]; exact fC_at f k (by omega)
