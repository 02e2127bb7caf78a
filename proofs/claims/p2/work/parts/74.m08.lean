/-! ===== own rows: mathematics of the reference, 08 ===== -/
-- swapping rows
def swA (A : Nat → Nat → Int) (p c : Nat) : Nat → Nat → Int := fun k i => if k = c then A p i else if k = p then A c i else A k i
theorem sw_Sc {c p k i : Nat} {A : Nat → Nat → Int} (hc : c < 4) (hp : c ≤ p) (hk : c ≤ k) : Sc c (swA A p c) k i = Sc c A (if k = c then p else if k = p then c else k) i := by
  rcases (show c = 0 ∨ c = 1 ∨ c = 2 ∨ c = 3 by omega) with rfl | rfl | rfl | rfl
  · show swA A p 0 k i = A _ i
    unfold swA
    split
    · rfl
    · split <;> rfl
  · show S1 (swA A p 1) k i = S1 A _ i
    have e0 : ∀ j, swA A p 1 0 j = A 0 j := fun j => by unfold swA; rw [if_neg (by omega), if_neg (by omega)]
    unfold S1
    rw [e0, e0]
    unfold swA
    split
    · rfl
    · split <;> rfl
  · show S2 (swA A p 2) k i = S2 A _ i
    have e0 : ∀ j, swA A p 2 0 j = A 0 j := fun j => by unfold swA; rw [if_neg (by omega), if_neg (by omega)]
    have e1 : ∀ j, swA A p 2 1 j = A 1 j := fun j => by unfold swA; rw [if_neg (by omega), if_neg (by omega)]
    unfold S2
    rw [e0, e0, e0, e1, e1, e1]
    unfold swA
    split
    · rfl
    · split <;> rfl
  · show S3 (swA A p 3) k i = S3 A _ i
    have e0 : ∀ j, swA A p 3 0 j = A 0 j := fun j => by unfold swA; rw [if_neg (by omega), if_neg (by omega)]
    have e1 : ∀ j, swA A p 3 1 j = A 1 j := fun j => by unfold swA; rw [if_neg (by omega), if_neg (by omega)]
    have e2 : ∀ j, swA A p 3 2 j = A 2 j := fun j => by unfold swA; rw [if_neg (by omega), if_neg (by omega)]
    unfold S3 T3
    simp only [e0, e1, e2]
    unfold swA
    split
    · rfl
    · split <;> rfl
theorem sw_prv {c p j : Nat} {A : Nat → Nat → Int} (hc : c < 4) (hp : c ≤ p) (hj : j ≤ c) : prv j (swA A p c) = prv j A := by
  have e : ∀ r, r < c → ∀ i, swA A p c r i = A r i := fun r hr i => by unfold swA; rw [if_neg (by omega), if_neg (by omega)]
  rcases (show j = 0 ∨ j = 1 ∨ j = 2 ∨ j = 3 by omega) with rfl | rfl | rfl | rfl
  · rfl
  · exact e 0 (by omega) 0
  · show S1 _ 1 1 = S1 _ 1 1
    unfold S1
    simp only [e 0 (by omega), e 1 (by omega)]
  · show S2 _ 2 2 = S2 _ 2 2
    unfold S2
    simp only [e 0 (by omega), e 1 (by omega), e 2 (by omega)]
/-- the determinant of the first n rows and columns -/
def dtn (n : Nat) (A : Nat → Nat → Int) : Int := prv n A
theorem sw_dtn {n c p : Nat} {A : Nat → Nat → Int} (hn : n ≤ 4) (hp : c < p) (hpn : p < n) : dtn n (swA A p c) = -dtn n A := by
  rcases (show (n = 2 ∧ c = 0 ∧ p = 1) ∨ (n = 3 ∧ c = 0 ∧ p = 1) ∨ (n = 3 ∧ c = 0 ∧ p = 2) ∨ (n = 3 ∧ c = 1 ∧ p = 2) ∨ (n = 4 ∧ c = 0 ∧ p = 1) ∨ (n = 4 ∧ c = 0 ∧ p = 2) ∨ (n = 4 ∧ c = 0 ∧ p = 3) ∨ (n = 4 ∧ c = 1 ∧ p = 2) ∨ (n = 4 ∧ c = 1 ∧ p = 3) ∨ (n = 4 ∧ c = 2 ∧ p = 3) by omega) with ⟨rfl, rfl, rfl⟩ | ⟨rfl, rfl, rfl⟩ | ⟨rfl, rfl, rfl⟩ | ⟨rfl, rfl, rfl⟩ | ⟨rfl, rfl, rfl⟩ | ⟨rfl, rfl, rfl⟩ | ⟨rfl, rfl, rfl⟩ | ⟨rfl, rfl, rfl⟩ | ⟨rfl, rfl, rfl⟩ | ⟨rfl, rfl, rfl⟩
  all_goals simp only [dtn, prv, S1, S2, S3, T3, swA]
  all_goals simp
  all_goals grind
theorem col_zero {n c : Nat} {A : Nat → Nat → Int} (hn : n ≤ 4) (hc : c < n) (hz : ∀ k, c ≤ k → k < n → Sc c A k c = 0) (hp : ∀ j, 1 ≤ j → j ≤ c → ¬ prv j A = 0) : dtn n A = 0 := by
  rcases (show (n = 1 ∧ c = 0) ∨ (n = 2 ∧ c = 0) ∨ (n = 2 ∧ c = 1) ∨ (n = 3 ∧ c = 0) ∨ (n = 3 ∧ c = 1) ∨ (n = 3 ∧ c = 2) ∨ (n = 4 ∧ c = 0) ∨ (n = 4 ∧ c = 1) ∨ (n = 4 ∧ c = 2) ∨ (n = 4 ∧ c = 3) by omega) with ⟨rfl, rfl⟩ | ⟨rfl, rfl⟩ | ⟨rfl, rfl⟩ | ⟨rfl, rfl⟩ | ⟨rfl, rfl⟩ | ⟨rfl, rfl⟩ | ⟨rfl, rfl⟩ | ⟨rfl, rfl⟩ | ⟨rfl, rfl⟩ | ⟨rfl, rfl⟩
  · exact hz 0 (by decide) (by decide)
  · have a : A 0 0 = 0 := hz 0 (by decide) (by decide)
    have b : A 1 0 = 0 := hz 1 (by decide) (by decide)
    show S1 A 1 1 = 0
    unfold S1; rw [a, b]; simp
  · exact hz 1 (by decide) (by decide)
  · have a : A 0 0 = 0 := hz 0 (by decide) (by decide)
    have b : A 1 0 = 0 := hz 1 (by decide) (by decide)
    have d : A 2 0 = 0 := hz 2 (by decide) (by decide)
    show S2 A 2 2 = 0
    unfold S2; rw [a, b, d]; simp
  · have a : S1 A 1 1 = 0 := hz 1 (by decide) (by decide)
    have b : S1 A 2 1 = 0 := hz 2 (by decide) (by decide)
    have h := S2_id A 2 2
    rw [a, b, Int.mul_zero, Int.mul_zero, Int.sub_self] at h
    exact (Int.mul_eq_zero.mp h).resolve_right (hp 1 (by decide) (by decide))
  · exact hz 2 (by decide) (by decide)
  · have a : A 0 0 = 0 := hz 0 (by decide) (by decide)
    have b : A 1 0 = 0 := hz 1 (by decide) (by decide)
    have d : A 2 0 = 0 := hz 2 (by decide) (by decide)
    have e : A 3 0 = 0 := hz 3 (by decide) (by decide)
    show S3 A 3 3 = 0
    unfold S3 T3; rw [a, b, d, e]; simp
  · have a : S1 A 1 1 = 0 := hz 1 (by decide) (by decide)
    have b : S1 A 2 1 = 0 := hz 2 (by decide) (by decide)
    have d : S1 A 3 1 = 0 := hz 3 (by decide) (by decide)
    have h : S3 A 3 3 * A 0 0 * A 0 0 = S1 A 1 1 * (S1 A 2 2 * S1 A 3 3 - S1 A 2 3 * S1 A 3 2) - S1 A 2 1 * (S1 A 1 2 * S1 A 3 3 - S1 A 1 3 * S1 A 3 2) + S1 A 3 1 * (S1 A 1 2 * S1 A 2 3 - S1 A 1 3 * S1 A 2 2) := by
      unfold S3 S1 T3; grind
    rw [a, b, d, Int.zero_mul, Int.zero_mul, Int.zero_mul] at h
    have h0 := hp 1 (by decide) (by decide)
    have h1 : S3 A 3 3 * A 0 0 * A 0 0 = 0 := by omega
    have h2 := (Int.mul_eq_zero.mp h1).resolve_right h0
    exact (Int.mul_eq_zero.mp h2).resolve_right h0
  · have a : S2 A 2 2 = 0 := hz 2 (by decide) (by decide)
    have b : S2 A 3 2 = 0 := hz 3 (by decide) (by decide)
    have h := S3_id A 3 3
    rw [a, b, Int.mul_zero, Int.mul_zero, Int.sub_self] at h
    exact (Int.mul_eq_zero.mp h).resolve_right (hp 2 (by decide) (by decide))
  · exact hz 3 (by decide) (by decide)
theorem pv2_zero {f : Nat → Int64} {n c : Nat} : ∀ (m p : Nat), p + m = n → pv2 f n c m p = n → ∀ q, p ≤ q → q < n → f (n * q + c) = 0
  | 0, p, h, _, q, h1, h2 => absurd h2 (by omega)
  | m + 1, p, h, h0, q, h1, h2 => by
    by_cases e : f (n * p + c) = 0
    · have e1 : pv2 f n c (m + 1) p = pv2 f n c m (p + 1) := by show (if f (n * p + c) = 0 then _ else _) = _; rw [if_pos e]
      rw [e1] at h0
      by_cases z : q = p
      · subst z; exact e
      · exact pv2_zero m (p + 1) (by omega) h0 q (by omega) h2
    · have e1 : pv2 f n c (m + 1) p = p := by show (if f (n * p + c) = 0 then _ else _) = _; rw [if_neg e]
      omega
theorem sw2_val {n p c : Nat} {f : Nat → Int64} (hcp : c < p) : ∀ (i : Nat), i ≤ n → ∀ q, q < i → sw2 n p c i f (n * c + q) = f (n * p + q) ∧ sw2 n p c i f (n * p + q) = f (n * c + q)
  | 0, _, q, hq => absurd hq (Nat.not_lt_zero q)
  | i + 1, hi, q, hq => by
    have hm : n * (c + 1) ≤ n * p := Nat.mul_le_mul (Nat.le_refl n) hcp
    rw [Nat.mul_succ] at hm
    have e1 : sw2 n p c i f (n * p + i) = f (n * p + i) := sw2_o i f (fun z hz => by omega)
    have e2 : sw2 n p c i f (n * c + i) = f (n * c + i) := sw2_o i f (fun z hz => by omega)
    show vp_updL (vp_updL (sw2 n p c i f) (n * p + i) (sw2 n p c i f (n * c + i))) (n * c + i) (sw2 n p c i f (n * p + i)) (n * c + q) = _ ∧ vp_updL (vp_updL (sw2 n p c i f) (n * p + i) (sw2 n p c i f (n * c + i))) (n * c + i) (sw2 n p c i f (n * p + i)) (n * p + q) = _
    rw [e1, e2]
    by_cases e : q = i
    · subst e
      refine ⟨updL_eq, ?_⟩
      rw [updL_ne (by omega), updL_eq]
    · obtain ⟨a, b⟩ := sw2_val (n := n) (f := f) hcp i (by omega) q (by omega)
      rw [updL_ne (by omega), updL_ne (by omega), updL_ne (by omega), updL_ne (by omega)]
      exact ⟨a, b⟩
theorem Rep.swap {n c p : Nat} {f : Nat → Int64} {A : Nat → Nat → Int} (hn : n ≤ 4) (hcp : c < p) (hpn : p < n) (h : Rep n c f A) : Rep n c (sw2 n p c n f) (swA A p c) := by
  intro k i h1 h2 h3 h4
  rw [sw_Sc (by omega) (by omega) h1]
  by_cases e1 : k = c
  · subst e1
    rw [if_pos rfl, (sw2_val hcp n (Nat.le_refl n) i h4).1]
    exact h p i (by omega) hpn h3 h4
  · rw [if_neg e1]
    by_cases e2 : k = p
    · subst e2
      rw [if_pos rfl, (sw2_val hcp n (Nat.le_refl n) i h4).2]
      exact h c i (Nat.le_refl c) (by omega) h3 h4
    · rw [if_neg e2]
      have q : ∀ a b : Nat, a < b → n * a + n ≤ n * b := fun a b hab => by have := Nat.mul_le_mul (Nat.le_refl n) (show a + 1 ≤ b from hab); rw [Nat.mul_succ] at this; exact this
      rw [sw2_o n f (fun z hz => by
        refine ⟨fun w => ?_, fun w => ?_⟩
        · rcases Nat.lt_or_gt_of_ne e2 with l | l
          · have := q k p l; omega
          · have := q p k l; omega
        · rcases Nat.lt_or_gt_of_ne e1 with l | l
          · have := q k c l; omega
          · have := q c k l; omega)]
      exact h k i h1 h2 h3 h4
theorem wth_exact {n : Nat} (hn : n ≤ 4) : ∀ (m c : Nat) (f : Nat → Int64) (bf : Int64) (sg : Int32) (A : Nat → Nat → Int), c + m = n → Rep n c f A → (∀ k i, k < 4 → i < 4 → (A k i).natAbs ≤ 750) → bf.toInt = prv c A → (∀ j, 1 ≤ j → j ≤ c → ¬ prv j A = 0) → (sg = 1 ∨ sg = -1) → (wth n m c f bf sg).1.toInt = sg.toInt * dtn n A
  | 0, c, f, bf, sg, A, hm, _, hA, hb, _, hs => by
    show (sg.toInt64 * bf).toInt = _
    have e : c = n := by omega
    subst e
    have h1 : sg.toInt64.toInt.natAbs ≤ 1 := by rcases hs with rfl | rfl <;> decide
    have h2 : bf.toInt.natAbs ≤ 7593750000000 := by
      rw [hb]
      rcases (show c = 0 ∨ c = 1 ∨ c = 2 ∨ c = 3 ∨ c = 4 by omega) with rfl | rfl | rfl | rfl | rfl
      · show (1 : Int).natAbs ≤ 7593750000000
        decide
      · exact Nat.le_trans (Sc_le (c := 0) hA (k := 0) (i := 0) (by decide) (by decide)) (by decide)
      · exact Nat.le_trans (Sc_le (c := 1) hA (k := 1) (i := 1) (by decide) (by decide)) (by decide)
      · exact Nat.le_trans (Sc_le (c := 2) hA (k := 2) (i := 2) (by decide) (by decide)) (by decide)
      · exact Sc_le (c := 3) hA (k := 3) (i := 3) (by decide) (by decide)
    rw [(mul64 h1 h2 (by decide)).1, i32_64, hb]; rfl
  | m + 1, c, f, bf, sg, A, hm, hR, hA, hb, hp, hs => by
    have hb0 : ¬ bf = 0 := by
      intro z
      rw [z, show (0 : Int64).toInt = 0 by decide] at hb
      by_cases e : c = 0
      · subst e
        exact absurd hb (by show ¬ (0 : Int) = 1; decide)
      · exact hp c (by omega) (Nat.le_refl c) hb.symm
    have e0 : wth n (m + 1) c f bf sg = if pv2 f n c (n - c) c = n then (0, f) else if pv2 f n c (n - c) c = c then wth n m (c + 1) (brk n c bf (n - (c + 1)) f) (brk n c bf (n - (c + 1)) f (n * c + c)) sg else wth n m (c + 1) (brk n c bf (n - (c + 1)) (sw2 n (pv2 f n c (n - c) c) c n f)) (brk n c bf (n - (c + 1)) (sw2 n (pv2 f n c (n - c) c) c n f) (n * c + c)) (-sg) := rfl
    rw [e0]
    -- one step, with the pivot in its place
    have step : ∀ (g : Nat → Int64) (B : Nat → Nat → Int) (s2 : Int32), Rep n c g B → (∀ k i, k < 4 → i < 4 → (B k i).natAbs ≤ 750) → bf.toInt = prv c B → (∀ j, 1 ≤ j → j ≤ c → ¬ prv j B = 0) → ¬ g (n * c + c) = 0 → (s2 = 1 ∨ s2 = -1) → (wth n m (c + 1) (brk n c bf (n - (c + 1)) g) (brk n c bf (n - (c + 1)) g (n * c + c)) s2).1.toInt = s2.toInt * dtn n B := by
      intro g B s2 hg hB hbB hpB hnz hs2
      have hk : brk n c bf (n - (c + 1)) g (n * c + c) = g (n * c + c) := brk_o (by rw [Nat.mul_succ]; omega) _ _
      have hpv : (g (n * c + c)).toInt = prv (c + 1) B := by rw [prv_s (by omega), hg c c (Nat.le_refl c) (by omega) (Nat.le_refl c) (by omega)]
      refine wth_exact hn m (c + 1) _ _ s2 B (by omega) ?_ hB (by rw [hk]; exact hpv) (fun j j1 j2 => ?_) hs2
      · by_cases e : c + 1 < n
        · exact hg.step hn e hB hbB hb0
        · intro k i h1 h2; omega
      · by_cases e : j = c + 1
        · subst e
          rw [← hpv]
          exact fun z => hnz (i64_zero.mpr z)
        · exact hpB j j1 (by omega)
    rcases pv2_spec (f := f) (n := n) (c := c) (n - c) c (by omega) with a | ⟨a, b, d⟩
    · rw [if_pos a]
      show (0 : Int64).toInt = _
      rw [col_zero hn (by omega) (fun k h1 h2 => by rw [← hR k c h1 h2 (Nat.le_refl c) (by omega), pv2_zero (n - c) c (by omega) a k h1 h2]; rfl) hp, Int.mul_zero]
      rfl
    · rw [if_neg (by omega)]
      by_cases e : pv2 f n c (n - c) c = c
      · rw [if_pos e]
        exact step f A sg hR hA hb hp (by rw [e] at d; exact d) hs
      · rw [if_neg e]
        have hns : -sg = 1 ∨ -sg = -1 := by rcases hs with rfl | rfl <;> decide
        generalize pv2 f n c (n - c) c = p at *
        have hcp : c < p := by omega
        have hswA : ∀ k i, k < 4 → i < 4 → (swA A p c k i).natAbs ≤ 750 := by
          intro k i hk hi
          unfold swA
          split
          · exact hA p i (by omega) hi
          · split
            · exact hA c i (by omega) hi
            · exact hA k i hk hi
        rw [step (sw2 n p c n f) (swA A p c) (-sg) (hR.swap hn hcp b) hswA (by rw [sw_prv (by omega) (by omega) (Nat.le_refl c)]; exact hb) (fun j j1 j2 => by rw [sw_prv (by omega) (by omega) j2]; exact hp j j1 j2) (by rw [(sw2_val hcp n (Nat.le_refl n) c (by omega)).1]; exact d) hns]
        rw [sw_dtn hn hcp b]
        rcases hs with rfl | rfl
        · rw [show (-(1 : Int32)).toInt = -1 by decide, show (1 : Int32).toInt = 1 by decide]; omega
        · rw [show (-(-1 : Int32)).toInt = 1 by decide, show (-1 : Int32).toInt = -1 by decide]; omega
