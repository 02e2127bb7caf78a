/-! ===== own rows: class and reference, 23 ===== -/
-- at most nine simplices: places, and the count
theorem Rk.notall {N m k R S : Nat} {V : Nat → Nat → Int} (hm : Rk N V m R) (hk : Rk N V k S) (hN : ∀ j, k.testBit j = true → j < N) (hRS : R < S) : ∃ j, j < N ∧ k.testBit j = true ∧ ¬ m.testBit j = true := Classical.byContradiction (fun z => by
  have := hk.mono (fun j b => Classical.byContradiction (fun w => z ⟨j, hN j b, b, w⟩)) hm
  omega)
theorem TP.ex {n N al : Nat} {W V : Nat → Nat → Int} {T : Nat → Nat} (h : CX n W N V) (hT : ∀ r, r < n → ∀ j, j < N → ((T r).testBit j = true ↔ dot4 (W r) (V j) = 0)) (hTN : ∀ r, r < n → ∀ j, (T r).testBit j = true → j < N) (hd : ∀ r, r < n → ∃ R, Rk N V (T r) R) (ha : ∀ j, j < N → al.testBit j = true) (hal : ∀ j, al.testBit j = true → j < N) (hsp : Rk N V al 4) {F P : Nat → Int} (hs : SWP N V F P) {B E a : Nat} (cB : Cl n W N V B) (bB : ∀ j, B.testBit j = true → j < N) (rB : Rk N V B 3) (fa : fst1 B a) (cE : Cl n W N V E) (bE : ∀ j, E.testBit j = true → j < N) (rE : Rk N V E 2) (sE : msub E B) (aE : ¬ E.testBit a = true) : ∃ s, s < 2 * (N - 2) ∧ TP n W N V F P s B E := by
  obtain ⟨r, hr, hx⟩ := Cl.side (dm := fun _ => 0) hT hTN hd ha bB cB rB hsp
  obtain ⟨b, c, hb, hc, bc, eb, ec, ho⟩ := rE.two h
  have bits : ∀ j, E.testBit j = true ↔ j = b ∨ j = c := fun j => ⟨fun z => ho j (bE j z) z, fun z => by rcases z with z | z <;> rw [z]; exact eb; exact ec⟩
  have nr : nz4 (W r) := Classical.byContradiction (fun z => by
    obtain ⟨j, hj, -, nb⟩ := rB.notall hsp hal (by decide)
    exact nb ((hx j hj).mpr (dot4_zl (nz4_not z))))
  have han := bB a fa.1
  have ab : ¬ a = b := fun z => aE (by rw [z]; exact eb)
  have ac : ¬ a = c := fun z => aE (by rw [z]; exact ec)
  obtain ⟨s, w, p, q, hs1, ts, pm⟩ := TS.mid (W := W) (r := r) hs han hb hc ab ac (by omega) ((hx a han).mp fa.1) ((hx b hb).mp (sE b eb)) ((hx c hc).mp (sE c ec))
  refine ⟨s, hs1, r, a, w, p, q, hr, nr, fun j => ⟨fun z => ⟨bB j z, (hx j (bB j z)).mp z⟩, fun z => (hx j z.1).mpr z.2⟩, fa, cE, aE, ts, ?_⟩
  rcases pm with ⟨w1, z | z⟩ | ⟨w1, z | z⟩ | ⟨w1, z | z⟩
  · exact Or.inl ⟨w1, fun j => by rw [bits j, z.1, z.2]⟩
  · exact Or.inl ⟨w1, fun j => by rw [bits j, z.1, z.2]; exact Or.comm⟩
  · exact Or.inr ⟨by omega, c, by omega, by omega, fun j => by rw [bits j, w1], Or.inl z⟩
  · exact Or.inr ⟨by omega, c, by omega, by omega, fun j => by rw [bits j, w1], Or.inr z⟩
  · exact Or.inr ⟨by omega, b, by omega, by omega, fun j => by rw [bits j, w1]; exact Or.comm, Or.inl z⟩
  · exact Or.inr ⟨by omega, b, by omega, by omega, fun j => by rw [bits j, w1]; exact Or.comm, Or.inr z⟩
/-- places of the sides at ray 0 -/
def XS (n : Nat) (W : Nat → Nat → Int) (N : Nat) (V : Nat → Nat → Int) (F P : Nat → Int) (s : Nat) : Prop := ∃ r w p q, r < n ∧ nz4 (W r) ∧ dot4 (W r) (V 0) = 0 ∧ TS W N V F P s r w p q
theorem XS.not {n N al : Nat} {W V : Nat → Nat → Int} (h : CX n W N V) (hm : Rk N V al 4) {F P : Nat → Int} {s B E : Nat} (x : XS n W N V F P s) (t : TP n W N V F P s B E) (hN : 0 < N) : B.testBit 0 = true := by
  obtain ⟨r, w, p, q, hr, nr, r0, ts⟩ := x
  obtain ⟨r', a, w', p', q', hr', nr', bB, -, -, -, ts', -⟩ := t
  obtain ⟨-, ⟨A, B0, hA, hB, e⟩, -⟩ := TS.same h hm hr hr' nr nr' ts ts'
  refine (bB 0).mpr ⟨hN, ?_⟩
  have : A * dot4 (W r') (V 0) = B0 * dot4 (W r) (V 0) := by
    have e0 := e 0 (by decide); have e1 := e 1 (by decide); have e2 := e 2 (by decide); have e3 := e 3 (by decide)
    unfold dot4; grind
  rw [r0, Int.mul_zero] at this
  exact (Int.mul_eq_zero.mp this).resolve_left (by omega)
theorem three {n N al : Nat} {W V : Nat → Nat → Int} {T : Nat → Nat} (h : CX n W N V) (hrk : ∀ m, (∀ j, Nat.testBit m j = true → j < N) → ∃ R, Rk N V m R) (hT : ∀ r, r < n → ∀ j, j < N → ((T r).testBit j = true ↔ dot4 (W r) (V j) = 0)) (hTN : ∀ r, r < n → ∀ j, (T r).testBit j = true → j < N) (ha : ∀ j, j < N → al.testBit j = true) (hal : ∀ j, al.testBit j = true → j < N) (hsp : Rk N V al 4) {F P : Nat → Int} (hs : SWP N V F P) : ∃ x y z, x < 2 * (N - 2) ∧ y < 2 * (N - 2) ∧ z < 2 * (N - 2) ∧ ¬ x = y ∧ ¬ x = z ∧ ¬ y = z ∧ XS n W N V F P x ∧ XS n W N V F P y ∧ XS n W N V F P z := by
  have hd : ∀ r, r < n → ∃ R, Rk N V (T r) R := fun r hr => hrk (T r) (hTN r hr)
  have cal : Cl n W N V al := fun j hj _ => ha j hj
  -- the ray 0 as a face
  have hN : 0 < N := by
    refine Classical.byContradiction (fun z => ?_)
    have := hsp.none (fun j hj => absurd hj (by omega))
    omega
  obtain ⟨O, bO, cO⟩ := face_of (n := n) (N := N) (W := W) (V := V) (V 0)
  have bO2 : ∀ j, O.testBit j = true → j < N := fun j b => ((bO j).mp b).1
  have oO : ∀ j, O.testBit j = true → j = 0 := fun j b => (h.ext hN (bO2 j b) ((bO j).mp b).2).symm
  have O0 : O.testBit 0 = true := (bO 0).mpr ⟨hN, fun _ _ z => z⟩
  obtain ⟨Ro, rO⟩ := hrk O bO2
  have lO : Ro ≤ 1 := rO.single (u := 0) (fun j _ b => oO j b)
  -- a side at a face H without v
  have grow : ∀ (G g H v : Nat), Cl n W N V G → (∀ j, G.testBit j = true → j < N) → Rk N V G g → G.testBit v = true → Cl n W N V H → (∀ j, H.testBit j = true → j < N) → msub H G → ¬ H.testBit v = true → ∃ K, Cl n W N V K ∧ (∀ j, K.testBit j = true → j < N) ∧ Rk N V K (g - 1) ∧ msub H K ∧ msub K G ∧ ¬ K.testBit v = true := by
    intro G g H v cG bG rG vG cH bH sH vH
    obtain ⟨R, rH⟩ := hrk H bH
    have := Rk.mono sH rH rG
    exact h.fac hrk cG bG rG vG (g - R) H R (by omega) cH bH rH sH vH
  have sal : ∀ m, (∀ j, Nat.testBit m j = true → j < N) → msub m al := fun m bm j b => ha j (bm j b)
  obtain ⟨u, hu, -, uO⟩ := rO.notall hsp hal (by omega)
  obtain ⟨B1, c1, b1, r1, s1, -, n1⟩ := grow al 4 O u cal hal hsp (ha u hu) cO bO2 (sal O bO2) uO
  obtain ⟨v, hv, vB, vO⟩ := rO.notall r1 b1 (by omega)
  obtain ⟨E1, cE, bE, rE, sE, tE, nE⟩ := grow B1 3 O v c1 b1 r1 vB cO bO2 s1 vO
  obtain ⟨B3, c3, b3, r3, s3, -, n3⟩ := grow al 4 E1 v cal hal hsp (ha v hv) cE bE (sal E1 bE) nE
  obtain ⟨y, hy, yE, yO⟩ := rO.notall rE bE (by omega)
  obtain ⟨B2, c2, b2, r2, s2, -, n2⟩ := grow al 4 O y cal hal hsp (ha y hy) cO bO2 (sal O bO2) yO
  -- the place of a side at ray 0
  have place : ∀ B, Cl n W N V B → (∀ j, B.testBit j = true → j < N) → Rk N V B 3 → B.testBit 0 = true → ∃ s r w p q, s < 2 * (N - 2) ∧ r < n ∧ nz4 (W r) ∧ (∀ j, j < N → (B.testBit j = true ↔ dot4 (W r) (V j) = 0)) ∧ TS W N V F P s r w p q := by
    intro B cB bB rB B0
    obtain ⟨r, hr, hx⟩ := Cl.side (dm := fun _ => 0) hT hTN hd ha bB cB rB hsp
    have nr : nz4 (W r) := Classical.byContradiction (fun z => by
      obtain ⟨j, hj, -, nb⟩ := rB.notall hsp hal (by decide)
      exact nb ((hx j hj).mpr (dot4_zl (nz4_not z))))
    -- two more rays
    obtain ⟨p, hp, pB, pO⟩ := rO.notall rB bB (by omega)
    have : ∃ q, q < N ∧ B.testBit q = true ∧ ¬ q = 0 ∧ ¬ q = p := Classical.byContradiction (fun z => by
      obtain ⟨t, a1, a2, -⟩ := rB
      have := a1.le (r := 2) (t := two (V 0) (V p)) (fun i hi => (a2 i hi).trans (fun j hj => by
        by_cases b : B.testBit j = true
        · rw [mV_y b]
          by_cases e : j = 0
          · subst e; exact Sp.mem (n := 2) (t := two (V 0) (V p)) (k := 0) (by decide)
          · have : j = p := Classical.byContradiction (fun q => z ⟨j, hj, b, e, q⟩)
            subst this; exact Sp.mem (n := 2) (t := two (V 0) (V j)) (k := 1) (by decide)
        · rw [mV_n b]; exact Sp.zero (fun _ _ => rfl)))
      omega)
    obtain ⟨q, hq, qB, q0, qp⟩ := this
    have p0 : ¬ p = 0 := fun z => pO (by rw [z]; exact O0)
    obtain ⟨s, w, p', q', hs1, ts, -⟩ := TS.mid (W := W) (r := r) hs hN hp hq (fun z => p0 z.symm) (fun z => q0 z.symm) (fun z => qp z.symm) ((hx 0 hN).mp B0) ((hx p hp).mp pB) ((hx q hq).mp qB)
    exact ⟨s, r, w, p', q', hs1, hr, nr, hx, ts⟩
  have diff : ∀ (B B' s r w p q r' w' p' q' j : Nat), r < n → nz4 (W r) → (∀ j, j < N → (B.testBit j = true ↔ dot4 (W r) (V j) = 0)) → TS W N V F P s r w p q → r' < n → nz4 (W r') → (∀ j, j < N → (B'.testBit j = true ↔ dot4 (W r') (V j) = 0)) → TS W N V F P s r' w' p' q' → j < N → B.testBit j = true → B'.testBit j = true := by
    intro B B' s r w p q r' w' p' q' j hr nr hx ts hr' nr' hx' ts' hj b
    obtain ⟨-, ⟨A, B0, hA, hB, e⟩, -⟩ := TS.same h hsp hr hr' nr nr' ts ts'
    refine (hx' j hj).mpr ?_
    have : A * dot4 (W r') (V j) = B0 * dot4 (W r) (V j) := by
      have e0 := e 0 (by decide); have e1 := e 1 (by decide); have e2 := e 2 (by decide); have e3 := e 3 (by decide)
      unfold dot4; grind
    rw [(hx j hj).mp b, Int.mul_zero] at this
    exact (Int.mul_eq_zero.mp this).resolve_left (by omega)
  have B1y := tE y yE
  have B3y := s3 y yE
  obtain ⟨x1, r1', w1, p1, q1, l1, hr1, nr1, hx1, t1⟩ := place B1 c1 b1 r1 (s1 0 O0)
  obtain ⟨x2, r2', w2, p2, q2, l2, hr2, nr2, hx2, t2⟩ := place B2 c2 b2 r2 (s2 0 O0)
  obtain ⟨x3, r3', w3, p3, q3, l3, hr3, nr3, hx3, t3⟩ := place B3 c3 b3 r3 (s3 0 (sE 0 O0))
  refine ⟨x1, x2, x3, l1, l2, l3, fun e => ?_, fun e => ?_, fun e => ?_, ⟨r1', w1, p1, q1, hr1, nr1, (hx1 0 hN).mp (s1 0 O0), t1⟩, ⟨r2', w2, p2, q2, hr2, nr2, (hx2 0 hN).mp (s2 0 O0), t2⟩, ⟨r3', w3, p3, q3, hr3, nr3, (hx3 0 hN).mp (s3 0 (sE 0 O0)), t3⟩⟩
  · subst e
    exact n2 (diff B1 B2 _ _ _ _ _ _ _ _ _ y hr1 nr1 hx1 t1 hr2 nr2 hx2 t2 hy B1y)
  · subst e
    exact n3 (diff B1 B3 _ _ _ _ _ _ _ _ _ v hr1 nr1 hx1 t1 hr3 nr3 hx3 t3 hv vB)
  · subst e
    exact n2 (diff B3 B2 _ _ _ _ _ _ _ _ _ y hr3 nr3 hx3 t3 hr2 nr2 hx2 t2 hy B3y)
theorem php1 {M K : Nat} {O : Nat → Nat → Prop} (own : ∀ s i j, i < M → j < M → O s i → O s j → i = j) (ex : ∀ i, i < M → ∃ s, s < K ∧ O s i) : M ≤ K := by
  refine Classical.byContradiction (fun hn => ?_)
  have hs : ∃ sl : Nat → Nat, ∀ j, j < M → sl j < K ∧ O (sl j) j := by
    refine ⟨fun j => if h : j < M then (ex j h).choose else 0, fun j h1 => ?_⟩
    simp only [dif_pos h1]
    exact (ex j h1).choose_spec
  obtain ⟨sl, hsl⟩ := hs
  obtain ⟨i, j, hij, hj, heq⟩ := php K sl (fun i hi => (hsl i (by omega)).1)
  have oi := (hsl i (by omega)).2
  have oj := (hsl j (by omega)).2
  rw [heq] at oi
  have := own _ _ _ (by omega) (by omega) oi oj
  omega
/-- a tree of cuts: how many -/
theorem tree {n sp bs : Nat} {pa rk : Nat → Nat} {K1 K2 : Nat → Nat → Prop} {x1 x2 x3 : Nat} (hsb : bs < sp) (hb2 : bs ≤ 2) (h0 : rk 0 = sp) (hpa : ∀ j, 0 < j → j < n → pa j < j ∧ rk j + 1 = rk (pa j)) (low : ∀ i j, 0 < i → 0 < j → i < n → j < n → pa i = pa j → rk i < bs → i = j)
    (e1 : ∀ j, 0 < j → j < n → bs < rk j → ∃ s, s < 8 ∧ K1 s j) (o1 : ∀ s i j, 0 < i → 0 < j → i < n → j < n → K1 s i → K1 s j → i = j) (e2 : ∀ j, 0 < j → j < n → rk j = bs → ∃ s, s < 12 ∧ K2 s j) (o2 : ∀ s i j, 0 < i → 0 < j → i < n → j < n → K2 s i → K2 s j → i = j)
    (l1 : x1 < 12) (l2 : x2 < 12) (l3 : x3 < 12) (d1 : ¬ x1 = x2) (d2 : ¬ x1 = x3) (d3 : ¬ x2 = x3) (nx : ∀ j s, 0 < j → j < n → K2 s j → ¬ s = x1 ∧ ¬ s = x2 ∧ ¬ s = x3) :
    n ≤ 36 ∧ ∀ (k : Nat) (z : Nat → Nat), (∀ i, i < k → z i < n ∧ rk (z i) = 0) → (∀ i j, i < k → j < k → z i = z j → i = j) → k ≤ 9 := by
  have anc : ∀ j, j < n → rk j < sp → 0 < j := fun j hj hr => by
    rcases Nat.eq_zero_or_pos j with e | e
    · subst e; omega
    · exact e
  -- what stands above
  have up : ∀ j, 0 < j → j < n → rk j < bs → 0 < pa j ∧ pa j < n ∧ rk (pa j) = rk j + 1 := fun j h1 h2 h3 => by
    obtain ⟨a, b⟩ := hpa j h1 h2
    exact ⟨anc _ (by omega) (by omega), by omega, b.symm⟩
  let KK : Nat → Nat → Prop := fun s j => (rk j = bs ∧ K2 s j) ∨ (rk j + 1 = bs ∧ K2 s (pa j)) ∨ (rk j + 2 = bs ∧ K2 s (pa (pa j)))
  have KKe : ∀ j, 0 < j → j < n → rk j ≤ bs → ∃ s, s < 12 ∧ KK s j := fun j h1 h2 h3 => by
    rcases (show rk j = bs ∨ rk j + 1 = bs ∨ rk j + 2 = bs by omega) with e | e | e
    · obtain ⟨s, a, b⟩ := e2 j h1 h2 e
      exact ⟨s, a, Or.inl ⟨e, b⟩⟩
    · obtain ⟨u1, u2, u3⟩ := up j h1 h2 (by omega)
      obtain ⟨s, a, b⟩ := e2 (pa j) u1 u2 (by omega)
      exact ⟨s, a, Or.inr (Or.inl ⟨e, b⟩)⟩
    · obtain ⟨u1, u2, u3⟩ := up j h1 h2 (by omega)
      obtain ⟨v1, v2, v3⟩ := up (pa j) u1 u2 (by omega)
      obtain ⟨s, a, b⟩ := e2 (pa (pa j)) v1 v2 (by omega)
      exact ⟨s, a, Or.inr (Or.inr ⟨e, b⟩)⟩
  have KKo : ∀ s i j, 0 < i → 0 < j → i < n → j < n → rk i = rk j → KK s i → KK s j → i = j := fun s i j h1 h2 h3 h4 hr a b => by
    rcases a with ⟨x, a⟩ | ⟨x, a⟩ | ⟨x, a⟩ <;> rcases b with ⟨y, b⟩ | ⟨y, b⟩ | ⟨y, b⟩ <;> first | omega | skip
    · exact o2 s i j h1 h2 h3 h4 a b
    · obtain ⟨u1, u2, u3⟩ := up i h1 h3 (by omega)
      obtain ⟨v1, v2, v3⟩ := up j h2 h4 (by omega)
      exact low i j h1 h2 h3 h4 (o2 s _ _ u1 v1 u2 v2 a b) (by omega)
    · obtain ⟨u1, u2, u3⟩ := up i h1 h3 (by omega)
      obtain ⟨v1, v2, v3⟩ := up j h2 h4 (by omega)
      obtain ⟨p1, p2, p3⟩ := up (pa i) u1 u2 (by omega)
      obtain ⟨q1, q2, q3⟩ := up (pa j) v1 v2 (by omega)
      exact low i j h1 h2 h3 h4 (low _ _ u1 v1 u2 v2 (o2 s _ _ p1 q1 p2 q2 a b) (by omega)) (by omega)
  have KKx : ∀ s j, 0 < j → j < n → KK s j → ¬ s = x1 ∧ ¬ s = x2 ∧ ¬ s = x3 := fun s j h1 h2 a => by
    rcases a with ⟨x, a⟩ | ⟨x, a⟩ | ⟨x, a⟩
    · exact nx j s h1 h2 a
    · obtain ⟨u1, u2, u3⟩ := up j h1 h2 (by omega)
      exact nx _ s u1 u2 a
    · obtain ⟨u1, u2, u3⟩ := up j h1 h2 (by omega)
      obtain ⟨v1, v2, v3⟩ := up (pa j) u1 u2 (by omega)
      exact nx _ s v1 v2 a
  let xs : Nat → Nat := fun e => if e = 0 then x1 else if e = 1 then x2 else x3
  have xsl : ∀ e, xs e < 12 := fun e => by
    show (if e = 0 then x1 else if e = 1 then x2 else x3) < 12
    split
    · exact l1
    · split
      · exact l2
      · exact l3
  have xsi : ∀ e f, e < 3 → f < 3 → xs e = xs f → e = f := fun e f he hf hx => by
    have hx : (if e = 0 then x1 else if e = 1 then x2 else x3) = (if f = 0 then x1 else if f = 1 then x2 else x3) := hx
    split at hx <;> split at hx <;> first | omega | (split at hx <;> first | omega | (split at hx <;> omega))
  have KKn : ∀ e s j, 0 < j → j < n → KK s j → ¬ s = xs e := fun e s j h1 h2 a => by
    obtain ⟨y1, y2, y3⟩ := KKx s j h1 h2 a
    show ¬ s = (if e = 0 then x1 else if e = 1 then x2 else x3)
    split
    · exact y1
    · split
      · exact y2
      · exact y3
  constructor
  · have := php1 (M := n + 9) (K := 45) (O := fun s i => (i < n ∧ ((s = 0 ∧ i = 0) ∨ (0 < i ∧ 1 ≤ s ∧ s < 9 ∧ bs < rk i ∧ K1 (s - 1) i) ∨ (0 < i ∧ rk i ≤ bs ∧ ∃ t, t < 12 ∧ s = 9 + 12 * (bs - rk i) + t ∧ KK t i))) ∨ (n ≤ i ∧ s = 9 + 12 * ((i - n) / 3) + xs ((i - n) % 3))) (by
      intro s i j hi hj a b
      rcases a with ⟨a0, a⟩ | ⟨a0, a⟩ <;> rcases b with ⟨b0, b⟩ | ⟨b0, b⟩
      · rcases a with ⟨a1, a2⟩ | ⟨a1, a2, a3, a4, a5⟩ | ⟨a1, a2, t, a3, a4, a5⟩ <;> rcases b with ⟨b1, b2⟩ | ⟨b1, b2, b3, b4, b5⟩ | ⟨b1, b2, u, b3, b4, b5⟩ <;> first | omega | skip
        · exact o1 _ i j a1 b1 a0 b0 a5 b5
        · have e : t = u := by omega
          subst e
          exact KKo t i j a1 b1 a0 b0 (by omega) a5 b5
      · exfalso
        have := xsl ((j - n) % 3)
        rcases a with ⟨a1, a2⟩ | ⟨a1, a2, a3, a4, a5⟩ | ⟨a1, a2, t, a3, a4, a5⟩
        · omega
        · omega
        · exact KKn ((j - n) % 3) t i a1 a0 a5 (by omega)
      · exfalso
        have := xsl ((i - n) % 3)
        rcases b with ⟨b1, b2⟩ | ⟨b1, b2, b3, b4, b5⟩ | ⟨b1, b2, u, b3, b4, b5⟩
        · omega
        · omega
        · exact KKn ((i - n) % 3) u j b1 b0 b5 (by omega)
      · have y1 := xsl ((i - n) % 3)
        have y2 := xsl ((j - n) % 3)
        have := xsi ((i - n) % 3) ((j - n) % 3) (by omega) (by omega) (by omega)
        omega) (by
      intro i hi
      by_cases h1 : i < n
      · by_cases hz : i = 0
        · exact ⟨0, by decide, Or.inl ⟨h1, Or.inl ⟨rfl, hz⟩⟩⟩
        · by_cases hr : bs < rk i
          · obtain ⟨s, a, b⟩ := e1 i (by omega) h1 hr
            exact ⟨s + 1, by omega, Or.inl ⟨h1, Or.inr (Or.inl ⟨by omega, by omega, by omega, hr, b⟩)⟩⟩
          · obtain ⟨s, a, b⟩ := KKe i (by omega) h1 (by omega)
            exact ⟨9 + 12 * (bs - rk i) + s, by omega, Or.inl ⟨h1, Or.inr (Or.inr ⟨by omega, by omega, s, a, rfl, b⟩)⟩⟩
      · have := xsl ((i - n) % 3)
        exact ⟨9 + 12 * ((i - n) / 3) + xs ((i - n) % 3), by omega, Or.inr ⟨by omega, rfl⟩⟩)
    omega
  · intro k z hz hinj
    have := php1 (M := k + 3) (K := 12) (O := fun s i => (i < k ∧ KK s (z i)) ∨ (k ≤ i ∧ s = xs (i - k))) (by
      intro s i j hi hj a b
      rcases a with ⟨a0, a⟩ | ⟨a0, a⟩ <;> rcases b with ⟨b0, b⟩ | ⟨b0, b⟩
      · obtain ⟨p1, p2⟩ := hz i a0
        obtain ⟨q1, q2⟩ := hz j b0
        exact hinj i j a0 b0 (KKo s _ _ (anc _ p1 (by omega)) (anc _ q1 (by omega)) p1 q1 (by omega) a b)
      · obtain ⟨p1, p2⟩ := hz i a0
        exact absurd b (KKn (j - k) s _ (anc _ p1 (by omega)) p1 a)
      · obtain ⟨q1, q2⟩ := hz j b0
        exact absurd a (KKn (i - k) s _ (anc _ q1 (by omega)) q1 b)
      · have := xsi (i - k) (j - k) (by omega) (by omega) (by omega)
        omega) (by
      intro i hi
      by_cases h1 : i < k
      · obtain ⟨p1, p2⟩ := hz i h1
        obtain ⟨s, a, b⟩ := KKe (z i) (anc _ p1 (by omega)) p1 (by omega)
        exact ⟨s, a, Or.inl ⟨h1, b⟩⟩
      · exact ⟨xs (i - k), xsl _, Or.inr ⟨by omega, rfl⟩⟩)
    omega
