/-! ===== own rows: class and reference, 07 ===== -/
-- both ranks are the same
theorem lst_rank {pf : Nat → Int32} {ch n C m S : Nat} {v : Nat → Nat → Int} (hC : C ≤ 750) (hb : ∀ q, q < n → ch.testBit q = true → ∀ i, i < 4 → (pf (q * 4 + i)).toInt.natAbs ≤ C) (h : RNK m v S)
    (h1 : ∀ i, i < m → ∃ q, q < n ∧ ch.testBit q = true ∧ ∀ z, z < 4 → v i z = rwI pf q z) (h2 : ∀ q, q < n → ch.testBit q = true → ∃ i, i < m ∧ ∀ z, z < 4 → rwI pf q z = v i z) : (lst pf ch n).1 = S := by
  obtain ⟨Jx, a1, a2, a3, a4, a5⟩ := LST.all hC n hb
  obtain ⟨t, b1, b2, b3⟩ := h
  have hI := mnI_ind (lst_le pf ch n) a4
  have l1 : (lst pf ch n).1 ≤ S := hI.le (fun i hi => by
    obtain ⟨j1, j2⟩ := a1 i hi
    obtain ⟨k, k1, k2⟩ := h2 (Jx i) j1 j2
    exact (b3 k k1).congr k2)
  have l2 : S ≤ (lst pf ch n).1 := b1.le (fun i hi => (b2 i hi).trans (fun k hk => by
    obtain ⟨q, q1, q2, q3⟩ := h1 k hk
    exact (a5 q q1 q2).congr q3))
  omega
theorem allbit {n q : Nat} (h : q < n) : (2 ^ n - 1).testBit q = true := by
  rw [Nat.testBit_two_pow_sub_one]; exact decide_eq_true h
theorem i3264 (x : Int32) : x.toInt64.toInt = x.toInt := i32_64 x
theorem RK_holds : RKE := by
  intro d c hd hc hs hk
  obtain ⟨⟨q0, hq⟩, -, -⟩ := hc.k1 hk
  have hro := hc.ro
  obtain ⟨s1, s2, s3⟩ := hs
  have e : ∀ k, k < c.rn → ∀ i, i < 4 → sqr c.wf (4 * c.rn) q0 (4 * k + i) = (c.wf (4 * k + i)).toInt64 := fun k hk i hi => by rw [sqr_at, if_pos (by omega)]
  have hb : ∀ k, k < c.rn → ∀ i, i < 4 → (sqr c.wf (4 * c.rn) q0 (4 * k + i)).toInt.natAbs ≤ 649 := fun k hk i hi => by
    rw [e k hk i hi, i3264]
    have := hro k i hk hi
    omega
  have hw : ∀ q, q < d.ct → ∀ i, i < 4 → d.pf (q * 4 + i) = c.wf (4 * q + i) := fun q hq i hi => by
    rw [show q * 4 + i = 4 * q + i by omega]; exact s3 _ (by omega)
  rw [hd.rk, hq]
  refine lst_rank (C := 5) (by decide) (fun q hq _ i hi => ?_) (rkf_rnk hb) (fun i hi => ⟨i, by omega, allbit (by omega), fun z hz => ?_⟩) (fun q hq _ => ⟨q, by omega, fun z hz => ?_⟩)
  · rw [hw q hq i hi]
    have := hro q i (by omega) hi
    omega
  · show (sqr c.wf (4 * c.rn) q0 (4 * i + z)).toInt = (d.pf (i * 4 + z)).toInt
    rw [e i hi z hz, i3264, hw i (by omega) z hz]
  · show (d.pf (q * 4 + z)).toInt = (sqr c.wf (4 * c.rn) q0 (4 * q + z)).toInt
    rw [e q (by omega) z hz, i3264, hw q hq z hz]
