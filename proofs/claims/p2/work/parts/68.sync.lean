/-! ===== own rows: the class's desk and the reference, side by side ===== -/
/-- both have the same rows -/
def SY (d : DC) (c : MC) : Prop := d.dm = c.zs ∧ d.ct = c.rn ∧ ∀ i, i < 4 * d.ct → d.pf i = c.wf i
theorem SY.ds {d e : DC} {c : MC} (h : SY d c) (h2 : DS d e) : SY e c := by
  obtain ⟨a1, a2, a3⟩ := h
  obtain ⟨b1, -, b3, b4⟩ := h2
  refine ⟨b1.trans a1, b3.trans a2, fun i hi => ?_⟩
  rw [b4]; rw [b3] at hi; exact a3 i hi
theorem SY.ms {d : DC} {c e : MC} (h : SY d c) (h2 : MS c e) : SY d e := by
  obtain ⟨a1, a2, a3⟩ := h
  obtain ⟨b1, b2, b3⟩ := h2
  refine ⟨a1.trans b1.symm, a2.trans b2.symm, fun i hi => ?_⟩
  rw [b3]; exact a3 i hi
theorem iw_eq {zs : Nat} {r p0 p1 p2 p3 : Int32} {vf : Nat → Int32} (h2 : 2 ≤ zs) (h4 : zs ≤ 4) (h0 : inw r 0 = true) : iw r p0 p1 (tk_c (nI zs) p2) (tk_d (nI zs) p3) ↔ ∀ k, k < zs → inw r (vst (nI zs) vf p0 p1 p2 p3 k) = true := by
  constructor
  · intro h k hk
    obtain ⟨a, b, c, d⟩ := h
    rcases (show k = 0 ∨ k = 1 ∨ k = 2 ∨ k = 3 by omega) with rfl | rfl | rfl | rfl
    · rw [vst_0]; exact a
    · rw [vst_1]; exact b
    · rw [vst_2]; exact c
    · rw [vst_3]; exact d
  · intro h
    refine ⟨?_, ?_, ?_, ?_⟩
    · have := h 0 (by omega); rw [vst_0] at this; exact this
    · have := h 1 (by omega); rw [vst_1] at this; exact this
    · by_cases e : zs = 2
      · unfold tk_c; rw [if_pos (show nI zs ≤ (2 : Int32) from nI_le (a := zs) (b := 2) (by omega) (by decide))]; exact h0
      · have := h 2 (by omega); rw [vst_2] at this; exact this
    · by_cases e : zs ≤ 3
      · unfold tk_d; rw [if_pos (show nI zs ≤ (3 : Int32) from nI_le (a := zs) (b := 3) (by omega) (by decide))]; exact h0
      · have := h 3 (by omega); rw [vst_3] at this; exact this
theorem inw_z {x : Int32} : inw 0 x = true ↔ x = 0 := by
  constructor
  · intro h; exact Int32.le_antisymm (inw_le h) (Int32.not_lt.mp (inw_lt h))
  · intro h; subst h; decide
theorem iw_0 {zs : Nat} {p0 p1 p2 p3 : Int32} {vf : Nat → Int32} : iw 0 p0 p1 (tk_c (nI zs) p2) (tk_d (nI zs) p3) ↔ all4 (vst (nI zs) vf p0 p1 p2 p3 0) (vst (nI zs) vf p0 p1 p2 p3 1) (vst (nI zs) vf p0 p1 p2 p3 2) (vst (nI zs) vf p0 p1 p2 p3 3) := by
  rw [vst_0, vst_1, vst_2, vst_3]
  unfold iw all4
  rw [inw_z, inw_z, inw_z, inw_z]
theorem cpy_at {f g : Nat → Int32} {a b n j : Nat} : va_cpy f g a b n j = if b ≤ j ∧ j < b + n then f (a + (j - b)) else g j := rfl
theorem tkg_at {d : DC} {p0 p1 p2 p3 : Int32} : tkg d p0 p1 p2 p3 0 = p0 ∧ tkg d p0 p1 p2 p3 1 = p1 ∧ tkg d p0 p1 p2 p3 2 = tk_c (nI d.dm) p2 ∧ tkg d p0 p1 p2 p3 3 = tk_d (nI d.dm) p3 := by
  unfold tkg; simp [upd]
theorem SY.add {d e : DC} {c f : MC} {p0 p1 p2 p3 : Int32} (h : SY d c) (h1 : e.dm = d.dm) (h2 : e.ct = d.ct + 1) (h3 : e.pf = addp d p0 p1 p2 p3) (g1 : f.zs = c.zs) (g2 : f.rn = c.rn + 1) (g3 : f.wf = adw c.wf c.rn p0 p1 (tk_c (nI c.zs) p2) (tk_d (nI c.zs) p3)) : SY e f := by
  obtain ⟨a1, a2, a3⟩ := h
  refine ⟨by rw [h1, g1, a1], by rw [h2, g2, a2], fun i hi => ?_⟩
  rw [h3, g3, ← a2]
  rw [h2] at hi
  unfold addp
  rw [cpy_at]
  obtain ⟨t0, t1, t2, t3⟩ := tkg_at (d := d) (p0 := p0) (p1 := p1) (p2 := p2) (p3 := p3)
  obtain ⟨w0, w1, w2, w3⟩ := adw_at (wf := c.wf) (rn := d.ct) (a := p0) (b := p1) (c := tk_c (nI c.zs) p2) (d := tk_d (nI c.zs) p3)
  by_cases e1 : i < 4 * d.ct
  · rw [if_neg (by omega), adw_o e1, cpy_at, if_neg (by omega)]
    exact a3 i e1
  · rw [if_pos (by omega)]
    rcases (show i = 4 * d.ct + 0 ∨ i = 4 * d.ct + 1 ∨ i = 4 * d.ct + 2 ∨ i = 4 * d.ct + 3 by omega) with rfl | rfl | rfl | rfl
    · rw [w0, show 0 + (4 * d.ct + 0 - d.ct * 4) = 0 by omega, t0]
    · rw [w1, show 0 + (4 * d.ct + 1 - d.ct * 4) = 1 by omega, t1]
    · rw [w2, show 0 + (4 * d.ct + 2 - d.ct * 4) = 2 by omega, t2, a1]
    · rw [w3, show 0 + (4 * d.ct + 3 - d.ct * 4) = 3 by omega, t3, a1]
theorem SY.drop {d e : DC} {c f : MC} {k : Nat} (h : SY d c) (hk : k < d.ct) (h1 : e.dm = d.dm) (h2 : e.ct = d.ct - 1) (h3 : e.pf = drpp d k) (g1 : f.zs = c.zs) (g2 : f.rn = c.rn - 1) (g3 : f.wf = dpw k (4 * (c.rn - 1) - 4 * k) c.wf) : SY e f := by
  obtain ⟨a1, a2, a3⟩ := h
  refine ⟨by rw [h1, g1, a1], by rw [h2, g2, a2], fun i hi => ?_⟩
  rw [h3, g3, ← a2, dpw_at]
  rw [h2] at hi
  unfold drpp
  rw [cpy_at]
  by_cases e1 : i < 4 * k
  · rw [if_neg (by omega), if_neg (by omega)]; exact a3 i (by omega)
  · rw [if_pos (by omega), if_pos (by omega), show (k + 1) * 4 + (i - k * 4) = i + 4 by omega]
    exact a3 (i + 4) (by omega)
theorem pr_eq {d : DC} {c : MC} {g h : Nat → Int32} {r : Nat} (hs : SY d c) (hr : r < d.ct) (hg : ∀ i, i < 4 → g i = h i) : pr4 d.pf r g = prm c.wf r h 0 := by
  obtain ⟨-, -, a3⟩ := hs
  unfold pr4 prm
  rw [← a3 (4 * r + 0) (by omega), ← a3 (4 * r + 1) (by omega), ← a3 (4 * r + 2) (by omega), ← a3 (4 * r + 3) (by omega)]
  rw [← hg 0 (by decide), ← hg 1 (by decide), ← hg 2 (by decide), ← hg 3 (by decide)]
  rw [show r * 4 = 4 * r by omega]
  rfl
theorem nI_inj {a b : Nat} (ha : a < 2 ^ 31) (hb : b < 2 ^ 31) (h : nI a = nI b) : a = b := by
  have := congrArg Int32.toInt h
  rw [nI_toInt ha, nI_toInt hb] at this
  omega
-- what the mathematics has to say of both
def RKE : Prop := ∀ d c, DI d → MJ c → SY d c → c.kn = 1 → d.rk = c.rk
def RYE : Prop := ∀ d c, DI d → MJ c → SY d c → 1 ≤ d.kn → c.kn = 1 → c.zs ≤ c.rk → d.yn = c.yn ∧ (∀ i, i < 4 * c.yn → d.yf i = c.yf i) ∧ d.sp = c.sp
def RFE : Prop := ∀ d c, DI d → MJ c → SY d c → 2 ≤ d.kn → c.kn = 1 → c.zs ≤ c.rk → ∀ w v q0 q1, fcs c.yf c.tf c.rn c.yn w ((1 : Int32) <<< (nI c.yn &&& 31)).toNatClampNeg (0, q0) = (v, q1) → cof d.dk w d.fn = v
def RBE : Prop := ∀ d c, DI d → MJ c → SY d c → 2 ≤ d.kn → c.kn = 1 → c.zs ≤ c.rk → ∀ k v q0 q1, k < d.ct → dmo c.yf c.yn (c.tf k) q0 = (v, q1) → (bndP d k ↔ (nI v = nI c.sp - (1 : Int32) ∧ ∀ r, r < k → ¬ c.tf r = c.tf k))
def RLE : Prop := ∀ d c, DI d → MJ c → SY d c → 3 ≤ d.kn → c.kn = 1 → c.zs ≤ c.rk → d.lg = c.lg ∧ (c.lg = 0 → c.fo = 1 → d.on = c.pt ∧ ∀ i, i < 4 * c.pt → d.of i = c.pf i)
def RPE : Prop := ∀ d c, DI d → MJ c → SY d c → 3 ≤ d.kn → c.kn = 1 → c.zs ≤ c.rk → c.lg = 0 → c.fo = 1 → ∀ g v0 rs0, (∀ i, i < 4 → g i = v0 i) → (∀ k, k < c.zs → inw (100 : Int32) (v0 k) = true) → (∀ i, c.zs ≤ i → i < 4 → v0 i = 0) → (∀ k, k < c.rn → ¬ prm c.wf k v0 0 < 0) → cpd d.hh d.rc d.on (rsi d.pf g d.rc rs0) (0 : Int32) = prs c.wf c.pf c.rn c.pt 16001 v0 0
def RSE : Prop := ∀ d c, DI d → MJ c → SY d c → 3 ≤ d.kn → c.kn = 1 → c.zs ≤ c.rk → c.lg = 0 → c.fo = 1 → ∀ g : Nat → Int32, (∀ i, i < 4 → -1000 ≤ (g i).toInt ∧ (g i).toInt ≤ 1000) → (lpr d.of g d.on).toInt32 = bst (g 0) (g 1) (g 2) (g 3) c.pf c.pt
