/-! ===== own rows, laid by wip/tools/g32.py: the whole world of the desk ===== -/
abbrev DA : Type := Nat → Nat
def DA.d0 (a : DA) : Nat := a 0
def DA.gv (a : DA) : Nat := a 1
def DA.dr (a : DA) : Nat := a 2
def DA.pl (a : DA) : Nat := a 3
def DA.pa (a : DA) : Nat := a 4
def DA.yl (a : DA) : Nat := a 5
def DA.ya (a : DA) : Nat := a 6
def DA.mi (a : DA) : Nat := a 7
def DA.fl (a : DA) : Nat := a 8
def DA.fm (a : DA) : Nat := a 9
def DA.fd (a : DA) : Nat := a 10
def DA.ft (a : DA) : Nat := a 11
def DA.fc (a : DA) : Nat := a 12
def DA.bf (a : DA) : Nat := a 13
def DA.fo (a : DA) : Nat := a 14
def DA.fq (a : DA) : Nat := a 15
def DA.bm (a : DA) : Nat := a 16
def DA.bs (a : DA) : Nat := a 17
def DA.sm (a : DA) : Nat := a 18
def DA.sc (a : DA) : Nat := a 19
def DA.ip (a : DA) : Nat := a 20
def DA.im (a : DA) : Nat := a 21
def DA.ie (a : DA) : Nat := a 22
def DA.iq (a : DA) : Nat := a 23
def DA.iy (a : DA) : Nat := a 24
def DA.ii (a : DA) : Nat := a 25
def DA.bc (a : DA) : Nat := a 26
def DA.bh (a : DA) : Nat := a 27
def DA.br (a : DA) : Nat := a 28
abbrev DC : Type := ((((((Nat × Nat) × Nat) × ((Nat × (Nat → Int32)) × (Nat → Int32))) × (((Nat × (Nat → Int32)) × Nat) × (((Nat → Int32) × Nat) × Nat))) × (((((Nat → Int64) × (Nat → Int64)) × Int32) × ((Nat × (Nat → Nat)) × (Nat → Nat))) × ((((Nat → Nat) × (Nat → Int32)) × Nat) × ((Nat × Nat) × (Nat → Int32))))) × (((((Nat × Nat) × (Nat → Int64)) × (((Nat → Int64) × Int32) × Nat)) × (((Nat × (Nat → Nat)) × (Nat → Nat)) × ((Int32 × Int32) × Int32))) × ((((Nat × Nat) × (Nat → Int64)) × (((Nat → Int64) × Int32) × (Nat → Nat))) × ((((Nat → Int32) × (Nat → Int32)) × (Nat → Int32)) × (((Nat → Int32) × (Nat → Int32)) × (Nat → Int32))))))
def DC.dm (d : DC) : Nat := d.1.1.1.1.1.1
def DC.rk (d : DC) : Nat := d.1.1.1.1.1.2
def DC.sp (d : DC) : Nat := d.1.1.1.1.2
def DC.kn (d : DC) : Nat := d.1.1.1.2.1.1
def DC.g (d : DC) : Nat → Int32 := d.1.1.1.2.1.2
def DC.dg (d : DC) : Nat → Int32 := d.1.1.1.2.2
def DC.ct (d : DC) : Nat := d.1.1.2.1.1.1
def DC.pf (d : DC) : Nat → Int32 := d.1.1.2.1.1.2
def DC.yn (d : DC) : Nat := d.1.1.2.1.2
def DC.yf (d : DC) : Nat → Int32 := d.1.1.2.2.1.1
def DC.cu (d : DC) : Nat := d.1.1.2.2.1.2
def DC.nx (d : DC) : Nat := d.1.1.2.2.2
def DC.cf (d : DC) : Nat → Int64 := d.1.2.1.1.1.1
def DC.nq (d : DC) : Nat → Int64 := d.1.2.1.1.1.2
def DC.jz (d : DC) : Int32 := d.1.2.1.1.2
def DC.fn (d : DC) : Nat := d.1.2.1.2.1.1
def DC.mk (d : DC) : Nat → Nat := d.1.2.1.2.1.2
def DC.dk (d : DC) : Nat → Nat := d.1.2.1.2.2
def DC.tn (d : DC) : Nat → Nat := d.1.2.2.1.1.1
def DC.cg (d : DC) : Nat → Int32 := d.1.2.2.1.1.2
def DC.lg (d : DC) : Nat := d.1.2.2.1.2
def DC.rc (d : DC) : Nat := d.1.2.2.2.1.1
def DC.on (d : DC) : Nat := d.1.2.2.2.1.2
def DC.of (d : DC) : Nat → Int32 := d.1.2.2.2.2
def DC.bu (d : DC) : Nat := d.2.1.1.1.1.1
def DC.bv (d : DC) : Nat := d.2.1.1.1.1.2
def DC.fu (d : DC) : Nat → Int64 := d.2.1.1.1.2
def DC.fv (d : DC) : Nat → Int64 := d.2.1.1.2.1.1
def DC.jb (d : DC) : Int32 := d.2.1.1.2.1.2
def DC.sn (d : DC) : Nat := d.2.1.1.2.2
def DC.cn (d : DC) : Nat := d.2.1.2.1.1.1
def DC.sk (d : DC) : Nat → Nat := d.2.1.2.1.1.2
def DC.ck (d : DC) : Nat → Nat := d.2.1.2.1.2
def DC.mc (d : DC) : Int32 := d.2.1.2.2.1.1
def DC.mx (d : DC) : Int32 := d.2.1.2.2.1.2
def DC.ix (d : DC) : Int32 := d.2.1.2.2.2
def DC.iu (d : DC) : Nat := d.2.2.1.1.1.1
def DC.iv (d : DC) : Nat := d.2.2.1.1.1.2
def DC.hu (d : DC) : Nat → Int64 := d.2.2.1.1.2
def DC.hv (d : DC) : Nat → Int64 := d.2.2.1.2.1.1
def DC.ju (d : DC) : Int32 := d.2.2.1.2.1.2
def DC.ek (d : DC) : Nat → Nat := d.2.2.1.2.2
def DC.sf (d : DC) : Nat → Int32 := d.2.2.2.1.1.1
def DC.xf (d : DC) : Nat → Int32 := d.2.2.2.1.1.2
def DC.ig (d : DC) : Nat → Int32 := d.2.2.2.1.2
def DC.cc (d : DC) : Nat → Int32 := d.2.2.2.2.1.1
def DC.hh (d : DC) : Nat → Int32 := d.2.2.2.2.1.2
def DC.rs (d : DC) : Nat → Int32 := d.2.2.2.2.2
def DCmk (dm : Nat) (rk : Nat) (sp : Nat) (kn : Nat) (g : Nat → Int32) (dg : Nat → Int32) (ct : Nat) (pf : Nat → Int32) (yn : Nat) (yf : Nat → Int32) (cu : Nat) (nx : Nat) (cf : Nat → Int64) (nq : Nat → Int64) (jz : Int32) (fn : Nat) (mk : Nat → Nat) (dk : Nat → Nat) (tn : Nat → Nat) (cg : Nat → Int32) (lg : Nat) (rc : Nat) (on : Nat) (of : Nat → Int32) (bu : Nat) (bv : Nat) (fu : Nat → Int64) (fv : Nat → Int64) (jb : Int32) (sn : Nat) (cn : Nat) (sk : Nat → Nat) (ck : Nat → Nat) (mc : Int32) (mx : Int32) (ix : Int32) (iu : Nat) (iv : Nat) (hu : Nat → Int64) (hv : Nat → Int64) (ju : Int32) (ek : Nat → Nat) (sf : Nat → Int32) (xf : Nat → Int32) (ig : Nat → Int32) (cc : Nat → Int32) (hh : Nat → Int32) (rs : Nat → Int32) : DC := ((((((dm, rk), sp), ((kn, g), dg)), (((ct, pf), yn), ((yf, cu), nx))), ((((cf, nq), jz), ((fn, mk), dk)), (((tn, cg), lg), ((rc, on), of)))), (((((bu, bv), fu), ((fv, jb), sn)), (((cn, sk), ck), ((mc, mx), ix))), ((((iu, iv), hu), ((hv, ju), ek)), (((sf, xf), ig), ((cc, hh), rs)))))
def DC.setg (d : DC) (x : Nat → Int32) : DC := DCmk d.dm d.rk d.sp d.kn x d.dg d.ct d.pf d.yn d.yf d.cu d.nx d.cf d.nq d.jz d.fn d.mk d.dk d.tn d.cg d.lg d.rc d.on d.of d.bu d.bv d.fu d.fv d.jb d.sn d.cn d.sk d.ck d.mc d.mx d.ix d.iu d.iv d.hu d.hv d.ju d.ek d.sf d.xf d.ig d.cc d.hh d.rs
def DC.setgr (d : DC) (x y : Nat → Int32) : DC := DCmk d.dm d.rk d.sp d.kn x d.dg d.ct d.pf d.yn d.yf d.cu d.nx d.cf d.nq d.jz d.fn d.mk d.dk d.tn d.cg d.lg d.rc d.on d.of d.bu d.bv d.fu d.fv d.jb d.sn d.cn d.sk d.ck d.mc d.mx d.ix d.iu d.iv d.hu d.hv d.ju d.ek d.sf d.xf d.ig d.cc d.hh y
/-- what is known of the rays -/
def KR (d : DC) : Prop := (∃ yf0 dg0 : Nat → Int32, rst d.pf d.ct d.dm yf0 dg0 (2 ^ d.ct) = (d.yn, d.yf, d.dg)) ∧ d.sp = (lst d.yf (2 ^ d.yn - 1) d.yn).1
/-- what is known of the faces -/
def KF (d : DC) : Prop := ∃ (mk0 dk0 tn0 : Nat → Nat) (cg0 : Nat → Int32), tto d.pf d.ct d.yf (z8 tn0) cg0 d.yn = (d.tn, d.cg) ∧ fA d.tn d.ct (incN 0 mk0 (2 ^ d.yn - 1), incF 0 mk0 (2 ^ d.yn - 1)) = (d.fn, d.mk) ∧ fC d.yf d.yn d.mk d.fn dk0 = d.dk
/-- what is known of the basis -/
def KB (d : DC) : Prop := d.rc = d.ct ∧ ((d.lg = 1 ∧ (8 < d.yn ∨ (d.yn ≤ 8 ∧ lrg d.yf d.yn d.sp))) ∨ (d.lg = 0 ∧ d.yn ≤ 8 ∧ ¬ lrg d.yf d.yn d.sp ∧
  ∃ (ck0 sk0 ek0 : Nat → Nat) (of0 cc0 sf0 xf0 ig0 hh0 f2 g2 f5 h6 g6 : Nat → Int32) (n2 n5 : Nat),
    sfd d.mk d.dk d.fn 37 ((pcN 0, pcF 0 ck0 (0 * 256 ||| 0)), (0, sk0)) = ((d.cn, d.ck), (d.sn, d.sk)) ∧ fri d.yf d.yn (0, of0, cc0) = (n2, f2, g2) ∧ ato d.yf d.yn d.sk d.sn ((n2, f2), ek0, sf0, xf0, ig0) = ((n5, f5), d.ek, d.sf, d.xf, d.ig) ∧ mso d.pf d.ct f5 n5 (hh0, g2) = (h6, g6) ∧ sft d.ct n5 n5 (0, f5, h6) = (d.on, d.of, d.hh)))
/-- what stands of the desk between calls -/
def DI (d : DC) : Prop := (2 ≤ d.dm) ∧ (d.dm ≤ 4) ∧ (d.ct ≤ 8) ∧ (d.yn ≤ 12) ∧ (d.fn ≤ 40) ∧ (∀ j, d.mk j < 4096) ∧ (∀ j, d.dk j < 4096) ∧ (∀ j, d.tn j < 4096) ∧ (d.on ≤ 107) ∧ (d.rc ≤ 8) ∧ (d.lg ≤ 1) ∧ (∀ j, d.ek j < 12) ∧ (∀ j, d.sk j < 256) ∧ (∀ j, d.ck j < 10240) ∧ (d.kn ≤ 3) ∧ (d.sp ≤ 4) ∧ (d.rk = (lst d.pf (2 ^ d.ct - 1) d.ct).1) ∧ (1 ≤ d.kn → KR d) ∧ (2 ≤ d.kn → KF d) ∧ (3 ≤ d.kn → KB d)
theorem DI.d2 {d : DC} (h : DI d) : 2 ≤ d.dm := h.1
theorem DI.d4 {d : DC} (h : DI d) : d.dm ≤ 4 := h.2.1
theorem DI.c8 {d : DC} (h : DI d) : d.ct ≤ 8 := h.2.2.1
theorem DI.yn {d : DC} (h : DI d) : d.yn ≤ 12 := h.2.2.2.1
theorem DI.fn {d : DC} (h : DI d) : d.fn ≤ 40 := h.2.2.2.2.1
theorem DI.mk {d : DC} (h : DI d) : ∀ j, d.mk j < 4096 := h.2.2.2.2.2.1
theorem DI.dk {d : DC} (h : DI d) : ∀ j, d.dk j < 4096 := h.2.2.2.2.2.2.1
theorem DI.tn {d : DC} (h : DI d) : ∀ j, d.tn j < 4096 := h.2.2.2.2.2.2.2.1
theorem DI.on {d : DC} (h : DI d) : d.on ≤ 107 := h.2.2.2.2.2.2.2.2.1
theorem DI.rc {d : DC} (h : DI d) : d.rc ≤ 8 := h.2.2.2.2.2.2.2.2.2.1
theorem DI.lg {d : DC} (h : DI d) : d.lg ≤ 1 := h.2.2.2.2.2.2.2.2.2.2.1
theorem DI.ek {d : DC} (h : DI d) : ∀ j, d.ek j < 12 := h.2.2.2.2.2.2.2.2.2.2.2.1
theorem DI.sk {d : DC} (h : DI d) : ∀ j, d.sk j < 256 := h.2.2.2.2.2.2.2.2.2.2.2.2.1
theorem DI.ck {d : DC} (h : DI d) : ∀ j, d.ck j < 10240 := h.2.2.2.2.2.2.2.2.2.2.2.2.2.1
theorem DI.kn {d : DC} (h : DI d) : d.kn ≤ 3 := h.2.2.2.2.2.2.2.2.2.2.2.2.2.2.1
theorem DI.sp {d : DC} (h : DI d) : d.sp ≤ 4 := h.2.2.2.2.2.2.2.2.2.2.2.2.2.2.2.1
theorem DI.rk {d : DC} (h : DI d) : d.rk = (lst d.pf (2 ^ d.ct - 1) d.ct).1 := h.2.2.2.2.2.2.2.2.2.2.2.2.2.2.2.2.1
theorem DI.k1 {d : DC} (h : DI d) : 1 ≤ d.kn → KR d := h.2.2.2.2.2.2.2.2.2.2.2.2.2.2.2.2.2.1
theorem DI.k2 {d : DC} (h : DI d) : 2 ≤ d.kn → KF d := h.2.2.2.2.2.2.2.2.2.2.2.2.2.2.2.2.2.2.1
theorem DI.k3 {d : DC} (h : DI d) : 3 ≤ d.kn → KB d := h.2.2.2.2.2.2.2.2.2.2.2.2.2.2.2.2.2.2.2
theorem DI.rk4 {d : DC} (h : DI d) : d.rk ≤ 4 := by rw [h.rk]; exact lst_le _ _ _
/-- the same rows -/
def DS (d e : DC) : Prop := e.dm = d.dm ∧ e.rk = d.rk ∧ e.ct = d.ct ∧ e.pf = d.pf
theorem DS.rf (d : DC) : DS d d := ⟨rfl, rfl, rfl, rfl⟩
theorem DI.setg {d : DC} (h : DI d) (x : Nat → Int32) : DI (d.setg x) := ⟨h.d2, h.d4, h.c8, h.yn, h.fn, h.mk, h.dk, h.tn, h.on, h.rc, h.lg, h.ek, h.sk, h.ck, h.kn, h.sp, h.rk, h.k1, h.k2, h.k3⟩
theorem DI.setgr {d : DC} (h : DI d) (x y : Nat → Int32) : DI (d.setgr x y) := ⟨h.d2, h.d4, h.c8, h.yn, h.fn, h.mk, h.dk, h.tn, h.on, h.rc, h.lg, h.ek, h.sk, h.ck, h.kn, h.sp, h.rk, h.k1, h.k2, h.k3⟩
theorem nI_ex {w : Int32} {n : Nat} (h1 : ¬ w < 0) (h2 : w < nI n) (hn : n < 2 ^ 31) : ∃ k, k < n ∧ w = nI k := by
  have hw : 0 ≤ w.toInt := by
    have := Int32.not_lt.mp h1
    have := Int32.le_iff_toInt_le.mp this
    simpa using this
  have h3 := Int32.lt_iff_toInt_lt.mp h2
  have hni : (nI n).toInt = (n : Int) := nI_toInt hn
  rw [hni] at h3
  refine ⟨w.toInt.toNat, by omega, ?_⟩
  apply Int32.toInt_inj.mp
  rw [nI_toInt (by omega)]
  omega
-- the masks of the faces
theorem inc_ok {B n m : Nat} {f : Nat → Nat} (h : ∀ j, j < n → f j < B) (hm : m < B) : ∀ j, j < incN n f m → incF n f m j < B := by
  by_cases hc : incC n f m
  · rw [incN_y hc, incF_y hc]
    intro j hj
    unfold updN
    split
    · exact hm
    · exact h j (by omega)
  · rw [incN_n hc, incF_n hc]; exact h
theorem fB_ok {tr B : Nat} : ∀ (k : Nat) (p : Nat × (Nat → Nat)), k ≤ p.1 → (∀ j, j < p.1 → p.2 j < B) → p.1 ≤ (fB tr k p).1 ∧ ∀ j, j < (fB tr k p).1 → (fB tr k p).2 j < B
  | 0, _, _, h => ⟨Nat.le_refl _, h⟩
  | k + 1, p, hk, h => by
    obtain ⟨h1, h2⟩ := fB_ok (tr := tr) k p (by omega) h
    exact ⟨Nat.le_trans h1 incN_ge, inc_ok h2 (Nat.lt_of_le_of_lt Nat.and_le_left (h2 k (by omega)))⟩
theorem fA_ok {T : Nat → Nat} {B : Nat} : ∀ (r : Nat) (p : Nat × (Nat → Nat)), (∀ j, j < p.1 → p.2 j < B) → p.1 ≤ (fA T r p).1 ∧ ∀ j, j < (fA T r p).1 → (fA T r p).2 j < B
  | 0, _, h => ⟨Nat.le_refl _, h⟩
  | r + 1, p, h => by
    obtain ⟨h1, h2⟩ := fA_ok (T := T) r p h
    obtain ⟨h3, h4⟩ := fB_ok (tr := T r) (fA T r p).1 (fA T r p) (Nat.le_refl _) h2
    exact ⟨Nat.le_trans h1 h3, h4⟩
theorem KF.ok {d : DC} (h : KF d) : 0 < d.fn ∧ ∀ j, j < d.fn → d.mk j < 2 ^ d.yn := by
  obtain ⟨mk0, dk0, tn0, cg0, -, h2, -⟩ := h
  have hp : 0 < 2 ^ d.yn := Nat.two_pow_pos _
  have hc : incC 0 mk0 (2 ^ d.yn - 1) := ⟨by decide, rfl⟩
  obtain ⟨h3, h4⟩ := fA_ok (T := d.tn) (B := 2 ^ d.yn) d.ct (incN 0 mk0 (2 ^ d.yn - 1), incF 0 mk0 (2 ^ d.yn - 1)) (inc_ok (fun j hj => absurd hj (Nat.not_lt_zero j)) (by omega))
  rw [h2] at h3 h4
  rw [incN_y hc] at h3
  exact ⟨h3, h4⟩
theorem KF.ok8 {d : DC} (h : KF d) (hy : d.yn ≤ 8) : ∀ j, j < d.fn → d.mk j < 256 := fun j hj => Nat.lt_of_lt_of_le (h.ok.2 j hj) (Nat.pow_le_pow_right (n := 2) (by decide) hy)
theorem c_D_findRays2 {l : Launch} {s0 : State} {b0 : Addr} {D : va_G} {cI cJ cZ : ClassId} {tC tS : Nat} (E : gE l s0 b0 D cI cJ cZ tC tS) (sz : Nat) (d0 : Nat) (gv : Nat) (dr : Nat) (rl : Nat) (yl : Nat) (mi : Nat) (fl : Nat) (bf : Nat) (dm : Nat) (rk : Int32) (sp : Int32) (kn : Int32) (rc : Nat) (ct : Nat) (mo : Nat) (pz : Nat) (pf : Nat → Int32) (cu : Nat) (nx : Nat) (cf : Nat → Int64) (nf : Nat → Int64) (jz : Int32) (ya : Nat) (y0 : Int32) (yf0 : Nat → Int32) (dg0 : Nat → Int32) (hpz : pz = mo * 4) (hmo : mo ≤ 107) (hct : ct ≤ mo) (hd2 : 2 ≤ dm) (hd4 : dm ≤ 4) (hc8 : ct ≤ 8) : cx_M l s0 D kl y_D_findRays b_D_findRays 3 none ({ frames := 5, cells := 0, slots := 0, locals := 151 } : Room) 0 0 [.ref d0] [(d0, .inr (0, [.int (nI dm), .ref gv, .ref dr, .ref rl, .ref yl, .ref mi, .ref fl, .ref bf, .int rk, .int sp, .int kn])), (rl, .inr (1, [.ref rc, .int (nI ct), .int (nI mo)])), (rc, .inl (cI, pz, .inl pf)), (mi, .inr (2, [.ref cu, .ref nx, .int jz])), (cu, .inl (cJ, 16, .inr (.inl cf))), (nx, .inl (cJ, 16, .inr (.inl nf))), (yl, .inr (1, [.ref ya, .int y0, .int (12 : Int32)])), (ya, .inl (cI, 48, .inl yf0)), (dr, .inl (cI, 4, .inl dg0))] sz (fun o9 _ w9 => ∃ (ca : Nat) (nb : Nat) (fa : Nat → Int64) (fb : Nat → Int64) (jj : Int32) (yn9 : Nat) (yf9 : Nat → Int32) (dg9 : Nat → Int32), o9 = .returned none ∧ rst pf ct dm yf0 dg0 (2 ^ ct) = (yn9, yf9, dg9) ∧ yn9 ≤ 12 ∧ w9 = [(d0, .inr (0, [.int (nI dm), .ref gv, .ref dr, .ref rl, .ref yl, .ref mi, .ref fl, .ref bf, .int rk, .int sp, .int kn])), (rl, .inr (1, [.ref rc, .int (nI ct), .int (nI mo)])), (rc, .inl (cI, pz, .inl pf)), (mi, .inr (2, [.ref ca, .ref nb, .int jj])), (ca, .inl (cJ, 16, .inr (.inl fa))), (nb, .inl (cJ, 16, .inr (.inl fb))), (yl, .inr (1, [.ref ya, .int (nI yn9), .int (12 : Int32)])), (ya, .inl (cI, 48, .inl yf9)), (dr, .inl (cI, 4, .inl dg9))]) := by
  exact cx_mono (c_D_findRays E sz d0 gv dr rl yl mi fl bf dm rk sp kn rc ct mo pz pf cu nx cf nf jz ya y0 yf0 dg0 hpz hmo hct hd2 hd4 hc8) (fun o9 t9 w9 h => by generalize hX : rst pf ct dm yf0 dg0 (2 ^ ct) = X at h; obtain ⟨ca, nb, fa, fb, jj, h9, h1, hw⟩ := h; exact ⟨ca, nb, fa, fb, jj, X.1, X.2.1, X.2.2, h9, rfl, h1, hw⟩)

theorem c_FL_find2 {l : Launch} {s0 : State} {b0 : Addr} {D : va_G} {cI cJ cZ : ClassId} {tC tS : Nat} (E : gE l s0 b0 D cI cJ cZ tC tS) (sz : Nat) (fl : Nat) (fm : Nat) (fd : Nat) (ft : Nat) (fc : Nat) (f0 : Int32) (mk : Nat → Nat) (dk : Nat → Nat) (tn : Nat → Nat) (cg : Nat → Int32) (pl : Nat) (pa : Nat) (ct : Nat) (mo : Nat) (pz : Nat) (pf : Nat → Int32) (yl : Nat) (ya : Nat) (yn : Nat) (yf : Nat → Int32) (mi : Nat) (cu : Nat) (nx : Nat) (cf : Nat → Int64) (nf9 : Nat → Int64) (jz : Int32) (hmk : ∀ j, mk j < 4096) (hdk : ∀ j, dk j < 4096) (htn : ∀ j, tn j < 4096) (hpz : pz = mo * 4) (hmo : mo ≤ 107) (hct : ct ≤ mo) (hc8 : ct ≤ 8) (hyn : yn ≤ 12) : cx_M l s0 D kl y_FL_find b_FL_find 7 none ({ frames := 3, cells := 0, slots := 0, locals := 86 } : Room) 0 0 [.ref fl, .ref pl, .ref yl, .ref mi] [(fl, .inr (3, [.ref fm, .int f0, .ref fd, .ref ft, .ref fc])), (fm, .inl (cI, 40, .inl (nf mk))), (fd, .inl (cI, 40, .inl (nf dk))), (ft, .inl (cI, 8, .inl (nf tn))), (fc, .inl (cI, 4, .inl cg)), (pl, .inr (1, [.ref pa, .int (nI ct), .int (nI mo)])), (pa, .inl (cI, pz, .inl pf)), (yl, .inr (1, [.ref ya, .int (nI yn), .int (12 : Int32)])), (ya, .inl (cI, 48, .inl yf)), (mi, .inr (2, [.ref cu, .ref nx, .int jz])), (cu, .inl (cJ, 16, .inr (.inl cf))), (nx, .inl (cJ, 16, .inr (.inl nf9)))] sz (fun o9 _ w9 => ∃ (ca : Nat) (nb : Nat) (fa : Nat → Int64) (fb : Nat → Int64) (jj : Int32) (fn9 : Nat) (mk9 : Nat → Nat) (dk9 : Nat → Nat) (tn9 : Nat → Nat) (cg9 : Nat → Int32), o9 = .returned none ∧ tto pf ct yf (z8 tn) cg yn = (tn9, cg9) ∧ fA tn9 ct (incN 0 mk (2 ^ yn - 1), incF 0 mk (2 ^ yn - 1)) = (fn9, mk9) ∧ fC yf yn mk9 fn9 dk = dk9 ∧ fn9 ≤ 40 ∧ (∀ j, mk9 j < 4096) ∧ (∀ j, dk9 j < 4096) ∧ (∀ j, tn9 j < 4096) ∧ w9 = [(fl, .inr (3, [.ref fm, .int (nI fn9), .ref fd, .ref ft, .ref fc])), (fm, .inl (cI, 40, .inl (nf mk9))), (fd, .inl (cI, 40, .inl (nf dk9))), (ft, .inl (cI, 8, .inl (nf tn9))), (fc, .inl (cI, 4, .inl cg9)), (pl, .inr (1, [.ref pa, .int (nI ct), .int (nI mo)])), (pa, .inl (cI, pz, .inl pf)), (yl, .inr (1, [.ref ya, .int (nI yn), .int (12 : Int32)])), (ya, .inl (cI, 48, .inl yf)), (mi, .inr (2, [.ref ca, .ref nb, .int jj])), (ca, .inl (cJ, 16, .inr (.inl fa))), (nb, .inl (cJ, 16, .inr (.inl fb)))]) := by
  exact cx_mono (c_FL_find E sz fl fm fd ft fc f0 mk dk tn cg pl pa ct mo pz pf yl ya yn yf mi cu nx cf nf9 jz hmk hdk htn hpz hmo hct hc8 hyn) (fun o9 t9 w9 h => by generalize hX : tto pf ct yf (z8 tn) cg yn = X at h; generalize hY : fA X.1 ct (incN 0 mk (2 ^ yn - 1), incF 0 mk (2 ^ yn - 1)) = Y at h; generalize hZ : fC yf yn Y.2 Y.1 dk = Z at h; obtain ⟨ca, nb, fa, fb, jj, h9, h1, h2, h3, h4, hw⟩ := h; exact ⟨ca, nb, fa, fb, jj, Y.1, Y.2, Z, X.1, X.2, h9, rfl, hY, hZ, h1, h2, h3, h4, hw⟩)

