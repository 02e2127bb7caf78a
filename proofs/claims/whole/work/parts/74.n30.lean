/-! ===== own rows: class and reference, 30 ===== -/
-- the simplices of the class
theorem cut_and {a c : Nat} (ha : a < 40) (hc : c < 256) : (a * 256 ||| c) &&& 255 = c := by
  have h1 : ∀ a, a < 40 → ∀ c, c < 256 → (a * 256 ||| c) &&& 255 = c := by decide +kernel
  exact h1 a ha c hc
theorem and255 (a : Nat) : a &&& 255 < 256 := Nat.lt_of_le_of_lt Nat.and_le_right (by decide)
theorem CUTS.pshI {d : DC} {c : MC} (h : CUTS d c) (h40 : d.fn ≤ 40) {z n : Nat} {f pa : Nat → Nat} (t : TRE d.mk d.dk d.fn n f pa) (hz : z < n) (hnz : ¬ d.mk (f z / 256) = 0) (hp : ∀ j, 0 < j → j < n → ¬ pa j = z) : ∀ q, q ≤ d.fn → ∃ pa', TRE d.mk d.dk d.fn (psh d.mk d.dk (f z / 256) (f z &&& 255) q (n, f)).1 (psh d.mk d.dk (f z / 256) (f z &&& 255) q (n, f)).2 pa' ∧ n ≤ (psh d.mk d.dk (f z / 256) (f z &&& 255) q (n, f)).1 ∧ (∀ j, j < n → (psh d.mk d.dk (f z / 256) (f z &&& 255) q (n, f)).2 j = f j ∧ pa' j = pa j) ∧ (∀ j, n ≤ j → j < (psh d.mk d.dk (f z / 256) (f z &&& 255) q (n, f)).1 → pa' j = z ∧ (psh d.mk d.dk (f z / 256) (f z &&& 255) q (n, f)).2 j / 256 < q) ∧ (∀ q', q' < q → sdw d.mk d.dk q' (f z / 256) (nI (lowb (d.mk (f z / 256)))) → ∃ j, n ≤ j ∧ j < (psh d.mk d.dk (f z / 256) (f z &&& 255) q (n, f)).1 ∧ (psh d.mk d.dk (f z / 256) (f z &&& 255) q (n, f)).2 j / 256 = q')
  | 0, _ => ⟨pa, t, Nat.le_refl _, fun _ _ => ⟨rfl, rfl⟩, fun j h1 h2 => absurd h2 (by show ¬ j < n; omega), fun q' hq => absurd hq (by omega)⟩
  | q + 1, hq => by
    obtain ⟨pa', t', hn, ho, hw, hc⟩ := h.pshI h40 t hz hnz hp q (by omega)
    by_cases hs : sdw d.mk d.dk q (f z / 256) (nI (lowb (d.mk (f z / 256))))
    · rw [psh_y (n := (psh d.mk d.dk (f z / 256) (f z &&& 255) q (n, f)).1) (f := (psh d.mk d.dk (f z / 256) (f z &&& 255) q (n, f)).2) rfl hs]
      generalize (psh d.mk d.dk (f z / 256) (f z &&& 255) q (n, f)).1 = n2 at *
      generalize (psh d.mk d.dk (f z / 256) (f z &&& 255) q (n, f)).2 = f2 at *
      have l36 := (h.t36 t').1
      have hfz := t.2.1 z hz
      have lb := lowb_lt (h.face hfz).2.2.2
      have lc : (f z &&& 255) ||| lowb (d.mk (f z / 256)) < 256 := or8 (and255 _) lb
      have v1 := cut_div (a := q) (by omega) lc
      have v2 := cut_and (a := q) (by omega) lc
      have eN : pcN n2 = n2 + 1 := if_pos (by omega)
      have eF : pcF n2 f2 (q * 256 ||| ((f z &&& 255) ||| lowb (d.mk (f z / 256)))) = updN f2 n2 (q * 256 ||| ((f z &&& 255) ||| lowb (d.mk (f z / 256)))) := if_pos (by omega)
      show ∃ pa'', TRE d.mk d.dk d.fn (pcN n2) (pcF n2 f2 (q * 256 ||| ((f z &&& 255) ||| lowb (d.mk (f z / 256))))) pa'' ∧ _
      simp only [eN, eF]
      generalize q * 256 ||| ((f z &&& 255) ||| lowb (d.mk (f z / 256))) = val at *
      have old : ∀ j, j < n2 → updN f2 n2 val j = f2 j := fun j hj => by unfold updN; rw [if_neg (by omega)]
      have new : updN f2 n2 val n2 = val := by unfold updN; rw [if_pos rfl]
      have oldp : ∀ j, j < n2 → updN pa' n2 z j = pa' j := fun j hj => by unfold updN; rw [if_neg (by omega)]
      have newp : updN pa' n2 z n2 = z := by unfold updN; rw [if_pos rfl]
      obtain ⟨⟨t0, tf0⟩, tf, tp, ti⟩ := t'
      refine ⟨updN pa' n2 z, ⟨⟨by omega, by rw [old 0 t0]; exact tf0⟩, fun j hj => ?_, fun j h0 hj => ?_, fun i j hi hj hin hjn e1 e2 => ?_⟩, by omega, fun j hj => ⟨(old j (by omega)).trans (ho j hj).1, (oldp j (by omega)).trans (ho j hj).2⟩, fun j h1 h2 => ?_, fun q' hq' s => ?_⟩
      · by_cases e : j = n2
        · rw [e, new, v1]; omega
        · rw [old j (by omega)]; exact tf j (by omega)
      · by_cases e : j = n2
        · rw [e, newp, new, v1, v2, old z (by omega), (ho z hz).1]
          exact ⟨by omega, hnz, hs, rfl⟩
        · obtain ⟨p1, p2, p3, p4⟩ := tp j h0 (by omega)
          rw [oldp j (by omega), old j (by omega), old (pa' j) (by omega)]
          exact ⟨p1, p2, p3, p4⟩
      · have key : ∀ j, 0 < j → j < n2 → pa' j = z → ¬ f2 j / 256 = q := fun j h0 hj e => by
          by_cases w : j < n
          · exact absurd ((ho j w).2.symm.trans e) (hp j h0 w)
          · have := (hw j (by omega) hj).2; omega
        by_cases a : i = n2
        · by_cases b : j = n2
          · omega
          · exfalso
            rw [a, newp, oldp j (by omega)] at e1
            rw [a, new, v1, old j (by omega)] at e2
            exact key j hj (by omega) e1.symm e2.symm
        · by_cases b : j = n2
          · exfalso
            rw [b, newp, oldp i (by omega)] at e1
            rw [b, new, v1, old i (by omega)] at e2
            exact key i hi (by omega) e1 e2
          · rw [oldp i (by omega), oldp j (by omega)] at e1
            rw [old i (by omega), old j (by omega)] at e2
            exact ti i j hi hj (by omega) (by omega) e1 e2
      · by_cases e : j = n2
        · rw [e, newp, new, v1]; exact ⟨rfl, by omega⟩
        · obtain ⟨a, b⟩ := hw j h1 (by omega)
          rw [oldp j (by omega), old j (by omega)]
          exact ⟨a, by omega⟩
      · by_cases e : q' = q
        · exact ⟨n2, by omega, by omega, by rw [new, v1, e]⟩
        · obtain ⟨j, j1, j2, j3⟩ := hc q' (by omega) s
          exact ⟨j, j1, by omega, by rw [old j j2]; exact j3⟩
    · rw [psh_n hs]
      refine ⟨pa', t', hn, ho, fun j h1 h2 => ⟨(hw j h1 h2).1, by have := (hw j h1 h2).2; omega⟩, fun q' hq' s => ?_⟩
      by_cases e : q' = q
      · rw [e] at s; exact absurd s hs
      · exact hc q' (by omega) s
/-- what stands after the first z cuts are filled -/
def SFI (mk dk : Nat → Nat) (fn z : Nat) (r : (Nat × (Nat → Nat)) × (Nat × (Nat → Nat))) (pa zi : Nat → Nat) : Prop := TRE mk dk fn r.1.1 r.1.2 pa ∧ (∀ j, 0 < j → j < r.1.1 → pa j < z) ∧ (∀ i, i < z → i < r.1.1 → ¬ mk (r.1.2 i / 256) = 0 → ∀ q, q < fn → sdw mk dk q (r.1.2 i / 256) (nI (lowb (mk (r.1.2 i / 256)))) → ∃ j, 0 < j ∧ j < r.1.1 ∧ pa j = i ∧ r.1.2 j / 256 = q) ∧ (∀ s, s < r.2.1 → zi s < r.1.1 ∧ zi s < z ∧ mk (r.1.2 (zi s) / 256) = 0 ∧ r.2.2 s = r.1.2 (zi s) &&& 255) ∧ (∀ s t, s < r.2.1 → t < r.2.1 → zi s = zi t → s = t) ∧ (∀ i, i < z → i < r.1.1 → mk (r.1.2 i / 256) = 0 → ∃ s, s < r.2.1 ∧ zi s = i)
theorem CUTS.sfdI {d : DC} {c : MC} (h : CUTS d c) (h40 : d.fn ≤ 40) (h0 : 0 < d.fn) {ck0 sk0 : Nat → Nat} : ∀ z, z ≤ 37 → ∃ pa zi, SFI d.mk d.dk d.fn z (sfd d.mk d.dk d.fn z ((pcN 0, pcF 0 ck0 (0 * 256 ||| 0)), (0, sk0))) pa zi
  | 0, _ => by
    have e : pcF 0 ck0 (0 * 256 ||| 0) 0 = 0 := by unfold pcF; rw [if_pos (by decide)]; unfold updN; rw [if_pos rfl]; rfl
    refine ⟨fun _ => 0, fun _ => 0, ⟨⟨by show 0 < pcN 0; decide, e⟩, fun j hj => ?_, fun j h1 hj => ?_, fun i j hi hj hin => ?_⟩, fun j h1 hj => ?_, fun i hi => absurd hi (by omega), fun s hs => absurd hs (by show ¬ s < 0; omega), fun s t hs => absurd hs (by show ¬ s < 0; omega), fun i hi => absurd hi (by omega)⟩
    · have hj : j < 1 := hj
      obtain rfl : j = 0 := by omega
      show pcF 0 ck0 (0 * 256 ||| 0) 0 / 256 < d.fn
      rw [e]; exact h0
    · have hj : j < 1 := hj
      omega
    · have hin : i < 1 := hin
      omega
    · have hj : j < 1 := hj
      omega
  | z + 1, hz => by
    obtain ⟨pa, zi, t, hpz, hcm, hs1, hs2, hs3⟩ := h.sfdI h40 h0 (ck0 := ck0) (sk0 := sk0) z (by omega)
    obtain ⟨⟨⟨n, f⟩, ⟨n3, f3⟩⟩, hr⟩ : ∃ r, r = sfd d.mk d.dk d.fn z ((pcN 0, pcF 0 ck0 (0 * 256 ||| 0)), (0, sk0)) := ⟨_, rfl⟩
    rw [← hr] at t hpz hcm hs1 hs2 hs3
    have t : TRE d.mk d.dk d.fn n f pa := t
    have hpz : ∀ j, 0 < j → j < n → pa j < z := hpz
    have hcm : ∀ i, i < z → i < n → ¬ d.mk (f i / 256) = 0 → ∀ q, q < d.fn → sdw d.mk d.dk q (f i / 256) (nI (lowb (d.mk (f i / 256)))) → ∃ j, 0 < j ∧ j < n ∧ pa j = i ∧ f j / 256 = q := hcm
    have hs1 : ∀ s, s < n3 → zi s < n ∧ zi s < z ∧ d.mk (f (zi s) / 256) = 0 ∧ f3 s = f (zi s) &&& 255 := hs1
    have hs2 : ∀ s t, s < n3 → t < n3 → zi s = zi t → s = t := hs2
    have hs3 : ∀ i, i < z → i < n → d.mk (f i / 256) = 0 → ∃ s, s < n3 ∧ zi s = i := hs3
    by_cases hzn : z < n
    · by_cases hm : d.mk (f z / 256) = 0
      · rw [sfd_add hr.symm hzn hm]
        -- room for one more
        have zi2 : ∀ s, s < n3 → updN zi n3 z s = zi s := fun s hs => by unfold updN; rw [if_neg (by omega)]
        have zin : updN zi n3 z n3 = z := by unfold updN; rw [if_pos rfl]
        have inj : ∀ i j, i < n3 + 1 → j < n3 + 1 → updN zi n3 z i = updN zi n3 z j → i = j := fun i j hi hj e => by
          by_cases a : i = n3
          · by_cases b : j = n3
            · omega
            · exfalso
              rw [a, zin, zi2 j (by omega)] at e
              have := (hs1 j (by omega)).2.1; omega
          · by_cases b : j = n3
            · exfalso
              rw [b, zin, zi2 i (by omega)] at e
              have := (hs1 i (by omega)).2.1; omega
            · rw [zi2 i (by omega), zi2 j (by omega)] at e
              exact hs2 i j (by omega) (by omega) e
        have k9 := (h.t36 t).2 (n3 + 1) (updN zi n3 z) (fun i hi => by
          by_cases a : i = n3
          · rw [a, zin]; exact ⟨hzn, hm⟩
          · rw [zi2 i (by omega)]; exact ⟨(hs1 i (by omega)).1, (hs1 i (by omega)).2.2.1⟩) inj
        have eN : adN n3 = n3 + 1 := if_pos (by omega)
        have eF : adF n3 f3 (f z &&& (2 ^ 8 - 1)) = updN f3 n3 (f z &&& (2 ^ 8 - 1)) := if_pos (by omega)
        rw [eN, eF]
        refine ⟨pa, updN zi n3 z, t, fun j h1 hj => by have := hpz j h1 hj; omega, fun i hi hin nz q hq s => ?_, fun s hs => ?_, inj, fun i hi hin e => ?_⟩
        · by_cases a : i = z
          · rw [a] at nz; exact absurd hm nz
          · exact hcm i (by omega) hin nz q hq s
        · have hs : s < n3 + 1 := hs
          by_cases a : s = n3
          · subst a
            show updN zi s z s < n ∧ updN zi s z s < z + 1 ∧ d.mk (f (updN zi s z s) / 256) = 0 ∧ updN f3 s (f z &&& (2 ^ 8 - 1)) s = f (updN zi s z s) &&& 255
            rw [zin]
            exact ⟨hzn, by omega, hm, by unfold updN; rw [if_pos rfl]⟩
          · obtain ⟨a1, a2, a3, a4⟩ := hs1 s (by omega)
            show updN zi n3 z s < n ∧ updN zi n3 z s < z + 1 ∧ d.mk (f (updN zi n3 z s) / 256) = 0 ∧ updN f3 n3 (f z &&& (2 ^ 8 - 1)) s = f (updN zi n3 z s) &&& 255
            rw [zi2 s (by omega)]
            exact ⟨a1, by omega, a3, by unfold updN; rw [if_neg a]; exact a4⟩
        · by_cases a : i = z
          · exact ⟨n3, by show n3 < n3 + 1; omega, by rw [zin, a]⟩
          · obtain ⟨s, s1, s2⟩ := hs3 i (by omega) hin e
            exact ⟨s, by show s < n3 + 1; omega, by rw [zi2 s s1]; exact s2⟩
      · rw [sfd_push hr.symm hzn hm]
        obtain ⟨pa', t', hn, ho, hw, hc⟩ := h.pshI h40 t hzn hm (fun j h1 hj e => by have := hpz j h1 hj; omega) d.fn (Nat.le_refl _)
        show ∃ pa zi, SFI d.mk d.dk d.fn (z + 1) (((psh d.mk d.dk (f z / 256) (f z &&& 255) d.fn (n, f)).1, (psh d.mk d.dk (f z / 256) (f z &&& 255) d.fn (n, f)).2), (n3, f3)) pa zi
        generalize (psh d.mk d.dk (f z / 256) (f z &&& 255) d.fn (n, f)).1 = n2 at *
        generalize (psh d.mk d.dk (f z / 256) (f z &&& 255) d.fn (n, f)).2 = f2 at *
        refine ⟨pa', zi, t', fun j h1 hj => ?_, fun i hi hin nz q hq s => ?_, fun s hs => ?_, hs2, fun i hi hin e => ?_⟩
        · have hj : j < n2 := hj
          by_cases w : j < n
          · rw [(ho j w).2]; have := hpz j h1 w; omega
          · rw [(hw j (by omega) hj).1]; omega
        · have hin : i < n2 := hin
          have hin2 : i < n := by omega
          have nz : ¬ d.mk (f2 i / 256) = 0 := nz
          have s : sdw d.mk d.dk q (f2 i / 256) (nI (lowb (d.mk (f2 i / 256)))) := s
          rw [(ho i hin2).1] at nz s
          by_cases a : i = z
          · subst a
            obtain ⟨j, j1, j2, j3⟩ := hc q hq s
            exact ⟨j, by omega, j2, (hw j j1 j2).1, j3⟩
          · obtain ⟨j, j1, j2, j3, j4⟩ := hcm i (by omega) hin2 nz q hq s
            exact ⟨j, j1, by show j < n2; omega, (ho j j2).2.trans j3, by show f2 j / 256 = q; rw [(ho j j2).1]; exact j4⟩
        · obtain ⟨a1, a2, a3, a4⟩ := hs1 s hs
          show zi s < n2 ∧ zi s < z + 1 ∧ d.mk (f2 (zi s) / 256) = 0 ∧ f3 s = f2 (zi s) &&& 255
          rw [(ho _ a1).1]
          exact ⟨by omega, by omega, a3, a4⟩
        · have hin : i < n2 := hin
          have e : d.mk (f2 i / 256) = 0 := e
          rw [(ho i (by omega)).1] at e
          by_cases a : i = z
          · rw [a] at e; exact absurd e hm
          · exact hs3 i (by omega) (by omega) e
    · have e : sfd d.mk d.dk d.fn (z + 1) ((pcN 0, pcF 0 ck0 (0 * 256 ||| 0)), (0, sk0)) = ((n, f), (n3, f3)) := by
        show (if z < (sfd d.mk d.dk d.fn z ((pcN 0, pcF 0 ck0 (0 * 256 ||| 0)), (0, sk0))).1.1 then _ else _) = _
        rw [← hr, if_neg hzn]
      rw [e]
      refine ⟨pa, zi, t, fun j h1 hj => by have := hpz j h1 hj; omega, fun i hi hin => hcm i (by have : i < n := hin; omega) hin, fun s hs => ?_, hs2, fun i hi hin => hs3 i (by have : i < n := hin; omega) hin⟩
      obtain ⟨a1, a2, a3, a4⟩ := hs1 s hs
      exact ⟨a1, by omega, a3, a4⟩
/-- all simplices are found -/
theorem CUTS.all {d : DC} {c : MC} (h : CUTS d c) (h40 : d.fn ≤ 40) (h0 : 0 < d.fn) {ck0 sk0 : Nat → Nat} (e : sfd d.mk d.dk d.fn 37 ((pcN 0, pcF 0 ck0 (0 * 256 ||| 0)), (0, sk0)) = ((d.cn, d.ck), (d.sn, d.sk))) :
    d.sn ≤ 9 ∧ (∀ G ch, RC (xn c.rn c.zs) (XW c.wf c.rn) c.yn (wr c.yf) (2 ^ c.yn - 1) c.sp G ch → (∀ j, ¬ G.testBit j = true) → ∃ s, s < d.sn ∧ d.sk s = ch) ∧ ∀ s, s < d.sn → ∃ G, RC (xn c.rn c.zs) (XW c.wf c.rn) c.yn (wr c.yf) (2 ^ c.yn - 1) c.sp G (d.sk s) := by
  obtain ⟨pa, zi, t, hpz, hcm, hs1, hs2, hs3⟩ := h.sfdI h40 h0 (ck0 := ck0) (sk0 := sk0) 37 (Nat.le_refl _)
  rw [e] at t hpz hcm hs1 hs2 hs3
  have t : TRE d.mk d.dk d.fn d.cn d.ck pa := t
  have hpz : ∀ j, 0 < j → j < d.cn → pa j < 37 := hpz
  have hcm : ∀ i, i < 37 → i < d.cn → ¬ d.mk (d.ck i / 256) = 0 → ∀ q, q < d.fn → sdw d.mk d.dk q (d.ck i / 256) (nI (lowb (d.mk (d.ck i / 256)))) → ∃ j, 0 < j ∧ j < d.cn ∧ pa j = i ∧ d.ck j / 256 = q := hcm
  have hs1 : ∀ s, s < d.sn → zi s < d.cn ∧ zi s < 37 ∧ d.mk (d.ck (zi s) / 256) = 0 ∧ d.sk s = d.ck (zi s) &&& 255 := hs1
  have hs2 : ∀ s t, s < d.sn → t < d.sn → zi s = zi t → s = t := hs2
  have hs3 : ∀ i, i < 37 → i < d.cn → d.mk (d.ck i / 256) = 0 → ∃ s, s < d.sn ∧ zi s = i := hs3
  obtain ⟨l36, l9⟩ := h.t36 t
  obtain ⟨⟨t0, tf0⟩, tf, tp, ti⟩ := t
  have hmk0 : d.mk 0 = 2 ^ c.yn - 1 := h.2.1.2.2.2.2
  have hsp := h.1.2.2.2.2
  have r0 : d.dk 0 = c.sp := by
    have := (h.face h0).2.2.1
    rw [hmk0] at this
    exact this.uniq hsp
  refine ⟨l9 d.sn zi (fun i hi => ⟨(hs1 i hi).1, (hs1 i hi).2.2.1⟩) hs2, ?_, ?_⟩
  · have up : ∀ dd G ch, RC (xn c.rn c.zs) (XW c.wf c.rn) c.yn (wr c.yf) (2 ^ c.yn - 1) dd G ch → ∃ i, i < d.cn ∧ d.mk (d.ck i / 256) = G ∧ d.ck i &&& 255 = ch := by
      intro dd
      induction dd with
      | zero =>
        rintro G ch ⟨e1, e2⟩
        exact ⟨0, t0, by rw [tf0, e1]; exact hmk0, by rw [tf0, e2]; rfl⟩
      | succ dd ih =>
        rintro H ch ⟨G, c1, v, rc, fv, ⟨s1, s2, s3, s4, s5⟩, e1⟩
        obtain ⟨i, i1, i2, i3⟩ := ih G c1 rc
        have nz : ¬ d.mk (d.ck i / 256) = 0 := fun z => by
          have := fv.1
          rw [← i2, z, Nat.zero_testBit] at this; cases this
        obtain ⟨q, q1, q2⟩ := h.2.1.2.2.1 H ⟨s2, s1⟩
        obtain ⟨v', v8, ev, fv', g1, iff⟩ := h.sd q1 (tf i i1) nz
        have evv : v' = v := by rw [i2] at fv'; exact fv'.uniq fv
        subst evv
        have rq : Rk c.yn (wr c.yf) (d.mk q) (d.dk (d.ck i / 256) - 1) := by
          rw [q2]
          refine s3 _ ?_
          rw [← i2]; exact (h.face (tf i i1)).2.2.1
        have := (h.face q1).2.2.1.uniq rq
        obtain ⟨j, j1, j2, j3, j4⟩ := hcm i (by omega) i1 nz q q1 (iff.mpr ⟨by omega, by rw [q2, i2]; exact s4, by rw [q2]; exact s5⟩)
        obtain ⟨p1, p2, p3, p4⟩ := tp j j1 j2
        exact ⟨j, j2, by rw [j4]; exact q2, by rw [p4, j3, i3, ev, e1]⟩
    intro G ch rc hG
    obtain ⟨i, i1, i2, i3⟩ := up c.sp G ch rc
    have : d.mk (d.ck i / 256) = 0 := by
      rw [i2]
      refine Nat.eq_of_testBit_eq (fun j => ?_)
      rw [Nat.zero_testBit]; exact Bool.eq_false_iff.mpr (hG j)
    obtain ⟨s, s1, s2⟩ := hs3 i (by omega) i1 this
    exact ⟨s, s1, by rw [(hs1 s s1).2.2.2, s2]; exact i3⟩
  · have down : ∀ i, i < d.cn → d.dk (d.ck i / 256) ≤ c.sp ∧ RC (xn c.rn c.zs) (XW c.wf c.rn) c.yn (wr c.yf) (2 ^ c.yn - 1) (c.sp - d.dk (d.ck i / 256)) (d.mk (d.ck i / 256)) (d.ck i &&& 255) := by
      intro i
      induction i using Nat.strongRecOn with
      | _ i ih =>
        intro hi
        by_cases z : i = 0
        · subst z
          rw [tf0]
          show d.dk 0 ≤ c.sp ∧ RC _ _ _ _ _ (c.sp - d.dk 0) (d.mk 0) 0
          rw [r0, Nat.sub_self]
          exact ⟨Nat.le_refl _, hmk0, rfl⟩
        · obtain ⟨p1, p2, p3, p4⟩ := tp i (by omega) hi
          obtain ⟨l1, rc⟩ := ih (pa i) p1 (by omega)
          obtain ⟨v, v8, ev, fv, g1, iff⟩ := h.sd (tf i hi) (tf (pa i) (by omega)) p2
          obtain ⟨a1, a2, a3⟩ := iff.mp p3
          obtain ⟨f1, f2, f3, -⟩ := h.face (tf i hi)
          refine ⟨by omega, ?_⟩
          rw [show c.sp - d.dk (d.ck i / 256) = c.sp - d.dk (d.ck (pa i) / 256) + 1 by omega]
          refine ⟨_, _, v, rc, fv, ⟨f1, f2, fun g hg => ?_, a2, a3⟩, by rw [p4, ev]⟩
          rw [hg.uniq (h.face (tf (pa i) (by omega))).2.2.1, show d.dk (d.ck (pa i) / 256) - 1 = d.dk (d.ck i / 256) by omega]
          exact f3
    intro s hs
    obtain ⟨a1, a2, a3, a4⟩ := hs1 s hs
    obtain ⟨-, rc⟩ := down (zi s) a1
    have : d.dk (d.ck (zi s) / 256) = 0 := (h.face (tf _ a1)).2.2.1.none (fun q _ b => by rw [a3, Nat.zero_testBit] at b; cases b)
    rw [this, Nat.sub_zero, ← a4] at rc
    exact ⟨_, rc⟩
