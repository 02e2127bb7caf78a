/-! ===== own rows, laid by wip/tools/sym.py: insertInOrder and fillDirection as functions ===== -/
/-- whether a point comes into a list -/
def insC (mo ct : Nat) (pf g : Nat → Int32) : Prop := (ipl pf g ct = 0 ∨ ord4 pf (ipl pf g ct - 1) g < 0) ∧ ct < mo
noncomputable def insN (mo ct : Nat) (pf g : Nat → Int32) : Nat := @ite _ (insC mo ct pf g) (Classical.propDecidable _) (ct + 1) ct
noncomputable def insF (mo ct : Nat) (pf g : Nat → Int32) : Nat → Int32 := @ite _ (insC mo ct pf g) (Classical.propDecidable _) (va_cpy g (va_cpy pf pf ((ipl pf g ct) * 4) ((ipl pf g ct) * 4 + 4) (ct * 4 - (ipl pf g ct) * 4)) 0 ((ipl pf g ct) * 4) 4) pf
theorem insN_y {mo ct : Nat} {pf g : Nat → Int32} (h : insC mo ct pf g) : insN mo ct pf g = ct + 1 := @if_pos _ (Classical.propDecidable _) h _ _ _
theorem insN_n {mo ct : Nat} {pf g : Nat → Int32} (h : ¬ insC mo ct pf g) : insN mo ct pf g = ct := @if_neg _ (Classical.propDecidable _) h _ _ _
theorem insF_y {mo ct : Nat} {pf g : Nat → Int32} (h : insC mo ct pf g) : insF mo ct pf g = va_cpy g (va_cpy pf pf ((ipl pf g ct) * 4) ((ipl pf g ct) * 4 + 4) (ct * 4 - (ipl pf g ct) * 4)) 0 ((ipl pf g ct) * 4) 4 := @if_pos _ (Classical.propDecidable _) h _ _ _
theorem insF_n {mo ct : Nat} {pf g : Nat → Int32} (h : ¬ insC mo ct pf g) : insF mo ct pf g = pf := @if_neg _ (Classical.propDecidable _) h _ _ _
theorem insN_le {mo ct : Nat} {pf g : Nat → Int32} (h : ct ≤ mo) : insN mo ct pf g ≤ mo := by
  by_cases hc : insC mo ct pf g
  · rw [insN_y hc]; exact hc.2
  · rw [insN_n hc]; exact h
theorem c_PL_ins {l : Launch} {s0 : State} {b0 : Addr} {D : va_G} {cI cJ cZ : ClassId} {tC tS : Nat} (E : gE l s0 b0 D cI cJ cZ tC tS) (sz : Nat) (pl : Nat) (pa : Nat) (ct : Nat) (mo : Nat) (pz : Nat) (pf : Nat → Int32) (ga : Nat) (g : Nat → Int32) (hpz : pz = mo * 4) (hmo : mo ≤ 107) (hct : ct ≤ mo) : cx_M l s0 D kl y_PL_insertInOrder b_PL_insertInOrder 3 none ({ frames := 3, cells := 0, slots := 0, locals := 90 } : Room) 0 0 [.ref pl, .ref ga] [(pl, .inr (1, [.ref pa, .int (nI ct), .int (nI mo)])), (pa, .inl (cI, pz, .inl pf)), (ga, .inl (cI, 4, .inl g))] sz (fun o9 _ w9 => o9 = .returned none ∧ w9 = [(pl, .inr (1, [.ref pa, .int (nI (insN mo ct pf g)), .int (nI mo)])), (pa, .inl (cI, pz, .inl (insF mo ct pf g))), (ga, .inl (cI, 4, .inl g))]) := by
  by_cases hc : insC mo ct pf g
  · rw [insN_y hc, insF_y hc]
    exact c_PL_ins_put E sz pl pa ct mo pz pf ga g (ipl pf g ct) hpz hmo hct rfl hc.1 hc.2
  · rw [insN_n hc, insF_n hc]
    by_cases h1 : ipl pf g ct = 0 ∨ ord4 pf (ipl pf g ct - 1) g < 0
    · exact c_PL_ins_full E sz pl pa ct mo pz pf ga g (ipl pf g ct) hpz hmo hct rfl h1 (Nat.le_antisymm hct (Nat.not_lt.mp (fun z => hc ⟨h1, z⟩)))
    · exact c_PL_ins_same E sz pl pa ct mo pz pf ga g (ipl pf g ct) hpz hmo hct rfl h1

def dirg_p (cf : Nat → Int64) (z : Nat) (g : Nat → Int32) : Nat → Int32 := if z = 2 then upd (upd (upd (upd (upd (upd g 0 (0 : Int32)) 1 (0 : Int32)) 2 (0 : Int32)) 3 (0 : Int32)) 0 (dirc cf 2 (1 : Int32) 0)) 1 (dirc cf 2 (1 : Int32) 1) else if z = 3 then upd (upd (upd (upd (upd (upd (upd g 0 (0 : Int32)) 1 (0 : Int32)) 2 (0 : Int32)) 3 (0 : Int32)) 0 (dirc cf 3 (1 : Int32) 0)) 1 (dirc cf 3 (1 : Int32) 1)) 2 (dirc cf 3 (1 : Int32) 2) else upd (upd (upd (upd (upd (upd (upd (upd g 0 (0 : Int32)) 1 (0 : Int32)) 2 (0 : Int32)) 3 (0 : Int32)) 0 (dirc cf 4 (1 : Int32) 0)) 1 (dirc cf 4 (1 : Int32) 1)) 2 (dirc cf 4 (1 : Int32) 2)) 3 (dirc cf 4 (1 : Int32) 3)
theorem c_MI_dirg_p {l : Launch} {s0 : State} {b0 : Addr} {D : va_G} {cI cJ cZ : ClassId} {tC tS : Nat} (E : gE l s0 b0 D cI cJ cZ tC tS) (sz : Nat) (mi : Nat) (cu : Nat) (nx : Nat) (cf : Nat → Int64) (ga : Nat) (g : Nat → Int32) (z : Nat) (hz2 : 2 ≤ z) (hz4 : z ≤ 4) (hd : ¬ cdl cf (lev (z - 1)) = 0) : cx_M l s0 D kl y_MI_fillDirection b_MI_fillDirection 9 none ({ frames := 2, cells := 0, slots := 0, locals := 72 } : Room) 0 0 [.ref mi, .ref ga, .int (nI z), .int (1 : Int32)] [(mi, .inr (2, [.ref cu, .ref nx, .int (nI (z - 1))])), (cu, .inl (cJ, 16, .inr (.inl cf))), (ga, .inl (cI, 4, .inl g))] sz (fun o9 _ w9 => o9 = .returned none ∧ w9 = [(mi, .inr (2, [.ref cu, .ref nx, .int (nI (z - 1))])), (cu, .inl (cJ, 16, .inr (.inl cf))), (ga, .inl (cI, 4, .inl (dirg_p cf z g)))]) := by
  rcases (show z = 2 ∨ z = 3 ∨ z = 4 by omega) with rfl | rfl | rfl
  · exact c_MI_dir2_p E sz mi cu nx cf ga g hd
  · exact c_MI_dir3_p E sz mi cu nx cf ga g hd
  · exact c_MI_dir4_p E sz mi cu nx cf ga g hd

def dirg_m (cf : Nat → Int64) (z : Nat) (g : Nat → Int32) : Nat → Int32 := if z = 2 then upd (upd (upd (upd (upd (upd g 0 (0 : Int32)) 1 (0 : Int32)) 2 (0 : Int32)) 3 (0 : Int32)) 0 (dirc cf 2 (-1 : Int32) 0)) 1 (dirc cf 2 (-1 : Int32) 1) else if z = 3 then upd (upd (upd (upd (upd (upd (upd g 0 (0 : Int32)) 1 (0 : Int32)) 2 (0 : Int32)) 3 (0 : Int32)) 0 (dirc cf 3 (-1 : Int32) 0)) 1 (dirc cf 3 (-1 : Int32) 1)) 2 (dirc cf 3 (-1 : Int32) 2) else upd (upd (upd (upd (upd (upd (upd (upd g 0 (0 : Int32)) 1 (0 : Int32)) 2 (0 : Int32)) 3 (0 : Int32)) 0 (dirc cf 4 (-1 : Int32) 0)) 1 (dirc cf 4 (-1 : Int32) 1)) 2 (dirc cf 4 (-1 : Int32) 2)) 3 (dirc cf 4 (-1 : Int32) 3)
theorem c_MI_dirg_m {l : Launch} {s0 : State} {b0 : Addr} {D : va_G} {cI cJ cZ : ClassId} {tC tS : Nat} (E : gE l s0 b0 D cI cJ cZ tC tS) (sz : Nat) (mi : Nat) (cu : Nat) (nx : Nat) (cf : Nat → Int64) (ga : Nat) (g : Nat → Int32) (z : Nat) (hz2 : 2 ≤ z) (hz4 : z ≤ 4) (hd : ¬ cdl cf (lev (z - 1)) = 0) : cx_M l s0 D kl y_MI_fillDirection b_MI_fillDirection 9 none ({ frames := 2, cells := 0, slots := 0, locals := 72 } : Room) 0 0 [.ref mi, .ref ga, .int (nI z), .int (-1 : Int32)] [(mi, .inr (2, [.ref cu, .ref nx, .int (nI (z - 1))])), (cu, .inl (cJ, 16, .inr (.inl cf))), (ga, .inl (cI, 4, .inl g))] sz (fun o9 _ w9 => o9 = .returned none ∧ w9 = [(mi, .inr (2, [.ref cu, .ref nx, .int (nI (z - 1))])), (cu, .inl (cJ, 16, .inr (.inl cf))), (ga, .inl (cI, 4, .inl (dirg_m cf z g)))]) := by
  rcases (show z = 2 ∨ z = 3 ∨ z = 4 by omega) with rfl | rfl | rfl
  · exact c_MI_dir2_m E sz mi cu nx cf ga g hd
  · exact c_MI_dir3_m E sz mi cu nx cf ga g hd
  · exact c_MI_dir4_m E sz mi cu nx cf ga g hd

theorem c_MI_dirg_0 {l : Launch} {s0 : State} {b0 : Addr} {D : va_G} {cI cJ cZ : ClassId} {tC tS : Nat} (E : gE l s0 b0 D cI cJ cZ tC tS) (sz : Nat) (mi : Nat) (cu : Nat) (nx : Nat) (cf : Nat → Int64) (ga : Nat) (g : Nat → Int32) (z : Nat) (sg : Int32) (hz2 : 2 ≤ z) (hz4 : z ≤ 4) (hd : cdl cf (lev (z - 1)) = 0) : cx_M l s0 D kl y_MI_fillDirection b_MI_fillDirection 9 none ({ frames := 2, cells := 0, slots := 0, locals := 72 } : Room) 0 0 [.ref mi, .ref ga, .int (nI z), .int sg] [(mi, .inr (2, [.ref cu, .ref nx, .int (nI (z - 1))])), (cu, .inl (cJ, 16, .inr (.inl cf))), (ga, .inl (cI, 4, .inl g))] sz (fun o9 _ w9 => o9 = .returned none ∧ w9 = [(mi, .inr (2, [.ref cu, .ref nx, .int (nI (z - 1))])), (cu, .inl (cJ, 16, .inr (.inl cf))), (ga, .inl (cI, 4, .inl g))]) := by
  rcases (show z = 2 ∨ z = 3 ∨ z = 4 by omega) with rfl | rfl | rfl
  · exact c_MI_dir2_0 E sz mi cu nx cf ga g sg hd
  · exact c_MI_dir3_0 E sz mi cu nx cf ga g sg hd
  · exact c_MI_dir4_0 E sz mi cu nx cf ga g sg hd

