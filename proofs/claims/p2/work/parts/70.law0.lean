/-! ===== own rows, laid by wip/tools/g50.py: the law's cases ===== -/
theorem lk5 (w : Int32) : w = 0 ∨ w = 1 ∨ w = 2 ∨ w = 3 ∨ (w.toInt < 0 ∨ 3 < w.toInt) := by
  by_cases h : w.toInt < 0 ∨ 3 < w.toInt
  · exact Or.inr (Or.inr (Or.inr (Or.inr h)))
  · have h1 : w.toInt = 0 ∨ w.toInt = 1 ∨ w.toInt = 2 ∨ w.toInt = 3 := by omega
    rcases h1 with h1 | h1 | h1 | h1
    · exact Or.inl (Int32.toInt_inj.mp (h1.trans (by decide)))
    · exact Or.inr (Or.inl (Int32.toInt_inj.mp (h1.trans (by decide))))
    · exact Or.inr (Or.inr (Or.inl (Int32.toInt_inj.mp (h1.trans (by decide)))))
    · exact Or.inr (Or.inr (Or.inr (Or.inl (Int32.toInt_inj.mp (h1.trans (by decide))))))
theorem lk9 {w : Int32} (h : w.toInt < 0 ∨ 3 < w.toInt) : ¬ w = 0 ∧ ¬ w = 1 ∧ ¬ w = 2 ∧ ¬ w = 3 := by
  refine ⟨?_, ?_, ?_, ?_⟩ <;> (intro e; subst e; revert h; decide)
theorem sw16 (x : Int32) : ∃ k : Nat, k < 16 ∧ x &&& 15 = Int32.ofNat k := by
  refine ⟨(x &&& 15).toBitVec.toNat, ?_, ?_⟩
  · have h : (x &&& 15).toBitVec = x.toBitVec &&& 15#32 := rfl
    rw [h, BitVec.toNat_and]
    exact Nat.lt_of_le_of_lt Nat.and_le_right (by decide)
  · apply Int32.toBitVec_inj.mp
    apply BitVec.eq_of_toNat_eq
    show _ = (BitVec.ofNat 32 _).toNat
    rw [BitVec.toNat_ofNat, Nat.mod_eq_of_lt (BitVec.isLt _)]
theorem lgs {x y : Int64} (h : x = y) : lg_cmp x y = 0 := by
  subst h
  unfold lg_cmp
  simp
theorem c_D_look {l : Launch} {s0 : State} {b0 : Addr} {D : va_G} {cI cJ cZ : ClassId} {tC tS : Nat} (E : gE l s0 b0 D cI cJ cZ tC tS) (sz : Nat) (d0 : Nat) (gv : Nat) (dr : Nat) (rl : Nat) (yl : Nat) (mi : Nat) (fl : Nat) (bf : Nat) (dm : Int32) (rk : Int32) (sp : Int32) (kn : Int32) (rc : Nat) (ct : Int32) (mo : Int32) (w : Int32) : cx_M l s0 D kl y_D_look b_D_look 2 (some .int) ({ frames := 0, cells := 0, slots := 0, locals := 0 } : Room) 0 0 [.ref d0, .int w] [(d0, .inr (0, [.int dm, .ref gv, .ref dr, .ref rl, .ref yl, .ref mi, .ref fl, .ref bf, .int rk, .int sp, .int kn])), (rl, .inr (1, [.ref rc, .int ct, .int mo]))] sz (fun o9 _ w9 => o9 = .returned (some (.int (lkv dm ct rk w))) ∧ w9 = [(d0, .inr (0, [.int dm, .ref gv, .ref dr, .ref rl, .ref yl, .ref mi, .ref fl, .ref bf, .int rk, .int sp, .int kn])), (rl, .inr (1, [.ref rc, .int ct, .int mo]))]) := by
  rcases lk5 w with rfl | rfl | rfl | rfl | h
  · rw [show lkv dm ct rk 0 = dm from by unfold lkv; rw [if_pos rfl]]; exact c_D_look0 E sz d0 gv dr rl yl mi fl bf dm rk sp kn rc ct mo
  · rw [show lkv dm ct rk 1 = ct from by unfold lkv; rw [if_neg (by decide), if_pos rfl]]; exact c_D_look1 E sz d0 gv dr rl yl mi fl bf dm rk sp kn rc ct mo
  · rw [show lkv dm ct rk 2 = rk from by unfold lkv; rw [if_neg (by decide), if_neg (by decide), if_pos rfl]]; exact c_D_look2 E sz d0 gv dr rl yl mi fl bf dm rk sp kn rc ct mo
  · rw [show lkv dm ct rk 3 = dm - rk from by unfold lkv; rw [if_neg (by decide), if_neg (by decide), if_neg (by decide), if_pos rfl]]; exact c_D_look3 E sz d0 gv dr rl yl mi fl bf dm rk sp kn rc ct mo
  · obtain ⟨h0, h1, h2, h3⟩ := lk9 h
    rw [show lkv dm ct rk w = -1 from by unfold lkv; rw [if_neg h0, if_neg h1, if_neg h2, if_neg h3]]; exact c_D_look9 E sz d0 gv dr rl yl mi fl bf dm rk sp kn rc ct mo w h

