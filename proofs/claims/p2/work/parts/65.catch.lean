/-! ===== own rows: catching in the law's helpers ===== -/
theorem cat_yes {s0 s : State} {b0 : Addr} (G : gw s0 b0) (hx0 : gx s0 s) {X : String} (hc : Cond.castable X X ∈ lw_tbl) {k1 k2 : ClassId} (h1 : s.vm.findClass X = some k1) (h2 : s.vm.findClass X = some k2) : s.vm.assignable k1 k2 = true := by
  have h := gw.at G hx0 hc rfl #[]
  obtain ⟨c1, c2, q1, q2, q3⟩ := Cond.castable_spec h
  cases h1.symm.trans q1
  cases h2.symm.trans q2
  exact q3
theorem cat_no {s0 s : State} {A : Array Value} (hx0 : gx s0 s) {X Y : String} (hn : (Cond.not (Cond.castable X Y)).before A s0 = true) {k1 k2 : ClassId} (h1 : s.vm.findClass X = some k1) (h2 : s.vm.findClass Y = some k2) : s.vm.assignable k1 k2 = false := by
  rw [hx0.1.alike.findClass] at h1 h2
  have h3 := hx0.1.alike.assignable k1 k2
  rw [h3]
  simp only [Cond.before, Cond.holds, Cond.value, h1, h2] at hn
  cases hq : s0.vm.assignable k1 k2 with
  | false => rfl
  | true => rw [hq] at hn; simp at hn
section CX16
variable {p : Program} {l : Launch} {e : Env} {R : Room} {s : State} {m : MethodId} {args : Array Value} {below : List Frame} {meth : Method} {c : Code} {H : Heap} {locs : List Loc} {cells slots : Nat} {Q : State → Prop} {s0 : State} {b0 : Addr} {pc : Nat} {ls : Array Slot} {st : List Value}
theorem cx_catch1 {y : ExceptionTableEntry} {rs : List ExceptionTableEntry} {X : String} {x : Addr} {t : State} (G : gw s0 b0) (hx0 : gx s0 s) (hown : s.vm.findClass cn_L = some m.cls) (htab : c.exceptionTable.toList = y :: rs) (hy : covers y pc = true) (h0 : y.catchType ≠ 0)
    (hlink : Cond.classLink cn_L y.catchType X ∈ lw_tbl) (hcast : Cond.castable X X ∈ lw_tbl) (hinst : Cond.instantiable X 6 ∈ lw_tbl) (ht : t.heap = H) (hW : s.WarmedH t.vm) (hX : tx_X X x t)
    (kk : W p l e R s m args below meth c H locs cells slots Q (F0 m y.handlerPc ls [.ref x])) : tx_T p l e R s m args below meth c H locs cells slots Q (F0 m pc ls st) x := by
  obtain ⟨cell, q1, q2, q3⟩ := hX
  rw [hW.alike.findClass] at q3
  obtain ⟨cC, kC, hfc, hk, -⟩ := Cond.instantiable_spec (gw.at G hx0 hinst rfl #[])
  cases q3.symm.trans hfc
  exact tx_catch1 htab hy h0 hown (gw.at G hx0 hlink rfl _) (by rw [← ht]; exact q1) q2 ⟨kC, hk⟩ (fun k hk' => cat_yes G hx0 hcast q3 hk') kk
theorem cx_catch2 {y1 y : ExceptionTableEntry} {rs : List ExceptionTableEntry} {X X1 : String} {x : Addr} {t : State} {A : Array Value} (G : gw s0 b0) (hx0 : gx s0 s) (hown : s.vm.findClass cn_L = some m.cls) (htab : c.exceptionTable.toList = y1 :: y :: rs) (hy1 : covers y1 pc = true) (h01 : y1.catchType ≠ 0) (hy : covers y pc = true) (h0 : y.catchType ≠ 0)
    (hlink1 : Cond.classLink cn_L y1.catchType X1 ∈ lw_tbl) (hlink : Cond.classLink cn_L y.catchType X ∈ lw_tbl) (hno : (Cond.not (Cond.castable X X1)).before A s0 = true) (hcast : Cond.castable X X ∈ lw_tbl) (hinst : Cond.instantiable X 6 ∈ lw_tbl) (ht : t.heap = H) (hW : s.WarmedH t.vm) (hX : tx_X X x t)
    (kk : W p l e R s m args below meth c H locs cells slots Q (F0 m y.handlerPc ls [.ref x])) : tx_T p l e R s m args below meth c H locs cells slots Q (F0 m pc ls st) x := by
  obtain ⟨cell, q1, q2, q3⟩ := hX
  rw [hW.alike.findClass] at q3
  obtain ⟨cC, kC, hfc, hk, -⟩ := Cond.instantiable_spec (gw.at G hx0 hinst rfl #[])
  cases q3.symm.trans hfc
  exact tx_catch2 htab hy1 h01 hy h0 hown (gw.at G hx0 hlink1 rfl _) (gw.at G hx0 hlink rfl _) (by rw [← ht]; exact q1) q2 ⟨kC, hk⟩ (fun k hk' => cat_no hx0 hno q3 hk') (fun k hk' => cat_yes G hx0 hcast q3 hk') kk
end CX16
theorem hc_a : Cond.castable ex_a ex_a ∈ lw_tbl := by decide +kernel
theorem hc_s : Cond.castable ex_s ex_s ∈ lw_tbl := by decide +kernel
theorem hc_x : Cond.castable ex_x ex_x ∈ lw_tbl := by decide +kernel
theorem hi_a : Cond.instantiable ex_a 6 ∈ lw_tbl := by decide +kernel
theorem hi_s : Cond.instantiable ex_s 6 ∈ lw_tbl := by decide +kernel
theorem hi_x : Cond.instantiable ex_x 6 ∈ lw_tbl := by decide +kernel
theorem hk_a : Cond.classLink cn_L 13 ex_a ∈ lw_tbl := by decide +kernel
theorem hk_s : Cond.classLink cn_L 15 ex_s ∈ lw_tbl := by decide +kernel
theorem hk_x : Cond.classLink cn_L 21 ex_x ∈ lw_tbl := by decide +kernel
