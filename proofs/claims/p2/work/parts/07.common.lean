/-! ===== own rows: the classes of the worlds, what every method is given, throws of the class, new arrays ===== -/
def kl : List vw_C := [(cn_D, ft_D, 11), (cn_PL, ft_PL, 3), (cn_MI, ft_MI, 3), (cn_FL, ft_FL, 5), (cn_SI, ft_SI, 4), (cn_IP, ft_IP, 8), (cn_BF, ft_BF, 9), (cn_M, ft_M, 19)]
theorem fw_D : ∀ w ∈ u_ws cn_D ft_D 11, w ∈ lw_tbl := by decide +kernel
theorem fo_D : ∀ w ∈ u_ws cn_D ft_D 11, cw_ok w = true := by decide +kernel
theorem fw_PL : ∀ w ∈ u_ws cn_PL ft_PL 3, w ∈ lw_tbl := by decide +kernel
theorem fo_PL : ∀ w ∈ u_ws cn_PL ft_PL 3, cw_ok w = true := by decide +kernel
theorem fw_MI : ∀ w ∈ u_ws cn_MI ft_MI 3, w ∈ lw_tbl := by decide +kernel
theorem fo_MI : ∀ w ∈ u_ws cn_MI ft_MI 3, cw_ok w = true := by decide +kernel
theorem fw_FL : ∀ w ∈ u_ws cn_FL ft_FL 5, w ∈ lw_tbl := by decide +kernel
theorem fo_FL : ∀ w ∈ u_ws cn_FL ft_FL 5, cw_ok w = true := by decide +kernel
theorem fw_SI : ∀ w ∈ u_ws cn_SI ft_SI 4, w ∈ lw_tbl := by decide +kernel
theorem fo_SI : ∀ w ∈ u_ws cn_SI ft_SI 4, cw_ok w = true := by decide +kernel
theorem fw_IP : ∀ w ∈ u_ws cn_IP ft_IP 8, w ∈ lw_tbl := by decide +kernel
theorem fo_IP : ∀ w ∈ u_ws cn_IP ft_IP 8, cw_ok w = true := by decide +kernel
theorem fw_BF : ∀ w ∈ u_ws cn_BF ft_BF 9, w ∈ lw_tbl := by decide +kernel
theorem fo_BF : ∀ w ∈ u_ws cn_BF ft_BF 9, cw_ok w = true := by decide +kernel
theorem fw_M : ∀ w ∈ u_ws cn_M ft_M 19, w ∈ lw_tbl := by decide +kernel
theorem fo_M : ∀ w ∈ u_ws cn_M ft_M 19, cw_ok w = true := by decide +kernel
def ge_heapy : List Cond := [.laysStatic "java/lang/Throwable" "UNASSIGNED_STACK" "[Ljava/lang/StackTraceElement;", .laysStatic "java/lang/Throwable" "SUPPRESSED_SENTINEL" "Ljava/util/List;", .isRef (.static "java/lang/Throwable" "UNASSIGNED_STACK" "[Ljava/lang/StackTraceElement;"), .isRef (.static "java/lang/Throwable" "SUPPRESSED_SENTINEL" "Ljava/util/List;")]
def ge_texts : List (Nat × String) := [(72, "a row has coordinates -5 .. 5, not all of them 0"), (82, "eight rows are there"), (171, "no such row"), (173, "no such coordinate"), (177, "the cone is not pointed"), (115, "no such ray"), (175, "the cone is large"), (141, "no such point"), (151, "a coordinate is not -1000 .. 1000")]
def ge_nm : List String := ["java/lang/RuntimeException", "java/lang/Exception"]
def ge_site (ic : Nat) (X : String) : Prop := ∀ w ∈ Bundle.ownAtoms cn_D ic X ge_nm, (w ∈ lw_tbl ∧ cw_ok w = true) ∨ w ∈ ge_heapy
def ex_a : String := "java/lang/IllegalArgumentException"
theorem st_a : ge_site 74 ex_a := by unfold ge_site; decide +kernel
theorem sl_a : Cond.classLink cn_D 70 ex_a ∈ lw_tbl := by decide +kernel
theorem si_a : Cond.initialized ex_a ∈ lw_tbl := by decide +kernel
theorem sf_a : Bundle.fit ex_a = true := by decide +kernel
def ex_s : String := "java/lang/IllegalStateException"
theorem st_s : ge_site 84 ex_s := by unfold ge_site; decide +kernel
theorem sl_s : Cond.classLink cn_D 80 ex_s ∈ lw_tbl := by decide +kernel
theorem si_s : Cond.initialized ex_s ∈ lw_tbl := by decide +kernel
theorem sf_s : Bundle.fit ex_s = true := by decide +kernel
def ex_x : String := "java/lang/IndexOutOfBoundsException"
theorem st_x : ge_site 117 ex_x := by unfold ge_site; decide +kernel
theorem sl_x : Cond.classLink cn_D 113 ex_x ∈ lw_tbl := by decide +kernel
theorem si_x : Cond.initialized ex_x ∈ lw_tbl := by decide +kernel
theorem sf_x : Bundle.fit ex_x = true := by decide +kernel
theorem sf_nm : ∀ n ∈ ge_nm, Bundle.fit n = true := by decide +kernel
-- the two tables of the class
def ch_t : List Int32 := [0, 1, 2, 4, 8, 3, 5, 6, 9, 10, 12, 7, 11, 13, 14, 15]
def cs_t : List Int32 := [0, 1, 5, 11, 15, 16]
def gz (s0 : State) (tC tS : Nat) : Prop := va_Z cn_D "CHOICES" "[I" (.ref tC) (fun q => s0.heap.size ≤ q) s0 s0.heap ∧ va_T .int tC 16 (fun k => .int (ch_t.getD k 0)) (fun q => s0.heap.size ≤ q) s0 s0.heap ∧
  va_Z cn_D "CHOICE_STARTS" "[I" (.ref tS) (fun q => s0.heap.size ≤ q) s0 s0.heap ∧ va_T .int tS 6 (fun k => .int (cs_t.getD k 0)) (fun q => s0.heap.size ≤ q) s0 s0.heap
def gs (s0 : State) (b0 : Addr) : Prop := (∀ w ∈ ge_heapy, w.before #[Value.ref b0] s0 = true) ∧ ∀ q ∈ ge_texts, ∃ sa, vk_R cn_D q.1 q.2 sa s0
/-- what every method is given of the one start -/
def gE (l : Launch) (s0 : State) (b0 : Addr) (D : va_G) (cI cJ cZ : ClassId) (tC tS : Nat) : Prop := l.stackTraces = false ∧ gw s0 b0 ∧ va_K D kl [(cI, .int), (cJ, .long), (cZ, .boolean)] s0 ∧ gz s0 tC tS ∧ gs s0 b0
theorem gs.at {s0 U : State} {b0 : Addr} (h : gs s0 b0) (hx : gx s0 U) {w : Cond} (hw : w ∈ ge_heapy) (A : Array Value) : w.before A U = true := by
  have h1 := h.1 _ (show Cond.laysStatic "java/lang/Throwable" "UNASSIGNED_STACK" "[Ljava/lang/StackTraceElement;" ∈ ge_heapy by simp [ge_heapy])
  have h2 := h.1 _ (show Cond.laysStatic "java/lang/Throwable" "SUPPRESSED_SENTINEL" "Ljava/util/List;" ∈ ge_heapy by simp [ge_heapy])
  have h0 := h.1 w hw
  simp only [ge_heapy, List.mem_cons, List.not_mem_nil, or_false] at hw
  rcases hw with rfl | rfl | rfl | rfl
  · exact gx_lays hx h0
  · exact gx_lays hx h0
  · exact gx_isRef hx h1 h0
  · exact gx_isRef hx h2 h0
section CX7
variable {p : Program} {l : Launch} {e : Env} {R : Room} {s : State} {m : MethodId} {args : Array Value} {below : List Frame} {meth : Method} {c : Code} {H : Heap} {locs : List Loc} {cells slots : Nat} {Q : State → Prop}
variable {D : va_G} {cI cJ cZ : ClassId} {tC tS : Nat} {s0 : State} {b0 : Addr} {A : Nat → Prop} {ws : va_W} {cc : ByteArray} {pc : Nat} {ls : Array Slot} {rest : List Value}
/-- throw new X("..") in the class, with the world as it is -/
theorem cx_throw {nL ik is ic : Nat} {X text : String} {post : Outcome → State → va_W → Prop} (E : gE l s0 b0 D cI cJ cZ tC tS) (hx0 : gx s0 s) (hx : p.tables.exec = Jvm.exec) (hb : c.code = cc) (hml : c.maxLocals = nL) (hls : ls.size = nL) (hlocks : meth.locks = false) (hown : s.vm.findClass cn_D = some m.cls) (hT : c.exceptionTable.isEmpty = true)
    (hP : va_P D kl ws H) (hD : va_D A ws) (hS : va_S A s.heap H locs) (hA0 : ∀ q, A q → s0.heap.size ≤ q)
    (h1 : ge_site ic X) (h2 : Cond.classLink cn_D ik X ∈ lw_tbl) (h3 : Cond.initialized X ∈ lw_tbl) (h4 : Bundle.fit X = true) (h5 : (is, text) ∈ ge_texts)
    (d0 : decode cc pc = .ok (.new ik, 3)) (d3 : decode cc (pc + 3) = .ok (.dup, 1)) (d4 : decode cc (pc + 3 + 1) = .ok (.ldc is, 2)) (d6 : decode cc (pc + 3 + 1 + 2) = .ok (.invokespecial ic, 3)) (d9 : decode cc (pc + 3 + 1 + 2 + 3) = .ok (.athrow, 1))
    (hR : 5 < R.frames ∧ 82 ≤ R.locals ∧ cells + 1 ≤ R.cells ∧ slots + 6 ≤ R.slots) (hpost : ∀ (x : Nat) (t : State), tx_X X x t → post (.threw x) t ws) :
    W p l e R s m args below meth c H locs cells slots (tx_Z below (cx_Q D kl A post) args s (cells + 1) (slots + 6) A) (F0 m pc ls []) := by
  obtain ⟨hst, G, hK0, hz, hg⟩ := E
  obtain ⟨sa, hsa⟩ := hg.2 _ h5
  refine tx_throw (names := ge_nm) (text := text) (sa := sa) hx hb (hml.trans hls.symm) hlocks hst hown h4 sf_nm (fun U hU hW => ?_) d0 d3 d4 d6 d9 ?_ hR.1 (by show 1 + (13 * (2 + 1) + 42) ≤ _; exact hR.2.1) hR.2.2.1 hR.2.2.2 (fun t hW hz1 hk hX => ?_) hS.2.2
  · have hU2 : gx s0 U := gx.on hx0 hW (by rw [hU]; exact hS) hA0
    refine ⟨fun w hw => ?_, gw.at G hU2 h2 rfl _, gw.at G hU2 h3 rfl _, vk_R.warm hU2.1 hsa⟩
    rcases h1 w hw with h | h
    · exact gw.at G hU2 h.1 h.2 _
    · exact hg.at hU2 h _
  · intro y hy
    have h9 : c.exceptionTable.toList = [] := by
      have h8 := Array.isEmpty_iff.mp hT
      rw [h8]
    rw [h9] at hy
    cases hy
  · refine ⟨⟨ws, hpost _ t hX, hP.kept (fun k q hq => hk _ (hP k q hq).lt), hD⟩, Nat.le_trans hS.1 (by rw [hz1]; exact Nat.le_succ _), fun q q1 q2 => ?_⟩
    rw [hk q (Nat.lt_of_lt_of_le q1 hS.1)]
    exact hS.2.1 q q1 q2
/-- a name for a number -/
theorem tp_i {x y : Int32} (h : x = y) (k : W p l e R s m args below meth c H locs cells slots Q (F0 m pc ls (.int y :: rest))) : W p l e R s m args below meth c H locs cells slots Q (F0 m pc ls (.int x :: rest)) := by rw [h]; exact k
theorem tp_l {x y : Int64} (h : x = y) (k : W p l e R s m args below meth c H locs cells slots Q (F0 m pc ls (.long y :: rest))) : W p l e R s m args below meth c H locs cells slots Q (F0 m pc ls (.long x :: rest)) := by rw [h]; exact k
/-- a new array of a primitive type, its class known -/
theorem cx_newa {H0 : Heap} {tys : List (ClassId × FieldType)} {cA : ClassId} {atype : ArrayType} {ty : FieldType} (t0 : Nat) (hexec : p.tables.exec = Jvm.exec) (hb : c.code = cc) (harr : (Cond.arrayClass (newarray.typeOf atype)).before args s = true) (hty : newarray.typeOf atype = ty) (hno : ∀ C, ty ≠ .object C) (hK : va_K D kl tys s) (ht : tys[t0]? = some (cA, ty))
    (hP : va_P D kl ws H) (hD : va_D A ws) (hS : va_S A H0 H locs) (hA : ∀ q, H0.size ≤ q → A q)
    {n : Int32} {N' : Nat} {a0 : vp_A} (ha : ∀ cA : ClassId, vp_cell cA a0 = arrV cA N' (fun _ => defaultValue ty)) (hn : ¬ n < 0) (hN : n.toNatClampNeg = N') (hbytes : N' * componentBytes ty ≤ 536870912) (hcells : cells + 1 ≤ R.cells) (hslots : slots + N' ≤ R.slots) (hdg : decode cc pc = .ok (.newarray atype, 2))
    (kk : ∀ (q : Nat) (H1 : Heap), va_P D kl (ws ++ [(q, .inl (cA, a0))]) H1 → va_D A (ws ++ [(q, .inl (cA, a0))]) → va_S A H0 H1 locs → W p l e R s m args below meth c H1 locs (cells + 1) (slots + N') Q (F0 m (pc + 2) ls (.ref q :: rest))) : W p l e R s m args below meth c H locs cells slots Q (F0 m pc ls (.int n :: rest)) := by
  refine va_newa hexec hb harr hty hK hP hD hS hA ha hn hN hbytes hcells hslots hdg fun q cB H1 hK1 hP1 hD1 hS1 => ?_
  have h1 := (hK.2 t0 _ ht).2
  have h2 := (hK1.2 tys.length (cB, ty) (by simp)).2
  have h3 : cA = cB := by
    cases ty with
    | object C => exact absurd rfl (hno C)
    | _ => exact Option.some.inj ((show s.vm.findClass _ = some cA from h1).symm.trans (show s.vm.findClass _ = some cB from h2))
  subst h3
  exact kk q H1 hP1 hD1 hS1
end CX7
