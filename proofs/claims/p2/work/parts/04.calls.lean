/-! ===== own rows (DRAFT, not built yet): contracts over worlds behind one start, and calls by them ===== -/
def cx_P (s0 : State) (D : va_G) (cl : List vw_C) (ws : va_W) (sz : Nat) (U : State) : Prop := U.heap.size = sz ∧ va_P D cl ws U.heap ∧ va_D (fun q => s0.heap.size ≤ q) ws ∧ gx s0 U
def cx_Q (D : va_G) (cl : List vw_C) (A : Nat → Prop) (post : Outcome → State → va_W → Prop) : Array Value → State → Outcome → State → Prop := fun _ st o t => (∃ w : va_W, post o t w ∧ va_P D cl w t.heap ∧ va_D A w) ∧ va_F A st t
/-- a method's contract: arguments, world, room, what is made, how it ends -/
abbrev cx_M (l : Launch) (s0 : State) (D : va_G) (cl : List vw_C) (y : MethodName) (cc : ByteArray) (maxL : Nat) (ret : Option FieldType) (rm : Room) (mc ms : Nat) (av : List Value) (ws : va_W) (sz : Nat) (post : Outcome → State → va_W → Prop) : Prop :=
  tx_Met l y [.code y cc maxL ret] rm (va_Pc av (cx_P s0 D cl ws sz)) (cx_Q D cl (va_A ws sz) post) mc ms (va_A ws sz)
/-- the same of a method with handlers -/
abbrev cx_MH (l : Launch) (s0 : State) (D : va_G) (cl : List vw_C) (y : MethodName) (cc : ByteArray) (maxL : Nat) (ret : Option FieldType) (hs : List (Nat × Nat × Nat × Nat)) (rm : Room) (mc ms : Nat) (av : List Value) (ws : va_W) (sz : Nat) (post : Outcome → State → va_W → Prop) : Prop :=
  tx_Met l y [.codeWith y cc maxL ret hs] rm (va_Pc av (cx_P s0 D cl ws sz)) (cx_Q D cl (va_A ws sz) post) mc ms (va_A ws sz)
theorem cx_blind {s0 : State} {D : va_G} {cl : List vw_C} {ws : va_W} {sz : Nat} {av : List Value} : FrameBlind (va_Pc av (cx_P s0 D cl ws sz)) := fun _ _ _ _ q => q
theorem gw.later {s0 s U : State} {b : Addr} (G : gw s0 b) (hx : gx s0 s) {w : Cond} (hm : w ∈ lw_tbl) (hok : cw_ok w = true) (hW : s.WarmedH U.vm) (A : Array Value) : w.before A U = true := cw_warm hok (State.WarmedH.trans hx.1 hW) (G w hm)
theorem cx_new {s0 : State} {ws : va_W} {sz : Nat} (hD : va_D (fun q => s0.heap.size ≤ q) ws) (hz : s0.heap.size ≤ sz) : ∀ q, va_A ws sz q → s0.heap.size ≤ q := by
  intro q h
  rcases h with ⟨k, e, h⟩ | h
  · exact hD.2 k (q, e) h
  · exact Nat.le_trans hz h
section CX1
variable {p : Program} {l : Launch} {e : Env} {R : Room} {s : State} {m : MethodId} {args : Array Value} {below : List Frame} {meth : Method} {c : Code} {H : Heap} {locs : List Loc} {cells slots : Nat} {Q : State → Prop}
variable {D : va_G} {cl : List vw_C} {s0 : State} {b0 : Addr} {A0 : Nat → Prop} {ws wc wr : va_W} {H0 : Heap}
/-- behind a call by a contract over the cells wc of the world ws -/
theorem cx_call {mc ms pc : Nat} {ls : Array Slot} {st0 rest : List Value} {a : Array Value} {post : Outcome → State → va_W → Prop}
    (hr : tx_Run p l e R s m args below meth c H locs cells slots mc ms (F0 m pc ls st0) rest (cx_Q D cl (va_A wc H.size) post a) (va_A wc H.size))
    (hP : va_P D cl ws H) (hD : va_D A0 ws) (hS : va_S A0 H0 H locs) (hA : ∀ q, H0.size ≤ q → A0 q) (isC isR : List Nat) (hC : isC.map (fun i => ws[i]?) = wc.map some) (hR : isR.map (fun i => ws[i]?) = wr.map some) (hn : va_nd isR = true) (hdis : ∀ i ∈ isR, i ∉ isC)
    (kr : ∀ (v : Option Value) (t : State) (w1 : va_W) (H1 : Heap) (locs1 : List Loc), t.heap = H1 → s.WarmedH t.vm → post (.returned v) t w1 → va_P D cl (wr ++ w1) H1 → va_D A0 (wr ++ w1) → va_S A0 H0 H1 locs1 → W p l e R s m args below meth c H1 locs1 (cells + mc) (slots + ms) Q (F0 m (pc + 3) ls (v.toList ++ rest)))
    (kt : ∀ (x : Addr) (t : State) (w1 : va_W) (H1 : Heap) (locs1 : List Loc), t.heap = H1 → s.WarmedH t.vm → post (.threw x) t w1 → va_P D cl (wr ++ w1) H1 → va_D A0 (wr ++ w1) → va_S A0 H0 H1 locs1 → tx_T p l e R s m args below meth c H1 locs1 (cells + mc) (slots + ms) Q (F0 m pc ls rest) x) :
    W p l e R s m args below meth c H locs cells slots Q (F0 m pc ls st0) := by
  have hF := va_free (wc := wc) hD hS hA isC hC
  have key : ∀ (o : Outcome) (st₀ t : State) (L : List Loc), st₀.heap = H → cx_Q D cl (va_A wc H.size) post a st₀ o t → (∀ q ∈ L, va_A wc H.size q.base) →
      ∃ w1, post o t w1 ∧ va_P D cl (wr ++ w1) t.heap ∧ va_D A0 (wr ++ w1) ∧ va_S A0 H0 t.heap (locs ++ L) := by
    intro o st₀ t L h0 hq hL
    obtain ⟨⟨w1, h1, h2, h3⟩, h4, h5⟩ := hq
    rw [h0] at h4 h5
    obtain ⟨g1, g2⟩ := va_join hP hD isC isR hC hR hn hdis h5 hF h2 h3
    refine ⟨w1, h1, g1, g2, Nat.le_trans hS.1 h4, fun q q1 q2 => ?_, fun q hq => ?_⟩
    · rw [h5 q (Nat.lt_of_lt_of_le q1 hS.1) (fun z => q2 (hF q z))]; exact hS.2.1 q q1 q2
    · rcases List.mem_append.mp hq with h | h
      · exact hS.2.2 q h
      · exact hF _ (hL q h)
  refine tx_call hr (fun v st₀ t L h0 hW hq hL => ?_) (fun x st₀ t L h0 hW hq hL => ?_)
  · obtain ⟨w1, h1, h2, h3, h4⟩ := key _ st₀ t L h0 hq hL
    exact kr v t w1 t.heap _ rfl hW h1 h2 h3 h4
  · obtain ⟨w1, h1, h2, h3, h4⟩ := key _ st₀ t L h0 hq hL
    exact kt x t w1 t.heap _ rfl hW h1 h2 h3 h4
/-- the callee's start, out of the caller's world -/
theorem cx_pre {av : List Value} (hx0 : gx s0 s) (hP : va_P D cl ws H) (hD : va_D A0 ws) (hS : va_S A0 s.heap H locs) (hA0 : ∀ q, A0 q → s0.heap.size ≤ q) (isC : List Nat) (hC : isC.map (fun i => ws[i]?) = wc.map some) (hC2 : isC.filterMap (fun i => ws[i]?) = wc) (hnC : va_nd isC = true) :
    ∀ U : State, U.heap = H → s.WarmedH U.vm → va_Pc av (cx_P s0 D cl wc H.size) av.toArray U := by
  intro U hU hW
  subst hU
  exact ⟨rfl, rfl, hP.sub isC hC2, (hD.sub isC hnC hC).weaken (fun _ _ _ h => hA0 _ h), gx.on hx0 hW hS hA0⟩
/-- a callee's code, in the form that a call asks -/
theorem cx_C (G : gw s0 b0) (hx0 : gx s0 s) {y : MethodName} {cc : ByteArray} {maxL n : Nat} {ret : Option FieldType} {rm : Room} {mc ms : Nat} (m1 : Cond.code y cc maxL ret ∈ lw_tbl) (m5 : Cond.initialized y.cls ∈ lw_tbl)
    (hy : y.cls ≠ "java/lang/invoke/MethodHandle" ∧ y.cls ≠ "java/lang/invoke/VarHandle" ∧ (parseMethodDescriptor y.desc).map (fun d => d.parameters.length) = some n) (hrm : rm.cells = mc ∧ rm.slots = ms ∧ rm.frames + 1 ≤ R.frames ∧ 8 + (maxL + 11) + rm.locals ≤ R.locals) :
    tx_C R s args y [.code y cc maxL ret] rm mc ms maxL n := by
  have hcode : (Cond.code y cc maxL ret).before args s = true := gw.at G hx0 m1 rfl args
  obtain ⟨mk, hnamed⟩ := Cond.code_named hcode
  obtain ⟨methM, cM, hmM, hcM, -, hlM, -, -, -, hsigM⟩ := Cond.code_spec hnamed hcode
  refine ⟨hrm, fun w hw a' U hW => ?_, fun a' U hW => gw.later G hx0 m5 rfl hW a', ⟨hy.1, hy.2.1⟩, fun sig h => ?_, mk, methM, cM, hnamed, hmM, hcM, hlM, hsigM⟩
  · rw [List.mem_singleton.mp hw]; exact gw.later G hx0 m1 rfl hW a'
  · have h2 := hy.2.2
    rw [h] at h2
    exact (Option.some.inj h2).symm
theorem cx_CH (G : gw s0 b0) (hx0 : gx s0 s) {y : MethodName} {cc : ByteArray} {maxL n : Nat} {ret : Option FieldType} {hs : List (Nat × Nat × Nat × Nat)} {rm : Room} {mc ms : Nat} (m1 : Cond.codeWith y cc maxL ret hs ∈ lw_tbl) (m5 : Cond.initialized y.cls ∈ lw_tbl)
    (hy : y.cls ≠ "java/lang/invoke/MethodHandle" ∧ y.cls ≠ "java/lang/invoke/VarHandle" ∧ (parseMethodDescriptor y.desc).map (fun d => d.parameters.length) = some n) (hrm : rm.cells = mc ∧ rm.slots = ms ∧ rm.frames + 1 ≤ R.frames ∧ 8 + (maxL + 11) + rm.locals ≤ R.locals) :
    tx_C R s args y [.codeWith y cc maxL ret hs] rm mc ms maxL n := by
  have hcode : (Cond.codeWith y cc maxL ret hs).before args s = true := gw.at G hx0 m1 rfl args
  obtain ⟨mk, methM, cM, hnamed, hmM, hcM, -, hlM, -, -, -, hsigM⟩ := Cond.codeWith_spec hcode
  refine ⟨hrm, fun w hw a' U hW => ?_, fun a' U hW => gw.later G hx0 m5 rfl hW a', ⟨hy.1, hy.2.1⟩, fun sig h => ?_, mk, methM, cM, hnamed, hmM, hcM, hlM, hsigM⟩
  · rw [List.mem_singleton.mp hw]; exact gw.later G hx0 m1 rfl hW a'
  · have h2 := hy.2.2
    rw [h] at h2
    exact (Option.some.inj h2).symm
end CX1
