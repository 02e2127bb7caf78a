/-! ===== own rows (DRAFT, not built yet): throwing and catching ===== -/
section TX2
variable {p : Program} {l : Launch} {e : Env} {R : Room} {s : State} {m : MethodId} {args : Array Value} {below : List Frame} {meth : Method} {c : Code} {H : Heap} {locs : List Loc} {cells slots : Nat} {Q Q' : State → Prop}
/-- the walk, seen from its present state as from a start: what was written and made lies behind -/
theorem tx_rebase {T : State} (X : Stand p l e R s m args below meth c T locs cells slots) (hc : cells ≤ R.cells) (hs : slots ≤ R.slots) :
    Stand p l e ({ frames := R.frames, cells := R.cells - cells, slots := R.slots - slots, locals := R.locals } : Room) (T.setFrames (.invoking m args :: below)) m args below meth c T [] 0 0 := by
  obtain ⟨g₀, hg₀⟩ := X.frames_eq
  have hcur : T.cur < T.threads.size := State.cur_lt_of_frames hg₀
  have hfr : (T.setFrames (.invoking m args :: below)).frames = .invoking m args :: below := State.frames_setFrames _ hcur
  have hm : (T.setFrames (.invoking m args :: below)).vm.method? m = some meth := X.method'
  obtain ⟨th, hth, -⟩ := State.frames_cons hg₀
  obtain ⟨th', hth', -⟩ := State.frames_cons hfr
  have hroom := X.room
  have hloc := State.localsInUse_invoking X.frames X.method X.code
  have hloc' := State.localsInUse_invoking hfr hm X.code
  have hlim : e.platform.stackLimits (T.setFrames (.invoking m args :: below)).me = e.platform.stackLimits s.me := by rw [State.stackLimits_setFrames]; exact X.limits
  have hbyt : (T.setFrames (.invoking m args :: below)).me.stackBytes = s.me.stackBytes := by rw [State.stackBytes_setFrames]; exact X.bytes
  refine ⟨X.admits, X.cas, X.clock, hfr, ?_, ?_, hm, X.code, X.here, X.tail, State.WarmedH.refl (T.setFrames (.invoking m args :: below)), by rw [State.stackLimits_setFrames], by rw [State.stackBytes_setFrames], ?_⟩
  · have hz := X.heapSize
    have hu := X.used
    have hbk : (T.setFrames (.invoking m args :: below)).slotsTrue = true := X.book
    simp only [State.hasRoom, Bool.and_eq_true, decide_eq_true_eq] at hroom ⊢
    obtain ⟨⟨⟨⟨r1, r2⟩, r3⟩, r4⟩, -⟩ := hroom
    rw [hlim, hbyt, hloc', hfr]
    rw [hloc] at r1 r2
    rw [X.frames] at r2
    refine ⟨⟨⟨⟨r1, r2⟩, ?_⟩, ?_⟩, hbk⟩
    · show T.heap.size + (R.cells - cells) ≤ _
      omega
    · show T.slotsUsed + (R.slots - slots) ≤ _
      omega
  · have hh := X.hears
    have hmm : ∀ z, T.vm.method? z = s.vm.method? z := fun z => X.warmed.alike.method? z
    cases below with
    | nil => simpa [State.hears, hmm] using hh
    | cons f r => cases f <;> simpa [State.hears, State.code?_eq, hmm] using hh
  · have h := (State.sameButNew.refl (T.setFrames (.invoking m args :: below)) hth').setFrames T.frames (State.cur_lt_of_frames hfr)
    rw [State.setFrames_setFrames, State.setFrames_self hth] at h
    exact h
/-- a cell that no slot of was written is the cell that it was -/
theorem tx_same {S U : State} {k n : Nat} (h : S.sameButNew U [] k n) {q : Nat} (hq : q < S.heap.size) : U.heap[q]? = S.heap[q]? := by
  obtain ⟨cl, hcl⟩ : ∃ cl, S.heap[q]? = some cl := ⟨_, Array.getElem?_eq_getElem hq⟩
  obtain ⟨c', h1, h2, h3, h4⟩ := h.2.2.2.2.2 q cl hcl
  rw [hcl, h1]
  have h5 : c'.slots = cl.slots := Array.ext_getElem? fun i => h4 i (by simp)
  rw [h2, h5]
/-- what is known of an exception: its class -/
def tx_X (E : String) (x : Nat) (t : State) : Prop := ∃ cell : Cell, t.heap[x]? = some cell ∧ cell.vm.isStatics = false ∧ t.vm.findClass E = some cell.cls
set_option maxHeartbeats 4000000 in
/-- throw new E("..") -/
theorem tx_throw {cc : ByteArray} {own E text : String} {names : List String} {ik is ic sa pc : Nat} {ls : Array Slot} {Qc : Array Value → State → Outcome → State → Prop} {free : Addr → Prop}
    (hx : p.tables.exec = Jvm.exec) (hb : c.code = cc) (hml : c.maxLocals = ls.size) (hlocks : meth.locks = false) (hl : l.stackTraces = false) (hown : s.vm.findClass own = some m.cls) (hE : Bundle.fit E = true) (hnames : ∀ n ∈ names, Bundle.fit n = true)
    (hat : ∀ U : State, U.heap = H → s.WarmedH U.vm → (∀ w ∈ Bundle.ownAtoms own ic E names, w.before args U = true) ∧ (Cond.classLink own ik E).before args U = true ∧ (Cond.initialized E).before args U = true ∧ vk_R own is text sa U)
    (d0 : decode cc pc = .ok (.new ik, 3)) (d3 : decode cc (pc + 3) = .ok (.dup, 1)) (d4 : decode cc (pc + 3 + 1) = .ok (.ldc is, 2)) (d6 : decode cc (pc + 3 + 1 + 2) = .ok (.invokespecial ic, 3)) (d9 : decode cc (pc + 3 + 1 + 2 + 3) = .ok (.athrow, 1))
    (hout : ∀ y ∈ c.exceptionTable.toList, covers y (pc + 3 + 1 + 2 + 3) = false)
    (hRf : names.length + 3 < R.frames) (hRl : 1 + (13 * (names.length + 1) + 42) ≤ R.locals) (hc : cells + 1 ≤ R.cells) (hs : slots + 6 ≤ R.slots)
    (hq : ∀ t : State, s.WarmedH t.vm → t.heap.size = H.size + 1 → (∀ q, q < H.size → t.heap[q]? = H[q]?) → tx_X E H.size t → Qc args s (.threw H.size) t) (hf : ∀ q ∈ locs, free q.base) :
    W p l e R s m args below meth c H locs cells slots (tx_Z below Qc args s (cells + 1) (slots + 6) free) (F0 m pc ls []) := by
  intro T hT X
  subst hT
  have X0 := tx_rebase X (by omega) (by omega)
  obtain ⟨hat1, hat2, hat3, hat4⟩ := hat (T.setFrames (.invoking m args :: below)) rfl X.warmed
  have hown' : (T.setFrames (.invoking m args :: below)).vm.findClass own = some m.cls := by
    show T.vm.findClass own = _
    rw [X.warmed.alike.findClass]; exact hown
  have hins : (Cond.instantiable E 6).before args (T.setFrames (.invoking m args :: below)) = true := hat1 _ (by simp [Bundle.ownAtoms])
  have K : W p l e ({ frames := R.frames, cells := R.cells - cells, slots := R.slots - slots, locals := R.locals } : Room) (T.setFrames (.invoking m args :: below)) m args below meth c T.heap [] 0 0
      (fun U => U.status = .running ∧ Ended U below (.threw T.heap.size) ∧ (T.setFrames (.invoking m args :: below)).WarmedH U.vm ∧ (T.setFrames (.invoking m args :: below)).sameButNew ({ U with vm := (T.setFrames (.invoking m args :: below)).vm } : State) [] 1 6 ∧
        ∃ ce, U.heap[T.heap.size]? = some ce ∧ Bundle.OwnCell args (T.setFrames (.invoking m args :: below)) E T.heap.size (.ref sa) ce) (F0 m pc ls []) := by
    refine W.newc hx hb hown' hat2 hins hat3 (g := F0 m pc ls []) rfl d0 (by show 0 + 1 ≤ R.cells - cells; omega) (by show 0 + 6 ≤ R.slots - slots; omega) fun cC kC h1 h2 h3 h4 => ?_
    refine W.eq (g2 := F0 m (pc + 3) ls [.ref T.heap.size]) rfl ?_
    refine lv_dup hx hb d3 rfl ?_
    refine va_ldcS hx hb hown' hat4 d4 ?_
    intro T2 hT2 X2
    obtain ⟨U, a1, a2, a3, a4, a5, ce, a6, a7⟩ := X2.ctorThrowS hx ((show e.platform.stackTraces = l.stackTraces by rw [X.admits.platform]).trans hl) (own := own) (cls := E) (names := names) (ic := ic) hown' hE hnames hat1 (fun x hx9 => by cases hx9)
      (a := T.heap.size) (cX := cC) (kX := kC) h1 h2 (by rw [hT2]; simp [freshCell]) (Nat.le_refl _) (msg := .ref sa) rfl (g := F0 m (pc + 3 + 1 + 2) ls [.ref sa, .ref T.heap.size, .ref T.heap.size]) rfl (by rw [hml]) rfl rfl (rest := []) rfl
      (by rw [hb]; exact d6) (by rw [hb]; exact d9) hout hRf (by simpa [Value.category] using hRl) (hlocks := hlocks)
    exact ⟨U, a1, a2, a3, a4, a5, ce, a6, a7⟩
  obtain ⟨U, b1, b2, b3, b4, b5, ce, b6, b7⟩ := K T rfl X0
  have hTU : T.sameButNew ({ U with vm := T.vm } : State) [] 1 6 := by
    obtain ⟨e2, q2, q3, q4, q5, q6⟩ := b5
    rw [State.setFrames_setFrames] at e2
    exact ⟨e2, q2, q3, q4, q5, q6⟩
  have hsU : s.sameButNew ({ U with vm := s.vm } : State) locs (cells + 1) (slots + 6) := by
    have h := X.same.trans (hTU.setVm s.vm)
    rw [List.append_nil] at h
    exact h
  have hW : s.WarmedH U.vm := State.WarmedH.trans X.warmed b4
  refine ⟨U, b1, .threw T.heap.size, b2, b3, hq U hW ?_ (fun q hq9 => tx_same hTU hq9) ⟨ce, b6, by rw [b7.vm]; rfl, ?_⟩, locs, ⟨hW, hsU⟩, hf⟩
  · have h1 : U.heap.size ≤ T.heap.size + 1 := hTU.2.2.1
    have h2 : T.heap.size < U.heap.size := (Array.getElem?_eq_some_iff.mp b6).1
    omega
  · rw [b4.alike.findClass]; exact b7.cls
-- catching: the search through the method's own rows; a row's class may be linked by the search itself
theorem tx_row {QH : Handler → Pre} {EC : CtlPost} {d : Bool} {acts : List Action} {S : State} {f : JFrame} {a : Addr} {x : ExceptionTableEntry} {rs : List ExceptionTableEntry} {k : ClassId} {cell : Cell}
    (hx : covers x f.pc = true) (h0 : x.catchType ≠ 0) (hl : S.vm.ClassLinks e.platform f.method.cls x.catchType k) (hcell : S.heap[a]? = some cell) (hobj : ∀ z, cell.vm ≠ .statics z) (hk1 : ∃ z, S.vm.classes[cell.cls]? = some z) (hk2 : ∃ z, S.vm.classes[k]? = some z) :
    wp (findHandler.go f a (x :: rs)) QH EC e d acts S ↔ if S.vm.assignable cell.cls k = true then QH (.found x.handlerPc) d acts (S.setVm (S.vm.noted f.method.cls x.catchType (.cls k))) else wp (findHandler.go f a rs) QH EC e d acts (S.setVm (S.vm.noted f.method.cls x.catchType (.cls k))) := by
  simp only [covers] at hx
  obtain ⟨ha, ht⟩ := (resolveClass_links e.toSetting hl).op (op := VmOp.resolveClass f.method.cls x.catchType) rfl
  have hal : S.vm.Alike (S.vm.noted f.method.cls x.catchType (.cls k)) := (Vm.Alike.refl S.vm).noted _ _ _
  obtain ⟨z1, hz1⟩ := hk1
  obtain ⟨z2, hz2⟩ := hk2
  obtain ⟨z1', hz1', -⟩ := hal.2.2 _ _ hz1
  obtain ⟨z2', hz2', -⟩ := hal.2.2 _ _ hz2
  have hfit := hal.assignable cell.cls k
  cases hc : S.vm.assignable cell.cls k <;> (rw [hc] at hfit; simp [findHandler.go, hx, h0, ha, ht, hcell, hobj, hz1', hz2', hfit, VmOp.dirties, VmOp.acts])
theorem tx_caught {S target : State} {g : JFrame} {a : Addr} (h : At S g.method c below) {pc : Nat} {vm' : Vm}
    (hfind : ∀ (QH : Handler → Pre) (EC : CtlPost) (d : Bool) (acts : List Action), wp (findHandler g a) QH EC e d acts ((S.setTop g).pushFrame (.throwing a)) ↔ QH (.found pc) d acts (((S.setTop g).pushFrame (.throwing a)).setVm vm'))
    (hrest : Steps p.tables e below ((S.setVm vm').setTop { g with pc := pc, stack := [.ref a] }) target) : Steps p.tables e below ((S.setTop g).pushFrame (.throwing a)) target := by
  obtain ⟨hgo, hw⟩ := h.throwing a
  refine Steps.head hgo hw ?_
  have hstep : (stepThrowing e ((S.setTop g).pushFrame (.throwing a)) a (.java g :: S.frames.tail)).1 = (((S.setTop g).pushFrame (.throwing a)).setVm vm').setFrames (.java { g with pc := pc, stack := [.ref a] } :: S.frames.tail) := by
    simp only [stepThrowing, searchFrame, vmDo]
    generalize hr : Sem.go _ e false [] _ = res
    obtain ⟨as, rfl, -⟩ := Sem.eq_ok_of hr (a := Handler.found pc) (s' := ((S.setTop g).pushFrame (.throwing a)).setVm vm') (acts' := []) (by simp [hfind _ _ _ _])
    rfl
  rw [stepThread_throwing (frames_entered h.top _), hstep]
  obtain ⟨g₀, hg⟩ := Option.isSome_iff_exists.mp h.top
  obtain ⟨r, hr⟩ := State.topJava?_eq_some.mp hg
  have hr' : (S.setVm vm').frames = .java g₀ :: r := hr
  rw [State.setTop_of_frames _ hr'] at hrest
  have e1 : (((S.setTop g).pushFrame (.throwing a)).setVm vm').setFrames (.java { g with pc := pc, stack := [.ref a] } :: S.frames.tail) = (S.setVm vm').setFrames (.java { g with pc := pc, stack := [.ref a] } :: r) := by
    rw [hr, List.tail_cons, State.pushFrame, State.setTop_of_frames _ hr, State.setFrames_setFrames]
    show ((S.setVm vm').setFrames _).setFrames _ = _
    rw [State.setFrames_setFrames]
  rw [e1]
  exact hrest
/-- a row whose class is linked: what the search needs of it -/
theorem tx_link {T : State} (X : Stand p l e R s m args below meth c T locs cells slots) {own nm : String} {i : Nat} (hown : s.vm.findClass own = some m.cls) (hlink : (Cond.classLink own i nm).before args s = true) {vm1 : Vm} (hW : s.WarmedH vm1) :
    ∃ k, s.vm.findClass nm = some k ∧ vm1.ClassLinks e.platform m.cls i k ∧ (∃ z, vm1.classes[k]? = some z) ∧ s.WarmedH (vm1.noted m.cls i (.cls k)) := by
  have hpl : e.platform.magicAccessors = ({} : Platform).magicAccessors := by rw [X.admits.platform]
  obtain ⟨k, hk, hcl⟩ := Cond.classLink_spec hown hlink e.platform hpl
  obtain ⟨dk, _, _, kt, hd, _, _, _, _, hkt, _, hopen⟩ := hcl.here
  obtain ⟨kt', hkt', -⟩ := hW.alike.2.2 _ _ hkt
  exact ⟨k, hk, hW.classLinks hcl, ⟨kt', hkt'⟩, hW.noted hd hopen (State.rightAt_cls hcl)⟩
/-- caught by the first row -/
theorem tx_catch1 {x : ExceptionTableEntry} {rs : List ExceptionTableEntry} (htab : c.exceptionTable.toList = x :: rs) {pc : Nat} {ls : Array Slot} {st : List Value} {a : Addr} (hx : covers x pc = true) (h0 : x.catchType ≠ 0) {own nm : String} (hown : s.vm.findClass own = some m.cls)
    (hlink : (Cond.classLink own x.catchType nm).before args s = true) {cell : Cell} (hcell : H[a]? = some cell) (hobj : cell.vm.isStatics = false) (hk : ∃ z, s.vm.classes[cell.cls]? = some z) (hfit : ∀ k, s.vm.findClass nm = some k → s.vm.assignable cell.cls k = true)
    (kk : W p l e R s m args below meth c H locs cells slots Q (F0 m x.handlerPc ls [.ref a])) : tx_T p l e R s m args below meth c H locs cells slots Q (F0 m pc ls st) a := by
  intro T hT X
  obtain ⟨k, hk', hcl, hz, hW'⟩ := tx_link X hown hlink X.warmed
  obtain ⟨z, hz0⟩ := hk
  obtain ⟨z', hz', -⟩ := X.warmed.alike.2.2 _ _ hz0
  obtain ⟨t, a1, b1⟩ := kk (T.setVm (T.vm.noted m.cls x.catchType (.cls k))) hT (X.noted hW')
  refine ⟨t, tx_caught (S := T) (g := F0 m pc ls st) (pc := x.handlerPc) (vm' := T.vm.noted m.cls x.catchType (.cls k)) X.here (fun QH EC d acts => ?_) a1, b1⟩
  rw [Jvm.W.findHandler_eq (meth := meth) (code := c) X.method' X.code, htab, tx_row (e := e) (f := F0 m pc ls st) (S := (T.setTop (F0 m pc ls st)).pushFrame (.throwing a)) (k := k) (cell := cell) hx h0 hcl (by show T.heap[a]? = _; rw [hT]; exact hcell) (fun z9 h9 => by rw [h9] at hobj; cases hobj) ⟨z', hz'⟩ hz, if_pos (by show T.vm.assignable _ _ = _; rw [X.warmed.alike.assignable]; exact hfit k hk')]
  exact Iff.rfl
/-- passed by the first row, caught by the second -/
theorem tx_catch2 {x1 x : ExceptionTableEntry} {rs : List ExceptionTableEntry} (htab : c.exceptionTable.toList = x1 :: x :: rs) {pc : Nat} {ls : Array Slot} {st : List Value} {a : Addr} (hx1 : covers x1 pc = true) (h01 : x1.catchType ≠ 0) (hx : covers x pc = true) (h0 : x.catchType ≠ 0)
    {own nm1 nm : String} (hown : s.vm.findClass own = some m.cls) (hlink1 : (Cond.classLink own x1.catchType nm1).before args s = true) (hlink : (Cond.classLink own x.catchType nm).before args s = true) {cell : Cell} (hcell : H[a]? = some cell) (hobj : cell.vm.isStatics = false)
    (hk : ∃ z, s.vm.classes[cell.cls]? = some z) (hno : ∀ k, s.vm.findClass nm1 = some k → s.vm.assignable cell.cls k = false) (hfit : ∀ k, s.vm.findClass nm = some k → s.vm.assignable cell.cls k = true)
    (kk : W p l e R s m args below meth c H locs cells slots Q (F0 m x.handlerPc ls [.ref a])) : tx_T p l e R s m args below meth c H locs cells slots Q (F0 m pc ls st) a := by
  intro T hT X
  obtain ⟨k1, hk1', hcl1, hz1, hW1⟩ := tx_link X hown hlink1 X.warmed
  obtain ⟨k, hk', hcl, hz, hW'⟩ := tx_link X hown hlink hW1
  obtain ⟨z, hz0⟩ := hk
  obtain ⟨z', hz', -⟩ := X.warmed.alike.2.2 _ _ hz0
  obtain ⟨z'', hz'', -⟩ := hW1.alike.2.2 _ _ hz0
  obtain ⟨t, a1, b1⟩ := kk (T.setVm ((T.vm.noted m.cls x1.catchType (.cls k1)).noted m.cls x.catchType (.cls k))) hT (X.noted hW')
  refine ⟨t, tx_caught (S := T) (g := F0 m pc ls st) (pc := x.handlerPc) (vm' := (T.vm.noted m.cls x1.catchType (.cls k1)).noted m.cls x.catchType (.cls k)) X.here (fun QH EC d acts => ?_) a1, b1⟩
  rw [Jvm.W.findHandler_eq (meth := meth) (code := c) X.method' X.code, htab, tx_row (e := e) (f := F0 m pc ls st) (S := (T.setTop (F0 m pc ls st)).pushFrame (.throwing a)) (k := k1) (cell := cell) hx1 h01 hcl1 (by show T.heap[a]? = _; rw [hT]; exact hcell) (fun z9 h9 => by rw [h9] at hobj; cases hobj) ⟨z', hz'⟩ hz1,
    if_neg (by show ¬ T.vm.assignable _ _ = true; rw [X.warmed.alike.assignable, hno k1 hk1']; decide),
    tx_row (e := e) (f := F0 m pc ls st) (S := ((T.setTop (F0 m pc ls st)).pushFrame (.throwing a)).setVm (((T.setTop (F0 m pc ls st)).pushFrame (.throwing a)).vm.noted (F0 m pc ls st).method.cls x1.catchType (.cls k1))) (k := k) (cell := cell) hx h0 hcl (by show T.heap[a]? = _; rw [hT]; exact hcell) (fun z9 h9 => by rw [h9] at hobj; cases hobj) ⟨z'', hz''⟩ hz, if_pos (by show (T.vm.noted m.cls x1.catchType (.cls k1)).assignable _ _ = _; rw [hW1.alike.assignable]; exact hfit k hk')]
  exact Iff.rfl
end TX2
-- statics at a later state, out of the start
section TX3
variable {s0 U : State} {A A' : Array Value} {C n d : String}
theorem gx_lays (hx : gx s0 U) (h : (Cond.laysStatic C n d).before A s0 = true) : (Cond.laysStatic C n d).before A' U = true := by
  obtain ⟨c, k, i, f, a, cell, hc, hi, hst, ha, hcell, hs, hcls, hlt, hty⟩ := Cond.laysStatic_spec h
  have hal := hx.1.alike
  obtain ⟨k', hi', he⟩ := State.fieldFound?_setVm hal hi
  have hi2 : U.fieldFound? C n d = some (c, k', i, f) := hi'
  have hc2 : U.vm.findClass C = some c := by rw [hal.findClass]; exact hc
  have ha2 : k'.statics = some a := by rw [he]; exact ha
  have hcell2 : U.heap[a]? = some cell := by rw [hx.2.2 a (Array.getElem?_eq_some_iff.mp hcell).1]; exact hcell
  have hty2 : k'.staticTypes[f.slot]? = some f.type := by rw [he]; exact hty
  simp [Cond.before, Cond.holds, Cond.value, hc2, hi2, ha2, hcell2, hst, hs, hcls, hlt, hty2]
theorem gx_isRef (hx : gx s0 U) (hl : (Cond.laysStatic C n d).before A s0 = true) (h : (Cond.isRef (.static C n d)).before A s0 = true) : (Cond.isRef (.static C n d)).before A' U = true := by
  obtain ⟨c, k, i, f, a, cell, hc, hi, hst, ha, hcell, hs, hcls, hlt, hty⟩ := Cond.laysStatic_spec hl
  have hal := hx.1.alike
  obtain ⟨k', hi', he⟩ := State.fieldFound?_setVm hal hi
  have hi2 : U.fieldFound? C n d = some (c, k', i, f) := hi'
  have ha2 : k'.statics = some a := by rw [he]; exact ha
  have hcell2 : U.heap[a]? = some cell := by rw [hx.2.2 a (Array.getElem?_eq_some_iff.mp hcell).1]; exact hcell
  have e0 : (Term.static C n d).eval A s0 none [] s0 = cell.slots[f.slot]? := by simp [Term.eval, State.fieldNamed?, hi, hst, ha, hcell, hs]
  have e1 : (Term.static C n d).eval A' U none [] U = cell.slots[f.slot]? := by simp [Term.eval, State.fieldNamed?, hi2, hst, ha2, hcell2, hs]
  simp only [Cond.before, Cond.holds, Cond.value] at h ⊢
  rw [e0] at h
  rw [e1]
  exact h
end TX3
