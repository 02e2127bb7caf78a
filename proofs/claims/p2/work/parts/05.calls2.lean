/-! ===== own rows: calls of constructors and of nest mates ===== -/
section TX5
variable {p : Program} {l : Launch} {e : Env} {R : Room} {s : State} {m : MethodId} {args : Array Value} {below : List Frame} {meth : Method} {c : Code} {H : Heap} {locs : List Loc} {cells slots : Nat}
variable {y : MethodName} {ws : List Cond} {rm : Room} {Pc : Array Value → State → Prop} {Qc : Array Value → State → Outcome → State → Prop} {mc ms maxL n index nL : Nat} {free : Addr → Prop} {cc bytes : ByteArray} {own C host : String} {b : Addr} {As rest : List Value} {g : JFrame}
theorem tx_runI (hx : p.tables.exec = Jvm.exec) (hb : c.code = cc) (hml : c.maxLocals = nL) (ho : s.vm.findClass own = some m.cls) (hM : tx_Met l y ws rm Pc Qc mc ms free) (hC : tx_C R s args y ws rm mc ms maxL n) (hy1 : y.name = "<init>")
    (hl : (Cond.methodLink own index y).before args s = true) (hin : (Cond.instanceMethod y).before args s = true) (hcode : (Cond.code y bytes maxL none).before args s = true) (hp : PreS s H Pc (.ref b :: As))
    (hg : g.method = m) (hn : As.length = n) (hsize : g.locals.size = nL) (hstack : g.stack = As.reverse ++ .ref b :: rest) (hW : 2 * g.monitorRoom + (rest.map fun v => v.category).sum ≤ 8) (hdg : decode cc g.pc = .ok (.invokespecial index, 3)) (hf : cells + mc ≤ R.cells ∧ slots + ms ≤ R.slots) :
    tx_Run p l e R s m args below meth c H locs cells slots mc ms g rest (Qc (Value.ref b :: As).toArray) free := by
  obtain ⟨⟨hrc, hrs, hfr, hlo⟩, hws, hini, hy, hlen, mk, methY, cY, hnamed, hmY, hcY, hlY, hsig⟩ := hC
  obtain ⟨hbl, hPc⟩ := hp
  intro T hT X
  subst hg
  have hpl : e.platform.magicAccessors = ({} : Platform).magicAccessors := by rw [X.admits.platform]
  obtain ⟨mk', methM, cM, kP, vm₁, hnamed', hmethM, hcodeM, -, hlocalsM, -, hkP, -, hW₁, hstep₁⟩ := Steps.initColdArgs (e := e) X.here hx X.warmed hpl ho hy1 hy hl hin hcode (f := g) rfl (argsL := As) (rest := rest) (fun sig h => hn.trans (hlen sig h)) hstack (by rw [hb]; exact hdg)
  cases hnamed.symm.trans hnamed'
  have X₁ := X.noted hW₁
  obtain ⟨o, t, T', L, X', hL, e1, e2, hq, hst⟩ := tx_back (g := { g with stack := rest }) (ig := .invokespecial index) (len := 3) (Wd := 8) (maxL := maxL) hM hbl hrc hrs hfr hlo X₁ rfl (hsize.trans hml.symm) (by rw [hb]; exact hdg) hW (X₁.named hnamed) (a := (Value.ref b :: As).toArray) (fun w hw => hws w hw _ _ X₁.warmed)
    (show (T.setVm vm₁).vm.method? mk = some methY by rw [X₁.warmed.alike.method?]; exact hmY) hcY hlY (hini _ _ X₁.warmed) hf (hPc (T.setVm vm₁) hT X₁.warmed)
  exact ⟨o, (T.setVm vm₁).calling { g with stack := rest } mk (Value.ref b :: As).toArray, t, T', L, hT, X', hL, e1, e2, hq, fun tg htg => hstep₁ _ fun acts => by rw [doInvoke_state]; exact hst.trans htg⟩
theorem tx_runIN (hx : p.tables.exec = Jvm.exec) (hb : c.code = cc) (hml : c.maxLocals = nL) (ho : s.vm.findClass own = some m.cls) (hM : tx_Met l y ws rm Pc Qc mc ms free) (hC : tx_C R s args y ws rm mc ms maxL n) (hy1 : y.name = "<init>")
    (hl : (Cond.methodLinkNest own index y host).before args s = true) (hin : (Cond.instanceMethod y).before args s = true) (hcode : (Cond.code y bytes maxL none).before args s = true) (hp : PreS s H Pc (.ref b :: As))
    (hg : g.method = m) (hn : As.length = n) (hsize : g.locals.size = nL) (hstack : g.stack = As.reverse ++ .ref b :: rest) (hW : 2 * g.monitorRoom + (rest.map fun v => v.category).sum ≤ 8) (hdg : decode cc g.pc = .ok (.invokespecial index, 3)) (hf : cells + mc ≤ R.cells ∧ slots + ms ≤ R.slots) :
    tx_Run p l e R s m args below meth c H locs cells slots mc ms g rest (Qc (Value.ref b :: As).toArray) free := by
  obtain ⟨⟨hrc, hrs, hfr, hlo⟩, hws, hini, hy, hlen, mk, methY, cY, hnamed, hmY, hcY, hlY, hsig⟩ := hC
  obtain ⟨hbl, hPc⟩ := hp
  intro T hT X
  subst hg
  have hpl : e.platform.magicAccessors = ({} : Platform).magicAccessors := by rw [X.admits.platform]
  obtain ⟨mk', methM, cM, kP, vm₁, hnamed', hmethM, hcodeM, -, hlocalsM, -, hkP, -, hW₁, hstep₁⟩ := Steps.initColdArgsNest (e := e) X.here hx X.warmed hpl ho hy1 hy hl hin hcode (f := g) rfl (argsL := As) (rest := rest) (fun sig h => hn.trans (hlen sig h)) hstack (by rw [hb]; exact hdg)
  cases hnamed.symm.trans hnamed'
  have X₁ := X.noted hW₁
  obtain ⟨o, t, T', L, X', hL, e1, e2, hq, hst⟩ := tx_back (g := { g with stack := rest }) (ig := .invokespecial index) (len := 3) (Wd := 8) (maxL := maxL) hM hbl hrc hrs hfr hlo X₁ rfl (hsize.trans hml.symm) (by rw [hb]; exact hdg) hW (X₁.named hnamed) (a := (Value.ref b :: As).toArray) (fun w hw => hws w hw _ _ X₁.warmed)
    (show (T.setVm vm₁).vm.method? mk = some methY by rw [X₁.warmed.alike.method?]; exact hmY) hcY hlY (hini _ _ X₁.warmed) hf (hPc (T.setVm vm₁) hT X₁.warmed)
  exact ⟨o, (T.setVm vm₁).calling { g with stack := rest } mk (Value.ref b :: As).toArray, t, T', L, hT, X', hL, e1, e2, hq, fun tg htg => hstep₁ _ fun acts => by rw [doInvoke_state]; exact hst.trans htg⟩
theorem tx_runVN (hx : p.tables.exec = Jvm.exec) (hb : c.code = cc) (hml : c.maxLocals = nL) (ho : s.vm.findClass own = some m.cls) (hM : tx_Met l y ws rm Pc Qc mc ms free) (hC : tx_C R s args y ws rm mc ms maxL n)
    (hl : (Cond.methodLinkNest own index y host).before args s = true) (hin : (Cond.instanceMethod y).before args s = true) (hse : (Cond.selects C y y).before args s = true) (hp : PreV s H C b Pc As)
    (hg : g.method = m) (hn : As.length = n) (hsize : g.locals.size = nL) (hstack : g.stack = As.reverse ++ .ref b :: rest) (hW : 2 * g.monitorRoom + (rest.map fun v => v.category).sum ≤ 8) (hdg : decode cc g.pc = .ok (.invokevirtual index, 3)) (hf : cells + mc ≤ R.cells ∧ slots + ms ≤ R.slots) :
    tx_Run p l e R s m args below meth c H locs cells slots mc ms g rest (Qc (Value.ref b :: As).toArray) free := by
  obtain ⟨⟨hrc, hrs, hfr, hlo⟩, hws, hini, hy, hlen, mk, methY, cY, hnamed, hmY, hcY, hlY, hsig⟩ := hC
  obtain ⟨hbl, ⟨cellB, hcB, hoB, hclB⟩, hPc⟩ := hp
  obtain ⟨mk', methM, hnamed', hmethM, hstM, habM⟩ := Cond.instanceMethod_spec hin
  cases hnamed.symm.trans hnamed'
  cases hmY.symm.trans hmethM
  obtain ⟨c2, r2, m2, q1, q2, q3, q4, kP, hkP, hkPi⟩ := Cond.selects_spec hse
  cases hclB.symm.trans q1
  cases (State.methodFound?_of_named hnamed hy).symm.trans q2
  cases hnamed.symm.trans q3
  intro T hT X
  have hselP : selectMethod e.platform s.vm cellB.cls mk = .method mk := by rw [Launch.admits_selectMethod X.admits]; exact q4
  obtain ⟨vm₁, X₁, hstep₁⟩ := X.invokevirtualNest hx ho hl hnamed hmethM hstM hkP hkPi hy (a := b) (cell := cellB) (by rw [hT]; exact hcB)
    (fun z h => by rw [h] at hoB; cases hoB) hselP hmethM habM hkP hkPi (g := g) hg (argsL := As) (rest := rest) (hn.trans (hlen _ hsig)) hstack (by rw [hb]; exact hdg)
  obtain ⟨o, t, T', L, X', hL, e1, e2, hq, hst⟩ := tx_back (g := { g with stack := rest }) (ig := .invokevirtual index) (len := 3) (Wd := 8) (maxL := maxL) hM hbl hrc hrs hfr hlo X₁ hg (hsize.trans hml.symm) (by rw [hb]; exact hdg) hW (X₁.named hnamed) (a := (Value.ref b :: As).toArray) (fun w hw => hws w hw _ _ X₁.warmed)
    (show (T.setVm vm₁).vm.method? mk = some methY by rw [X₁.warmed.alike.method?]; exact hmY) hcY hlY (hini _ _ X₁.warmed) hf (hPc (T.setVm vm₁) hT X₁.warmed)
  exact ⟨o, (T.setVm vm₁).calling { g with stack := rest } mk (Value.ref b :: As).toArray, t, T', L, hT, X', hL, e1, e2, hq, fun tg htg => hstep₁ _ fun acts => by rw [doInvoke_state]; exact hst.trans htg⟩
theorem tx_runSN (hx : p.tables.exec = Jvm.exec) (hb : c.code = cc) (hml : c.maxLocals = nL) (ho : s.vm.findClass own = some m.cls) (hM : tx_Met l y ws rm Pc Qc mc ms free) (hC : tx_C R s args y ws rm mc ms maxL n)
    (hl : (Cond.methodLinkNest own index y host).before args s = true) (hstt : (Cond.static y).before args s = true) (hini0 : (Cond.initialized y.cls).before args s = true) (hp : PreS s H Pc As)
    (hg : g.method = m) (hn : As.length = n) (hsize : g.locals.size = nL) (hstack : g.stack = As.reverse ++ rest) (hW : 2 * g.monitorRoom + (rest.map fun v => v.category).sum ≤ 8) (hdg : decode cc g.pc = .ok (.invokestatic index, 3)) (hf : cells + mc ≤ R.cells ∧ slots + ms ≤ R.slots) :
    tx_Run p l e R s m args below meth c H locs cells slots mc ms g rest (Qc As.toArray) free := by
  obtain ⟨⟨hrc, hrs, hfr, hlo⟩, hws, hini, hy, hlen, mk, methY, cY, hnamed, hmY, hcY, hlY, hsig⟩ := hC
  obtain ⟨hbl, hPc⟩ := hp
  have hstatic : methY.isStatic = true := Cond.static_spec hnamed hmY hstt
  obtain ⟨kP, hkP, -⟩ := className_of_methodNamed hnamed
  have hinitP : kP.init = .initialized := Cond.initialized_spec (findClass_of_methodNamed hnamed) hkP hini0
  intro T hT X
  obtain ⟨vm₁, X₁, hstep₁⟩ := X.invokestaticNest hx ho hl hnamed hmY hstatic hkP hinitP hy (g := g) hg (argsL := As) (rest := rest) (hn.trans (hlen _ hsig)) hstack (by rw [hb]; exact hdg)
  obtain ⟨o, t, T', L, X', hL, e1, e2, hq, hst⟩ := tx_back (g := { g with stack := rest }) (ig := .invokestatic index) (len := 3) (Wd := 8) (maxL := maxL) hM hbl hrc hrs hfr hlo X₁ hg (hsize.trans hml.symm) (by rw [hb]; exact hdg) hW (X₁.named hnamed) (a := As.toArray) (fun w hw => hws w hw _ _ X₁.warmed)
    (show (T.setVm vm₁).vm.method? mk = some methY by rw [X₁.warmed.alike.method?]; exact hmY) hcY hlY (hini _ _ X₁.warmed) hf (hPc (T.setVm vm₁) hT X₁.warmed)
  exact ⟨o, (T.setVm vm₁).calling { g with stack := rest } mk As.toArray, t, T', L, hT, X', hL, e1, e2, hq, fun tg htg => hstep₁ _ fun acts => by rw [doInvoke_state]; exact hst.trans htg⟩
end TX5
