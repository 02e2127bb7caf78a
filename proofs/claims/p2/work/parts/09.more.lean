/-! ===== own rows: the class's two tables at a method's start; a callee's throw passed on ===== -/
theorem gz.at {s0 s : State} {tC tS : Nat} {A : Nat → Prop} (h : gz s0 tC tS) (hx : gx s0 s) (hA0 : ∀ q, A q → s0.heap.size ≤ q) :
    va_Z cn_D "CHOICES" "[I" (.ref tC) A s s.heap ∧ va_T .int tC 16 (fun k => .int (ch_t.getD k 0)) A s s.heap ∧ va_Z cn_D "CHOICE_STARTS" "[I" (.ref tS) A s s.heap ∧ va_T .int tS 6 (fun k => .int (cs_t.getD k 0)) A s s.heap := by
  obtain ⟨h1, h2, h3, h4⟩ := h
  have hk : ∀ a : Nat, a < s0.heap.size → ¬ (s0.heap.size ≤ a) → s.heap[a]? = s0.heap[a]? := fun a h _ => hx.2.2 a h
  exact ⟨((h1.kept hk).moved hx.1.alike).narrow hA0, ((h2.kept hk).moved hx.1.alike).narrow hA0, ((h3.kept hk).moved hx.1.alike).narrow hA0, ((h4.kept hk).moved hx.1.alike).narrow hA0⟩
theorem tx_X.move {E : String} {x : Nat} {s t t2 : State} (h : tx_X E x t) (hh : t2.heap = t.heap) (h1 : s.WarmedH t.vm) (h2 : s.WarmedH t2.vm) : tx_X E x t2 := by
  obtain ⟨cell, q1, q2, q3⟩ := h
  refine ⟨cell, by rw [hh]; exact q1, q2, ?_⟩
  rw [h2.alike.findClass]
  rw [h1.alike.findClass] at q3
  exact q3
section CX9
variable {p : Program} {l : Launch} {e : Env} {R : Room} {s : State} {m : MethodId} {args : Array Value} {below : List Frame} {meth : Method} {c : Code} {H : Heap} {locs : List Loc} {cells slots : Nat} {D : va_G} {A : Nat → Prop} {ws : va_W} {pc : Nat} {ls : Array Slot} {st : List Value}
theorem cx_pass {E1 : String} {x : Addr} {t0 : State} {post : Outcome → State → va_W → Prop} (hlocks : meth.locks = false) (hT : c.exceptionTable.isEmpty = true) (ht0 : t0.heap = H) (hW0 : s.WarmedH t0.vm) (hX : tx_X E1 x t0) (hP : va_P D kl ws H) (hD : va_D A ws) (hS : va_S A s.heap H locs) (hpost : ∀ (x : Nat) (t : State), tx_X E1 x t → post (.threw x) t ws) :
    tx_T p l e R s m args below meth c H locs cells slots (tx_Z below (cx_Q D kl A post) args s cells slots A) (F0 m pc ls st) x := by
  refine tx_out hlocks ?_ (fun t ht hW => ⟨⟨ws, hpost x t (hX.move (ht.trans ht0.symm) hW0 hW), by rw [ht]; exact hP, hD⟩, hS.F ht⟩) hS.2.2
  intro y hy
  have h9 : c.exceptionTable.toList = [] := by
    have h8 := Array.isEmpty_iff.mp hT
    rw [h8]
  rw [h9] at hy
  cases hy
end CX9
