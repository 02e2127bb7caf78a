/-! ===== own rows: weaker ends ===== -/
theorem tx_Met.mono {l : Launch} {y : MethodName} {ws : List Cond} {rm : Room} {Pc : Array Value → State → Prop} {Qc Qc' : Array Value → State → Outcome → State → Prop} {mc ms : Nat} {free : Addr → Prop} (h : tx_Met l y ws rm Pc Qc mc ms free) (hq : ∀ a st o t, Qc a st o t → Qc' a st o t) : tx_Met l y ws rm Pc Qc' mc ms free :=
  MetFree.mono h (fun _ _ h => h) (fun _ _ _ _ _ h => h) (fun a st o t _ h => ⟨hq a st o t h.1, h.2⟩)
theorem cx_Q.mono {D : va_G} {cl : List vw_C} {A : Nat → Prop} {post post' : Outcome → State → va_W → Prop} (hp : ∀ o t w, post o t w → post' o t w) : ∀ a st o t, cx_Q D cl A post a st o t → cx_Q D cl A post' a st o t := by
  intro a st o t h
  obtain ⟨⟨w, h1, h2⟩, h3⟩ := h
  exact ⟨⟨w, hp _ _ _ h1, h2⟩, h3⟩
theorem cx_mono {l : Launch} {s0 : State} {D : va_G} {cl : List vw_C} {y : MethodName} {wl : List Cond} {rm : Room} {mc ms : Nat} {av : List Value} {ws : va_W} {sz : Nat} {post post' : Outcome → State → va_W → Prop}
    (h : tx_Met l y wl rm (va_Pc av (cx_P s0 D cl ws sz)) (cx_Q D cl (va_A ws sz) post) mc ms (va_A ws sz)) (hp : ∀ o t w, post o t w → post' o t w) :
    tx_Met l y wl rm (va_Pc av (cx_P s0 D cl ws sz)) (cx_Q D cl (va_A ws sz) post') mc ms (va_A ws sz) := tx_Met.mono h (cx_Q.mono hp)
theorem tx_T.widen {p : Program} {l : Launch} {e : Env} {R : Room} {s : State} {m : MethodId} {args : Array Value} {below : List Frame} {meth : Method} {c : Code} {H : Heap} {locs : List Loc} {cells slots : Nat} {Q : State → Prop} {g : JFrame} {x : Addr} {k n : Nat} (h1 : cells ≤ k) (h2 : slots ≤ n) (kk : tx_T p l e R s m args below meth c H locs k n Q g x) : tx_T p l e R s m args below meth c H locs cells slots Q g x := fun T hT X => kk T hT (stand_widen X h1 h2)
