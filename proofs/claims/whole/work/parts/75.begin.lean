/-! ===== own rows: what every method is given, at the law's start ===== -/
theorem gK_of {s : State} {b : Addr} (G : gw s b) : ∃ (D : va_G) (cI cJ cZ : ClassId), va_K D kl [(cI, .int), (cJ, .long), (cZ, .boolean)] s := by
  obtain ⟨c0, i0, k0⟩ := u_known (ws := lw_tbl) G fw_D (G _ mw_20)
  obtain ⟨c1, i1, k1⟩ := u_known (ws := lw_tbl) G fw_PL (G _ mw_34)
  obtain ⟨c2, i2, k2⟩ := u_known (ws := lw_tbl) G fw_MI (G _ mw_57)
  obtain ⟨c3, i3, k3⟩ := u_known (ws := lw_tbl) G fw_FL (G _ mw_76)
  obtain ⟨c4, i4, k4⟩ := u_known (ws := lw_tbl) G fw_SI (G _ mw_110)
  obtain ⟨c5, i5, k5⟩ := u_known (ws := lw_tbl) G fw_IP (G _ mw_131)
  obtain ⟨c6, i6, k6⟩ := u_known (ws := lw_tbl) G fw_BF (G _ mw_100)
  obtain ⟨c7, i7, k7⟩ := u_known (ws := lw_tbl) G fw_M (G _ mw_708)
  obtain ⟨a0, ka0, co0, p0, q0, r0⟩ := Cond.arrayClass_spec (G _ mw_55)
  obtain ⟨a1, ka1, co1, p1, q1, r1⟩ := Cond.arrayClass_spec (G _ mw_74)
  obtain ⟨a2, ka2, co2, p2, q2, r2⟩ := Cond.arrayClass_spec (G _ mw_771)
  refine ⟨(fun k => [c0, c1, c2, c3, c4, c5, c6, c7].getD k 0, fun k => [i0, i1, i2, i3, i4, i5, i6, i7].getD k (fun _ => 0)), a0, a1, a2, ⟨fun c q hq => ?_, fun k q hk => ?_⟩⟩
  · rcases c with _ | _ | _ | _ | _ | _ | _ | _ | c
    · obtain rfl : (cn_D, ft_D, 11) = q := Option.some.inj hq
      exact k0
    · obtain rfl : (cn_PL, ft_PL, 3) = q := Option.some.inj hq
      exact k1
    · obtain rfl : (cn_MI, ft_MI, 3) = q := Option.some.inj hq
      exact k2
    · obtain rfl : (cn_FL, ft_FL, 5) = q := Option.some.inj hq
      exact k3
    · obtain rfl : (cn_SI, ft_SI, 4) = q := Option.some.inj hq
      exact k4
    · obtain rfl : (cn_IP, ft_IP, 8) = q := Option.some.inj hq
      exact k5
    · obtain rfl : (cn_BF, ft_BF, 9) = q := Option.some.inj hq
      exact k6
    · obtain rfl : (cn_M, ft_M, 19) = q := Option.some.inj hq
      exact k7
    · cases hq
  · rcases k with _ | _ | _ | k
    · obtain rfl : (a0, FieldType.int) = q := Option.some.inj hk
      exact ⟨fun n z => ⟨fun k h => (by cases h), ka0, q0, co0, r0⟩, p0⟩
    · obtain rfl : (a1, FieldType.long) = q := Option.some.inj hk
      exact ⟨fun n z => ⟨fun k h => (by cases h), ka1, q1, co1, r1⟩, p1⟩
    · obtain rfl : (a2, FieldType.boolean) = q := Option.some.inj hk
      exact ⟨fun n z => ⟨fun k h => (by cases h), ka2, q2, co2, r2⟩, p2⟩
    · cases hk
theorem gz_of {s : State} {b : Addr} (G : gw s b) (hg : (Jvm.Cond.and given_1 narrow_1).before #[Value.ref b] s = true) : ∃ tC tS, gz s tC tS := by
  have hs := flat_of_before _ hg
  have el_tC : ∀ j : Nat, j < 16 → (Term.elem (.static "ConeDesk" "CHOICES" "[I") (.int (Int32.ofNat j))).eval #[Value.ref b] s none [] s = some (.int (ch_t.getD j 0)) := by
    intro j hj
    have h : j = 0 ∨ j = 1 ∨ j = 2 ∨ j = 3 ∨ j = 4 ∨ j = 5 ∨ j = 6 ∨ j = 7 ∨ j = 8 ∨ j = 9 ∨ j = 10 ∨ j = 11 ∨ j = 12 ∨ j = 13 ∨ j = 14 ∨ j = 15 := by omega
    rcases h with rfl | rfl | rfl | rfl | rfl | rfl | rfl | rfl | rfl | rfl | rfl | rfl | rfl | rfl | rfl | rfl
    · exact va_eqt (hs (Cond.eq (.elem (.static "ConeDesk" "CHOICES" "[I") (.int (0 : Int32))) (.int (0 : Int32))) (by decide +kernel))
    · exact va_eqt (hs (Cond.eq (.elem (.static "ConeDesk" "CHOICES" "[I") (.int (1 : Int32))) (.int (1 : Int32))) (by decide +kernel))
    · exact va_eqt (hs (Cond.eq (.elem (.static "ConeDesk" "CHOICES" "[I") (.int (2 : Int32))) (.int (2 : Int32))) (by decide +kernel))
    · exact va_eqt (hs (Cond.eq (.elem (.static "ConeDesk" "CHOICES" "[I") (.int (3 : Int32))) (.int (4 : Int32))) (by decide +kernel))
    · exact va_eqt (hs (Cond.eq (.elem (.static "ConeDesk" "CHOICES" "[I") (.int (4 : Int32))) (.int (8 : Int32))) (by decide +kernel))
    · exact va_eqt (hs (Cond.eq (.elem (.static "ConeDesk" "CHOICES" "[I") (.int (5 : Int32))) (.int (3 : Int32))) (by decide +kernel))
    · exact va_eqt (hs (Cond.eq (.elem (.static "ConeDesk" "CHOICES" "[I") (.int (6 : Int32))) (.int (5 : Int32))) (by decide +kernel))
    · exact va_eqt (hs (Cond.eq (.elem (.static "ConeDesk" "CHOICES" "[I") (.int (7 : Int32))) (.int (6 : Int32))) (by decide +kernel))
    · exact va_eqt (hs (Cond.eq (.elem (.static "ConeDesk" "CHOICES" "[I") (.int (8 : Int32))) (.int (9 : Int32))) (by decide +kernel))
    · exact va_eqt (hs (Cond.eq (.elem (.static "ConeDesk" "CHOICES" "[I") (.int (9 : Int32))) (.int (10 : Int32))) (by decide +kernel))
    · exact va_eqt (hs (Cond.eq (.elem (.static "ConeDesk" "CHOICES" "[I") (.int (10 : Int32))) (.int (12 : Int32))) (by decide +kernel))
    · exact va_eqt (hs (Cond.eq (.elem (.static "ConeDesk" "CHOICES" "[I") (.int (11 : Int32))) (.int (7 : Int32))) (by decide +kernel))
    · exact va_eqt (hs (Cond.eq (.elem (.static "ConeDesk" "CHOICES" "[I") (.int (12 : Int32))) (.int (11 : Int32))) (by decide +kernel))
    · exact va_eqt (hs (Cond.eq (.elem (.static "ConeDesk" "CHOICES" "[I") (.int (13 : Int32))) (.int (13 : Int32))) (by decide +kernel))
    · exact va_eqt (hs (Cond.eq (.elem (.static "ConeDesk" "CHOICES" "[I") (.int (14 : Int32))) (.int (14 : Int32))) (by decide +kernel))
    · exact va_eqt (hs (Cond.eq (.elem (.static "ConeDesk" "CHOICES" "[I") (.int (15 : Int32))) (.int (15 : Int32))) (by decide +kernel))
  obtain ⟨tC, e_tC, h_tC⟩ := va_Tof (tm := (.static "ConeDesk" "CHOICES" "[I")) (ty := .int) (N := 16) (f := fun k => .int (ch_t.getD k 0)) (A := fun q => s.heap.size ≤ q) (by decide) (hs _ (by decide +kernel)) (va_eqt (hs (Cond.eq (.length (.static "ConeDesk" "CHOICES" "[I")) (.int (16 : Int32))) (by decide +kernel))) el_tC (fun a h => Nat.not_le.mpr h)
  have el_tS : ∀ j : Nat, j < 6 → (Term.elem (.static "ConeDesk" "CHOICE_STARTS" "[I") (.int (Int32.ofNat j))).eval #[Value.ref b] s none [] s = some (.int (cs_t.getD j 0)) := by
    intro j hj
    have h : j = 0 ∨ j = 1 ∨ j = 2 ∨ j = 3 ∨ j = 4 ∨ j = 5 := by omega
    rcases h with rfl | rfl | rfl | rfl | rfl | rfl
    · exact va_eqt (hs (Cond.eq (.elem (.static "ConeDesk" "CHOICE_STARTS" "[I") (.int (0 : Int32))) (.int (0 : Int32))) (by decide +kernel))
    · exact va_eqt (hs (Cond.eq (.elem (.static "ConeDesk" "CHOICE_STARTS" "[I") (.int (1 : Int32))) (.int (1 : Int32))) (by decide +kernel))
    · exact va_eqt (hs (Cond.eq (.elem (.static "ConeDesk" "CHOICE_STARTS" "[I") (.int (2 : Int32))) (.int (5 : Int32))) (by decide +kernel))
    · exact va_eqt (hs (Cond.eq (.elem (.static "ConeDesk" "CHOICE_STARTS" "[I") (.int (3 : Int32))) (.int (11 : Int32))) (by decide +kernel))
    · exact va_eqt (hs (Cond.eq (.elem (.static "ConeDesk" "CHOICE_STARTS" "[I") (.int (4 : Int32))) (.int (15 : Int32))) (by decide +kernel))
    · exact va_eqt (hs (Cond.eq (.elem (.static "ConeDesk" "CHOICE_STARTS" "[I") (.int (5 : Int32))) (.int (16 : Int32))) (by decide +kernel))
  obtain ⟨tS, e_tS, h_tS⟩ := va_Tof (tm := (.static "ConeDesk" "CHOICE_STARTS" "[I")) (ty := .int) (N := 6) (f := fun k => .int (cs_t.getD k 0)) (A := fun q => s.heap.size ≤ q) (by decide) (hs _ (by decide +kernel)) (va_eqt (hs (Cond.eq (.length (.static "ConeDesk" "CHOICE_STARTS" "[I")) (.int (6 : Int32))) (by decide +kernel))) el_tS (fun a h => Nat.not_le.mpr h)
  exact ⟨tC, tS, va_Zof (G _ mw_63) (G _ mw_1) e_tC (fun a h => Nat.not_le.mpr h), h_tC, va_Zof (G _ mw_378) (G _ mw_1) e_tS (fun a h => Nat.not_le.mpr h), h_tS⟩
theorem gs_of {s : State} {b : Addr} (G : gw s b) (hg : (Jvm.Cond.and given_1 narrow_1).before #[Value.ref b] s = true) : gs s b := by
  have hs := flat_of_before _ hg
  refine ⟨fun w hw => ?_, fun q hq => ?_⟩
  · simp only [ge_heapy, List.mem_cons, List.not_mem_nil, or_false] at hw
    rcases hw with rfl | rfl | rfl | rfl
    · exact G _ mw_295
    · exact G _ mw_297
    · exact hs _ (by decide +kernel)
    · exact hs _ (by decide +kernel)
  · simp only [ge_texts, List.mem_cons, List.not_mem_nil, or_false] at hq
    rcases hq with rfl | rfl | rfl | rfl | rfl | rfl | rfl | rfl | rfl
    · obtain ⟨a, c, cA, kA, q1, -⟩ := Cond.exactly_spec (args := #[Value.ref b]) (first := s) (o := none) (s := s) (idx := []) (t := .string "ConeDesk" 72) (cls := "java/lang/String") (hs (Cond.exactly (.string "ConeDesk" 72) "java/lang/String") (by decide +kernel))
      exact ⟨a, vk_R.of (G (Cond.stringRef "ConeDesk" 72 "a row has coordinates -5 .. 5, not all of them 0") (List.mem_append_right _ (List.mem_of_getElem? (i := 309) (by decide +kernel)))) q1⟩
    · obtain ⟨a, c, cA, kA, q1, -⟩ := Cond.exactly_spec (args := #[Value.ref b]) (first := s) (o := none) (s := s) (idx := []) (t := .string "ConeDesk" 82) (cls := "java/lang/String") (hs (Cond.exactly (.string "ConeDesk" 82) "java/lang/String") (by decide +kernel))
      exact ⟨a, vk_R.of (G (Cond.stringRef "ConeDesk" 82 "eight rows are there") (List.mem_append_right _ (List.mem_of_getElem? (i := 345) (by decide +kernel)))) q1⟩
    · obtain ⟨a, c, cA, kA, q1, -⟩ := Cond.exactly_spec (args := #[Value.ref b]) (first := s) (o := none) (s := s) (idx := []) (t := .string "ConeDesk" 171) (cls := "java/lang/String") (hs (Cond.exactly (.string "ConeDesk" 171) "java/lang/String") (by decide +kernel))
      exact ⟨a, vk_R.of (G (Cond.stringRef "ConeDesk" 171 "no such row") (List.mem_append_right _ (List.mem_of_getElem? (i := 404) (by decide +kernel)))) q1⟩
    · obtain ⟨a, c, cA, kA, q1, -⟩ := Cond.exactly_spec (args := #[Value.ref b]) (first := s) (o := none) (s := s) (idx := []) (t := .string "ConeDesk" 173) (cls := "java/lang/String") (hs (Cond.exactly (.string "ConeDesk" 173) "java/lang/String") (by decide +kernel))
      exact ⟨a, vk_R.of (G (Cond.stringRef "ConeDesk" 173 "no such coordinate") (List.mem_append_right _ (List.mem_of_getElem? (i := 426) (by decide +kernel)))) q1⟩
    · obtain ⟨a, c, cA, kA, q1, -⟩ := Cond.exactly_spec (args := #[Value.ref b]) (first := s) (o := none) (s := s) (idx := []) (t := .string "ConeDesk" 177) (cls := "java/lang/String") (hs (Cond.exactly (.string "ConeDesk" 177) "java/lang/String") (by decide +kernel))
      exact ⟨a, vk_R.of (G (Cond.stringRef "ConeDesk" 177 "the cone is not pointed") (List.mem_append_right _ (List.mem_of_getElem? (i := 439) (by decide +kernel)))) q1⟩
    · obtain ⟨a, c, cA, kA, q1, -⟩ := Cond.exactly_spec (args := #[Value.ref b]) (first := s) (o := none) (s := s) (idx := []) (t := .string "ConeDesk" 115) (cls := "java/lang/String") (hs (Cond.exactly (.string "ConeDesk" 115) "java/lang/String") (by decide +kernel))
      exact ⟨a, vk_R.of (G (Cond.stringRef "ConeDesk" 115 "no such ray") (List.mem_append_right _ (List.mem_of_getElem? (i := 621) (by decide +kernel)))) q1⟩
    · obtain ⟨a, c, cA, kA, q1, -⟩ := Cond.exactly_spec (args := #[Value.ref b]) (first := s) (o := none) (s := s) (idx := []) (t := .string "ConeDesk" 175) (cls := "java/lang/String") (hs (Cond.exactly (.string "ConeDesk" 175) "java/lang/String") (by decide +kernel))
      exact ⟨a, vk_R.of (G (Cond.stringRef "ConeDesk" 175 "the cone is large") (List.mem_append_right _ (List.mem_of_getElem? (i := 673) (by decide +kernel)))) q1⟩
    · obtain ⟨a, c, cA, kA, q1, -⟩ := Cond.exactly_spec (args := #[Value.ref b]) (first := s) (o := none) (s := s) (idx := []) (t := .string "ConeDesk" 141) (cls := "java/lang/String") (hs (Cond.exactly (.string "ConeDesk" 141) "java/lang/String") (by decide +kernel))
      exact ⟨a, vk_R.of (G (Cond.stringRef "ConeDesk" 141 "no such point") (List.mem_append_right _ (List.mem_of_getElem? (i := 674) (by decide +kernel)))) q1⟩
    · obtain ⟨a, c, cA, kA, q1, -⟩ := Cond.exactly_spec (args := #[Value.ref b]) (first := s) (o := none) (s := s) (idx := []) (t := .string "ConeDesk" 151) (cls := "java/lang/String") (hs (Cond.exactly (.string "ConeDesk" 151) "java/lang/String") (by decide +kernel))
      exact ⟨a, vk_R.of (G (Cond.stringRef "ConeDesk" 151 "a coordinate is not -1000 .. 1000") (List.mem_append_right _ (List.mem_of_getElem? (i := 699) (by decide +kernel)))) q1⟩
