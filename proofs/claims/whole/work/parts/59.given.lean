/-! What the Statement gives of the start. -/
theorem arr_of {s : State} {args : Array Value} {ty : FieldType} (h : (Cond.arrayClass ty).before args s = true) : ∃ cA : ClassId, ArrOfT s cA ty ∧ s.vm.findClass ("[" ++ ty.toString) = some cA := by
  obtain ⟨cA, kA, comp, h1, h2, h3⟩ := Cond.arrayClass_spec h
  exact ⟨cA, fun n z => ⟨fun k h => (by cases h), kA, h2, comp, h3⟩, h1⟩
section GIV
variable {p : Program} {s : State} {m : MethodId} {meth : Method} {c : Code} {sc L : Nat} {xs : Nat → Int32}
set_option maxRecDepth 100000 in
theorem K_start (C0 : lw_At p s m meth c sc L xs) : ∃ (D : va_G) (cI cB cL : ClassId), va_K D vwCl [(cI, .int), (cB, .byte), (cL, .long)] s := by
  obtain ⟨hx, hb, hr, hml, hown, hts, hX, hbl, hlocks, hgv⟩ := id C0
  obtain ⟨c0, iS0, hKn0⟩ := u_known (C := RX1) (T := TX1) (N := 2) (n := 2) hts inX1 (hts (.instantiable RX1 2) (by decide +kernel))
  obtain ⟨c1, iS1, hKn1⟩ := u_known (C := RX2) (T := TX2) (N := 9) (n := 9) hts inX2 (hts (.instantiable RX2 9) (by decide +kernel))
  obtain ⟨c2, iS2, hKn2⟩ := u_known (C := RX3) (T := TX3) (N := 7) (n := 7) hts inX3 (hts (.instantiable RX3 7) (by decide +kernel))
  obtain ⟨c3, iS3, hKn3⟩ := u_known (C := RX4) (T := TX4) (N := 2) (n := 2) hts inX4 (hts (.instantiable RX4 2) (by decide +kernel))
  obtain ⟨c4, iS4, hKn4⟩ := u_known (C := RX5) (T := TX5) (N := 3) (n := 3) hts inX5 (hts (.instantiable RX5 3) (by decide +kernel))
  obtain ⟨c5, iS5, hKn5⟩ := u_known (C := RX6) (T := TX6) (N := 8) (n := 8) hts inX6 (hts (.instantiable RX6 8) (by decide +kernel))
  obtain ⟨c6, iS6, hKn6⟩ := u_known (C := RX8) (T := TX8) (N := 8) (n := 8) hts inX8 (hts (.instantiable RX8 8) (by decide +kernel))
  obtain ⟨c7, iS7, hKn7⟩ := u_known (C := RX9) (T := TX9) (N := 27) (n := 27) hts inX9 (hts (.instantiable RX9 27) (by decide +kernel))
  obtain ⟨cI, hI1, hI2⟩ := arr_of (hts (.arrayClass .int) (by decide +kernel))
  obtain ⟨cB, hB1, hB2⟩ := arr_of (hts (.arrayClass .byte) (by decide +kernel))
  obtain ⟨cL, hL1, hL2⟩ := arr_of (hts (.arrayClass .long) (by decide +kernel))
  refine ⟨(fun k => [c0, c1, c2, c3, c4, c5, c6, c7].getD k c0, fun k => [iS0, iS1, iS2, iS3, iS4, iS5, iS6, iS7].getD k iS0), cI, cB, cL, ?_, ?_⟩
  · intro k q hq
    match k, hq with
    | 0, hq => cases hq; exact hKn0
    | 1, hq => cases hq; exact hKn1
    | 2, hq => cases hq; exact hKn2
    | 3, hq => cases hq; exact hKn3
    | 4, hq => cases hq; exact hKn4
    | 5, hq => cases hq; exact hKn5
    | 6, hq => cases hq; exact hKn6
    | 7, hq => cases hq; exact hKn7
    | k + 8, hq => simp [vwCl] at hq
  · intro k q hq
    match k, hq with
    | 0, hq => cases hq; exact ⟨hI1, hI2⟩
    | 1, hq => cases hq; exact ⟨hB1, hB2⟩
    | 2, hq => cases hq; exact ⟨hL1, hL2⟩
    | k + 3, hq => simp at hq
theorem el_ML : ∀ j, j < 12 → Cond.eq (.elem (.static RX0 "MONTH_LENGTHS" "[I") (.int (Int32.ofNat j))) (.int (tML j)) ∈ flatC (Jvm.Cond.and given_1 narrow_1) := by decide +kernel
theorem el_MO : ∀ j, j < 36 → Cond.eq (.elem (.static RX7 "MONTHS" "[C") (.int (Int32.ofNat j))) (.int (tMO j)) ∈ flatC (Jvm.Cond.and given_1 narrow_1) := by decide +kernel
theorem el_WD : ∀ j, j < 21 → Cond.eq (.elem (.static RX7 "WEEKDAYS" "[C") (.int (Int32.ofNat j))) (.int (tWD j)) ∈ flatC (Jvm.Cond.and given_1 narrow_1) := by decide +kernel
theorem el_S0 : ∀ j, j < 36 → Cond.eq (.elem (.field (.string RX9 145) "java/lang/String" "value" "[B") (.int (Int32.ofNat j))) (.int (bMO.getD j 0)) ∈ flatC (Jvm.Cond.and given_1 narrow_1) := by decide +kernel
theorem el_S1 : ∀ j, j < 21 → Cond.eq (.elem (.field (.string RX9 151) "java/lang/String" "value" "[B") (.int (Int32.ofNat j))) (.int (bWD.getD j 0)) ∈ flatC (Jvm.Cond.and given_1 narrow_1) := by decide +kernel
def tmS (i : Nat) : Term := if i = 0 then .string RX9 145 else .string RX9 151
set_option maxRecDepth 100000 in
theorem pA_start (C0 : lw_At p s m meth c sc L xs) : ∃ tb sa : Nat → Nat, pA tb sa (nuf s) s s.heap := by
  obtain ⟨hx, hb, hr, hml, hown, hts, hX, hbl, hlocks, hgv⟩ := id C0
  have hs := flat_of_before _ hgv
  have hA : ∀ a : Nat, a < s.heap.size → ¬ nuf s a := fun a h => Nat.not_le.mpr h
  obtain ⟨t0, e0, hT0⟩ := va_Tof (tm := .static RX0 "MONTH_LENGTHS" "[I") (ty := .int) (N := 12) (f := fun j => .int (tML j)) (A := nuf s) (by decide) (hs (.arrayOf (.static RX0 "MONTH_LENGTHS" "[I") .int) (by decide +kernel)) (va_eqt (hs (.eq (.length (.static RX0 "MONTH_LENGTHS" "[I")) (.int (Int32.ofNat 12))) (by decide +kernel))) (fun j hj => va_eqt (hs _ (el_ML j hj))) hA
  obtain ⟨t1, e1, hT1⟩ := va_Tof (tm := .static RX7 "MONTHS" "[C") (ty := .char) (N := 36) (f := fun j => .int (tMO j)) (A := nuf s) (by decide) (hs (.arrayOf (.static RX7 "MONTHS" "[C") .char) (by decide +kernel)) (va_eqt (hs (.eq (.length (.static RX7 "MONTHS" "[C")) (.int (Int32.ofNat 36))) (by decide +kernel))) (fun j hj => va_eqt (hs _ (el_MO j hj))) hA
  obtain ⟨t2, e2, hT2⟩ := va_Tof (tm := .static RX7 "WEEKDAYS" "[C") (ty := .char) (N := 21) (f := fun j => .int (tWD j)) (A := nuf s) (by decide) (hs (.arrayOf (.static RX7 "WEEKDAYS" "[C") .char) (by decide +kernel)) (va_eqt (hs (.eq (.length (.static RX7 "WEEKDAYS" "[C")) (.int (Int32.ofNat 21))) (by decide +kernel))) (fun j hj => va_eqt (hs _ (el_WD j hj))) hA
  have z0 := va_Zof (v := .ref t0) (hts (.laysStatic RX0 "MONTH_LENGTHS" "[I") (by decide +kernel)) (hts (.initialized RX0) (by decide +kernel)) e0 hA
  have z1 := va_Zof (v := .ref t1) (hts (.laysStatic RX7 "MONTHS" "[C") (by decide +kernel)) (hts (.initialized RX7) (by decide +kernel)) e1 hA
  have z2 := va_Zof (v := .ref t2) (hts (.laysStatic RX7 "WEEKDAYS" "[C") (by decide +kernel)) (hts (.initialized RX7) (by decide +kernel)) e2 hA
  have c01 : ∀ {P : Nat → Prop}, P 0 → P 1 → ∀ i : Nat, i < 2 → P i := fun {P} h0 h1 i hi => by
    rcases (show i = 0 ∨ i = 1 by omega) with rfl | rfl
    · exact h0
    · exact h1
  obtain ⟨aK, aV, hV, eV⟩ := vk_Sof (s := s) (args := #[Value.ref sc]) (N := 2) (tm := tmS) (len := [36, 21]) (byt := [bMO, bWD]) (A := nuf s) (c01 (by decide) (by decide))
    (c01 (hs (.exactly (.string RX9 145) "java/lang/String") (by decide +kernel)) (hs (.exactly (.string RX9 151) "java/lang/String") (by decide +kernel)))
    (c01 (hs (.eq (.field (.string RX9 145) "java/lang/String" "coder" "B") (.int 0)) (by decide +kernel)) (hs (.eq (.field (.string RX9 151) "java/lang/String" "coder" "B") (.int 0)) (by decide +kernel)))
    (c01 (hs (.arrayOf (.field (.string RX9 145) "java/lang/String" "value" "[B") .byte) (by decide +kernel)) (hs (.arrayOf (.field (.string RX9 151) "java/lang/String" "value" "[B") .byte) (by decide +kernel)))
    (c01 (hs (.eq (.length (.field (.string RX9 145) "java/lang/String" "value" "[B")) (.int (Int32.ofNat 36))) (by decide +kernel)) (hs (.eq (.length (.field (.string RX9 151) "java/lang/String" "value" "[B")) (.int (Int32.ofNat 21))) (by decide +kernel)))
    (c01 (fun j hj => hs _ (el_S0 j hj)) (fun j hj => hs _ (el_S1 j hj)))
    (fun i j hi hj hij => by
      have h := hs (.not (.eq (.string RX9 145) (.string RX9 151))) (by decide +kernel)
      rcases (show (i = 0 ∧ j = 1) ∨ (i = 1 ∧ j = 0) by omega) with ⟨rfl, rfl⟩ | ⟨rfl, rfl⟩
      · exact Or.inl h
      · exact Or.inr h) hA
  obtain ⟨s0, -, -, -, q0, -⟩ := Cond.exactly_spec (args := #[Value.ref sc]) (first := s) (o := none) (s := s) (idx := []) (t := .string RX8 148) (cls := "java/lang/String") (hs (.exactly (.string RX8 148) "java/lang/String") (by decide +kernel))
  obtain ⟨s1, -, -, -, q1, -⟩ := Cond.exactly_spec (args := #[Value.ref sc]) (first := s) (o := none) (s := s) (idx := []) (t := .string RX8 165) (cls := "java/lang/String") (hs (.exactly (.string RX8 165) "java/lang/String") (by decide +kernel))
  refine ⟨fun k => [t0, t1, t2, aK 0, aK 1, aV 0, aV 1].getD k 0, fun k => [s0, s1].getD k 0, ⟨⟨z0, hT0⟩, ⟨z1, hT1⟩, ⟨z2, hT2⟩, ⟨vk_R.of (hts (.stringRef RX9 145 "janfebmaraprmayjunjulaugsepoctnovdec") (by decide +kernel)) (eV 0 (by decide)), vk_R.of (hts (.stringRef RX9 151 "montuewedthufrisatsun") (by decide +kernel)) (eV 1 (by decide))⟩, ⟨c01 (hV.1 0 (by decide)) (hV.1 1 (by decide)), fun i j hi hj e => ?_⟩,
    va_Zof (hts (.laysStatic RJ0 "COMPACT_STRINGS" "Z") (by decide +kernel)) (hts (.initialized RJ0) (by decide +kernel)) (va_eqt (hs (.eq (.static RJ0 "COMPACT_STRINGS" "Z") (.int 1)) (by decide +kernel))) hA,
    va_Zqof (hts (.laysStatic RJ3 "SIOOBE_FORMATTER" "Ljava/util/function/BiFunction;") (by decide +kernel)) (hts (.initialized RJ3) (by decide +kernel)) (hs (.isRef (.static RJ3 "SIOOBE_FORMATTER" "Ljava/util/function/BiFunction;")) (by decide +kernel)) hA⟩,
    ⟨va_Nw.of rfl (hts (.castable nx_X nx_X) (by decide +kernel)), va_Nw.of rfl (hts (.declares (Bundle.initS "java/lang/RuntimeException")) (by decide +kernel)), va_Nw.of rfl (hts (.declares (Bundle.initS "java/lang/Exception")) (by decide +kernel)), va_Nw.of rfl (hts (.declares (Bundle.initS Bundle.tN)) (by decide +kernel))⟩,
    vx_Zqof (hts (.laysStatic Bundle.tN "UNASSIGNED_STACK" Bundle.steD) (by decide +kernel)) (hts (.initialized Bundle.tN) (by decide +kernel)) (hs (.isRef (.static Bundle.tN "UNASSIGNED_STACK" Bundle.steD)) (by decide +kernel)) hA,
    vx_Zqof (hts (.laysStatic Bundle.tN "SUPPRESSED_SENTINEL" Bundle.listD) (by decide +kernel)) (hts (.initialized Bundle.tN) (by decide +kernel)) (hs (.isRef (.static Bundle.tN "SUPPRESSED_SENTINEL" Bundle.listD)) (by decide +kernel)) hA,
    vk_R.of (hts (.stringRef RX8 148 "no such day") (by decide +kernel)) q0, vk_R.of (hts (.stringRef RX8 165 "no such part of a day") (by decide +kernel)) q1⟩
  rcases (show i = 0 ∨ i = 1 by omega) with rfl | rfl <;> rcases (show j = 0 ∨ j = 1 by omega) with rfl | rfl
  · rfl
  · exact hV.2 0 1 hi hj e
  · exact hV.2 1 0 hi hj e
  · rfl
end GIV
