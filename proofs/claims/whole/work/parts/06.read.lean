set_option maxHeartbeats 4000000 in
set_option maxRecDepth 100000 in
theorem c_X2_first (l : Launch) (D : va_G) (cI : ClassId) (a tb : Nat → Nat) (st : ST) (r : Int32) (hf : fX2_first st = some r) : MetR l yX2_first wsX2_first ({ frames := 0, cells := 0, slots := 0, locals := 0 }) [.ref (a 5)] D [(cI, .int)] (cw cI a) (cA a) tb st r := by
  refine met_of (cc := cX2_first) (maxL := 1) (ret := (some .int)) (by decide) rfl (Nat.le_of_ble_eq_true rfl) ?_
  intro p e s m below meth c hx hb hr hml hts hown hlk hG ls hl
  have hown : s.vm.findClass RX2 = some m.cls := hown
  obtain ⟨hP, hK, hD, hZ⟩ := hG
  have hS : va_S (cA a) s.heap s.heap [] := va_S.rf
  have hl : lv_has ls 1 [(0, .ref (a 5))] := hl
  have hiX2 : ∀ w ∈ wsX20, w ∈ wsX2_first := by decide +kernel
  have k19 := hts (.fieldLink RX2 19 "DayColumn$Reader" "first" "I") (by decide +kernel)
  unfold fX2_first at hf
  refine lv_aload_n hx hb dX2_first_0 rfl (lv_at hl 0 rfl) ?_
  refine va_get (D := D) (ci := 1) (v := .int (st.1 11)) (C := RX2) (T := TX2) (N := 9) hx hb hts hiX2 hown hK hP 5 rfl rfl 7 (by decide) k19 (fun _ h9 => h9) rfl dX2_first_1 ?_
  exact W.iret (v := (st.1 11)) hx hb hr (fun t ht _ => ⟨(st.1 11), rfl, so_i hf, ht⟩) (fun _ h => by cases h) dX2_first_4
set_option maxHeartbeats 4000000 in
set_option maxRecDepth 100000 in
theorem c_X2_last (l : Launch) (D : va_G) (cI : ClassId) (a tb : Nat → Nat) (st : ST) (r : Int32) (hf : fX2_last st = some r) : MetR l yX2_last wsX2_last ({ frames := 0, cells := 0, slots := 0, locals := 0 }) [.ref (a 5)] D [(cI, .int)] (cw cI a) (cA a) tb st r := by
  refine met_of (cc := cX2_last) (maxL := 1) (ret := (some .int)) (by decide) rfl (Nat.le_of_ble_eq_true rfl) ?_
  intro p e s m below meth c hx hb hr hml hts hown hlk hG ls hl
  have hown : s.vm.findClass RX2 = some m.cls := hown
  obtain ⟨hP, hK, hD, hZ⟩ := hG
  have hS : va_S (cA a) s.heap s.heap [] := va_S.rf
  have hl : lv_has ls 1 [(0, .ref (a 5))] := hl
  have hiX2 : ∀ w ∈ wsX20, w ∈ wsX2_last := by decide +kernel
  have k22 := hts (.fieldLink RX2 22 "DayColumn$Reader" "last" "I") (by decide +kernel)
  unfold fX2_last at hf
  refine lv_aload_n hx hb dX2_last_0 rfl (lv_at hl 0 rfl) ?_
  refine va_get (D := D) (ci := 1) (v := .int (st.1 12)) (C := RX2) (T := TX2) (N := 9) hx hb hts hiX2 hown hK hP 5 rfl rfl 8 (by decide) k22 (fun _ h9 => h9) rfl dX2_last_1 ?_
  exact W.iret (v := (st.1 12)) hx hb hr (fun t ht _ => ⟨(st.1 12), rfl, so_i hf, ht⟩) (fun _ h => by cases h) dX2_last_4
set_option maxHeartbeats 4000000 in
set_option maxRecDepth 100000 in
theorem c_X2_hold (l : Launch) (D : va_G) (cI : ClassId) (a tb : Nat → Nat) (st : ST) (p2 : Int32) (r : ST) (hf : fX2_hold st p2 = some r) : MetV l yX2_hold wsX2_hold ({ frames := 3, cells := 0, slots := 0, locals := 64 }) [.ref (a 5), .ref (a 3), .int p2] D [(cI, .int)] (cw cI a) (cA a) tb st r := by
  refine met_of (cc := cX2_hold) (maxL := 4) (ret := none) (by decide) rfl (Nat.le_of_ble_eq_true rfl) ?_
  intro p e s m below meth c hx hb hr hml hts hown hlk hG ls hl
  have hown : s.vm.findClass RX2 = some m.cls := hown
  obtain ⟨hP, hK, hD, hZ⟩ := hG
  have hS : va_S (cA a) s.heap s.heap [] := va_S.rf
  have hl : lv_has ls 4 [(0, .ref (a 5)), (1, .ref (a 3)), (2, .int p2)] := hl
  have hiX2 : ∀ w ∈ wsX20, w ∈ wsX2_hold := by decide +kernel
  have k15 := hts (.fieldLink RX2 15 "DayColumn$Reader" "length" "I") (by decide +kernel)
  have k9 := hts (.fieldLink RX2 9 "DayColumn$Reader" "cell" "[I") (by decide +kernel)
  have l16 : ∀ (n : Nat) (x_2 x_3 : Int32) (st : ST) (H : Heap) (locs : List Loc) (ls : Array Slot), va_P D vwCl (cw cI a st) H → va_S (cA a) s.heap H locs → lv_has ls 4 [(0, .ref (a 5)), (1, .ref (a 3)), (2, .int x_2), (3, .int x_3)] → fX2_hold_16 n st x_2 x_3 = some r → W p l e ({ frames := 3, cells := 0, slots := 0, locals := 64 }) s m ([.ref (a 5), .ref (a 3), .int p2] : List Value).toArray below meth c H locs 0 0 (MQ below (va_Qv (fun (u : ST) => u = r) (fun u t => va_P D vwCl (cw cI a u) t.heap) (cA a)) ([.ref (a 5), .ref (a 3), .int p2] : List Value).toArray s 0 0 (cA a)) (F0 m 16 ls []) := by
    intro n
    induction n with
    | zero =>
      intro x_2 x_3 st H locs ls hP hS hl hf
      cases hf
    | succ n ih16 =>
      intro x_2 x_3 st H locs ls hP hS hl hf
      unfold fX2_hold_16 at hf
      refine lv_iload_n hx hb dX2_hold_16 rfl (lv_at hl 3 rfl) ?_
      refine lv_aload_n hx hb dX2_hold_17 rfl (lv_at hl 0 rfl) ?_
      refine va_get (D := D) (ci := 1) (v := .int (st.1 5)) (C := RX2) (T := TX2) (N := 9) hx hb hts hiX2 hown hK hP 5 rfl rfl 1 (by decide) k15 (fun _ h9 => h9) rfl dX2_hold_18 ?_
      refine lv_icmp_ge (tgt := 42) hx hb dX2_hold_21 (by decide) (fun c1 => ?_) (fun c1 => ?_)
      · replace hf := if_t hf c1
        exact W.vret hx hb hr (fun t ht _ => ⟨⟨st, rfl, so_i hf, p_at ht hP⟩, hS.F ht⟩) hS.2.2 dX2_hold_42
      · replace hf := if_f hf c1
        refine lv_aload_n hx hb dX2_hold_24 rfl (lv_at hl 0 rfl) ?_
        refine va_get (D := D) (ci := 1) (v := .ref (a 13)) (C := RX2) (T := TX2) (N := 9) hx hb hts hiX2 hown hK hP 5 rfl rfl 0 (by decide) k9 (fun _ h9 => h9) rfl dX2_hold_25 ?_
        refine lv_iload_n hx hb dX2_hold_28 rfl (lv_at hl 3 rfl) ?_
        refine lv_aload_n hx hb dX2_hold_29 rfl (lv_at hl 1 rfl) ?_
        refine lv_iload_n hx hb dX2_hold_30 rfl (lv_at hl 2 rfl) ?_
        refine lv_iload_n hx hb dX2_hold_31 rfl (lv_at hl 3 rfl) ?_
        obtain ⟨o2, ho2, hf⟩ := ob_e hf
        refine w_callR (b := a 3) (As := [.int x_2, .int x_3]) (rest := [.int x_3, .ref (a 13)]) ⟨hx, hb, hml, hown, hts⟩ (c_X5_byteAt_c l D cI a tb st x_2 x_3 o2 ho2) (cwV 2 hts gX2_hold_X5_byteAt rfl rfl rfl (by decide +kernel) ⟨Nat.le_of_ble_eq_true rfl, Nat.le_of_ble_eq_true rfl⟩) hP hK hD hZ hS (va_recv hK hP (ci := 4) (q0 := 3) rfl rfl) rfl hl.1 rfl (Nat.le_of_ble_eq_true rfl) ⟨Nat.zero_le _, Nat.zero_le _⟩ dX2_hold_32 ?_
        obtain ⟨hi3, hf⟩ := ix_e hf
        obtain ⟨s4, es4, hf⟩ := bnd_e hf
        refine va_iast hx hb hK hP (hD st) hS 13 0 rfl rfl hi3 dX2_hold_35 (fun H locs hP _ hS => ?_)
        have hP : va_P D vwCl (cw cI a s4) H := by rw [es4]; exact hP
        obtain ⟨x5, ex5, hf⟩ := bnd_e hf
        refine lv_iinc (v := x5) (lv' := [(3, .int x5), (0, .ref (a 5)), (1, .ref (a 3)), (2, .int x_2)]) hx hb dX2_hold_36 hl (k := 3) rfl (by rw [ex5]; rfl) (by decide) rfl (fun ls hl => ?_)
        refine lv_goto (tgt := 16) hx hb dX2_hold_39 (by decide) ?_
        exact ih16 x_2 x5 s4 _ _ _ hP hS (lv_sub hl [1, 2, 3, 0] rfl) hf
  unfold fX2_hold at hf
  refine lv_aload_n hx hb dX2_hold_0 rfl (lv_at hl 0 rfl) ?_
  refine lv_aload_n hx hb dX2_hold_1 rfl (lv_at hl 1 rfl) ?_
  refine lv_iload_n hx hb dX2_hold_2 rfl (lv_at hl 2 rfl) ?_
  obtain ⟨o6, ho6, hf⟩ := ob_e hf
  refine w_callR (b := a 3) (As := [.int p2]) (rest := [.ref (a 5)]) ⟨hx, hb, hml, hown, hts⟩ (c_X5_lengthOf_c l D cI a tb st p2 o6 ho6) (cwV 1 hts gX2_hold_X5_lengthOf rfl rfl rfl (by decide +kernel) ⟨Nat.le_of_ble_eq_true rfl, Nat.le_of_ble_eq_true rfl⟩) hP hK hD hZ hS (va_recv hK hP (ci := 4) (q0 := 3) rfl rfl) rfl hl.1 rfl (Nat.le_of_ble_eq_true rfl) ⟨Nat.zero_le _, Nat.zero_le _⟩ dX2_hold_3 ?_
  refine lv_bipush (v := 24) hx hb dX2_hold_6 (by decide) ?_
  refine va_mmin hx hb (by rw [hml]; exact hl.1.symm) hown (hts (.methodLink RX2 31 Lib.Math.min.name) (by decide +kernel)) (hts (.static Lib.Math.min.name) (by decide +kernel)) (hts (.initialized "java/lang/Math") (by decide +kernel)) (hts (.code Lib.Math.min.name Lib.Math.min.code 2 (some .int)) (by decide +kernel)) (Nat.le_of_ble_eq_true rfl) (Nat.le_of_ble_eq_true rfl) (Nat.zero_le _) (Nat.zero_le _) dX2_hold_8 ?_
  obtain ⟨x7, ex7, hf⟩ := bnd_e hf
  refine w_nm ex7 ?_
  obtain ⟨s8, es8, hf⟩ := bnd_e hf
  refine va_put (D := D) (ci := 1) (v := .int x7) (ty := .int) (C := RX2) (T := TX2) (N := 9) hx hb hts hiX2 tyX2 tyX2_ok nmX2 hown hK hP (hD st) hS 5 rfl rfl 1 (by decide) k15 (fun _ h9 => h9) rfl (by decide +kernel) rfl rfl (Nat.le_of_ble_eq_true rfl) dX2_hold_11 (fun H locs hP _ hS => ?_)
  have hP : va_P D vwCl (cw cI a s8) H := by rw [es8]; exact hP
  refine lv_iconst (v := 0) hx hb dX2_hold_14 (by decide) ?_
  refine lv_istore_n (lv' := [(3, .int 0), (0, .ref (a 5)), (1, .ref (a 3)), (2, .int p2)]) hx hb dX2_hold_15 rfl hl (by decide) rfl (fun ls hl => ?_)
  exact l16 1000 p2 0 s8 _ _ _ hP hS (lv_sub hl [1, 2, 3, 0] rfl) hf
set_option maxHeartbeats 4000000 in
set_option maxRecDepth 100000 in
theorem c_X2_digitsHere (l : Launch) (D : va_G) (cI : ClassId) (a tb : Nat → Nat) (st : ST) (r : Int32) (hf : fX2_digitsHere st = some r) : MetR l yX2_digitsHere wsX2_digitsHere ({ frames := 0, cells := 0, slots := 0, locals := 0 }) [.ref (a 5)] D [(cI, .int)] (cw cI a) (cA a) tb st r := by
  refine met_of (cc := cX2_digitsHere) (maxL := 2) (ret := (some .int)) (by decide) rfl (Nat.le_of_ble_eq_true rfl) ?_
  intro p e s m below meth c hx hb hr hml hts hown hlk hG ls hl
  have hown : s.vm.findClass RX2 = some m.cls := hown
  obtain ⟨hP, hK, hD, hZ⟩ := hG
  have hS : va_S (cA a) s.heap s.heap [] := va_S.rf
  have hl : lv_has ls 2 [(0, .ref (a 5))] := hl
  have hiX2 : ∀ w ∈ wsX20, w ∈ wsX2_digitsHere := by decide +kernel
  have k15 := hts (.fieldLink RX2 15 "DayColumn$Reader" "length" "I") (by decide +kernel)
  have k40 := hts (.fieldLink RX2 40 "DayColumn$Reader" "at" "I") (by decide +kernel)
  have k9 := hts (.fieldLink RX2 9 "DayColumn$Reader" "cell" "[I") (by decide +kernel)
  unfold fX2_digitsHere at hf
  refine lv_aload_n hx hb dX2_digitsHere_0 rfl (lv_at hl 0 rfl) ?_
  refine va_get (D := D) (ci := 1) (v := .int (st.1 6)) (C := RX2) (T := TX2) (N := 9) hx hb hts hiX2 hown hK hP 5 rfl rfl 2 (by decide) k40 (fun _ h9 => h9) rfl dX2_digitsHere_1 ?_
  refine lv_iconst (v := 1) hx hb dX2_digitsHere_4 (by decide) ?_
  refine lv_iadd hx hb dX2_digitsHere_5 ?_
  obtain ⟨x1, ex1, hf⟩ := bnd_e hf
  refine w_nm ex1 ?_
  refine lv_istore_n (lv' := [(1, .int x1), (0, .ref (a 5))]) hx hb dX2_digitsHere_6 rfl hl (by decide) rfl (fun ls hl => ?_)
  refine lv_iload_n hx hb dX2_digitsHere_7 rfl (lv_at hl 0 rfl) ?_
  refine lv_aload_n hx hb dX2_digitsHere_8 rfl (lv_at hl 1 rfl) ?_
  refine va_get (D := D) (ci := 1) (v := .int (st.1 5)) (C := RX2) (T := TX2) (N := 9) hx hb hts hiX2 hown hK hP 5 rfl rfl 1 (by decide) k15 (fun _ h9 => h9) rfl dX2_digitsHere_9 ?_
  refine lv_icmp_ge (tgt := 41) hx hb dX2_digitsHere_12 (by decide) (fun c2 => ?_) (fun c2 => ?_)
  · replace hf := if_t hf c2
    refine lv_iconst (v := 1) hx hb dX2_digitsHere_41 (by decide) ?_
    exact W.iret (v := 1) hx hb hr (fun t ht _ => ⟨1, rfl, so_i hf, ht⟩) (fun _ h => by cases h) dX2_digitsHere_42
  · replace hf := if_f hf c2
    refine lv_aload_n hx hb dX2_digitsHere_15 rfl (lv_at hl 1 rfl) ?_
    refine va_get (D := D) (ci := 1) (v := .ref (a 13)) (C := RX2) (T := TX2) (N := 9) hx hb hts hiX2 hown hK hP 5 rfl rfl 0 (by decide) k9 (fun _ h9 => h9) rfl dX2_digitsHere_16 ?_
    refine lv_iload_n hx hb dX2_digitsHere_19 rfl (lv_at hl 0 rfl) ?_
    obtain ⟨hi3, hf⟩ := ix_e hf
    refine va_iald hx hb hK hP 13 0 rfl rfl hi3 dX2_digitsHere_20 ?_
    refine lv_bipush (v := 48) hx hb dX2_digitsHere_21 (by decide) ?_
    refine lv_icmp_lt (tgt := 41) hx hb dX2_digitsHere_23 (by decide) (fun c4 => ?_) (fun c4 => ?_)
    · replace hf := if_t hf c4
      refine lv_iconst (v := 1) hx hb dX2_digitsHere_41 (by decide) ?_
      exact W.iret (v := 1) hx hb hr (fun t ht _ => ⟨1, rfl, so_i hf, ht⟩) (fun _ h => by cases h) dX2_digitsHere_42
    · replace hf := if_f hf c4
      refine lv_aload_n hx hb dX2_digitsHere_26 rfl (lv_at hl 1 rfl) ?_
      refine va_get (D := D) (ci := 1) (v := .ref (a 13)) (C := RX2) (T := TX2) (N := 9) hx hb hts hiX2 hown hK hP 5 rfl rfl 0 (by decide) k9 (fun _ h9 => h9) rfl dX2_digitsHere_27 ?_
      refine lv_iload_n hx hb dX2_digitsHere_30 rfl (lv_at hl 0 rfl) ?_
      obtain ⟨hi5, hf⟩ := ix_e hf
      refine va_iald hx hb hK hP 13 0 rfl rfl hi5 dX2_digitsHere_31 ?_
      refine lv_bipush (v := 57) hx hb dX2_digitsHere_32 (by decide) ?_
      refine lv_icmp_gt (tgt := 41) hx hb dX2_digitsHere_34 (by decide) (fun c6 => ?_) (fun c6 => ?_)
      · replace hf := if_t hf c6
        refine lv_iconst (v := 1) hx hb dX2_digitsHere_41 (by decide) ?_
        exact W.iret (v := 1) hx hb hr (fun t ht _ => ⟨1, rfl, so_i hf, ht⟩) (fun _ h => by cases h) dX2_digitsHere_42
      · replace hf := if_f hf c6
        refine lv_iconst (v := 2) hx hb dX2_digitsHere_37 (by decide) ?_
        refine lv_goto (tgt := 42) hx hb dX2_digitsHere_38 (by decide) ?_
        exact W.iret (v := 2) hx hb hr (fun t ht _ => ⟨2, rfl, so_i hf, ht⟩) (fun _ h => by cases h) dX2_digitsHere_42
set_option maxHeartbeats 4000000 in
set_option maxRecDepth 100000 in
theorem c_X2_takeDigits (l : Launch) (D : va_G) (cI : ClassId) (a tb : Nat → Nat) (st : ST) (p1 : Int32) (r : Int32 × ST) (hf : fX2_takeDigits st p1 = some r) : MetW l yX2_takeDigits wsX2_takeDigits ({ frames := 0, cells := 0, slots := 0, locals := 0 }) [.ref (a 5), .int p1] D [(cI, .int)] (cw cI a) (cA a) tb st r := by
  refine met_of (cc := cX2_takeDigits) (maxL := 4) (ret := (some .int)) (by decide) rfl (Nat.le_of_ble_eq_true rfl) ?_
  intro p e s m below meth c hx hb hr hml hts hown hlk hG ls hl
  have hown : s.vm.findClass RX2 = some m.cls := hown
  obtain ⟨hP, hK, hD, hZ⟩ := hG
  have hS : va_S (cA a) s.heap s.heap [] := va_S.rf
  have hl : lv_has ls 4 [(0, .ref (a 5)), (1, .int p1)] := hl
  have hiX2 : ∀ w ∈ wsX20, w ∈ wsX2_takeDigits := by decide +kernel
  have k15 := hts (.fieldLink RX2 15 "DayColumn$Reader" "length" "I") (by decide +kernel)
  have k40 := hts (.fieldLink RX2 40 "DayColumn$Reader" "at" "I") (by decide +kernel)
  have k9 := hts (.fieldLink RX2 9 "DayColumn$Reader" "cell" "[I") (by decide +kernel)
  have l22 : ∀ (n : Nat) (x_1 x_2 x_3 : Int32) (st : ST) (H : Heap) (locs : List Loc) (ls : Array Slot), va_P D vwCl (cw cI a st) H → va_S (cA a) s.heap H locs → lv_has ls 4 [(0, .ref (a 5)), (1, .int x_1), (2, .int x_2), (3, .int x_3)] → fX2_takeDigits_22 n st x_1 x_2 x_3 = some r → W p l e ({ frames := 0, cells := 0, slots := 0, locals := 0 }) s m ([.ref (a 5), .int p1] : List Value).toArray below meth c H locs 0 0 (MQ below (va_Qi (fun (z : Int32) (u : ST) => z = r.1 ∧ u = r.2) (fun u t => va_P D vwCl (cw cI a u) t.heap) (cA a)) ([.ref (a 5), .int p1] : List Value).toArray s 0 0 (cA a)) (F0 m 22 ls []) := by
    intro n
    induction n with
    | zero =>
      intro x_1 x_2 x_3 st H locs ls hP hS hl hf
      cases hf
    | succ n ih22 =>
      intro x_1 x_2 x_3 st H locs ls hP hS hl hf
      unfold fX2_takeDigits_22 at hf
      refine lv_iload_n hx hb dX2_takeDigits_22 rfl (lv_at hl 3 rfl) ?_
      refine lv_aload_n hx hb dX2_takeDigits_23 rfl (lv_at hl 0 rfl) ?_
      refine va_get (D := D) (ci := 1) (v := .int (st.1 6)) (C := RX2) (T := TX2) (N := 9) hx hb hts hiX2 hown hK hP 5 rfl rfl 2 (by decide) k40 (fun _ h9 => h9) rfl dX2_takeDigits_24 ?_
      refine lv_iload_n hx hb dX2_takeDigits_27 rfl (lv_at hl 1 rfl) ?_
      refine lv_iadd hx hb dX2_takeDigits_28 ?_
      refine lv_icmp_ge (tgt := 77) hx hb dX2_takeDigits_29 (by decide) (fun c1 => ?_) (fun c1 => ?_)
      · replace hf := if_t hf c1
        refine lv_aload_n hx hb dX2_takeDigits_77 rfl (lv_at hl 0 rfl) ?_
        refine lv_dup hx hb dX2_takeDigits_78 rfl ?_
        refine va_get (D := D) (ci := 1) (v := .int (st.1 6)) (C := RX2) (T := TX2) (N := 9) hx hb hts hiX2 hown hK hP 5 rfl rfl 2 (by decide) k40 (fun _ h9 => h9) rfl dX2_takeDigits_79 ?_
        refine lv_iload_n hx hb dX2_takeDigits_82 rfl (lv_at hl 1 rfl) ?_
        refine lv_iadd hx hb dX2_takeDigits_83 ?_
        obtain ⟨x2, ex2, hf⟩ := bnd_e hf
        refine w_nm ex2 ?_
        obtain ⟨s3, es3, hf⟩ := bnd_e hf
        refine va_put (D := D) (ci := 1) (v := .int x2) (ty := .int) (C := RX2) (T := TX2) (N := 9) hx hb hts hiX2 tyX2 tyX2_ok nmX2 hown hK hP (hD st) hS 5 rfl rfl 2 (by decide) k40 (fun _ h9 => h9) rfl (by decide +kernel) rfl rfl (Nat.le_of_ble_eq_true rfl) dX2_takeDigits_84 (fun H locs hP _ hS => ?_)
        have hP : va_P D vwCl (cw cI a s3) H := by rw [es3]; exact hP
        refine lv_iload_n hx hb dX2_takeDigits_87 rfl (lv_at hl 2 rfl) ?_
        exact W.iret (v := x_2) hx hb hr (fun t ht _ => ⟨⟨x_2, s3, rfl, so_p hf, p_at ht hP⟩, hS.F ht⟩) hS.2.2 dX2_takeDigits_88
      · replace hf := if_f hf c1
        refine lv_aload_n hx hb dX2_takeDigits_32 rfl (lv_at hl 0 rfl) ?_
        refine va_get (D := D) (ci := 1) (v := .ref (a 13)) (C := RX2) (T := TX2) (N := 9) hx hb hts hiX2 hown hK hP 5 rfl rfl 0 (by decide) k9 (fun _ h9 => h9) rfl dX2_takeDigits_33 ?_
        refine lv_iload_n hx hb dX2_takeDigits_36 rfl (lv_at hl 3 rfl) ?_
        obtain ⟨hi4, hf⟩ := ix_e hf
        refine va_iald hx hb hK hP 13 0 rfl rfl hi4 dX2_takeDigits_37 ?_
        refine lv_bipush (v := 48) hx hb dX2_takeDigits_38 (by decide) ?_
        refine lv_icmp_lt (tgt := 54) hx hb dX2_takeDigits_40 (by decide) (fun c5 => ?_) (fun c5 => ?_)
        · replace hf := if_t hf c5
          refine lv_iconst (v := -1) hx hb dX2_takeDigits_54 (by decide) ?_
          exact W.iret (v := (-1)) hx hb hr (fun t ht _ => ⟨⟨(-1), st, rfl, so_p hf, p_at ht hP⟩, hS.F ht⟩) hS.2.2 dX2_takeDigits_55
        · replace hf := if_f hf c5
          refine lv_aload_n hx hb dX2_takeDigits_43 rfl (lv_at hl 0 rfl) ?_
          refine va_get (D := D) (ci := 1) (v := .ref (a 13)) (C := RX2) (T := TX2) (N := 9) hx hb hts hiX2 hown hK hP 5 rfl rfl 0 (by decide) k9 (fun _ h9 => h9) rfl dX2_takeDigits_44 ?_
          refine lv_iload_n hx hb dX2_takeDigits_47 rfl (lv_at hl 3 rfl) ?_
          obtain ⟨hi6, hf⟩ := ix_e hf
          refine va_iald hx hb hK hP 13 0 rfl rfl hi6 dX2_takeDigits_48 ?_
          refine lv_bipush (v := 57) hx hb dX2_takeDigits_49 (by decide) ?_
          refine lv_icmp_le (tgt := 56) hx hb dX2_takeDigits_51 (by decide) (fun c7 => ?_) (fun c7 => ?_)
          · replace hf := if_t hf c7
            refine lv_iload_n hx hb dX2_takeDigits_56 rfl (lv_at hl 2 rfl) ?_
            refine lv_bipush (v := 10) hx hb dX2_takeDigits_57 (by decide) ?_
            refine lv_imul hx hb dX2_takeDigits_59 ?_
            refine lv_aload_n hx hb dX2_takeDigits_60 rfl (lv_at hl 0 rfl) ?_
            refine va_get (D := D) (ci := 1) (v := .ref (a 13)) (C := RX2) (T := TX2) (N := 9) hx hb hts hiX2 hown hK hP 5 rfl rfl 0 (by decide) k9 (fun _ h9 => h9) rfl dX2_takeDigits_61 ?_
            refine lv_iload_n hx hb dX2_takeDigits_64 rfl (lv_at hl 3 rfl) ?_
            obtain ⟨hi8, hf⟩ := ix_e hf
            refine va_iald hx hb hK hP 13 0 rfl rfl hi8 dX2_takeDigits_65 ?_
            refine lv_iadd hx hb dX2_takeDigits_66 ?_
            refine lv_bipush (v := 48) hx hb dX2_takeDigits_67 (by decide) ?_
            refine lv_isub hx hb dX2_takeDigits_69 ?_
            obtain ⟨x9, ex9, hf⟩ := bnd_e hf
            refine w_nm ex9 ?_
            refine lv_istore_n (lv' := [(2, .int x9), (0, .ref (a 5)), (1, .int x_1), (3, .int x_3)]) hx hb dX2_takeDigits_70 rfl hl (by decide) rfl (fun ls hl => ?_)
            obtain ⟨x10, ex10, hf⟩ := bnd_e hf
            refine lv_iinc (v := x10) (lv' := [(3, .int x10), (2, .int x9), (0, .ref (a 5)), (1, .int x_1)]) hx hb dX2_takeDigits_71 hl (k := 3) rfl (by rw [ex10]; rfl) (by decide) rfl (fun ls hl => ?_)
            refine lv_goto (tgt := 22) hx hb dX2_takeDigits_74 (by decide) ?_
            exact ih22 x_1 x9 x10 st _ _ _ hP hS (lv_sub hl [2, 3, 1, 0] rfl) hf
          · replace hf := if_f hf c7
            refine lv_iconst (v := -1) hx hb dX2_takeDigits_54 (by decide) ?_
            exact W.iret (v := (-1)) hx hb hr (fun t ht _ => ⟨⟨(-1), st, rfl, so_p hf, p_at ht hP⟩, hS.F ht⟩) hS.2.2 dX2_takeDigits_55
  unfold fX2_takeDigits at hf
  refine lv_iload_n hx hb dX2_takeDigits_0 rfl (lv_at hl 1 rfl) ?_
  refine lv_aload_n hx hb dX2_takeDigits_1 rfl (lv_at hl 0 rfl) ?_
  refine va_get (D := D) (ci := 1) (v := .int (st.1 5)) (C := RX2) (T := TX2) (N := 9) hx hb hts hiX2 hown hK hP 5 rfl rfl 1 (by decide) k15 (fun _ h9 => h9) rfl dX2_takeDigits_2 ?_
  refine lv_aload_n hx hb dX2_takeDigits_5 rfl (lv_at hl 0 rfl) ?_
  refine va_get (D := D) (ci := 1) (v := .int (st.1 6)) (C := RX2) (T := TX2) (N := 9) hx hb hts hiX2 hown hK hP 5 rfl rfl 2 (by decide) k40 (fun _ h9 => h9) rfl dX2_takeDigits_6 ?_
  refine lv_isub hx hb dX2_takeDigits_9 ?_
  refine lv_icmp_le (tgt := 15) hx hb dX2_takeDigits_10 (by decide) (fun c11 => ?_) (fun c11 => ?_)
  · replace hf := if_t hf c11
    refine lv_iconst (v := 0) hx hb dX2_takeDigits_15 (by decide) ?_
    refine lv_istore_n (lv' := [(2, .int 0), (0, .ref (a 5)), (1, .int p1)]) hx hb dX2_takeDigits_16 rfl hl (by decide) rfl (fun ls hl => ?_)
    refine lv_aload_n hx hb dX2_takeDigits_17 rfl (lv_at hl 1 rfl) ?_
    refine va_get (D := D) (ci := 1) (v := .int (st.1 6)) (C := RX2) (T := TX2) (N := 9) hx hb hts hiX2 hown hK hP 5 rfl rfl 2 (by decide) k40 (fun _ h9 => h9) rfl dX2_takeDigits_18 ?_
    obtain ⟨x12, ex12, hf⟩ := bnd_e hf
    refine w_nm ex12 ?_
    refine lv_istore_n (lv' := [(3, .int x12), (2, .int 0), (0, .ref (a 5)), (1, .int p1)]) hx hb dX2_takeDigits_21 rfl hl (by decide) rfl (fun ls hl => ?_)
    exact l22 1000 p1 0 x12 st _ _ _ hP hS (lv_sub hl [2, 3, 1, 0] rfl) hf
  · replace hf := if_f hf c11
    refine lv_iconst (v := -1) hx hb dX2_takeDigits_13 (by decide) ?_
    exact W.iret (v := (-1)) hx hb hr (fun t ht _ => ⟨⟨(-1), st, rfl, so_p hf, p_at ht hP⟩, hS.F ht⟩) hS.2.2 dX2_takeDigits_14
set_option maxHeartbeats 4000000 in
set_option maxRecDepth 100000 in
theorem c_X2_takeShortYear (l : Launch) (D : va_G) (cI : ClassId) (a tb : Nat → Nat) (st : ST) (p1 : Int32) (r : Int32 × ST) (hf : fX2_takeShortYear st p1 = some r) : MetW l yX2_takeShortYear wsX2_takeShortYear ({ frames := 1, cells := 0, slots := 0, locals := 23 }) [.ref (a 5), .int p1] D [(cI, .int)] (cw cI a) (cA a) tb st r := by
  refine met_of (cc := cX2_takeShortYear) (maxL := 3) (ret := (some .int)) (by decide) rfl (Nat.le_of_ble_eq_true rfl) ?_
  intro p e s m below meth c hx hb hr hml hts hown hlk hG ls hl
  have hown : s.vm.findClass RX2 = some m.cls := hown
  obtain ⟨hP, hK, hD, hZ⟩ := hG
  have hS : va_S (cA a) s.heap s.heap [] := va_S.rf
  have hl : lv_has ls 3 [(0, .ref (a 5)), (1, .int p1)] := hl
  unfold fX2_takeShortYear at hf
  refine lv_aload_n hx hb dX2_takeShortYear_0 rfl (lv_at hl 0 rfl) ?_
  refine lv_iconst (v := 2) hx hb dX2_takeShortYear_1 (by decide) ?_
  obtain ⟨o1, ho1, hf⟩ := ob_e hf
  refine w_callW (b := a 5) (As := [.int 2]) (rest := []) ⟨hx, hb, hml, hown, hts⟩ (c_X2_takeDigits l D cI a tb st 2 o1 ho1) (cwV 1 hts gX2_takeShortYear_X2_takeDigits rfl rfl rfl (by decide +kernel) ⟨Nat.le_of_ble_eq_true rfl, Nat.le_of_ble_eq_true rfl⟩) hP hK hD hZ hS (va_recv hK hP (ci := 1) (q0 := 5) rfl rfl) rfl hl.1 rfl (Nat.le_of_ble_eq_true rfl) ⟨Nat.zero_le _, Nat.zero_le _⟩ dX2_takeShortYear_2 (fun H locs hP hS => ?_)
  refine lv_istore_n (lv' := [(2, .int o1.1), (0, .ref (a 5)), (1, .int p1)]) hx hb dX2_takeShortYear_5 rfl hl (by decide) rfl (fun ls hl => ?_)
  refine lv_iload_n hx hb dX2_takeShortYear_6 rfl (lv_at hl 0 rfl) ?_
  refine lv_iconst (v := -1) hx hb dX2_takeShortYear_7 (by decide) ?_
  refine lv_icmp_ne (tgt := 15) hx hb dX2_takeShortYear_8 (by decide) (fun c2 => ?_) (fun c2 => ?_)
  · replace hf := if_f hf c2
    refine lv_iload_n hx hb dX2_takeShortYear_15 rfl (lv_at hl 2 rfl) ?_
    refine lv_iload_n hx hb dX2_takeShortYear_16 rfl (lv_at hl 0 rfl) ?_
    refine lv_iload_n hx hb dX2_takeShortYear_17 rfl (lv_at hl 2 rfl) ?_
    refine lv_isub hx hb dX2_takeShortYear_18 ?_
    refine lv_bipush (v := 100) hx hb dX2_takeShortYear_19 (by decide) ?_
    obtain ⟨o3, ho3, hf⟩ := ob_e hf
    refine w_callT (As := [.int (o1.1 - p1), .int 100]) (rest := [.int p1]) ⟨hx, hb, hml, hown, hts⟩ (c_J9_floorMod_7cf53 l tb (o1.1 - p1) 100 o3 ho3) (va_cwS 2 hts gX2_takeShortYear_J9_floorMod_7cf53 rfl rfl rfl (by decide +kernel) ⟨Nat.le_of_ble_eq_true rfl, Nat.le_of_ble_eq_true rfl⟩) hZ hS rfl hl.1 rfl (Nat.le_of_ble_eq_true rfl) ⟨Nat.zero_le _, Nat.zero_le _⟩ dX2_takeShortYear_21 ?_
    refine lv_iadd hx hb dX2_takeShortYear_24 ?_
    exact W.iret (v := (p1 + o3)) hx hb hr (fun t ht _ => ⟨⟨(p1 + o3), o1.2, rfl, so_p hf, p_at ht hP⟩, hS.F ht⟩) hS.2.2 dX2_takeShortYear_25
  · replace hf := if_t hf c2
    refine lv_iconst (v := -1) hx hb dX2_takeShortYear_11 (by decide) ?_
    refine lv_goto (tgt := 25) hx hb dX2_takeShortYear_12 (by decide) ?_
    exact W.iret (v := (-1)) hx hb hr (fun t ht _ => ⟨⟨(-1), o1.2, rfl, so_p hf, p_at ht hP⟩, hS.F ht⟩) hS.2.2 dX2_takeShortYear_25
set_option maxHeartbeats 4000000 in
set_option maxRecDepth 100000 in
theorem c_X2_takeBlanks (l : Launch) (D : va_G) (cI : ClassId) (a tb : Nat → Nat) (st : ST) (r : Int32 × ST) (hf : fX2_takeBlanks st = some r) : MetW l yX2_takeBlanks wsX2_takeBlanks ({ frames := 0, cells := 0, slots := 0, locals := 0 }) [.ref (a 5)] D [(cI, .int)] (cw cI a) (cA a) tb st r := by
  refine met_of (cc := cX2_takeBlanks) (maxL := 2) (ret := (some .boolean)) (by decide) rfl (Nat.le_of_ble_eq_true rfl) ?_
  intro p e s m below meth c hx hb hr hml hts hown hlk hG ls hl
  have hown : s.vm.findClass RX2 = some m.cls := hown
  obtain ⟨hP, hK, hD, hZ⟩ := hG
  have hS : va_S (cA a) s.heap s.heap [] := va_S.rf
  have hl : lv_has ls 2 [(0, .ref (a 5))] := hl
  have hiX2 : ∀ w ∈ wsX20, w ∈ wsX2_takeBlanks := by decide +kernel
  have k15 := hts (.fieldLink RX2 15 "DayColumn$Reader" "length" "I") (by decide +kernel)
  have k40 := hts (.fieldLink RX2 40 "DayColumn$Reader" "at" "I") (by decide +kernel)
  have k9 := hts (.fieldLink RX2 9 "DayColumn$Reader" "cell" "[I") (by decide +kernel)
  have l5 : ∀ (n : Nat) (x_1 : Int32) (st : ST) (H : Heap) (locs : List Loc) (ls : Array Slot), va_P D vwCl (cw cI a st) H → va_S (cA a) s.heap H locs → lv_has ls 2 [(0, .ref (a 5)), (1, .int x_1)] → fX2_takeBlanks_5 n st x_1 = some r → W p l e ({ frames := 0, cells := 0, slots := 0, locals := 0 }) s m ([.ref (a 5)] : List Value).toArray below meth c H locs 0 0 (MQ below (va_Qi (fun (z : Int32) (u : ST) => z = r.1 ∧ u = r.2) (fun u t => va_P D vwCl (cw cI a u) t.heap) (cA a)) ([.ref (a 5)] : List Value).toArray s 0 0 (cA a)) (F0 m 5 ls []) := by
    intro n
    induction n with
    | zero =>
      intro x_1 st H locs ls hP hS hl hf
      cases hf
    | succ n ih5 =>
      intro x_1 st H locs ls hP hS hl hf
      unfold fX2_takeBlanks_5 at hf
      refine lv_aload_n hx hb dX2_takeBlanks_5 rfl (lv_at hl 0 rfl) ?_
      refine va_get (D := D) (ci := 1) (v := .int (st.1 6)) (C := RX2) (T := TX2) (N := 9) hx hb hts hiX2 hown hK hP 5 rfl rfl 2 (by decide) k40 (fun _ h9 => h9) rfl dX2_takeBlanks_6 ?_
      refine lv_aload_n hx hb dX2_takeBlanks_9 rfl (lv_at hl 0 rfl) ?_
      refine va_get (D := D) (ci := 1) (v := .int (st.1 5)) (C := RX2) (T := TX2) (N := 9) hx hb hts hiX2 hown hK hP 5 rfl rfl 1 (by decide) k15 (fun _ h9 => h9) rfl dX2_takeBlanks_10 ?_
      refine lv_icmp_ge (tgt := 43) hx hb dX2_takeBlanks_13 (by decide) (fun c1 => ?_) (fun c1 => ?_)
      · replace hf := if_t hf c1
        refine lv_aload_n hx hb dX2_takeBlanks_43 rfl (lv_at hl 0 rfl) ?_
        refine va_get (D := D) (ci := 1) (v := .int (st.1 6)) (C := RX2) (T := TX2) (N := 9) hx hb hts hiX2 hown hK hP 5 rfl rfl 2 (by decide) k40 (fun _ h9 => h9) rfl dX2_takeBlanks_44 ?_
        refine lv_iload_n hx hb dX2_takeBlanks_47 rfl (lv_at hl 1 rfl) ?_
        refine lv_icmp_le (tgt := 55) hx hb dX2_takeBlanks_48 (by decide) (fun c2 => ?_) (fun c2 => ?_)
        · replace hf := if_t hf c2
          refine lv_iconst (v := 0) hx hb dX2_takeBlanks_55 (by decide) ?_
          exact W.zret (v := 0) hx hb hr rfl (fun t ht _ => ⟨⟨0, st, rfl, so_p hf, p_at ht hP⟩, hS.F ht⟩) hS.2.2 dX2_takeBlanks_56
        · replace hf := if_f hf c2
          refine lv_iconst (v := 1) hx hb dX2_takeBlanks_51 (by decide) ?_
          refine lv_goto (tgt := 56) hx hb dX2_takeBlanks_52 (by decide) ?_
          exact W.zret (v := 1) hx hb hr rfl (fun t ht _ => ⟨⟨1, st, rfl, so_p hf, p_at ht hP⟩, hS.F ht⟩) hS.2.2 dX2_takeBlanks_56
      · replace hf := if_f hf c1
        refine lv_aload_n hx hb dX2_takeBlanks_16 rfl (lv_at hl 0 rfl) ?_
        refine va_get (D := D) (ci := 1) (v := .ref (a 13)) (C := RX2) (T := TX2) (N := 9) hx hb hts hiX2 hown hK hP 5 rfl rfl 0 (by decide) k9 (fun _ h9 => h9) rfl dX2_takeBlanks_17 ?_
        refine lv_aload_n hx hb dX2_takeBlanks_20 rfl (lv_at hl 0 rfl) ?_
        refine va_get (D := D) (ci := 1) (v := .int (st.1 6)) (C := RX2) (T := TX2) (N := 9) hx hb hts hiX2 hown hK hP 5 rfl rfl 2 (by decide) k40 (fun _ h9 => h9) rfl dX2_takeBlanks_21 ?_
        obtain ⟨x3, ex3, hf⟩ := bnd_e hf
        refine w_nm ex3 ?_
        obtain ⟨hi4, hf⟩ := ix_e hf
        refine va_iald hx hb hK hP 13 0 rfl rfl hi4 dX2_takeBlanks_24 ?_
        refine lv_bipush (v := 32) hx hb dX2_takeBlanks_25 (by decide) ?_
        refine lv_icmp_ne (tgt := 43) hx hb dX2_takeBlanks_27 (by decide) (fun c5 => ?_) (fun c5 => ?_)
        · replace hf := if_f hf c5
          refine lv_aload_n hx hb dX2_takeBlanks_43 rfl (lv_at hl 0 rfl) ?_
          refine va_get (D := D) (ci := 1) (v := .int (st.1 6)) (C := RX2) (T := TX2) (N := 9) hx hb hts hiX2 hown hK hP 5 rfl rfl 2 (by decide) k40 (fun _ h9 => h9) rfl dX2_takeBlanks_44 ?_
          refine lv_iload_n hx hb dX2_takeBlanks_47 rfl (lv_at hl 1 rfl) ?_
          refine lv_icmp_le (tgt := 55) hx hb dX2_takeBlanks_48 (by decide) (fun c6 => ?_) (fun c6 => ?_)
          · replace hf := if_t hf c6
            refine lv_iconst (v := 0) hx hb dX2_takeBlanks_55 (by decide) ?_
            exact W.zret (v := 0) hx hb hr rfl (fun t ht _ => ⟨⟨0, st, rfl, so_p hf, p_at ht hP⟩, hS.F ht⟩) hS.2.2 dX2_takeBlanks_56
          · replace hf := if_f hf c6
            refine lv_iconst (v := 1) hx hb dX2_takeBlanks_51 (by decide) ?_
            refine lv_goto (tgt := 56) hx hb dX2_takeBlanks_52 (by decide) ?_
            exact W.zret (v := 1) hx hb hr rfl (fun t ht _ => ⟨⟨1, st, rfl, so_p hf, p_at ht hP⟩, hS.F ht⟩) hS.2.2 dX2_takeBlanks_56
        · replace hf := if_t hf c5
          refine lv_aload_n hx hb dX2_takeBlanks_30 rfl (lv_at hl 0 rfl) ?_
          refine lv_dup hx hb dX2_takeBlanks_31 rfl ?_
          refine va_get (D := D) (ci := 1) (v := .int (st.1 6)) (C := RX2) (T := TX2) (N := 9) hx hb hts hiX2 hown hK hP 5 rfl rfl 2 (by decide) k40 (fun _ h9 => h9) rfl dX2_takeBlanks_32 ?_
          refine lv_iconst (v := 1) hx hb dX2_takeBlanks_35 (by decide) ?_
          refine lv_iadd hx hb dX2_takeBlanks_36 ?_
          obtain ⟨x7, ex7, hf⟩ := bnd_e hf
          refine w_nm ex7 ?_
          obtain ⟨s8, es8, hf⟩ := bnd_e hf
          refine va_put (D := D) (ci := 1) (v := .int x7) (ty := .int) (C := RX2) (T := TX2) (N := 9) hx hb hts hiX2 tyX2 tyX2_ok nmX2 hown hK hP (hD st) hS 5 rfl rfl 2 (by decide) k40 (fun _ h9 => h9) rfl (by decide +kernel) rfl rfl (Nat.le_of_ble_eq_true rfl) dX2_takeBlanks_37 (fun H locs hP _ hS => ?_)
          have hP : va_P D vwCl (cw cI a s8) H := by rw [es8]; exact hP
          refine lv_goto (tgt := 5) hx hb dX2_takeBlanks_40 (by decide) ?_
          exact ih5 x_1 s8 _ _ _ hP hS (lv_sub hl [0, 1] rfl) hf
  unfold fX2_takeBlanks at hf
  refine lv_aload_n hx hb dX2_takeBlanks_0 rfl (lv_at hl 0 rfl) ?_
  refine va_get (D := D) (ci := 1) (v := .int (st.1 6)) (C := RX2) (T := TX2) (N := 9) hx hb hts hiX2 hown hK hP 5 rfl rfl 2 (by decide) k40 (fun _ h9 => h9) rfl dX2_takeBlanks_1 ?_
  obtain ⟨x9, ex9, hf⟩ := bnd_e hf
  refine w_nm ex9 ?_
  refine lv_istore_n (lv' := [(1, .int x9), (0, .ref (a 5))]) hx hb dX2_takeBlanks_4 rfl hl (by decide) rfl (fun ls hl => ?_)
  exact l5 1000 x9 st _ _ _ hP hS (lv_sub hl [1, 0] rfl) hf
set_option maxHeartbeats 4000000 in
set_option maxRecDepth 100000 in
theorem c_X2_takeByte (l : Launch) (D : va_G) (cI : ClassId) (a tb : Nat → Nat) (st : ST) (p1 : Int32) (r : Int32 × ST) (hf : fX2_takeByte st p1 = some r) : MetW l yX2_takeByte wsX2_takeByte ({ frames := 0, cells := 0, slots := 0, locals := 0 }) [.ref (a 5), .int p1] D [(cI, .int)] (cw cI a) (cA a) tb st r := by
  refine met_of (cc := cX2_takeByte) (maxL := 2) (ret := (some .boolean)) (by decide) rfl (Nat.le_of_ble_eq_true rfl) ?_
  intro p e s m below meth c hx hb hr hml hts hown hlk hG ls hl
  have hown : s.vm.findClass RX2 = some m.cls := hown
  obtain ⟨hP, hK, hD, hZ⟩ := hG
  have hS : va_S (cA a) s.heap s.heap [] := va_S.rf
  have hl : lv_has ls 2 [(0, .ref (a 5)), (1, .int p1)] := hl
  have hiX2 : ∀ w ∈ wsX20, w ∈ wsX2_takeByte := by decide +kernel
  have k15 := hts (.fieldLink RX2 15 "DayColumn$Reader" "length" "I") (by decide +kernel)
  have k40 := hts (.fieldLink RX2 40 "DayColumn$Reader" "at" "I") (by decide +kernel)
  have k9 := hts (.fieldLink RX2 9 "DayColumn$Reader" "cell" "[I") (by decide +kernel)
  unfold fX2_takeByte at hf
  refine lv_aload_n hx hb dX2_takeByte_0 rfl (lv_at hl 0 rfl) ?_
  refine va_get (D := D) (ci := 1) (v := .int (st.1 6)) (C := RX2) (T := TX2) (N := 9) hx hb hts hiX2 hown hK hP 5 rfl rfl 2 (by decide) k40 (fun _ h9 => h9) rfl dX2_takeByte_1 ?_
  refine lv_aload_n hx hb dX2_takeByte_4 rfl (lv_at hl 0 rfl) ?_
  refine va_get (D := D) (ci := 1) (v := .int (st.1 5)) (C := RX2) (T := TX2) (N := 9) hx hb hts hiX2 hown hK hP 5 rfl rfl 1 (by decide) k15 (fun _ h9 => h9) rfl dX2_takeByte_5 ?_
  refine lv_icmp_ge (tgt := 24) hx hb dX2_takeByte_8 (by decide) (fun c1 => ?_) (fun c1 => ?_)
  · replace hf := if_t hf c1
    refine lv_iconst (v := 0) hx hb dX2_takeByte_24 (by decide) ?_
    exact W.zret (v := 0) hx hb hr rfl (fun t ht _ => ⟨⟨0, st, rfl, so_p hf, p_at ht hP⟩, hS.F ht⟩) hS.2.2 dX2_takeByte_25
  · replace hf := if_f hf c1
    refine lv_aload_n hx hb dX2_takeByte_11 rfl (lv_at hl 0 rfl) ?_
    refine va_get (D := D) (ci := 1) (v := .ref (a 13)) (C := RX2) (T := TX2) (N := 9) hx hb hts hiX2 hown hK hP 5 rfl rfl 0 (by decide) k9 (fun _ h9 => h9) rfl dX2_takeByte_12 ?_
    refine lv_aload_n hx hb dX2_takeByte_15 rfl (lv_at hl 0 rfl) ?_
    refine va_get (D := D) (ci := 1) (v := .int (st.1 6)) (C := RX2) (T := TX2) (N := 9) hx hb hts hiX2 hown hK hP 5 rfl rfl 2 (by decide) k40 (fun _ h9 => h9) rfl dX2_takeByte_16 ?_
    obtain ⟨x2, ex2, hf⟩ := bnd_e hf
    refine w_nm ex2 ?_
    obtain ⟨hi3, hf⟩ := ix_e hf
    refine va_iald hx hb hK hP 13 0 rfl rfl hi3 dX2_takeByte_19 ?_
    refine lv_iload_n hx hb dX2_takeByte_20 rfl (lv_at hl 1 rfl) ?_
    refine lv_icmp_eq (tgt := 26) hx hb dX2_takeByte_21 (by decide) (fun c4 => ?_) (fun c4 => ?_)
    · replace hf := if_t hf c4
      refine lv_aload_n hx hb dX2_takeByte_26 rfl (lv_at hl 0 rfl) ?_
      refine lv_dup hx hb dX2_takeByte_27 rfl ?_
      refine va_get (D := D) (ci := 1) (v := .int (st.1 6)) (C := RX2) (T := TX2) (N := 9) hx hb hts hiX2 hown hK hP 5 rfl rfl 2 (by decide) k40 (fun _ h9 => h9) rfl dX2_takeByte_28 ?_
      refine lv_iconst (v := 1) hx hb dX2_takeByte_31 (by decide) ?_
      refine lv_iadd hx hb dX2_takeByte_32 ?_
      obtain ⟨x5, ex5, hf⟩ := bnd_e hf
      refine w_nm ex5 ?_
      obtain ⟨s6, es6, hf⟩ := bnd_e hf
      refine va_put (D := D) (ci := 1) (v := .int x5) (ty := .int) (C := RX2) (T := TX2) (N := 9) hx hb hts hiX2 tyX2 tyX2_ok nmX2 hown hK hP (hD st) hS 5 rfl rfl 2 (by decide) k40 (fun _ h9 => h9) rfl (by decide +kernel) rfl rfl (Nat.le_of_ble_eq_true rfl) dX2_takeByte_33 (fun H locs hP _ hS => ?_)
      have hP : va_P D vwCl (cw cI a s6) H := by rw [es6]; exact hP
      refine lv_iconst (v := 1) hx hb dX2_takeByte_36 (by decide) ?_
      exact W.zret (v := 1) hx hb hr rfl (fun t ht _ => ⟨⟨1, s6, rfl, so_p hf, p_at ht hP⟩, hS.F ht⟩) hS.2.2 dX2_takeByte_37
    · replace hf := if_f hf c4
      refine lv_iconst (v := 0) hx hb dX2_takeByte_24 (by decide) ?_
      exact W.zret (v := 0) hx hb hr rfl (fun t ht _ => ⟨⟨0, st, rfl, so_p hf, p_at ht hP⟩, hS.F ht⟩) hS.2.2 dX2_takeByte_25
set_option maxHeartbeats 4000000 in
set_option maxRecDepth 100000 in
theorem c_X2_standsHere_M (l : Launch) (D : va_G) (cI : ClassId) (a tb : Nat → Nat) (st : ST) (p2 : Int32) (r : Int32) (hf : fX2_standsHere_M st p2 = some r) : MetR l yX2_standsHere wsX2_standsHere ({ frames := 0, cells := 0, slots := 0, locals := 0 }) [.ref (a 5), .ref (tb 1), .int p2] D [(cI, .int)] (cw cI a) (cA a) tb st r := by
  refine met_of (cc := cX2_standsHere) (maxL := 6) (ret := (some .boolean)) (by decide) rfl (Nat.le_of_ble_eq_true rfl) ?_
  intro p e s m below meth c hx hb hr hml hts hown hlk hG ls hl
  have hown : s.vm.findClass RX2 = some m.cls := hown
  obtain ⟨hP, hK, hD, hZ⟩ := hG
  have hS : va_S (cA a) s.heap s.heap [] := va_S.rf
  have hl : lv_has ls 6 [(0, .ref (a 5)), (1, .ref (tb 1)), (2, .int p2)] := hl
  have hiX2 : ∀ w ∈ wsX20, w ∈ wsX2_standsHere := by decide +kernel
  have k15 := hts (.fieldLink RX2 15 "DayColumn$Reader" "length" "I") (by decide +kernel)
  have k40 := hts (.fieldLink RX2 40 "DayColumn$Reader" "at" "I") (by decide +kernel)
  have k9 := hts (.fieldLink RX2 9 "DayColumn$Reader" "cell" "[I") (by decide +kernel)
  have l29 : ∀ (n : Nat) (x_2 x_3 : Int32) (ls : Array Slot), lv_has ls 6 [(0, .ref (a 5)), (1, .ref (tb 1)), (2, .int x_2), (3, .int x_3)] → fX2_standsHere_M_29 n st x_2 x_3 = some r → W p l e ({ frames := 0, cells := 0, slots := 0, locals := 0 }) s m ([.ref (a 5), .ref (tb 1), .int p2] : List Value).toArray below meth c s.heap [] 0 0 (MQ below (vp_Si (fun z => z = r)) ([.ref (a 5), .ref (tb 1), .int p2] : List Value).toArray s 0 0 (fun _ => False)) (F0 m 29 ls []) := by
    intro n
    induction n with
    | zero =>
      intro x_2 x_3 ls hl hf
      cases hf
    | succ n ih29 =>
      intro x_2 x_3 ls hl hf
      unfold fX2_standsHere_M_29 at hf
      refine lv_iload_n hx hb dX2_standsHere_29 rfl (lv_at hl 3 rfl) ?_
      refine lv_iconst (v := 3) hx hb dX2_standsHere_30 (by decide) ?_
      refine lv_icmp_ge (tgt := 94) hx hb dX2_standsHere_31 (by decide) (fun c1 => ?_) (fun c1 => ?_)
      · replace hf := if_t hf c1
        refine lv_iconst (v := 1) hx hb dX2_standsHere_94 (by decide) ?_
        exact W.zret (v := 1) hx hb hr rfl (fun t ht _ => ⟨1, rfl, so_i hf, ht⟩) (fun _ h => by cases h) dX2_standsHere_95
      · replace hf := if_f hf c1
        refine lv_aload_n hx hb dX2_standsHere_34 rfl (lv_at hl 0 rfl) ?_
        refine va_get (D := D) (ci := 1) (v := .ref (a 13)) (C := RX2) (T := TX2) (N := 9) hx hb hts hiX2 hown hK hP 5 rfl rfl 0 (by decide) k9 (fun _ h9 => h9) rfl dX2_standsHere_35 ?_
        refine lv_aload_n hx hb dX2_standsHere_38 rfl (lv_at hl 0 rfl) ?_
        refine va_get (D := D) (ci := 1) (v := .int (st.1 6)) (C := RX2) (T := TX2) (N := 9) hx hb hts hiX2 hown hK hP 5 rfl rfl 2 (by decide) k40 (fun _ h9 => h9) rfl dX2_standsHere_39 ?_
        refine lv_iload_n hx hb dX2_standsHere_42 rfl (lv_at hl 3 rfl) ?_
        refine lv_iadd hx hb dX2_standsHere_43 ?_
        obtain ⟨x2, ex2, hf⟩ := bnd_e hf
        refine w_nm ex2 ?_
        obtain ⟨hi3, hf⟩ := ix_e hf
        refine va_iald hx hb hK hP 13 0 rfl rfl hi3 dX2_standsHere_44 ?_
        obtain ⟨x4, ex4, hf⟩ := bnd_e hf
        refine w_nm ex4 ?_
        refine lv_istore (lv' := [(4, .int x4), (0, .ref (a 5)), (1, .ref (tb 1)), (2, .int x_2), (3, .int x_3)]) hx hb dX2_standsHere_45 hl (by decide) rfl (fun ls hl => ?_)
        refine lv_iload hx hb dX2_standsHere_47 (lv_at hl 0 rfl) ?_
        refine lv_bipush (v := 65) hx hb dX2_standsHere_49 (by decide) ?_
        refine lv_icmp_lt (tgt := 72) hx hb dX2_standsHere_51 (by decide) (fun c5 => ?_) (fun c5 => ?_)
        · replace hf := if_t hf c5
          refine lv_iload hx hb dX2_standsHere_72 (lv_at hl 0 rfl) ?_
          refine lv_istore (lv' := [(5, .int x4), (4, .int x4), (0, .ref (a 5)), (1, .ref (tb 1)), (2, .int x_2), (3, .int x_3)]) hx hb dX2_standsHere_74 hl (by decide) rfl (fun ls hl => ?_)
          refine lv_iload hx hb dX2_standsHere_76 (lv_at hl 0 rfl) ?_
          refine lv_aload_n hx hb dX2_standsHere_78 rfl (lv_at hl 3 rfl) ?_
          refine lv_iload_n hx hb dX2_standsHere_79 rfl (lv_at hl 4 rfl) ?_
          refine lv_iload_n hx hb dX2_standsHere_80 rfl (lv_at hl 5 rfl) ?_
          refine lv_iadd hx hb dX2_standsHere_81 ?_
          obtain ⟨x6, ex6, hf⟩ := bnd_e hf
          refine w_nm ex6 ?_
          obtain ⟨hi7, hf⟩ := ix_e hf
          refine va_tc hx hb hZ.2.1.2 hS hi7 (v := .int (tMO (Int32.toNatClampNeg x6))) rfl dX2_standsHere_82 ?_
          refine lv_icmp_eq (tgt := 88) hx hb dX2_standsHere_83 (by decide) (fun c8 => ?_) (fun c8 => ?_)
          · replace hf := if_t hf c8
            obtain ⟨x9, ex9, hf⟩ := bnd_e hf
            refine lv_iinc (v := x9) (lv' := [(3, .int x9), (5, .int x4), (4, .int x4), (0, .ref (a 5)), (1, .ref (tb 1)), (2, .int x_2)]) hx hb dX2_standsHere_88 hl (k := 5) rfl (by rw [ex9]; rfl) (by decide) rfl (fun ls hl => ?_)
            refine lv_goto (tgt := 29) hx hb dX2_standsHere_91 (by decide) ?_
            exact ih29 x_2 x9 _ (lv_sub hl [3, 4, 5, 0] rfl) hf
          · replace hf := if_f hf c8
            refine lv_iconst (v := 0) hx hb dX2_standsHere_86 (by decide) ?_
            exact W.zret (v := 0) hx hb hr rfl (fun t ht _ => ⟨0, rfl, so_i hf, ht⟩) (fun _ h => by cases h) dX2_standsHere_87
        · replace hf := if_f hf c5
          refine lv_iload hx hb dX2_standsHere_54 (lv_at hl 0 rfl) ?_
          refine lv_bipush (v := 90) hx hb dX2_standsHere_56 (by decide) ?_
          refine lv_icmp_gt (tgt := 72) hx hb dX2_standsHere_58 (by decide) (fun c10 => ?_) (fun c10 => ?_)
          · replace hf := if_t hf c10
            refine lv_iload hx hb dX2_standsHere_72 (lv_at hl 0 rfl) ?_
            refine lv_istore (lv' := [(5, .int x4), (4, .int x4), (0, .ref (a 5)), (1, .ref (tb 1)), (2, .int x_2), (3, .int x_3)]) hx hb dX2_standsHere_74 hl (by decide) rfl (fun ls hl => ?_)
            refine lv_iload hx hb dX2_standsHere_76 (lv_at hl 0 rfl) ?_
            refine lv_aload_n hx hb dX2_standsHere_78 rfl (lv_at hl 3 rfl) ?_
            refine lv_iload_n hx hb dX2_standsHere_79 rfl (lv_at hl 4 rfl) ?_
            refine lv_iload_n hx hb dX2_standsHere_80 rfl (lv_at hl 5 rfl) ?_
            refine lv_iadd hx hb dX2_standsHere_81 ?_
            obtain ⟨x11, ex11, hf⟩ := bnd_e hf
            refine w_nm ex11 ?_
            obtain ⟨hi12, hf⟩ := ix_e hf
            refine va_tc hx hb hZ.2.1.2 hS hi12 (v := .int (tMO (Int32.toNatClampNeg x11))) rfl dX2_standsHere_82 ?_
            refine lv_icmp_eq (tgt := 88) hx hb dX2_standsHere_83 (by decide) (fun c13 => ?_) (fun c13 => ?_)
            · replace hf := if_t hf c13
              obtain ⟨x14, ex14, hf⟩ := bnd_e hf
              refine lv_iinc (v := x14) (lv' := [(3, .int x14), (5, .int x4), (4, .int x4), (0, .ref (a 5)), (1, .ref (tb 1)), (2, .int x_2)]) hx hb dX2_standsHere_88 hl (k := 5) rfl (by rw [ex14]; rfl) (by decide) rfl (fun ls hl => ?_)
              refine lv_goto (tgt := 29) hx hb dX2_standsHere_91 (by decide) ?_
              exact ih29 x_2 x14 _ (lv_sub hl [3, 4, 5, 0] rfl) hf
            · replace hf := if_f hf c13
              refine lv_iconst (v := 0) hx hb dX2_standsHere_86 (by decide) ?_
              exact W.zret (v := 0) hx hb hr rfl (fun t ht _ => ⟨0, rfl, so_i hf, ht⟩) (fun _ h => by cases h) dX2_standsHere_87
          · replace hf := if_f hf c10
            refine lv_iload hx hb dX2_standsHere_61 (lv_at hl 0 rfl) ?_
            refine lv_bipush (v := 65) hx hb dX2_standsHere_63 (by decide) ?_
            refine lv_isub hx hb dX2_standsHere_65 ?_
            refine lv_bipush (v := 97) hx hb dX2_standsHere_66 (by decide) ?_
            refine lv_iadd hx hb dX2_standsHere_68 ?_
            refine lv_goto (tgt := 74) hx hb dX2_standsHere_69 (by decide) ?_
            obtain ⟨x15, ex15, hf⟩ := bnd_e hf
            refine w_nm ex15 ?_
            refine lv_istore (lv' := [(5, .int x15), (4, .int x4), (0, .ref (a 5)), (1, .ref (tb 1)), (2, .int x_2), (3, .int x_3)]) hx hb dX2_standsHere_74 hl (by decide) rfl (fun ls hl => ?_)
            refine lv_iload hx hb dX2_standsHere_76 (lv_at hl 0 rfl) ?_
            refine lv_aload_n hx hb dX2_standsHere_78 rfl (lv_at hl 3 rfl) ?_
            refine lv_iload_n hx hb dX2_standsHere_79 rfl (lv_at hl 4 rfl) ?_
            refine lv_iload_n hx hb dX2_standsHere_80 rfl (lv_at hl 5 rfl) ?_
            refine lv_iadd hx hb dX2_standsHere_81 ?_
            obtain ⟨x16, ex16, hf⟩ := bnd_e hf
            refine w_nm ex16 ?_
            obtain ⟨hi17, hf⟩ := ix_e hf
            refine va_tc hx hb hZ.2.1.2 hS hi17 (v := .int (tMO (Int32.toNatClampNeg x16))) rfl dX2_standsHere_82 ?_
            refine lv_icmp_eq (tgt := 88) hx hb dX2_standsHere_83 (by decide) (fun c18 => ?_) (fun c18 => ?_)
            · replace hf := if_t hf c18
              obtain ⟨x19, ex19, hf⟩ := bnd_e hf
              refine lv_iinc (v := x19) (lv' := [(3, .int x19), (5, .int x15), (4, .int x4), (0, .ref (a 5)), (1, .ref (tb 1)), (2, .int x_2)]) hx hb dX2_standsHere_88 hl (k := 5) rfl (by rw [ex19]; rfl) (by decide) rfl (fun ls hl => ?_)
              refine lv_goto (tgt := 29) hx hb dX2_standsHere_91 (by decide) ?_
              exact ih29 x_2 x19 _ (lv_sub hl [3, 4, 5, 0] rfl) hf
            · replace hf := if_f hf c18
              refine lv_iconst (v := 0) hx hb dX2_standsHere_86 (by decide) ?_
              exact W.zret (v := 0) hx hb hr rfl (fun t ht _ => ⟨0, rfl, so_i hf, ht⟩) (fun _ h => by cases h) dX2_standsHere_87
  unfold fX2_standsHere_M at hf
  refine lv_aload_n hx hb dX2_standsHere_0 rfl (lv_at hl 0 rfl) ?_
  refine va_get (D := D) (ci := 1) (v := .int (st.1 5)) (C := RX2) (T := TX2) (N := 9) hx hb hts hiX2 hown hK hP 5 rfl rfl 1 (by decide) k15 (fun _ h9 => h9) rfl dX2_standsHere_1 ?_
  refine lv_aload_n hx hb dX2_standsHere_4 rfl (lv_at hl 0 rfl) ?_
  refine va_get (D := D) (ci := 1) (v := .int (st.1 6)) (C := RX2) (T := TX2) (N := 9) hx hb hts hiX2 hown hK hP 5 rfl rfl 2 (by decide) k40 (fun _ h9 => h9) rfl dX2_standsHere_5 ?_
  refine lv_isub hx hb dX2_standsHere_8 ?_
  refine lv_iconst (v := 3) hx hb dX2_standsHere_9 (by decide) ?_
  refine lv_icmp_lt (tgt := 25) hx hb dX2_standsHere_10 (by decide) (fun c20 => ?_) (fun c20 => ?_)
  · replace hf := if_t hf c20
    refine lv_iconst (v := 0) hx hb dX2_standsHere_25 (by decide) ?_
    exact W.zret (v := 0) hx hb hr rfl (fun t ht _ => ⟨0, rfl, so_i hf, ht⟩) (fun _ h => by cases h) dX2_standsHere_26
  · replace hf := if_f hf c20
    refine lv_iload_n hx hb dX2_standsHere_13 rfl (lv_at hl 2 rfl) ?_
    refine lv_if_lt (tgt := 25) hx hb dX2_standsHere_14 (by decide) (fun c21 => ?_) (fun c21 => ?_)
    · replace hf := if_t hf c21
      refine lv_iconst (v := 0) hx hb dX2_standsHere_25 (by decide) ?_
      exact W.zret (v := 0) hx hb hr rfl (fun t ht _ => ⟨0, rfl, so_i hf, ht⟩) (fun _ h => by cases h) dX2_standsHere_26
    · replace hf := if_f hf c21
      refine lv_aload_n hx hb dX2_standsHere_17 rfl (lv_at hl 1 rfl) ?_
      refine va_tlen hx hb hZ.2.1.2 hS (v := 36) (by decide) dX2_standsHere_18 ?_
      refine lv_iload_n hx hb dX2_standsHere_19 rfl (lv_at hl 2 rfl) ?_
      refine lv_isub hx hb dX2_standsHere_20 ?_
      refine lv_iconst (v := 3) hx hb dX2_standsHere_21 (by decide) ?_
      refine lv_icmp_ge (tgt := 27) hx hb dX2_standsHere_22 (by decide) (fun c22 => ?_) (fun c22 => ?_)
      · replace hf := if_t hf c22
        refine lv_iconst (v := 0) hx hb dX2_standsHere_27 (by decide) ?_
        refine lv_istore_n (lv' := [(3, .int 0), (0, .ref (a 5)), (1, .ref (tb 1)), (2, .int p2)]) hx hb dX2_standsHere_28 rfl hl (by decide) rfl (fun ls hl => ?_)
        exact l29 1000 p2 0 _ (lv_sub hl [1, 2, 3, 0] rfl) hf
      · replace hf := if_f hf c22
        refine lv_iconst (v := 0) hx hb dX2_standsHere_25 (by decide) ?_
        exact W.zret (v := 0) hx hb hr rfl (fun t ht _ => ⟨0, rfl, so_i hf, ht⟩) (fun _ h => by cases h) dX2_standsHere_26
set_option maxHeartbeats 4000000 in
set_option maxRecDepth 100000 in
theorem c_X2_takeWord_M (l : Launch) (D : va_G) (cI : ClassId) (a tb : Nat → Nat) (st : ST) (r : Int32 × ST) (hf : fX2_takeWord_M st = some r) : MetW l yX2_takeWord wsX2_takeWord ({ frames := 1, cells := 0, slots := 0, locals := 25 }) [.ref (a 5), .ref (tb 1)] D [(cI, .int)] (cw cI a) (cA a) tb st r := by
  refine met_of (cc := cX2_takeWord) (maxL := 4) (ret := (some .int)) (by decide) rfl (Nat.le_of_ble_eq_true rfl) ?_
  intro p e s m below meth c hx hb hr hml hts hown hlk hG ls hl
  have hown : s.vm.findClass RX2 = some m.cls := hown
  obtain ⟨hP, hK, hD, hZ⟩ := hG
  have hS : va_S (cA a) s.heap s.heap [] := va_S.rf
  have hl : lv_has ls 4 [(0, .ref (a 5)), (1, .ref (tb 1))] := hl
  have hiX2 : ∀ w ∈ wsX20, w ∈ wsX2_takeWord := by decide +kernel
  have k40 := hts (.fieldLink RX2 40 "DayColumn$Reader" "at" "I") (by decide +kernel)
  have l7 : ∀ (n : Nat) (x_2 x_3 : Int32) (st : ST) (H : Heap) (locs : List Loc) (ls : Array Slot), va_P D vwCl (cw cI a st) H → va_S (cA a) s.heap H locs → lv_has ls 4 [(0, .ref (a 5)), (1, .ref (tb 1)), (2, .int x_2), (3, .int x_3)] → fX2_takeWord_M_7 n st x_2 x_3 = some r → W p l e ({ frames := 1, cells := 0, slots := 0, locals := 25 }) s m ([.ref (a 5), .ref (tb 1)] : List Value).toArray below meth c H locs 0 0 (MQ below (va_Qi (fun (z : Int32) (u : ST) => z = r.1 ∧ u = r.2) (fun u t => va_P D vwCl (cw cI a u) t.heap) (cA a)) ([.ref (a 5), .ref (tb 1)] : List Value).toArray s 0 0 (cA a)) (F0 m 7 ls []) := by
    intro n
    induction n with
    | zero =>
      intro x_2 x_3 st H locs ls hP hS hl hf
      cases hf
    | succ n ih7 =>
      intro x_2 x_3 st H locs ls hP hS hl hf
      unfold fX2_takeWord_M_7 at hf
      refine lv_iload_n hx hb dX2_takeWord_7 rfl (lv_at hl 3 rfl) ?_
      refine lv_iload_n hx hb dX2_takeWord_8 rfl (lv_at hl 2 rfl) ?_
      refine lv_icmp_ge (tgt := 41) hx hb dX2_takeWord_9 (by decide) (fun c1 => ?_) (fun c1 => ?_)
      · replace hf := if_t hf c1
        refine lv_iconst (v := -1) hx hb dX2_takeWord_41 (by decide) ?_
        exact W.iret (v := (-1)) hx hb hr (fun t ht _ => ⟨⟨(-1), st, rfl, so_p hf, p_at ht hP⟩, hS.F ht⟩) hS.2.2 dX2_takeWord_42
      · replace hf := if_f hf c1
        refine lv_aload_n hx hb dX2_takeWord_12 rfl (lv_at hl 0 rfl) ?_
        refine lv_aload_n hx hb dX2_takeWord_13 rfl (lv_at hl 1 rfl) ?_
        refine lv_iload_n hx hb dX2_takeWord_14 rfl (lv_at hl 3 rfl) ?_
        refine lv_iconst (v := 3) hx hb dX2_takeWord_15 (by decide) ?_
        refine lv_imul hx hb dX2_takeWord_16 ?_
        obtain ⟨o2, ho2, hf⟩ := ob_e hf
        refine w_callR (b := a 5) (As := [.ref (tb 1), .int (x_3 * 3)]) (rest := []) ⟨hx, hb, hml, hown, hts⟩ (c_X2_standsHere_M l D cI a tb st (x_3 * 3) o2 ho2) (cwV 2 hts gX2_takeWord_X2_standsHere rfl rfl rfl (by decide +kernel) ⟨Nat.le_of_ble_eq_true rfl, Nat.le_of_ble_eq_true rfl⟩) hP hK hD hZ hS (va_recv hK hP (ci := 1) (q0 := 5) rfl rfl) rfl hl.1 rfl (Nat.le_of_ble_eq_true rfl) ⟨Nat.zero_le _, Nat.zero_le _⟩ dX2_takeWord_17 ?_
        refine lv_if_eq (tgt := 35) hx hb dX2_takeWord_20 (by decide) (fun c3 => ?_) (fun c3 => ?_)
        · replace hf := if_t hf c3
          obtain ⟨x4, ex4, hf⟩ := bnd_e hf
          refine lv_iinc (v := x4) (lv' := [(3, .int x4), (0, .ref (a 5)), (1, .ref (tb 1)), (2, .int x_2)]) hx hb dX2_takeWord_35 hl (k := 3) rfl (by rw [ex4]; rfl) (by decide) rfl (fun ls hl => ?_)
          refine lv_goto (tgt := 7) hx hb dX2_takeWord_38 (by decide) ?_
          exact ih7 x_2 x4 st _ _ _ hP hS (lv_sub hl [1, 2, 3, 0] rfl) hf
        · replace hf := if_f hf c3
          refine lv_aload_n hx hb dX2_takeWord_23 rfl (lv_at hl 0 rfl) ?_
          refine lv_dup hx hb dX2_takeWord_24 rfl ?_
          refine va_get (D := D) (ci := 1) (v := .int (st.1 6)) (C := RX2) (T := TX2) (N := 9) hx hb hts hiX2 hown hK hP 5 rfl rfl 2 (by decide) k40 (fun _ h9 => h9) rfl dX2_takeWord_25 ?_
          refine lv_iconst (v := 3) hx hb dX2_takeWord_28 (by decide) ?_
          refine lv_iadd hx hb dX2_takeWord_29 ?_
          obtain ⟨x5, ex5, hf⟩ := bnd_e hf
          refine w_nm ex5 ?_
          obtain ⟨s6, es6, hf⟩ := bnd_e hf
          refine va_put (D := D) (ci := 1) (v := .int x5) (ty := .int) (C := RX2) (T := TX2) (N := 9) hx hb hts hiX2 tyX2 tyX2_ok nmX2 hown hK hP (hD st) hS 5 rfl rfl 2 (by decide) k40 (fun _ h9 => h9) rfl (by decide +kernel) rfl rfl (Nat.le_of_ble_eq_true rfl) dX2_takeWord_30 (fun H locs hP _ hS => ?_)
          have hP : va_P D vwCl (cw cI a s6) H := by rw [es6]; exact hP
          refine lv_iload_n hx hb dX2_takeWord_33 rfl (lv_at hl 3 rfl) ?_
          exact W.iret (v := x_3) hx hb hr (fun t ht _ => ⟨⟨x_3, s6, rfl, so_p hf, p_at ht hP⟩, hS.F ht⟩) hS.2.2 dX2_takeWord_34
  unfold fX2_takeWord_M at hf
  refine lv_aload_n hx hb dX2_takeWord_0 rfl (lv_at hl 1 rfl) ?_
  refine va_tlen hx hb hZ.2.1.2 hS (v := 36) (by decide) dX2_takeWord_1 ?_
  refine lv_iconst (v := 3) hx hb dX2_takeWord_2 (by decide) ?_
  refine lv_idiv hx hb dX2_takeWord_3 (by decide) ?_
  obtain ⟨x7, ex7, hf⟩ := bnd_e hf
  refine w_nm ex7 ?_
  refine lv_istore_n (lv' := [(2, .int x7), (0, .ref (a 5)), (1, .ref (tb 1))]) hx hb dX2_takeWord_4 rfl hl (by decide) rfl (fun ls hl => ?_)
  refine lv_iconst (v := 0) hx hb dX2_takeWord_5 (by decide) ?_
  refine lv_istore_n (lv' := [(3, .int 0), (2, .int x7), (0, .ref (a 5)), (1, .ref (tb 1))]) hx hb dX2_takeWord_6 rfl hl (by decide) rfl (fun ls hl => ?_)
  exact l7 1000 x7 0 st _ _ _ hP hS (lv_sub hl [2, 3, 1, 0] rfl) hf
set_option maxHeartbeats 4000000 in
set_option maxRecDepth 100000 in
theorem c_X2_standsHere_W (l : Launch) (D : va_G) (cI : ClassId) (a tb : Nat → Nat) (st : ST) (p2 : Int32) (r : Int32) (hf : fX2_standsHere_W st p2 = some r) : MetR l yX2_standsHere wsX2_standsHere ({ frames := 0, cells := 0, slots := 0, locals := 0 }) [.ref (a 5), .ref (tb 2), .int p2] D [(cI, .int)] (cw cI a) (cA a) tb st r := by
  refine met_of (cc := cX2_standsHere) (maxL := 6) (ret := (some .boolean)) (by decide) rfl (Nat.le_of_ble_eq_true rfl) ?_
  intro p e s m below meth c hx hb hr hml hts hown hlk hG ls hl
  have hown : s.vm.findClass RX2 = some m.cls := hown
  obtain ⟨hP, hK, hD, hZ⟩ := hG
  have hS : va_S (cA a) s.heap s.heap [] := va_S.rf
  have hl : lv_has ls 6 [(0, .ref (a 5)), (1, .ref (tb 2)), (2, .int p2)] := hl
  have hiX2 : ∀ w ∈ wsX20, w ∈ wsX2_standsHere := by decide +kernel
  have k15 := hts (.fieldLink RX2 15 "DayColumn$Reader" "length" "I") (by decide +kernel)
  have k40 := hts (.fieldLink RX2 40 "DayColumn$Reader" "at" "I") (by decide +kernel)
  have k9 := hts (.fieldLink RX2 9 "DayColumn$Reader" "cell" "[I") (by decide +kernel)
  have l29 : ∀ (n : Nat) (x_2 x_3 : Int32) (ls : Array Slot), lv_has ls 6 [(0, .ref (a 5)), (1, .ref (tb 2)), (2, .int x_2), (3, .int x_3)] → fX2_standsHere_W_29 n st x_2 x_3 = some r → W p l e ({ frames := 0, cells := 0, slots := 0, locals := 0 }) s m ([.ref (a 5), .ref (tb 2), .int p2] : List Value).toArray below meth c s.heap [] 0 0 (MQ below (vp_Si (fun z => z = r)) ([.ref (a 5), .ref (tb 2), .int p2] : List Value).toArray s 0 0 (fun _ => False)) (F0 m 29 ls []) := by
    intro n
    induction n with
    | zero =>
      intro x_2 x_3 ls hl hf
      cases hf
    | succ n ih29 =>
      intro x_2 x_3 ls hl hf
      unfold fX2_standsHere_W_29 at hf
      refine lv_iload_n hx hb dX2_standsHere_29 rfl (lv_at hl 3 rfl) ?_
      refine lv_iconst (v := 3) hx hb dX2_standsHere_30 (by decide) ?_
      refine lv_icmp_ge (tgt := 94) hx hb dX2_standsHere_31 (by decide) (fun c1 => ?_) (fun c1 => ?_)
      · replace hf := if_t hf c1
        refine lv_iconst (v := 1) hx hb dX2_standsHere_94 (by decide) ?_
        exact W.zret (v := 1) hx hb hr rfl (fun t ht _ => ⟨1, rfl, so_i hf, ht⟩) (fun _ h => by cases h) dX2_standsHere_95
      · replace hf := if_f hf c1
        refine lv_aload_n hx hb dX2_standsHere_34 rfl (lv_at hl 0 rfl) ?_
        refine va_get (D := D) (ci := 1) (v := .ref (a 13)) (C := RX2) (T := TX2) (N := 9) hx hb hts hiX2 hown hK hP 5 rfl rfl 0 (by decide) k9 (fun _ h9 => h9) rfl dX2_standsHere_35 ?_
        refine lv_aload_n hx hb dX2_standsHere_38 rfl (lv_at hl 0 rfl) ?_
        refine va_get (D := D) (ci := 1) (v := .int (st.1 6)) (C := RX2) (T := TX2) (N := 9) hx hb hts hiX2 hown hK hP 5 rfl rfl 2 (by decide) k40 (fun _ h9 => h9) rfl dX2_standsHere_39 ?_
        refine lv_iload_n hx hb dX2_standsHere_42 rfl (lv_at hl 3 rfl) ?_
        refine lv_iadd hx hb dX2_standsHere_43 ?_
        obtain ⟨x2, ex2, hf⟩ := bnd_e hf
        refine w_nm ex2 ?_
        obtain ⟨hi3, hf⟩ := ix_e hf
        refine va_iald hx hb hK hP 13 0 rfl rfl hi3 dX2_standsHere_44 ?_
        obtain ⟨x4, ex4, hf⟩ := bnd_e hf
        refine w_nm ex4 ?_
        refine lv_istore (lv' := [(4, .int x4), (0, .ref (a 5)), (1, .ref (tb 2)), (2, .int x_2), (3, .int x_3)]) hx hb dX2_standsHere_45 hl (by decide) rfl (fun ls hl => ?_)
        refine lv_iload hx hb dX2_standsHere_47 (lv_at hl 0 rfl) ?_
        refine lv_bipush (v := 65) hx hb dX2_standsHere_49 (by decide) ?_
        refine lv_icmp_lt (tgt := 72) hx hb dX2_standsHere_51 (by decide) (fun c5 => ?_) (fun c5 => ?_)
        · replace hf := if_t hf c5
          refine lv_iload hx hb dX2_standsHere_72 (lv_at hl 0 rfl) ?_
          refine lv_istore (lv' := [(5, .int x4), (4, .int x4), (0, .ref (a 5)), (1, .ref (tb 2)), (2, .int x_2), (3, .int x_3)]) hx hb dX2_standsHere_74 hl (by decide) rfl (fun ls hl => ?_)
          refine lv_iload hx hb dX2_standsHere_76 (lv_at hl 0 rfl) ?_
          refine lv_aload_n hx hb dX2_standsHere_78 rfl (lv_at hl 3 rfl) ?_
          refine lv_iload_n hx hb dX2_standsHere_79 rfl (lv_at hl 4 rfl) ?_
          refine lv_iload_n hx hb dX2_standsHere_80 rfl (lv_at hl 5 rfl) ?_
          refine lv_iadd hx hb dX2_standsHere_81 ?_
          obtain ⟨x6, ex6, hf⟩ := bnd_e hf
          refine w_nm ex6 ?_
          obtain ⟨hi7, hf⟩ := ix_e hf
          refine va_tc hx hb hZ.2.2.1.2 hS hi7 (v := .int (tWD (Int32.toNatClampNeg x6))) rfl dX2_standsHere_82 ?_
          refine lv_icmp_eq (tgt := 88) hx hb dX2_standsHere_83 (by decide) (fun c8 => ?_) (fun c8 => ?_)
          · replace hf := if_t hf c8
            obtain ⟨x9, ex9, hf⟩ := bnd_e hf
            refine lv_iinc (v := x9) (lv' := [(3, .int x9), (5, .int x4), (4, .int x4), (0, .ref (a 5)), (1, .ref (tb 2)), (2, .int x_2)]) hx hb dX2_standsHere_88 hl (k := 5) rfl (by rw [ex9]; rfl) (by decide) rfl (fun ls hl => ?_)
            refine lv_goto (tgt := 29) hx hb dX2_standsHere_91 (by decide) ?_
            exact ih29 x_2 x9 _ (lv_sub hl [3, 4, 5, 0] rfl) hf
          · replace hf := if_f hf c8
            refine lv_iconst (v := 0) hx hb dX2_standsHere_86 (by decide) ?_
            exact W.zret (v := 0) hx hb hr rfl (fun t ht _ => ⟨0, rfl, so_i hf, ht⟩) (fun _ h => by cases h) dX2_standsHere_87
        · replace hf := if_f hf c5
          refine lv_iload hx hb dX2_standsHere_54 (lv_at hl 0 rfl) ?_
          refine lv_bipush (v := 90) hx hb dX2_standsHere_56 (by decide) ?_
          refine lv_icmp_gt (tgt := 72) hx hb dX2_standsHere_58 (by decide) (fun c10 => ?_) (fun c10 => ?_)
          · replace hf := if_t hf c10
            refine lv_iload hx hb dX2_standsHere_72 (lv_at hl 0 rfl) ?_
            refine lv_istore (lv' := [(5, .int x4), (4, .int x4), (0, .ref (a 5)), (1, .ref (tb 2)), (2, .int x_2), (3, .int x_3)]) hx hb dX2_standsHere_74 hl (by decide) rfl (fun ls hl => ?_)
            refine lv_iload hx hb dX2_standsHere_76 (lv_at hl 0 rfl) ?_
            refine lv_aload_n hx hb dX2_standsHere_78 rfl (lv_at hl 3 rfl) ?_
            refine lv_iload_n hx hb dX2_standsHere_79 rfl (lv_at hl 4 rfl) ?_
            refine lv_iload_n hx hb dX2_standsHere_80 rfl (lv_at hl 5 rfl) ?_
            refine lv_iadd hx hb dX2_standsHere_81 ?_
            obtain ⟨x11, ex11, hf⟩ := bnd_e hf
            refine w_nm ex11 ?_
            obtain ⟨hi12, hf⟩ := ix_e hf
            refine va_tc hx hb hZ.2.2.1.2 hS hi12 (v := .int (tWD (Int32.toNatClampNeg x11))) rfl dX2_standsHere_82 ?_
            refine lv_icmp_eq (tgt := 88) hx hb dX2_standsHere_83 (by decide) (fun c13 => ?_) (fun c13 => ?_)
            · replace hf := if_t hf c13
              obtain ⟨x14, ex14, hf⟩ := bnd_e hf
              refine lv_iinc (v := x14) (lv' := [(3, .int x14), (5, .int x4), (4, .int x4), (0, .ref (a 5)), (1, .ref (tb 2)), (2, .int x_2)]) hx hb dX2_standsHere_88 hl (k := 5) rfl (by rw [ex14]; rfl) (by decide) rfl (fun ls hl => ?_)
              refine lv_goto (tgt := 29) hx hb dX2_standsHere_91 (by decide) ?_
              exact ih29 x_2 x14 _ (lv_sub hl [3, 4, 5, 0] rfl) hf
            · replace hf := if_f hf c13
              refine lv_iconst (v := 0) hx hb dX2_standsHere_86 (by decide) ?_
              exact W.zret (v := 0) hx hb hr rfl (fun t ht _ => ⟨0, rfl, so_i hf, ht⟩) (fun _ h => by cases h) dX2_standsHere_87
          · replace hf := if_f hf c10
            refine lv_iload hx hb dX2_standsHere_61 (lv_at hl 0 rfl) ?_
            refine lv_bipush (v := 65) hx hb dX2_standsHere_63 (by decide) ?_
            refine lv_isub hx hb dX2_standsHere_65 ?_
            refine lv_bipush (v := 97) hx hb dX2_standsHere_66 (by decide) ?_
            refine lv_iadd hx hb dX2_standsHere_68 ?_
            refine lv_goto (tgt := 74) hx hb dX2_standsHere_69 (by decide) ?_
            obtain ⟨x15, ex15, hf⟩ := bnd_e hf
            refine w_nm ex15 ?_
            refine lv_istore (lv' := [(5, .int x15), (4, .int x4), (0, .ref (a 5)), (1, .ref (tb 2)), (2, .int x_2), (3, .int x_3)]) hx hb dX2_standsHere_74 hl (by decide) rfl (fun ls hl => ?_)
            refine lv_iload hx hb dX2_standsHere_76 (lv_at hl 0 rfl) ?_
            refine lv_aload_n hx hb dX2_standsHere_78 rfl (lv_at hl 3 rfl) ?_
            refine lv_iload_n hx hb dX2_standsHere_79 rfl (lv_at hl 4 rfl) ?_
            refine lv_iload_n hx hb dX2_standsHere_80 rfl (lv_at hl 5 rfl) ?_
            refine lv_iadd hx hb dX2_standsHere_81 ?_
            obtain ⟨x16, ex16, hf⟩ := bnd_e hf
            refine w_nm ex16 ?_
            obtain ⟨hi17, hf⟩ := ix_e hf
            refine va_tc hx hb hZ.2.2.1.2 hS hi17 (v := .int (tWD (Int32.toNatClampNeg x16))) rfl dX2_standsHere_82 ?_
            refine lv_icmp_eq (tgt := 88) hx hb dX2_standsHere_83 (by decide) (fun c18 => ?_) (fun c18 => ?_)
            · replace hf := if_t hf c18
              obtain ⟨x19, ex19, hf⟩ := bnd_e hf
              refine lv_iinc (v := x19) (lv' := [(3, .int x19), (5, .int x15), (4, .int x4), (0, .ref (a 5)), (1, .ref (tb 2)), (2, .int x_2)]) hx hb dX2_standsHere_88 hl (k := 5) rfl (by rw [ex19]; rfl) (by decide) rfl (fun ls hl => ?_)
              refine lv_goto (tgt := 29) hx hb dX2_standsHere_91 (by decide) ?_
              exact ih29 x_2 x19 _ (lv_sub hl [3, 4, 5, 0] rfl) hf
            · replace hf := if_f hf c18
              refine lv_iconst (v := 0) hx hb dX2_standsHere_86 (by decide) ?_
              exact W.zret (v := 0) hx hb hr rfl (fun t ht _ => ⟨0, rfl, so_i hf, ht⟩) (fun _ h => by cases h) dX2_standsHere_87
  unfold fX2_standsHere_W at hf
  refine lv_aload_n hx hb dX2_standsHere_0 rfl (lv_at hl 0 rfl) ?_
  refine va_get (D := D) (ci := 1) (v := .int (st.1 5)) (C := RX2) (T := TX2) (N := 9) hx hb hts hiX2 hown hK hP 5 rfl rfl 1 (by decide) k15 (fun _ h9 => h9) rfl dX2_standsHere_1 ?_
  refine lv_aload_n hx hb dX2_standsHere_4 rfl (lv_at hl 0 rfl) ?_
  refine va_get (D := D) (ci := 1) (v := .int (st.1 6)) (C := RX2) (T := TX2) (N := 9) hx hb hts hiX2 hown hK hP 5 rfl rfl 2 (by decide) k40 (fun _ h9 => h9) rfl dX2_standsHere_5 ?_
  refine lv_isub hx hb dX2_standsHere_8 ?_
  refine lv_iconst (v := 3) hx hb dX2_standsHere_9 (by decide) ?_
  refine lv_icmp_lt (tgt := 25) hx hb dX2_standsHere_10 (by decide) (fun c20 => ?_) (fun c20 => ?_)
  · replace hf := if_t hf c20
    refine lv_iconst (v := 0) hx hb dX2_standsHere_25 (by decide) ?_
    exact W.zret (v := 0) hx hb hr rfl (fun t ht _ => ⟨0, rfl, so_i hf, ht⟩) (fun _ h => by cases h) dX2_standsHere_26
  · replace hf := if_f hf c20
    refine lv_iload_n hx hb dX2_standsHere_13 rfl (lv_at hl 2 rfl) ?_
    refine lv_if_lt (tgt := 25) hx hb dX2_standsHere_14 (by decide) (fun c21 => ?_) (fun c21 => ?_)
    · replace hf := if_t hf c21
      refine lv_iconst (v := 0) hx hb dX2_standsHere_25 (by decide) ?_
      exact W.zret (v := 0) hx hb hr rfl (fun t ht _ => ⟨0, rfl, so_i hf, ht⟩) (fun _ h => by cases h) dX2_standsHere_26
    · replace hf := if_f hf c21
      refine lv_aload_n hx hb dX2_standsHere_17 rfl (lv_at hl 1 rfl) ?_
      refine va_tlen hx hb hZ.2.2.1.2 hS (v := 21) (by decide) dX2_standsHere_18 ?_
      refine lv_iload_n hx hb dX2_standsHere_19 rfl (lv_at hl 2 rfl) ?_
      refine lv_isub hx hb dX2_standsHere_20 ?_
      refine lv_iconst (v := 3) hx hb dX2_standsHere_21 (by decide) ?_
      refine lv_icmp_ge (tgt := 27) hx hb dX2_standsHere_22 (by decide) (fun c22 => ?_) (fun c22 => ?_)
      · replace hf := if_t hf c22
        refine lv_iconst (v := 0) hx hb dX2_standsHere_27 (by decide) ?_
        refine lv_istore_n (lv' := [(3, .int 0), (0, .ref (a 5)), (1, .ref (tb 2)), (2, .int p2)]) hx hb dX2_standsHere_28 rfl hl (by decide) rfl (fun ls hl => ?_)
        exact l29 1000 p2 0 _ (lv_sub hl [1, 2, 3, 0] rfl) hf
      · replace hf := if_f hf c22
        refine lv_iconst (v := 0) hx hb dX2_standsHere_25 (by decide) ?_
        exact W.zret (v := 0) hx hb hr rfl (fun t ht _ => ⟨0, rfl, so_i hf, ht⟩) (fun _ h => by cases h) dX2_standsHere_26
set_option maxHeartbeats 4000000 in
set_option maxRecDepth 100000 in
theorem c_X2_takeWord_W (l : Launch) (D : va_G) (cI : ClassId) (a tb : Nat → Nat) (st : ST) (r : Int32 × ST) (hf : fX2_takeWord_W st = some r) : MetW l yX2_takeWord wsX2_takeWord ({ frames := 1, cells := 0, slots := 0, locals := 25 }) [.ref (a 5), .ref (tb 2)] D [(cI, .int)] (cw cI a) (cA a) tb st r := by
  refine met_of (cc := cX2_takeWord) (maxL := 4) (ret := (some .int)) (by decide) rfl (Nat.le_of_ble_eq_true rfl) ?_
  intro p e s m below meth c hx hb hr hml hts hown hlk hG ls hl
  have hown : s.vm.findClass RX2 = some m.cls := hown
  obtain ⟨hP, hK, hD, hZ⟩ := hG
  have hS : va_S (cA a) s.heap s.heap [] := va_S.rf
  have hl : lv_has ls 4 [(0, .ref (a 5)), (1, .ref (tb 2))] := hl
  have hiX2 : ∀ w ∈ wsX20, w ∈ wsX2_takeWord := by decide +kernel
  have k40 := hts (.fieldLink RX2 40 "DayColumn$Reader" "at" "I") (by decide +kernel)
  have l7 : ∀ (n : Nat) (x_2 x_3 : Int32) (st : ST) (H : Heap) (locs : List Loc) (ls : Array Slot), va_P D vwCl (cw cI a st) H → va_S (cA a) s.heap H locs → lv_has ls 4 [(0, .ref (a 5)), (1, .ref (tb 2)), (2, .int x_2), (3, .int x_3)] → fX2_takeWord_W_7 n st x_2 x_3 = some r → W p l e ({ frames := 1, cells := 0, slots := 0, locals := 25 }) s m ([.ref (a 5), .ref (tb 2)] : List Value).toArray below meth c H locs 0 0 (MQ below (va_Qi (fun (z : Int32) (u : ST) => z = r.1 ∧ u = r.2) (fun u t => va_P D vwCl (cw cI a u) t.heap) (cA a)) ([.ref (a 5), .ref (tb 2)] : List Value).toArray s 0 0 (cA a)) (F0 m 7 ls []) := by
    intro n
    induction n with
    | zero =>
      intro x_2 x_3 st H locs ls hP hS hl hf
      cases hf
    | succ n ih7 =>
      intro x_2 x_3 st H locs ls hP hS hl hf
      unfold fX2_takeWord_W_7 at hf
      refine lv_iload_n hx hb dX2_takeWord_7 rfl (lv_at hl 3 rfl) ?_
      refine lv_iload_n hx hb dX2_takeWord_8 rfl (lv_at hl 2 rfl) ?_
      refine lv_icmp_ge (tgt := 41) hx hb dX2_takeWord_9 (by decide) (fun c1 => ?_) (fun c1 => ?_)
      · replace hf := if_t hf c1
        refine lv_iconst (v := -1) hx hb dX2_takeWord_41 (by decide) ?_
        exact W.iret (v := (-1)) hx hb hr (fun t ht _ => ⟨⟨(-1), st, rfl, so_p hf, p_at ht hP⟩, hS.F ht⟩) hS.2.2 dX2_takeWord_42
      · replace hf := if_f hf c1
        refine lv_aload_n hx hb dX2_takeWord_12 rfl (lv_at hl 0 rfl) ?_
        refine lv_aload_n hx hb dX2_takeWord_13 rfl (lv_at hl 1 rfl) ?_
        refine lv_iload_n hx hb dX2_takeWord_14 rfl (lv_at hl 3 rfl) ?_
        refine lv_iconst (v := 3) hx hb dX2_takeWord_15 (by decide) ?_
        refine lv_imul hx hb dX2_takeWord_16 ?_
        obtain ⟨o2, ho2, hf⟩ := ob_e hf
        refine w_callR (b := a 5) (As := [.ref (tb 2), .int (x_3 * 3)]) (rest := []) ⟨hx, hb, hml, hown, hts⟩ (c_X2_standsHere_W l D cI a tb st (x_3 * 3) o2 ho2) (cwV 2 hts gX2_takeWord_X2_standsHere rfl rfl rfl (by decide +kernel) ⟨Nat.le_of_ble_eq_true rfl, Nat.le_of_ble_eq_true rfl⟩) hP hK hD hZ hS (va_recv hK hP (ci := 1) (q0 := 5) rfl rfl) rfl hl.1 rfl (Nat.le_of_ble_eq_true rfl) ⟨Nat.zero_le _, Nat.zero_le _⟩ dX2_takeWord_17 ?_
        refine lv_if_eq (tgt := 35) hx hb dX2_takeWord_20 (by decide) (fun c3 => ?_) (fun c3 => ?_)
        · replace hf := if_t hf c3
          obtain ⟨x4, ex4, hf⟩ := bnd_e hf
          refine lv_iinc (v := x4) (lv' := [(3, .int x4), (0, .ref (a 5)), (1, .ref (tb 2)), (2, .int x_2)]) hx hb dX2_takeWord_35 hl (k := 3) rfl (by rw [ex4]; rfl) (by decide) rfl (fun ls hl => ?_)
          refine lv_goto (tgt := 7) hx hb dX2_takeWord_38 (by decide) ?_
          exact ih7 x_2 x4 st _ _ _ hP hS (lv_sub hl [1, 2, 3, 0] rfl) hf
        · replace hf := if_f hf c3
          refine lv_aload_n hx hb dX2_takeWord_23 rfl (lv_at hl 0 rfl) ?_
          refine lv_dup hx hb dX2_takeWord_24 rfl ?_
          refine va_get (D := D) (ci := 1) (v := .int (st.1 6)) (C := RX2) (T := TX2) (N := 9) hx hb hts hiX2 hown hK hP 5 rfl rfl 2 (by decide) k40 (fun _ h9 => h9) rfl dX2_takeWord_25 ?_
          refine lv_iconst (v := 3) hx hb dX2_takeWord_28 (by decide) ?_
          refine lv_iadd hx hb dX2_takeWord_29 ?_
          obtain ⟨x5, ex5, hf⟩ := bnd_e hf
          refine w_nm ex5 ?_
          obtain ⟨s6, es6, hf⟩ := bnd_e hf
          refine va_put (D := D) (ci := 1) (v := .int x5) (ty := .int) (C := RX2) (T := TX2) (N := 9) hx hb hts hiX2 tyX2 tyX2_ok nmX2 hown hK hP (hD st) hS 5 rfl rfl 2 (by decide) k40 (fun _ h9 => h9) rfl (by decide +kernel) rfl rfl (Nat.le_of_ble_eq_true rfl) dX2_takeWord_30 (fun H locs hP _ hS => ?_)
          have hP : va_P D vwCl (cw cI a s6) H := by rw [es6]; exact hP
          refine lv_iload_n hx hb dX2_takeWord_33 rfl (lv_at hl 3 rfl) ?_
          exact W.iret (v := x_3) hx hb hr (fun t ht _ => ⟨⟨x_3, s6, rfl, so_p hf, p_at ht hP⟩, hS.F ht⟩) hS.2.2 dX2_takeWord_34
  unfold fX2_takeWord_W at hf
  refine lv_aload_n hx hb dX2_takeWord_0 rfl (lv_at hl 1 rfl) ?_
  refine va_tlen hx hb hZ.2.2.1.2 hS (v := 21) (by decide) dX2_takeWord_1 ?_
  refine lv_iconst (v := 3) hx hb dX2_takeWord_2 (by decide) ?_
  refine lv_idiv hx hb dX2_takeWord_3 (by decide) ?_
  obtain ⟨x7, ex7, hf⟩ := bnd_e hf
  refine w_nm ex7 ?_
  refine lv_istore_n (lv' := [(2, .int x7), (0, .ref (a 5)), (1, .ref (tb 2))]) hx hb dX2_takeWord_4 rfl hl (by decide) rfl (fun ls hl => ?_)
  refine lv_iconst (v := 0) hx hb dX2_takeWord_5 (by decide) ?_
  refine lv_istore_n (lv' := [(3, .int 0), (2, .int x7), (0, .ref (a 5)), (1, .ref (tb 2))]) hx hb dX2_takeWord_6 rfl hl (by decide) rfl (fun ls hl => ?_)
  exact l7 1000 x7 0 st _ _ _ hP hS (lv_sub hl [2, 3, 1, 0] rfl) hf
set_option maxHeartbeats 4000000 in
set_option maxRecDepth 100000 in
theorem c_X2_take (l : Launch) (D : va_G) (cI : ClassId) (a tb : Nat → Nat) (st : ST) (p1 p2 : Int32) (r : Int32 × ST) (hf : fX2_take st p1 p2 = some r) : MetW l yX2_take wsX2_take ({ frames := 2, cells := 0, slots := 0, locals := 48 }) [.ref (a 5), .int p1, .int p2] D [(cI, .int)] (cw cI a) (cA a) tb st r := by
  refine met_of (cc := cX2_take) (maxL := 3) (ret := (some .boolean)) (by decide) rfl (Nat.le_of_ble_eq_true rfl) ?_
  intro p e s m below meth c hx hb hr hml hts hown hlk hG ls hl
  have hown : s.vm.findClass RX2 = some m.cls := hown
  obtain ⟨hP, hK, hD, hZ⟩ := hG
  have hS : va_S (cA a) s.heap s.heap [] := va_S.rf
  have hl : lv_has ls 3 [(0, .ref (a 5)), (1, .int p1), (2, .int p2)] := hl
  have hiX2 : ∀ w ∈ wsX20, w ∈ wsX2_take := by decide +kernel
  have k43 := hts (.fieldLink RX2 43 "DayColumn$Reader" "dayOfMonth" "I") (by decide +kernel)
  have k46 := hts (.fieldLink RX2 46 "DayColumn$Reader" "month" "I") (by decide +kernel)
  have k49 := hts (.fieldLink RX2 49 "DayColumn$Reader" "year" "I") (by decide +kernel)
  have k52 := hts (.fieldLink RX2 52 "DayColumn$Reader" "weekday" "I") (by decide +kernel)
  have k69 := hts (.fieldLink RX2 69 "DayColumn$Words" "MONTHS" "[C") (by decide +kernel)
  have k82 := hts (.fieldLink RX2 82 "DayColumn$Words" "WEEKDAYS" "[C") (by decide +kernel)
  unfold fX2_take at hf
  refine lv_iload_n hx hb dX2_take_0 rfl (lv_at hl 1 rfl) ?_
  by_cases c1 : p1 = 32
  · replace hf := if_t hf c1
    refine lv_lookup (tgt := 218) (off := 217) hx hb dX2_take_1 (by decide) (by rw [c1]; rfl) (by decide) ?_
    refine lv_aload_n hx hb dX2_take_218 rfl (lv_at hl 0 rfl) ?_
    obtain ⟨o2, ho2, hf⟩ := ob_e hf
    refine w_callW (b := a 5) (As := []) (rest := []) ⟨hx, hb, hml, hown, hts⟩ (c_X2_takeBlanks l D cI a tb st o2 ho2) (cwV 0 hts gX2_take_X2_takeBlanks rfl rfl rfl (by decide +kernel) ⟨Nat.le_of_ble_eq_true rfl, Nat.le_of_ble_eq_true rfl⟩) hP hK hD hZ hS (va_recv hK hP (ci := 1) (q0 := 5) rfl rfl) rfl hl.1 rfl (Nat.le_of_ble_eq_true rfl) ⟨Nat.zero_le _, Nat.zero_le _⟩ dX2_take_219 (fun H locs hP hS => ?_)
    obtain ⟨hz3, hf⟩ := tv_e hf
    exact W.zret (v := o2.1) hx hb hr hz3 (fun t ht _ => ⟨⟨o2.1, o2.2, rfl, so_p hf, p_at ht hP⟩, hS.F ht⟩) hS.2.2 dX2_take_222
  · replace hf := if_f hf c1
    by_cases c4 : p1 = 68
    · replace hf := if_t hf c4
      refine lv_lookup (tgt := 68) (off := 67) hx hb dX2_take_1 (by decide) (by rw [c4]; rfl) (by decide) ?_
      refine lv_aload_n hx hb dX2_take_68 rfl (lv_at hl 0 rfl) ?_
      refine lv_aload_n hx hb dX2_take_69 rfl (lv_at hl 0 rfl) ?_
      refine lv_aload_n hx hb dX2_take_70 rfl (lv_at hl 0 rfl) ?_
      obtain ⟨o5, ho5, hf⟩ := ob_e hf
      refine w_callR (b := a 5) (As := []) (rest := [.ref (a 5), .ref (a 5)]) ⟨hx, hb, hml, hown, hts⟩ (c_X2_digitsHere l D cI a tb st o5 ho5) (cwV 0 hts gX2_take_X2_digitsHere rfl rfl rfl (by decide +kernel) ⟨Nat.le_of_ble_eq_true rfl, Nat.le_of_ble_eq_true rfl⟩) hP hK hD hZ hS (va_recv hK hP (ci := 1) (q0 := 5) rfl rfl) rfl hl.1 rfl (Nat.le_of_ble_eq_true rfl) ⟨Nat.zero_le _, Nat.zero_le _⟩ dX2_take_71 ?_
      obtain ⟨o6, ho6, hf⟩ := ob_e hf
      refine w_callW (b := a 5) (As := [.int o5]) (rest := [.ref (a 5)]) ⟨hx, hb, hml, hown, hts⟩ (c_X2_takeDigits l D cI a tb st o5 o6 ho6) (cwV 1 hts gX2_take_X2_takeDigits rfl rfl rfl (by decide +kernel) ⟨Nat.le_of_ble_eq_true rfl, Nat.le_of_ble_eq_true rfl⟩) hP hK hD hZ hS (va_recv hK hP (ci := 1) (q0 := 5) rfl rfl) rfl hl.1 rfl (Nat.le_of_ble_eq_true rfl) ⟨Nat.zero_le _, Nat.zero_le _⟩ dX2_take_74 (fun H locs hP hS => ?_)
      obtain ⟨s7, es7, hf⟩ := bnd_e hf
      refine va_put (D := D) (ci := 1) (v := .int o6.1) (ty := .int) (C := RX2) (T := TX2) (N := 9) hx hb hts hiX2 tyX2 tyX2_ok nmX2 hown hK hP (hD o6.2) hS 5 rfl rfl 3 (by decide) k43 (fun _ h9 => h9) rfl (by decide +kernel) rfl rfl (Nat.le_of_ble_eq_true rfl) dX2_take_77 (fun H locs hP _ hS => ?_)
      have hP : va_P D vwCl (cw cI a s7) H := by rw [es7]; exact hP
      refine lv_aload_n hx hb dX2_take_80 rfl (lv_at hl 0 rfl) ?_
      refine va_get (D := D) (ci := 1) (v := .int (s7.1 7)) (C := RX2) (T := TX2) (N := 9) hx hb hts hiX2 hown hK hP 5 rfl rfl 3 (by decide) k43 (fun _ h9 => h9) rfl dX2_take_81 ?_
      refine lv_iconst (v := -1) hx hb dX2_take_84 (by decide) ?_
      refine lv_icmp_eq (tgt := 92) hx hb dX2_take_85 (by decide) (fun c8 => ?_) (fun c8 => ?_)
      · replace hf := if_t hf c8
        refine lv_iconst (v := 0) hx hb dX2_take_92 (by decide) ?_
        exact W.zret (v := 0) hx hb hr rfl (fun t ht _ => ⟨⟨0, s7, rfl, so_p hf, p_at ht hP⟩, hS.F ht⟩) hS.2.2 dX2_take_93
      · replace hf := if_f hf c8
        refine lv_iconst (v := 1) hx hb dX2_take_88 (by decide) ?_
        refine lv_goto (tgt := 93) hx hb dX2_take_89 (by decide) ?_
        exact W.zret (v := 1) hx hb hr rfl (fun t ht _ => ⟨⟨1, s7, rfl, so_p hf, p_at ht hP⟩, hS.F ht⟩) hS.2.2 dX2_take_93
    · replace hf := if_f hf c4
      by_cases c9 : p1 = 77
      · replace hf := if_t hf c9
        refine lv_lookup (tgt := 94) (off := 93) hx hb dX2_take_1 (by decide) (by rw [c9]; rfl) (by decide) ?_
        refine lv_aload_n hx hb dX2_take_94 rfl (lv_at hl 0 rfl) ?_
        refine lv_aload_n hx hb dX2_take_95 rfl (lv_at hl 0 rfl) ?_
        refine lv_aload_n hx hb dX2_take_96 rfl (lv_at hl 0 rfl) ?_
        obtain ⟨o10, ho10, hf⟩ := ob_e hf
        refine w_callR (b := a 5) (As := []) (rest := [.ref (a 5), .ref (a 5)]) ⟨hx, hb, hml, hown, hts⟩ (c_X2_digitsHere l D cI a tb st o10 ho10) (cwV 0 hts gX2_take_X2_digitsHere rfl rfl rfl (by decide +kernel) ⟨Nat.le_of_ble_eq_true rfl, Nat.le_of_ble_eq_true rfl⟩) hP hK hD hZ hS (va_recv hK hP (ci := 1) (q0 := 5) rfl rfl) rfl hl.1 rfl (Nat.le_of_ble_eq_true rfl) ⟨Nat.zero_le _, Nat.zero_le _⟩ dX2_take_97 ?_
        obtain ⟨o11, ho11, hf⟩ := ob_e hf
        refine w_callW (b := a 5) (As := [.int o10]) (rest := [.ref (a 5)]) ⟨hx, hb, hml, hown, hts⟩ (c_X2_takeDigits l D cI a tb st o10 o11 ho11) (cwV 1 hts gX2_take_X2_takeDigits rfl rfl rfl (by decide +kernel) ⟨Nat.le_of_ble_eq_true rfl, Nat.le_of_ble_eq_true rfl⟩) hP hK hD hZ hS (va_recv hK hP (ci := 1) (q0 := 5) rfl rfl) rfl hl.1 rfl (Nat.le_of_ble_eq_true rfl) ⟨Nat.zero_le _, Nat.zero_le _⟩ dX2_take_100 (fun H locs hP hS => ?_)
        obtain ⟨s12, es12, hf⟩ := bnd_e hf
        refine va_put (D := D) (ci := 1) (v := .int o11.1) (ty := .int) (C := RX2) (T := TX2) (N := 9) hx hb hts hiX2 tyX2 tyX2_ok nmX2 hown hK hP (hD o11.2) hS 5 rfl rfl 4 (by decide) k46 (fun _ h9 => h9) rfl (by decide +kernel) rfl rfl (Nat.le_of_ble_eq_true rfl) dX2_take_103 (fun H locs hP _ hS => ?_)
        have hP : va_P D vwCl (cw cI a s12) H := by rw [es12]; exact hP
        refine lv_aload_n hx hb dX2_take_106 rfl (lv_at hl 0 rfl) ?_
        refine va_get (D := D) (ci := 1) (v := .int (s12.1 8)) (C := RX2) (T := TX2) (N := 9) hx hb hts hiX2 hown hK hP 5 rfl rfl 4 (by decide) k46 (fun _ h9 => h9) rfl dX2_take_107 ?_
        refine lv_iconst (v := -1) hx hb dX2_take_110 (by decide) ?_
        refine lv_icmp_eq (tgt := 118) hx hb dX2_take_111 (by decide) (fun c13 => ?_) (fun c13 => ?_)
        · replace hf := if_t hf c13
          refine lv_iconst (v := 0) hx hb dX2_take_118 (by decide) ?_
          exact W.zret (v := 0) hx hb hr rfl (fun t ht _ => ⟨⟨0, s12, rfl, so_p hf, p_at ht hP⟩, hS.F ht⟩) hS.2.2 dX2_take_119
        · replace hf := if_f hf c13
          refine lv_iconst (v := 1) hx hb dX2_take_114 (by decide) ?_
          refine lv_goto (tgt := 119) hx hb dX2_take_115 (by decide) ?_
          exact W.zret (v := 1) hx hb hr rfl (fun t ht _ => ⟨⟨1, s12, rfl, so_p hf, p_at ht hP⟩, hS.F ht⟩) hS.2.2 dX2_take_119
      · replace hf := if_f hf c9
        by_cases c14 : p1 = 78
        · replace hf := if_t hf c14
          refine lv_lookup (tgt := 120) (off := 119) hx hb dX2_take_1 (by decide) (by rw [c14]; rfl) (by decide) ?_
          refine lv_aload_n hx hb dX2_take_120 rfl (lv_at hl 0 rfl) ?_
          refine lv_iconst (v := 1) hx hb dX2_take_121 (by decide) ?_
          refine lv_aload_n hx hb dX2_take_122 rfl (lv_at hl 0 rfl) ?_
          refine va_gets hx hb hZ.2.1.1 hS hown k69 (fun _ h9 => h9) dX2_take_123 ?_
          obtain ⟨o15, ho15, hf⟩ := ob_e hf
          refine w_callW (b := a 5) (As := [.ref (tb 1)]) (rest := [.int 1, .ref (a 5)]) ⟨hx, hb, hml, hown, hts⟩ (c_X2_takeWord_M l D cI a tb st o15 ho15) (cwV 1 hts gX2_take_X2_takeWord rfl rfl rfl (by decide +kernel) ⟨Nat.le_of_ble_eq_true rfl, Nat.le_of_ble_eq_true rfl⟩) hP hK hD hZ hS (va_recv hK hP (ci := 1) (q0 := 5) rfl rfl) rfl hl.1 rfl (Nat.le_of_ble_eq_true rfl) ⟨Nat.zero_le _, Nat.zero_le _⟩ dX2_take_126 (fun H locs hP hS => ?_)
          refine lv_iadd hx hb dX2_take_129 ?_
          obtain ⟨x16, ex16, hf⟩ := bnd_e hf
          refine w_nm ex16 ?_
          obtain ⟨s17, es17, hf⟩ := bnd_e hf
          refine va_put (D := D) (ci := 1) (v := .int x16) (ty := .int) (C := RX2) (T := TX2) (N := 9) hx hb hts hiX2 tyX2 tyX2_ok nmX2 hown hK hP (hD o15.2) hS 5 rfl rfl 4 (by decide) k46 (fun _ h9 => h9) rfl (by decide +kernel) rfl rfl (Nat.le_of_ble_eq_true rfl) dX2_take_130 (fun H locs hP _ hS => ?_)
          have hP : va_P D vwCl (cw cI a s17) H := by rw [es17]; exact hP
          refine lv_aload_n hx hb dX2_take_133 rfl (lv_at hl 0 rfl) ?_
          refine va_get (D := D) (ci := 1) (v := .int (s17.1 8)) (C := RX2) (T := TX2) (N := 9) hx hb hts hiX2 hown hK hP 5 rfl rfl 4 (by decide) k46 (fun _ h9 => h9) rfl dX2_take_134 ?_
          refine lv_iconst (v := 1) hx hb dX2_take_137 (by decide) ?_
          refine lv_icmp_lt (tgt := 145) hx hb dX2_take_138 (by decide) (fun c18 => ?_) (fun c18 => ?_)
          · replace hf := if_t hf c18
            refine lv_iconst (v := 0) hx hb dX2_take_145 (by decide) ?_
            exact W.zret (v := 0) hx hb hr rfl (fun t ht _ => ⟨⟨0, s17, rfl, so_p hf, p_at ht hP⟩, hS.F ht⟩) hS.2.2 dX2_take_146
          · replace hf := if_f hf c18
            refine lv_iconst (v := 1) hx hb dX2_take_141 (by decide) ?_
            refine lv_goto (tgt := 146) hx hb dX2_take_142 (by decide) ?_
            exact W.zret (v := 1) hx hb hr rfl (fun t ht _ => ⟨⟨1, s17, rfl, so_p hf, p_at ht hP⟩, hS.F ht⟩) hS.2.2 dX2_take_146
        · replace hf := if_f hf c14
          by_cases c19 : p1 = 87
          · replace hf := if_t hf c19
            refine lv_lookup (tgt := 193) (off := 192) hx hb dX2_take_1 (by decide) (by rw [c19]; rfl) (by decide) ?_
            refine lv_aload_n hx hb dX2_take_193 rfl (lv_at hl 0 rfl) ?_
            refine lv_aload_n hx hb dX2_take_194 rfl (lv_at hl 0 rfl) ?_
            refine va_gets hx hb hZ.2.2.1.1 hS hown k82 (fun _ h9 => h9) dX2_take_195 ?_
            obtain ⟨o20, ho20, hf⟩ := ob_e hf
            refine w_callW (b := a 5) (As := [.ref (tb 2)]) (rest := [.ref (a 5)]) ⟨hx, hb, hml, hown, hts⟩ (c_X2_takeWord_W l D cI a tb st o20 ho20) (cwV 1 hts gX2_take_X2_takeWord rfl rfl rfl (by decide +kernel) ⟨Nat.le_of_ble_eq_true rfl, Nat.le_of_ble_eq_true rfl⟩) hP hK hD hZ hS (va_recv hK hP (ci := 1) (q0 := 5) rfl rfl) rfl hl.1 rfl (Nat.le_of_ble_eq_true rfl) ⟨Nat.zero_le _, Nat.zero_le _⟩ dX2_take_198 (fun H locs hP hS => ?_)
            obtain ⟨s21, es21, hf⟩ := bnd_e hf
            refine va_put (D := D) (ci := 1) (v := .int o20.1) (ty := .int) (C := RX2) (T := TX2) (N := 9) hx hb hts hiX2 tyX2 tyX2_ok nmX2 hown hK hP (hD o20.2) hS 5 rfl rfl 6 (by decide) k52 (fun _ h9 => h9) rfl (by decide +kernel) rfl rfl (Nat.le_of_ble_eq_true rfl) dX2_take_201 (fun H locs hP _ hS => ?_)
            have hP : va_P D vwCl (cw cI a s21) H := by rw [es21]; exact hP
            refine lv_aload_n hx hb dX2_take_204 rfl (lv_at hl 0 rfl) ?_
            refine va_get (D := D) (ci := 1) (v := .int (s21.1 10)) (C := RX2) (T := TX2) (N := 9) hx hb hts hiX2 hown hK hP 5 rfl rfl 6 (by decide) k52 (fun _ h9 => h9) rfl dX2_take_205 ?_
            refine lv_iconst (v := -1) hx hb dX2_take_208 (by decide) ?_
            refine lv_icmp_eq (tgt := 216) hx hb dX2_take_209 (by decide) (fun c22 => ?_) (fun c22 => ?_)
            · replace hf := if_t hf c22
              refine lv_iconst (v := 0) hx hb dX2_take_216 (by decide) ?_
              exact W.zret (v := 0) hx hb hr rfl (fun t ht _ => ⟨⟨0, s21, rfl, so_p hf, p_at ht hP⟩, hS.F ht⟩) hS.2.2 dX2_take_217
            · replace hf := if_f hf c22
              refine lv_iconst (v := 1) hx hb dX2_take_212 (by decide) ?_
              refine lv_goto (tgt := 217) hx hb dX2_take_213 (by decide) ?_
              exact W.zret (v := 1) hx hb hr rfl (fun t ht _ => ⟨⟨1, s21, rfl, so_p hf, p_at ht hP⟩, hS.F ht⟩) hS.2.2 dX2_take_217
          · replace hf := if_f hf c19
            by_cases c23 : p1 = 89
            · replace hf := if_t hf c23
              refine lv_lookup (tgt := 147) (off := 146) hx hb dX2_take_1 (by decide) (by rw [c23]; rfl) (by decide) ?_
              refine lv_aload_n hx hb dX2_take_147 rfl (lv_at hl 0 rfl) ?_
              refine lv_aload_n hx hb dX2_take_148 rfl (lv_at hl 0 rfl) ?_
              refine lv_iconst (v := 4) hx hb dX2_take_149 (by decide) ?_
              obtain ⟨o24, ho24, hf⟩ := ob_e hf
              refine w_callW (b := a 5) (As := [.int 4]) (rest := [.ref (a 5)]) ⟨hx, hb, hml, hown, hts⟩ (c_X2_takeDigits l D cI a tb st 4 o24 ho24) (cwV 1 hts gX2_take_X2_takeDigits rfl rfl rfl (by decide +kernel) ⟨Nat.le_of_ble_eq_true rfl, Nat.le_of_ble_eq_true rfl⟩) hP hK hD hZ hS (va_recv hK hP (ci := 1) (q0 := 5) rfl rfl) rfl hl.1 rfl (Nat.le_of_ble_eq_true rfl) ⟨Nat.zero_le _, Nat.zero_le _⟩ dX2_take_150 (fun H locs hP hS => ?_)
              obtain ⟨s25, es25, hf⟩ := bnd_e hf
              refine va_put (D := D) (ci := 1) (v := .int o24.1) (ty := .int) (C := RX2) (T := TX2) (N := 9) hx hb hts hiX2 tyX2 tyX2_ok nmX2 hown hK hP (hD o24.2) hS 5 rfl rfl 5 (by decide) k49 (fun _ h9 => h9) rfl (by decide +kernel) rfl rfl (Nat.le_of_ble_eq_true rfl) dX2_take_153 (fun H locs hP _ hS => ?_)
              have hP : va_P D vwCl (cw cI a s25) H := by rw [es25]; exact hP
              refine lv_aload_n hx hb dX2_take_156 rfl (lv_at hl 0 rfl) ?_
              refine va_get (D := D) (ci := 1) (v := .int (s25.1 9)) (C := RX2) (T := TX2) (N := 9) hx hb hts hiX2 hown hK hP 5 rfl rfl 5 (by decide) k49 (fun _ h9 => h9) rfl dX2_take_157 ?_
              refine lv_iconst (v := -1) hx hb dX2_take_160 (by decide) ?_
              refine lv_icmp_eq (tgt := 168) hx hb dX2_take_161 (by decide) (fun c26 => ?_) (fun c26 => ?_)
              · replace hf := if_t hf c26
                refine lv_iconst (v := 0) hx hb dX2_take_168 (by decide) ?_
                exact W.zret (v := 0) hx hb hr rfl (fun t ht _ => ⟨⟨0, s25, rfl, so_p hf, p_at ht hP⟩, hS.F ht⟩) hS.2.2 dX2_take_169
              · replace hf := if_f hf c26
                refine lv_iconst (v := 1) hx hb dX2_take_164 (by decide) ?_
                refine lv_goto (tgt := 169) hx hb dX2_take_165 (by decide) ?_
                exact W.zret (v := 1) hx hb hr rfl (fun t ht _ => ⟨⟨1, s25, rfl, so_p hf, p_at ht hP⟩, hS.F ht⟩) hS.2.2 dX2_take_169
            · replace hf := if_f hf c23
              by_cases c27 : p1 = 121
              · replace hf := if_t hf c27
                refine lv_lookup (tgt := 170) (off := 169) hx hb dX2_take_1 (by decide) (by rw [c27]; rfl) (by decide) ?_
                refine lv_aload_n hx hb dX2_take_170 rfl (lv_at hl 0 rfl) ?_
                refine lv_aload_n hx hb dX2_take_171 rfl (lv_at hl 0 rfl) ?_
                refine lv_iload_n hx hb dX2_take_172 rfl (lv_at hl 2 rfl) ?_
                obtain ⟨o28, ho28, hf⟩ := ob_e hf
                refine w_callW (b := a 5) (As := [.int p2]) (rest := [.ref (a 5)]) ⟨hx, hb, hml, hown, hts⟩ (c_X2_takeShortYear l D cI a tb st p2 o28 ho28) (cwV 1 hts gX2_take_X2_takeShortYear rfl rfl rfl (by decide +kernel) ⟨Nat.le_of_ble_eq_true rfl, Nat.le_of_ble_eq_true rfl⟩) hP hK hD hZ hS (va_recv hK hP (ci := 1) (q0 := 5) rfl rfl) rfl hl.1 rfl (Nat.le_of_ble_eq_true rfl) ⟨Nat.zero_le _, Nat.zero_le _⟩ dX2_take_173 (fun H locs hP hS => ?_)
                obtain ⟨s29, es29, hf⟩ := bnd_e hf
                refine va_put (D := D) (ci := 1) (v := .int o28.1) (ty := .int) (C := RX2) (T := TX2) (N := 9) hx hb hts hiX2 tyX2 tyX2_ok nmX2 hown hK hP (hD o28.2) hS 5 rfl rfl 5 (by decide) k49 (fun _ h9 => h9) rfl (by decide +kernel) rfl rfl (Nat.le_of_ble_eq_true rfl) dX2_take_176 (fun H locs hP _ hS => ?_)
                have hP : va_P D vwCl (cw cI a s29) H := by rw [es29]; exact hP
                refine lv_aload_n hx hb dX2_take_179 rfl (lv_at hl 0 rfl) ?_
                refine va_get (D := D) (ci := 1) (v := .int (s29.1 9)) (C := RX2) (T := TX2) (N := 9) hx hb hts hiX2 hown hK hP 5 rfl rfl 5 (by decide) k49 (fun _ h9 => h9) rfl dX2_take_180 ?_
                refine lv_iconst (v := -1) hx hb dX2_take_183 (by decide) ?_
                refine lv_icmp_eq (tgt := 191) hx hb dX2_take_184 (by decide) (fun c30 => ?_) (fun c30 => ?_)
                · replace hf := if_t hf c30
                  refine lv_iconst (v := 0) hx hb dX2_take_191 (by decide) ?_
                  exact W.zret (v := 0) hx hb hr rfl (fun t ht _ => ⟨⟨0, s29, rfl, so_p hf, p_at ht hP⟩, hS.F ht⟩) hS.2.2 dX2_take_192
                · replace hf := if_f hf c30
                  refine lv_iconst (v := 1) hx hb dX2_take_187 (by decide) ?_
                  refine lv_goto (tgt := 192) hx hb dX2_take_188 (by decide) ?_
                  exact W.zret (v := 1) hx hb hr rfl (fun t ht _ => ⟨⟨1, s29, rfl, so_p hf, p_at ht hP⟩, hS.F ht⟩) hS.2.2 dX2_take_192
              · replace hf := if_f hf c27
                refine lv_lookup (tgt := 223) (off := 222) hx hb dX2_take_1 (by decide) ((lv_osw c1 (by decide)).trans ((lv_osw c4 (by decide)).trans ((lv_osw c9 (by decide)).trans ((lv_osw c14 (by decide)).trans ((lv_osw c19 (by decide)).trans ((lv_osw c23 (by decide)).trans ((lv_osw c27 (by decide)).trans (rfl)))))))) (by decide) ?_
                refine lv_aload_n hx hb dX2_take_223 rfl (lv_at hl 0 rfl) ?_
                refine lv_iload_n hx hb dX2_take_224 rfl (lv_at hl 1 rfl) ?_
                obtain ⟨o31, ho31, hf⟩ := ob_e hf
                refine w_callW (b := a 5) (As := [.int p1]) (rest := []) ⟨hx, hb, hml, hown, hts⟩ (c_X2_takeByte l D cI a tb st p1 o31 ho31) (cwV 1 hts gX2_take_X2_takeByte rfl rfl rfl (by decide +kernel) ⟨Nat.le_of_ble_eq_true rfl, Nat.le_of_ble_eq_true rfl⟩) hP hK hD hZ hS (va_recv hK hP (ci := 1) (q0 := 5) rfl rfl) rfl hl.1 rfl (Nat.le_of_ble_eq_true rfl) ⟨Nat.zero_le _, Nat.zero_le _⟩ dX2_take_225 (fun H locs hP hS => ?_)
                obtain ⟨hz32, hf⟩ := tv_e hf
                exact W.zret (v := o31.1) hx hb hr hz32 (fun t ht _ => ⟨⟨o31.1, o31.2, rfl, so_p hf, p_at ht hP⟩, hS.F ht⟩) hS.2.2 dX2_take_228
set_option maxHeartbeats 4000000 in
set_option maxRecDepth 100000 in
theorem c_X2_findSpan (l : Launch) (D : va_G) (cI : ClassId) (a tb : Nat → Nat) (st : ST) (r : ST) (hf : fX2_findSpan st = some r) : MetV l yX2_findSpan wsX2_findSpan ({ frames := 2, cells := 0, slots := 0, locals := 46 }) [.ref (a 5)] D [(cI, .int)] (cw cI a) (cA a) tb st r := by
  refine met_of (cc := cX2_findSpan) (maxL := 3) (ret := none) (by decide) rfl (Nat.le_of_ble_eq_true rfl) ?_
  intro p e s m below meth c hx hb hr hml hts hown hlk hG ls hl
  have hown : s.vm.findClass RX2 = some m.cls := hown
  obtain ⟨hP, hK, hD, hZ⟩ := hG
  have hS : va_S (cA a) s.heap s.heap [] := va_S.rf
  have hl : lv_has ls 3 [(0, .ref (a 5))] := hl
  have hiX2 : ∀ w ∈ wsX20, w ∈ wsX2_findSpan := by decide +kernel
  have k19 := hts (.fieldLink RX2 19 "DayColumn$Reader" "first" "I") (by decide +kernel)
  have k22 := hts (.fieldLink RX2 22 "DayColumn$Reader" "last" "I") (by decide +kernel)
  have k43 := hts (.fieldLink RX2 43 "DayColumn$Reader" "dayOfMonth" "I") (by decide +kernel)
  have k46 := hts (.fieldLink RX2 46 "DayColumn$Reader" "month" "I") (by decide +kernel)
  have k49 := hts (.fieldLink RX2 49 "DayColumn$Reader" "year" "I") (by decide +kernel)
  have k52 := hts (.fieldLink RX2 52 "DayColumn$Reader" "weekday" "I") (by decide +kernel)
  unfold fX2_findSpan at hf
  refine lv_aload_n hx hb dX2_findSpan_0 rfl (lv_at hl 0 rfl) ?_
  refine va_get (D := D) (ci := 1) (v := .int (st.1 7)) (C := RX2) (T := TX2) (N := 9) hx hb hts hiX2 hown hK hP 5 rfl rfl 3 (by decide) k43 (fun _ h9 => h9) rfl dX2_findSpan_1 ?_
  refine lv_iconst (v := -1) hx hb dX2_findSpan_4 (by decide) ?_
  refine lv_icmp_ne (tgt := 12) hx hb dX2_findSpan_5 (by decide) (fun c1 => ?_) (fun c1 => ?_)
  · replace hf := if_f hf c1
    refine lv_iconst (v := 0) hx hb dX2_findSpan_12 (by decide) ?_
    refine lv_istore_n (lv' := [(1, .int 0), (0, .ref (a 5))]) hx hb dX2_findSpan_13 rfl hl (by decide) rfl (fun ls hl => ?_)
    refine lv_iload_n hx hb dX2_findSpan_14 rfl (lv_at hl 0 rfl) ?_
    refine lv_if_eq (tgt := 22) hx hb dX2_findSpan_15 (by decide) (fun _ => ?_) (fun c2 => absurd (by decide) c2)
    refine lv_aload_n hx hb dX2_findSpan_22 rfl (lv_at hl 1 rfl) ?_
    refine va_get (D := D) (ci := 1) (v := .int (st.1 7)) (C := RX2) (T := TX2) (N := 9) hx hb hts hiX2 hown hK hP 5 rfl rfl 3 (by decide) k43 (fun _ h9 => h9) rfl dX2_findSpan_23 ?_
    refine lv_aload_n hx hb dX2_findSpan_26 rfl (lv_at hl 1 rfl) ?_
    refine va_get (D := D) (ci := 1) (v := .int (st.1 8)) (C := RX2) (T := TX2) (N := 9) hx hb hts hiX2 hown hK hP 5 rfl rfl 4 (by decide) k46 (fun _ h9 => h9) rfl dX2_findSpan_27 ?_
    refine lv_aload_n hx hb dX2_findSpan_30 rfl (lv_at hl 1 rfl) ?_
    refine va_get (D := D) (ci := 1) (v := .int (st.1 9)) (C := RX2) (T := TX2) (N := 9) hx hb hts hiX2 hown hK hP 5 rfl rfl 5 (by decide) k49 (fun _ h9 => h9) rfl dX2_findSpan_31 ?_
    obtain ⟨o3, ho3, hf⟩ := ob_e hf
    refine w_callT (As := [.int (st.1 7), .int (st.1 8), .int (st.1 9)]) (rest := []) ⟨hx, hb, hml, hown, hts⟩ (c_X0_dayNumber l tb (st.1 7) (st.1 8) (st.1 9) o3 ho3) (va_cwS 3 hts gX2_findSpan_X0_dayNumber rfl rfl rfl (by decide +kernel) ⟨Nat.le_of_ble_eq_true rfl, Nat.le_of_ble_eq_true rfl⟩) hZ hS rfl hl.1 rfl (Nat.le_of_ble_eq_true rfl) ⟨Nat.zero_le _, Nat.zero_le _⟩ dX2_findSpan_34 ?_
    refine lv_istore_n (lv' := [(2, .int o3), (1, .int 0), (0, .ref (a 5))]) hx hb dX2_findSpan_37 rfl hl (by decide) rfl (fun ls hl => ?_)
    refine lv_iload_n hx hb dX2_findSpan_38 rfl (lv_at hl 0 rfl) ?_
    refine lv_iconst (v := -1) hx hb dX2_findSpan_39 (by decide) ?_
    refine lv_icmp_eq (tgt := 62) hx hb dX2_findSpan_40 (by decide) (fun c4 => ?_) (fun c4 => ?_)
    · replace hf := if_t hf c4
      exact W.vret hx hb hr (fun t ht _ => ⟨⟨st, rfl, so_i hf, p_at ht hP⟩, hS.F ht⟩) hS.2.2 dX2_findSpan_62
    · replace hf := if_f hf c4
      refine lv_aload_n hx hb dX2_findSpan_43 rfl (lv_at hl 2 rfl) ?_
      refine va_get (D := D) (ci := 1) (v := .int (st.1 10)) (C := RX2) (T := TX2) (N := 9) hx hb hts hiX2 hown hK hP 5 rfl rfl 6 (by decide) k52 (fun _ h9 => h9) rfl dX2_findSpan_44 ?_
      refine lv_iconst (v := -1) hx hb dX2_findSpan_47 (by decide) ?_
      refine lv_icmp_eq (tgt := 63) hx hb dX2_findSpan_48 (by decide) (fun c5 => ?_) (fun c5 => ?_)
      · replace hf := if_t hf c5
        refine lv_aload_n hx hb dX2_findSpan_63 rfl (lv_at hl 2 rfl) ?_
        refine lv_iload_n hx hb dX2_findSpan_64 rfl (lv_at hl 0 rfl) ?_
        obtain ⟨s6, es6, hf⟩ := bnd_e hf
        refine va_put (D := D) (ci := 1) (v := .int o3) (ty := .int) (C := RX2) (T := TX2) (N := 9) hx hb hts hiX2 tyX2 tyX2_ok nmX2 hown hK hP (hD st) hS 5 rfl rfl 7 (by decide) k19 (fun _ h9 => h9) rfl (by decide +kernel) rfl rfl (Nat.le_of_ble_eq_true rfl) dX2_findSpan_65 (fun H locs hP _ hS => ?_)
        have hP : va_P D vwCl (cw cI a s6) H := by rw [es6]; exact hP
        refine lv_aload_n hx hb dX2_findSpan_68 rfl (lv_at hl 2 rfl) ?_
        refine lv_iload_n hx hb dX2_findSpan_69 rfl (lv_at hl 1 rfl) ?_
        refine lv_if_eq (tgt := 91) hx hb dX2_findSpan_70 (by decide) (fun _ => ?_) (fun c7 => absurd (by decide) c7)
        refine lv_iload_n hx hb dX2_findSpan_91 rfl (lv_at hl 0 rfl) ?_
        obtain ⟨s8, es8, hf⟩ := bnd_e hf
        refine va_put (D := D) (ci := 1) (v := .int o3) (ty := .int) (C := RX2) (T := TX2) (N := 9) hx hb hts hiX2 tyX2 tyX2_ok nmX2 hown hK hP (hD s6) hS 5 rfl rfl 8 (by decide) k22 (fun _ h9 => h9) rfl (by decide +kernel) rfl rfl (Nat.le_of_ble_eq_true rfl) dX2_findSpan_92 (fun H locs hP _ hS => ?_)
        have hP : va_P D vwCl (cw cI a s8) H := by rw [es8]; exact hP
        exact W.vret hx hb hr (fun t ht _ => ⟨⟨s8, rfl, so_i hf, p_at ht hP⟩, hS.F ht⟩) hS.2.2 dX2_findSpan_95
      · replace hf := if_f hf c5
        refine lv_aload_n hx hb dX2_findSpan_51 rfl (lv_at hl 2 rfl) ?_
        refine va_get (D := D) (ci := 1) (v := .int (st.1 10)) (C := RX2) (T := TX2) (N := 9) hx hb hts hiX2 hown hK hP 5 rfl rfl 6 (by decide) k52 (fun _ h9 => h9) rfl dX2_findSpan_52 ?_
        refine lv_iload_n hx hb dX2_findSpan_55 rfl (lv_at hl 0 rfl) ?_
        obtain ⟨o9, ho9, hf⟩ := ob_e hf
        refine w_callT (As := [.int o3]) (rest := [.int (st.1 10)]) ⟨hx, hb, hml, hown, hts⟩ (c_X0_weekdayOf l tb o3 o9 ho9) (va_cwS 1 hts gX2_findSpan_X0_weekdayOf rfl rfl rfl (by decide +kernel) ⟨Nat.le_of_ble_eq_true rfl, Nat.le_of_ble_eq_true rfl⟩) hZ hS rfl hl.1 rfl (Nat.le_of_ble_eq_true rfl) ⟨Nat.zero_le _, Nat.zero_le _⟩ dX2_findSpan_56 ?_
        refine lv_icmp_eq (tgt := 63) hx hb dX2_findSpan_59 (by decide) (fun c10 => ?_) (fun c10 => ?_)
        · replace hf := if_t hf c10
          refine lv_aload_n hx hb dX2_findSpan_63 rfl (lv_at hl 2 rfl) ?_
          refine lv_iload_n hx hb dX2_findSpan_64 rfl (lv_at hl 0 rfl) ?_
          obtain ⟨s11, es11, hf⟩ := bnd_e hf
          refine va_put (D := D) (ci := 1) (v := .int o3) (ty := .int) (C := RX2) (T := TX2) (N := 9) hx hb hts hiX2 tyX2 tyX2_ok nmX2 hown hK hP (hD st) hS 5 rfl rfl 7 (by decide) k19 (fun _ h9 => h9) rfl (by decide +kernel) rfl rfl (Nat.le_of_ble_eq_true rfl) dX2_findSpan_65 (fun H locs hP _ hS => ?_)
          have hP : va_P D vwCl (cw cI a s11) H := by rw [es11]; exact hP
          refine lv_aload_n hx hb dX2_findSpan_68 rfl (lv_at hl 2 rfl) ?_
          refine lv_iload_n hx hb dX2_findSpan_69 rfl (lv_at hl 1 rfl) ?_
          refine lv_if_eq (tgt := 91) hx hb dX2_findSpan_70 (by decide) (fun _ => ?_) (fun c12 => absurd (by decide) c12)
          refine lv_iload_n hx hb dX2_findSpan_91 rfl (lv_at hl 0 rfl) ?_
          obtain ⟨s13, es13, hf⟩ := bnd_e hf
          refine va_put (D := D) (ci := 1) (v := .int o3) (ty := .int) (C := RX2) (T := TX2) (N := 9) hx hb hts hiX2 tyX2 tyX2_ok nmX2 hown hK hP (hD s11) hS 5 rfl rfl 8 (by decide) k22 (fun _ h9 => h9) rfl (by decide +kernel) rfl rfl (Nat.le_of_ble_eq_true rfl) dX2_findSpan_92 (fun H locs hP _ hS => ?_)
          have hP : va_P D vwCl (cw cI a s13) H := by rw [es13]; exact hP
          exact W.vret hx hb hr (fun t ht _ => ⟨⟨s13, rfl, so_i hf, p_at ht hP⟩, hS.F ht⟩) hS.2.2 dX2_findSpan_95
        · replace hf := if_f hf c10
          exact W.vret hx hb hr (fun t ht _ => ⟨⟨st, rfl, so_i hf, p_at ht hP⟩, hS.F ht⟩) hS.2.2 dX2_findSpan_62
  · replace hf := if_t hf c1
    refine lv_iconst (v := 1) hx hb dX2_findSpan_8 (by decide) ?_
    refine lv_goto (tgt := 13) hx hb dX2_findSpan_9 (by decide) ?_
    refine lv_istore_n (lv' := [(1, .int 1), (0, .ref (a 5))]) hx hb dX2_findSpan_13 rfl hl (by decide) rfl (fun ls hl => ?_)
    refine lv_iload_n hx hb dX2_findSpan_14 rfl (lv_at hl 0 rfl) ?_
    refine lv_if_eq (tgt := 22) hx hb dX2_findSpan_15 (by decide) (fun c14 => absurd c14 (by decide)) (fun _ => ?_)
    refine lv_iconst (v := 1) hx hb dX2_findSpan_18 (by decide) ?_
    refine lv_goto (tgt := 26) hx hb dX2_findSpan_19 (by decide) ?_
    refine lv_aload_n hx hb dX2_findSpan_26 rfl (lv_at hl 1 rfl) ?_
    refine va_get (D := D) (ci := 1) (v := .int (st.1 8)) (C := RX2) (T := TX2) (N := 9) hx hb hts hiX2 hown hK hP 5 rfl rfl 4 (by decide) k46 (fun _ h9 => h9) rfl dX2_findSpan_27 ?_
    refine lv_aload_n hx hb dX2_findSpan_30 rfl (lv_at hl 1 rfl) ?_
    refine va_get (D := D) (ci := 1) (v := .int (st.1 9)) (C := RX2) (T := TX2) (N := 9) hx hb hts hiX2 hown hK hP 5 rfl rfl 5 (by decide) k49 (fun _ h9 => h9) rfl dX2_findSpan_31 ?_
    obtain ⟨o15, ho15, hf⟩ := ob_e hf
    refine w_callT (As := [.int 1, .int (st.1 8), .int (st.1 9)]) (rest := []) ⟨hx, hb, hml, hown, hts⟩ (c_X0_dayNumber l tb 1 (st.1 8) (st.1 9) o15 ho15) (va_cwS 3 hts gX2_findSpan_X0_dayNumber rfl rfl rfl (by decide +kernel) ⟨Nat.le_of_ble_eq_true rfl, Nat.le_of_ble_eq_true rfl⟩) hZ hS rfl hl.1 rfl (Nat.le_of_ble_eq_true rfl) ⟨Nat.zero_le _, Nat.zero_le _⟩ dX2_findSpan_34 ?_
    refine lv_istore_n (lv' := [(2, .int o15), (1, .int 1), (0, .ref (a 5))]) hx hb dX2_findSpan_37 rfl hl (by decide) rfl (fun ls hl => ?_)
    refine lv_iload_n hx hb dX2_findSpan_38 rfl (lv_at hl 0 rfl) ?_
    refine lv_iconst (v := -1) hx hb dX2_findSpan_39 (by decide) ?_
    refine lv_icmp_eq (tgt := 62) hx hb dX2_findSpan_40 (by decide) (fun c16 => ?_) (fun c16 => ?_)
    · replace hf := if_t hf c16
      exact W.vret hx hb hr (fun t ht _ => ⟨⟨st, rfl, so_i hf, p_at ht hP⟩, hS.F ht⟩) hS.2.2 dX2_findSpan_62
    · replace hf := if_f hf c16
      refine lv_aload_n hx hb dX2_findSpan_43 rfl (lv_at hl 2 rfl) ?_
      refine va_get (D := D) (ci := 1) (v := .int (st.1 10)) (C := RX2) (T := TX2) (N := 9) hx hb hts hiX2 hown hK hP 5 rfl rfl 6 (by decide) k52 (fun _ h9 => h9) rfl dX2_findSpan_44 ?_
      refine lv_iconst (v := -1) hx hb dX2_findSpan_47 (by decide) ?_
      refine lv_icmp_eq (tgt := 63) hx hb dX2_findSpan_48 (by decide) (fun c17 => ?_) (fun c17 => ?_)
      · replace hf := if_t hf c17
        refine lv_aload_n hx hb dX2_findSpan_63 rfl (lv_at hl 2 rfl) ?_
        refine lv_iload_n hx hb dX2_findSpan_64 rfl (lv_at hl 0 rfl) ?_
        obtain ⟨s18, es18, hf⟩ := bnd_e hf
        refine va_put (D := D) (ci := 1) (v := .int o15) (ty := .int) (C := RX2) (T := TX2) (N := 9) hx hb hts hiX2 tyX2 tyX2_ok nmX2 hown hK hP (hD st) hS 5 rfl rfl 7 (by decide) k19 (fun _ h9 => h9) rfl (by decide +kernel) rfl rfl (Nat.le_of_ble_eq_true rfl) dX2_findSpan_65 (fun H locs hP _ hS => ?_)
        have hP : va_P D vwCl (cw cI a s18) H := by rw [es18]; exact hP
        refine lv_aload_n hx hb dX2_findSpan_68 rfl (lv_at hl 2 rfl) ?_
        refine lv_iload_n hx hb dX2_findSpan_69 rfl (lv_at hl 1 rfl) ?_
        refine lv_if_eq (tgt := 91) hx hb dX2_findSpan_70 (by decide) (fun c19 => absurd c19 (by decide)) (fun _ => ?_)
        refine lv_iload_n hx hb dX2_findSpan_73 rfl (lv_at hl 0 rfl) ?_
        refine lv_aload_n hx hb dX2_findSpan_74 rfl (lv_at hl 2 rfl) ?_
        refine va_get (D := D) (ci := 1) (v := .int (s18.1 8)) (C := RX2) (T := TX2) (N := 9) hx hb hts hiX2 hown hK hP 5 rfl rfl 4 (by decide) k46 (fun _ h9 => h9) rfl dX2_findSpan_75 ?_
        refine lv_aload_n hx hb dX2_findSpan_78 rfl (lv_at hl 2 rfl) ?_
        refine va_get (D := D) (ci := 1) (v := .int (s18.1 9)) (C := RX2) (T := TX2) (N := 9) hx hb hts hiX2 hown hK hP 5 rfl rfl 5 (by decide) k49 (fun _ h9 => h9) rfl dX2_findSpan_79 ?_
        obtain ⟨o20, ho20, hf⟩ := ob_e hf
        refine w_callT (As := [.int (s18.1 8), .int (s18.1 9)]) (rest := [.int o15, .ref (a 5)]) ⟨hx, hb, hml, hown, hts⟩ (c_X0_monthLength l tb (s18.1 8) (s18.1 9) o20 ho20) (va_cwS 2 hts gX2_findSpan_X0_monthLength rfl rfl rfl (by decide +kernel) ⟨Nat.le_of_ble_eq_true rfl, Nat.le_of_ble_eq_true rfl⟩) hZ hS rfl hl.1 rfl (Nat.le_of_ble_eq_true rfl) ⟨Nat.zero_le _, Nat.zero_le _⟩ dX2_findSpan_82 ?_
        refine lv_iadd hx hb dX2_findSpan_85 ?_
        refine lv_iconst (v := 1) hx hb dX2_findSpan_86 (by decide) ?_
        refine lv_isub hx hb dX2_findSpan_87 ?_
        refine lv_goto (tgt := 92) hx hb dX2_findSpan_88 (by decide) ?_
        obtain ⟨x21, ex21, hf⟩ := bnd_e hf
        refine w_nm ex21 ?_
        obtain ⟨s22, es22, hf⟩ := bnd_e hf
        refine va_put (D := D) (ci := 1) (v := .int x21) (ty := .int) (C := RX2) (T := TX2) (N := 9) hx hb hts hiX2 tyX2 tyX2_ok nmX2 hown hK hP (hD s18) hS 5 rfl rfl 8 (by decide) k22 (fun _ h9 => h9) rfl (by decide +kernel) rfl rfl (Nat.le_of_ble_eq_true rfl) dX2_findSpan_92 (fun H locs hP _ hS => ?_)
        have hP : va_P D vwCl (cw cI a s22) H := by rw [es22]; exact hP
        exact W.vret hx hb hr (fun t ht _ => ⟨⟨s22, rfl, so_i hf, p_at ht hP⟩, hS.F ht⟩) hS.2.2 dX2_findSpan_95
      · replace hf := if_f hf c17
        refine lv_aload_n hx hb dX2_findSpan_51 rfl (lv_at hl 2 rfl) ?_
        refine va_get (D := D) (ci := 1) (v := .int (st.1 10)) (C := RX2) (T := TX2) (N := 9) hx hb hts hiX2 hown hK hP 5 rfl rfl 6 (by decide) k52 (fun _ h9 => h9) rfl dX2_findSpan_52 ?_
        refine lv_iload_n hx hb dX2_findSpan_55 rfl (lv_at hl 0 rfl) ?_
        obtain ⟨o23, ho23, hf⟩ := ob_e hf
        refine w_callT (As := [.int o15]) (rest := [.int (st.1 10)]) ⟨hx, hb, hml, hown, hts⟩ (c_X0_weekdayOf l tb o15 o23 ho23) (va_cwS 1 hts gX2_findSpan_X0_weekdayOf rfl rfl rfl (by decide +kernel) ⟨Nat.le_of_ble_eq_true rfl, Nat.le_of_ble_eq_true rfl⟩) hZ hS rfl hl.1 rfl (Nat.le_of_ble_eq_true rfl) ⟨Nat.zero_le _, Nat.zero_le _⟩ dX2_findSpan_56 ?_
        refine lv_icmp_eq (tgt := 63) hx hb dX2_findSpan_59 (by decide) (fun c24 => ?_) (fun c24 => ?_)
        · replace hf := if_t hf c24
          refine lv_aload_n hx hb dX2_findSpan_63 rfl (lv_at hl 2 rfl) ?_
          refine lv_iload_n hx hb dX2_findSpan_64 rfl (lv_at hl 0 rfl) ?_
          obtain ⟨s25, es25, hf⟩ := bnd_e hf
          refine va_put (D := D) (ci := 1) (v := .int o15) (ty := .int) (C := RX2) (T := TX2) (N := 9) hx hb hts hiX2 tyX2 tyX2_ok nmX2 hown hK hP (hD st) hS 5 rfl rfl 7 (by decide) k19 (fun _ h9 => h9) rfl (by decide +kernel) rfl rfl (Nat.le_of_ble_eq_true rfl) dX2_findSpan_65 (fun H locs hP _ hS => ?_)
          have hP : va_P D vwCl (cw cI a s25) H := by rw [es25]; exact hP
          refine lv_aload_n hx hb dX2_findSpan_68 rfl (lv_at hl 2 rfl) ?_
          refine lv_iload_n hx hb dX2_findSpan_69 rfl (lv_at hl 1 rfl) ?_
          refine lv_if_eq (tgt := 91) hx hb dX2_findSpan_70 (by decide) (fun c26 => absurd c26 (by decide)) (fun _ => ?_)
          refine lv_iload_n hx hb dX2_findSpan_73 rfl (lv_at hl 0 rfl) ?_
          refine lv_aload_n hx hb dX2_findSpan_74 rfl (lv_at hl 2 rfl) ?_
          refine va_get (D := D) (ci := 1) (v := .int (s25.1 8)) (C := RX2) (T := TX2) (N := 9) hx hb hts hiX2 hown hK hP 5 rfl rfl 4 (by decide) k46 (fun _ h9 => h9) rfl dX2_findSpan_75 ?_
          refine lv_aload_n hx hb dX2_findSpan_78 rfl (lv_at hl 2 rfl) ?_
          refine va_get (D := D) (ci := 1) (v := .int (s25.1 9)) (C := RX2) (T := TX2) (N := 9) hx hb hts hiX2 hown hK hP 5 rfl rfl 5 (by decide) k49 (fun _ h9 => h9) rfl dX2_findSpan_79 ?_
          obtain ⟨o27, ho27, hf⟩ := ob_e hf
          refine w_callT (As := [.int (s25.1 8), .int (s25.1 9)]) (rest := [.int o15, .ref (a 5)]) ⟨hx, hb, hml, hown, hts⟩ (c_X0_monthLength l tb (s25.1 8) (s25.1 9) o27 ho27) (va_cwS 2 hts gX2_findSpan_X0_monthLength rfl rfl rfl (by decide +kernel) ⟨Nat.le_of_ble_eq_true rfl, Nat.le_of_ble_eq_true rfl⟩) hZ hS rfl hl.1 rfl (Nat.le_of_ble_eq_true rfl) ⟨Nat.zero_le _, Nat.zero_le _⟩ dX2_findSpan_82 ?_
          refine lv_iadd hx hb dX2_findSpan_85 ?_
          refine lv_iconst (v := 1) hx hb dX2_findSpan_86 (by decide) ?_
          refine lv_isub hx hb dX2_findSpan_87 ?_
          refine lv_goto (tgt := 92) hx hb dX2_findSpan_88 (by decide) ?_
          obtain ⟨x28, ex28, hf⟩ := bnd_e hf
          refine w_nm ex28 ?_
          obtain ⟨s29, es29, hf⟩ := bnd_e hf
          refine va_put (D := D) (ci := 1) (v := .int x28) (ty := .int) (C := RX2) (T := TX2) (N := 9) hx hb hts hiX2 tyX2 tyX2_ok nmX2 hown hK hP (hD s25) hS 5 rfl rfl 8 (by decide) k22 (fun _ h9 => h9) rfl (by decide +kernel) rfl rfl (Nat.le_of_ble_eq_true rfl) dX2_findSpan_92 (fun H locs hP _ hS => ?_)
          have hP : va_P D vwCl (cw cI a s29) H := by rw [es29]; exact hP
          exact W.vret hx hb hr (fun t ht _ => ⟨⟨s29, rfl, so_i hf, p_at ht hP⟩, hS.F ht⟩) hS.2.2 dX2_findSpan_95
        · replace hf := if_f hf c24
          exact W.vret hx hb hr (fun t ht _ => ⟨⟨st, rfl, so_i hf, p_at ht hP⟩, hS.F ht⟩) hS.2.2 dX2_findSpan_62
set_option maxHeartbeats 4000000 in
set_option maxRecDepth 100000 in
theorem c_X2_scan (l : Launch) (D : va_G) (cI : ClassId) (a tb : Nat → Nat) (st : ST) (p2 p3 : Int32) (r : ST) (hf : fX2_scan st p2 p3 = some r) : MetV l yX2_scan wsX2_scan ({ frames := 3, cells := 0, slots := 0, locals := 70 }) [.ref (a 5), .ref (a 2), .int p2, .int p3] D [(cI, .int)] (cw cI a) (cA a) tb st r := by
  refine met_of (cc := cX2_scan) (maxL := 7) (ret := none) (by decide) rfl (Nat.le_of_ble_eq_true rfl) ?_
  intro p e s m below meth c hx hb hr hml hts hown hlk hG ls hl
  have hown : s.vm.findClass RX2 = some m.cls := hown
  obtain ⟨hP, hK, hD, hZ⟩ := hG
  have hS : va_S (cA a) s.heap s.heap [] := va_S.rf
  have hl : lv_has ls 7 [(0, .ref (a 5)), (1, .ref (a 2)), (2, .int p2), (3, .int p3)] := hl
  have hiX2 : ∀ w ∈ wsX20, w ∈ wsX2_scan := by decide +kernel
  have k15 := hts (.fieldLink RX2 15 "DayColumn$Reader" "length" "I") (by decide +kernel)
  have k19 := hts (.fieldLink RX2 19 "DayColumn$Reader" "first" "I") (by decide +kernel)
  have k22 := hts (.fieldLink RX2 22 "DayColumn$Reader" "last" "I") (by decide +kernel)
  have k40 := hts (.fieldLink RX2 40 "DayColumn$Reader" "at" "I") (by decide +kernel)
  have k43 := hts (.fieldLink RX2 43 "DayColumn$Reader" "dayOfMonth" "I") (by decide +kernel)
  have k46 := hts (.fieldLink RX2 46 "DayColumn$Reader" "month" "I") (by decide +kernel)
  have k49 := hts (.fieldLink RX2 49 "DayColumn$Reader" "year" "I") (by decide +kernel)
  have k52 := hts (.fieldLink RX2 52 "DayColumn$Reader" "weekday" "I") (by decide +kernel)
  have l48 : ∀ (n : Nat) (x_2 x_3 x_4 x_5 x_6 : Int32) (st : ST) (H : Heap) (locs : List Loc) (ls : Array Slot), va_P D vwCl (cw cI a st) H → va_S (cA a) s.heap H locs → lv_has ls 7 [(0, .ref (a 5)), (1, .ref (a 2)), (2, .int x_2), (3, .int x_3), (4, .int x_4), (5, .int x_5), (6, .int x_6)] → fX2_scan_48 n st x_2 x_3 x_4 x_5 x_6 = some r → W p l e ({ frames := 3, cells := 0, slots := 0, locals := 70 }) s m ([.ref (a 5), .ref (a 2), .int p2, .int p3] : List Value).toArray below meth c H locs 0 0 (MQ below (va_Qv (fun (u : ST) => u = r) (fun u t => va_P D vwCl (cw cI a u) t.heap) (cA a)) ([.ref (a 5), .ref (a 2), .int p2, .int p3] : List Value).toArray s 0 0 (cA a)) (F0 m 48 ls []) := by
    intro n
    induction n with
    | zero =>
      intro x_2 x_3 x_4 x_5 x_6 st H locs ls hP hS hl hf
      cases hf
    | succ n ih48 =>
      intro x_2 x_3 x_4 x_5 x_6 st H locs ls hP hS hl hf
      unfold fX2_scan_48 at hf
      refine lv_iload hx hb dX2_scan_48 (lv_at hl 6 rfl) ?_
      refine lv_iload hx hb dX2_scan_50 (lv_at hl 4 rfl) ?_
      refine lv_icmp_ge (tgt := 80) hx hb dX2_scan_52 (by decide) (fun c1 => ?_) (fun c1 => ?_)
      · replace hf := if_t hf c1
        refine lv_iload hx hb dX2_scan_80 (lv_at hl 5 rfl) ?_
        refine lv_if_eq (tgt := 100) hx hb dX2_scan_82 (by decide) (fun c2 => ?_) (fun c2 => ?_)
        · replace hf := if_t hf c2
          exact W.vret hx hb hr (fun t ht _ => ⟨⟨st, rfl, so_i hf, p_at ht hP⟩, hS.F ht⟩) hS.2.2 dX2_scan_100
        · replace hf := if_f hf c2
          refine lv_aload_n hx hb dX2_scan_85 rfl (lv_at hl 0 rfl) ?_
          refine va_get (D := D) (ci := 1) (v := .int (st.1 6)) (C := RX2) (T := TX2) (N := 9) hx hb hts hiX2 hown hK hP 5 rfl rfl 2 (by decide) k40 (fun _ h9 => h9) rfl dX2_scan_86 ?_
          refine lv_aload_n hx hb dX2_scan_89 rfl (lv_at hl 0 rfl) ?_
          refine va_get (D := D) (ci := 1) (v := .int (st.1 5)) (C := RX2) (T := TX2) (N := 9) hx hb hts hiX2 hown hK hP 5 rfl rfl 1 (by decide) k15 (fun _ h9 => h9) rfl dX2_scan_90 ?_
          refine lv_icmp_ne (tgt := 100) hx hb dX2_scan_93 (by decide) (fun c3 => ?_) (fun c3 => ?_)
          · replace hf := if_f hf c3
            exact W.vret hx hb hr (fun t ht _ => ⟨⟨st, rfl, so_i hf, p_at ht hP⟩, hS.F ht⟩) hS.2.2 dX2_scan_100
          · replace hf := if_t hf c3
            refine lv_aload_n hx hb dX2_scan_96 rfl (lv_at hl 0 rfl) ?_
            obtain ⟨o4, ho4, hf⟩ := ob_e hf
            refine w_callV (b := a 5) (As := []) (rest := []) ⟨hx, hb, hml, hown, hts⟩ (c_X2_findSpan l D cI a tb st o4 ho4) (cwV 0 hts gX2_scan_X2_findSpan rfl rfl rfl (by decide +kernel) ⟨Nat.le_of_ble_eq_true rfl, Nat.le_of_ble_eq_true rfl⟩) hP hK hD hZ hS (va_recv hK hP (ci := 1) (q0 := 5) rfl rfl) rfl hl.1 rfl (Nat.le_of_ble_eq_true rfl) ⟨Nat.zero_le _, Nat.zero_le _⟩ dX2_scan_97 (fun H locs hP hS => ?_)
            exact W.vret hx hb hr (fun t ht _ => ⟨⟨o4, rfl, so_i hf, p_at ht hP⟩, hS.F ht⟩) hS.2.2 dX2_scan_100
      · replace hf := if_f hf c1
        refine lv_iload hx hb dX2_scan_55 (lv_at hl 5 rfl) ?_
        refine lv_if_eq (tgt := 80) hx hb dX2_scan_57 (by decide) (fun c5 => ?_) (fun c5 => ?_)
        · replace hf := if_t hf c5
          refine lv_iload hx hb dX2_scan_80 (lv_at hl 5 rfl) ?_
          refine lv_if_eq (tgt := 100) hx hb dX2_scan_82 (by decide) (fun c6 => ?_) (fun c6 => ?_)
          · replace hf := if_t hf c6
            exact W.vret hx hb hr (fun t ht _ => ⟨⟨st, rfl, so_i hf, p_at ht hP⟩, hS.F ht⟩) hS.2.2 dX2_scan_100
          · replace hf := if_f hf c6
            refine lv_aload_n hx hb dX2_scan_85 rfl (lv_at hl 0 rfl) ?_
            refine va_get (D := D) (ci := 1) (v := .int (st.1 6)) (C := RX2) (T := TX2) (N := 9) hx hb hts hiX2 hown hK hP 5 rfl rfl 2 (by decide) k40 (fun _ h9 => h9) rfl dX2_scan_86 ?_
            refine lv_aload_n hx hb dX2_scan_89 rfl (lv_at hl 0 rfl) ?_
            refine va_get (D := D) (ci := 1) (v := .int (st.1 5)) (C := RX2) (T := TX2) (N := 9) hx hb hts hiX2 hown hK hP 5 rfl rfl 1 (by decide) k15 (fun _ h9 => h9) rfl dX2_scan_90 ?_
            refine lv_icmp_ne (tgt := 100) hx hb dX2_scan_93 (by decide) (fun c7 => ?_) (fun c7 => ?_)
            · replace hf := if_f hf c7
              exact W.vret hx hb hr (fun t ht _ => ⟨⟨st, rfl, so_i hf, p_at ht hP⟩, hS.F ht⟩) hS.2.2 dX2_scan_100
            · replace hf := if_t hf c7
              refine lv_aload_n hx hb dX2_scan_96 rfl (lv_at hl 0 rfl) ?_
              obtain ⟨o8, ho8, hf⟩ := ob_e hf
              refine w_callV (b := a 5) (As := []) (rest := []) ⟨hx, hb, hml, hown, hts⟩ (c_X2_findSpan l D cI a tb st o8 ho8) (cwV 0 hts gX2_scan_X2_findSpan rfl rfl rfl (by decide +kernel) ⟨Nat.le_of_ble_eq_true rfl, Nat.le_of_ble_eq_true rfl⟩) hP hK hD hZ hS (va_recv hK hP (ci := 1) (q0 := 5) rfl rfl) rfl hl.1 rfl (Nat.le_of_ble_eq_true rfl) ⟨Nat.zero_le _, Nat.zero_le _⟩ dX2_scan_97 (fun H locs hP hS => ?_)
              exact W.vret hx hb hr (fun t ht _ => ⟨⟨o8, rfl, so_i hf, p_at ht hP⟩, hS.F ht⟩) hS.2.2 dX2_scan_100
        · replace hf := if_f hf c5
          refine lv_aload_n hx hb dX2_scan_60 rfl (lv_at hl 0 rfl) ?_
          refine lv_aload_n hx hb dX2_scan_61 rfl (lv_at hl 1 rfl) ?_
          refine lv_iload_n hx hb dX2_scan_62 rfl (lv_at hl 2 rfl) ?_
          refine lv_iload hx hb dX2_scan_63 (lv_at hl 6 rfl) ?_
          obtain ⟨o9, ho9, hf⟩ := ob_e hf
          refine w_callR (b := a 2) (As := [.int x_2, .int x_6]) (rest := [.ref (a 5)]) ⟨hx, hb, hml, hown, hts⟩ (c_X5_byteAt_p l D cI a tb st x_2 x_6 o9 ho9) (cwV 2 hts gX2_scan_X5_byteAt rfl rfl rfl (by decide +kernel) ⟨Nat.le_of_ble_eq_true rfl, Nat.le_of_ble_eq_true rfl⟩) hP hK hD hZ hS (va_recv hK hP (ci := 4) (q0 := 2) rfl rfl) rfl hl.1 rfl (Nat.le_of_ble_eq_true rfl) ⟨Nat.zero_le _, Nat.zero_le _⟩ dX2_scan_65 ?_
          refine lv_iload_n hx hb dX2_scan_68 rfl (lv_at hl 3 rfl) ?_
          obtain ⟨o10, ho10, hf⟩ := ob_e hf
          refine w_callW (b := a 5) (As := [.int o9, .int x_3]) (rest := []) ⟨hx, hb, hml, hown, hts⟩ (c_X2_take l D cI a tb st o9 x_3 o10 ho10) (cwV 2 hts gX2_scan_X2_take rfl rfl rfl (by decide +kernel) ⟨Nat.le_of_ble_eq_true rfl, Nat.le_of_ble_eq_true rfl⟩) hP hK hD hZ hS (va_recv hK hP (ci := 1) (q0 := 5) rfl rfl) rfl hl.1 rfl (Nat.le_of_ble_eq_true rfl) ⟨Nat.zero_le _, Nat.zero_le _⟩ dX2_scan_69 (fun H locs hP hS => ?_)
          refine lv_istore (lv' := [(5, .int o10.1), (0, .ref (a 5)), (1, .ref (a 2)), (2, .int x_2), (3, .int x_3), (4, .int x_4), (6, .int x_6)]) hx hb dX2_scan_72 hl (by decide) rfl (fun ls hl => ?_)
          obtain ⟨x11, ex11, hf⟩ := bnd_e hf
          refine lv_iinc (v := x11) (lv' := [(6, .int x11), (5, .int o10.1), (0, .ref (a 5)), (1, .ref (a 2)), (2, .int x_2), (3, .int x_3), (4, .int x_4)]) hx hb dX2_scan_74 hl (k := 6) rfl (by rw [ex11]; rfl) (by decide) rfl (fun ls hl => ?_)
          refine lv_goto (tgt := 48) hx hb dX2_scan_77 (by decide) ?_
          exact ih48 x_2 x_3 x_4 o10.1 x11 o10.2 _ _ _ hP hS (lv_sub hl [2, 3, 4, 5, 6, 1, 0] rfl) hf
  unfold fX2_scan at hf
  refine lv_aload_n hx hb dX2_scan_0 rfl (lv_at hl 0 rfl) ?_
  refine lv_iconst (v := 0) hx hb dX2_scan_1 (by decide) ?_
  obtain ⟨s12, es12, hf⟩ := bnd_e hf
  refine va_put (D := D) (ci := 1) (v := .int 0) (ty := .int) (C := RX2) (T := TX2) (N := 9) hx hb hts hiX2 tyX2 tyX2_ok nmX2 hown hK hP (hD st) hS 5 rfl rfl 2 (by decide) k40 (fun _ h9 => h9) rfl (by decide +kernel) rfl rfl (Nat.le_of_ble_eq_true rfl) dX2_scan_2 (fun H locs hP _ hS => ?_)
  have hP : va_P D vwCl (cw cI a s12) H := by rw [es12]; exact hP
  refine lv_aload_n hx hb dX2_scan_5 rfl (lv_at hl 0 rfl) ?_
  refine lv_iconst (v := -1) hx hb dX2_scan_6 (by decide) ?_
  obtain ⟨s13, es13, hf⟩ := bnd_e hf
  refine va_put (D := D) (ci := 1) (v := .int (-1)) (ty := .int) (C := RX2) (T := TX2) (N := 9) hx hb hts hiX2 tyX2 tyX2_ok nmX2 hown hK hP (hD s12) hS 5 rfl rfl 3 (by decide) k43 (fun _ h9 => h9) rfl (by decide +kernel) rfl rfl (Nat.le_of_ble_eq_true rfl) dX2_scan_7 (fun H locs hP _ hS => ?_)
  have hP : va_P D vwCl (cw cI a s13) H := by rw [es13]; exact hP
  refine lv_aload_n hx hb dX2_scan_10 rfl (lv_at hl 0 rfl) ?_
  refine lv_iconst (v := -1) hx hb dX2_scan_11 (by decide) ?_
  obtain ⟨s14, es14, hf⟩ := bnd_e hf
  refine va_put (D := D) (ci := 1) (v := .int (-1)) (ty := .int) (C := RX2) (T := TX2) (N := 9) hx hb hts hiX2 tyX2 tyX2_ok nmX2 hown hK hP (hD s13) hS 5 rfl rfl 4 (by decide) k46 (fun _ h9 => h9) rfl (by decide +kernel) rfl rfl (Nat.le_of_ble_eq_true rfl) dX2_scan_12 (fun H locs hP _ hS => ?_)
  have hP : va_P D vwCl (cw cI a s14) H := by rw [es14]; exact hP
  refine lv_aload_n hx hb dX2_scan_15 rfl (lv_at hl 0 rfl) ?_
  refine lv_iconst (v := -1) hx hb dX2_scan_16 (by decide) ?_
  obtain ⟨s15, es15, hf⟩ := bnd_e hf
  refine va_put (D := D) (ci := 1) (v := .int (-1)) (ty := .int) (C := RX2) (T := TX2) (N := 9) hx hb hts hiX2 tyX2 tyX2_ok nmX2 hown hK hP (hD s14) hS 5 rfl rfl 5 (by decide) k49 (fun _ h9 => h9) rfl (by decide +kernel) rfl rfl (Nat.le_of_ble_eq_true rfl) dX2_scan_17 (fun H locs hP _ hS => ?_)
  have hP : va_P D vwCl (cw cI a s15) H := by rw [es15]; exact hP
  refine lv_aload_n hx hb dX2_scan_20 rfl (lv_at hl 0 rfl) ?_
  refine lv_iconst (v := -1) hx hb dX2_scan_21 (by decide) ?_
  obtain ⟨s16, es16, hf⟩ := bnd_e hf
  refine va_put (D := D) (ci := 1) (v := .int (-1)) (ty := .int) (C := RX2) (T := TX2) (N := 9) hx hb hts hiX2 tyX2 tyX2_ok nmX2 hown hK hP (hD s15) hS 5 rfl rfl 6 (by decide) k52 (fun _ h9 => h9) rfl (by decide +kernel) rfl rfl (Nat.le_of_ble_eq_true rfl) dX2_scan_22 (fun H locs hP _ hS => ?_)
  have hP : va_P D vwCl (cw cI a s16) H := by rw [es16]; exact hP
  refine lv_aload_n hx hb dX2_scan_25 rfl (lv_at hl 0 rfl) ?_
  refine lv_iconst (v := -1) hx hb dX2_scan_26 (by decide) ?_
  obtain ⟨s17, es17, hf⟩ := bnd_e hf
  refine va_put (D := D) (ci := 1) (v := .int (-1)) (ty := .int) (C := RX2) (T := TX2) (N := 9) hx hb hts hiX2 tyX2 tyX2_ok nmX2 hown hK hP (hD s16) hS 5 rfl rfl 7 (by decide) k19 (fun _ h9 => h9) rfl (by decide +kernel) rfl rfl (Nat.le_of_ble_eq_true rfl) dX2_scan_27 (fun H locs hP _ hS => ?_)
  have hP : va_P D vwCl (cw cI a s17) H := by rw [es17]; exact hP
  refine lv_aload_n hx hb dX2_scan_30 rfl (lv_at hl 0 rfl) ?_
  refine lv_iconst (v := -1) hx hb dX2_scan_31 (by decide) ?_
  obtain ⟨s18, es18, hf⟩ := bnd_e hf
  refine va_put (D := D) (ci := 1) (v := .int (-1)) (ty := .int) (C := RX2) (T := TX2) (N := 9) hx hb hts hiX2 tyX2 tyX2_ok nmX2 hown hK hP (hD s17) hS 5 rfl rfl 8 (by decide) k22 (fun _ h9 => h9) rfl (by decide +kernel) rfl rfl (Nat.le_of_ble_eq_true rfl) dX2_scan_32 (fun H locs hP _ hS => ?_)
  have hP : va_P D vwCl (cw cI a s18) H := by rw [es18]; exact hP
  refine lv_aload_n hx hb dX2_scan_35 rfl (lv_at hl 1 rfl) ?_
  refine lv_iload_n hx hb dX2_scan_36 rfl (lv_at hl 2 rfl) ?_
  obtain ⟨o19, ho19, hf⟩ := ob_e hf
  refine w_callR (b := a 2) (As := [.int p2]) (rest := []) ⟨hx, hb, hml, hown, hts⟩ (c_X5_lengthOf_p l D cI a tb s18 p2 o19 ho19) (cwV 1 hts gX2_scan_X5_lengthOf rfl rfl rfl (by decide +kernel) ⟨Nat.le_of_ble_eq_true rfl, Nat.le_of_ble_eq_true rfl⟩) hP hK hD hZ hS (va_recv hK hP (ci := 4) (q0 := 2) rfl rfl) rfl hl.1 rfl (Nat.le_of_ble_eq_true rfl) ⟨Nat.zero_le _, Nat.zero_le _⟩ dX2_scan_37 ?_
  refine lv_istore (lv' := [(4, .int o19), (0, .ref (a 5)), (1, .ref (a 2)), (2, .int p2), (3, .int p3)]) hx hb dX2_scan_40 hl (by decide) rfl (fun ls hl => ?_)
  refine lv_iconst (v := 1) hx hb dX2_scan_42 (by decide) ?_
  refine lv_istore (lv' := [(5, .int 1), (4, .int o19), (0, .ref (a 5)), (1, .ref (a 2)), (2, .int p2), (3, .int p3)]) hx hb dX2_scan_43 hl (by decide) rfl (fun ls hl => ?_)
  refine lv_iconst (v := 0) hx hb dX2_scan_45 (by decide) ?_
  refine lv_istore (lv' := [(6, .int 0), (5, .int 1), (4, .int o19), (0, .ref (a 5)), (1, .ref (a 2)), (2, .int p2), (3, .int p3)]) hx hb dX2_scan_46 hl (by decide) rfl (fun ls hl => ?_)
  exact l48 1000 p2 p3 o19 1 0 s18 _ _ _ hP hS (lv_sub hl [3, 4, 5, 6, 2, 1, 0] rfl) hf
