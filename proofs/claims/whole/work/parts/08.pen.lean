set_option maxHeartbeats 4000000 in
set_option maxRecDepth 100000 in
theorem c_X1_byteAt (l : Launch) (D : va_G) (cI : ClassId) (a tb : Nat → Nat) (st : ST) (p1 : Int32) (r : Int32) (hf : fX1_byteAt st p1 = some r) : MetR l yX1_byteAt wsX1_byteAt ({ frames := 0, cells := 0, slots := 0, locals := 0 }) [.ref (a 7), .int p1] D [(cI, .int)] (cw cI a) (cA a) tb st r := by
  refine met_of (cc := cX1_byteAt) (maxL := 2) (ret := (some .int)) (by decide) rfl (Nat.le_of_ble_eq_true rfl) ?_
  intro p e s m below meth c hx hb hr hml hts hown hlk hG ls hl
  have hown : s.vm.findClass RX1 = some m.cls := hown
  obtain ⟨hP, hK, hD, hZ⟩ := hG
  have hS : va_S (cA a) s.heap s.heap [] := va_S.rf
  have hl : lv_has ls 2 [(0, .ref (a 7)), (1, .int p1)] := hl
  have hiX1 : ∀ w ∈ wsX10, w ∈ wsX1_byteAt := by decide +kernel
  have k11 := hts (.fieldLink RX1 11 "DayColumn$Pen" "bytes" "[I") (by decide +kernel)
  have k15 := hts (.fieldLink RX1 15 "DayColumn$Pen" "length" "I") (by decide +kernel)
  unfold fX1_byteAt at hf
  refine lv_iload_n hx hb dX1_byteAt_0 rfl (lv_at hl 1 rfl) ?_
  refine lv_if_lt (tgt := 12) hx hb dX1_byteAt_1 (by decide) (fun c1 => ?_) (fun c1 => ?_)
  · replace hf := if_t hf c1
    refine lv_iconst (v := -1) hx hb dX1_byteAt_12 (by decide) ?_
    refine lv_goto (tgt := 22) hx hb dX1_byteAt_13 (by decide) ?_
    exact W.iret (v := (-1)) hx hb hr (fun t ht _ => ⟨(-1), rfl, so_i hf, ht⟩) (fun _ h => by cases h) dX1_byteAt_22
  · replace hf := if_f hf c1
    refine lv_iload_n hx hb dX1_byteAt_4 rfl (lv_at hl 1 rfl) ?_
    refine lv_aload_n hx hb dX1_byteAt_5 rfl (lv_at hl 0 rfl) ?_
    refine va_get (D := D) (ci := 0) (v := .int (st.1 15)) (C := RX1) (T := TX1) (N := 2) hx hb hts hiX1 hown hK hP 7 rfl rfl 1 (by decide) k15 (fun _ h9 => h9) rfl dX1_byteAt_6 ?_
    refine lv_icmp_lt (tgt := 16) hx hb dX1_byteAt_9 (by decide) (fun c2 => ?_) (fun c2 => ?_)
    · replace hf := if_t hf c2
      refine lv_aload_n hx hb dX1_byteAt_16 rfl (lv_at hl 0 rfl) ?_
      refine va_get (D := D) (ci := 0) (v := .ref (a 23)) (C := RX1) (T := TX1) (N := 2) hx hb hts hiX1 hown hK hP 7 rfl rfl 0 (by decide) k11 (fun _ h9 => h9) rfl dX1_byteAt_17 ?_
      refine lv_iload_n hx hb dX1_byteAt_20 rfl (lv_at hl 1 rfl) ?_
      obtain ⟨hi3, hf⟩ := ix_e hf
      refine va_iald hx hb hK hP 23 0 rfl rfl hi3 dX1_byteAt_21 ?_
      exact W.iret (v := (st.2 15 (Int32.toNatClampNeg p1))) hx hb hr (fun t ht _ => ⟨(st.2 15 (Int32.toNatClampNeg p1)), rfl, so_i hf, ht⟩) (fun _ h => by cases h) dX1_byteAt_22
    · replace hf := if_f hf c2
      refine lv_iconst (v := -1) hx hb dX1_byteAt_12 (by decide) ?_
      refine lv_goto (tgt := 22) hx hb dX1_byteAt_13 (by decide) ?_
      exact W.iret (v := (-1)) hx hb hr (fun t ht _ => ⟨(-1), rfl, so_i hf, ht⟩) (fun _ h => by cases h) dX1_byteAt_22
set_option maxHeartbeats 4000000 in
set_option maxRecDepth 100000 in
theorem c_X1_putByte (l : Launch) (D : va_G) (cI : ClassId) (a tb : Nat → Nat) (st : ST) (p1 : Int32) (r : ST) (hf : fX1_putByte st p1 = some r) : MetV l yX1_putByte wsX1_putByte ({ frames := 0, cells := 0, slots := 0, locals := 0 }) [.ref (a 7), .int p1] D [(cI, .int)] (cw cI a) (cA a) tb st r := by
  refine met_of (cc := cX1_putByte) (maxL := 2) (ret := none) (by decide) rfl (Nat.le_of_ble_eq_true rfl) ?_
  intro p e s m below meth c hx hb hr hml hts hown hlk hG ls hl
  have hown : s.vm.findClass RX1 = some m.cls := hown
  obtain ⟨hP, hK, hD, hZ⟩ := hG
  have hS : va_S (cA a) s.heap s.heap [] := va_S.rf
  have hl : lv_has ls 2 [(0, .ref (a 7)), (1, .int p1)] := hl
  have hiX1 : ∀ w ∈ wsX10, w ∈ wsX1_putByte := by decide +kernel
  have k11 := hts (.fieldLink RX1 11 "DayColumn$Pen" "bytes" "[I") (by decide +kernel)
  have k15 := hts (.fieldLink RX1 15 "DayColumn$Pen" "length" "I") (by decide +kernel)
  unfold fX1_putByte at hf
  refine lv_aload_n hx hb dX1_putByte_0 rfl (lv_at hl 0 rfl) ?_
  refine va_get (D := D) (ci := 0) (v := .int (st.1 15)) (C := RX1) (T := TX1) (N := 2) hx hb hts hiX1 hown hK hP 7 rfl rfl 1 (by decide) k15 (fun _ h9 => h9) rfl dX1_putByte_1 ?_
  refine lv_aload_n hx hb dX1_putByte_4 rfl (lv_at hl 0 rfl) ?_
  refine va_get (D := D) (ci := 0) (v := .ref (a 23)) (C := RX1) (T := TX1) (N := 2) hx hb hts hiX1 hown hK hP 7 rfl rfl 0 (by decide) k11 (fun _ h9 => h9) rfl dX1_putByte_5 ?_
  refine va_alen hx hb hK hP 23 0 rfl rfl (v := 32) rfl dX1_putByte_8 ?_
  refine lv_icmp_ge (tgt := 32) hx hb dX1_putByte_9 (by decide) (fun c1 => ?_) (fun c1 => ?_)
  · replace hf := if_t hf c1
    exact W.vret hx hb hr (fun t ht _ => ⟨⟨st, rfl, so_i hf, p_at ht hP⟩, hS.F ht⟩) hS.2.2 dX1_putByte_32
  · replace hf := if_f hf c1
    refine lv_aload_n hx hb dX1_putByte_12 rfl (lv_at hl 0 rfl) ?_
    refine va_get (D := D) (ci := 0) (v := .ref (a 23)) (C := RX1) (T := TX1) (N := 2) hx hb hts hiX1 hown hK hP 7 rfl rfl 0 (by decide) k11 (fun _ h9 => h9) rfl dX1_putByte_13 ?_
    refine lv_aload_n hx hb dX1_putByte_16 rfl (lv_at hl 0 rfl) ?_
    refine va_get (D := D) (ci := 0) (v := .int (st.1 15)) (C := RX1) (T := TX1) (N := 2) hx hb hts hiX1 hown hK hP 7 rfl rfl 1 (by decide) k15 (fun _ h9 => h9) rfl dX1_putByte_17 ?_
    refine lv_iload_n hx hb dX1_putByte_20 rfl (lv_at hl 1 rfl) ?_
    obtain ⟨x2, ex2, hf⟩ := bnd_e hf
    refine w_nm2 ex2 ?_
    obtain ⟨hi3, hf⟩ := ix_e hf
    obtain ⟨s4, es4, hf⟩ := bnd_e hf
    refine va_iast hx hb hK hP (hD st) hS 23 0 rfl rfl hi3 dX1_putByte_21 (fun H locs hP _ hS => ?_)
    have hP : va_P D vwCl (cw cI a s4) H := by rw [es4]; exact hP
    refine lv_aload_n hx hb dX1_putByte_22 rfl (lv_at hl 0 rfl) ?_
    refine lv_dup hx hb dX1_putByte_23 rfl ?_
    refine va_get (D := D) (ci := 0) (v := .int (s4.1 15)) (C := RX1) (T := TX1) (N := 2) hx hb hts hiX1 hown hK hP 7 rfl rfl 1 (by decide) k15 (fun _ h9 => h9) rfl dX1_putByte_24 ?_
    refine lv_iconst (v := 1) hx hb dX1_putByte_27 (by decide) ?_
    refine lv_iadd hx hb dX1_putByte_28 ?_
    obtain ⟨x5, ex5, hf⟩ := bnd_e hf
    refine w_nm ex5 ?_
    obtain ⟨s6, es6, hf⟩ := bnd_e hf
    refine va_put (D := D) (ci := 0) (v := .int x5) (ty := .int) (C := RX1) (T := TX1) (N := 2) hx hb hts hiX1 tyX1 tyX1_ok nmX1 hown hK hP (hD s4) hS 7 rfl rfl 1 (by decide) k15 (fun _ h9 => h9) rfl (by decide +kernel) rfl rfl (Nat.le_of_ble_eq_true rfl) dX1_putByte_29 (fun H locs hP _ hS => ?_)
    have hP : va_P D vwCl (cw cI a s6) H := by rw [es6]; exact hP
    exact W.vret hx hb hr (fun t ht _ => ⟨⟨s6, rfl, so_i hf, p_at ht hP⟩, hS.F ht⟩) hS.2.2 dX1_putByte_32
set_option maxHeartbeats 4000000 in
set_option maxRecDepth 100000 in
theorem c_X1_putTwo (l : Launch) (D : va_G) (cI : ClassId) (a tb : Nat → Nat) (st : ST) (p1 : Int32) (r : ST) (hf : fX1_putTwo st p1 = some r) : MetV l yX1_putTwo wsX1_putTwo ({ frames := 1, cells := 0, slots := 0, locals := 21 }) [.ref (a 7), .int p1] D [(cI, .int)] (cw cI a) (cA a) tb st r := by
  refine met_of (cc := cX1_putTwo) (maxL := 2) (ret := none) (by decide) rfl (Nat.le_of_ble_eq_true rfl) ?_
  intro p e s m below meth c hx hb hr hml hts hown hlk hG ls hl
  have hown : s.vm.findClass RX1 = some m.cls := hown
  obtain ⟨hP, hK, hD, hZ⟩ := hG
  have hS : va_S (cA a) s.heap s.heap [] := va_S.rf
  have hl : lv_has ls 2 [(0, .ref (a 7)), (1, .int p1)] := hl
  unfold fX1_putTwo at hf
  refine lv_aload_n hx hb dX1_putTwo_0 rfl (lv_at hl 0 rfl) ?_
  refine lv_bipush (v := 48) hx hb dX1_putTwo_1 (by decide) ?_
  refine lv_iload_n hx hb dX1_putTwo_3 rfl (lv_at hl 1 rfl) ?_
  refine lv_bipush (v := 10) hx hb dX1_putTwo_4 (by decide) ?_
  refine lv_idiv hx hb dX1_putTwo_6 (by decide) ?_
  refine lv_iadd hx hb dX1_putTwo_7 ?_
  obtain ⟨o1, ho1, hf⟩ := ob_e hf
  refine w_callV (b := a 7) (As := [.int (48 + (p1 / 10))]) (rest := []) ⟨hx, hb, hml, hown, hts⟩ (c_X1_putByte l D cI a tb st (48 + (p1 / 10)) o1 ho1) (cwV 1 hts gX1_putTwo_X1_putByte rfl rfl rfl (by decide +kernel) ⟨Nat.le_of_ble_eq_true rfl, Nat.le_of_ble_eq_true rfl⟩) hP hK hD hZ hS (va_recv hK hP (ci := 0) (q0 := 7) rfl rfl) rfl hl.1 rfl (Nat.le_of_ble_eq_true rfl) ⟨Nat.zero_le _, Nat.zero_le _⟩ dX1_putTwo_8 (fun H locs hP hS => ?_)
  refine lv_aload_n hx hb dX1_putTwo_11 rfl (lv_at hl 0 rfl) ?_
  refine lv_bipush (v := 48) hx hb dX1_putTwo_12 (by decide) ?_
  refine lv_iload_n hx hb dX1_putTwo_14 rfl (lv_at hl 1 rfl) ?_
  refine lv_bipush (v := 10) hx hb dX1_putTwo_15 (by decide) ?_
  refine lv_irem hx hb dX1_putTwo_17 (by decide) ?_
  refine lv_iadd hx hb dX1_putTwo_18 ?_
  obtain ⟨o2, ho2, hf⟩ := ob_e hf
  refine w_callV (b := a 7) (As := [.int (48 + (p1 - p1 / 10 * 10))]) (rest := []) ⟨hx, hb, hml, hown, hts⟩ (c_X1_putByte l D cI a tb o1 (48 + (p1 - p1 / 10 * 10)) o2 ho2) (cwV 1 hts gX1_putTwo_X1_putByte rfl rfl rfl (by decide +kernel) ⟨Nat.le_of_ble_eq_true rfl, Nat.le_of_ble_eq_true rfl⟩) hP hK hD hZ hS (va_recv hK hP (ci := 0) (q0 := 7) rfl rfl) rfl hl.1 rfl (Nat.le_of_ble_eq_true rfl) ⟨Nat.zero_le _, Nat.zero_le _⟩ dX1_putTwo_19 (fun H locs hP hS => ?_)
  exact W.vret hx hb hr (fun t ht _ => ⟨⟨o2, rfl, so_i hf, p_at ht hP⟩, hS.F ht⟩) hS.2.2 dX1_putTwo_22
set_option maxHeartbeats 4000000 in
set_option maxRecDepth 100000 in
theorem c_X1_putShort (l : Launch) (D : va_G) (cI : ClassId) (a tb : Nat → Nat) (st : ST) (p1 : Int32) (r : ST) (hf : fX1_putShort st p1 = some r) : MetV l yX1_putShort wsX1_putShort ({ frames := 2, cells := 0, slots := 0, locals := 42 }) [.ref (a 7), .int p1] D [(cI, .int)] (cw cI a) (cA a) tb st r := by
  refine met_of (cc := cX1_putShort) (maxL := 2) (ret := none) (by decide) rfl (Nat.le_of_ble_eq_true rfl) ?_
  intro p e s m below meth c hx hb hr hml hts hown hlk hG ls hl
  have hown : s.vm.findClass RX1 = some m.cls := hown
  obtain ⟨hP, hK, hD, hZ⟩ := hG
  have hS : va_S (cA a) s.heap s.heap [] := va_S.rf
  have hl : lv_has ls 2 [(0, .ref (a 7)), (1, .int p1)] := hl
  unfold fX1_putShort at hf
  refine lv_iload_n hx hb dX1_putShort_0 rfl (lv_at hl 1 rfl) ?_
  refine lv_bipush (v := 10) hx hb dX1_putShort_1 (by decide) ?_
  refine lv_icmp_lt (tgt := 14) hx hb dX1_putShort_3 (by decide) (fun c1 => ?_) (fun c1 => ?_)
  · replace hf := if_t hf c1
    refine lv_aload_n hx hb dX1_putShort_14 rfl (lv_at hl 0 rfl) ?_
    refine lv_bipush (v := 48) hx hb dX1_putShort_15 (by decide) ?_
    refine lv_iload_n hx hb dX1_putShort_17 rfl (lv_at hl 1 rfl) ?_
    refine lv_iadd hx hb dX1_putShort_18 ?_
    obtain ⟨o2, ho2, hf⟩ := ob_e hf
    refine w_callV (b := a 7) (As := [.int (48 + p1)]) (rest := []) ⟨hx, hb, hml, hown, hts⟩ (c_X1_putByte l D cI a tb st (48 + p1) o2 ho2) (cwV 1 hts gX1_putShort_X1_putByte rfl rfl rfl (by decide +kernel) ⟨Nat.le_of_ble_eq_true rfl, Nat.le_of_ble_eq_true rfl⟩) hP hK hD hZ hS (va_recv hK hP (ci := 0) (q0 := 7) rfl rfl) rfl hl.1 rfl (Nat.le_of_ble_eq_true rfl) ⟨Nat.zero_le _, Nat.zero_le _⟩ dX1_putShort_19 (fun H locs hP hS => ?_)
    exact W.vret hx hb hr (fun t ht _ => ⟨⟨o2, rfl, so_i hf, p_at ht hP⟩, hS.F ht⟩) hS.2.2 dX1_putShort_22
  · replace hf := if_f hf c1
    refine lv_aload_n hx hb dX1_putShort_6 rfl (lv_at hl 0 rfl) ?_
    refine lv_iload_n hx hb dX1_putShort_7 rfl (lv_at hl 1 rfl) ?_
    obtain ⟨o3, ho3, hf⟩ := ob_e hf
    refine w_callV (b := a 7) (As := [.int p1]) (rest := []) ⟨hx, hb, hml, hown, hts⟩ (c_X1_putTwo l D cI a tb st p1 o3 ho3) (cwV 1 hts gX1_putShort_X1_putTwo rfl rfl rfl (by decide +kernel) ⟨Nat.le_of_ble_eq_true rfl, Nat.le_of_ble_eq_true rfl⟩) hP hK hD hZ hS (va_recv hK hP (ci := 0) (q0 := 7) rfl rfl) rfl hl.1 rfl (Nat.le_of_ble_eq_true rfl) ⟨Nat.zero_le _, Nat.zero_le _⟩ dX1_putShort_8 (fun H locs hP hS => ?_)
    refine lv_goto (tgt := 22) hx hb dX1_putShort_11 (by decide) ?_
    exact W.vret hx hb hr (fun t ht _ => ⟨⟨o3, rfl, so_i hf, p_at ht hP⟩, hS.F ht⟩) hS.2.2 dX1_putShort_22
set_option maxHeartbeats 4000000 in
set_option maxRecDepth 100000 in
theorem c_X1_putWord_M (l : Launch) (D : va_G) (cI : ClassId) (a tb : Nat → Nat) (st : ST) (p2 : Int32) (r : ST) (hf : fX1_putWord_M st p2 = some r) : MetV l yX1_putWord wsX1_putWord ({ frames := 1, cells := 0, slots := 0, locals := 21 }) [.ref (a 7), .ref (tb 1), .int p2] D [(cI, .int)] (cw cI a) (cA a) tb st r := by
  refine met_of (cc := cX1_putWord) (maxL := 5) (ret := none) (by decide) rfl (Nat.le_of_ble_eq_true rfl) ?_
  intro p e s m below meth c hx hb hr hml hts hown hlk hG ls hl
  have hown : s.vm.findClass RX1 = some m.cls := hown
  obtain ⟨hP, hK, hD, hZ⟩ := hG
  have hS : va_S (cA a) s.heap s.heap [] := va_S.rf
  have hl : lv_has ls 5 [(0, .ref (a 7)), (1, .ref (tb 1)), (2, .int p2)] := hl
  have l7 : ∀ (n : Nat) (x_3 x_4 : Int32) (st : ST) (H : Heap) (locs : List Loc) (ls : Array Slot), va_P D vwCl (cw cI a st) H → va_S (cA a) s.heap H locs → lv_has ls 5 [(0, .ref (a 7)), (1, .ref (tb 1)), (3, .int x_3), (4, .int x_4)] → fX1_putWord_M_7 n st x_3 x_4 = some r → W p l e ({ frames := 1, cells := 0, slots := 0, locals := 21 }) s m ([.ref (a 7), .ref (tb 1), .int p2] : List Value).toArray below meth c H locs 0 0 (MQ below (va_Qv (fun (u : ST) => u = r) (fun u t => va_P D vwCl (cw cI a u) t.heap) (cA a)) ([.ref (a 7), .ref (tb 1), .int p2] : List Value).toArray s 0 0 (cA a)) (F0 m 7 ls []) := by
    intro n
    induction n with
    | zero =>
      intro x_3 x_4 st H locs ls hP hS hl hf
      cases hf
    | succ n ih7 =>
      intro x_3 x_4 st H locs ls hP hS hl hf
      unfold fX1_putWord_M_7 at hf
      refine lv_iload hx hb dX1_putWord_7 (lv_at hl 3 rfl) ?_
      refine lv_iload_n hx hb dX1_putWord_9 rfl (lv_at hl 2 rfl) ?_
      refine lv_iconst (v := 3) hx hb dX1_putWord_10 (by decide) ?_
      refine lv_iadd hx hb dX1_putWord_11 ?_
      refine lv_icmp_ge (tgt := 41) hx hb dX1_putWord_12 (by decide) (fun c1 => ?_) (fun c1 => ?_)
      · replace hf := if_t hf c1
        exact W.vret hx hb hr (fun t ht _ => ⟨⟨st, rfl, so_i hf, p_at ht hP⟩, hS.F ht⟩) hS.2.2 dX1_putWord_41
      · replace hf := if_f hf c1
        refine lv_iload hx hb dX1_putWord_15 (lv_at hl 3 rfl) ?_
        refine lv_if_lt (tgt := 41) hx hb dX1_putWord_17 (by decide) (fun c2 => ?_) (fun c2 => ?_)
        · replace hf := if_t hf c2
          exact W.vret hx hb hr (fun t ht _ => ⟨⟨st, rfl, so_i hf, p_at ht hP⟩, hS.F ht⟩) hS.2.2 dX1_putWord_41
        · replace hf := if_f hf c2
          refine lv_iload hx hb dX1_putWord_20 (lv_at hl 3 rfl) ?_
          refine lv_aload_n hx hb dX1_putWord_22 rfl (lv_at hl 1 rfl) ?_
          refine va_tlen hx hb hZ.2.1.2 hS (v := 36) (by decide) dX1_putWord_23 ?_
          refine lv_icmp_ge (tgt := 41) hx hb dX1_putWord_24 (by decide) (fun c3 => ?_) (fun c3 => ?_)
          · replace hf := if_t hf c3
            exact W.vret hx hb hr (fun t ht _ => ⟨⟨st, rfl, so_i hf, p_at ht hP⟩, hS.F ht⟩) hS.2.2 dX1_putWord_41
          · replace hf := if_f hf c3
            refine lv_aload_n hx hb dX1_putWord_27 rfl (lv_at hl 0 rfl) ?_
            refine lv_aload_n hx hb dX1_putWord_28 rfl (lv_at hl 1 rfl) ?_
            refine lv_iload hx hb dX1_putWord_29 (lv_at hl 3 rfl) ?_
            obtain ⟨hi4, hf⟩ := ix_e hf
            refine va_tc hx hb hZ.2.1.2 hS hi4 (v := .int (tMO (Int32.toNatClampNeg x_4))) rfl dX1_putWord_31 ?_
            obtain ⟨o5, ho5, hf⟩ := ob_e hf
            refine w_callV (b := a 7) (As := [.int (tMO (Int32.toNatClampNeg x_4))]) (rest := []) ⟨hx, hb, hml, hown, hts⟩ (c_X1_putByte l D cI a tb st (tMO (Int32.toNatClampNeg x_4)) o5 ho5) (cwV 1 hts gX1_putWord_X1_putByte rfl rfl rfl (by decide +kernel) ⟨Nat.le_of_ble_eq_true rfl, Nat.le_of_ble_eq_true rfl⟩) hP hK hD hZ hS (va_recv hK hP (ci := 0) (q0 := 7) rfl rfl) rfl hl.1 rfl (Nat.le_of_ble_eq_true rfl) ⟨Nat.zero_le _, Nat.zero_le _⟩ dX1_putWord_32 (fun H locs hP hS => ?_)
            obtain ⟨x6, ex6, hf⟩ := bnd_e hf
            refine lv_iinc (v := x6) (lv' := [(4, .int x6), (0, .ref (a 7)), (1, .ref (tb 1)), (3, .int x_3)]) hx hb dX1_putWord_35 hl (k := 3) rfl (by rw [ex6]; rfl) (by decide) rfl (fun ls hl => ?_)
            refine lv_goto (tgt := 7) hx hb dX1_putWord_38 (by decide) ?_
            exact ih7 x_3 x6 o5 _ _ _ hP hS (lv_sub hl [1, 2, 3, 0] rfl) hf
  unfold fX1_putWord_M at hf
  refine lv_iload_n hx hb dX1_putWord_0 rfl (lv_at hl 2 rfl) ?_
  refine lv_iconst (v := 3) hx hb dX1_putWord_1 (by decide) ?_
  refine lv_imul hx hb dX1_putWord_2 ?_
  obtain ⟨x7, ex7, hf⟩ := bnd_e hf
  refine w_nm ex7 ?_
  refine lv_istore_n (lv' := [(3, .int x7), (0, .ref (a 7)), (1, .ref (tb 1)), (2, .int p2)]) hx hb dX1_putWord_3 rfl hl (by decide) rfl (fun ls hl => ?_)
  refine lv_iload_n hx hb dX1_putWord_4 rfl (lv_at hl 0 rfl) ?_
  refine lv_istore (lv' := [(4, .int x7), (3, .int x7), (0, .ref (a 7)), (1, .ref (tb 1)), (2, .int p2)]) hx hb dX1_putWord_5 hl (by decide) rfl (fun ls hl => ?_)
  exact l7 1000 x7 x7 st _ _ _ hP hS (lv_sub hl [2, 3, 1, 0] rfl) hf
set_option maxHeartbeats 4000000 in
set_option maxRecDepth 100000 in
theorem c_X1_putWord_W (l : Launch) (D : va_G) (cI : ClassId) (a tb : Nat → Nat) (st : ST) (p2 : Int32) (r : ST) (hf : fX1_putWord_W st p2 = some r) : MetV l yX1_putWord wsX1_putWord ({ frames := 1, cells := 0, slots := 0, locals := 21 }) [.ref (a 7), .ref (tb 2), .int p2] D [(cI, .int)] (cw cI a) (cA a) tb st r := by
  refine met_of (cc := cX1_putWord) (maxL := 5) (ret := none) (by decide) rfl (Nat.le_of_ble_eq_true rfl) ?_
  intro p e s m below meth c hx hb hr hml hts hown hlk hG ls hl
  have hown : s.vm.findClass RX1 = some m.cls := hown
  obtain ⟨hP, hK, hD, hZ⟩ := hG
  have hS : va_S (cA a) s.heap s.heap [] := va_S.rf
  have hl : lv_has ls 5 [(0, .ref (a 7)), (1, .ref (tb 2)), (2, .int p2)] := hl
  have l7 : ∀ (n : Nat) (x_3 x_4 : Int32) (st : ST) (H : Heap) (locs : List Loc) (ls : Array Slot), va_P D vwCl (cw cI a st) H → va_S (cA a) s.heap H locs → lv_has ls 5 [(0, .ref (a 7)), (1, .ref (tb 2)), (3, .int x_3), (4, .int x_4)] → fX1_putWord_W_7 n st x_3 x_4 = some r → W p l e ({ frames := 1, cells := 0, slots := 0, locals := 21 }) s m ([.ref (a 7), .ref (tb 2), .int p2] : List Value).toArray below meth c H locs 0 0 (MQ below (va_Qv (fun (u : ST) => u = r) (fun u t => va_P D vwCl (cw cI a u) t.heap) (cA a)) ([.ref (a 7), .ref (tb 2), .int p2] : List Value).toArray s 0 0 (cA a)) (F0 m 7 ls []) := by
    intro n
    induction n with
    | zero =>
      intro x_3 x_4 st H locs ls hP hS hl hf
      cases hf
    | succ n ih7 =>
      intro x_3 x_4 st H locs ls hP hS hl hf
      unfold fX1_putWord_W_7 at hf
      refine lv_iload hx hb dX1_putWord_7 (lv_at hl 3 rfl) ?_
      refine lv_iload_n hx hb dX1_putWord_9 rfl (lv_at hl 2 rfl) ?_
      refine lv_iconst (v := 3) hx hb dX1_putWord_10 (by decide) ?_
      refine lv_iadd hx hb dX1_putWord_11 ?_
      refine lv_icmp_ge (tgt := 41) hx hb dX1_putWord_12 (by decide) (fun c1 => ?_) (fun c1 => ?_)
      · replace hf := if_t hf c1
        exact W.vret hx hb hr (fun t ht _ => ⟨⟨st, rfl, so_i hf, p_at ht hP⟩, hS.F ht⟩) hS.2.2 dX1_putWord_41
      · replace hf := if_f hf c1
        refine lv_iload hx hb dX1_putWord_15 (lv_at hl 3 rfl) ?_
        refine lv_if_lt (tgt := 41) hx hb dX1_putWord_17 (by decide) (fun c2 => ?_) (fun c2 => ?_)
        · replace hf := if_t hf c2
          exact W.vret hx hb hr (fun t ht _ => ⟨⟨st, rfl, so_i hf, p_at ht hP⟩, hS.F ht⟩) hS.2.2 dX1_putWord_41
        · replace hf := if_f hf c2
          refine lv_iload hx hb dX1_putWord_20 (lv_at hl 3 rfl) ?_
          refine lv_aload_n hx hb dX1_putWord_22 rfl (lv_at hl 1 rfl) ?_
          refine va_tlen hx hb hZ.2.2.1.2 hS (v := 21) (by decide) dX1_putWord_23 ?_
          refine lv_icmp_ge (tgt := 41) hx hb dX1_putWord_24 (by decide) (fun c3 => ?_) (fun c3 => ?_)
          · replace hf := if_t hf c3
            exact W.vret hx hb hr (fun t ht _ => ⟨⟨st, rfl, so_i hf, p_at ht hP⟩, hS.F ht⟩) hS.2.2 dX1_putWord_41
          · replace hf := if_f hf c3
            refine lv_aload_n hx hb dX1_putWord_27 rfl (lv_at hl 0 rfl) ?_
            refine lv_aload_n hx hb dX1_putWord_28 rfl (lv_at hl 1 rfl) ?_
            refine lv_iload hx hb dX1_putWord_29 (lv_at hl 3 rfl) ?_
            obtain ⟨hi4, hf⟩ := ix_e hf
            refine va_tc hx hb hZ.2.2.1.2 hS hi4 (v := .int (tWD (Int32.toNatClampNeg x_4))) rfl dX1_putWord_31 ?_
            obtain ⟨o5, ho5, hf⟩ := ob_e hf
            refine w_callV (b := a 7) (As := [.int (tWD (Int32.toNatClampNeg x_4))]) (rest := []) ⟨hx, hb, hml, hown, hts⟩ (c_X1_putByte l D cI a tb st (tWD (Int32.toNatClampNeg x_4)) o5 ho5) (cwV 1 hts gX1_putWord_X1_putByte rfl rfl rfl (by decide +kernel) ⟨Nat.le_of_ble_eq_true rfl, Nat.le_of_ble_eq_true rfl⟩) hP hK hD hZ hS (va_recv hK hP (ci := 0) (q0 := 7) rfl rfl) rfl hl.1 rfl (Nat.le_of_ble_eq_true rfl) ⟨Nat.zero_le _, Nat.zero_le _⟩ dX1_putWord_32 (fun H locs hP hS => ?_)
            obtain ⟨x6, ex6, hf⟩ := bnd_e hf
            refine lv_iinc (v := x6) (lv' := [(4, .int x6), (0, .ref (a 7)), (1, .ref (tb 2)), (3, .int x_3)]) hx hb dX1_putWord_35 hl (k := 3) rfl (by rw [ex6]; rfl) (by decide) rfl (fun ls hl => ?_)
            refine lv_goto (tgt := 7) hx hb dX1_putWord_38 (by decide) ?_
            exact ih7 x_3 x6 o5 _ _ _ hP hS (lv_sub hl [1, 2, 3, 0] rfl) hf
  unfold fX1_putWord_W at hf
  refine lv_iload_n hx hb dX1_putWord_0 rfl (lv_at hl 2 rfl) ?_
  refine lv_iconst (v := 3) hx hb dX1_putWord_1 (by decide) ?_
  refine lv_imul hx hb dX1_putWord_2 ?_
  obtain ⟨x7, ex7, hf⟩ := bnd_e hf
  refine w_nm ex7 ?_
  refine lv_istore_n (lv' := [(3, .int x7), (0, .ref (a 7)), (1, .ref (tb 2)), (2, .int p2)]) hx hb dX1_putWord_3 rfl hl (by decide) rfl (fun ls hl => ?_)
  refine lv_iload_n hx hb dX1_putWord_4 rfl (lv_at hl 0 rfl) ?_
  refine lv_istore (lv' := [(4, .int x7), (3, .int x7), (0, .ref (a 7)), (1, .ref (tb 2)), (2, .int p2)]) hx hb dX1_putWord_5 hl (by decide) rfl (fun ls hl => ?_)
  exact l7 1000 x7 x7 st _ _ _ hP hS (lv_sub hl [2, 3, 1, 0] rfl) hf
set_option maxHeartbeats 4000000 in
set_option maxRecDepth 100000 in
theorem c_X1_putPart (l : Launch) (D : va_G) (cI : ClassId) (a tb : Nat → Nat) (st : ST) (p1 p2 : Int32) (r : ST) (hf : fX1_putPart st p1 p2 = some r) : MetV l yX1_putPart wsX1_putPart ({ frames := 4, cells := 0, slots := 0, locals := 86 }) [.ref (a 7), .int p1, .int p2] D [(cI, .int)] (cw cI a) (cA a) tb st r := by
  refine met_of (cc := cX1_putPart) (maxL := 3) (ret := none) (by decide) rfl (Nat.le_of_ble_eq_true rfl) ?_
  intro p e s m below meth c hx hb hr hml hts hown hlk hG ls hl
  have hown : s.vm.findClass RX1 = some m.cls := hown
  obtain ⟨hP, hK, hD, hZ⟩ := hG
  have hS : va_S (cA a) s.heap s.heap [] := va_S.rf
  have hl : lv_has ls 3 [(0, .ref (a 7)), (1, .int p1), (2, .int p2)] := hl
  have k47 := hts (.fieldLink RX1 47 "DayColumn$Words" "MONTHS" "[C") (by decide +kernel)
  have k63 := hts (.fieldLink RX1 63 "DayColumn$Words" "WEEKDAYS" "[C") (by decide +kernel)
  unfold fX1_putPart at hf
  refine lv_iload_n hx hb dX1_putPart_0 rfl (lv_at hl 1 rfl) ?_
  by_cases c1 : p1 = 68
  · replace hf := if_t hf c1
    refine lv_lookup (tgt := 60) (off := 59) hx hb dX1_putPart_1 (by decide) (by rw [c1]; rfl) (by decide) ?_
    refine lv_aload_n hx hb dX1_putPart_60 rfl (lv_at hl 0 rfl) ?_
    refine lv_iload_n hx hb dX1_putPart_61 rfl (lv_at hl 2 rfl) ?_
    obtain ⟨o2, ho2, hf⟩ := ob_e hf
    refine w_callT (As := [.int p2]) (rest := [.ref (a 7)]) ⟨hx, hb, hml, hown, hts⟩ (c_X0_dayOfMonth l tb p2 o2 ho2) (va_cwS 1 hts gX1_putPart_X0_dayOfMonth rfl rfl rfl (by decide +kernel) ⟨Nat.le_of_ble_eq_true rfl, Nat.le_of_ble_eq_true rfl⟩) hZ hS rfl hl.1 rfl (Nat.le_of_ble_eq_true rfl) ⟨Nat.zero_le _, Nat.zero_le _⟩ dX1_putPart_62 ?_
    obtain ⟨o3, ho3, hf⟩ := ob_e hf
    refine w_callV (b := a 7) (As := [.int o2]) (rest := []) ⟨hx, hb, hml, hown, hts⟩ (c_X1_putShort l D cI a tb st o2 o3 ho3) (cwV 1 hts gX1_putPart_X1_putShort rfl rfl rfl (by decide +kernel) ⟨Nat.le_of_ble_eq_true rfl, Nat.le_of_ble_eq_true rfl⟩) hP hK hD hZ hS (va_recv hK hP (ci := 0) (q0 := 7) rfl rfl) rfl hl.1 rfl (Nat.le_of_ble_eq_true rfl) ⟨Nat.zero_le _, Nat.zero_le _⟩ dX1_putPart_65 (fun H locs hP hS => ?_)
    refine lv_goto (tgt := 156) hx hb dX1_putPart_68 (by decide) ?_
    exact W.vret hx hb hr (fun t ht _ => ⟨⟨o3, rfl, so_i hf, p_at ht hP⟩, hS.F ht⟩) hS.2.2 dX1_putPart_156
  · replace hf := if_f hf c1
    by_cases c4 : p1 = 77
    · replace hf := if_t hf c4
      refine lv_lookup (tgt := 71) (off := 70) hx hb dX1_putPart_1 (by decide) (by rw [c4]; rfl) (by decide) ?_
      refine lv_aload_n hx hb dX1_putPart_71 rfl (lv_at hl 0 rfl) ?_
      refine lv_iload_n hx hb dX1_putPart_72 rfl (lv_at hl 2 rfl) ?_
      obtain ⟨o5, ho5, hf⟩ := ob_e hf
      refine w_callT (As := [.int p2]) (rest := [.ref (a 7)]) ⟨hx, hb, hml, hown, hts⟩ (c_X0_monthOf l tb p2 o5 ho5) (va_cwS 1 hts gX1_putPart_X0_monthOf rfl rfl rfl (by decide +kernel) ⟨Nat.le_of_ble_eq_true rfl, Nat.le_of_ble_eq_true rfl⟩) hZ hS rfl hl.1 rfl (Nat.le_of_ble_eq_true rfl) ⟨Nat.zero_le _, Nat.zero_le _⟩ dX1_putPart_73 ?_
      obtain ⟨o6, ho6, hf⟩ := ob_e hf
      refine w_callV (b := a 7) (As := [.int o5]) (rest := []) ⟨hx, hb, hml, hown, hts⟩ (c_X1_putShort l D cI a tb st o5 o6 ho6) (cwV 1 hts gX1_putPart_X1_putShort rfl rfl rfl (by decide +kernel) ⟨Nat.le_of_ble_eq_true rfl, Nat.le_of_ble_eq_true rfl⟩) hP hK hD hZ hS (va_recv hK hP (ci := 0) (q0 := 7) rfl rfl) rfl hl.1 rfl (Nat.le_of_ble_eq_true rfl) ⟨Nat.zero_le _, Nat.zero_le _⟩ dX1_putPart_76 (fun H locs hP hS => ?_)
      refine lv_goto (tgt := 156) hx hb dX1_putPart_79 (by decide) ?_
      exact W.vret hx hb hr (fun t ht _ => ⟨⟨o6, rfl, so_i hf, p_at ht hP⟩, hS.F ht⟩) hS.2.2 dX1_putPart_156
    · replace hf := if_f hf c4
      by_cases c7 : p1 = 78
      · replace hf := if_t hf c7
        refine lv_lookup (tgt := 82) (off := 81) hx hb dX1_putPart_1 (by decide) (by rw [c7]; rfl) (by decide) ?_
        refine lv_aload_n hx hb dX1_putPart_82 rfl (lv_at hl 0 rfl) ?_
        refine va_gets hx hb hZ.2.1.1 hS hown k47 (fun _ h9 => h9) dX1_putPart_83 ?_
        refine lv_iload_n hx hb dX1_putPart_86 rfl (lv_at hl 2 rfl) ?_
        obtain ⟨o8, ho8, hf⟩ := ob_e hf
        refine w_callT (As := [.int p2]) (rest := [.ref (tb 1), .ref (a 7)]) ⟨hx, hb, hml, hown, hts⟩ (c_X0_monthOf l tb p2 o8 ho8) (va_cwS 1 hts gX1_putPart_X0_monthOf rfl rfl rfl (by decide +kernel) ⟨Nat.le_of_ble_eq_true rfl, Nat.le_of_ble_eq_true rfl⟩) hZ hS rfl hl.1 rfl (Nat.le_of_ble_eq_true rfl) ⟨Nat.zero_le _, Nat.zero_le _⟩ dX1_putPart_87 ?_
        refine lv_iconst (v := 1) hx hb dX1_putPart_90 (by decide) ?_
        refine lv_isub hx hb dX1_putPart_91 ?_
        obtain ⟨o9, ho9, hf⟩ := ob_e hf
        refine w_callV (b := a 7) (As := [.ref (tb 1), .int (o8 - 1)]) (rest := []) ⟨hx, hb, hml, hown, hts⟩ (c_X1_putWord_M l D cI a tb st (o8 - 1) o9 ho9) (cwV 2 hts gX1_putPart_X1_putWord rfl rfl rfl (by decide +kernel) ⟨Nat.le_of_ble_eq_true rfl, Nat.le_of_ble_eq_true rfl⟩) hP hK hD hZ hS (va_recv hK hP (ci := 0) (q0 := 7) rfl rfl) rfl hl.1 rfl (Nat.le_of_ble_eq_true rfl) ⟨Nat.zero_le _, Nat.zero_le _⟩ dX1_putPart_92 (fun H locs hP hS => ?_)
        refine lv_goto (tgt := 156) hx hb dX1_putPart_95 (by decide) ?_
        exact W.vret hx hb hr (fun t ht _ => ⟨⟨o9, rfl, so_i hf, p_at ht hP⟩, hS.F ht⟩) hS.2.2 dX1_putPart_156
      · replace hf := if_f hf c7
        by_cases c10 : p1 = 87
        · replace hf := if_t hf c10
          refine lv_lookup (tgt := 137) (off := 136) hx hb dX1_putPart_1 (by decide) (by rw [c10]; rfl) (by decide) ?_
          refine lv_aload_n hx hb dX1_putPart_137 rfl (lv_at hl 0 rfl) ?_
          refine va_gets hx hb hZ.2.2.1.1 hS hown k63 (fun _ h9 => h9) dX1_putPart_138 ?_
          refine lv_iload_n hx hb dX1_putPart_141 rfl (lv_at hl 2 rfl) ?_
          obtain ⟨o11, ho11, hf⟩ := ob_e hf
          refine w_callT (As := [.int p2]) (rest := [.ref (tb 2), .ref (a 7)]) ⟨hx, hb, hml, hown, hts⟩ (c_X0_weekdayOf l tb p2 o11 ho11) (va_cwS 1 hts gX1_putPart_X0_weekdayOf rfl rfl rfl (by decide +kernel) ⟨Nat.le_of_ble_eq_true rfl, Nat.le_of_ble_eq_true rfl⟩) hZ hS rfl hl.1 rfl (Nat.le_of_ble_eq_true rfl) ⟨Nat.zero_le _, Nat.zero_le _⟩ dX1_putPart_142 ?_
          obtain ⟨o12, ho12, hf⟩ := ob_e hf
          refine w_callV (b := a 7) (As := [.ref (tb 2), .int o11]) (rest := []) ⟨hx, hb, hml, hown, hts⟩ (c_X1_putWord_W l D cI a tb st o11 o12 ho12) (cwV 2 hts gX1_putPart_X1_putWord rfl rfl rfl (by decide +kernel) ⟨Nat.le_of_ble_eq_true rfl, Nat.le_of_ble_eq_true rfl⟩) hP hK hD hZ hS (va_recv hK hP (ci := 0) (q0 := 7) rfl rfl) rfl hl.1 rfl (Nat.le_of_ble_eq_true rfl) ⟨Nat.zero_le _, Nat.zero_le _⟩ dX1_putPart_145 (fun H locs hP hS => ?_)
          refine lv_goto (tgt := 156) hx hb dX1_putPart_148 (by decide) ?_
          exact W.vret hx hb hr (fun t ht _ => ⟨⟨o12, rfl, so_i hf, p_at ht hP⟩, hS.F ht⟩) hS.2.2 dX1_putPart_156
        · replace hf := if_f hf c10
          by_cases c13 : p1 = 89
          · replace hf := if_t hf c13
            refine lv_lookup (tgt := 98) (off := 97) hx hb dX1_putPart_1 (by decide) (by rw [c13]; rfl) (by decide) ?_
            refine lv_aload_n hx hb dX1_putPart_98 rfl (lv_at hl 0 rfl) ?_
            refine lv_iload_n hx hb dX1_putPart_99 rfl (lv_at hl 2 rfl) ?_
            obtain ⟨o14, ho14, hf⟩ := ob_e hf
            refine w_callT (As := [.int p2]) (rest := [.ref (a 7)]) ⟨hx, hb, hml, hown, hts⟩ (c_X0_yearOf l tb p2 o14 ho14) (va_cwS 1 hts gX1_putPart_X0_yearOf rfl rfl rfl (by decide +kernel) ⟨Nat.le_of_ble_eq_true rfl, Nat.le_of_ble_eq_true rfl⟩) hZ hS rfl hl.1 rfl (Nat.le_of_ble_eq_true rfl) ⟨Nat.zero_le _, Nat.zero_le _⟩ dX1_putPart_100 ?_
            refine lv_bipush (v := 100) hx hb dX1_putPart_103 (by decide) ?_
            refine lv_idiv hx hb dX1_putPart_105 (by decide) ?_
            obtain ⟨o15, ho15, hf⟩ := ob_e hf
            refine w_callV (b := a 7) (As := [.int (o14 / 100)]) (rest := []) ⟨hx, hb, hml, hown, hts⟩ (c_X1_putTwo l D cI a tb st (o14 / 100) o15 ho15) (cwV 1 hts gX1_putPart_X1_putTwo rfl rfl rfl (by decide +kernel) ⟨Nat.le_of_ble_eq_true rfl, Nat.le_of_ble_eq_true rfl⟩) hP hK hD hZ hS (va_recv hK hP (ci := 0) (q0 := 7) rfl rfl) rfl hl.1 rfl (Nat.le_of_ble_eq_true rfl) ⟨Nat.zero_le _, Nat.zero_le _⟩ dX1_putPart_106 (fun H locs hP hS => ?_)
            refine lv_aload_n hx hb dX1_putPart_109 rfl (lv_at hl 0 rfl) ?_
            refine lv_iload_n hx hb dX1_putPart_110 rfl (lv_at hl 2 rfl) ?_
            obtain ⟨o16, ho16, hf⟩ := ob_e hf
            refine w_callT (As := [.int p2]) (rest := [.ref (a 7)]) ⟨hx, hb, hml, hown, hts⟩ (c_X0_yearOf l tb p2 o16 ho16) (va_cwS 1 hts gX1_putPart_X0_yearOf rfl rfl rfl (by decide +kernel) ⟨Nat.le_of_ble_eq_true rfl, Nat.le_of_ble_eq_true rfl⟩) hZ hS rfl hl.1 rfl (Nat.le_of_ble_eq_true rfl) ⟨Nat.zero_le _, Nat.zero_le _⟩ dX1_putPart_111 ?_
            refine lv_bipush (v := 100) hx hb dX1_putPart_114 (by decide) ?_
            refine lv_irem hx hb dX1_putPart_116 (by decide) ?_
            obtain ⟨o17, ho17, hf⟩ := ob_e hf
            refine w_callV (b := a 7) (As := [.int (o16 - o16 / 100 * 100)]) (rest := []) ⟨hx, hb, hml, hown, hts⟩ (c_X1_putTwo l D cI a tb o15 (o16 - o16 / 100 * 100) o17 ho17) (cwV 1 hts gX1_putPart_X1_putTwo rfl rfl rfl (by decide +kernel) ⟨Nat.le_of_ble_eq_true rfl, Nat.le_of_ble_eq_true rfl⟩) hP hK hD hZ hS (va_recv hK hP (ci := 0) (q0 := 7) rfl rfl) rfl hl.1 rfl (Nat.le_of_ble_eq_true rfl) ⟨Nat.zero_le _, Nat.zero_le _⟩ dX1_putPart_117 (fun H locs hP hS => ?_)
            refine lv_goto (tgt := 156) hx hb dX1_putPart_120 (by decide) ?_
            exact W.vret hx hb hr (fun t ht _ => ⟨⟨o17, rfl, so_i hf, p_at ht hP⟩, hS.F ht⟩) hS.2.2 dX1_putPart_156
          · replace hf := if_f hf c13
            by_cases c18 : p1 = 121
            · replace hf := if_t hf c18
              refine lv_lookup (tgt := 123) (off := 122) hx hb dX1_putPart_1 (by decide) (by rw [c18]; rfl) (by decide) ?_
              refine lv_aload_n hx hb dX1_putPart_123 rfl (lv_at hl 0 rfl) ?_
              refine lv_iload_n hx hb dX1_putPart_124 rfl (lv_at hl 2 rfl) ?_
              obtain ⟨o19, ho19, hf⟩ := ob_e hf
              refine w_callT (As := [.int p2]) (rest := [.ref (a 7)]) ⟨hx, hb, hml, hown, hts⟩ (c_X0_yearOf l tb p2 o19 ho19) (va_cwS 1 hts gX1_putPart_X0_yearOf rfl rfl rfl (by decide +kernel) ⟨Nat.le_of_ble_eq_true rfl, Nat.le_of_ble_eq_true rfl⟩) hZ hS rfl hl.1 rfl (Nat.le_of_ble_eq_true rfl) ⟨Nat.zero_le _, Nat.zero_le _⟩ dX1_putPart_125 ?_
              refine lv_bipush (v := 100) hx hb dX1_putPart_128 (by decide) ?_
              refine lv_irem hx hb dX1_putPart_130 (by decide) ?_
              obtain ⟨o20, ho20, hf⟩ := ob_e hf
              refine w_callV (b := a 7) (As := [.int (o19 - o19 / 100 * 100)]) (rest := []) ⟨hx, hb, hml, hown, hts⟩ (c_X1_putTwo l D cI a tb st (o19 - o19 / 100 * 100) o20 ho20) (cwV 1 hts gX1_putPart_X1_putTwo rfl rfl rfl (by decide +kernel) ⟨Nat.le_of_ble_eq_true rfl, Nat.le_of_ble_eq_true rfl⟩) hP hK hD hZ hS (va_recv hK hP (ci := 0) (q0 := 7) rfl rfl) rfl hl.1 rfl (Nat.le_of_ble_eq_true rfl) ⟨Nat.zero_le _, Nat.zero_le _⟩ dX1_putPart_131 (fun H locs hP hS => ?_)
              refine lv_goto (tgt := 156) hx hb dX1_putPart_134 (by decide) ?_
              exact W.vret hx hb hr (fun t ht _ => ⟨⟨o20, rfl, so_i hf, p_at ht hP⟩, hS.F ht⟩) hS.2.2 dX1_putPart_156
            · replace hf := if_f hf c18
              refine lv_lookup (tgt := 151) (off := 150) hx hb dX1_putPart_1 (by decide) ((lv_osw c1 (by decide)).trans ((lv_osw c4 (by decide)).trans ((lv_osw c7 (by decide)).trans ((lv_osw c10 (by decide)).trans ((lv_osw c13 (by decide)).trans ((lv_osw c18 (by decide)).trans (rfl))))))) (by decide) ?_
              refine lv_aload_n hx hb dX1_putPart_151 rfl (lv_at hl 0 rfl) ?_
              refine lv_iload_n hx hb dX1_putPart_152 rfl (lv_at hl 1 rfl) ?_
              obtain ⟨o21, ho21, hf⟩ := ob_e hf
              refine w_callV (b := a 7) (As := [.int p1]) (rest := []) ⟨hx, hb, hml, hown, hts⟩ (c_X1_putByte l D cI a tb st p1 o21 ho21) (cwV 1 hts gX1_putPart_X1_putByte rfl rfl rfl (by decide +kernel) ⟨Nat.le_of_ble_eq_true rfl, Nat.le_of_ble_eq_true rfl⟩) hP hK hD hZ hS (va_recv hK hP (ci := 0) (q0 := 7) rfl rfl) rfl hl.1 rfl (Nat.le_of_ble_eq_true rfl) ⟨Nat.zero_le _, Nat.zero_le _⟩ dX1_putPart_153 (fun H locs hP hS => ?_)
              exact W.vret hx hb hr (fun t ht _ => ⟨⟨o21, rfl, so_i hf, p_at ht hP⟩, hS.F ht⟩) hS.2.2 dX1_putPart_156
set_option maxHeartbeats 4000000 in
set_option maxRecDepth 100000 in
theorem c_X1_setDown (l : Launch) (D : va_G) (cI : ClassId) (a tb : Nat → Nat) (st : ST) (p1 p3 : Int32) (r : ST) (hf : fX1_setDown st p1 p3 = some r) : MetV l yX1_setDown wsX1_setDown ({ frames := 5, cells := 0, slots := 0, locals := 108 }) [.ref (a 7), .int p1, .ref (a 2), .int p3] D [(cI, .int)] (cw cI a) (cA a) tb st r := by
  refine met_of (cc := cX1_setDown) (maxL := 6) (ret := none) (by decide) rfl (Nat.le_of_ble_eq_true rfl) ?_
  intro p e s m below meth c hx hb hr hml hts hown hlk hG ls hl
  have hown : s.vm.findClass RX1 = some m.cls := hown
  obtain ⟨hP, hK, hD, hZ⟩ := hG
  have hS : va_S (cA a) s.heap s.heap [] := va_S.rf
  have hl : lv_has ls 6 [(0, .ref (a 7)), (1, .int p1), (2, .ref (a 2)), (3, .int p3)] := hl
  have hiX1 : ∀ w ∈ wsX10, w ∈ wsX1_setDown := by decide +kernel
  have k15 := hts (.fieldLink RX1 15 "DayColumn$Pen" "length" "I") (by decide +kernel)
  have l15 : ∀ (n : Nat) (x_1 x_3 x_4 x_5 : Int32) (st : ST) (H : Heap) (locs : List Loc) (ls : Array Slot), va_P D vwCl (cw cI a st) H → va_S (cA a) s.heap H locs → lv_has ls 6 [(0, .ref (a 7)), (1, .int x_1), (2, .ref (a 2)), (3, .int x_3), (4, .int x_4), (5, .int x_5)] → fX1_setDown_15 n st x_1 x_3 x_4 x_5 = some r → W p l e ({ frames := 5, cells := 0, slots := 0, locals := 108 }) s m ([.ref (a 7), .int p1, .ref (a 2), .int p3] : List Value).toArray below meth c H locs 0 0 (MQ below (va_Qv (fun (u : ST) => u = r) (fun u t => va_P D vwCl (cw cI a u) t.heap) (cA a)) ([.ref (a 7), .int p1, .ref (a 2), .int p3] : List Value).toArray s 0 0 (cA a)) (F0 m 15 ls []) := by
    intro n
    induction n with
    | zero =>
      intro x_1 x_3 x_4 x_5 st H locs ls hP hS hl hf
      cases hf
    | succ n ih15 =>
      intro x_1 x_3 x_4 x_5 st H locs ls hP hS hl hf
      unfold fX1_setDown_15 at hf
      refine lv_iload hx hb dX1_setDown_15 (lv_at hl 5 rfl) ?_
      refine lv_iload hx hb dX1_setDown_17 (lv_at hl 4 rfl) ?_
      refine lv_icmp_ge (tgt := 40) hx hb dX1_setDown_19 (by decide) (fun c1 => ?_) (fun c1 => ?_)
      · replace hf := if_t hf c1
        exact W.vret hx hb hr (fun t ht _ => ⟨⟨st, rfl, so_i hf, p_at ht hP⟩, hS.F ht⟩) hS.2.2 dX1_setDown_40
      · replace hf := if_f hf c1
        refine lv_aload_n hx hb dX1_setDown_22 rfl (lv_at hl 0 rfl) ?_
        refine lv_aload_n hx hb dX1_setDown_23 rfl (lv_at hl 2 rfl) ?_
        refine lv_iload_n hx hb dX1_setDown_24 rfl (lv_at hl 3 rfl) ?_
        refine lv_iload hx hb dX1_setDown_25 (lv_at hl 5 rfl) ?_
        obtain ⟨o2, ho2, hf⟩ := ob_e hf
        refine w_callR (b := a 2) (As := [.int x_3, .int x_5]) (rest := [.ref (a 7)]) ⟨hx, hb, hml, hown, hts⟩ (c_X5_byteAt_p l D cI a tb st x_3 x_5 o2 ho2) (cwV 2 hts gX1_setDown_X5_byteAt rfl rfl rfl (by decide +kernel) ⟨Nat.le_of_ble_eq_true rfl, Nat.le_of_ble_eq_true rfl⟩) hP hK hD hZ hS (va_recv hK hP (ci := 4) (q0 := 2) rfl rfl) rfl hl.1 rfl (Nat.le_of_ble_eq_true rfl) ⟨Nat.zero_le _, Nat.zero_le _⟩ dX1_setDown_27 ?_
        refine lv_iload_n hx hb dX1_setDown_30 rfl (lv_at hl 1 rfl) ?_
        obtain ⟨o3, ho3, hf⟩ := ob_e hf
        refine w_callV (b := a 7) (As := [.int o2, .int x_1]) (rest := []) ⟨hx, hb, hml, hown, hts⟩ (c_X1_putPart l D cI a tb st o2 x_1 o3 ho3) (cwV 2 hts gX1_setDown_X1_putPart rfl rfl rfl (by decide +kernel) ⟨Nat.le_of_ble_eq_true rfl, Nat.le_of_ble_eq_true rfl⟩) hP hK hD hZ hS (va_recv hK hP (ci := 0) (q0 := 7) rfl rfl) rfl hl.1 rfl (Nat.le_of_ble_eq_true rfl) ⟨Nat.zero_le _, Nat.zero_le _⟩ dX1_setDown_31 (fun H locs hP hS => ?_)
        obtain ⟨x4, ex4, hf⟩ := bnd_e hf
        refine lv_iinc (v := x4) (lv' := [(5, .int x4), (0, .ref (a 7)), (1, .int x_1), (2, .ref (a 2)), (3, .int x_3), (4, .int x_4)]) hx hb dX1_setDown_34 hl (k := 5) rfl (by rw [ex4]; rfl) (by decide) rfl (fun ls hl => ?_)
        refine lv_goto (tgt := 15) hx hb dX1_setDown_37 (by decide) ?_
        exact ih15 x_1 x_3 x_4 x4 o3 _ _ _ hP hS (lv_sub hl [1, 2, 3, 4, 5, 0] rfl) hf
  unfold fX1_setDown at hf
  refine lv_aload_n hx hb dX1_setDown_0 rfl (lv_at hl 0 rfl) ?_
  refine lv_iconst (v := 0) hx hb dX1_setDown_1 (by decide) ?_
  obtain ⟨s5, es5, hf⟩ := bnd_e hf
  refine va_put (D := D) (ci := 0) (v := .int 0) (ty := .int) (C := RX1) (T := TX1) (N := 2) hx hb hts hiX1 tyX1 tyX1_ok nmX1 hown hK hP (hD st) hS 7 rfl rfl 1 (by decide) k15 (fun _ h9 => h9) rfl (by decide +kernel) rfl rfl (Nat.le_of_ble_eq_true rfl) dX1_setDown_2 (fun H locs hP _ hS => ?_)
  have hP : va_P D vwCl (cw cI a s5) H := by rw [es5]; exact hP
  refine lv_aload_n hx hb dX1_setDown_5 rfl (lv_at hl 2 rfl) ?_
  refine lv_iload_n hx hb dX1_setDown_6 rfl (lv_at hl 3 rfl) ?_
  obtain ⟨o6, ho6, hf⟩ := ob_e hf
  refine w_callR (b := a 2) (As := [.int p3]) (rest := []) ⟨hx, hb, hml, hown, hts⟩ (c_X5_lengthOf_p l D cI a tb s5 p3 o6 ho6) (cwV 1 hts gX1_setDown_X5_lengthOf rfl rfl rfl (by decide +kernel) ⟨Nat.le_of_ble_eq_true rfl, Nat.le_of_ble_eq_true rfl⟩) hP hK hD hZ hS (va_recv hK hP (ci := 4) (q0 := 2) rfl rfl) rfl hl.1 rfl (Nat.le_of_ble_eq_true rfl) ⟨Nat.zero_le _, Nat.zero_le _⟩ dX1_setDown_7 ?_
  refine lv_istore (lv' := [(4, .int o6), (0, .ref (a 7)), (1, .int p1), (2, .ref (a 2)), (3, .int p3)]) hx hb dX1_setDown_10 hl (by decide) rfl (fun ls hl => ?_)
  refine lv_iconst (v := 0) hx hb dX1_setDown_12 (by decide) ?_
  refine lv_istore (lv' := [(5, .int 0), (4, .int o6), (0, .ref (a 7)), (1, .int p1), (2, .ref (a 2)), (3, .int p3)]) hx hb dX1_setDown_13 hl (by decide) rfl (fun ls hl => ?_)
  exact l15 1000 p1 p3 o6 0 s5 _ _ _ hP hS (lv_sub hl [2, 3, 4, 5, 1, 0] rfl) hf
set_option maxHeartbeats 4000000 in
set_option maxRecDepth 100000 in
theorem c_X1_equalsText (l : Launch) (D : va_G) (cI : ClassId) (a tb : Nat → Nat) (st : ST) (p2 : Int32) (r : Int32) (hf : fX1_equalsText st p2 = some r) : MetR l yX1_equalsText wsX1_equalsText ({ frames := 3, cells := 0, slots := 0, locals := 64 }) [.ref (a 7), .ref (a 3), .int p2] D [(cI, .int)] (cw cI a) (cA a) tb st r := by
  refine met_of (cc := cX1_equalsText) (maxL := 4) (ret := (some .boolean)) (by decide) rfl (Nat.le_of_ble_eq_true rfl) ?_
  intro p e s m below meth c hx hb hr hml hts hown hlk hG ls hl
  have hown : s.vm.findClass RX1 = some m.cls := hown
  obtain ⟨hP, hK, hD, hZ⟩ := hG
  have hS : va_S (cA a) s.heap s.heap [] := va_S.rf
  have hl : lv_has ls 4 [(0, .ref (a 7)), (1, .ref (a 3)), (2, .int p2)] := hl
  have hiX1 : ∀ w ∈ wsX10, w ∈ wsX1_equalsText := by decide +kernel
  have k15 := hts (.fieldLink RX1 15 "DayColumn$Pen" "length" "I") (by decide +kernel)
  have l16 : ∀ (n : Nat) (x_2 x_3 : Int32) (ls : Array Slot), lv_has ls 4 [(0, .ref (a 7)), (1, .ref (a 3)), (2, .int x_2), (3, .int x_3)] → fX1_equalsText_16 n st x_2 x_3 = some r → W p l e ({ frames := 3, cells := 0, slots := 0, locals := 64 }) s m ([.ref (a 7), .ref (a 3), .int p2] : List Value).toArray below meth c s.heap [] 0 0 (MQ below (vp_Si (fun z => z = r)) ([.ref (a 7), .ref (a 3), .int p2] : List Value).toArray s 0 0 (fun _ => False)) (F0 m 16 ls []) := by
    intro n
    induction n with
    | zero =>
      intro x_2 x_3 ls hl hf
      cases hf
    | succ n ih16 =>
      intro x_2 x_3 ls hl hf
      unfold fX1_equalsText_16 at hf
      refine lv_iload_n hx hb dX1_equalsText_16 rfl (lv_at hl 3 rfl) ?_
      refine lv_aload_n hx hb dX1_equalsText_17 rfl (lv_at hl 0 rfl) ?_
      refine va_get (D := D) (ci := 0) (v := .int (st.1 15)) (C := RX1) (T := TX1) (N := 2) hx hb hts hiX1 hown hK hP 7 rfl rfl 1 (by decide) k15 (fun _ h9 => h9) rfl dX1_equalsText_18 ?_
      refine lv_icmp_ge (tgt := 46) hx hb dX1_equalsText_21 (by decide) (fun c1 => ?_) (fun c1 => ?_)
      · replace hf := if_t hf c1
        refine lv_iconst (v := 1) hx hb dX1_equalsText_46 (by decide) ?_
        exact W.zret (v := 1) hx hb hr rfl (fun t ht _ => ⟨1, rfl, so_i hf, ht⟩) (fun _ h => by cases h) dX1_equalsText_47
      · replace hf := if_f hf c1
        refine lv_aload_n hx hb dX1_equalsText_24 rfl (lv_at hl 0 rfl) ?_
        refine lv_iload_n hx hb dX1_equalsText_25 rfl (lv_at hl 3 rfl) ?_
        obtain ⟨o2, ho2, hf⟩ := ob_e hf
        refine w_callR (b := a 7) (As := [.int x_3]) (rest := []) ⟨hx, hb, hml, hown, hts⟩ (c_X1_byteAt l D cI a tb st x_3 o2 ho2) (cwV 1 hts gX1_equalsText_X1_byteAt rfl rfl rfl (by decide +kernel) ⟨Nat.le_of_ble_eq_true rfl, Nat.le_of_ble_eq_true rfl⟩) hP hK hD hZ hS (va_recv hK hP (ci := 0) (q0 := 7) rfl rfl) rfl hl.1 rfl (Nat.le_of_ble_eq_true rfl) ⟨Nat.zero_le _, Nat.zero_le _⟩ dX1_equalsText_26 ?_
        refine lv_aload_n hx hb dX1_equalsText_29 rfl (lv_at hl 1 rfl) ?_
        refine lv_iload_n hx hb dX1_equalsText_30 rfl (lv_at hl 2 rfl) ?_
        refine lv_iload_n hx hb dX1_equalsText_31 rfl (lv_at hl 3 rfl) ?_
        obtain ⟨o3, ho3, hf⟩ := ob_e hf
        refine w_callR (b := a 3) (As := [.int x_2, .int x_3]) (rest := [.int o2]) ⟨hx, hb, hml, hown, hts⟩ (c_X5_byteAt_c l D cI a tb st x_2 x_3 o3 ho3) (cwV 2 hts gX1_equalsText_X5_byteAt rfl rfl rfl (by decide +kernel) ⟨Nat.le_of_ble_eq_true rfl, Nat.le_of_ble_eq_true rfl⟩) hP hK hD hZ hS (va_recv hK hP (ci := 4) (q0 := 3) rfl rfl) rfl hl.1 rfl (Nat.le_of_ble_eq_true rfl) ⟨Nat.zero_le _, Nat.zero_le _⟩ dX1_equalsText_32 ?_
        refine lv_icmp_eq (tgt := 40) hx hb dX1_equalsText_35 (by decide) (fun c4 => ?_) (fun c4 => ?_)
        · replace hf := if_t hf c4
          obtain ⟨x5, ex5, hf⟩ := bnd_e hf
          refine lv_iinc (v := x5) (lv' := [(3, .int x5), (0, .ref (a 7)), (1, .ref (a 3)), (2, .int x_2)]) hx hb dX1_equalsText_40 hl (k := 3) rfl (by rw [ex5]; rfl) (by decide) rfl (fun ls hl => ?_)
          refine lv_goto (tgt := 16) hx hb dX1_equalsText_43 (by decide) ?_
          exact ih16 x_2 x5 _ (lv_sub hl [1, 2, 3, 0] rfl) hf
        · replace hf := if_f hf c4
          refine lv_iconst (v := 0) hx hb dX1_equalsText_38 (by decide) ?_
          exact W.zret (v := 0) hx hb hr rfl (fun t ht _ => ⟨0, rfl, so_i hf, ht⟩) (fun _ h => by cases h) dX1_equalsText_39
  unfold fX1_equalsText at hf
  refine lv_aload_n hx hb dX1_equalsText_0 rfl (lv_at hl 0 rfl) ?_
  refine va_get (D := D) (ci := 0) (v := .int (st.1 15)) (C := RX1) (T := TX1) (N := 2) hx hb hts hiX1 hown hK hP 7 rfl rfl 1 (by decide) k15 (fun _ h9 => h9) rfl dX1_equalsText_1 ?_
  refine lv_aload_n hx hb dX1_equalsText_4 rfl (lv_at hl 1 rfl) ?_
  refine lv_iload_n hx hb dX1_equalsText_5 rfl (lv_at hl 2 rfl) ?_
  obtain ⟨o6, ho6, hf⟩ := ob_e hf
  refine w_callR (b := a 3) (As := [.int p2]) (rest := [.int (st.1 15)]) ⟨hx, hb, hml, hown, hts⟩ (c_X5_lengthOf_c l D cI a tb st p2 o6 ho6) (cwV 1 hts gX1_equalsText_X5_lengthOf rfl rfl rfl (by decide +kernel) ⟨Nat.le_of_ble_eq_true rfl, Nat.le_of_ble_eq_true rfl⟩) hP hK hD hZ hS (va_recv hK hP (ci := 4) (q0 := 3) rfl rfl) rfl hl.1 rfl (Nat.le_of_ble_eq_true rfl) ⟨Nat.zero_le _, Nat.zero_le _⟩ dX1_equalsText_6 ?_
  refine lv_icmp_eq (tgt := 14) hx hb dX1_equalsText_9 (by decide) (fun c7 => ?_) (fun c7 => ?_)
  · replace hf := if_t hf c7
    refine lv_iconst (v := 0) hx hb dX1_equalsText_14 (by decide) ?_
    refine lv_istore_n (lv' := [(3, .int 0), (0, .ref (a 7)), (1, .ref (a 3)), (2, .int p2)]) hx hb dX1_equalsText_15 rfl hl (by decide) rfl (fun ls hl => ?_)
    exact l16 1000 p2 0 _ (lv_sub hl [1, 2, 3, 0] rfl) hf
  · replace hf := if_f hf c7
    refine lv_iconst (v := 0) hx hb dX1_equalsText_12 (by decide) ?_
    exact W.zret (v := 0) hx hb hr rfl (fun t ht _ => ⟨0, rfl, so_i hf, ht⟩) (fun _ h => by cases h) dX1_equalsText_13
