set_option maxHeartbeats 4000000 in
set_option maxRecDepth 100000 in
theorem c_X4_length (l : Launch) (D : va_G) (cI : ClassId) (a tb : Nat → Nat) (st : ST) (r : Int32) (hf : fX4_length st = some r) : MetR l yX4_length wsX4_length ({ frames := 0, cells := 0, slots := 0, locals := 0 }) [.ref (a 1)] D [(cI, .int)] (cw cI a) (cA a) tb st r := by
  refine met_of (cc := cX4_length) (maxL := 1) (ret := (some .int)) (by decide) rfl (Nat.le_of_ble_eq_true rfl) ?_
  intro p e s m below meth c hx hb hr hml hts hown hlk hG ls hl
  have hown : s.vm.findClass RX4 = some m.cls := hown
  obtain ⟨hP, hK, hD, hZ⟩ := hG
  have hS : va_S (cA a) s.heap s.heap [] := va_S.rf
  have hl : lv_has ls 1 [(0, .ref (a 1))] := hl
  have hiX4 : ∀ w ∈ wsX40, w ∈ wsX4_length := by decide +kernel
  have k15 := hts (.fieldLink RX4 15 "DayColumn$Tape" "length" "I") (by decide +kernel)
  unfold fX4_length at hf
  refine lv_aload_n hx hb dX4_length_0 rfl (lv_at hl 0 rfl) ?_
  refine va_get (D := D) (ci := 3) (v := .int (st.1 2)) (C := RX4) (T := TX4) (N := 2) hx hb hts hiX4 hown hK hP 1 rfl rfl 1 (by decide) k15 (fun _ h9 => h9) rfl dX4_length_1 ?_
  exact W.iret (v := (st.1 2)) hx hb hr (fun t ht _ => ⟨(st.1 2), rfl, so_i hf, ht⟩) (fun _ h => by cases h) dX4_length_4
set_option maxHeartbeats 4000000 in
set_option maxRecDepth 100000 in
theorem c_X4_byteAt (l : Launch) (D : va_G) (cI : ClassId) (a tb : Nat → Nat) (st : ST) (p1 : Int32) (r : Int32) (hf : fX4_byteAt st p1 = some r) : MetR l yX4_byteAt wsX4_byteAt ({ frames := 0, cells := 0, slots := 0, locals := 0 }) [.ref (a 1), .int p1] D [(cI, .int)] (cw cI a) (cA a) tb st r := by
  refine met_of (cc := cX4_byteAt) (maxL := 2) (ret := (some .int)) (by decide) rfl (Nat.le_of_ble_eq_true rfl) ?_
  intro p e s m below meth c hx hb hr hml hts hown hlk hG ls hl
  have hown : s.vm.findClass RX4 = some m.cls := hown
  obtain ⟨hP, hK, hD, hZ⟩ := hG
  have hS : va_S (cA a) s.heap s.heap [] := va_S.rf
  have hl : lv_has ls 2 [(0, .ref (a 1)), (1, .int p1)] := hl
  have hiX4 : ∀ w ∈ wsX40, w ∈ wsX4_byteAt := by decide +kernel
  have k15 := hts (.fieldLink RX4 15 "DayColumn$Tape" "length" "I") (by decide +kernel)
  have k9 := hts (.fieldLink RX4 9 "DayColumn$Tape" "bytes" "[I") (by decide +kernel)
  unfold fX4_byteAt at hf
  refine lv_iload_n hx hb dX4_byteAt_0 rfl (lv_at hl 1 rfl) ?_
  refine lv_if_lt (tgt := 12) hx hb dX4_byteAt_1 (by decide) (fun c1 => ?_) (fun c1 => ?_)
  · replace hf := if_t hf c1
    refine lv_iconst (v := -1) hx hb dX4_byteAt_12 (by decide) ?_
    refine lv_goto (tgt := 22) hx hb dX4_byteAt_13 (by decide) ?_
    exact W.iret (v := (-1)) hx hb hr (fun t ht _ => ⟨(-1), rfl, so_i hf, ht⟩) (fun _ h => by cases h) dX4_byteAt_22
  · replace hf := if_f hf c1
    refine lv_iload_n hx hb dX4_byteAt_4 rfl (lv_at hl 1 rfl) ?_
    refine lv_aload_n hx hb dX4_byteAt_5 rfl (lv_at hl 0 rfl) ?_
    refine va_get (D := D) (ci := 3) (v := .int (st.1 2)) (C := RX4) (T := TX4) (N := 2) hx hb hts hiX4 hown hK hP 1 rfl rfl 1 (by decide) k15 (fun _ h9 => h9) rfl dX4_byteAt_6 ?_
    refine lv_icmp_lt (tgt := 16) hx hb dX4_byteAt_9 (by decide) (fun c2 => ?_) (fun c2 => ?_)
    · replace hf := if_t hf c2
      refine lv_aload_n hx hb dX4_byteAt_16 rfl (lv_at hl 0 rfl) ?_
      refine va_get (D := D) (ci := 3) (v := .ref (a 8)) (C := RX4) (T := TX4) (N := 2) hx hb hts hiX4 hown hK hP 1 rfl rfl 0 (by decide) k9 (fun _ h9 => h9) rfl dX4_byteAt_17 ?_
      refine lv_iload_n hx hb dX4_byteAt_20 rfl (lv_at hl 1 rfl) ?_
      obtain ⟨hi3, hf⟩ := ix_e hf
      refine va_iald hx hb hK hP 8 0 rfl rfl hi3 dX4_byteAt_21 ?_
      exact W.iret (v := (st.2 0 (Int32.toNatClampNeg p1))) hx hb hr (fun t ht _ => ⟨(st.2 0 (Int32.toNatClampNeg p1)), rfl, so_i hf, ht⟩) (fun _ h => by cases h) dX4_byteAt_22
    · replace hf := if_f hf c2
      refine lv_iconst (v := -1) hx hb dX4_byteAt_12 (by decide) ?_
      refine lv_goto (tgt := 22) hx hb dX4_byteAt_13 (by decide) ?_
      exact W.iret (v := (-1)) hx hb hr (fun t ht _ => ⟨(-1), rfl, so_i hf, ht⟩) (fun _ h => by cases h) dX4_byteAt_22
set_option maxHeartbeats 4000000 in
set_option maxRecDepth 100000 in
theorem c_X4_append (l : Launch) (D : va_G) (cI : ClassId) (a tb : Nat → Nat) (st : ST) (p1 : Int32) (r : ST) (hf : fX4_append st p1 = some r) : MetV l yX4_append wsX4_append ({ frames := 0, cells := 0, slots := 0, locals := 0 }) [.ref (a 1), .int p1] D [(cI, .int)] (cw cI a) (cA a) tb st r := by
  refine met_of (cc := cX4_append) (maxL := 4) (ret := none) (by decide) rfl (Nat.le_of_ble_eq_true rfl) ?_
  intro p e s m below meth c hx hb hr hml hts hown hlk hG ls hl
  have hown : s.vm.findClass RX4 = some m.cls := hown
  obtain ⟨hP, hK, hD, hZ⟩ := hG
  have hS : va_S (cA a) s.heap s.heap [] := va_S.rf
  have hl : lv_has ls 4 [(0, .ref (a 1)), (1, .int p1)] := hl
  have hiX4 : ∀ w ∈ wsX40, w ∈ wsX4_append := by decide +kernel
  have k15 := hts (.fieldLink RX4 15 "DayColumn$Tape" "length" "I") (by decide +kernel)
  have k9 := hts (.fieldLink RX4 9 "DayColumn$Tape" "bytes" "[I") (by decide +kernel)
  have l3 : ∀ (n : Nat) (x_1 x_2 : Int32) (st : ST) (H : Heap) (locs : List Loc) (ls : Array Slot), va_P D vwCl (cw cI a st) H → va_S (cA a) s.heap H locs → lv_has ls 4 [(0, .ref (a 1)), (1, .int x_1), (2, .int x_2)] → fX4_append_3 n st x_1 x_2 = some r → W p l e ({ frames := 0, cells := 0, slots := 0, locals := 0 }) s m ([.ref (a 1), .int p1] : List Value).toArray below meth c H locs 0 0 (MQ below (va_Qv (fun (u : ST) => u = r) (fun u t => va_P D vwCl (cw cI a u) t.heap) (cA a)) ([.ref (a 1), .int p1] : List Value).toArray s 0 0 (cA a)) (F0 m 3 ls []) := by
    intro n
    induction n with
    | zero =>
      intro x_1 x_2 st H locs ls hP hS hl hf
      cases hf
    | succ n ih3 =>
      intro x_1 x_2 st H locs ls hP hS hl hf
      unfold fX4_append_3 at hf
      refine lv_iload_n hx hb dX4_append_3 rfl (lv_at hl 2 rfl) ?_
      refine lv_if_lt (tgt := 54) hx hb dX4_append_4 (by decide) (fun c1 => ?_) (fun c1 => ?_)
      · replace hf := if_t hf c1
        exact W.vret hx hb hr (fun t ht _ => ⟨⟨st, rfl, so_i hf, p_at ht hP⟩, hS.F ht⟩) hS.2.2 dX4_append_54
      · replace hf := if_f hf c1
        refine lv_iload_n hx hb dX4_append_7 rfl (lv_at hl 1 rfl) ?_
        refine lv_iload_n hx hb dX4_append_8 rfl (lv_at hl 2 rfl) ?_
        refine lv_iushr hx hb dX4_append_9 rfl ?_
        refine lv_sipush (v := 255) hx hb dX4_append_10 (by decide) ?_
        refine lv_iand hx hb dX4_append_13 ?_
        obtain ⟨x2, ex2, hf⟩ := bnd_e hf
        refine w_nm ex2 ?_
        refine lv_istore_n (lv' := [(3, .int x2), (0, .ref (a 1)), (1, .int x_1), (2, .int x_2)]) hx hb dX4_append_14 rfl hl (by decide) rfl (fun ls hl => ?_)
        refine lv_iload_n hx hb dX4_append_15 rfl (lv_at hl 0 rfl) ?_
        refine lv_if_eq (tgt := 48) hx hb dX4_append_16 (by decide) (fun c3 => ?_) (fun c3 => ?_)
        · replace hf := if_t hf c3
          obtain ⟨x4, ex4, hf⟩ := bnd_e hf
          refine lv_iinc (v := x4) (lv' := [(2, .int x4), (3, .int x2), (0, .ref (a 1)), (1, .int x_1)]) hx hb dX4_append_48 hl (k := 3) rfl (by rw [ex4]; rfl) (by decide) rfl (fun ls hl => ?_)
          refine lv_goto (tgt := 3) hx hb dX4_append_51 (by decide) ?_
          exact ih3 x_1 x4 st _ _ _ hP hS (lv_sub hl [2, 3, 0] rfl) hf
        · replace hf := if_f hf c3
          refine lv_aload_n hx hb dX4_append_19 rfl (lv_at hl 1 rfl) ?_
          refine va_get (D := D) (ci := 3) (v := .int (st.1 2)) (C := RX4) (T := TX4) (N := 2) hx hb hts hiX4 hown hK hP 1 rfl rfl 1 (by decide) k15 (fun _ h9 => h9) rfl dX4_append_20 ?_
          refine lv_bipush (v := 24) hx hb dX4_append_23 (by decide) ?_
          refine lv_icmp_ge (tgt := 48) hx hb dX4_append_25 (by decide) (fun c5 => ?_) (fun c5 => ?_)
          · replace hf := if_t hf c5
            obtain ⟨x6, ex6, hf⟩ := bnd_e hf
            refine lv_iinc (v := x6) (lv' := [(2, .int x6), (3, .int x2), (0, .ref (a 1)), (1, .int x_1)]) hx hb dX4_append_48 hl (k := 3) rfl (by rw [ex6]; rfl) (by decide) rfl (fun ls hl => ?_)
            refine lv_goto (tgt := 3) hx hb dX4_append_51 (by decide) ?_
            exact ih3 x_1 x6 st _ _ _ hP hS (lv_sub hl [2, 3, 0] rfl) hf
          · replace hf := if_f hf c5
            refine lv_aload_n hx hb dX4_append_28 rfl (lv_at hl 1 rfl) ?_
            refine va_get (D := D) (ci := 3) (v := .ref (a 8)) (C := RX4) (T := TX4) (N := 2) hx hb hts hiX4 hown hK hP 1 rfl rfl 0 (by decide) k9 (fun _ h9 => h9) rfl dX4_append_29 ?_
            refine lv_aload_n hx hb dX4_append_32 rfl (lv_at hl 1 rfl) ?_
            refine va_get (D := D) (ci := 3) (v := .int (st.1 2)) (C := RX4) (T := TX4) (N := 2) hx hb hts hiX4 hown hK hP 1 rfl rfl 1 (by decide) k15 (fun _ h9 => h9) rfl dX4_append_33 ?_
            refine lv_iload_n hx hb dX4_append_36 rfl (lv_at hl 0 rfl) ?_
            obtain ⟨x7, ex7, hf⟩ := bnd_e hf
            refine w_nm2 ex7 ?_
            obtain ⟨hi8, hf⟩ := ix_e hf
            obtain ⟨s9, es9, hf⟩ := bnd_e hf
            refine va_iast hx hb hK hP (hD st) hS 8 0 rfl rfl hi8 dX4_append_37 (fun H locs hP _ hS => ?_)
            have hP : va_P D vwCl (cw cI a s9) H := by rw [es9]; exact hP
            refine lv_aload_n hx hb dX4_append_38 rfl (lv_at hl 1 rfl) ?_
            refine lv_dup hx hb dX4_append_39 rfl ?_
            refine va_get (D := D) (ci := 3) (v := .int (s9.1 2)) (C := RX4) (T := TX4) (N := 2) hx hb hts hiX4 hown hK hP 1 rfl rfl 1 (by decide) k15 (fun _ h9 => h9) rfl dX4_append_40 ?_
            refine lv_iconst (v := 1) hx hb dX4_append_43 (by decide) ?_
            refine lv_iadd hx hb dX4_append_44 ?_
            obtain ⟨x10, ex10, hf⟩ := bnd_e hf
            refine w_nm ex10 ?_
            obtain ⟨s11, es11, hf⟩ := bnd_e hf
            refine va_put (D := D) (ci := 3) (v := .int x10) (ty := .int) (C := RX4) (T := TX4) (N := 2) hx hb hts hiX4 tyX4 tyX4_ok nmX4 hown hK hP (hD s9) hS 1 rfl rfl 1 (by decide) k15 (fun _ h9 => h9) rfl (by decide +kernel) rfl rfl (Nat.le_of_ble_eq_true rfl) dX4_append_45 (fun H locs hP _ hS => ?_)
            have hP : va_P D vwCl (cw cI a s11) H := by rw [es11]; exact hP
            obtain ⟨x12, ex12, hf⟩ := bnd_e hf
            refine lv_iinc (v := x12) (lv' := [(2, .int x12), (3, .int x2), (0, .ref (a 1)), (1, .int x_1)]) hx hb dX4_append_48 hl (k := 3) rfl (by rw [ex12]; rfl) (by decide) rfl (fun ls hl => ?_)
            refine lv_goto (tgt := 3) hx hb dX4_append_51 (by decide) ?_
            exact ih3 x_1 x12 s11 _ _ _ hP hS (lv_sub hl [2, 3, 0] rfl) hf
  unfold fX4_append at hf
  refine lv_bipush (v := 24) hx hb dX4_append_0 (by decide) ?_
  refine lv_istore_n (lv' := [(2, .int 24), (0, .ref (a 1)), (1, .int p1)]) hx hb dX4_append_2 rfl hl (by decide) rfl (fun ls hl => ?_)
  exact l3 1000 p1 24 st _ _ _ hP hS (lv_sub hl [1, 2, 0] rfl) hf
set_option maxHeartbeats 4000000 in
set_option maxRecDepth 100000 in
theorem c_X4_cut (l : Launch) (D : va_G) (cI : ClassId) (a tb : Nat → Nat) (st : ST) (p1 : Int32) (r : Int32 × ST) (hf : fX4_cut st p1 = some r) : MetW l yX4_cut wsX4_cut ({ frames := 0, cells := 0, slots := 0, locals := 0 }) [.ref (a 1), .int p1] D [(cI, .int)] (cw cI a) (cA a) tb st r := by
  refine met_of (cc := cX4_cut) (maxL := 2) (ret := (some .boolean)) (by decide) rfl (Nat.le_of_ble_eq_true rfl) ?_
  intro p e s m below meth c hx hb hr hml hts hown hlk hG ls hl
  have hown : s.vm.findClass RX4 = some m.cls := hown
  obtain ⟨hP, hK, hD, hZ⟩ := hG
  have hS : va_S (cA a) s.heap s.heap [] := va_S.rf
  have hl : lv_has ls 2 [(0, .ref (a 1)), (1, .int p1)] := hl
  have hiX4 : ∀ w ∈ wsX40, w ∈ wsX4_cut := by decide +kernel
  have k15 := hts (.fieldLink RX4 15 "DayColumn$Tape" "length" "I") (by decide +kernel)
  unfold fX4_cut at hf
  refine lv_iload_n hx hb dX4_cut_0 rfl (lv_at hl 1 rfl) ?_
  refine lv_if_lt (tgt := 12) hx hb dX4_cut_1 (by decide) (fun c1 => ?_) (fun c1 => ?_)
  · replace hf := if_t hf c1
    refine lv_iconst (v := 0) hx hb dX4_cut_12 (by decide) ?_
    exact W.zret (v := 0) hx hb hr rfl (fun t ht _ => ⟨⟨0, st, rfl, so_p hf, p_at ht hP⟩, hS.F ht⟩) hS.2.2 dX4_cut_13
  · replace hf := if_f hf c1
    refine lv_iload_n hx hb dX4_cut_4 rfl (lv_at hl 1 rfl) ?_
    refine lv_aload_n hx hb dX4_cut_5 rfl (lv_at hl 0 rfl) ?_
    refine va_get (D := D) (ci := 3) (v := .int (st.1 2)) (C := RX4) (T := TX4) (N := 2) hx hb hts hiX4 hown hK hP 1 rfl rfl 1 (by decide) k15 (fun _ h9 => h9) rfl dX4_cut_6 ?_
    refine lv_icmp_le (tgt := 14) hx hb dX4_cut_9 (by decide) (fun c2 => ?_) (fun c2 => ?_)
    · replace hf := if_t hf c2
      refine lv_aload_n hx hb dX4_cut_14 rfl (lv_at hl 0 rfl) ?_
      refine lv_iload_n hx hb dX4_cut_15 rfl (lv_at hl 1 rfl) ?_
      obtain ⟨s3, es3, hf⟩ := bnd_e hf
      refine va_put (D := D) (ci := 3) (v := .int p1) (ty := .int) (C := RX4) (T := TX4) (N := 2) hx hb hts hiX4 tyX4 tyX4_ok nmX4 hown hK hP (hD st) hS 1 rfl rfl 1 (by decide) k15 (fun _ h9 => h9) rfl (by decide +kernel) rfl rfl (Nat.le_of_ble_eq_true rfl) dX4_cut_16 (fun H locs hP _ hS => ?_)
      have hP : va_P D vwCl (cw cI a s3) H := by rw [es3]; exact hP
      refine lv_iconst (v := 1) hx hb dX4_cut_19 (by decide) ?_
      exact W.zret (v := 1) hx hb hr rfl (fun t ht _ => ⟨⟨1, s3, rfl, so_p hf, p_at ht hP⟩, hS.F ht⟩) hS.2.2 dX4_cut_20
    · replace hf := if_f hf c2
      refine lv_iconst (v := 0) hx hb dX4_cut_12 (by decide) ?_
      exact W.zret (v := 0) hx hb hr rfl (fun t ht _ => ⟨⟨0, st, rfl, so_p hf, p_at ht hP⟩, hS.F ht⟩) hS.2.2 dX4_cut_13
set_option maxHeartbeats 4000000 in
set_option maxRecDepth 100000 in
theorem c_X4_isText (l : Launch) (D : va_G) (cI : ClassId) (a tb : Nat → Nat) (st : ST) (r : Int32) (hf : fX4_isText st = some r) : MetR l yX4_isText wsX4_isText ({ frames := 0, cells := 0, slots := 0, locals := 0 }) [.ref (a 1)] D [(cI, .int)] (cw cI a) (cA a) tb st r := by
  refine met_of (cc := cX4_isText) (maxL := 2) (ret := (some .boolean)) (by decide) rfl (Nat.le_of_ble_eq_true rfl) ?_
  intro p e s m below meth c hx hb hr hml hts hown hlk hG ls hl
  have hown : s.vm.findClass RX4 = some m.cls := hown
  obtain ⟨hP, hK, hD, hZ⟩ := hG
  have hS : va_S (cA a) s.heap s.heap [] := va_S.rf
  have hl : lv_has ls 2 [(0, .ref (a 1))] := hl
  have hiX4 : ∀ w ∈ wsX40, w ∈ wsX4_isText := by decide +kernel
  have k15 := hts (.fieldLink RX4 15 "DayColumn$Tape" "length" "I") (by decide +kernel)
  have k9 := hts (.fieldLink RX4 9 "DayColumn$Tape" "bytes" "[I") (by decide +kernel)
  have l2 : ∀ (n : Nat) (x_1 : Int32) (ls : Array Slot), lv_has ls 2 [(0, .ref (a 1)), (1, .int x_1)] → fX4_isText_2 n st x_1 = some r → W p l e ({ frames := 0, cells := 0, slots := 0, locals := 0 }) s m ([.ref (a 1)] : List Value).toArray below meth c s.heap [] 0 0 (MQ below (vp_Si (fun z => z = r)) ([.ref (a 1)] : List Value).toArray s 0 0 (fun _ => False)) (F0 m 2 ls []) := by
    intro n
    induction n with
    | zero =>
      intro x_1 ls hl hf
      cases hf
    | succ n ih2 =>
      intro x_1 ls hl hf
      unfold fX4_isText_2 at hf
      refine lv_iload_n hx hb dX4_isText_2 rfl (lv_at hl 1 rfl) ?_
      refine lv_aload_n hx hb dX4_isText_3 rfl (lv_at hl 0 rfl) ?_
      refine va_get (D := D) (ci := 3) (v := .int (st.1 2)) (C := RX4) (T := TX4) (N := 2) hx hb hts hiX4 hown hK hP 1 rfl rfl 1 (by decide) k15 (fun _ h9 => h9) rfl dX4_isText_4 ?_
      refine lv_icmp_ge (tgt := 40) hx hb dX4_isText_7 (by decide) (fun c1 => ?_) (fun c1 => ?_)
      · replace hf := if_t hf c1
        refine lv_iconst (v := 1) hx hb dX4_isText_40 (by decide) ?_
        exact W.zret (v := 1) hx hb hr rfl (fun t ht _ => ⟨1, rfl, so_i hf, ht⟩) (fun _ h => by cases h) dX4_isText_41
      · replace hf := if_f hf c1
        refine lv_aload_n hx hb dX4_isText_10 rfl (lv_at hl 0 rfl) ?_
        refine va_get (D := D) (ci := 3) (v := .ref (a 8)) (C := RX4) (T := TX4) (N := 2) hx hb hts hiX4 hown hK hP 1 rfl rfl 0 (by decide) k9 (fun _ h9 => h9) rfl dX4_isText_11 ?_
        refine lv_iload_n hx hb dX4_isText_14 rfl (lv_at hl 1 rfl) ?_
        obtain ⟨hi2, hf⟩ := ix_e hf
        refine va_iald hx hb hK hP 8 0 rfl rfl hi2 dX4_isText_15 ?_
        refine lv_bipush (v := 32) hx hb dX4_isText_16 (by decide) ?_
        refine lv_icmp_lt (tgt := 32) hx hb dX4_isText_18 (by decide) (fun c3 => ?_) (fun c3 => ?_)
        · replace hf := if_t hf c3
          refine lv_iconst (v := 0) hx hb dX4_isText_32 (by decide) ?_
          exact W.zret (v := 0) hx hb hr rfl (fun t ht _ => ⟨0, rfl, so_i hf, ht⟩) (fun _ h => by cases h) dX4_isText_33
        · replace hf := if_f hf c3
          refine lv_aload_n hx hb dX4_isText_21 rfl (lv_at hl 0 rfl) ?_
          refine va_get (D := D) (ci := 3) (v := .ref (a 8)) (C := RX4) (T := TX4) (N := 2) hx hb hts hiX4 hown hK hP 1 rfl rfl 0 (by decide) k9 (fun _ h9 => h9) rfl dX4_isText_22 ?_
          refine lv_iload_n hx hb dX4_isText_25 rfl (lv_at hl 1 rfl) ?_
          obtain ⟨hi4, hf⟩ := ix_e hf
          refine va_iald hx hb hK hP 8 0 rfl rfl hi4 dX4_isText_26 ?_
          refine lv_bipush (v := 126) hx hb dX4_isText_27 (by decide) ?_
          refine lv_icmp_le (tgt := 34) hx hb dX4_isText_29 (by decide) (fun c5 => ?_) (fun c5 => ?_)
          · replace hf := if_t hf c5
            obtain ⟨x6, ex6, hf⟩ := bnd_e hf
            refine lv_iinc (v := x6) (lv' := [(1, .int x6), (0, .ref (a 1))]) hx hb dX4_isText_34 hl (k := 1) rfl (by rw [ex6]; rfl) (by decide) rfl (fun ls hl => ?_)
            refine lv_goto (tgt := 2) hx hb dX4_isText_37 (by decide) ?_
            exact ih2 x6 _ (lv_sub hl [1, 0] rfl) hf
          · replace hf := if_f hf c5
            refine lv_iconst (v := 0) hx hb dX4_isText_32 (by decide) ?_
            exact W.zret (v := 0) hx hb hr rfl (fun t ht _ => ⟨0, rfl, so_i hf, ht⟩) (fun _ h => by cases h) dX4_isText_33
  unfold fX4_isText at hf
  refine lv_iconst (v := 0) hx hb dX4_isText_0 (by decide) ?_
  refine lv_istore_n (lv' := [(1, .int 0), (0, .ref (a 1))]) hx hb dX4_isText_1 rfl hl (by decide) rfl (fun ls hl => ?_)
  exact l2 1000 0 _ (lv_sub hl [1, 0] rfl) hf
set_option maxHeartbeats 4000000 in
set_option maxRecDepth 100000 in
theorem c_X4_countOf (l : Launch) (D : va_G) (cI : ClassId) (a tb : Nat → Nat) (st : ST) (p1 : Int32) (r : Int32) (hf : fX4_countOf st p1 = some r) : MetR l yX4_countOf wsX4_countOf ({ frames := 0, cells := 0, slots := 0, locals := 0 }) [.ref (a 1), .int p1] D [(cI, .int)] (cw cI a) (cA a) tb st r := by
  refine met_of (cc := cX4_countOf) (maxL := 4) (ret := (some .int)) (by decide) rfl (Nat.le_of_ble_eq_true rfl) ?_
  intro p e s m below meth c hx hb hr hml hts hown hlk hG ls hl
  have hown : s.vm.findClass RX4 = some m.cls := hown
  obtain ⟨hP, hK, hD, hZ⟩ := hG
  have hS : va_S (cA a) s.heap s.heap [] := va_S.rf
  have hl : lv_has ls 4 [(0, .ref (a 1)), (1, .int p1)] := hl
  have hiX4 : ∀ w ∈ wsX40, w ∈ wsX4_countOf := by decide +kernel
  have k15 := hts (.fieldLink RX4 15 "DayColumn$Tape" "length" "I") (by decide +kernel)
  have k9 := hts (.fieldLink RX4 9 "DayColumn$Tape" "bytes" "[I") (by decide +kernel)
  have l4 : ∀ (n : Nat) (x_1 x_2 x_3 : Int32) (ls : Array Slot), lv_has ls 4 [(0, .ref (a 1)), (1, .int x_1), (2, .int x_2), (3, .int x_3)] → fX4_countOf_4 n st x_1 x_2 x_3 = some r → W p l e ({ frames := 0, cells := 0, slots := 0, locals := 0 }) s m ([.ref (a 1), .int p1] : List Value).toArray below meth c s.heap [] 0 0 (MQ below (vp_Si (fun z => z = r)) ([.ref (a 1), .int p1] : List Value).toArray s 0 0 (fun _ => False)) (F0 m 4 ls []) := by
    intro n
    induction n with
    | zero =>
      intro x_1 x_2 x_3 ls hl hf
      cases hf
    | succ n ih4 =>
      intro x_1 x_2 x_3 ls hl hf
      unfold fX4_countOf_4 at hf
      refine lv_iload_n hx hb dX4_countOf_4 rfl (lv_at hl 3 rfl) ?_
      refine lv_aload_n hx hb dX4_countOf_5 rfl (lv_at hl 0 rfl) ?_
      refine va_get (D := D) (ci := 3) (v := .int (st.1 2)) (C := RX4) (T := TX4) (N := 2) hx hb hts hiX4 hown hK hP 1 rfl rfl 1 (by decide) k15 (fun _ h9 => h9) rfl dX4_countOf_6 ?_
      refine lv_icmp_ge (tgt := 31) hx hb dX4_countOf_9 (by decide) (fun c1 => ?_) (fun c1 => ?_)
      · replace hf := if_t hf c1
        refine lv_iload_n hx hb dX4_countOf_31 rfl (lv_at hl 2 rfl) ?_
        exact W.iret (v := x_2) hx hb hr (fun t ht _ => ⟨x_2, rfl, so_i hf, ht⟩) (fun _ h => by cases h) dX4_countOf_32
      · replace hf := if_f hf c1
        refine lv_aload_n hx hb dX4_countOf_12 rfl (lv_at hl 0 rfl) ?_
        refine va_get (D := D) (ci := 3) (v := .ref (a 8)) (C := RX4) (T := TX4) (N := 2) hx hb hts hiX4 hown hK hP 1 rfl rfl 0 (by decide) k9 (fun _ h9 => h9) rfl dX4_countOf_13 ?_
        refine lv_iload_n hx hb dX4_countOf_16 rfl (lv_at hl 3 rfl) ?_
        obtain ⟨hi2, hf⟩ := ix_e hf
        refine va_iald hx hb hK hP 8 0 rfl rfl hi2 dX4_countOf_17 ?_
        refine lv_iload_n hx hb dX4_countOf_18 rfl (lv_at hl 1 rfl) ?_
        refine lv_icmp_ne (tgt := 25) hx hb dX4_countOf_19 (by decide) (fun c3 => ?_) (fun c3 => ?_)
        · replace hf := if_f hf c3
          obtain ⟨x4, ex4, hf⟩ := bnd_e hf
          refine lv_iinc (v := x4) (lv' := [(3, .int x4), (0, .ref (a 1)), (1, .int x_1), (2, .int x_2)]) hx hb dX4_countOf_25 hl (k := 3) rfl (by rw [ex4]; rfl) (by decide) rfl (fun ls hl => ?_)
          refine lv_goto (tgt := 4) hx hb dX4_countOf_28 (by decide) ?_
          exact ih4 x_1 x_2 x4 _ (lv_sub hl [1, 2, 3, 0] rfl) hf
        · replace hf := if_t hf c3
          obtain ⟨x5, ex5, hf⟩ := bnd_e hf
          refine lv_iinc (v := x5) (lv' := [(2, .int x5), (0, .ref (a 1)), (1, .int x_1), (3, .int x_3)]) hx hb dX4_countOf_22 hl (k := 2) rfl (by rw [ex5]; rfl) (by decide) rfl (fun ls hl => ?_)
          obtain ⟨x6, ex6, hf⟩ := bnd_e hf
          refine lv_iinc (v := x6) (lv' := [(3, .int x6), (2, .int x5), (0, .ref (a 1)), (1, .int x_1)]) hx hb dX4_countOf_25 hl (k := 3) rfl (by rw [ex6]; rfl) (by decide) rfl (fun ls hl => ?_)
          refine lv_goto (tgt := 4) hx hb dX4_countOf_28 (by decide) ?_
          exact ih4 x_1 x5 x6 _ (lv_sub hl [2, 3, 1, 0] rfl) hf
  unfold fX4_countOf at hf
  refine lv_iconst (v := 0) hx hb dX4_countOf_0 (by decide) ?_
  refine lv_istore_n (lv' := [(2, .int 0), (0, .ref (a 1)), (1, .int p1)]) hx hb dX4_countOf_1 rfl hl (by decide) rfl (fun ls hl => ?_)
  refine lv_iconst (v := 0) hx hb dX4_countOf_2 (by decide) ?_
  refine lv_istore_n (lv' := [(3, .int 0), (2, .int 0), (0, .ref (a 1)), (1, .int p1)]) hx hb dX4_countOf_3 rfl hl (by decide) rfl (fun ls hl => ?_)
  exact l4 1000 p1 0 0 _ (lv_sub hl [2, 3, 1, 0] rfl) hf
set_option maxHeartbeats 4000000 in
set_option maxRecDepth 100000 in
theorem c_X4_isPattern (l : Launch) (D : va_G) (cI : ClassId) (a tb : Nat → Nat) (st : ST) (r : Int32) (hf : fX4_isPattern st = some r) : MetR l yX4_isPattern wsX4_isPattern ({ frames := 1, cells := 0, slots := 0, locals := 23 }) [.ref (a 1)] D [(cI, .int)] (cw cI a) (cA a) tb st r := by
  refine met_of (cc := cX4_isPattern) (maxL := 5) (ret := (some .boolean)) (by decide) rfl (Nat.le_of_ble_eq_true rfl) ?_
  intro p e s m below meth c hx hb hr hml hts hown hlk hG ls hl
  have hown : s.vm.findClass RX4 = some m.cls := hown
  obtain ⟨hP, hK, hD, hZ⟩ := hG
  have hS : va_S (cA a) s.heap s.heap [] := va_S.rf
  have hl : lv_has ls 5 [(0, .ref (a 1))] := hl
  unfold fX4_isPattern at hf
  refine lv_aload_n hx hb dX4_isPattern_0 rfl (lv_at hl 0 rfl) ?_
  refine lv_bipush (v := 68) hx hb dX4_isPattern_1 (by decide) ?_
  obtain ⟨o1, ho1, hf⟩ := ob_e hf
  refine w_callR (b := a 1) (As := [.int 68]) (rest := []) ⟨hx, hb, hml, hown, hts⟩ (c_X4_countOf l D cI a tb st 68 o1 ho1) (cwV 1 hts gX4_isPattern_X4_countOf rfl rfl rfl (by decide +kernel) ⟨Nat.le_of_ble_eq_true rfl, Nat.le_of_ble_eq_true rfl⟩) hP hK hD hZ hS (va_recv hK hP (ci := 3) (q0 := 1) rfl rfl) rfl hl.1 rfl (Nat.le_of_ble_eq_true rfl) ⟨Nat.zero_le _, Nat.zero_le _⟩ dX4_isPattern_3 ?_
  refine lv_istore_n (lv' := [(1, .int o1), (0, .ref (a 1))]) hx hb dX4_isPattern_6 rfl hl (by decide) rfl (fun ls hl => ?_)
  refine lv_aload_n hx hb dX4_isPattern_7 rfl (lv_at hl 1 rfl) ?_
  refine lv_bipush (v := 77) hx hb dX4_isPattern_8 (by decide) ?_
  obtain ⟨o2, ho2, hf⟩ := ob_e hf
  refine w_callR (b := a 1) (As := [.int 77]) (rest := []) ⟨hx, hb, hml, hown, hts⟩ (c_X4_countOf l D cI a tb st 77 o2 ho2) (cwV 1 hts gX4_isPattern_X4_countOf rfl rfl rfl (by decide +kernel) ⟨Nat.le_of_ble_eq_true rfl, Nat.le_of_ble_eq_true rfl⟩) hP hK hD hZ hS (va_recv hK hP (ci := 3) (q0 := 1) rfl rfl) rfl hl.1 rfl (Nat.le_of_ble_eq_true rfl) ⟨Nat.zero_le _, Nat.zero_le _⟩ dX4_isPattern_10 ?_
  refine lv_aload_n hx hb dX4_isPattern_13 rfl (lv_at hl 1 rfl) ?_
  refine lv_bipush (v := 78) hx hb dX4_isPattern_14 (by decide) ?_
  obtain ⟨o3, ho3, hf⟩ := ob_e hf
  refine w_callR (b := a 1) (As := [.int 78]) (rest := [.int o2]) ⟨hx, hb, hml, hown, hts⟩ (c_X4_countOf l D cI a tb st 78 o3 ho3) (cwV 1 hts gX4_isPattern_X4_countOf rfl rfl rfl (by decide +kernel) ⟨Nat.le_of_ble_eq_true rfl, Nat.le_of_ble_eq_true rfl⟩) hP hK hD hZ hS (va_recv hK hP (ci := 3) (q0 := 1) rfl rfl) rfl hl.1 rfl (Nat.le_of_ble_eq_true rfl) ⟨Nat.zero_le _, Nat.zero_le _⟩ dX4_isPattern_16 ?_
  refine lv_iadd hx hb dX4_isPattern_19 ?_
  obtain ⟨x4, ex4, hf⟩ := bnd_e hf
  refine w_nm ex4 ?_
  refine lv_istore_n (lv' := [(2, .int x4), (1, .int o1), (0, .ref (a 1))]) hx hb dX4_isPattern_20 rfl hl (by decide) rfl (fun ls hl => ?_)
  refine lv_aload_n hx hb dX4_isPattern_21 rfl (lv_at hl 2 rfl) ?_
  refine lv_bipush (v := 89) hx hb dX4_isPattern_22 (by decide) ?_
  obtain ⟨o5, ho5, hf⟩ := ob_e hf
  refine w_callR (b := a 1) (As := [.int 89]) (rest := []) ⟨hx, hb, hml, hown, hts⟩ (c_X4_countOf l D cI a tb st 89 o5 ho5) (cwV 1 hts gX4_isPattern_X4_countOf rfl rfl rfl (by decide +kernel) ⟨Nat.le_of_ble_eq_true rfl, Nat.le_of_ble_eq_true rfl⟩) hP hK hD hZ hS (va_recv hK hP (ci := 3) (q0 := 1) rfl rfl) rfl hl.1 rfl (Nat.le_of_ble_eq_true rfl) ⟨Nat.zero_le _, Nat.zero_le _⟩ dX4_isPattern_24 ?_
  refine lv_aload_n hx hb dX4_isPattern_27 rfl (lv_at hl 2 rfl) ?_
  refine lv_bipush (v := 121) hx hb dX4_isPattern_28 (by decide) ?_
  obtain ⟨o6, ho6, hf⟩ := ob_e hf
  refine w_callR (b := a 1) (As := [.int 121]) (rest := [.int o5]) ⟨hx, hb, hml, hown, hts⟩ (c_X4_countOf l D cI a tb st 121 o6 ho6) (cwV 1 hts gX4_isPattern_X4_countOf rfl rfl rfl (by decide +kernel) ⟨Nat.le_of_ble_eq_true rfl, Nat.le_of_ble_eq_true rfl⟩) hP hK hD hZ hS (va_recv hK hP (ci := 3) (q0 := 1) rfl rfl) rfl hl.1 rfl (Nat.le_of_ble_eq_true rfl) ⟨Nat.zero_le _, Nat.zero_le _⟩ dX4_isPattern_30 ?_
  refine lv_iadd hx hb dX4_isPattern_33 ?_
  obtain ⟨x7, ex7, hf⟩ := bnd_e hf
  refine w_nm ex7 ?_
  refine lv_istore_n (lv' := [(3, .int x7), (2, .int x4), (1, .int o1), (0, .ref (a 1))]) hx hb dX4_isPattern_34 rfl hl (by decide) rfl (fun ls hl => ?_)
  refine lv_aload_n hx hb dX4_isPattern_35 rfl (lv_at hl 3 rfl) ?_
  refine lv_bipush (v := 87) hx hb dX4_isPattern_36 (by decide) ?_
  obtain ⟨o8, ho8, hf⟩ := ob_e hf
  refine w_callR (b := a 1) (As := [.int 87]) (rest := []) ⟨hx, hb, hml, hown, hts⟩ (c_X4_countOf l D cI a tb st 87 o8 ho8) (cwV 1 hts gX4_isPattern_X4_countOf rfl rfl rfl (by decide +kernel) ⟨Nat.le_of_ble_eq_true rfl, Nat.le_of_ble_eq_true rfl⟩) hP hK hD hZ hS (va_recv hK hP (ci := 3) (q0 := 1) rfl rfl) rfl hl.1 rfl (Nat.le_of_ble_eq_true rfl) ⟨Nat.zero_le _, Nat.zero_le _⟩ dX4_isPattern_38 ?_
  refine lv_istore (lv' := [(4, .int o8), (3, .int x7), (2, .int x4), (1, .int o1), (0, .ref (a 1))]) hx hb dX4_isPattern_41 hl (by decide) rfl (fun ls hl => ?_)
  refine lv_aload_n hx hb dX4_isPattern_43 rfl (lv_at hl 4 rfl) ?_
  obtain ⟨o9, ho9, hf⟩ := ob_e hf
  refine w_callR (b := a 1) (As := []) (rest := []) ⟨hx, hb, hml, hown, hts⟩ (c_X4_isText l D cI a tb st o9 ho9) (cwV 0 hts gX4_isPattern_X4_isText rfl rfl rfl (by decide +kernel) ⟨Nat.le_of_ble_eq_true rfl, Nat.le_of_ble_eq_true rfl⟩) hP hK hD hZ hS (va_recv hK hP (ci := 3) (q0 := 1) rfl rfl) rfl hl.1 rfl (Nat.le_of_ble_eq_true rfl) ⟨Nat.zero_le _, Nat.zero_le _⟩ dX4_isPattern_44 ?_
  refine lv_if_eq (tgt := 75) hx hb dX4_isPattern_47 (by decide) (fun c10 => ?_) (fun c10 => ?_)
  · replace hf := if_t hf c10
    refine lv_iconst (v := 0) hx hb dX4_isPattern_75 (by decide) ?_
    exact W.zret (v := 0) hx hb hr rfl (fun t ht _ => ⟨0, rfl, so_i hf, ht⟩) (fun _ h => by cases h) dX4_isPattern_76
  · replace hf := if_f hf c10
    refine lv_iload_n hx hb dX4_isPattern_50 rfl (lv_at hl 3 rfl) ?_
    refine lv_iconst (v := 1) hx hb dX4_isPattern_51 (by decide) ?_
    refine lv_icmp_gt (tgt := 75) hx hb dX4_isPattern_52 (by decide) (fun c11 => ?_) (fun c11 => ?_)
    · replace hf := if_t hf c11
      refine lv_iconst (v := 0) hx hb dX4_isPattern_75 (by decide) ?_
      exact W.zret (v := 0) hx hb hr rfl (fun t ht _ => ⟨0, rfl, so_i hf, ht⟩) (fun _ h => by cases h) dX4_isPattern_76
    · replace hf := if_f hf c11
      refine lv_iload_n hx hb dX4_isPattern_55 rfl (lv_at hl 2 rfl) ?_
      refine lv_iconst (v := 1) hx hb dX4_isPattern_56 (by decide) ?_
      refine lv_icmp_ne (tgt := 75) hx hb dX4_isPattern_57 (by decide) (fun c12 => ?_) (fun c12 => ?_)
      · replace hf := if_f hf c12
        refine lv_iconst (v := 0) hx hb dX4_isPattern_75 (by decide) ?_
        exact W.zret (v := 0) hx hb hr rfl (fun t ht _ => ⟨0, rfl, so_i hf, ht⟩) (fun _ h => by cases h) dX4_isPattern_76
      · replace hf := if_t hf c12
        refine lv_iload_n hx hb dX4_isPattern_60 rfl (lv_at hl 1 rfl) ?_
        refine lv_iconst (v := 1) hx hb dX4_isPattern_61 (by decide) ?_
        refine lv_icmp_ne (tgt := 75) hx hb dX4_isPattern_62 (by decide) (fun c13 => ?_) (fun c13 => ?_)
        · replace hf := if_f hf c13
          refine lv_iconst (v := 0) hx hb dX4_isPattern_75 (by decide) ?_
          exact W.zret (v := 0) hx hb hr rfl (fun t ht _ => ⟨0, rfl, so_i hf, ht⟩) (fun _ h => by cases h) dX4_isPattern_76
        · replace hf := if_t hf c13
          refine lv_iload hx hb dX4_isPattern_65 (lv_at hl 0 rfl) ?_
          refine lv_iconst (v := 1) hx hb dX4_isPattern_67 (by decide) ?_
          refine lv_icmp_gt (tgt := 75) hx hb dX4_isPattern_68 (by decide) (fun c14 => ?_) (fun c14 => ?_)
          · replace hf := if_t hf c14
            refine lv_iconst (v := 0) hx hb dX4_isPattern_75 (by decide) ?_
            exact W.zret (v := 0) hx hb hr rfl (fun t ht _ => ⟨0, rfl, so_i hf, ht⟩) (fun _ h => by cases h) dX4_isPattern_76
          · replace hf := if_f hf c14
            refine lv_iconst (v := 1) hx hb dX4_isPattern_71 (by decide) ?_
            refine lv_goto (tgt := 76) hx hb dX4_isPattern_72 (by decide) ?_
            exact W.zret (v := 1) hx hb hr rfl (fun t ht _ => ⟨1, rfl, so_i hf, ht⟩) (fun _ h => by cases h) dX4_isPattern_76
set_option maxHeartbeats 4000000 in
set_option maxRecDepth 100000 in
theorem c_X5_size_p (l : Launch) (D : va_G) (cI : ClassId) (a tb : Nat → Nat) (st : ST) (r : Int32) (hf : fX5_size_p st = some r) : MetR l yX5_size wsX5_size ({ frames := 0, cells := 0, slots := 0, locals := 0 }) [.ref (a 2)] D [(cI, .int)] (cw cI a) (cA a) tb st r := by
  refine met_of (cc := cX5_size) (maxL := 1) (ret := (some .int)) (by decide) rfl (Nat.le_of_ble_eq_true rfl) ?_
  intro p e s m below meth c hx hb hr hml hts hown hlk hG ls hl
  have hown : s.vm.findClass RX5 = some m.cls := hown
  obtain ⟨hP, hK, hD, hZ⟩ := hG
  have hS : va_S (cA a) s.heap s.heap [] := va_S.rf
  have hl : lv_has ls 1 [(0, .ref (a 2))] := hl
  have hiX5 : ∀ w ∈ wsX50, w ∈ wsX5_size := by decide +kernel
  have k27 := hts (.fieldLink RX5 27 "DayColumn$Texts" "size" "I") (by decide +kernel)
  unfold fX5_size_p at hf
  refine lv_aload_n hx hb dX5_size_0 rfl (lv_at hl 0 rfl) ?_
  refine va_get (D := D) (ci := 4) (v := .int (st.1 3)) (C := RX5) (T := TX5) (N := 3) hx hb hts hiX5 hown hK hP 2 rfl rfl 2 (by decide) k27 (fun _ h9 => h9) rfl dX5_size_1 ?_
  exact W.iret (v := (st.1 3)) hx hb hr (fun t ht _ => ⟨(st.1 3), rfl, so_i hf, ht⟩) (fun _ h => by cases h) dX5_size_4
set_option maxHeartbeats 4000000 in
set_option maxRecDepth 100000 in
theorem c_X5_isFull_p (l : Launch) (D : va_G) (cI : ClassId) (a tb : Nat → Nat) (st : ST) (r : Int32) (hf : fX5_isFull_p st = some r) : MetR l yX5_isFull wsX5_isFull ({ frames := 0, cells := 0, slots := 0, locals := 0 }) [.ref (a 2)] D [(cI, .int)] (cw cI a) (cA a) tb st r := by
  refine met_of (cc := cX5_isFull) (maxL := 1) (ret := (some .boolean)) (by decide) rfl (Nat.le_of_ble_eq_true rfl) ?_
  intro p e s m below meth c hx hb hr hml hts hown hlk hG ls hl
  have hown : s.vm.findClass RX5 = some m.cls := hown
  obtain ⟨hP, hK, hD, hZ⟩ := hG
  have hS : va_S (cA a) s.heap s.heap [] := va_S.rf
  have hl : lv_has ls 1 [(0, .ref (a 2))] := hl
  have hiX5 : ∀ w ∈ wsX50, w ∈ wsX5_isFull := by decide +kernel
  have k24 := hts (.fieldLink RX5 24 "DayColumn$Texts" "lengths" "[I") (by decide +kernel)
  have k27 := hts (.fieldLink RX5 27 "DayColumn$Texts" "size" "I") (by decide +kernel)
  unfold fX5_isFull_p at hf
  refine lv_aload_n hx hb dX5_isFull_0 rfl (lv_at hl 0 rfl) ?_
  refine va_get (D := D) (ci := 4) (v := .int (st.1 3)) (C := RX5) (T := TX5) (N := 3) hx hb hts hiX5 hown hK hP 2 rfl rfl 2 (by decide) k27 (fun _ h9 => h9) rfl dX5_isFull_1 ?_
  refine lv_aload_n hx hb dX5_isFull_4 rfl (lv_at hl 0 rfl) ?_
  refine va_get (D := D) (ci := 4) (v := .ref (a 10)) (C := RX5) (T := TX5) (N := 3) hx hb hts hiX5 hown hK hP 2 rfl rfl 1 (by decide) k24 (fun _ h9 => h9) rfl dX5_isFull_5 ?_
  refine va_alen hx hb hK hP 10 0 rfl rfl (v := 8) rfl dX5_isFull_8 ?_
  refine lv_icmp_lt (tgt := 16) hx hb dX5_isFull_9 (by decide) (fun c1 => ?_) (fun c1 => ?_)
  · replace hf := if_t hf c1
    refine lv_iconst (v := 0) hx hb dX5_isFull_16 (by decide) ?_
    exact W.zret (v := 0) hx hb hr rfl (fun t ht _ => ⟨0, rfl, so_i hf, ht⟩) (fun _ h => by cases h) dX5_isFull_17
  · replace hf := if_f hf c1
    refine lv_iconst (v := 1) hx hb dX5_isFull_12 (by decide) ?_
    refine lv_goto (tgt := 17) hx hb dX5_isFull_13 (by decide) ?_
    exact W.zret (v := 1) hx hb hr rfl (fun t ht _ => ⟨1, rfl, so_i hf, ht⟩) (fun _ h => by cases h) dX5_isFull_17
set_option maxHeartbeats 4000000 in
set_option maxRecDepth 100000 in
theorem c_X5_has_p (l : Launch) (D : va_G) (cI : ClassId) (a tb : Nat → Nat) (st : ST) (p1 : Int32) (r : Int32) (hf : fX5_has_p st p1 = some r) : MetR l yX5_has wsX5_has ({ frames := 0, cells := 0, slots := 0, locals := 0 }) [.ref (a 2), .int p1] D [(cI, .int)] (cw cI a) (cA a) tb st r := by
  refine met_of (cc := cX5_has) (maxL := 2) (ret := (some .boolean)) (by decide) rfl (Nat.le_of_ble_eq_true rfl) ?_
  intro p e s m below meth c hx hb hr hml hts hown hlk hG ls hl
  have hown : s.vm.findClass RX5 = some m.cls := hown
  obtain ⟨hP, hK, hD, hZ⟩ := hG
  have hS : va_S (cA a) s.heap s.heap [] := va_S.rf
  have hl : lv_has ls 2 [(0, .ref (a 2)), (1, .int p1)] := hl
  have hiX5 : ∀ w ∈ wsX50, w ∈ wsX5_has := by decide +kernel
  have k27 := hts (.fieldLink RX5 27 "DayColumn$Texts" "size" "I") (by decide +kernel)
  unfold fX5_has_p at hf
  refine lv_iload_n hx hb dX5_has_0 rfl (lv_at hl 1 rfl) ?_
  refine lv_if_lt (tgt := 16) hx hb dX5_has_1 (by decide) (fun c1 => ?_) (fun c1 => ?_)
  · replace hf := if_t hf c1
    refine lv_iconst (v := 0) hx hb dX5_has_16 (by decide) ?_
    exact W.zret (v := 0) hx hb hr rfl (fun t ht _ => ⟨0, rfl, so_i hf, ht⟩) (fun _ h => by cases h) dX5_has_17
  · replace hf := if_f hf c1
    refine lv_iload_n hx hb dX5_has_4 rfl (lv_at hl 1 rfl) ?_
    refine lv_aload_n hx hb dX5_has_5 rfl (lv_at hl 0 rfl) ?_
    refine va_get (D := D) (ci := 4) (v := .int (st.1 3)) (C := RX5) (T := TX5) (N := 3) hx hb hts hiX5 hown hK hP 2 rfl rfl 2 (by decide) k27 (fun _ h9 => h9) rfl dX5_has_6 ?_
    refine lv_icmp_ge (tgt := 16) hx hb dX5_has_9 (by decide) (fun c2 => ?_) (fun c2 => ?_)
    · replace hf := if_t hf c2
      refine lv_iconst (v := 0) hx hb dX5_has_16 (by decide) ?_
      exact W.zret (v := 0) hx hb hr rfl (fun t ht _ => ⟨0, rfl, so_i hf, ht⟩) (fun _ h => by cases h) dX5_has_17
    · replace hf := if_f hf c2
      refine lv_iconst (v := 1) hx hb dX5_has_12 (by decide) ?_
      refine lv_goto (tgt := 17) hx hb dX5_has_13 (by decide) ?_
      exact W.zret (v := 1) hx hb hr rfl (fun t ht _ => ⟨1, rfl, so_i hf, ht⟩) (fun _ h => by cases h) dX5_has_17
set_option maxHeartbeats 4000000 in
set_option maxRecDepth 100000 in
theorem c_X5_lengthOf_p (l : Launch) (D : va_G) (cI : ClassId) (a tb : Nat → Nat) (st : ST) (p1 : Int32) (r : Int32) (hf : fX5_lengthOf_p st p1 = some r) : MetR l yX5_lengthOf wsX5_lengthOf ({ frames := 1, cells := 0, slots := 0, locals := 21 }) [.ref (a 2), .int p1] D [(cI, .int)] (cw cI a) (cA a) tb st r := by
  refine met_of (cc := cX5_lengthOf) (maxL := 2) (ret := (some .int)) (by decide) rfl (Nat.le_of_ble_eq_true rfl) ?_
  intro p e s m below meth c hx hb hr hml hts hown hlk hG ls hl
  have hown : s.vm.findClass RX5 = some m.cls := hown
  obtain ⟨hP, hK, hD, hZ⟩ := hG
  have hS : va_S (cA a) s.heap s.heap [] := va_S.rf
  have hl : lv_has ls 2 [(0, .ref (a 2)), (1, .int p1)] := hl
  have hiX5 : ∀ w ∈ wsX50, w ∈ wsX5_lengthOf := by decide +kernel
  have k24 := hts (.fieldLink RX5 24 "DayColumn$Texts" "lengths" "[I") (by decide +kernel)
  unfold fX5_lengthOf_p at hf
  refine lv_aload_n hx hb dX5_lengthOf_0 rfl (lv_at hl 0 rfl) ?_
  refine lv_iload_n hx hb dX5_lengthOf_1 rfl (lv_at hl 1 rfl) ?_
  obtain ⟨o1, ho1, hf⟩ := ob_e hf
  refine w_callR (b := a 2) (As := [.int p1]) (rest := []) ⟨hx, hb, hml, hown, hts⟩ (c_X5_has_p l D cI a tb st p1 o1 ho1) (cwV 1 hts gX5_lengthOf_X5_has rfl rfl rfl (by decide +kernel) ⟨Nat.le_of_ble_eq_true rfl, Nat.le_of_ble_eq_true rfl⟩) hP hK hD hZ hS (va_recv hK hP (ci := 4) (q0 := 2) rfl rfl) rfl hl.1 rfl (Nat.le_of_ble_eq_true rfl) ⟨Nat.zero_le _, Nat.zero_le _⟩ dX5_lengthOf_2 ?_
  refine lv_if_eq (tgt := 17) hx hb dX5_lengthOf_5 (by decide) (fun c2 => ?_) (fun c2 => ?_)
  · replace hf := if_t hf c2
    refine lv_iconst (v := 0) hx hb dX5_lengthOf_17 (by decide) ?_
    exact W.iret (v := 0) hx hb hr (fun t ht _ => ⟨0, rfl, so_i hf, ht⟩) (fun _ h => by cases h) dX5_lengthOf_18
  · replace hf := if_f hf c2
    refine lv_aload_n hx hb dX5_lengthOf_8 rfl (lv_at hl 0 rfl) ?_
    refine va_get (D := D) (ci := 4) (v := .ref (a 10)) (C := RX5) (T := TX5) (N := 3) hx hb hts hiX5 hown hK hP 2 rfl rfl 1 (by decide) k24 (fun _ h9 => h9) rfl dX5_lengthOf_9 ?_
    refine lv_iload_n hx hb dX5_lengthOf_12 rfl (lv_at hl 1 rfl) ?_
    obtain ⟨hi3, hf⟩ := ix_e hf
    refine va_iald hx hb hK hP 10 0 rfl rfl hi3 dX5_lengthOf_13 ?_
    refine lv_goto (tgt := 18) hx hb dX5_lengthOf_14 (by decide) ?_
    exact W.iret (v := (st.2 2 (Int32.toNatClampNeg p1))) hx hb hr (fun t ht _ => ⟨(st.2 2 (Int32.toNatClampNeg p1)), rfl, so_i hf, ht⟩) (fun _ h => by cases h) dX5_lengthOf_18
set_option maxHeartbeats 4000000 in
set_option maxRecDepth 100000 in
theorem c_X5_byteAt_p (l : Launch) (D : va_G) (cI : ClassId) (a tb : Nat → Nat) (st : ST) (p1 p2 : Int32) (r : Int32) (hf : fX5_byteAt_p st p1 p2 = some r) : MetR l yX5_byteAt wsX5_byteAt ({ frames := 2, cells := 0, slots := 0, locals := 42 }) [.ref (a 2), .int p1, .int p2] D [(cI, .int)] (cw cI a) (cA a) tb st r := by
  refine met_of (cc := cX5_byteAt) (maxL := 3) (ret := (some .int)) (by decide) rfl (Nat.le_of_ble_eq_true rfl) ?_
  intro p e s m below meth c hx hb hr hml hts hown hlk hG ls hl
  have hown : s.vm.findClass RX5 = some m.cls := hown
  obtain ⟨hP, hK, hD, hZ⟩ := hG
  have hS : va_S (cA a) s.heap s.heap [] := va_S.rf
  have hl : lv_has ls 3 [(0, .ref (a 2)), (1, .int p1), (2, .int p2)] := hl
  have hiX5 : ∀ w ∈ wsX50, w ∈ wsX5_byteAt := by decide +kernel
  have k18 := hts (.fieldLink RX5 18 "DayColumn$Texts" "bytes" "[I") (by decide +kernel)
  unfold fX5_byteAt_p at hf
  refine lv_iload_n hx hb dX5_byteAt_0 rfl (lv_at hl 2 rfl) ?_
  refine lv_if_lt (tgt := 13) hx hb dX5_byteAt_1 (by decide) (fun c1 => ?_) (fun c1 => ?_)
  · replace hf := if_t hf c1
    refine lv_iconst (v := -1) hx hb dX5_byteAt_13 (by decide) ?_
    refine lv_goto (tgt := 28) hx hb dX5_byteAt_14 (by decide) ?_
    exact W.iret (v := (-1)) hx hb hr (fun t ht _ => ⟨(-1), rfl, so_i hf, ht⟩) (fun _ h => by cases h) dX5_byteAt_28
  · replace hf := if_f hf c1
    refine lv_iload_n hx hb dX5_byteAt_4 rfl (lv_at hl 2 rfl) ?_
    refine lv_aload_n hx hb dX5_byteAt_5 rfl (lv_at hl 0 rfl) ?_
    refine lv_iload_n hx hb dX5_byteAt_6 rfl (lv_at hl 1 rfl) ?_
    obtain ⟨o2, ho2, hf⟩ := ob_e hf
    refine w_callR (b := a 2) (As := [.int p1]) (rest := [.int p2]) ⟨hx, hb, hml, hown, hts⟩ (c_X5_lengthOf_p l D cI a tb st p1 o2 ho2) (cwV 1 hts gX5_byteAt_X5_lengthOf rfl rfl rfl (by decide +kernel) ⟨Nat.le_of_ble_eq_true rfl, Nat.le_of_ble_eq_true rfl⟩) hP hK hD hZ hS (va_recv hK hP (ci := 4) (q0 := 2) rfl rfl) rfl hl.1 rfl (Nat.le_of_ble_eq_true rfl) ⟨Nat.zero_le _, Nat.zero_le _⟩ dX5_byteAt_7 ?_
    refine lv_icmp_lt (tgt := 17) hx hb dX5_byteAt_10 (by decide) (fun c3 => ?_) (fun c3 => ?_)
    · replace hf := if_t hf c3
      refine lv_aload_n hx hb dX5_byteAt_17 rfl (lv_at hl 0 rfl) ?_
      refine va_get (D := D) (ci := 4) (v := .ref (a 9)) (C := RX5) (T := TX5) (N := 3) hx hb hts hiX5 hown hK hP 2 rfl rfl 0 (by decide) k18 (fun _ h9 => h9) rfl dX5_byteAt_18 ?_
      refine lv_iload_n hx hb dX5_byteAt_21 rfl (lv_at hl 1 rfl) ?_
      refine lv_bipush (v := 24) hx hb dX5_byteAt_22 (by decide) ?_
      refine lv_imul hx hb dX5_byteAt_24 ?_
      refine lv_iload_n hx hb dX5_byteAt_25 rfl (lv_at hl 2 rfl) ?_
      refine lv_iadd hx hb dX5_byteAt_26 ?_
      obtain ⟨x4, ex4, hf⟩ := bnd_e hf
      refine w_nm ex4 ?_
      obtain ⟨hi5, hf⟩ := ix_e hf
      refine va_iald hx hb hK hP 9 0 rfl rfl hi5 dX5_byteAt_27 ?_
      exact W.iret (v := (st.2 1 (Int32.toNatClampNeg x4))) hx hb hr (fun t ht _ => ⟨(st.2 1 (Int32.toNatClampNeg x4)), rfl, so_i hf, ht⟩) (fun _ h => by cases h) dX5_byteAt_28
    · replace hf := if_f hf c3
      refine lv_iconst (v := -1) hx hb dX5_byteAt_13 (by decide) ?_
      refine lv_goto (tgt := 28) hx hb dX5_byteAt_14 (by decide) ?_
      exact W.iret (v := (-1)) hx hb hr (fun t ht _ => ⟨(-1), rfl, so_i hf, ht⟩) (fun _ h => by cases h) dX5_byteAt_28
set_option maxHeartbeats 4000000 in
set_option maxRecDepth 100000 in
theorem c_X5_add_p (l : Launch) (D : va_G) (cI : ClassId) (a tb : Nat → Nat) (st : ST) (r : Int32 × ST) (hf : fX5_add_p st = some r) : MetW l yX5_add wsX5_add ({ frames := 1, cells := 0, slots := 0, locals := 21 }) [.ref (a 2), .ref (a 1)] D [(cI, .int)] (cw cI a) (cA a) tb st r := by
  refine met_of (cc := cX5_add) (maxL := 5) (ret := (some .int)) (by decide) rfl (Nat.le_of_ble_eq_true rfl) ?_
  intro p e s m below meth c hx hb hr hml hts hown hlk hG ls hl
  have hown : s.vm.findClass RX5 = some m.cls := hown
  obtain ⟨hP, hK, hD, hZ⟩ := hG
  have hS : va_S (cA a) s.heap s.heap [] := va_S.rf
  have hl : lv_has ls 5 [(0, .ref (a 2)), (1, .ref (a 1))] := hl
  have hiX5 : ∀ w ∈ wsX50, w ∈ wsX5_add := by decide +kernel
  have k18 := hts (.fieldLink RX5 18 "DayColumn$Texts" "bytes" "[I") (by decide +kernel)
  have k24 := hts (.fieldLink RX5 24 "DayColumn$Texts" "lengths" "[I") (by decide +kernel)
  have k27 := hts (.fieldLink RX5 27 "DayColumn$Texts" "size" "I") (by decide +kernel)
  have l22 : ∀ (n : Nat) (x_2 x_3 x_4 : Int32) (st : ST) (H : Heap) (locs : List Loc) (ls : Array Slot), va_P D vwCl (cw cI a st) H → va_S (cA a) s.heap H locs → lv_has ls 5 [(0, .ref (a 2)), (1, .ref (a 1)), (2, .int x_2), (3, .int x_3), (4, .int x_4)] → fX5_add_p_22 n st x_2 x_3 x_4 = some r → W p l e ({ frames := 1, cells := 0, slots := 0, locals := 21 }) s m ([.ref (a 2), .ref (a 1)] : List Value).toArray below meth c H locs 0 0 (MQ below (va_Qi (fun (z : Int32) (u : ST) => z = r.1 ∧ u = r.2) (fun u t => va_P D vwCl (cw cI a u) t.heap) (cA a)) ([.ref (a 2), .ref (a 1)] : List Value).toArray s 0 0 (cA a)) (F0 m 22 ls []) := by
    intro n
    induction n with
    | zero =>
      intro x_2 x_3 x_4 st H locs ls hP hS hl hf
      cases hf
    | succ n ih22 =>
      intro x_2 x_3 x_4 st H locs ls hP hS hl hf
      unfold fX5_add_p_22 at hf
      refine lv_iload hx hb dX5_add_22 (lv_at hl 4 rfl) ?_
      refine lv_iload_n hx hb dX5_add_24 rfl (lv_at hl 3 rfl) ?_
      refine lv_icmp_ge (tgt := 59) hx hb dX5_add_25 (by decide) (fun c1 => ?_) (fun c1 => ?_)
      · replace hf := if_t hf c1
        refine lv_aload_n hx hb dX5_add_59 rfl (lv_at hl 0 rfl) ?_
        refine va_get (D := D) (ci := 4) (v := .ref (a 10)) (C := RX5) (T := TX5) (N := 3) hx hb hts hiX5 hown hK hP 2 rfl rfl 1 (by decide) k24 (fun _ h9 => h9) rfl dX5_add_60 ?_
        refine lv_iload_n hx hb dX5_add_63 rfl (lv_at hl 2 rfl) ?_
        refine lv_iload_n hx hb dX5_add_64 rfl (lv_at hl 3 rfl) ?_
        obtain ⟨hi2, hf⟩ := ix_e hf
        obtain ⟨s3, es3, hf⟩ := bnd_e hf
        refine va_iast hx hb hK hP (hD st) hS 10 0 rfl rfl hi2 dX5_add_65 (fun H locs hP _ hS => ?_)
        have hP : va_P D vwCl (cw cI a s3) H := by rw [es3]; exact hP
        refine lv_aload_n hx hb dX5_add_66 rfl (lv_at hl 0 rfl) ?_
        refine lv_dup hx hb dX5_add_67 rfl ?_
        refine va_get (D := D) (ci := 4) (v := .int (s3.1 3)) (C := RX5) (T := TX5) (N := 3) hx hb hts hiX5 hown hK hP 2 rfl rfl 2 (by decide) k27 (fun _ h9 => h9) rfl dX5_add_68 ?_
        refine lv_iconst (v := 1) hx hb dX5_add_71 (by decide) ?_
        refine lv_iadd hx hb dX5_add_72 ?_
        obtain ⟨x4, ex4, hf⟩ := bnd_e hf
        refine w_nm ex4 ?_
        obtain ⟨s5, es5, hf⟩ := bnd_e hf
        refine va_put (D := D) (ci := 4) (v := .int x4) (ty := .int) (C := RX5) (T := TX5) (N := 3) hx hb hts hiX5 tyX5 tyX5_ok nmX5 hown hK hP (hD s3) hS 2 rfl rfl 2 (by decide) k27 (fun _ h9 => h9) rfl (by decide +kernel) rfl rfl (Nat.le_of_ble_eq_true rfl) dX5_add_73 (fun H locs hP _ hS => ?_)
        have hP : va_P D vwCl (cw cI a s5) H := by rw [es5]; exact hP
        refine lv_aload_n hx hb dX5_add_76 rfl (lv_at hl 1 rfl) ?_
        refine lv_iconst (v := 0) hx hb dX5_add_77 (by decide) ?_
        obtain ⟨o6, ho6, hf⟩ := ob_e hf
        refine w_callW (b := a 1) (As := [.int 0]) (rest := []) ⟨hx, hb, hml, hown, hts⟩ (c_X4_cut l D cI a tb s5 0 o6 ho6) (cwV 1 hts gX5_add_X4_cut rfl rfl rfl (by decide +kernel) ⟨Nat.le_of_ble_eq_true rfl, Nat.le_of_ble_eq_true rfl⟩) hP hK hD hZ hS (va_recv hK hP (ci := 3) (q0 := 1) rfl rfl) rfl hl.1 rfl (Nat.le_of_ble_eq_true rfl) ⟨Nat.zero_le _, Nat.zero_le _⟩ dX5_add_78 (fun H locs hP hS => ?_)
        refine lv_pop hx hb dX5_add_81 rfl ?_
        refine lv_iload_n hx hb dX5_add_82 rfl (lv_at hl 2 rfl) ?_
        exact W.iret (v := x_2) hx hb hr (fun t ht _ => ⟨⟨x_2, o6.2, rfl, so_p hf, p_at ht hP⟩, hS.F ht⟩) hS.2.2 dX5_add_83
      · replace hf := if_f hf c1
        refine lv_iload hx hb dX5_add_28 (lv_at hl 4 rfl) ?_
        refine lv_bipush (v := 24) hx hb dX5_add_30 (by decide) ?_
        refine lv_icmp_ge (tgt := 59) hx hb dX5_add_32 (by decide) (fun c7 => ?_) (fun c7 => ?_)
        · replace hf := if_t hf c7
          refine lv_aload_n hx hb dX5_add_59 rfl (lv_at hl 0 rfl) ?_
          refine va_get (D := D) (ci := 4) (v := .ref (a 10)) (C := RX5) (T := TX5) (N := 3) hx hb hts hiX5 hown hK hP 2 rfl rfl 1 (by decide) k24 (fun _ h9 => h9) rfl dX5_add_60 ?_
          refine lv_iload_n hx hb dX5_add_63 rfl (lv_at hl 2 rfl) ?_
          refine lv_iload_n hx hb dX5_add_64 rfl (lv_at hl 3 rfl) ?_
          obtain ⟨hi8, hf⟩ := ix_e hf
          obtain ⟨s9, es9, hf⟩ := bnd_e hf
          refine va_iast hx hb hK hP (hD st) hS 10 0 rfl rfl hi8 dX5_add_65 (fun H locs hP _ hS => ?_)
          have hP : va_P D vwCl (cw cI a s9) H := by rw [es9]; exact hP
          refine lv_aload_n hx hb dX5_add_66 rfl (lv_at hl 0 rfl) ?_
          refine lv_dup hx hb dX5_add_67 rfl ?_
          refine va_get (D := D) (ci := 4) (v := .int (s9.1 3)) (C := RX5) (T := TX5) (N := 3) hx hb hts hiX5 hown hK hP 2 rfl rfl 2 (by decide) k27 (fun _ h9 => h9) rfl dX5_add_68 ?_
          refine lv_iconst (v := 1) hx hb dX5_add_71 (by decide) ?_
          refine lv_iadd hx hb dX5_add_72 ?_
          obtain ⟨x10, ex10, hf⟩ := bnd_e hf
          refine w_nm ex10 ?_
          obtain ⟨s11, es11, hf⟩ := bnd_e hf
          refine va_put (D := D) (ci := 4) (v := .int x10) (ty := .int) (C := RX5) (T := TX5) (N := 3) hx hb hts hiX5 tyX5 tyX5_ok nmX5 hown hK hP (hD s9) hS 2 rfl rfl 2 (by decide) k27 (fun _ h9 => h9) rfl (by decide +kernel) rfl rfl (Nat.le_of_ble_eq_true rfl) dX5_add_73 (fun H locs hP _ hS => ?_)
          have hP : va_P D vwCl (cw cI a s11) H := by rw [es11]; exact hP
          refine lv_aload_n hx hb dX5_add_76 rfl (lv_at hl 1 rfl) ?_
          refine lv_iconst (v := 0) hx hb dX5_add_77 (by decide) ?_
          obtain ⟨o12, ho12, hf⟩ := ob_e hf
          refine w_callW (b := a 1) (As := [.int 0]) (rest := []) ⟨hx, hb, hml, hown, hts⟩ (c_X4_cut l D cI a tb s11 0 o12 ho12) (cwV 1 hts gX5_add_X4_cut rfl rfl rfl (by decide +kernel) ⟨Nat.le_of_ble_eq_true rfl, Nat.le_of_ble_eq_true rfl⟩) hP hK hD hZ hS (va_recv hK hP (ci := 3) (q0 := 1) rfl rfl) rfl hl.1 rfl (Nat.le_of_ble_eq_true rfl) ⟨Nat.zero_le _, Nat.zero_le _⟩ dX5_add_78 (fun H locs hP hS => ?_)
          refine lv_pop hx hb dX5_add_81 rfl ?_
          refine lv_iload_n hx hb dX5_add_82 rfl (lv_at hl 2 rfl) ?_
          exact W.iret (v := x_2) hx hb hr (fun t ht _ => ⟨⟨x_2, o12.2, rfl, so_p hf, p_at ht hP⟩, hS.F ht⟩) hS.2.2 dX5_add_83
        · replace hf := if_f hf c7
          refine lv_aload_n hx hb dX5_add_35 rfl (lv_at hl 0 rfl) ?_
          refine va_get (D := D) (ci := 4) (v := .ref (a 9)) (C := RX5) (T := TX5) (N := 3) hx hb hts hiX5 hown hK hP 2 rfl rfl 0 (by decide) k18 (fun _ h9 => h9) rfl dX5_add_36 ?_
          refine lv_iload_n hx hb dX5_add_39 rfl (lv_at hl 2 rfl) ?_
          refine lv_bipush (v := 24) hx hb dX5_add_40 (by decide) ?_
          refine lv_imul hx hb dX5_add_42 ?_
          refine lv_iload hx hb dX5_add_43 (lv_at hl 4 rfl) ?_
          refine lv_iadd hx hb dX5_add_45 ?_
          refine lv_aload_n hx hb dX5_add_46 rfl (lv_at hl 1 rfl) ?_
          refine lv_iload hx hb dX5_add_47 (lv_at hl 4 rfl) ?_
          obtain ⟨o13, ho13, hf⟩ := ob_e hf
          refine w_callR (b := a 1) (As := [.int x_4]) (rest := [.int ((x_2 * 24) + x_4), .ref (a 9)]) ⟨hx, hb, hml, hown, hts⟩ (c_X4_byteAt l D cI a tb st x_4 o13 ho13) (cwV 1 hts gX5_add_X4_byteAt rfl rfl rfl (by decide +kernel) ⟨Nat.le_of_ble_eq_true rfl, Nat.le_of_ble_eq_true rfl⟩) hP hK hD hZ hS (va_recv hK hP (ci := 3) (q0 := 1) rfl rfl) rfl hl.1 rfl (Nat.le_of_ble_eq_true rfl) ⟨Nat.zero_le _, Nat.zero_le _⟩ dX5_add_49 ?_
          obtain ⟨x14, ex14, hf⟩ := bnd_e hf
          refine w_nm2 ex14 ?_
          obtain ⟨hi15, hf⟩ := ix_e hf
          obtain ⟨s16, es16, hf⟩ := bnd_e hf
          refine va_iast hx hb hK hP (hD st) hS 9 0 rfl rfl hi15 dX5_add_52 (fun H locs hP _ hS => ?_)
          have hP : va_P D vwCl (cw cI a s16) H := by rw [es16]; exact hP
          obtain ⟨x17, ex17, hf⟩ := bnd_e hf
          refine lv_iinc (v := x17) (lv' := [(4, .int x17), (0, .ref (a 2)), (1, .ref (a 1)), (2, .int x_2), (3, .int x_3)]) hx hb dX5_add_53 hl (k := 4) rfl (by rw [ex17]; rfl) (by decide) rfl (fun ls hl => ?_)
          refine lv_goto (tgt := 22) hx hb dX5_add_56 (by decide) ?_
          exact ih22 x_2 x_3 x17 s16 _ _ _ hP hS (lv_sub hl [1, 2, 3, 4, 0] rfl) hf
  unfold fX5_add_p at hf
  refine lv_aload_n hx hb dX5_add_0 rfl (lv_at hl 0 rfl) ?_
  obtain ⟨o18, ho18, hf⟩ := ob_e hf
  refine w_callR (b := a 2) (As := []) (rest := []) ⟨hx, hb, hml, hown, hts⟩ (c_X5_isFull_p l D cI a tb st o18 ho18) (cwV 0 hts gX5_add_X5_isFull rfl rfl rfl (by decide +kernel) ⟨Nat.le_of_ble_eq_true rfl, Nat.le_of_ble_eq_true rfl⟩) hP hK hD hZ hS (va_recv hK hP (ci := 4) (q0 := 2) rfl rfl) rfl hl.1 rfl (Nat.le_of_ble_eq_true rfl) ⟨Nat.zero_le _, Nat.zero_le _⟩ dX5_add_1 ?_
  refine lv_if_eq (tgt := 9) hx hb dX5_add_4 (by decide) (fun c19 => ?_) (fun c19 => ?_)
  · replace hf := if_t hf c19
    refine lv_aload_n hx hb dX5_add_9 rfl (lv_at hl 0 rfl) ?_
    refine va_get (D := D) (ci := 4) (v := .int (st.1 3)) (C := RX5) (T := TX5) (N := 3) hx hb hts hiX5 hown hK hP 2 rfl rfl 2 (by decide) k27 (fun _ h9 => h9) rfl dX5_add_10 ?_
    obtain ⟨x20, ex20, hf⟩ := bnd_e hf
    refine w_nm ex20 ?_
    refine lv_istore_n (lv' := [(2, .int x20), (0, .ref (a 2)), (1, .ref (a 1))]) hx hb dX5_add_13 rfl hl (by decide) rfl (fun ls hl => ?_)
    refine lv_aload_n hx hb dX5_add_14 rfl (lv_at hl 2 rfl) ?_
    obtain ⟨o21, ho21, hf⟩ := ob_e hf
    refine w_callR (b := a 1) (As := []) (rest := []) ⟨hx, hb, hml, hown, hts⟩ (c_X4_length l D cI a tb st o21 ho21) (cwV 0 hts gX5_add_X4_length rfl rfl rfl (by decide +kernel) ⟨Nat.le_of_ble_eq_true rfl, Nat.le_of_ble_eq_true rfl⟩) hP hK hD hZ hS (va_recv hK hP (ci := 3) (q0 := 1) rfl rfl) rfl hl.1 rfl (Nat.le_of_ble_eq_true rfl) ⟨Nat.zero_le _, Nat.zero_le _⟩ dX5_add_15 ?_
    refine lv_istore_n (lv' := [(3, .int o21), (2, .int x20), (0, .ref (a 2)), (1, .ref (a 1))]) hx hb dX5_add_18 rfl hl (by decide) rfl (fun ls hl => ?_)
    refine lv_iconst (v := 0) hx hb dX5_add_19 (by decide) ?_
    refine lv_istore (lv' := [(4, .int 0), (3, .int o21), (2, .int x20), (0, .ref (a 2)), (1, .ref (a 1))]) hx hb dX5_add_20 hl (by decide) rfl (fun ls hl => ?_)
    exact l22 1000 x20 o21 0 st _ _ _ hP hS (lv_sub hl [3, 4, 2, 1, 0] rfl) hf
  · replace hf := if_f hf c19
    refine lv_iconst (v := -1) hx hb dX5_add_7 (by decide) ?_
    exact W.iret (v := (-1)) hx hb hr (fun t ht _ => ⟨⟨(-1), st, rfl, so_p hf, p_at ht hP⟩, hS.F ht⟩) hS.2.2 dX5_add_8
set_option maxHeartbeats 4000000 in
set_option maxRecDepth 100000 in
theorem c_X5_size_c (l : Launch) (D : va_G) (cI : ClassId) (a tb : Nat → Nat) (st : ST) (r : Int32) (hf : fX5_size_c st = some r) : MetR l yX5_size wsX5_size ({ frames := 0, cells := 0, slots := 0, locals := 0 }) [.ref (a 3)] D [(cI, .int)] (cw cI a) (cA a) tb st r := by
  refine met_of (cc := cX5_size) (maxL := 1) (ret := (some .int)) (by decide) rfl (Nat.le_of_ble_eq_true rfl) ?_
  intro p e s m below meth c hx hb hr hml hts hown hlk hG ls hl
  have hown : s.vm.findClass RX5 = some m.cls := hown
  obtain ⟨hP, hK, hD, hZ⟩ := hG
  have hS : va_S (cA a) s.heap s.heap [] := va_S.rf
  have hl : lv_has ls 1 [(0, .ref (a 3))] := hl
  have hiX5 : ∀ w ∈ wsX50, w ∈ wsX5_size := by decide +kernel
  have k27 := hts (.fieldLink RX5 27 "DayColumn$Texts" "size" "I") (by decide +kernel)
  unfold fX5_size_c at hf
  refine lv_aload_n hx hb dX5_size_0 rfl (lv_at hl 0 rfl) ?_
  refine va_get (D := D) (ci := 4) (v := .int (st.1 4)) (C := RX5) (T := TX5) (N := 3) hx hb hts hiX5 hown hK hP 3 rfl rfl 2 (by decide) k27 (fun _ h9 => h9) rfl dX5_size_1 ?_
  exact W.iret (v := (st.1 4)) hx hb hr (fun t ht _ => ⟨(st.1 4), rfl, so_i hf, ht⟩) (fun _ h => by cases h) dX5_size_4
set_option maxHeartbeats 4000000 in
set_option maxRecDepth 100000 in
theorem c_X5_isFull_c (l : Launch) (D : va_G) (cI : ClassId) (a tb : Nat → Nat) (st : ST) (r : Int32) (hf : fX5_isFull_c st = some r) : MetR l yX5_isFull wsX5_isFull ({ frames := 0, cells := 0, slots := 0, locals := 0 }) [.ref (a 3)] D [(cI, .int)] (cw cI a) (cA a) tb st r := by
  refine met_of (cc := cX5_isFull) (maxL := 1) (ret := (some .boolean)) (by decide) rfl (Nat.le_of_ble_eq_true rfl) ?_
  intro p e s m below meth c hx hb hr hml hts hown hlk hG ls hl
  have hown : s.vm.findClass RX5 = some m.cls := hown
  obtain ⟨hP, hK, hD, hZ⟩ := hG
  have hS : va_S (cA a) s.heap s.heap [] := va_S.rf
  have hl : lv_has ls 1 [(0, .ref (a 3))] := hl
  have hiX5 : ∀ w ∈ wsX50, w ∈ wsX5_isFull := by decide +kernel
  have k24 := hts (.fieldLink RX5 24 "DayColumn$Texts" "lengths" "[I") (by decide +kernel)
  have k27 := hts (.fieldLink RX5 27 "DayColumn$Texts" "size" "I") (by decide +kernel)
  unfold fX5_isFull_c at hf
  refine lv_aload_n hx hb dX5_isFull_0 rfl (lv_at hl 0 rfl) ?_
  refine va_get (D := D) (ci := 4) (v := .int (st.1 4)) (C := RX5) (T := TX5) (N := 3) hx hb hts hiX5 hown hK hP 3 rfl rfl 2 (by decide) k27 (fun _ h9 => h9) rfl dX5_isFull_1 ?_
  refine lv_aload_n hx hb dX5_isFull_4 rfl (lv_at hl 0 rfl) ?_
  refine va_get (D := D) (ci := 4) (v := .ref (a 12)) (C := RX5) (T := TX5) (N := 3) hx hb hts hiX5 hown hK hP 3 rfl rfl 1 (by decide) k24 (fun _ h9 => h9) rfl dX5_isFull_5 ?_
  refine va_alen hx hb hK hP 12 0 rfl rfl (v := 30) rfl dX5_isFull_8 ?_
  refine lv_icmp_lt (tgt := 16) hx hb dX5_isFull_9 (by decide) (fun c1 => ?_) (fun c1 => ?_)
  · replace hf := if_t hf c1
    refine lv_iconst (v := 0) hx hb dX5_isFull_16 (by decide) ?_
    exact W.zret (v := 0) hx hb hr rfl (fun t ht _ => ⟨0, rfl, so_i hf, ht⟩) (fun _ h => by cases h) dX5_isFull_17
  · replace hf := if_f hf c1
    refine lv_iconst (v := 1) hx hb dX5_isFull_12 (by decide) ?_
    refine lv_goto (tgt := 17) hx hb dX5_isFull_13 (by decide) ?_
    exact W.zret (v := 1) hx hb hr rfl (fun t ht _ => ⟨1, rfl, so_i hf, ht⟩) (fun _ h => by cases h) dX5_isFull_17
set_option maxHeartbeats 4000000 in
set_option maxRecDepth 100000 in
theorem c_X5_has_c (l : Launch) (D : va_G) (cI : ClassId) (a tb : Nat → Nat) (st : ST) (p1 : Int32) (r : Int32) (hf : fX5_has_c st p1 = some r) : MetR l yX5_has wsX5_has ({ frames := 0, cells := 0, slots := 0, locals := 0 }) [.ref (a 3), .int p1] D [(cI, .int)] (cw cI a) (cA a) tb st r := by
  refine met_of (cc := cX5_has) (maxL := 2) (ret := (some .boolean)) (by decide) rfl (Nat.le_of_ble_eq_true rfl) ?_
  intro p e s m below meth c hx hb hr hml hts hown hlk hG ls hl
  have hown : s.vm.findClass RX5 = some m.cls := hown
  obtain ⟨hP, hK, hD, hZ⟩ := hG
  have hS : va_S (cA a) s.heap s.heap [] := va_S.rf
  have hl : lv_has ls 2 [(0, .ref (a 3)), (1, .int p1)] := hl
  have hiX5 : ∀ w ∈ wsX50, w ∈ wsX5_has := by decide +kernel
  have k27 := hts (.fieldLink RX5 27 "DayColumn$Texts" "size" "I") (by decide +kernel)
  unfold fX5_has_c at hf
  refine lv_iload_n hx hb dX5_has_0 rfl (lv_at hl 1 rfl) ?_
  refine lv_if_lt (tgt := 16) hx hb dX5_has_1 (by decide) (fun c1 => ?_) (fun c1 => ?_)
  · replace hf := if_t hf c1
    refine lv_iconst (v := 0) hx hb dX5_has_16 (by decide) ?_
    exact W.zret (v := 0) hx hb hr rfl (fun t ht _ => ⟨0, rfl, so_i hf, ht⟩) (fun _ h => by cases h) dX5_has_17
  · replace hf := if_f hf c1
    refine lv_iload_n hx hb dX5_has_4 rfl (lv_at hl 1 rfl) ?_
    refine lv_aload_n hx hb dX5_has_5 rfl (lv_at hl 0 rfl) ?_
    refine va_get (D := D) (ci := 4) (v := .int (st.1 4)) (C := RX5) (T := TX5) (N := 3) hx hb hts hiX5 hown hK hP 3 rfl rfl 2 (by decide) k27 (fun _ h9 => h9) rfl dX5_has_6 ?_
    refine lv_icmp_ge (tgt := 16) hx hb dX5_has_9 (by decide) (fun c2 => ?_) (fun c2 => ?_)
    · replace hf := if_t hf c2
      refine lv_iconst (v := 0) hx hb dX5_has_16 (by decide) ?_
      exact W.zret (v := 0) hx hb hr rfl (fun t ht _ => ⟨0, rfl, so_i hf, ht⟩) (fun _ h => by cases h) dX5_has_17
    · replace hf := if_f hf c2
      refine lv_iconst (v := 1) hx hb dX5_has_12 (by decide) ?_
      refine lv_goto (tgt := 17) hx hb dX5_has_13 (by decide) ?_
      exact W.zret (v := 1) hx hb hr rfl (fun t ht _ => ⟨1, rfl, so_i hf, ht⟩) (fun _ h => by cases h) dX5_has_17
set_option maxHeartbeats 4000000 in
set_option maxRecDepth 100000 in
theorem c_X5_lengthOf_c (l : Launch) (D : va_G) (cI : ClassId) (a tb : Nat → Nat) (st : ST) (p1 : Int32) (r : Int32) (hf : fX5_lengthOf_c st p1 = some r) : MetR l yX5_lengthOf wsX5_lengthOf ({ frames := 1, cells := 0, slots := 0, locals := 21 }) [.ref (a 3), .int p1] D [(cI, .int)] (cw cI a) (cA a) tb st r := by
  refine met_of (cc := cX5_lengthOf) (maxL := 2) (ret := (some .int)) (by decide) rfl (Nat.le_of_ble_eq_true rfl) ?_
  intro p e s m below meth c hx hb hr hml hts hown hlk hG ls hl
  have hown : s.vm.findClass RX5 = some m.cls := hown
  obtain ⟨hP, hK, hD, hZ⟩ := hG
  have hS : va_S (cA a) s.heap s.heap [] := va_S.rf
  have hl : lv_has ls 2 [(0, .ref (a 3)), (1, .int p1)] := hl
  have hiX5 : ∀ w ∈ wsX50, w ∈ wsX5_lengthOf := by decide +kernel
  have k24 := hts (.fieldLink RX5 24 "DayColumn$Texts" "lengths" "[I") (by decide +kernel)
  unfold fX5_lengthOf_c at hf
  refine lv_aload_n hx hb dX5_lengthOf_0 rfl (lv_at hl 0 rfl) ?_
  refine lv_iload_n hx hb dX5_lengthOf_1 rfl (lv_at hl 1 rfl) ?_
  obtain ⟨o1, ho1, hf⟩ := ob_e hf
  refine w_callR (b := a 3) (As := [.int p1]) (rest := []) ⟨hx, hb, hml, hown, hts⟩ (c_X5_has_c l D cI a tb st p1 o1 ho1) (cwV 1 hts gX5_lengthOf_X5_has rfl rfl rfl (by decide +kernel) ⟨Nat.le_of_ble_eq_true rfl, Nat.le_of_ble_eq_true rfl⟩) hP hK hD hZ hS (va_recv hK hP (ci := 4) (q0 := 3) rfl rfl) rfl hl.1 rfl (Nat.le_of_ble_eq_true rfl) ⟨Nat.zero_le _, Nat.zero_le _⟩ dX5_lengthOf_2 ?_
  refine lv_if_eq (tgt := 17) hx hb dX5_lengthOf_5 (by decide) (fun c2 => ?_) (fun c2 => ?_)
  · replace hf := if_t hf c2
    refine lv_iconst (v := 0) hx hb dX5_lengthOf_17 (by decide) ?_
    exact W.iret (v := 0) hx hb hr (fun t ht _ => ⟨0, rfl, so_i hf, ht⟩) (fun _ h => by cases h) dX5_lengthOf_18
  · replace hf := if_f hf c2
    refine lv_aload_n hx hb dX5_lengthOf_8 rfl (lv_at hl 0 rfl) ?_
    refine va_get (D := D) (ci := 4) (v := .ref (a 12)) (C := RX5) (T := TX5) (N := 3) hx hb hts hiX5 hown hK hP 3 rfl rfl 1 (by decide) k24 (fun _ h9 => h9) rfl dX5_lengthOf_9 ?_
    refine lv_iload_n hx hb dX5_lengthOf_12 rfl (lv_at hl 1 rfl) ?_
    obtain ⟨hi3, hf⟩ := ix_e hf
    refine va_iald hx hb hK hP 12 0 rfl rfl hi3 dX5_lengthOf_13 ?_
    refine lv_goto (tgt := 18) hx hb dX5_lengthOf_14 (by decide) ?_
    exact W.iret (v := (st.2 4 (Int32.toNatClampNeg p1))) hx hb hr (fun t ht _ => ⟨(st.2 4 (Int32.toNatClampNeg p1)), rfl, so_i hf, ht⟩) (fun _ h => by cases h) dX5_lengthOf_18
set_option maxHeartbeats 4000000 in
set_option maxRecDepth 100000 in
theorem c_X5_byteAt_c (l : Launch) (D : va_G) (cI : ClassId) (a tb : Nat → Nat) (st : ST) (p1 p2 : Int32) (r : Int32) (hf : fX5_byteAt_c st p1 p2 = some r) : MetR l yX5_byteAt wsX5_byteAt ({ frames := 2, cells := 0, slots := 0, locals := 42 }) [.ref (a 3), .int p1, .int p2] D [(cI, .int)] (cw cI a) (cA a) tb st r := by
  refine met_of (cc := cX5_byteAt) (maxL := 3) (ret := (some .int)) (by decide) rfl (Nat.le_of_ble_eq_true rfl) ?_
  intro p e s m below meth c hx hb hr hml hts hown hlk hG ls hl
  have hown : s.vm.findClass RX5 = some m.cls := hown
  obtain ⟨hP, hK, hD, hZ⟩ := hG
  have hS : va_S (cA a) s.heap s.heap [] := va_S.rf
  have hl : lv_has ls 3 [(0, .ref (a 3)), (1, .int p1), (2, .int p2)] := hl
  have hiX5 : ∀ w ∈ wsX50, w ∈ wsX5_byteAt := by decide +kernel
  have k18 := hts (.fieldLink RX5 18 "DayColumn$Texts" "bytes" "[I") (by decide +kernel)
  unfold fX5_byteAt_c at hf
  refine lv_iload_n hx hb dX5_byteAt_0 rfl (lv_at hl 2 rfl) ?_
  refine lv_if_lt (tgt := 13) hx hb dX5_byteAt_1 (by decide) (fun c1 => ?_) (fun c1 => ?_)
  · replace hf := if_t hf c1
    refine lv_iconst (v := -1) hx hb dX5_byteAt_13 (by decide) ?_
    refine lv_goto (tgt := 28) hx hb dX5_byteAt_14 (by decide) ?_
    exact W.iret (v := (-1)) hx hb hr (fun t ht _ => ⟨(-1), rfl, so_i hf, ht⟩) (fun _ h => by cases h) dX5_byteAt_28
  · replace hf := if_f hf c1
    refine lv_iload_n hx hb dX5_byteAt_4 rfl (lv_at hl 2 rfl) ?_
    refine lv_aload_n hx hb dX5_byteAt_5 rfl (lv_at hl 0 rfl) ?_
    refine lv_iload_n hx hb dX5_byteAt_6 rfl (lv_at hl 1 rfl) ?_
    obtain ⟨o2, ho2, hf⟩ := ob_e hf
    refine w_callR (b := a 3) (As := [.int p1]) (rest := [.int p2]) ⟨hx, hb, hml, hown, hts⟩ (c_X5_lengthOf_c l D cI a tb st p1 o2 ho2) (cwV 1 hts gX5_byteAt_X5_lengthOf rfl rfl rfl (by decide +kernel) ⟨Nat.le_of_ble_eq_true rfl, Nat.le_of_ble_eq_true rfl⟩) hP hK hD hZ hS (va_recv hK hP (ci := 4) (q0 := 3) rfl rfl) rfl hl.1 rfl (Nat.le_of_ble_eq_true rfl) ⟨Nat.zero_le _, Nat.zero_le _⟩ dX5_byteAt_7 ?_
    refine lv_icmp_lt (tgt := 17) hx hb dX5_byteAt_10 (by decide) (fun c3 => ?_) (fun c3 => ?_)
    · replace hf := if_t hf c3
      refine lv_aload_n hx hb dX5_byteAt_17 rfl (lv_at hl 0 rfl) ?_
      refine va_get (D := D) (ci := 4) (v := .ref (a 11)) (C := RX5) (T := TX5) (N := 3) hx hb hts hiX5 hown hK hP 3 rfl rfl 0 (by decide) k18 (fun _ h9 => h9) rfl dX5_byteAt_18 ?_
      refine lv_iload_n hx hb dX5_byteAt_21 rfl (lv_at hl 1 rfl) ?_
      refine lv_bipush (v := 24) hx hb dX5_byteAt_22 (by decide) ?_
      refine lv_imul hx hb dX5_byteAt_24 ?_
      refine lv_iload_n hx hb dX5_byteAt_25 rfl (lv_at hl 2 rfl) ?_
      refine lv_iadd hx hb dX5_byteAt_26 ?_
      obtain ⟨x4, ex4, hf⟩ := bnd_e hf
      refine w_nm ex4 ?_
      obtain ⟨hi5, hf⟩ := ix_e hf
      refine va_iald hx hb hK hP 11 0 rfl rfl hi5 dX5_byteAt_27 ?_
      exact W.iret (v := (st.2 3 (Int32.toNatClampNeg x4))) hx hb hr (fun t ht _ => ⟨(st.2 3 (Int32.toNatClampNeg x4)), rfl, so_i hf, ht⟩) (fun _ h => by cases h) dX5_byteAt_28
    · replace hf := if_f hf c3
      refine lv_iconst (v := -1) hx hb dX5_byteAt_13 (by decide) ?_
      refine lv_goto (tgt := 28) hx hb dX5_byteAt_14 (by decide) ?_
      exact W.iret (v := (-1)) hx hb hr (fun t ht _ => ⟨(-1), rfl, so_i hf, ht⟩) (fun _ h => by cases h) dX5_byteAt_28
set_option maxHeartbeats 4000000 in
set_option maxRecDepth 100000 in
theorem c_X5_add_c (l : Launch) (D : va_G) (cI : ClassId) (a tb : Nat → Nat) (st : ST) (r : Int32 × ST) (hf : fX5_add_c st = some r) : MetW l yX5_add wsX5_add ({ frames := 1, cells := 0, slots := 0, locals := 21 }) [.ref (a 3), .ref (a 1)] D [(cI, .int)] (cw cI a) (cA a) tb st r := by
  refine met_of (cc := cX5_add) (maxL := 5) (ret := (some .int)) (by decide) rfl (Nat.le_of_ble_eq_true rfl) ?_
  intro p e s m below meth c hx hb hr hml hts hown hlk hG ls hl
  have hown : s.vm.findClass RX5 = some m.cls := hown
  obtain ⟨hP, hK, hD, hZ⟩ := hG
  have hS : va_S (cA a) s.heap s.heap [] := va_S.rf
  have hl : lv_has ls 5 [(0, .ref (a 3)), (1, .ref (a 1))] := hl
  have hiX5 : ∀ w ∈ wsX50, w ∈ wsX5_add := by decide +kernel
  have k18 := hts (.fieldLink RX5 18 "DayColumn$Texts" "bytes" "[I") (by decide +kernel)
  have k24 := hts (.fieldLink RX5 24 "DayColumn$Texts" "lengths" "[I") (by decide +kernel)
  have k27 := hts (.fieldLink RX5 27 "DayColumn$Texts" "size" "I") (by decide +kernel)
  have l22 : ∀ (n : Nat) (x_2 x_3 x_4 : Int32) (st : ST) (H : Heap) (locs : List Loc) (ls : Array Slot), va_P D vwCl (cw cI a st) H → va_S (cA a) s.heap H locs → lv_has ls 5 [(0, .ref (a 3)), (1, .ref (a 1)), (2, .int x_2), (3, .int x_3), (4, .int x_4)] → fX5_add_c_22 n st x_2 x_3 x_4 = some r → W p l e ({ frames := 1, cells := 0, slots := 0, locals := 21 }) s m ([.ref (a 3), .ref (a 1)] : List Value).toArray below meth c H locs 0 0 (MQ below (va_Qi (fun (z : Int32) (u : ST) => z = r.1 ∧ u = r.2) (fun u t => va_P D vwCl (cw cI a u) t.heap) (cA a)) ([.ref (a 3), .ref (a 1)] : List Value).toArray s 0 0 (cA a)) (F0 m 22 ls []) := by
    intro n
    induction n with
    | zero =>
      intro x_2 x_3 x_4 st H locs ls hP hS hl hf
      cases hf
    | succ n ih22 =>
      intro x_2 x_3 x_4 st H locs ls hP hS hl hf
      unfold fX5_add_c_22 at hf
      refine lv_iload hx hb dX5_add_22 (lv_at hl 4 rfl) ?_
      refine lv_iload_n hx hb dX5_add_24 rfl (lv_at hl 3 rfl) ?_
      refine lv_icmp_ge (tgt := 59) hx hb dX5_add_25 (by decide) (fun c1 => ?_) (fun c1 => ?_)
      · replace hf := if_t hf c1
        refine lv_aload_n hx hb dX5_add_59 rfl (lv_at hl 0 rfl) ?_
        refine va_get (D := D) (ci := 4) (v := .ref (a 12)) (C := RX5) (T := TX5) (N := 3) hx hb hts hiX5 hown hK hP 3 rfl rfl 1 (by decide) k24 (fun _ h9 => h9) rfl dX5_add_60 ?_
        refine lv_iload_n hx hb dX5_add_63 rfl (lv_at hl 2 rfl) ?_
        refine lv_iload_n hx hb dX5_add_64 rfl (lv_at hl 3 rfl) ?_
        obtain ⟨hi2, hf⟩ := ix_e hf
        obtain ⟨s3, es3, hf⟩ := bnd_e hf
        refine va_iast hx hb hK hP (hD st) hS 12 0 rfl rfl hi2 dX5_add_65 (fun H locs hP _ hS => ?_)
        have hP : va_P D vwCl (cw cI a s3) H := by rw [es3]; exact hP
        refine lv_aload_n hx hb dX5_add_66 rfl (lv_at hl 0 rfl) ?_
        refine lv_dup hx hb dX5_add_67 rfl ?_
        refine va_get (D := D) (ci := 4) (v := .int (s3.1 4)) (C := RX5) (T := TX5) (N := 3) hx hb hts hiX5 hown hK hP 3 rfl rfl 2 (by decide) k27 (fun _ h9 => h9) rfl dX5_add_68 ?_
        refine lv_iconst (v := 1) hx hb dX5_add_71 (by decide) ?_
        refine lv_iadd hx hb dX5_add_72 ?_
        obtain ⟨x4, ex4, hf⟩ := bnd_e hf
        refine w_nm ex4 ?_
        obtain ⟨s5, es5, hf⟩ := bnd_e hf
        refine va_put (D := D) (ci := 4) (v := .int x4) (ty := .int) (C := RX5) (T := TX5) (N := 3) hx hb hts hiX5 tyX5 tyX5_ok nmX5 hown hK hP (hD s3) hS 3 rfl rfl 2 (by decide) k27 (fun _ h9 => h9) rfl (by decide +kernel) rfl rfl (Nat.le_of_ble_eq_true rfl) dX5_add_73 (fun H locs hP _ hS => ?_)
        have hP : va_P D vwCl (cw cI a s5) H := by rw [es5]; exact hP
        refine lv_aload_n hx hb dX5_add_76 rfl (lv_at hl 1 rfl) ?_
        refine lv_iconst (v := 0) hx hb dX5_add_77 (by decide) ?_
        obtain ⟨o6, ho6, hf⟩ := ob_e hf
        refine w_callW (b := a 1) (As := [.int 0]) (rest := []) ⟨hx, hb, hml, hown, hts⟩ (c_X4_cut l D cI a tb s5 0 o6 ho6) (cwV 1 hts gX5_add_X4_cut rfl rfl rfl (by decide +kernel) ⟨Nat.le_of_ble_eq_true rfl, Nat.le_of_ble_eq_true rfl⟩) hP hK hD hZ hS (va_recv hK hP (ci := 3) (q0 := 1) rfl rfl) rfl hl.1 rfl (Nat.le_of_ble_eq_true rfl) ⟨Nat.zero_le _, Nat.zero_le _⟩ dX5_add_78 (fun H locs hP hS => ?_)
        refine lv_pop hx hb dX5_add_81 rfl ?_
        refine lv_iload_n hx hb dX5_add_82 rfl (lv_at hl 2 rfl) ?_
        exact W.iret (v := x_2) hx hb hr (fun t ht _ => ⟨⟨x_2, o6.2, rfl, so_p hf, p_at ht hP⟩, hS.F ht⟩) hS.2.2 dX5_add_83
      · replace hf := if_f hf c1
        refine lv_iload hx hb dX5_add_28 (lv_at hl 4 rfl) ?_
        refine lv_bipush (v := 24) hx hb dX5_add_30 (by decide) ?_
        refine lv_icmp_ge (tgt := 59) hx hb dX5_add_32 (by decide) (fun c7 => ?_) (fun c7 => ?_)
        · replace hf := if_t hf c7
          refine lv_aload_n hx hb dX5_add_59 rfl (lv_at hl 0 rfl) ?_
          refine va_get (D := D) (ci := 4) (v := .ref (a 12)) (C := RX5) (T := TX5) (N := 3) hx hb hts hiX5 hown hK hP 3 rfl rfl 1 (by decide) k24 (fun _ h9 => h9) rfl dX5_add_60 ?_
          refine lv_iload_n hx hb dX5_add_63 rfl (lv_at hl 2 rfl) ?_
          refine lv_iload_n hx hb dX5_add_64 rfl (lv_at hl 3 rfl) ?_
          obtain ⟨hi8, hf⟩ := ix_e hf
          obtain ⟨s9, es9, hf⟩ := bnd_e hf
          refine va_iast hx hb hK hP (hD st) hS 12 0 rfl rfl hi8 dX5_add_65 (fun H locs hP _ hS => ?_)
          have hP : va_P D vwCl (cw cI a s9) H := by rw [es9]; exact hP
          refine lv_aload_n hx hb dX5_add_66 rfl (lv_at hl 0 rfl) ?_
          refine lv_dup hx hb dX5_add_67 rfl ?_
          refine va_get (D := D) (ci := 4) (v := .int (s9.1 4)) (C := RX5) (T := TX5) (N := 3) hx hb hts hiX5 hown hK hP 3 rfl rfl 2 (by decide) k27 (fun _ h9 => h9) rfl dX5_add_68 ?_
          refine lv_iconst (v := 1) hx hb dX5_add_71 (by decide) ?_
          refine lv_iadd hx hb dX5_add_72 ?_
          obtain ⟨x10, ex10, hf⟩ := bnd_e hf
          refine w_nm ex10 ?_
          obtain ⟨s11, es11, hf⟩ := bnd_e hf
          refine va_put (D := D) (ci := 4) (v := .int x10) (ty := .int) (C := RX5) (T := TX5) (N := 3) hx hb hts hiX5 tyX5 tyX5_ok nmX5 hown hK hP (hD s9) hS 3 rfl rfl 2 (by decide) k27 (fun _ h9 => h9) rfl (by decide +kernel) rfl rfl (Nat.le_of_ble_eq_true rfl) dX5_add_73 (fun H locs hP _ hS => ?_)
          have hP : va_P D vwCl (cw cI a s11) H := by rw [es11]; exact hP
          refine lv_aload_n hx hb dX5_add_76 rfl (lv_at hl 1 rfl) ?_
          refine lv_iconst (v := 0) hx hb dX5_add_77 (by decide) ?_
          obtain ⟨o12, ho12, hf⟩ := ob_e hf
          refine w_callW (b := a 1) (As := [.int 0]) (rest := []) ⟨hx, hb, hml, hown, hts⟩ (c_X4_cut l D cI a tb s11 0 o12 ho12) (cwV 1 hts gX5_add_X4_cut rfl rfl rfl (by decide +kernel) ⟨Nat.le_of_ble_eq_true rfl, Nat.le_of_ble_eq_true rfl⟩) hP hK hD hZ hS (va_recv hK hP (ci := 3) (q0 := 1) rfl rfl) rfl hl.1 rfl (Nat.le_of_ble_eq_true rfl) ⟨Nat.zero_le _, Nat.zero_le _⟩ dX5_add_78 (fun H locs hP hS => ?_)
          refine lv_pop hx hb dX5_add_81 rfl ?_
          refine lv_iload_n hx hb dX5_add_82 rfl (lv_at hl 2 rfl) ?_
          exact W.iret (v := x_2) hx hb hr (fun t ht _ => ⟨⟨x_2, o12.2, rfl, so_p hf, p_at ht hP⟩, hS.F ht⟩) hS.2.2 dX5_add_83
        · replace hf := if_f hf c7
          refine lv_aload_n hx hb dX5_add_35 rfl (lv_at hl 0 rfl) ?_
          refine va_get (D := D) (ci := 4) (v := .ref (a 11)) (C := RX5) (T := TX5) (N := 3) hx hb hts hiX5 hown hK hP 3 rfl rfl 0 (by decide) k18 (fun _ h9 => h9) rfl dX5_add_36 ?_
          refine lv_iload_n hx hb dX5_add_39 rfl (lv_at hl 2 rfl) ?_
          refine lv_bipush (v := 24) hx hb dX5_add_40 (by decide) ?_
          refine lv_imul hx hb dX5_add_42 ?_
          refine lv_iload hx hb dX5_add_43 (lv_at hl 4 rfl) ?_
          refine lv_iadd hx hb dX5_add_45 ?_
          refine lv_aload_n hx hb dX5_add_46 rfl (lv_at hl 1 rfl) ?_
          refine lv_iload hx hb dX5_add_47 (lv_at hl 4 rfl) ?_
          obtain ⟨o13, ho13, hf⟩ := ob_e hf
          refine w_callR (b := a 1) (As := [.int x_4]) (rest := [.int ((x_2 * 24) + x_4), .ref (a 11)]) ⟨hx, hb, hml, hown, hts⟩ (c_X4_byteAt l D cI a tb st x_4 o13 ho13) (cwV 1 hts gX5_add_X4_byteAt rfl rfl rfl (by decide +kernel) ⟨Nat.le_of_ble_eq_true rfl, Nat.le_of_ble_eq_true rfl⟩) hP hK hD hZ hS (va_recv hK hP (ci := 3) (q0 := 1) rfl rfl) rfl hl.1 rfl (Nat.le_of_ble_eq_true rfl) ⟨Nat.zero_le _, Nat.zero_le _⟩ dX5_add_49 ?_
          obtain ⟨x14, ex14, hf⟩ := bnd_e hf
          refine w_nm2 ex14 ?_
          obtain ⟨hi15, hf⟩ := ix_e hf
          obtain ⟨s16, es16, hf⟩ := bnd_e hf
          refine va_iast hx hb hK hP (hD st) hS 11 0 rfl rfl hi15 dX5_add_52 (fun H locs hP _ hS => ?_)
          have hP : va_P D vwCl (cw cI a s16) H := by rw [es16]; exact hP
          obtain ⟨x17, ex17, hf⟩ := bnd_e hf
          refine lv_iinc (v := x17) (lv' := [(4, .int x17), (0, .ref (a 3)), (1, .ref (a 1)), (2, .int x_2), (3, .int x_3)]) hx hb dX5_add_53 hl (k := 4) rfl (by rw [ex17]; rfl) (by decide) rfl (fun ls hl => ?_)
          refine lv_goto (tgt := 22) hx hb dX5_add_56 (by decide) ?_
          exact ih22 x_2 x_3 x17 s16 _ _ _ hP hS (lv_sub hl [1, 2, 3, 4, 0] rfl) hf
  unfold fX5_add_c at hf
  refine lv_aload_n hx hb dX5_add_0 rfl (lv_at hl 0 rfl) ?_
  obtain ⟨o18, ho18, hf⟩ := ob_e hf
  refine w_callR (b := a 3) (As := []) (rest := []) ⟨hx, hb, hml, hown, hts⟩ (c_X5_isFull_c l D cI a tb st o18 ho18) (cwV 0 hts gX5_add_X5_isFull rfl rfl rfl (by decide +kernel) ⟨Nat.le_of_ble_eq_true rfl, Nat.le_of_ble_eq_true rfl⟩) hP hK hD hZ hS (va_recv hK hP (ci := 4) (q0 := 3) rfl rfl) rfl hl.1 rfl (Nat.le_of_ble_eq_true rfl) ⟨Nat.zero_le _, Nat.zero_le _⟩ dX5_add_1 ?_
  refine lv_if_eq (tgt := 9) hx hb dX5_add_4 (by decide) (fun c19 => ?_) (fun c19 => ?_)
  · replace hf := if_t hf c19
    refine lv_aload_n hx hb dX5_add_9 rfl (lv_at hl 0 rfl) ?_
    refine va_get (D := D) (ci := 4) (v := .int (st.1 4)) (C := RX5) (T := TX5) (N := 3) hx hb hts hiX5 hown hK hP 3 rfl rfl 2 (by decide) k27 (fun _ h9 => h9) rfl dX5_add_10 ?_
    obtain ⟨x20, ex20, hf⟩ := bnd_e hf
    refine w_nm ex20 ?_
    refine lv_istore_n (lv' := [(2, .int x20), (0, .ref (a 3)), (1, .ref (a 1))]) hx hb dX5_add_13 rfl hl (by decide) rfl (fun ls hl => ?_)
    refine lv_aload_n hx hb dX5_add_14 rfl (lv_at hl 2 rfl) ?_
    obtain ⟨o21, ho21, hf⟩ := ob_e hf
    refine w_callR (b := a 1) (As := []) (rest := []) ⟨hx, hb, hml, hown, hts⟩ (c_X4_length l D cI a tb st o21 ho21) (cwV 0 hts gX5_add_X4_length rfl rfl rfl (by decide +kernel) ⟨Nat.le_of_ble_eq_true rfl, Nat.le_of_ble_eq_true rfl⟩) hP hK hD hZ hS (va_recv hK hP (ci := 3) (q0 := 1) rfl rfl) rfl hl.1 rfl (Nat.le_of_ble_eq_true rfl) ⟨Nat.zero_le _, Nat.zero_le _⟩ dX5_add_15 ?_
    refine lv_istore_n (lv' := [(3, .int o21), (2, .int x20), (0, .ref (a 3)), (1, .ref (a 1))]) hx hb dX5_add_18 rfl hl (by decide) rfl (fun ls hl => ?_)
    refine lv_iconst (v := 0) hx hb dX5_add_19 (by decide) ?_
    refine lv_istore (lv' := [(4, .int 0), (3, .int o21), (2, .int x20), (0, .ref (a 3)), (1, .ref (a 1))]) hx hb dX5_add_20 hl (by decide) rfl (fun ls hl => ?_)
    exact l22 1000 x20 o21 0 st _ _ _ hP hS (lv_sub hl [3, 4, 2, 1, 0] rfl) hf
  · replace hf := if_f hf c19
    refine lv_iconst (v := -1) hx hb dX5_add_7 (by decide) ?_
    exact W.iret (v := (-1)) hx hb hr (fun t ht _ => ⟨⟨(-1), st, rfl, so_p hf, p_at ht hP⟩, hS.F ht⟩) hS.2.2 dX5_add_8
set_option maxHeartbeats 4000000 in
set_option maxRecDepth 100000 in
theorem c_X5_removeAll_c (l : Launch) (D : va_G) (cI : ClassId) (a tb : Nat → Nat) (st : ST) (r : ST) (hf : fX5_removeAll_c st = some r) : MetV l yX5_removeAll wsX5_removeAll ({ frames := 0, cells := 0, slots := 0, locals := 0 }) [.ref (a 3)] D [(cI, .int)] (cw cI a) (cA a) tb st r := by
  refine met_of (cc := cX5_removeAll) (maxL := 1) (ret := none) (by decide) rfl (Nat.le_of_ble_eq_true rfl) ?_
  intro p e s m below meth c hx hb hr hml hts hown hlk hG ls hl
  have hown : s.vm.findClass RX5 = some m.cls := hown
  obtain ⟨hP, hK, hD, hZ⟩ := hG
  have hS : va_S (cA a) s.heap s.heap [] := va_S.rf
  have hl : lv_has ls 1 [(0, .ref (a 3))] := hl
  have hiX5 : ∀ w ∈ wsX50, w ∈ wsX5_removeAll := by decide +kernel
  have k27 := hts (.fieldLink RX5 27 "DayColumn$Texts" "size" "I") (by decide +kernel)
  unfold fX5_removeAll_c at hf
  refine lv_aload_n hx hb dX5_removeAll_0 rfl (lv_at hl 0 rfl) ?_
  refine lv_iconst (v := 0) hx hb dX5_removeAll_1 (by decide) ?_
  obtain ⟨s1, es1, hf⟩ := bnd_e hf
  refine va_put (D := D) (ci := 4) (v := .int 0) (ty := .int) (C := RX5) (T := TX5) (N := 3) hx hb hts hiX5 tyX5 tyX5_ok nmX5 hown hK hP (hD st) hS 3 rfl rfl 2 (by decide) k27 (fun _ h9 => h9) rfl (by decide +kernel) rfl rfl (Nat.le_of_ble_eq_true rfl) dX5_removeAll_2 (fun H locs hP _ hS => ?_)
  have hP : va_P D vwCl (cw cI a s1) H := by rw [es1]; exact hP
  exact W.vret hx hb hr (fun t ht _ => ⟨⟨s1, rfl, so_i hf, p_at ht hP⟩, hS.F ht⟩) hS.2.2 dX5_removeAll_5
