set_option maxHeartbeats 4000000 in
set_option maxRecDepth 100000 in
theorem c_X9_thrown (l : Launch) (D : va_G) (cI cB : ClassId) (a tb : Nat → Nat) (st : ST) (r : Int32) (hf : fX9_thrown st = some r) : MetR l yX9_thrown wsX9_thrown ({ frames := 0, cells := 0, slots := 0, locals := 0 }) [.ref (a 0)] D [(cI, .int), (cB, .byte)] (mw cI cB a) (mA a) tb st r := by
  refine met_of (cc := cX9_thrown) (maxL := 1) (ret := (some .int)) (by decide) rfl (Nat.le_of_ble_eq_true rfl) ?_
  intro p e s m below meth c hx hb hr hml hts hown hlk hG ls hl
  have hown : s.vm.findClass RX9 = some m.cls := hown
  obtain ⟨hP, hK, hD, hZ⟩ := hG
  have hS : va_S (mA a) s.heap s.heap [] := va_S.rf
  have hl : lv_has ls 1 [(0, .ref (a 0))] := hl
  have hiX9 : ∀ w ∈ wsX90, w ∈ wsX9_thrown := by decide +kernel
  have k54 := hts (.fieldLink RX9 54 "DayColumnModel" "thrown" "I") (by decide +kernel)
  unfold fX9_thrown at hf
  refine lv_aload_n hx hb dX9_thrown_0 rfl (lv_at hl 0 rfl) ?_
  refine va_get (D := D) (ci := 7) (v := .int (st.1 0)) (C := RX9) (T := TX9) (N := 27) hx hb hts hiX9 hown hK hP 0 rfl rfl 0 (by decide) k54 (fun _ h9 => h9) rfl dX9_thrown_1 ?_
  exact W.iret (v := (st.1 0)) hx hb hr (fun t ht _ => ⟨(st.1 0), rfl, so_i hf, ht⟩) (fun _ h => by cases h) dX9_thrown_4
set_option maxHeartbeats 4000000 in
set_option maxRecDepth 100000 in
theorem c_X9_number (l : Launch) (D : va_G) (cI cB : ClassId) (a tb : Nat → Nat) (st : ST) (p1 p2 p3 : Int32) (r : Int32 × ST) (hf : fX9_number st p1 p2 p3 = some r) : MetW l yX9_number wsX9_number ({ frames := 3, cells := 0, slots := 0, locals := 65 }) [.ref (a 0), .int p1, .int p2, .int p3] D [(cI, .int), (cB, .byte)] (mw cI cB a) (mA a) tb st r := by
  refine met_of (cc := cX9_number) (maxL := 4) (ret := (some .int)) (by decide) rfl (Nat.le_of_ble_eq_true rfl) ?_
  intro p e s m below meth c hx hb hr hml hts hown hlk hG ls hl
  have hown : s.vm.findClass RX9 = some m.cls := hown
  obtain ⟨hP, hK, hD, hZ⟩ := hG
  have hS : va_S (mA a) s.heap s.heap [] := va_S.rf
  have hl : lv_has ls 4 [(0, .ref (a 0)), (1, .int p1), (2, .int p2), (3, .int p3)] := hl
  have hiX9 : ∀ w ∈ wsX90, w ∈ wsX9_number := by decide +kernel
  have k54 := hts (.fieldLink RX9 54 "DayColumnModel" "thrown" "I") (by decide +kernel)
  unfold fX9_number at hf
  refine lv_aload_n hx hb dX9_number_0 rfl (lv_at hl 0 rfl) ?_
  refine lv_iconst (v := 0) hx hb dX9_number_1 (by decide) ?_
  obtain ⟨s1, es1, hf⟩ := bnd_e hf
  refine va_put (D := D) (ci := 7) (v := .int 0) (ty := .int) (C := RX9) (T := TX9) (N := 27) hx hb hts hiX9 tyX9 tyX9_ok nmX9 hown hK hP (hD st) hS 0 rfl rfl 0 (by decide) k54 (fun _ h9 => h9) rfl (by decide +kernel) rfl rfl (Nat.le_of_ble_eq_true rfl) dX9_number_2 (fun H locs hP _ hS => ?_)
  have hP : va_P D vwCl (mw cI cB a s1) H := by rw [es1]; exact hP
  refine lv_iload_n hx hb dX9_number_5 rfl (lv_at hl 1 rfl) ?_
  refine lv_iload_n hx hb dX9_number_6 rfl (lv_at hl 2 rfl) ?_
  refine lv_iload_n hx hb dX9_number_7 rfl (lv_at hl 3 rfl) ?_
  obtain ⟨o2, ho2, hf⟩ := ob_e hf
  refine w_callT (As := [.int p1, .int p2, .int p3]) (rest := []) ⟨hx, hb, hml, hown, hts⟩ (c_X9_isDate l tb p1 p2 p3 o2 ho2) (va_cwS 3 hts gX9_number_X9_isDate rfl rfl rfl (by decide +kernel) ⟨Nat.le_of_ble_eq_true rfl, Nat.le_of_ble_eq_true rfl⟩) hZ hS rfl hl.1 rfl (Nat.le_of_ble_eq_true rfl) ⟨Nat.zero_le _, Nat.zero_le _⟩ dX9_number_8 ?_
  refine lv_if_eq (tgt := 23) hx hb dX9_number_11 (by decide) (fun c3 => ?_) (fun c3 => ?_)
  · replace hf := if_t hf c3
    refine lv_iconst (v := -1) hx hb dX9_number_23 (by decide) ?_
    exact W.iret (v := (-1)) hx hb hr (fun t ht _ => ⟨⟨(-1), s1, rfl, so_p hf, p_at ht hP⟩, hS.F ht⟩) hS.2.2 dX9_number_24
  · replace hf := if_f hf c3
    refine lv_iload_n hx hb dX9_number_14 rfl (lv_at hl 1 rfl) ?_
    refine lv_iload_n hx hb dX9_number_15 rfl (lv_at hl 2 rfl) ?_
    refine lv_iload_n hx hb dX9_number_16 rfl (lv_at hl 3 rfl) ?_
    obtain ⟨o4, ho4, hf⟩ := ob_e hf
    refine w_callT (As := [.int p1, .int p2, .int p3]) (rest := []) ⟨hx, hb, hml, hown, hts⟩ (c_X9_numberOf l tb p1 p2 p3 o4 ho4) (va_cwS 3 hts gX9_number_X9_numberOf rfl rfl rfl (by decide +kernel) ⟨Nat.le_of_ble_eq_true rfl, Nat.le_of_ble_eq_true rfl⟩) hZ hS rfl hl.1 rfl (Nat.le_of_ble_eq_true rfl) ⟨Nat.zero_le _, Nat.zero_le _⟩ dX9_number_17 ?_
    refine lv_goto (tgt := 24) hx hb dX9_number_20 (by decide) ?_
    exact W.iret (v := o4) hx hb hr (fun t ht _ => ⟨⟨o4, s1, rfl, so_p hf, p_at ht hP⟩, hS.F ht⟩) hS.2.2 dX9_number_24
set_option maxHeartbeats 4000000 in
set_option maxRecDepth 100000 in
theorem c_X9_split (l : Launch) (D : va_G) (cI cB : ClassId) (a tb : Nat → Nat) (st : ST) (p1 : Int32) (r : ST) (hf : fX9_split st p1 = some r) : MetV l yX9_split wsX9_split ({ frames := 2, cells := 0, slots := 0, locals := 41 }) [.ref (a 0), .int p1] D [(cI, .int), (cB, .byte)] (mw cI cB a) (mA a) tb st r := by
  refine met_of (cc := cX9_split) (maxL := 3) (ret := none) (by decide) rfl (Nat.le_of_ble_eq_true rfl) ?_
  intro p e s m below meth c hx hb hr hml hts hown hlk hG ls hl
  have hown : s.vm.findClass RX9 = some m.cls := hown
  obtain ⟨hP, hK, hD, hZ⟩ := hG
  have hS : va_S (mA a) s.heap s.heap [] := va_S.rf
  have hl : lv_has ls 3 [(0, .ref (a 0)), (1, .int p1)] := hl
  have hiX9 : ∀ w ∈ wsX90, w ∈ wsX9_split := by decide +kernel
  have k76 := hts (.fieldLink RX9 76 "DayColumnModel" "partYear" "I") (by decide +kernel)
  have k79 := hts (.fieldLink RX9 79 "DayColumnModel" "partMonth" "I") (by decide +kernel)
  have k82 := hts (.fieldLink RX9 82 "DayColumnModel" "partDay" "I") (by decide +kernel)
  have l72 : ∀ (n : Nat) (x_2 : Int32) (st : ST) (H : Heap) (locs : List Loc) (ls : Array Slot), va_P D vwCl (mw cI cB a st) H → va_S (mA a) s.heap H locs → lv_has ls 3 [(0, .ref (a 0)), (2, .int x_2)] → fX9_split_72 n st x_2 = some r → W p l e ({ frames := 2, cells := 0, slots := 0, locals := 41 }) s m ([.ref (a 0), .int p1] : List Value).toArray below meth c H locs 0 0 (MQ below (va_Qv (fun (u : ST) => u = r) (fun u t => va_P D vwCl (mw cI cB a u) t.heap) (mA a)) ([.ref (a 0), .int p1] : List Value).toArray s 0 0 (mA a)) (F0 m 72 ls []) := by
    intro n
    induction n with
    | zero =>
      intro x_2 st H locs ls hP hS hl hf
      cases hf
    | succ n ih72 =>
      intro x_2 st H locs ls hP hS hl hf
      unfold fX9_split_72 at hf
      refine lv_iload_n hx hb dX9_split_72 rfl (lv_at hl 1 rfl) ?_
      refine lv_aload_n hx hb dX9_split_73 rfl (lv_at hl 0 rfl) ?_
      refine va_get (D := D) (ci := 7) (v := .int (st.1 13)) (C := RX9) (T := TX9) (N := 27) hx hb hts hiX9 hown hK hP 0 rfl rfl 13 (by decide) k79 (fun _ h9 => h9) rfl dX9_split_74 ?_
      refine lv_aload_n hx hb dX9_split_77 rfl (lv_at hl 0 rfl) ?_
      refine va_get (D := D) (ci := 7) (v := .int (st.1 14)) (C := RX9) (T := TX9) (N := 27) hx hb hts hiX9 hown hK hP 0 rfl rfl 14 (by decide) k76 (fun _ h9 => h9) rfl dX9_split_78 ?_
      obtain ⟨o1, ho1, hf⟩ := ob_e hf
      refine w_callT (As := [.int (st.1 13), .int (st.1 14)]) (rest := [.int x_2]) ⟨hx, hb, hml, hown, hts⟩ (c_X9_daysOf l tb (st.1 13) (st.1 14) o1 ho1) (va_cwS 2 hts gX9_split_X9_daysOf rfl rfl rfl (by decide +kernel) ⟨Nat.le_of_ble_eq_true rfl, Nat.le_of_ble_eq_true rfl⟩) hZ hS rfl hl.1 rfl (Nat.le_of_ble_eq_true rfl) ⟨Nat.zero_le _, Nat.zero_le _⟩ dX9_split_81 ?_
      refine lv_icmp_lt (tgt := 114) hx hb dX9_split_84 (by decide) (fun c2 => ?_) (fun c2 => ?_)
      · replace hf := if_t hf c2
        refine lv_aload_n hx hb dX9_split_114 rfl (lv_at hl 0 rfl) ?_
        refine lv_iload_n hx hb dX9_split_115 rfl (lv_at hl 1 rfl) ?_
        refine lv_iconst (v := 1) hx hb dX9_split_116 (by decide) ?_
        refine lv_iadd hx hb dX9_split_117 ?_
        obtain ⟨x3, ex3, hf⟩ := bnd_e hf
        refine w_nm ex3 ?_
        obtain ⟨s4, es4, hf⟩ := bnd_e hf
        refine va_put (D := D) (ci := 7) (v := .int x3) (ty := .int) (C := RX9) (T := TX9) (N := 27) hx hb hts hiX9 tyX9 tyX9_ok nmX9 hown hK hP (hD st) hS 0 rfl rfl 12 (by decide) k82 (fun _ h9 => h9) rfl (by decide +kernel) rfl rfl (Nat.le_of_ble_eq_true rfl) dX9_split_118 (fun H locs hP _ hS => ?_)
        have hP : va_P D vwCl (mw cI cB a s4) H := by rw [es4]; exact hP
        exact W.vret hx hb hr (fun t ht _ => ⟨⟨s4, rfl, so_i hf, p_at ht hP⟩, hS.F ht⟩) hS.2.2 dX9_split_121
      · replace hf := if_f hf c2
        refine lv_iload_n hx hb dX9_split_87 rfl (lv_at hl 1 rfl) ?_
        refine lv_aload_n hx hb dX9_split_88 rfl (lv_at hl 0 rfl) ?_
        refine va_get (D := D) (ci := 7) (v := .int (st.1 13)) (C := RX9) (T := TX9) (N := 27) hx hb hts hiX9 hown hK hP 0 rfl rfl 13 (by decide) k79 (fun _ h9 => h9) rfl dX9_split_89 ?_
        refine lv_aload_n hx hb dX9_split_92 rfl (lv_at hl 0 rfl) ?_
        refine va_get (D := D) (ci := 7) (v := .int (st.1 14)) (C := RX9) (T := TX9) (N := 27) hx hb hts hiX9 hown hK hP 0 rfl rfl 14 (by decide) k76 (fun _ h9 => h9) rfl dX9_split_93 ?_
        obtain ⟨o5, ho5, hf⟩ := ob_e hf
        refine w_callT (As := [.int (st.1 13), .int (st.1 14)]) (rest := [.int x_2]) ⟨hx, hb, hml, hown, hts⟩ (c_X9_daysOf l tb (st.1 13) (st.1 14) o5 ho5) (va_cwS 2 hts gX9_split_X9_daysOf rfl rfl rfl (by decide +kernel) ⟨Nat.le_of_ble_eq_true rfl, Nat.le_of_ble_eq_true rfl⟩) hZ hS rfl hl.1 rfl (Nat.le_of_ble_eq_true rfl) ⟨Nat.zero_le _, Nat.zero_le _⟩ dX9_split_96 ?_
        refine lv_isub hx hb dX9_split_99 ?_
        obtain ⟨x6, ex6, hf⟩ := bnd_e hf
        refine w_nm ex6 ?_
        refine lv_istore_n (lv' := [(2, .int x6), (0, .ref (a 0))]) hx hb dX9_split_100 rfl hl (by decide) rfl (fun ls hl => ?_)
        refine lv_aload_n hx hb dX9_split_101 rfl (lv_at hl 1 rfl) ?_
        refine lv_dup hx hb dX9_split_102 rfl ?_
        refine va_get (D := D) (ci := 7) (v := .int (st.1 13)) (C := RX9) (T := TX9) (N := 27) hx hb hts hiX9 hown hK hP 0 rfl rfl 13 (by decide) k79 (fun _ h9 => h9) rfl dX9_split_103 ?_
        refine lv_iconst (v := 1) hx hb dX9_split_106 (by decide) ?_
        refine lv_iadd hx hb dX9_split_107 ?_
        obtain ⟨x7, ex7, hf⟩ := bnd_e hf
        refine w_nm ex7 ?_
        obtain ⟨s8, es8, hf⟩ := bnd_e hf
        refine va_put (D := D) (ci := 7) (v := .int x7) (ty := .int) (C := RX9) (T := TX9) (N := 27) hx hb hts hiX9 tyX9 tyX9_ok nmX9 hown hK hP (hD st) hS 0 rfl rfl 13 (by decide) k79 (fun _ h9 => h9) rfl (by decide +kernel) rfl rfl (Nat.le_of_ble_eq_true rfl) dX9_split_108 (fun H locs hP _ hS => ?_)
        have hP : va_P D vwCl (mw cI cB a s8) H := by rw [es8]; exact hP
        refine lv_goto (tgt := 72) hx hb dX9_split_111 (by decide) ?_
        exact ih72 x6 s8 _ _ _ hP hS (lv_sub hl [1, 0] rfl) hf
  have l9 : ∀ (n : Nat) (x_2 : Int32) (st : ST) (H : Heap) (locs : List Loc) (ls : Array Slot), va_P D vwCl (mw cI cB a st) H → va_S (mA a) s.heap H locs → lv_has ls 3 [(0, .ref (a 0)), (2, .int x_2)] → fX9_split_9 n st x_2 = some r → W p l e ({ frames := 2, cells := 0, slots := 0, locals := 41 }) s m ([.ref (a 0), .int p1] : List Value).toArray below meth c H locs 0 0 (MQ below (va_Qv (fun (u : ST) => u = r) (fun u t => va_P D vwCl (mw cI cB a u) t.heap) (mA a)) ([.ref (a 0), .int p1] : List Value).toArray s 0 0 (mA a)) (F0 m 9 ls []) := by
    intro n
    induction n with
    | zero =>
      intro x_2 st H locs ls hP hS hl hf
      cases hf
    | succ n ih9 =>
      intro x_2 st H locs ls hP hS hl hf
      unfold fX9_split_9 at hf
      refine lv_iload_n hx hb dX9_split_9 rfl (lv_at hl 1 rfl) ?_
      refine lv_aload_n hx hb dX9_split_10 rfl (lv_at hl 0 rfl) ?_
      refine va_get (D := D) (ci := 7) (v := .int (st.1 14)) (C := RX9) (T := TX9) (N := 27) hx hb hts hiX9 hown hK hP 0 rfl rfl 14 (by decide) k76 (fun _ h9 => h9) rfl dX9_split_11 ?_
      obtain ⟨o9, ho9, hf⟩ := ob_e hf
      refine w_callT (As := [.int (st.1 14)]) (rest := [.int x_2]) ⟨hx, hb, hml, hown, hts⟩ (c_X9_isLeap l tb (st.1 14) o9 ho9) (va_cwS 1 hts gX9_split_X9_isLeap rfl rfl rfl (by decide +kernel) ⟨Nat.le_of_ble_eq_true rfl, Nat.le_of_ble_eq_true rfl⟩) hZ hS rfl hl.1 rfl (Nat.le_of_ble_eq_true rfl) ⟨Nat.zero_le _, Nat.zero_le _⟩ dX9_split_14 ?_
      refine lv_if_eq (tgt := 26) hx hb dX9_split_17 (by decide) (fun c10 => ?_) (fun c10 => ?_)
      · replace hf := if_t hf c10
        refine lv_sipush (v := 365) hx hb dX9_split_26 (by decide) ?_
        refine lv_icmp_lt (tgt := 67) hx hb dX9_split_29 (by decide) (fun c11 => ?_) (fun c11 => ?_)
        · replace hf := if_t hf c11
          refine lv_aload_n hx hb dX9_split_67 rfl (lv_at hl 0 rfl) ?_
          refine lv_iconst (v := 1) hx hb dX9_split_68 (by decide) ?_
          obtain ⟨s12, es12, hf⟩ := bnd_e hf
          refine va_put (D := D) (ci := 7) (v := .int 1) (ty := .int) (C := RX9) (T := TX9) (N := 27) hx hb hts hiX9 tyX9 tyX9_ok nmX9 hown hK hP (hD st) hS 0 rfl rfl 13 (by decide) k79 (fun _ h9 => h9) rfl (by decide +kernel) rfl rfl (Nat.le_of_ble_eq_true rfl) dX9_split_69 (fun H locs hP _ hS => ?_)
          have hP : va_P D vwCl (mw cI cB a s12) H := by rw [es12]; exact hP
          exact l72 1000 x_2 s12 _ _ _ hP hS (lv_sub hl [0, 1] rfl) hf
        · replace hf := if_f hf c11
          refine lv_iload_n hx hb dX9_split_32 rfl (lv_at hl 1 rfl) ?_
          refine lv_aload_n hx hb dX9_split_33 rfl (lv_at hl 0 rfl) ?_
          refine va_get (D := D) (ci := 7) (v := .int (st.1 14)) (C := RX9) (T := TX9) (N := 27) hx hb hts hiX9 hown hK hP 0 rfl rfl 14 (by decide) k76 (fun _ h9 => h9) rfl dX9_split_34 ?_
          obtain ⟨o13, ho13, hf⟩ := ob_e hf
          refine w_callT (As := [.int (st.1 14)]) (rest := [.int x_2]) ⟨hx, hb, hml, hown, hts⟩ (c_X9_isLeap l tb (st.1 14) o13 ho13) (va_cwS 1 hts gX9_split_X9_isLeap rfl rfl rfl (by decide +kernel) ⟨Nat.le_of_ble_eq_true rfl, Nat.le_of_ble_eq_true rfl⟩) hZ hS rfl hl.1 rfl (Nat.le_of_ble_eq_true rfl) ⟨Nat.zero_le _, Nat.zero_le _⟩ dX9_split_37 ?_
          refine lv_if_eq (tgt := 49) hx hb dX9_split_40 (by decide) (fun c14 => ?_) (fun c14 => ?_)
          · replace hf := if_t hf c14
            refine lv_sipush (v := 365) hx hb dX9_split_49 (by decide) ?_
            refine lv_isub hx hb dX9_split_52 ?_
            obtain ⟨x15, ex15, hf⟩ := bnd_e hf
            refine w_nm ex15 ?_
            refine lv_istore_n (lv' := [(2, .int x15), (0, .ref (a 0))]) hx hb dX9_split_53 rfl hl (by decide) rfl (fun ls hl => ?_)
            refine lv_aload_n hx hb dX9_split_54 rfl (lv_at hl 1 rfl) ?_
            refine lv_dup hx hb dX9_split_55 rfl ?_
            refine va_get (D := D) (ci := 7) (v := .int (st.1 14)) (C := RX9) (T := TX9) (N := 27) hx hb hts hiX9 hown hK hP 0 rfl rfl 14 (by decide) k76 (fun _ h9 => h9) rfl dX9_split_56 ?_
            refine lv_iconst (v := 1) hx hb dX9_split_59 (by decide) ?_
            refine lv_iadd hx hb dX9_split_60 ?_
            obtain ⟨x16, ex16, hf⟩ := bnd_e hf
            refine w_nm ex16 ?_
            obtain ⟨s17, es17, hf⟩ := bnd_e hf
            refine va_put (D := D) (ci := 7) (v := .int x16) (ty := .int) (C := RX9) (T := TX9) (N := 27) hx hb hts hiX9 tyX9 tyX9_ok nmX9 hown hK hP (hD st) hS 0 rfl rfl 14 (by decide) k76 (fun _ h9 => h9) rfl (by decide +kernel) rfl rfl (Nat.le_of_ble_eq_true rfl) dX9_split_61 (fun H locs hP _ hS => ?_)
            have hP : va_P D vwCl (mw cI cB a s17) H := by rw [es17]; exact hP
            refine lv_goto (tgt := 9) hx hb dX9_split_64 (by decide) ?_
            exact ih9 x15 s17 _ _ _ hP hS (lv_sub hl [1, 0] rfl) hf
          · replace hf := if_f hf c14
            refine lv_sipush (v := 366) hx hb dX9_split_43 (by decide) ?_
            refine lv_goto (tgt := 52) hx hb dX9_split_46 (by decide) ?_
            refine lv_isub hx hb dX9_split_52 ?_
            obtain ⟨x18, ex18, hf⟩ := bnd_e hf
            refine w_nm ex18 ?_
            refine lv_istore_n (lv' := [(2, .int x18), (0, .ref (a 0))]) hx hb dX9_split_53 rfl hl (by decide) rfl (fun ls hl => ?_)
            refine lv_aload_n hx hb dX9_split_54 rfl (lv_at hl 1 rfl) ?_
            refine lv_dup hx hb dX9_split_55 rfl ?_
            refine va_get (D := D) (ci := 7) (v := .int (st.1 14)) (C := RX9) (T := TX9) (N := 27) hx hb hts hiX9 hown hK hP 0 rfl rfl 14 (by decide) k76 (fun _ h9 => h9) rfl dX9_split_56 ?_
            refine lv_iconst (v := 1) hx hb dX9_split_59 (by decide) ?_
            refine lv_iadd hx hb dX9_split_60 ?_
            obtain ⟨x19, ex19, hf⟩ := bnd_e hf
            refine w_nm ex19 ?_
            obtain ⟨s20, es20, hf⟩ := bnd_e hf
            refine va_put (D := D) (ci := 7) (v := .int x19) (ty := .int) (C := RX9) (T := TX9) (N := 27) hx hb hts hiX9 tyX9 tyX9_ok nmX9 hown hK hP (hD st) hS 0 rfl rfl 14 (by decide) k76 (fun _ h9 => h9) rfl (by decide +kernel) rfl rfl (Nat.le_of_ble_eq_true rfl) dX9_split_61 (fun H locs hP _ hS => ?_)
            have hP : va_P D vwCl (mw cI cB a s20) H := by rw [es20]; exact hP
            refine lv_goto (tgt := 9) hx hb dX9_split_64 (by decide) ?_
            exact ih9 x18 s20 _ _ _ hP hS (lv_sub hl [1, 0] rfl) hf
      · replace hf := if_f hf c10
        refine lv_sipush (v := 366) hx hb dX9_split_20 (by decide) ?_
        refine lv_goto (tgt := 29) hx hb dX9_split_23 (by decide) ?_
        refine lv_icmp_lt (tgt := 67) hx hb dX9_split_29 (by decide) (fun c21 => ?_) (fun c21 => ?_)
        · replace hf := if_t hf c21
          refine lv_aload_n hx hb dX9_split_67 rfl (lv_at hl 0 rfl) ?_
          refine lv_iconst (v := 1) hx hb dX9_split_68 (by decide) ?_
          obtain ⟨s22, es22, hf⟩ := bnd_e hf
          refine va_put (D := D) (ci := 7) (v := .int 1) (ty := .int) (C := RX9) (T := TX9) (N := 27) hx hb hts hiX9 tyX9 tyX9_ok nmX9 hown hK hP (hD st) hS 0 rfl rfl 13 (by decide) k79 (fun _ h9 => h9) rfl (by decide +kernel) rfl rfl (Nat.le_of_ble_eq_true rfl) dX9_split_69 (fun H locs hP _ hS => ?_)
          have hP : va_P D vwCl (mw cI cB a s22) H := by rw [es22]; exact hP
          exact l72 1000 x_2 s22 _ _ _ hP hS (lv_sub hl [0, 1] rfl) hf
        · replace hf := if_f hf c21
          refine lv_iload_n hx hb dX9_split_32 rfl (lv_at hl 1 rfl) ?_
          refine lv_aload_n hx hb dX9_split_33 rfl (lv_at hl 0 rfl) ?_
          refine va_get (D := D) (ci := 7) (v := .int (st.1 14)) (C := RX9) (T := TX9) (N := 27) hx hb hts hiX9 hown hK hP 0 rfl rfl 14 (by decide) k76 (fun _ h9 => h9) rfl dX9_split_34 ?_
          obtain ⟨o23, ho23, hf⟩ := ob_e hf
          refine w_callT (As := [.int (st.1 14)]) (rest := [.int x_2]) ⟨hx, hb, hml, hown, hts⟩ (c_X9_isLeap l tb (st.1 14) o23 ho23) (va_cwS 1 hts gX9_split_X9_isLeap rfl rfl rfl (by decide +kernel) ⟨Nat.le_of_ble_eq_true rfl, Nat.le_of_ble_eq_true rfl⟩) hZ hS rfl hl.1 rfl (Nat.le_of_ble_eq_true rfl) ⟨Nat.zero_le _, Nat.zero_le _⟩ dX9_split_37 ?_
          refine lv_if_eq (tgt := 49) hx hb dX9_split_40 (by decide) (fun c24 => ?_) (fun c24 => ?_)
          · replace hf := if_t hf c24
            refine lv_sipush (v := 365) hx hb dX9_split_49 (by decide) ?_
            refine lv_isub hx hb dX9_split_52 ?_
            obtain ⟨x25, ex25, hf⟩ := bnd_e hf
            refine w_nm ex25 ?_
            refine lv_istore_n (lv' := [(2, .int x25), (0, .ref (a 0))]) hx hb dX9_split_53 rfl hl (by decide) rfl (fun ls hl => ?_)
            refine lv_aload_n hx hb dX9_split_54 rfl (lv_at hl 1 rfl) ?_
            refine lv_dup hx hb dX9_split_55 rfl ?_
            refine va_get (D := D) (ci := 7) (v := .int (st.1 14)) (C := RX9) (T := TX9) (N := 27) hx hb hts hiX9 hown hK hP 0 rfl rfl 14 (by decide) k76 (fun _ h9 => h9) rfl dX9_split_56 ?_
            refine lv_iconst (v := 1) hx hb dX9_split_59 (by decide) ?_
            refine lv_iadd hx hb dX9_split_60 ?_
            obtain ⟨x26, ex26, hf⟩ := bnd_e hf
            refine w_nm ex26 ?_
            obtain ⟨s27, es27, hf⟩ := bnd_e hf
            refine va_put (D := D) (ci := 7) (v := .int x26) (ty := .int) (C := RX9) (T := TX9) (N := 27) hx hb hts hiX9 tyX9 tyX9_ok nmX9 hown hK hP (hD st) hS 0 rfl rfl 14 (by decide) k76 (fun _ h9 => h9) rfl (by decide +kernel) rfl rfl (Nat.le_of_ble_eq_true rfl) dX9_split_61 (fun H locs hP _ hS => ?_)
            have hP : va_P D vwCl (mw cI cB a s27) H := by rw [es27]; exact hP
            refine lv_goto (tgt := 9) hx hb dX9_split_64 (by decide) ?_
            exact ih9 x25 s27 _ _ _ hP hS (lv_sub hl [1, 0] rfl) hf
          · replace hf := if_f hf c24
            refine lv_sipush (v := 366) hx hb dX9_split_43 (by decide) ?_
            refine lv_goto (tgt := 52) hx hb dX9_split_46 (by decide) ?_
            refine lv_isub hx hb dX9_split_52 ?_
            obtain ⟨x28, ex28, hf⟩ := bnd_e hf
            refine w_nm ex28 ?_
            refine lv_istore_n (lv' := [(2, .int x28), (0, .ref (a 0))]) hx hb dX9_split_53 rfl hl (by decide) rfl (fun ls hl => ?_)
            refine lv_aload_n hx hb dX9_split_54 rfl (lv_at hl 1 rfl) ?_
            refine lv_dup hx hb dX9_split_55 rfl ?_
            refine va_get (D := D) (ci := 7) (v := .int (st.1 14)) (C := RX9) (T := TX9) (N := 27) hx hb hts hiX9 hown hK hP 0 rfl rfl 14 (by decide) k76 (fun _ h9 => h9) rfl dX9_split_56 ?_
            refine lv_iconst (v := 1) hx hb dX9_split_59 (by decide) ?_
            refine lv_iadd hx hb dX9_split_60 ?_
            obtain ⟨x29, ex29, hf⟩ := bnd_e hf
            refine w_nm ex29 ?_
            obtain ⟨s30, es30, hf⟩ := bnd_e hf
            refine va_put (D := D) (ci := 7) (v := .int x29) (ty := .int) (C := RX9) (T := TX9) (N := 27) hx hb hts hiX9 tyX9 tyX9_ok nmX9 hown hK hP (hD st) hS 0 rfl rfl 14 (by decide) k76 (fun _ h9 => h9) rfl (by decide +kernel) rfl rfl (Nat.le_of_ble_eq_true rfl) dX9_split_61 (fun H locs hP _ hS => ?_)
            have hP : va_P D vwCl (mw cI cB a s30) H := by rw [es30]; exact hP
            refine lv_goto (tgt := 9) hx hb dX9_split_64 (by decide) ?_
            exact ih9 x28 s30 _ _ _ hP hS (lv_sub hl [1, 0] rfl) hf
  unfold fX9_split at hf
  refine lv_aload_n hx hb dX9_split_0 rfl (lv_at hl 0 rfl) ?_
  refine lv_sipush (v := 1900) hx hb dX9_split_1 (by decide) ?_
  obtain ⟨s31, es31, hf⟩ := bnd_e hf
  refine va_put (D := D) (ci := 7) (v := .int 1900) (ty := .int) (C := RX9) (T := TX9) (N := 27) hx hb hts hiX9 tyX9 tyX9_ok nmX9 hown hK hP (hD st) hS 0 rfl rfl 14 (by decide) k76 (fun _ h9 => h9) rfl (by decide +kernel) rfl rfl (Nat.le_of_ble_eq_true rfl) dX9_split_4 (fun H locs hP _ hS => ?_)
  have hP : va_P D vwCl (mw cI cB a s31) H := by rw [es31]; exact hP
  refine lv_iload_n hx hb dX9_split_7 rfl (lv_at hl 1 rfl) ?_
  refine lv_istore_n (lv' := [(2, .int p1), (0, .ref (a 0)), (1, .int p1)]) hx hb dX9_split_8 rfl hl (by decide) rfl (fun ls hl => ?_)
  exact l9 1000 p1 s31 _ _ _ hP hS (lv_sub hl [1, 0] rfl) hf
set_option maxHeartbeats 4000000 in
set_option maxRecDepth 100000 in
theorem c_X9_part (l : Launch) (D : va_G) (cI cB : ClassId) (a tb : Nat → Nat) (st : ST) (p1 p2 : Int32) (r : Int32 × ST) (hf : fX9_part st p1 p2 = some r) : MetW l yX9_part wsX9_part ({ frames := 3, cells := 0, slots := 0, locals := 63 }) [.ref (a 0), .int p1, .int p2] D [(cI, .int), (cB, .byte)] (mw cI cB a) (mA a) tb st r := by
  refine met_of (cc := cX9_part) (maxL := 3) (ret := (some .int)) (by decide) rfl (Nat.le_of_ble_eq_true rfl) ?_
  intro p e s m below meth c hx hb hr hml hts hown hlk hG ls hl
  have hown : s.vm.findClass RX9 = some m.cls := hown
  obtain ⟨hP, hK, hD, hZ⟩ := hG
  have hS : va_S (mA a) s.heap s.heap [] := va_S.rf
  have hl : lv_has ls 3 [(0, .ref (a 0)), (1, .int p1), (2, .int p2)] := hl
  have hiX9 : ∀ w ∈ wsX90, w ∈ wsX9_part := by decide +kernel
  have k54 := hts (.fieldLink RX9 54 "DayColumnModel" "thrown" "I") (by decide +kernel)
  have k76 := hts (.fieldLink RX9 76 "DayColumnModel" "partYear" "I") (by decide +kernel)
  have k79 := hts (.fieldLink RX9 79 "DayColumnModel" "partMonth" "I") (by decide +kernel)
  have k82 := hts (.fieldLink RX9 82 "DayColumnModel" "partDay" "I") (by decide +kernel)
  unfold fX9_part at hf
  refine lv_aload_n hx hb dX9_part_0 rfl (lv_at hl 0 rfl) ?_
  refine lv_iload_n hx hb dX9_part_1 rfl (lv_at hl 1 rfl) ?_
  obtain ⟨o1, ho1, hf⟩ := ob_e hf
  refine w_callT (As := [.int p1]) (rest := [.ref (a 0)]) ⟨hx, hb, hml, hown, hts⟩ (c_X9_isDay l tb p1 o1 ho1) (va_cwS 1 hts gX9_part_X9_isDay rfl rfl rfl (by decide +kernel) ⟨Nat.le_of_ble_eq_true rfl, Nat.le_of_ble_eq_true rfl⟩) hZ hS rfl hl.1 rfl (Nat.le_of_ble_eq_true rfl) ⟨Nat.zero_le _, Nat.zero_le _⟩ dX9_part_2 ?_
  refine lv_if_eq (tgt := 21) hx hb dX9_part_5 (by decide) (fun c2 => ?_) (fun c2 => ?_)
  · replace hf := if_t hf c2
    refine lv_iconst (v := 1) hx hb dX9_part_21 (by decide) ?_
    obtain ⟨s3, es3, hf⟩ := bnd_e hf
    refine va_put (D := D) (ci := 7) (v := .int 1) (ty := .int) (C := RX9) (T := TX9) (N := 27) hx hb hts hiX9 tyX9 tyX9_ok nmX9 hown hK hP (hD st) hS 0 rfl rfl 0 (by decide) k54 (fun _ h9 => h9) rfl (by decide +kernel) rfl rfl (Nat.le_of_ble_eq_true rfl) dX9_part_22 (fun H locs hP _ hS => ?_)
    have hP : va_P D vwCl (mw cI cB a s3) H := by rw [es3]; exact hP
    refine lv_aload_n hx hb dX9_part_25 rfl (lv_at hl 0 rfl) ?_
    refine va_get (D := D) (ci := 7) (v := .int (s3.1 0)) (C := RX9) (T := TX9) (N := 27) hx hb hts hiX9 hown hK hP 0 rfl rfl 0 (by decide) k54 (fun _ h9 => h9) rfl dX9_part_26 ?_
    refine lv_if_le (tgt := 34) hx hb dX9_part_29 (by decide) (fun c4 => ?_) (fun c4 => ?_)
    · replace hf := if_t hf c4
      refine lv_aload_n hx hb dX9_part_34 rfl (lv_at hl 0 rfl) ?_
      refine lv_iload_n hx hb dX9_part_35 rfl (lv_at hl 1 rfl) ?_
      obtain ⟨o5, ho5, hf⟩ := ob_e hf
      refine w_callV (b := a 0) (As := [.int p1]) (rest := []) ⟨hx, hb, hml, hown, hts⟩ (c_X9_split l D cI cB a tb s3 p1 o5 ho5) (cwV 1 hts gX9_part_X9_split rfl rfl rfl (by decide +kernel) ⟨Nat.le_of_ble_eq_true rfl, Nat.le_of_ble_eq_true rfl⟩) hP hK hD hZ hS (va_recv hK hP (ci := 7) (q0 := 0) rfl rfl) rfl hl.1 rfl (Nat.le_of_ble_eq_true rfl) ⟨Nat.zero_le _, Nat.zero_le _⟩ dX9_part_36 (fun H locs hP hS => ?_)
      refine lv_iload_n hx hb dX9_part_39 rfl (lv_at hl 2 rfl) ?_
      refine lv_if_ne (tgt := 50) hx hb dX9_part_40 (by decide) (fun c6 => ?_) (fun c6 => ?_)
      · replace hf := if_f hf c6
        refine lv_iload_n hx hb dX9_part_50 rfl (lv_at hl 2 rfl) ?_
        refine lv_iconst (v := 1) hx hb dX9_part_51 (by decide) ?_
        refine lv_icmp_ne (tgt := 62) hx hb dX9_part_52 (by decide) (fun c7 => ?_) (fun c7 => ?_)
        · replace hf := if_f hf c7
          refine lv_iload_n hx hb dX9_part_62 rfl (lv_at hl 2 rfl) ?_
          refine lv_iconst (v := 2) hx hb dX9_part_63 (by decide) ?_
          refine lv_icmp_ne (tgt := 74) hx hb dX9_part_64 (by decide) (fun c8 => ?_) (fun c8 => ?_)
          · replace hf := if_f hf c8
            refine lv_iload_n hx hb dX9_part_74 rfl (lv_at hl 1 rfl) ?_
            refine lv_bipush (v := 7) hx hb dX9_part_75 (by decide) ?_
            refine lv_irem hx hb dX9_part_77 (by decide) ?_
            exact W.iret (v := (p1 - p1 / 7 * 7)) hx hb hr (fun t ht _ => ⟨⟨(p1 - p1 / 7 * 7), o5, rfl, so_p hf, p_at ht hP⟩, hS.F ht⟩) hS.2.2 dX9_part_78
          · replace hf := if_t hf c8
            refine lv_aload_n hx hb dX9_part_67 rfl (lv_at hl 0 rfl) ?_
            refine va_get (D := D) (ci := 7) (v := .int (o5.1 14)) (C := RX9) (T := TX9) (N := 27) hx hb hts hiX9 hown hK hP 0 rfl rfl 14 (by decide) k76 (fun _ h9 => h9) rfl dX9_part_68 ?_
            refine lv_goto (tgt := 78) hx hb dX9_part_71 (by decide) ?_
            exact W.iret (v := (o5.1 14)) hx hb hr (fun t ht _ => ⟨⟨(o5.1 14), o5, rfl, so_p hf, p_at ht hP⟩, hS.F ht⟩) hS.2.2 dX9_part_78
        · replace hf := if_t hf c7
          refine lv_aload_n hx hb dX9_part_55 rfl (lv_at hl 0 rfl) ?_
          refine va_get (D := D) (ci := 7) (v := .int (o5.1 13)) (C := RX9) (T := TX9) (N := 27) hx hb hts hiX9 hown hK hP 0 rfl rfl 13 (by decide) k79 (fun _ h9 => h9) rfl dX9_part_56 ?_
          refine lv_goto (tgt := 78) hx hb dX9_part_59 (by decide) ?_
          exact W.iret (v := (o5.1 13)) hx hb hr (fun t ht _ => ⟨⟨(o5.1 13), o5, rfl, so_p hf, p_at ht hP⟩, hS.F ht⟩) hS.2.2 dX9_part_78
      · replace hf := if_t hf c6
        refine lv_aload_n hx hb dX9_part_43 rfl (lv_at hl 0 rfl) ?_
        refine va_get (D := D) (ci := 7) (v := .int (o5.1 12)) (C := RX9) (T := TX9) (N := 27) hx hb hts hiX9 hown hK hP 0 rfl rfl 12 (by decide) k82 (fun _ h9 => h9) rfl dX9_part_44 ?_
        refine lv_goto (tgt := 78) hx hb dX9_part_47 (by decide) ?_
        exact W.iret (v := (o5.1 12)) hx hb hr (fun t ht _ => ⟨⟨(o5.1 12), o5, rfl, so_p hf, p_at ht hP⟩, hS.F ht⟩) hS.2.2 dX9_part_78
    · replace hf := if_f hf c4
      refine lv_iconst (v := 0) hx hb dX9_part_32 (by decide) ?_
      exact W.iret (v := 0) hx hb hr (fun t ht _ => ⟨⟨0, s3, rfl, so_p hf, p_at ht hP⟩, hS.F ht⟩) hS.2.2 dX9_part_33
  · replace hf := if_f hf c2
    refine lv_iload_n hx hb dX9_part_8 rfl (lv_at hl 2 rfl) ?_
    refine lv_iconst (v := 0) hx hb dX9_part_9 (by decide) ?_
    refine lv_iconst (v := 3) hx hb dX9_part_10 (by decide) ?_
    obtain ⟨o9, ho9, hf⟩ := ob_e hf
    refine w_callT (As := [.int p2, .int 0, .int 3]) (rest := [.ref (a 0)]) ⟨hx, hb, hml, hown, hts⟩ (c_X9_isIn l tb p2 0 3 o9 ho9) (va_cwS 3 hts gX9_part_X9_isIn rfl rfl rfl (by decide +kernel) ⟨Nat.le_of_ble_eq_true rfl, Nat.le_of_ble_eq_true rfl⟩) hZ hS rfl hl.1 rfl (Nat.le_of_ble_eq_true rfl) ⟨Nat.zero_le _, Nat.zero_le _⟩ dX9_part_11 ?_
    refine lv_if_eq (tgt := 21) hx hb dX9_part_14 (by decide) (fun c10 => ?_) (fun c10 => ?_)
    · replace hf := if_t hf c10
      refine lv_iconst (v := 1) hx hb dX9_part_21 (by decide) ?_
      obtain ⟨s11, es11, hf⟩ := bnd_e hf
      refine va_put (D := D) (ci := 7) (v := .int 1) (ty := .int) (C := RX9) (T := TX9) (N := 27) hx hb hts hiX9 tyX9 tyX9_ok nmX9 hown hK hP (hD st) hS 0 rfl rfl 0 (by decide) k54 (fun _ h9 => h9) rfl (by decide +kernel) rfl rfl (Nat.le_of_ble_eq_true rfl) dX9_part_22 (fun H locs hP _ hS => ?_)
      have hP : va_P D vwCl (mw cI cB a s11) H := by rw [es11]; exact hP
      refine lv_aload_n hx hb dX9_part_25 rfl (lv_at hl 0 rfl) ?_
      refine va_get (D := D) (ci := 7) (v := .int (s11.1 0)) (C := RX9) (T := TX9) (N := 27) hx hb hts hiX9 hown hK hP 0 rfl rfl 0 (by decide) k54 (fun _ h9 => h9) rfl dX9_part_26 ?_
      refine lv_if_le (tgt := 34) hx hb dX9_part_29 (by decide) (fun c12 => ?_) (fun c12 => ?_)
      · replace hf := if_t hf c12
        refine lv_aload_n hx hb dX9_part_34 rfl (lv_at hl 0 rfl) ?_
        refine lv_iload_n hx hb dX9_part_35 rfl (lv_at hl 1 rfl) ?_
        obtain ⟨o13, ho13, hf⟩ := ob_e hf
        refine w_callV (b := a 0) (As := [.int p1]) (rest := []) ⟨hx, hb, hml, hown, hts⟩ (c_X9_split l D cI cB a tb s11 p1 o13 ho13) (cwV 1 hts gX9_part_X9_split rfl rfl rfl (by decide +kernel) ⟨Nat.le_of_ble_eq_true rfl, Nat.le_of_ble_eq_true rfl⟩) hP hK hD hZ hS (va_recv hK hP (ci := 7) (q0 := 0) rfl rfl) rfl hl.1 rfl (Nat.le_of_ble_eq_true rfl) ⟨Nat.zero_le _, Nat.zero_le _⟩ dX9_part_36 (fun H locs hP hS => ?_)
        refine lv_iload_n hx hb dX9_part_39 rfl (lv_at hl 2 rfl) ?_
        refine lv_if_ne (tgt := 50) hx hb dX9_part_40 (by decide) (fun c14 => ?_) (fun c14 => ?_)
        · replace hf := if_f hf c14
          refine lv_iload_n hx hb dX9_part_50 rfl (lv_at hl 2 rfl) ?_
          refine lv_iconst (v := 1) hx hb dX9_part_51 (by decide) ?_
          refine lv_icmp_ne (tgt := 62) hx hb dX9_part_52 (by decide) (fun c15 => ?_) (fun c15 => ?_)
          · replace hf := if_f hf c15
            refine lv_iload_n hx hb dX9_part_62 rfl (lv_at hl 2 rfl) ?_
            refine lv_iconst (v := 2) hx hb dX9_part_63 (by decide) ?_
            refine lv_icmp_ne (tgt := 74) hx hb dX9_part_64 (by decide) (fun c16 => ?_) (fun c16 => ?_)
            · replace hf := if_f hf c16
              refine lv_iload_n hx hb dX9_part_74 rfl (lv_at hl 1 rfl) ?_
              refine lv_bipush (v := 7) hx hb dX9_part_75 (by decide) ?_
              refine lv_irem hx hb dX9_part_77 (by decide) ?_
              exact W.iret (v := (p1 - p1 / 7 * 7)) hx hb hr (fun t ht _ => ⟨⟨(p1 - p1 / 7 * 7), o13, rfl, so_p hf, p_at ht hP⟩, hS.F ht⟩) hS.2.2 dX9_part_78
            · replace hf := if_t hf c16
              refine lv_aload_n hx hb dX9_part_67 rfl (lv_at hl 0 rfl) ?_
              refine va_get (D := D) (ci := 7) (v := .int (o13.1 14)) (C := RX9) (T := TX9) (N := 27) hx hb hts hiX9 hown hK hP 0 rfl rfl 14 (by decide) k76 (fun _ h9 => h9) rfl dX9_part_68 ?_
              refine lv_goto (tgt := 78) hx hb dX9_part_71 (by decide) ?_
              exact W.iret (v := (o13.1 14)) hx hb hr (fun t ht _ => ⟨⟨(o13.1 14), o13, rfl, so_p hf, p_at ht hP⟩, hS.F ht⟩) hS.2.2 dX9_part_78
          · replace hf := if_t hf c15
            refine lv_aload_n hx hb dX9_part_55 rfl (lv_at hl 0 rfl) ?_
            refine va_get (D := D) (ci := 7) (v := .int (o13.1 13)) (C := RX9) (T := TX9) (N := 27) hx hb hts hiX9 hown hK hP 0 rfl rfl 13 (by decide) k79 (fun _ h9 => h9) rfl dX9_part_56 ?_
            refine lv_goto (tgt := 78) hx hb dX9_part_59 (by decide) ?_
            exact W.iret (v := (o13.1 13)) hx hb hr (fun t ht _ => ⟨⟨(o13.1 13), o13, rfl, so_p hf, p_at ht hP⟩, hS.F ht⟩) hS.2.2 dX9_part_78
        · replace hf := if_t hf c14
          refine lv_aload_n hx hb dX9_part_43 rfl (lv_at hl 0 rfl) ?_
          refine va_get (D := D) (ci := 7) (v := .int (o13.1 12)) (C := RX9) (T := TX9) (N := 27) hx hb hts hiX9 hown hK hP 0 rfl rfl 12 (by decide) k82 (fun _ h9 => h9) rfl dX9_part_44 ?_
          refine lv_goto (tgt := 78) hx hb dX9_part_47 (by decide) ?_
          exact W.iret (v := (o13.1 12)) hx hb hr (fun t ht _ => ⟨⟨(o13.1 12), o13, rfl, so_p hf, p_at ht hP⟩, hS.F ht⟩) hS.2.2 dX9_part_78
      · replace hf := if_f hf c12
        refine lv_iconst (v := 0) hx hb dX9_part_32 (by decide) ?_
        exact W.iret (v := 0) hx hb hr (fun t ht _ => ⟨⟨0, s11, rfl, so_p hf, p_at ht hP⟩, hS.F ht⟩) hS.2.2 dX9_part_33
    · replace hf := if_f hf c10
      refine lv_iconst (v := 0) hx hb dX9_part_17 (by decide) ?_
      refine lv_goto (tgt := 22) hx hb dX9_part_18 (by decide) ?_
      obtain ⟨s17, es17, hf⟩ := bnd_e hf
      refine va_put (D := D) (ci := 7) (v := .int 0) (ty := .int) (C := RX9) (T := TX9) (N := 27) hx hb hts hiX9 tyX9 tyX9_ok nmX9 hown hK hP (hD st) hS 0 rfl rfl 0 (by decide) k54 (fun _ h9 => h9) rfl (by decide +kernel) rfl rfl (Nat.le_of_ble_eq_true rfl) dX9_part_22 (fun H locs hP _ hS => ?_)
      have hP : va_P D vwCl (mw cI cB a s17) H := by rw [es17]; exact hP
      refine lv_aload_n hx hb dX9_part_25 rfl (lv_at hl 0 rfl) ?_
      refine va_get (D := D) (ci := 7) (v := .int (s17.1 0)) (C := RX9) (T := TX9) (N := 27) hx hb hts hiX9 hown hK hP 0 rfl rfl 0 (by decide) k54 (fun _ h9 => h9) rfl dX9_part_26 ?_
      refine lv_if_le (tgt := 34) hx hb dX9_part_29 (by decide) (fun c18 => ?_) (fun c18 => ?_)
      · replace hf := if_t hf c18
        refine lv_aload_n hx hb dX9_part_34 rfl (lv_at hl 0 rfl) ?_
        refine lv_iload_n hx hb dX9_part_35 rfl (lv_at hl 1 rfl) ?_
        obtain ⟨o19, ho19, hf⟩ := ob_e hf
        refine w_callV (b := a 0) (As := [.int p1]) (rest := []) ⟨hx, hb, hml, hown, hts⟩ (c_X9_split l D cI cB a tb s17 p1 o19 ho19) (cwV 1 hts gX9_part_X9_split rfl rfl rfl (by decide +kernel) ⟨Nat.le_of_ble_eq_true rfl, Nat.le_of_ble_eq_true rfl⟩) hP hK hD hZ hS (va_recv hK hP (ci := 7) (q0 := 0) rfl rfl) rfl hl.1 rfl (Nat.le_of_ble_eq_true rfl) ⟨Nat.zero_le _, Nat.zero_le _⟩ dX9_part_36 (fun H locs hP hS => ?_)
        refine lv_iload_n hx hb dX9_part_39 rfl (lv_at hl 2 rfl) ?_
        refine lv_if_ne (tgt := 50) hx hb dX9_part_40 (by decide) (fun c20 => ?_) (fun c20 => ?_)
        · replace hf := if_f hf c20
          refine lv_iload_n hx hb dX9_part_50 rfl (lv_at hl 2 rfl) ?_
          refine lv_iconst (v := 1) hx hb dX9_part_51 (by decide) ?_
          refine lv_icmp_ne (tgt := 62) hx hb dX9_part_52 (by decide) (fun c21 => ?_) (fun c21 => ?_)
          · replace hf := if_f hf c21
            refine lv_iload_n hx hb dX9_part_62 rfl (lv_at hl 2 rfl) ?_
            refine lv_iconst (v := 2) hx hb dX9_part_63 (by decide) ?_
            refine lv_icmp_ne (tgt := 74) hx hb dX9_part_64 (by decide) (fun c22 => ?_) (fun c22 => ?_)
            · replace hf := if_f hf c22
              refine lv_iload_n hx hb dX9_part_74 rfl (lv_at hl 1 rfl) ?_
              refine lv_bipush (v := 7) hx hb dX9_part_75 (by decide) ?_
              refine lv_irem hx hb dX9_part_77 (by decide) ?_
              exact W.iret (v := (p1 - p1 / 7 * 7)) hx hb hr (fun t ht _ => ⟨⟨(p1 - p1 / 7 * 7), o19, rfl, so_p hf, p_at ht hP⟩, hS.F ht⟩) hS.2.2 dX9_part_78
            · replace hf := if_t hf c22
              refine lv_aload_n hx hb dX9_part_67 rfl (lv_at hl 0 rfl) ?_
              refine va_get (D := D) (ci := 7) (v := .int (o19.1 14)) (C := RX9) (T := TX9) (N := 27) hx hb hts hiX9 hown hK hP 0 rfl rfl 14 (by decide) k76 (fun _ h9 => h9) rfl dX9_part_68 ?_
              refine lv_goto (tgt := 78) hx hb dX9_part_71 (by decide) ?_
              exact W.iret (v := (o19.1 14)) hx hb hr (fun t ht _ => ⟨⟨(o19.1 14), o19, rfl, so_p hf, p_at ht hP⟩, hS.F ht⟩) hS.2.2 dX9_part_78
          · replace hf := if_t hf c21
            refine lv_aload_n hx hb dX9_part_55 rfl (lv_at hl 0 rfl) ?_
            refine va_get (D := D) (ci := 7) (v := .int (o19.1 13)) (C := RX9) (T := TX9) (N := 27) hx hb hts hiX9 hown hK hP 0 rfl rfl 13 (by decide) k79 (fun _ h9 => h9) rfl dX9_part_56 ?_
            refine lv_goto (tgt := 78) hx hb dX9_part_59 (by decide) ?_
            exact W.iret (v := (o19.1 13)) hx hb hr (fun t ht _ => ⟨⟨(o19.1 13), o19, rfl, so_p hf, p_at ht hP⟩, hS.F ht⟩) hS.2.2 dX9_part_78
        · replace hf := if_t hf c20
          refine lv_aload_n hx hb dX9_part_43 rfl (lv_at hl 0 rfl) ?_
          refine va_get (D := D) (ci := 7) (v := .int (o19.1 12)) (C := RX9) (T := TX9) (N := 27) hx hb hts hiX9 hown hK hP 0 rfl rfl 12 (by decide) k82 (fun _ h9 => h9) rfl dX9_part_44 ?_
          refine lv_goto (tgt := 78) hx hb dX9_part_47 (by decide) ?_
          exact W.iret (v := (o19.1 12)) hx hb hr (fun t ht _ => ⟨⟨(o19.1 12), o19, rfl, so_p hf, p_at ht hP⟩, hS.F ht⟩) hS.2.2 dX9_part_78
      · replace hf := if_f hf c18
        refine lv_iconst (v := 0) hx hb dX9_part_32 (by decide) ?_
        exact W.iret (v := 0) hx hb hr (fun t ht _ => ⟨⟨0, s17, rfl, so_p hf, p_at ht hP⟩, hS.F ht⟩) hS.2.2 dX9_part_33
set_option maxHeartbeats 4000000 in
set_option maxRecDepth 100000 in
theorem c_X9_put (l : Launch) (D : va_G) (cI cB : ClassId) (a tb : Nat → Nat) (st : ST) (p1 : Int32) (r : ST) (hf : fX9_put st p1 = some r) : MetV l yX9_put wsX9_put ({ frames := 0, cells := 0, slots := 0, locals := 0 }) [.ref (a 0), .int p1] D [(cI, .int), (cB, .byte)] (mw cI cB a) (mA a) tb st r := by
  refine met_of (cc := cX9_put) (maxL := 3) (ret := none) (by decide) rfl (Nat.le_of_ble_eq_true rfl) ?_
  intro p e s m below meth c hx hb hr hml hts hown hlk hG ls hl
  have hown : s.vm.findClass RX9 = some m.cls := hown
  obtain ⟨hP, hK, hD, hZ⟩ := hG
  have hS : va_S (mA a) s.heap s.heap [] := va_S.rf
  have hl : lv_has ls 3 [(0, .ref (a 0)), (1, .int p1)] := hl
  have hiX9 : ∀ w ∈ wsX90, w ∈ wsX9_put := by decide +kernel
  have k9 := hts (.fieldLink RX9 9 "DayColumnModel" "tape" "[B") (by decide +kernel)
  have k93 := hts (.fieldLink RX9 93 "DayColumnModel" "length" "I") (by decide +kernel)
  have l3 : ∀ (n : Nat) (x_1 x_2 : Int32) (st : ST) (H : Heap) (locs : List Loc) (ls : Array Slot), va_P D vwCl (mw cI cB a st) H → va_S (mA a) s.heap H locs → lv_has ls 3 [(0, .ref (a 0)), (1, .int x_1), (2, .int x_2)] → fX9_put_3 n st x_1 x_2 = some r → W p l e ({ frames := 0, cells := 0, slots := 0, locals := 0 }) s m ([.ref (a 0), .int p1] : List Value).toArray below meth c H locs 0 0 (MQ below (va_Qv (fun (u : ST) => u = r) (fun u t => va_P D vwCl (mw cI cB a u) t.heap) (mA a)) ([.ref (a 0), .int p1] : List Value).toArray s 0 0 (mA a)) (F0 m 3 ls []) := by
    intro n
    induction n with
    | zero =>
      intro x_1 x_2 st H locs ls hP hS hl hf
      cases hf
    | succ n ih3 =>
      intro x_1 x_2 st H locs ls hP hS hl hf
      unfold fX9_put_3 at hf
      refine lv_iload_n hx hb dX9_put_3 rfl (lv_at hl 2 rfl) ?_
      refine lv_if_lt (tgt := 49) hx hb dX9_put_4 (by decide) (fun c1 => ?_) (fun c1 => ?_)
      · replace hf := if_t hf c1
        exact W.vret hx hb hr (fun t ht _ => ⟨⟨st, rfl, so_i hf, p_at ht hP⟩, hS.F ht⟩) hS.2.2 dX9_put_49
      · replace hf := if_f hf c1
        refine lv_iload_n hx hb dX9_put_7 rfl (lv_at hl 1 rfl) ?_
        refine lv_iload_n hx hb dX9_put_8 rfl (lv_at hl 2 rfl) ?_
        refine lv_ishr hx hb dX9_put_9 ?_
        refine lv_sipush (v := 255) hx hb dX9_put_10 (by decide) ?_
        refine lv_iand hx hb dX9_put_13 ?_
        refine lv_if_ne (tgt := 20) hx hb dX9_put_14 (by decide) (fun c2 => ?_) (fun c2 => ?_)
        · replace hf := if_f hf c2
          refine lv_aload_n hx hb dX9_put_20 rfl (lv_at hl 0 rfl) ?_
          refine va_get (D := D) (ci := 7) (v := .ref (a 1)) (C := RX9) (T := TX9) (N := 27) hx hb hts hiX9 hown hK hP 0 rfl rfl 1 (by decide) k9 (fun _ h9 => h9) rfl dX9_put_21 ?_
          refine lv_aload_n hx hb dX9_put_24 rfl (lv_at hl 0 rfl) ?_
          refine va_get (D := D) (ci := 7) (v := .int (st.1 8)) (C := RX9) (T := TX9) (N := 27) hx hb hts hiX9 hown hK hP 0 rfl rfl 8 (by decide) k93 (fun _ h9 => h9) rfl dX9_put_25 ?_
          refine lv_iload_n hx hb dX9_put_28 rfl (lv_at hl 1 rfl) ?_
          refine lv_iload_n hx hb dX9_put_29 rfl (lv_at hl 2 rfl) ?_
          refine lv_ishr hx hb dX9_put_30 ?_
          refine lv_i2b hx hb dX9_put_31 rfl ?_
          obtain ⟨x3, ex3, hf⟩ := bnd_e hf
          refine w_nm ex3 ?_
          obtain ⟨x4, ex4, hf⟩ := bnd_e hf
          refine w_nm2 ex4 ?_
          obtain ⟨hi5, hf⟩ := ix_e hf
          obtain ⟨s6, es6, hf⟩ := bnd_e hf
          refine va_bast hx hb hK hP (hD st) hS 1 1 rfl rfl hi5 dX9_put_32 (fun H locs hP _ hS => ?_)
          have hP : va_P D vwCl (mw cI cB a s6) H := by rw [es6]; exact hP
          refine lv_aload_n hx hb dX9_put_33 rfl (lv_at hl 0 rfl) ?_
          refine lv_dup hx hb dX9_put_34 rfl ?_
          refine va_get (D := D) (ci := 7) (v := .int (s6.1 8)) (C := RX9) (T := TX9) (N := 27) hx hb hts hiX9 hown hK hP 0 rfl rfl 8 (by decide) k93 (fun _ h9 => h9) rfl dX9_put_35 ?_
          refine lv_iconst (v := 1) hx hb dX9_put_38 (by decide) ?_
          refine lv_iadd hx hb dX9_put_39 ?_
          obtain ⟨x7, ex7, hf⟩ := bnd_e hf
          refine w_nm ex7 ?_
          obtain ⟨s8, es8, hf⟩ := bnd_e hf
          refine va_put (D := D) (ci := 7) (v := .int x7) (ty := .int) (C := RX9) (T := TX9) (N := 27) hx hb hts hiX9 tyX9 tyX9_ok nmX9 hown hK hP (hD s6) hS 0 rfl rfl 8 (by decide) k93 (fun _ h9 => h9) rfl (by decide +kernel) rfl rfl (Nat.le_of_ble_eq_true rfl) dX9_put_40 (fun H locs hP _ hS => ?_)
          have hP : va_P D vwCl (mw cI cB a s8) H := by rw [es8]; exact hP
          obtain ⟨x9, ex9, hf⟩ := bnd_e hf
          refine lv_iinc (v := x9) (lv' := [(2, .int x9), (0, .ref (a 0)), (1, .int x_1)]) hx hb dX9_put_43 hl (k := 2) rfl (by rw [ex9]; rfl) (by decide) rfl (fun ls hl => ?_)
          refine lv_goto (tgt := 3) hx hb dX9_put_46 (by decide) ?_
          exact ih3 x_1 x9 s8 _ _ _ hP hS (lv_sub hl [1, 2, 0] rfl) hf
        · replace hf := if_t hf c2
          refine lv_goto (tgt := 43) hx hb dX9_put_17 (by decide) ?_
          obtain ⟨x10, ex10, hf⟩ := bnd_e hf
          refine lv_iinc (v := x10) (lv' := [(2, .int x10), (0, .ref (a 0)), (1, .int x_1)]) hx hb dX9_put_43 hl (k := 2) rfl (by rw [ex10]; rfl) (by decide) rfl (fun ls hl => ?_)
          refine lv_goto (tgt := 3) hx hb dX9_put_46 (by decide) ?_
          exact ih3 x_1 x10 st _ _ _ hP hS (lv_sub hl [1, 2, 0] rfl) hf
  unfold fX9_put at hf
  refine lv_bipush (v := 24) hx hb dX9_put_0 (by decide) ?_
  refine lv_istore_n (lv' := [(2, .int 24), (0, .ref (a 0)), (1, .int p1)]) hx hb dX9_put_2 rfl hl (by decide) rfl (fun ls hl => ?_)
  exact l3 1000 p1 24 st _ _ _ hP hS (lv_sub hl [1, 2, 0] rfl) hf
set_option maxHeartbeats 4000000 in
set_option maxRecDepth 100000 in
theorem c_X9_feed (l : Launch) (D : va_G) (cI cB : ClassId) (a tb : Nat → Nat) (st : ST) (p1 p2 : Int32) (r : Int32 × ST) (hf : fX9_feed st p1 p2 = some r) : MetW l yX9_feed wsX9_feed ({ frames := 1, cells := 0, slots := 0, locals := 22 }) [.ref (a 0), .int p1, .int p2] D [(cI, .int), (cB, .byte)] (mw cI cB a) (mA a) tb st r := by
  refine met_of (cc := cX9_feed) (maxL := 3) (ret := (some .int)) (by decide) rfl (Nat.le_of_ble_eq_true rfl) ?_
  intro p e s m below meth c hx hb hr hml hts hown hlk hG ls hl
  have hown : s.vm.findClass RX9 = some m.cls := hown
  obtain ⟨hP, hK, hD, hZ⟩ := hG
  have hS : va_S (mA a) s.heap s.heap [] := va_S.rf
  have hl : lv_has ls 3 [(0, .ref (a 0)), (1, .int p1), (2, .int p2)] := hl
  have hiX9 : ∀ w ∈ wsX90, w ∈ wsX9_feed := by decide +kernel
  have k54 := hts (.fieldLink RX9 54 "DayColumnModel" "thrown" "I") (by decide +kernel)
  have k93 := hts (.fieldLink RX9 93 "DayColumnModel" "length" "I") (by decide +kernel)
  unfold fX9_feed at hf
  refine lv_aload_n hx hb dX9_feed_0 rfl (lv_at hl 0 rfl) ?_
  refine lv_iconst (v := 0) hx hb dX9_feed_1 (by decide) ?_
  obtain ⟨s1, es1, hf⟩ := bnd_e hf
  refine va_put (D := D) (ci := 7) (v := .int 0) (ty := .int) (C := RX9) (T := TX9) (N := 27) hx hb hts hiX9 tyX9 tyX9_ok nmX9 hown hK hP (hD st) hS 0 rfl rfl 0 (by decide) k54 (fun _ h9 => h9) rfl (by decide +kernel) rfl rfl (Nat.le_of_ble_eq_true rfl) dX9_feed_2 (fun H locs hP _ hS => ?_)
  have hP : va_P D vwCl (mw cI cB a s1) H := by rw [es1]; exact hP
  refine lv_aload_n hx hb dX9_feed_5 rfl (lv_at hl 0 rfl) ?_
  refine va_get (D := D) (ci := 7) (v := .int (s1.1 8)) (C := RX9) (T := TX9) (N := 27) hx hb hts hiX9 hown hK hP 0 rfl rfl 8 (by decide) k93 (fun _ h9 => h9) rfl dX9_feed_6 ?_
  refine lv_iload_n hx hb dX9_feed_9 rfl (lv_at hl 1 rfl) ?_
  obtain ⟨o2, ho2, hf⟩ := ob_e hf
  refine w_callT (As := [.int p1]) (rest := [.int (s1.1 8)]) ⟨hx, hb, hml, hown, hts⟩ (c_X9_bytesIn l tb p1 o2 ho2) (va_cwS 1 hts gX9_feed_X9_bytesIn rfl rfl rfl (by decide +kernel) ⟨Nat.le_of_ble_eq_true rfl, Nat.le_of_ble_eq_true rfl⟩) hZ hS rfl hl.1 rfl (Nat.le_of_ble_eq_true rfl) ⟨Nat.zero_le _, Nat.zero_le _⟩ dX9_feed_10 ?_
  refine lv_iadd hx hb dX9_feed_13 ?_
  refine lv_iload_n hx hb dX9_feed_14 rfl (lv_at hl 2 rfl) ?_
  obtain ⟨o3, ho3, hf⟩ := ob_e hf
  refine w_callT (As := [.int p2]) (rest := [.int ((s1.1 8) + o2)]) ⟨hx, hb, hml, hown, hts⟩ (c_X9_bytesIn l tb p2 o3 ho3) (va_cwS 1 hts gX9_feed_X9_bytesIn rfl rfl rfl (by decide +kernel) ⟨Nat.le_of_ble_eq_true rfl, Nat.le_of_ble_eq_true rfl⟩) hZ hS rfl hl.1 rfl (Nat.le_of_ble_eq_true rfl) ⟨Nat.zero_le _, Nat.zero_le _⟩ dX9_feed_15 ?_
  refine lv_iadd hx hb dX9_feed_18 ?_
  refine lv_bipush (v := 24) hx hb dX9_feed_19 (by decide) ?_
  refine lv_icmp_le (tgt := 26) hx hb dX9_feed_21 (by decide) (fun c4 => ?_) (fun c4 => ?_)
  · replace hf := if_t hf c4
    refine lv_aload_n hx hb dX9_feed_26 rfl (lv_at hl 0 rfl) ?_
    refine lv_iload_n hx hb dX9_feed_27 rfl (lv_at hl 1 rfl) ?_
    obtain ⟨o5, ho5, hf⟩ := ob_e hf
    refine w_callV (b := a 0) (As := [.int p1]) (rest := []) ⟨hx, hb, hml, hown, hts⟩ (c_X9_put l D cI cB a tb s1 p1 o5 ho5) (cwV 1 hts gX9_feed_X9_put rfl rfl rfl (by decide +kernel) ⟨Nat.le_of_ble_eq_true rfl, Nat.le_of_ble_eq_true rfl⟩) hP hK hD hZ hS (va_recv hK hP (ci := 7) (q0 := 0) rfl rfl) rfl hl.1 rfl (Nat.le_of_ble_eq_true rfl) ⟨Nat.zero_le _, Nat.zero_le _⟩ dX9_feed_28 (fun H locs hP hS => ?_)
    refine lv_aload_n hx hb dX9_feed_31 rfl (lv_at hl 0 rfl) ?_
    refine lv_iload_n hx hb dX9_feed_32 rfl (lv_at hl 2 rfl) ?_
    obtain ⟨o6, ho6, hf⟩ := ob_e hf
    refine w_callV (b := a 0) (As := [.int p2]) (rest := []) ⟨hx, hb, hml, hown, hts⟩ (c_X9_put l D cI cB a tb o5 p2 o6 ho6) (cwV 1 hts gX9_feed_X9_put rfl rfl rfl (by decide +kernel) ⟨Nat.le_of_ble_eq_true rfl, Nat.le_of_ble_eq_true rfl⟩) hP hK hD hZ hS (va_recv hK hP (ci := 7) (q0 := 0) rfl rfl) rfl hl.1 rfl (Nat.le_of_ble_eq_true rfl) ⟨Nat.zero_le _, Nat.zero_le _⟩ dX9_feed_33 (fun H locs hP hS => ?_)
    refine lv_aload_n hx hb dX9_feed_36 rfl (lv_at hl 0 rfl) ?_
    refine va_get (D := D) (ci := 7) (v := .int (o6.1 8)) (C := RX9) (T := TX9) (N := 27) hx hb hts hiX9 hown hK hP 0 rfl rfl 8 (by decide) k93 (fun _ h9 => h9) rfl dX9_feed_37 ?_
    exact W.iret (v := (o6.1 8)) hx hb hr (fun t ht _ => ⟨⟨(o6.1 8), o6, rfl, so_p hf, p_at ht hP⟩, hS.F ht⟩) hS.2.2 dX9_feed_40
  · replace hf := if_f hf c4
    refine lv_iconst (v := -1) hx hb dX9_feed_24 (by decide) ?_
    exact W.iret (v := (-1)) hx hb hr (fun t ht _ => ⟨⟨(-1), s1, rfl, so_p hf, p_at ht hP⟩, hS.F ht⟩) hS.2.2 dX9_feed_25
set_option maxHeartbeats 4000000 in
set_option maxRecDepth 100000 in
theorem c_X9_end (l : Launch) (D : va_G) (cI cB : ClassId) (a tb : Nat → Nat) (st : ST) (p1 : Int32) (r : Int32 × ST) (hf : fX9_end st p1 = some r) : MetW l yX9_end wsX9_end ({ frames := 0, cells := 0, slots := 0, locals := 0 }) [.ref (a 0), .int p1] D [(cI, .int), (cB, .byte)] (mw cI cB a) (mA a) tb st r := by
  refine met_of (cc := cX9_end) (maxL := 2) (ret := (some .boolean)) (by decide) rfl (Nat.le_of_ble_eq_true rfl) ?_
  intro p e s m below meth c hx hb hr hml hts hown hlk hG ls hl
  have hown : s.vm.findClass RX9 = some m.cls := hown
  obtain ⟨hP, hK, hD, hZ⟩ := hG
  have hS : va_S (mA a) s.heap s.heap [] := va_S.rf
  have hl : lv_has ls 2 [(0, .ref (a 0)), (1, .int p1)] := hl
  have hiX9 : ∀ w ∈ wsX90, w ∈ wsX9_end := by decide +kernel
  have k54 := hts (.fieldLink RX9 54 "DayColumnModel" "thrown" "I") (by decide +kernel)
  have k93 := hts (.fieldLink RX9 93 "DayColumnModel" "length" "I") (by decide +kernel)
  unfold fX9_end at hf
  refine lv_aload_n hx hb dX9_end_0 rfl (lv_at hl 0 rfl) ?_
  refine lv_iconst (v := 0) hx hb dX9_end_1 (by decide) ?_
  obtain ⟨s1, es1, hf⟩ := bnd_e hf
  refine va_put (D := D) (ci := 7) (v := .int 0) (ty := .int) (C := RX9) (T := TX9) (N := 27) hx hb hts hiX9 tyX9 tyX9_ok nmX9 hown hK hP (hD st) hS 0 rfl rfl 0 (by decide) k54 (fun _ h9 => h9) rfl (by decide +kernel) rfl rfl (Nat.le_of_ble_eq_true rfl) dX9_end_2 (fun H locs hP _ hS => ?_)
  have hP : va_P D vwCl (mw cI cB a s1) H := by rw [es1]; exact hP
  refine lv_iload_n hx hb dX9_end_5 rfl (lv_at hl 1 rfl) ?_
  refine lv_if_lt (tgt := 17) hx hb dX9_end_6 (by decide) (fun c2 => ?_) (fun c2 => ?_)
  · replace hf := if_t hf c2
    refine lv_iconst (v := 0) hx hb dX9_end_17 (by decide) ?_
    exact W.zret (v := 0) hx hb hr rfl (fun t ht _ => ⟨⟨0, s1, rfl, so_p hf, p_at ht hP⟩, hS.F ht⟩) hS.2.2 dX9_end_18
  · replace hf := if_f hf c2
    refine lv_iload_n hx hb dX9_end_9 rfl (lv_at hl 1 rfl) ?_
    refine lv_aload_n hx hb dX9_end_10 rfl (lv_at hl 0 rfl) ?_
    refine va_get (D := D) (ci := 7) (v := .int (s1.1 8)) (C := RX9) (T := TX9) (N := 27) hx hb hts hiX9 hown hK hP 0 rfl rfl 8 (by decide) k93 (fun _ h9 => h9) rfl dX9_end_11 ?_
    refine lv_icmp_le (tgt := 19) hx hb dX9_end_14 (by decide) (fun c3 => ?_) (fun c3 => ?_)
    · replace hf := if_t hf c3
      refine lv_aload_n hx hb dX9_end_19 rfl (lv_at hl 0 rfl) ?_
      refine lv_iload_n hx hb dX9_end_20 rfl (lv_at hl 1 rfl) ?_
      obtain ⟨s4, es4, hf⟩ := bnd_e hf
      refine va_put (D := D) (ci := 7) (v := .int p1) (ty := .int) (C := RX9) (T := TX9) (N := 27) hx hb hts hiX9 tyX9 tyX9_ok nmX9 hown hK hP (hD s1) hS 0 rfl rfl 8 (by decide) k93 (fun _ h9 => h9) rfl (by decide +kernel) rfl rfl (Nat.le_of_ble_eq_true rfl) dX9_end_21 (fun H locs hP _ hS => ?_)
      have hP : va_P D vwCl (mw cI cB a s4) H := by rw [es4]; exact hP
      refine lv_iconst (v := 1) hx hb dX9_end_24 (by decide) ?_
      exact W.zret (v := 1) hx hb hr rfl (fun t ht _ => ⟨⟨1, s4, rfl, so_p hf, p_at ht hP⟩, hS.F ht⟩) hS.2.2 dX9_end_25
    · replace hf := if_f hf c3
      refine lv_iconst (v := 0) hx hb dX9_end_17 (by decide) ?_
      exact W.zret (v := 0) hx hb hr rfl (fun t ht _ => ⟨⟨0, s1, rfl, so_p hf, p_at ht hP⟩, hS.F ht⟩) hS.2.2 dX9_end_18
set_option maxHeartbeats 4000000 in
set_option maxRecDepth 100000 in
theorem c_X9_isPlain (l : Launch) (D : va_G) (cI cB : ClassId) (a tb : Nat → Nat) (st : ST) (r : Int32) (hf : fX9_isPlain st = some r) : MetR l yX9_isPlain wsX9_isPlain ({ frames := 1, cells := 0, slots := 0, locals := 22 }) [.ref (a 0)] D [(cI, .int), (cB, .byte)] (mw cI cB a) (mA a) tb st r := by
  refine met_of (cc := cX9_isPlain) (maxL := 3) (ret := (some .boolean)) (by decide) rfl (Nat.le_of_ble_eq_true rfl) ?_
  intro p e s m below meth c hx hb hr hml hts hown hlk hG ls hl
  have hown : s.vm.findClass RX9 = some m.cls := hown
  obtain ⟨hP, hK, hD, hZ⟩ := hG
  have hS : va_S (mA a) s.heap s.heap [] := va_S.rf
  have hl : lv_has ls 3 [(0, .ref (a 0))] := hl
  have hiX9 : ∀ w ∈ wsX90, w ∈ wsX9_isPlain := by decide +kernel
  have k9 := hts (.fieldLink RX9 9 "DayColumnModel" "tape" "[B") (by decide +kernel)
  have k93 := hts (.fieldLink RX9 93 "DayColumnModel" "length" "I") (by decide +kernel)
  have l4 : ∀ (n : Nat) (x_1 x_2 : Int32) (ls : Array Slot), lv_has ls 3 [(0, .ref (a 0)), (1, .int x_1), (2, .int x_2)] → fX9_isPlain_4 n st x_1 x_2 = some r → W p l e ({ frames := 1, cells := 0, slots := 0, locals := 22 }) s m ([.ref (a 0)] : List Value).toArray below meth c s.heap [] 0 0 (MQ below (vp_Si (fun z => z = r)) ([.ref (a 0)] : List Value).toArray s 0 0 (fun _ => False)) (F0 m 4 ls []) := by
    intro n
    induction n with
    | zero =>
      intro x_1 x_2 ls hl hf
      cases hf
    | succ n ih4 =>
      intro x_1 x_2 ls hl hf
      unfold fX9_isPlain_4 at hf
      refine lv_iload_n hx hb dX9_isPlain_4 rfl (lv_at hl 2 rfl) ?_
      refine lv_aload_n hx hb dX9_isPlain_5 rfl (lv_at hl 0 rfl) ?_
      refine va_get (D := D) (ci := 7) (v := .int (st.1 8)) (C := RX9) (T := TX9) (N := 27) hx hb hts hiX9 hown hK hP 0 rfl rfl 8 (by decide) k93 (fun _ h9 => h9) rfl dX9_isPlain_6 ?_
      refine lv_icmp_ge (tgt := 44) hx hb dX9_isPlain_9 (by decide) (fun c1 => ?_) (fun c1 => ?_)
      · replace hf := if_t hf c1
        refine lv_iload_n hx hb dX9_isPlain_44 rfl (lv_at hl 1 rfl) ?_
        obtain ⟨hz2, hf⟩ := tv_e hf
        exact W.zret (v := x_1) hx hb hr hz2 (fun t ht _ => ⟨x_1, rfl, so_i hf, ht⟩) (fun _ h => by cases h) dX9_isPlain_45
      · replace hf := if_f hf c1
        refine lv_iload_n hx hb dX9_isPlain_12 rfl (lv_at hl 1 rfl) ?_
        refine lv_if_eq (tgt := 36) hx hb dX9_isPlain_13 (by decide) (fun c3 => ?_) (fun c3 => ?_)
        · replace hf := if_t hf c3
          refine lv_iconst (v := 0) hx hb dX9_isPlain_36 (by decide) ?_
          refine lv_istore_n (lv' := [(1, .int 0), (0, .ref (a 0)), (2, .int x_2)]) hx hb dX9_isPlain_37 rfl hl (by decide) rfl (fun ls hl => ?_)
          obtain ⟨x4, ex4, hf⟩ := bnd_e hf
          refine lv_iinc (v := x4) (lv' := [(2, .int x4), (1, .int 0), (0, .ref (a 0))]) hx hb dX9_isPlain_38 hl (k := 2) rfl (by rw [ex4]; rfl) (by decide) rfl (fun ls hl => ?_)
          refine lv_goto (tgt := 4) hx hb dX9_isPlain_41 (by decide) ?_
          exact ih4 0 x4 _ (lv_sub hl [2, 1, 0] rfl) hf
        · replace hf := if_f hf c3
          refine lv_aload_n hx hb dX9_isPlain_16 rfl (lv_at hl 0 rfl) ?_
          refine va_get (D := D) (ci := 7) (v := .ref (a 1)) (C := RX9) (T := TX9) (N := 27) hx hb hts hiX9 hown hK hP 0 rfl rfl 1 (by decide) k9 (fun _ h9 => h9) rfl dX9_isPlain_17 ?_
          refine lv_iload_n hx hb dX9_isPlain_20 rfl (lv_at hl 2 rfl) ?_
          obtain ⟨hi5, hf⟩ := ix_e hf
          refine va_bald hx hb hK hP 1 1 rfl rfl hi5 dX9_isPlain_21 ?_
          refine lv_bipush (v := 32) hx hb dX9_isPlain_22 (by decide) ?_
          refine lv_bipush (v := 126) hx hb dX9_isPlain_24 (by decide) ?_
          obtain ⟨o6, ho6, hf⟩ := ob_e hf
          refine w_callT (As := [.int (st.2 1 (Int32.toNatClampNeg x_2)), .int 32, .int 126]) (rest := []) ⟨hx, hb, hml, hown, hts⟩ (c_X9_isIn l tb (st.2 1 (Int32.toNatClampNeg x_2)) 32 126 o6 ho6) (va_cwS 3 hts gX9_isPlain_X9_isIn rfl rfl rfl (by decide +kernel) ⟨Nat.le_of_ble_eq_true rfl, Nat.le_of_ble_eq_true rfl⟩) hZ hS rfl hl.1 rfl (Nat.le_of_ble_eq_true rfl) ⟨Nat.zero_le _, Nat.zero_le _⟩ dX9_isPlain_26 ?_
          refine lv_if_eq (tgt := 36) hx hb dX9_isPlain_29 (by decide) (fun c7 => ?_) (fun c7 => ?_)
          · replace hf := if_t hf c7
            refine lv_iconst (v := 0) hx hb dX9_isPlain_36 (by decide) ?_
            refine lv_istore_n (lv' := [(1, .int 0), (0, .ref (a 0)), (2, .int x_2)]) hx hb dX9_isPlain_37 rfl hl (by decide) rfl (fun ls hl => ?_)
            obtain ⟨x8, ex8, hf⟩ := bnd_e hf
            refine lv_iinc (v := x8) (lv' := [(2, .int x8), (1, .int 0), (0, .ref (a 0))]) hx hb dX9_isPlain_38 hl (k := 2) rfl (by rw [ex8]; rfl) (by decide) rfl (fun ls hl => ?_)
            refine lv_goto (tgt := 4) hx hb dX9_isPlain_41 (by decide) ?_
            exact ih4 0 x8 _ (lv_sub hl [2, 1, 0] rfl) hf
          · replace hf := if_f hf c7
            refine lv_iconst (v := 1) hx hb dX9_isPlain_32 (by decide) ?_
            refine lv_goto (tgt := 37) hx hb dX9_isPlain_33 (by decide) ?_
            refine lv_istore_n (lv' := [(1, .int 1), (0, .ref (a 0)), (2, .int x_2)]) hx hb dX9_isPlain_37 rfl hl (by decide) rfl (fun ls hl => ?_)
            obtain ⟨x9, ex9, hf⟩ := bnd_e hf
            refine lv_iinc (v := x9) (lv' := [(2, .int x9), (1, .int 1), (0, .ref (a 0))]) hx hb dX9_isPlain_38 hl (k := 2) rfl (by rw [ex9]; rfl) (by decide) rfl (fun ls hl => ?_)
            refine lv_goto (tgt := 4) hx hb dX9_isPlain_41 (by decide) ?_
            exact ih4 1 x9 _ (lv_sub hl [2, 1, 0] rfl) hf
  unfold fX9_isPlain at hf
  refine lv_iconst (v := 1) hx hb dX9_isPlain_0 (by decide) ?_
  refine lv_istore_n (lv' := [(1, .int 1), (0, .ref (a 0))]) hx hb dX9_isPlain_1 rfl hl (by decide) rfl (fun ls hl => ?_)
  refine lv_iconst (v := 0) hx hb dX9_isPlain_2 (by decide) ?_
  refine lv_istore_n (lv' := [(2, .int 0), (1, .int 1), (0, .ref (a 0))]) hx hb dX9_isPlain_3 rfl hl (by decide) rfl (fun ls hl => ?_)
  exact l4 1000 1 0 _ (lv_sub hl [2, 1, 0] rfl) hf
set_option maxHeartbeats 4000000 in
set_option maxRecDepth 100000 in
theorem c_X9_manyOf (l : Launch) (D : va_G) (cI cB : ClassId) (a tb : Nat → Nat) (st : ST) (p1 : Int32) (r : Int32) (hf : fX9_manyOf st p1 = some r) : MetR l yX9_manyOf wsX9_manyOf ({ frames := 0, cells := 0, slots := 0, locals := 0 }) [.ref (a 0), .int p1] D [(cI, .int), (cB, .byte)] (mw cI cB a) (mA a) tb st r := by
  refine met_of (cc := cX9_manyOf) (maxL := 4) (ret := (some .int)) (by decide) rfl (Nat.le_of_ble_eq_true rfl) ?_
  intro p e s m below meth c hx hb hr hml hts hown hlk hG ls hl
  have hown : s.vm.findClass RX9 = some m.cls := hown
  obtain ⟨hP, hK, hD, hZ⟩ := hG
  have hS : va_S (mA a) s.heap s.heap [] := va_S.rf
  have hl : lv_has ls 4 [(0, .ref (a 0)), (1, .int p1)] := hl
  have hiX9 : ∀ w ∈ wsX90, w ∈ wsX9_manyOf := by decide +kernel
  have k9 := hts (.fieldLink RX9 9 "DayColumnModel" "tape" "[B") (by decide +kernel)
  have k93 := hts (.fieldLink RX9 93 "DayColumnModel" "length" "I") (by decide +kernel)
  have l4 : ∀ (n : Nat) (x_1 x_2 x_3 : Int32) (ls : Array Slot), lv_has ls 4 [(0, .ref (a 0)), (1, .int x_1), (2, .int x_2), (3, .int x_3)] → fX9_manyOf_4 n st x_1 x_2 x_3 = some r → W p l e ({ frames := 0, cells := 0, slots := 0, locals := 0 }) s m ([.ref (a 0), .int p1] : List Value).toArray below meth c s.heap [] 0 0 (MQ below (vp_Si (fun z => z = r)) ([.ref (a 0), .int p1] : List Value).toArray s 0 0 (fun _ => False)) (F0 m 4 ls []) := by
    intro n
    induction n with
    | zero =>
      intro x_1 x_2 x_3 ls hl hf
      cases hf
    | succ n ih4 =>
      intro x_1 x_2 x_3 ls hl hf
      unfold fX9_manyOf_4 at hf
      refine lv_iload_n hx hb dX9_manyOf_4 rfl (lv_at hl 3 rfl) ?_
      refine lv_aload_n hx hb dX9_manyOf_5 rfl (lv_at hl 0 rfl) ?_
      refine va_get (D := D) (ci := 7) (v := .int (st.1 8)) (C := RX9) (T := TX9) (N := 27) hx hb hts hiX9 hown hK hP 0 rfl rfl 8 (by decide) k93 (fun _ h9 => h9) rfl dX9_manyOf_6 ?_
      refine lv_icmp_ge (tgt := 36) hx hb dX9_manyOf_9 (by decide) (fun c1 => ?_) (fun c1 => ?_)
      · replace hf := if_t hf c1
        refine lv_iload_n hx hb dX9_manyOf_36 rfl (lv_at hl 2 rfl) ?_
        exact W.iret (v := x_2) hx hb hr (fun t ht _ => ⟨x_2, rfl, so_i hf, ht⟩) (fun _ h => by cases h) dX9_manyOf_37
      · replace hf := if_f hf c1
        refine lv_iload_n hx hb dX9_manyOf_12 rfl (lv_at hl 2 rfl) ?_
        refine lv_aload_n hx hb dX9_manyOf_13 rfl (lv_at hl 0 rfl) ?_
        refine va_get (D := D) (ci := 7) (v := .ref (a 1)) (C := RX9) (T := TX9) (N := 27) hx hb hts hiX9 hown hK hP 0 rfl rfl 1 (by decide) k9 (fun _ h9 => h9) rfl dX9_manyOf_14 ?_
        refine lv_iload_n hx hb dX9_manyOf_17 rfl (lv_at hl 3 rfl) ?_
        obtain ⟨hi2, hf⟩ := ix_e hf
        refine va_bald hx hb hK hP 1 1 rfl rfl hi2 dX9_manyOf_18 ?_
        refine lv_iload_n hx hb dX9_manyOf_19 rfl (lv_at hl 1 rfl) ?_
        refine lv_icmp_ne (tgt := 27) hx hb dX9_manyOf_20 (by decide) (fun c3 => ?_) (fun c3 => ?_)
        · replace hf := if_f hf c3
          refine lv_iconst (v := 0) hx hb dX9_manyOf_27 (by decide) ?_
          refine lv_iadd hx hb dX9_manyOf_28 ?_
          obtain ⟨x4, ex4, hf⟩ := bnd_e hf
          refine w_nm ex4 ?_
          refine lv_istore_n (lv' := [(2, .int x4), (0, .ref (a 0)), (1, .int x_1), (3, .int x_3)]) hx hb dX9_manyOf_29 rfl hl (by decide) rfl (fun ls hl => ?_)
          obtain ⟨x5, ex5, hf⟩ := bnd_e hf
          refine lv_iinc (v := x5) (lv' := [(3, .int x5), (2, .int x4), (0, .ref (a 0)), (1, .int x_1)]) hx hb dX9_manyOf_30 hl (k := 3) rfl (by rw [ex5]; rfl) (by decide) rfl (fun ls hl => ?_)
          refine lv_goto (tgt := 4) hx hb dX9_manyOf_33 (by decide) ?_
          exact ih4 x_1 x4 x5 _ (lv_sub hl [2, 3, 1, 0] rfl) hf
        · replace hf := if_t hf c3
          refine lv_iconst (v := 1) hx hb dX9_manyOf_23 (by decide) ?_
          refine lv_goto (tgt := 28) hx hb dX9_manyOf_24 (by decide) ?_
          refine lv_iadd hx hb dX9_manyOf_28 ?_
          obtain ⟨x6, ex6, hf⟩ := bnd_e hf
          refine w_nm ex6 ?_
          refine lv_istore_n (lv' := [(2, .int x6), (0, .ref (a 0)), (1, .int x_1), (3, .int x_3)]) hx hb dX9_manyOf_29 rfl hl (by decide) rfl (fun ls hl => ?_)
          obtain ⟨x7, ex7, hf⟩ := bnd_e hf
          refine lv_iinc (v := x7) (lv' := [(3, .int x7), (2, .int x6), (0, .ref (a 0)), (1, .int x_1)]) hx hb dX9_manyOf_30 hl (k := 3) rfl (by rw [ex7]; rfl) (by decide) rfl (fun ls hl => ?_)
          refine lv_goto (tgt := 4) hx hb dX9_manyOf_33 (by decide) ?_
          exact ih4 x_1 x6 x7 _ (lv_sub hl [2, 3, 1, 0] rfl) hf
  unfold fX9_manyOf at hf
  refine lv_iconst (v := 0) hx hb dX9_manyOf_0 (by decide) ?_
  refine lv_istore_n (lv' := [(2, .int 0), (0, .ref (a 0)), (1, .int p1)]) hx hb dX9_manyOf_1 rfl hl (by decide) rfl (fun ls hl => ?_)
  refine lv_iconst (v := 0) hx hb dX9_manyOf_2 (by decide) ?_
  refine lv_istore_n (lv' := [(3, .int 0), (2, .int 0), (0, .ref (a 0)), (1, .int p1)]) hx hb dX9_manyOf_3 rfl hl (by decide) rfl (fun ls hl => ?_)
  exact l4 1000 p1 0 0 _ (lv_sub hl [2, 3, 1, 0] rfl) hf
set_option maxHeartbeats 4000000 in
set_option maxRecDepth 100000 in
theorem c_X9_style (l : Launch) (D : va_G) (cI cB : ClassId) (a tb : Nat → Nat) (st : ST) (p1 : Int32) (r : Int32 × ST) (hf : fX9_style st p1 = some r) : MetW l yX9_style wsX9_style ({ frames := 2, cells := 0, slots := 0, locals := 44 }) [.ref (a 0), .int p1] D [(cI, .int), (cB, .byte)] (mw cI cB a) (mA a) tb st r := by
  refine met_of (cc := cX9_style) (maxL := 3) (ret := (some .int)) (by decide) rfl (Nat.le_of_ble_eq_true rfl) ?_
  intro p e s m below meth c hx hb hr hml hts hown hlk hG ls hl
  have hown : s.vm.findClass RX9 = some m.cls := hown
  obtain ⟨hP, hK, hD, hZ⟩ := hG
  have hS : va_S (mA a) s.heap s.heap [] := va_S.rf
  have hl : lv_has ls 3 [(0, .ref (a 0)), (1, .int p1)] := hl
  have hiX9 : ∀ w ∈ wsX90, w ∈ wsX9_style := by decide +kernel
  have k103 := hts (.fieldLink RX9 103 "DayColumnModel" "styles" "I") (by decide +kernel)
  have k13 := hts (.fieldLink RX9 13 "DayColumnModel" "style" "[B") (by decide +kernel)
  have k19 := hts (.fieldLink RX9 19 "DayColumnModel" "styleLong" "[I") (by decide +kernel)
  have k23 := hts (.fieldLink RX9 23 "DayColumnModel" "styleCost" "[I") (by decide +kernel)
  have k54 := hts (.fieldLink RX9 54 "DayColumnModel" "thrown" "I") (by decide +kernel)
  have k9 := hts (.fieldLink RX9 9 "DayColumnModel" "tape" "[B") (by decide +kernel)
  have k93 := hts (.fieldLink RX9 93 "DayColumnModel" "length" "I") (by decide +kernel)
  have l99 : ∀ (n : Nat) (x_1 x_2 : Int32) (st : ST) (H : Heap) (locs : List Loc) (ls : Array Slot), va_P D vwCl (mw cI cB a st) H → va_S (mA a) s.heap H locs → lv_has ls 3 [(0, .ref (a 0)), (1, .int x_1), (2, .int x_2)] → fX9_style_99 n st x_1 x_2 = some r → W p l e ({ frames := 2, cells := 0, slots := 0, locals := 44 }) s m ([.ref (a 0), .int p1] : List Value).toArray below meth c H locs 0 0 (MQ below (va_Qi (fun (z : Int32) (u : ST) => z = r.1 ∧ u = r.2) (fun u t => va_P D vwCl (mw cI cB a u) t.heap) (mA a)) ([.ref (a 0), .int p1] : List Value).toArray s 0 0 (mA a)) (F0 m 99 ls []) := by
    intro n
    induction n with
    | zero =>
      intro x_1 x_2 st H locs ls hP hS hl hf
      cases hf
    | succ n ih99 =>
      intro x_1 x_2 st H locs ls hP hS hl hf
      unfold fX9_style_99 at hf
      refine lv_iload_n hx hb dX9_style_99 rfl (lv_at hl 2 rfl) ?_
      refine lv_aload_n hx hb dX9_style_100 rfl (lv_at hl 0 rfl) ?_
      refine va_get (D := D) (ci := 7) (v := .int (st.1 8)) (C := RX9) (T := TX9) (N := 27) hx hb hts hiX9 hown hK hP 0 rfl rfl 8 (by decide) k93 (fun _ h9 => h9) rfl dX9_style_101 ?_
      refine lv_icmp_ge (tgt := 133) hx hb dX9_style_104 (by decide) (fun c1 => ?_) (fun c1 => ?_)
      · replace hf := if_t hf c1
        refine lv_aload_n hx hb dX9_style_133 rfl (lv_at hl 0 rfl) ?_
        refine va_get (D := D) (ci := 7) (v := .ref (a 4)) (C := RX9) (T := TX9) (N := 27) hx hb hts hiX9 hown hK hP 0 rfl rfl 4 (by decide) k19 (fun _ h9 => h9) rfl dX9_style_134 ?_
        refine lv_aload_n hx hb dX9_style_137 rfl (lv_at hl 0 rfl) ?_
        refine va_get (D := D) (ci := 7) (v := .int (st.1 9)) (C := RX9) (T := TX9) (N := 27) hx hb hts hiX9 hown hK hP 0 rfl rfl 9 (by decide) k103 (fun _ h9 => h9) rfl dX9_style_138 ?_
        refine lv_aload_n hx hb dX9_style_141 rfl (lv_at hl 0 rfl) ?_
        refine va_get (D := D) (ci := 7) (v := .int (st.1 8)) (C := RX9) (T := TX9) (N := 27) hx hb hts hiX9 hown hK hP 0 rfl rfl 8 (by decide) k93 (fun _ h9 => h9) rfl dX9_style_142 ?_
        obtain ⟨x2, ex2, hf⟩ := bnd_e hf
        refine w_nm ex2 ?_
        obtain ⟨x3, ex3, hf⟩ := bnd_e hf
        refine w_nm2 ex3 ?_
        obtain ⟨hi4, hf⟩ := ix_e hf
        obtain ⟨s5, es5, hf⟩ := bnd_e hf
        refine va_iast hx hb hK hP (hD st) hS 4 0 rfl rfl hi4 dX9_style_145 (fun H locs hP _ hS => ?_)
        have hP : va_P D vwCl (mw cI cB a s5) H := by rw [es5]; exact hP
        refine lv_aload_n hx hb dX9_style_146 rfl (lv_at hl 0 rfl) ?_
        refine va_get (D := D) (ci := 7) (v := .ref (a 5)) (C := RX9) (T := TX9) (N := 27) hx hb hts hiX9 hown hK hP 0 rfl rfl 5 (by decide) k23 (fun _ h9 => h9) rfl dX9_style_147 ?_
        refine lv_aload_n hx hb dX9_style_150 rfl (lv_at hl 0 rfl) ?_
        refine va_get (D := D) (ci := 7) (v := .int (s5.1 9)) (C := RX9) (T := TX9) (N := 27) hx hb hts hiX9 hown hK hP 0 rfl rfl 9 (by decide) k103 (fun _ h9 => h9) rfl dX9_style_151 ?_
        refine lv_iload_n hx hb dX9_style_154 rfl (lv_at hl 1 rfl) ?_
        obtain ⟨x6, ex6, hf⟩ := bnd_e hf
        refine w_nm2 ex6 ?_
        obtain ⟨hi7, hf⟩ := ix_e hf
        obtain ⟨s8, es8, hf⟩ := bnd_e hf
        refine va_iast hx hb hK hP (hD s5) hS 5 0 rfl rfl hi7 dX9_style_155 (fun H locs hP _ hS => ?_)
        have hP : va_P D vwCl (mw cI cB a s8) H := by rw [es8]; exact hP
        refine lv_aload_n hx hb dX9_style_156 rfl (lv_at hl 0 rfl) ?_
        refine lv_dup hx hb dX9_style_157 rfl ?_
        refine va_get (D := D) (ci := 7) (v := .int (s8.1 9)) (C := RX9) (T := TX9) (N := 27) hx hb hts hiX9 hown hK hP 0 rfl rfl 9 (by decide) k103 (fun _ h9 => h9) rfl dX9_style_158 ?_
        refine lv_iconst (v := 1) hx hb dX9_style_161 (by decide) ?_
        refine lv_iadd hx hb dX9_style_162 ?_
        obtain ⟨x9, ex9, hf⟩ := bnd_e hf
        refine w_nm ex9 ?_
        obtain ⟨s10, es10, hf⟩ := bnd_e hf
        refine va_put (D := D) (ci := 7) (v := .int x9) (ty := .int) (C := RX9) (T := TX9) (N := 27) hx hb hts hiX9 tyX9 tyX9_ok nmX9 hown hK hP (hD s8) hS 0 rfl rfl 9 (by decide) k103 (fun _ h9 => h9) rfl (by decide +kernel) rfl rfl (Nat.le_of_ble_eq_true rfl) dX9_style_163 (fun H locs hP _ hS => ?_)
        have hP : va_P D vwCl (mw cI cB a s10) H := by rw [es10]; exact hP
        refine lv_aload_n hx hb dX9_style_166 rfl (lv_at hl 0 rfl) ?_
        refine lv_iconst (v := 0) hx hb dX9_style_167 (by decide) ?_
        obtain ⟨s11, es11, hf⟩ := bnd_e hf
        refine va_put (D := D) (ci := 7) (v := .int 0) (ty := .int) (C := RX9) (T := TX9) (N := 27) hx hb hts hiX9 tyX9 tyX9_ok nmX9 hown hK hP (hD s10) hS 0 rfl rfl 8 (by decide) k93 (fun _ h9 => h9) rfl (by decide +kernel) rfl rfl (Nat.le_of_ble_eq_true rfl) dX9_style_168 (fun H locs hP _ hS => ?_)
        have hP : va_P D vwCl (mw cI cB a s11) H := by rw [es11]; exact hP
        refine lv_aload_n hx hb dX9_style_171 rfl (lv_at hl 0 rfl) ?_
        refine va_get (D := D) (ci := 7) (v := .int (s11.1 9)) (C := RX9) (T := TX9) (N := 27) hx hb hts hiX9 hown hK hP 0 rfl rfl 9 (by decide) k103 (fun _ h9 => h9) rfl dX9_style_172 ?_
        refine lv_iconst (v := 1) hx hb dX9_style_175 (by decide) ?_
        refine lv_isub hx hb dX9_style_176 ?_
        exact W.iret (v := ((s11.1 9) - 1)) hx hb hr (fun t ht _ => ⟨⟨((s11.1 9) - 1), s11, rfl, so_p hf, p_at ht hP⟩, hS.F ht⟩) hS.2.2 dX9_style_177
      · replace hf := if_f hf c1
        refine lv_aload_n hx hb dX9_style_107 rfl (lv_at hl 0 rfl) ?_
        refine va_get (D := D) (ci := 7) (v := .ref (a 2)) (C := RX9) (T := TX9) (N := 27) hx hb hts hiX9 hown hK hP 0 rfl rfl 2 (by decide) k13 (fun _ h9 => h9) rfl dX9_style_108 ?_
        refine lv_bipush (v := 24) hx hb dX9_style_111 (by decide) ?_
        refine lv_aload_n hx hb dX9_style_113 rfl (lv_at hl 0 rfl) ?_
        refine va_get (D := D) (ci := 7) (v := .int (st.1 9)) (C := RX9) (T := TX9) (N := 27) hx hb hts hiX9 hown hK hP 0 rfl rfl 9 (by decide) k103 (fun _ h9 => h9) rfl dX9_style_114 ?_
        refine lv_imul hx hb dX9_style_117 ?_
        refine lv_iload_n hx hb dX9_style_118 rfl (lv_at hl 2 rfl) ?_
        refine lv_iadd hx hb dX9_style_119 ?_
        refine lv_aload_n hx hb dX9_style_120 rfl (lv_at hl 0 rfl) ?_
        refine va_get (D := D) (ci := 7) (v := .ref (a 1)) (C := RX9) (T := TX9) (N := 27) hx hb hts hiX9 hown hK hP 0 rfl rfl 1 (by decide) k9 (fun _ h9 => h9) rfl dX9_style_121 ?_
        refine lv_iload_n hx hb dX9_style_124 rfl (lv_at hl 2 rfl) ?_
        obtain ⟨hi12, hf⟩ := ix_e hf
        refine va_bald hx hb hK hP 1 1 rfl rfl hi12 dX9_style_125 ?_
        obtain ⟨x13, ex13, hf⟩ := bnd_e hf
        refine w_nm ex13 ?_
        obtain ⟨x14, ex14, hf⟩ := bnd_e hf
        refine w_nm2 ex14 ?_
        obtain ⟨hi15, hf⟩ := ix_e hf
        obtain ⟨s16, es16, hf⟩ := bnd_e hf
        refine va_bast hx hb hK hP (hD st) hS 2 1 rfl rfl hi15 dX9_style_126 (fun H locs hP _ hS => ?_)
        have hP : va_P D vwCl (mw cI cB a s16) H := by rw [es16]; exact hP
        obtain ⟨x17, ex17, hf⟩ := bnd_e hf
        refine lv_iinc (v := x17) (lv' := [(2, .int x17), (0, .ref (a 0)), (1, .int x_1)]) hx hb dX9_style_127 hl (k := 2) rfl (by rw [ex17]; rfl) (by decide) rfl (fun ls hl => ?_)
        refine lv_goto (tgt := 99) hx hb dX9_style_130 (by decide) ?_
        exact ih99 x_1 x17 s16 _ _ _ hP hS (lv_sub hl [1, 2, 0] rfl) hf
  unfold fX9_style at hf
  refine lv_aload_n hx hb dX9_style_0 rfl (lv_at hl 0 rfl) ?_
  refine lv_iconst (v := 0) hx hb dX9_style_1 (by decide) ?_
  obtain ⟨s18, es18, hf⟩ := bnd_e hf
  refine va_put (D := D) (ci := 7) (v := .int 0) (ty := .int) (C := RX9) (T := TX9) (N := 27) hx hb hts hiX9 tyX9 tyX9_ok nmX9 hown hK hP (hD st) hS 0 rfl rfl 0 (by decide) k54 (fun _ h9 => h9) rfl (by decide +kernel) rfl rfl (Nat.le_of_ble_eq_true rfl) dX9_style_2 (fun H locs hP _ hS => ?_)
  have hP : va_P D vwCl (mw cI cB a s18) H := by rw [es18]; exact hP
  refine lv_aload_n hx hb dX9_style_5 rfl (lv_at hl 0 rfl) ?_
  refine va_get (D := D) (ci := 7) (v := .int (s18.1 9)) (C := RX9) (T := TX9) (N := 27) hx hb hts hiX9 hown hK hP 0 rfl rfl 9 (by decide) k103 (fun _ h9 => h9) rfl dX9_style_6 ?_
  refine lv_bipush (v := 8) hx hb dX9_style_9 (by decide) ?_
  refine lv_icmp_eq (tgt := 39) hx hb dX9_style_11 (by decide) (fun c19 => ?_) (fun c19 => ?_)
  · replace hf := if_t hf c19
    refine lv_iconst (v := -1) hx hb dX9_style_39 (by decide) ?_
    exact W.iret (v := (-1)) hx hb hr (fun t ht _ => ⟨⟨(-1), s18, rfl, so_p hf, p_at ht hP⟩, hS.F ht⟩) hS.2.2 dX9_style_40
  · replace hf := if_f hf c19
    refine lv_iload_n hx hb dX9_style_14 rfl (lv_at hl 1 rfl) ?_
    refine lv_iconst (v := 0) hx hb dX9_style_15 (by decide) ?_
    refine lv_sipush (v := 1000) hx hb dX9_style_16 (by decide) ?_
    obtain ⟨o20, ho20, hf⟩ := ob_e hf
    refine w_callT (As := [.int p1, .int 0, .int 1000]) (rest := []) ⟨hx, hb, hml, hown, hts⟩ (c_X9_isIn l tb p1 0 1000 o20 ho20) (va_cwS 3 hts gX9_style_X9_isIn rfl rfl rfl (by decide +kernel) ⟨Nat.le_of_ble_eq_true rfl, Nat.le_of_ble_eq_true rfl⟩) hZ hS rfl hl.1 rfl (Nat.le_of_ble_eq_true rfl) ⟨Nat.zero_le _, Nat.zero_le _⟩ dX9_style_19 ?_
    refine lv_if_eq (tgt := 39) hx hb dX9_style_22 (by decide) (fun c21 => ?_) (fun c21 => ?_)
    · replace hf := if_t hf c21
      refine lv_iconst (v := -1) hx hb dX9_style_39 (by decide) ?_
      exact W.iret (v := (-1)) hx hb hr (fun t ht _ => ⟨⟨(-1), s18, rfl, so_p hf, p_at ht hP⟩, hS.F ht⟩) hS.2.2 dX9_style_40
    · replace hf := if_f hf c21
      refine lv_aload_n hx hb dX9_style_25 rfl (lv_at hl 0 rfl) ?_
      refine va_get (D := D) (ci := 7) (v := .int (s18.1 8)) (C := RX9) (T := TX9) (N := 27) hx hb hts hiX9 hown hK hP 0 rfl rfl 8 (by decide) k93 (fun _ h9 => h9) rfl dX9_style_26 ?_
      refine lv_if_eq (tgt := 39) hx hb dX9_style_29 (by decide) (fun c22 => ?_) (fun c22 => ?_)
      · replace hf := if_t hf c22
        refine lv_iconst (v := -1) hx hb dX9_style_39 (by decide) ?_
        exact W.iret (v := (-1)) hx hb hr (fun t ht _ => ⟨⟨(-1), s18, rfl, so_p hf, p_at ht hP⟩, hS.F ht⟩) hS.2.2 dX9_style_40
      · replace hf := if_f hf c22
        refine lv_aload_n hx hb dX9_style_32 rfl (lv_at hl 0 rfl) ?_
        obtain ⟨o23, ho23, hf⟩ := ob_e hf
        refine w_callR (b := a 0) (As := []) (rest := []) ⟨hx, hb, hml, hown, hts⟩ (c_X9_isPlain l D cI cB a tb s18 o23 ho23) (cwV 0 hts gX9_style_X9_isPlain rfl rfl rfl (by decide +kernel) ⟨Nat.le_of_ble_eq_true rfl, Nat.le_of_ble_eq_true rfl⟩) hP hK hD hZ hS (va_recv hK hP (ci := 7) (q0 := 0) rfl rfl) rfl hl.1 rfl (Nat.le_of_ble_eq_true rfl) ⟨Nat.zero_le _, Nat.zero_le _⟩ dX9_style_33 ?_
        refine lv_if_ne (tgt := 41) hx hb dX9_style_36 (by decide) (fun c24 => ?_) (fun c24 => ?_)
        · replace hf := if_f hf c24
          refine lv_aload_n hx hb dX9_style_41 rfl (lv_at hl 0 rfl) ?_
          refine lv_bipush (v := 68) hx hb dX9_style_42 (by decide) ?_
          obtain ⟨o25, ho25, hf⟩ := ob_e hf
          refine w_callR (b := a 0) (As := [.int 68]) (rest := []) ⟨hx, hb, hml, hown, hts⟩ (c_X9_manyOf l D cI cB a tb s18 68 o25 ho25) (cwV 1 hts gX9_style_X9_manyOf rfl rfl rfl (by decide +kernel) ⟨Nat.le_of_ble_eq_true rfl, Nat.le_of_ble_eq_true rfl⟩) hP hK hD hZ hS (va_recv hK hP (ci := 7) (q0 := 0) rfl rfl) rfl hl.1 rfl (Nat.le_of_ble_eq_true rfl) ⟨Nat.zero_le _, Nat.zero_le _⟩ dX9_style_44 ?_
          refine lv_iconst (v := 1) hx hb dX9_style_47 (by decide) ?_
          refine lv_icmp_gt (tgt := 95) hx hb dX9_style_48 (by decide) (fun c26 => ?_) (fun c26 => ?_)
          · replace hf := if_t hf c26
            refine lv_iconst (v := -1) hx hb dX9_style_95 (by decide) ?_
            exact W.iret (v := (-1)) hx hb hr (fun t ht _ => ⟨⟨(-1), s18, rfl, so_p hf, p_at ht hP⟩, hS.F ht⟩) hS.2.2 dX9_style_96
          · replace hf := if_f hf c26
            refine lv_aload_n hx hb dX9_style_51 rfl (lv_at hl 0 rfl) ?_
            refine lv_bipush (v := 87) hx hb dX9_style_52 (by decide) ?_
            obtain ⟨o27, ho27, hf⟩ := ob_e hf
            refine w_callR (b := a 0) (As := [.int 87]) (rest := []) ⟨hx, hb, hml, hown, hts⟩ (c_X9_manyOf l D cI cB a tb s18 87 o27 ho27) (cwV 1 hts gX9_style_X9_manyOf rfl rfl rfl (by decide +kernel) ⟨Nat.le_of_ble_eq_true rfl, Nat.le_of_ble_eq_true rfl⟩) hP hK hD hZ hS (va_recv hK hP (ci := 7) (q0 := 0) rfl rfl) rfl hl.1 rfl (Nat.le_of_ble_eq_true rfl) ⟨Nat.zero_le _, Nat.zero_le _⟩ dX9_style_54 ?_
            refine lv_iconst (v := 1) hx hb dX9_style_57 (by decide) ?_
            refine lv_icmp_gt (tgt := 95) hx hb dX9_style_58 (by decide) (fun c28 => ?_) (fun c28 => ?_)
            · replace hf := if_t hf c28
              refine lv_iconst (v := -1) hx hb dX9_style_95 (by decide) ?_
              exact W.iret (v := (-1)) hx hb hr (fun t ht _ => ⟨⟨(-1), s18, rfl, so_p hf, p_at ht hP⟩, hS.F ht⟩) hS.2.2 dX9_style_96
            · replace hf := if_f hf c28
              refine lv_aload_n hx hb dX9_style_61 rfl (lv_at hl 0 rfl) ?_
              refine lv_bipush (v := 77) hx hb dX9_style_62 (by decide) ?_
              obtain ⟨o29, ho29, hf⟩ := ob_e hf
              refine w_callR (b := a 0) (As := [.int 77]) (rest := []) ⟨hx, hb, hml, hown, hts⟩ (c_X9_manyOf l D cI cB a tb s18 77 o29 ho29) (cwV 1 hts gX9_style_X9_manyOf rfl rfl rfl (by decide +kernel) ⟨Nat.le_of_ble_eq_true rfl, Nat.le_of_ble_eq_true rfl⟩) hP hK hD hZ hS (va_recv hK hP (ci := 7) (q0 := 0) rfl rfl) rfl hl.1 rfl (Nat.le_of_ble_eq_true rfl) ⟨Nat.zero_le _, Nat.zero_le _⟩ dX9_style_64 ?_
              refine lv_aload_n hx hb dX9_style_67 rfl (lv_at hl 0 rfl) ?_
              refine lv_bipush (v := 78) hx hb dX9_style_68 (by decide) ?_
              obtain ⟨o30, ho30, hf⟩ := ob_e hf
              refine w_callR (b := a 0) (As := [.int 78]) (rest := [.int o29]) ⟨hx, hb, hml, hown, hts⟩ (c_X9_manyOf l D cI cB a tb s18 78 o30 ho30) (cwV 1 hts gX9_style_X9_manyOf rfl rfl rfl (by decide +kernel) ⟨Nat.le_of_ble_eq_true rfl, Nat.le_of_ble_eq_true rfl⟩) hP hK hD hZ hS (va_recv hK hP (ci := 7) (q0 := 0) rfl rfl) rfl hl.1 rfl (Nat.le_of_ble_eq_true rfl) ⟨Nat.zero_le _, Nat.zero_le _⟩ dX9_style_70 ?_
              refine lv_iadd hx hb dX9_style_73 ?_
              refine lv_iconst (v := 1) hx hb dX9_style_74 (by decide) ?_
              refine lv_icmp_ne (tgt := 95) hx hb dX9_style_75 (by decide) (fun c31 => ?_) (fun c31 => ?_)
              · replace hf := if_f hf c31
                refine lv_iconst (v := -1) hx hb dX9_style_95 (by decide) ?_
                exact W.iret (v := (-1)) hx hb hr (fun t ht _ => ⟨⟨(-1), s18, rfl, so_p hf, p_at ht hP⟩, hS.F ht⟩) hS.2.2 dX9_style_96
              · replace hf := if_t hf c31
                refine lv_aload_n hx hb dX9_style_78 rfl (lv_at hl 0 rfl) ?_
                refine lv_bipush (v := 89) hx hb dX9_style_79 (by decide) ?_
                obtain ⟨o32, ho32, hf⟩ := ob_e hf
                refine w_callR (b := a 0) (As := [.int 89]) (rest := []) ⟨hx, hb, hml, hown, hts⟩ (c_X9_manyOf l D cI cB a tb s18 89 o32 ho32) (cwV 1 hts gX9_style_X9_manyOf rfl rfl rfl (by decide +kernel) ⟨Nat.le_of_ble_eq_true rfl, Nat.le_of_ble_eq_true rfl⟩) hP hK hD hZ hS (va_recv hK hP (ci := 7) (q0 := 0) rfl rfl) rfl hl.1 rfl (Nat.le_of_ble_eq_true rfl) ⟨Nat.zero_le _, Nat.zero_le _⟩ dX9_style_81 ?_
                refine lv_aload_n hx hb dX9_style_84 rfl (lv_at hl 0 rfl) ?_
                refine lv_bipush (v := 121) hx hb dX9_style_85 (by decide) ?_
                obtain ⟨o33, ho33, hf⟩ := ob_e hf
                refine w_callR (b := a 0) (As := [.int 121]) (rest := [.int o32]) ⟨hx, hb, hml, hown, hts⟩ (c_X9_manyOf l D cI cB a tb s18 121 o33 ho33) (cwV 1 hts gX9_style_X9_manyOf rfl rfl rfl (by decide +kernel) ⟨Nat.le_of_ble_eq_true rfl, Nat.le_of_ble_eq_true rfl⟩) hP hK hD hZ hS (va_recv hK hP (ci := 7) (q0 := 0) rfl rfl) rfl hl.1 rfl (Nat.le_of_ble_eq_true rfl) ⟨Nat.zero_le _, Nat.zero_le _⟩ dX9_style_87 ?_
                refine lv_iadd hx hb dX9_style_90 ?_
                refine lv_iconst (v := 1) hx hb dX9_style_91 (by decide) ?_
                refine lv_icmp_eq (tgt := 97) hx hb dX9_style_92 (by decide) (fun c34 => ?_) (fun c34 => ?_)
                · replace hf := if_t hf c34
                  refine lv_iconst (v := 0) hx hb dX9_style_97 (by decide) ?_
                  refine lv_istore_n (lv' := [(2, .int 0), (0, .ref (a 0)), (1, .int p1)]) hx hb dX9_style_98 rfl hl (by decide) rfl (fun ls hl => ?_)
                  exact l99 1000 p1 0 s18 _ _ _ hP hS (lv_sub hl [1, 2, 0] rfl) hf
                · replace hf := if_f hf c34
                  refine lv_iconst (v := -1) hx hb dX9_style_95 (by decide) ?_
                  exact W.iret (v := (-1)) hx hb hr (fun t ht _ => ⟨⟨(-1), s18, rfl, so_p hf, p_at ht hP⟩, hS.F ht⟩) hS.2.2 dX9_style_96
        · replace hf := if_t hf c24
          refine lv_iconst (v := -1) hx hb dX9_style_39 (by decide) ?_
          exact W.iret (v := (-1)) hx hb hr (fun t ht _ => ⟨⟨(-1), s18, rfl, so_p hf, p_at ht hP⟩, hS.F ht⟩) hS.2.2 dX9_style_40
set_option maxHeartbeats 4000000 in
set_option maxRecDepth 100000 in
theorem c_X9_row (l : Launch) (D : va_G) (cI cB : ClassId) (a tb : Nat → Nat) (st : ST) (r : Int32 × ST) (hf : fX9_row st = some r) : MetW l yX9_row wsX9_row ({ frames := 2, cells := 0, slots := 0, locals := 44 }) [.ref (a 0)] D [(cI, .int), (cB, .byte)] (mw cI cB a) (mA a) tb st r := by
  refine met_of (cc := cX9_row) (maxL := 2) (ret := (some .int)) (by decide) rfl (Nat.le_of_ble_eq_true rfl) ?_
  intro p e s m below meth c hx hb hr hml hts hown hlk hG ls hl
  have hown : s.vm.findClass RX9 = some m.cls := hown
  obtain ⟨hP, hK, hD, hZ⟩ := hG
  have hS : va_S (mA a) s.heap s.heap [] := va_S.rf
  have hl : lv_has ls 2 [(0, .ref (a 0))] := hl
  have hiX9 : ∀ w ∈ wsX90, w ∈ wsX9_row := by decide +kernel
  have k113 := hts (.fieldLink RX9 113 "DayColumnModel" "rows" "I") (by decide +kernel)
  have k16 := hts (.fieldLink RX9 16 "DayColumnModel" "cell" "[B") (by decide +kernel)
  have k26 := hts (.fieldLink RX9 26 "DayColumnModel" "cellLong" "[I") (by decide +kernel)
  have k54 := hts (.fieldLink RX9 54 "DayColumnModel" "thrown" "I") (by decide +kernel)
  have k9 := hts (.fieldLink RX9 9 "DayColumnModel" "tape" "[B") (by decide +kernel)
  have k93 := hts (.fieldLink RX9 93 "DayColumnModel" "length" "I") (by decide +kernel)
  have l25 : ∀ (n : Nat) (x_1 : Int32) (st : ST) (H : Heap) (locs : List Loc) (ls : Array Slot), va_P D vwCl (mw cI cB a st) H → va_S (mA a) s.heap H locs → lv_has ls 2 [(0, .ref (a 0)), (1, .int x_1)] → fX9_row_25 n st x_1 = some r → W p l e ({ frames := 2, cells := 0, slots := 0, locals := 44 }) s m ([.ref (a 0)] : List Value).toArray below meth c H locs 0 0 (MQ below (va_Qi (fun (z : Int32) (u : ST) => z = r.1 ∧ u = r.2) (fun u t => va_P D vwCl (mw cI cB a u) t.heap) (mA a)) ([.ref (a 0)] : List Value).toArray s 0 0 (mA a)) (F0 m 25 ls []) := by
    intro n
    induction n with
    | zero =>
      intro x_1 st H locs ls hP hS hl hf
      cases hf
    | succ n ih25 =>
      intro x_1 st H locs ls hP hS hl hf
      unfold fX9_row_25 at hf
      refine lv_iload_n hx hb dX9_row_25 rfl (lv_at hl 1 rfl) ?_
      refine lv_aload_n hx hb dX9_row_26 rfl (lv_at hl 0 rfl) ?_
      refine va_get (D := D) (ci := 7) (v := .int (st.1 8)) (C := RX9) (T := TX9) (N := 27) hx hb hts hiX9 hown hK hP 0 rfl rfl 8 (by decide) k93 (fun _ h9 => h9) rfl dX9_row_27 ?_
      refine lv_icmp_ge (tgt := 59) hx hb dX9_row_30 (by decide) (fun c1 => ?_) (fun c1 => ?_)
      · replace hf := if_t hf c1
        refine lv_aload_n hx hb dX9_row_59 rfl (lv_at hl 0 rfl) ?_
        refine va_get (D := D) (ci := 7) (v := .ref (a 6)) (C := RX9) (T := TX9) (N := 27) hx hb hts hiX9 hown hK hP 0 rfl rfl 6 (by decide) k26 (fun _ h9 => h9) rfl dX9_row_60 ?_
        refine lv_aload_n hx hb dX9_row_63 rfl (lv_at hl 0 rfl) ?_
        refine va_get (D := D) (ci := 7) (v := .int (st.1 10)) (C := RX9) (T := TX9) (N := 27) hx hb hts hiX9 hown hK hP 0 rfl rfl 10 (by decide) k113 (fun _ h9 => h9) rfl dX9_row_64 ?_
        refine lv_aload_n hx hb dX9_row_67 rfl (lv_at hl 0 rfl) ?_
        refine va_get (D := D) (ci := 7) (v := .int (st.1 8)) (C := RX9) (T := TX9) (N := 27) hx hb hts hiX9 hown hK hP 0 rfl rfl 8 (by decide) k93 (fun _ h9 => h9) rfl dX9_row_68 ?_
        obtain ⟨x2, ex2, hf⟩ := bnd_e hf
        refine w_nm ex2 ?_
        obtain ⟨x3, ex3, hf⟩ := bnd_e hf
        refine w_nm2 ex3 ?_
        obtain ⟨hi4, hf⟩ := ix_e hf
        obtain ⟨s5, es5, hf⟩ := bnd_e hf
        refine va_iast hx hb hK hP (hD st) hS 6 0 rfl rfl hi4 dX9_row_71 (fun H locs hP _ hS => ?_)
        have hP : va_P D vwCl (mw cI cB a s5) H := by rw [es5]; exact hP
        refine lv_aload_n hx hb dX9_row_72 rfl (lv_at hl 0 rfl) ?_
        refine lv_dup hx hb dX9_row_73 rfl ?_
        refine va_get (D := D) (ci := 7) (v := .int (s5.1 10)) (C := RX9) (T := TX9) (N := 27) hx hb hts hiX9 hown hK hP 0 rfl rfl 10 (by decide) k113 (fun _ h9 => h9) rfl dX9_row_74 ?_
        refine lv_iconst (v := 1) hx hb dX9_row_77 (by decide) ?_
        refine lv_iadd hx hb dX9_row_78 ?_
        obtain ⟨x6, ex6, hf⟩ := bnd_e hf
        refine w_nm ex6 ?_
        obtain ⟨s7, es7, hf⟩ := bnd_e hf
        refine va_put (D := D) (ci := 7) (v := .int x6) (ty := .int) (C := RX9) (T := TX9) (N := 27) hx hb hts hiX9 tyX9 tyX9_ok nmX9 hown hK hP (hD s5) hS 0 rfl rfl 10 (by decide) k113 (fun _ h9 => h9) rfl (by decide +kernel) rfl rfl (Nat.le_of_ble_eq_true rfl) dX9_row_79 (fun H locs hP _ hS => ?_)
        have hP : va_P D vwCl (mw cI cB a s7) H := by rw [es7]; exact hP
        refine lv_aload_n hx hb dX9_row_82 rfl (lv_at hl 0 rfl) ?_
        refine lv_iconst (v := 0) hx hb dX9_row_83 (by decide) ?_
        obtain ⟨s8, es8, hf⟩ := bnd_e hf
        refine va_put (D := D) (ci := 7) (v := .int 0) (ty := .int) (C := RX9) (T := TX9) (N := 27) hx hb hts hiX9 tyX9 tyX9_ok nmX9 hown hK hP (hD s7) hS 0 rfl rfl 8 (by decide) k93 (fun _ h9 => h9) rfl (by decide +kernel) rfl rfl (Nat.le_of_ble_eq_true rfl) dX9_row_84 (fun H locs hP _ hS => ?_)
        have hP : va_P D vwCl (mw cI cB a s8) H := by rw [es8]; exact hP
        refine lv_aload_n hx hb dX9_row_87 rfl (lv_at hl 0 rfl) ?_
        refine va_get (D := D) (ci := 7) (v := .int (s8.1 10)) (C := RX9) (T := TX9) (N := 27) hx hb hts hiX9 hown hK hP 0 rfl rfl 10 (by decide) k113 (fun _ h9 => h9) rfl dX9_row_88 ?_
        refine lv_iconst (v := 1) hx hb dX9_row_91 (by decide) ?_
        refine lv_isub hx hb dX9_row_92 ?_
        exact W.iret (v := ((s8.1 10) - 1)) hx hb hr (fun t ht _ => ⟨⟨((s8.1 10) - 1), s8, rfl, so_p hf, p_at ht hP⟩, hS.F ht⟩) hS.2.2 dX9_row_93
      · replace hf := if_f hf c1
        refine lv_aload_n hx hb dX9_row_33 rfl (lv_at hl 0 rfl) ?_
        refine va_get (D := D) (ci := 7) (v := .ref (a 3)) (C := RX9) (T := TX9) (N := 27) hx hb hts hiX9 hown hK hP 0 rfl rfl 3 (by decide) k16 (fun _ h9 => h9) rfl dX9_row_34 ?_
        refine lv_bipush (v := 24) hx hb dX9_row_37 (by decide) ?_
        refine lv_aload_n hx hb dX9_row_39 rfl (lv_at hl 0 rfl) ?_
        refine va_get (D := D) (ci := 7) (v := .int (st.1 10)) (C := RX9) (T := TX9) (N := 27) hx hb hts hiX9 hown hK hP 0 rfl rfl 10 (by decide) k113 (fun _ h9 => h9) rfl dX9_row_40 ?_
        refine lv_imul hx hb dX9_row_43 ?_
        refine lv_iload_n hx hb dX9_row_44 rfl (lv_at hl 1 rfl) ?_
        refine lv_iadd hx hb dX9_row_45 ?_
        refine lv_aload_n hx hb dX9_row_46 rfl (lv_at hl 0 rfl) ?_
        refine va_get (D := D) (ci := 7) (v := .ref (a 1)) (C := RX9) (T := TX9) (N := 27) hx hb hts hiX9 hown hK hP 0 rfl rfl 1 (by decide) k9 (fun _ h9 => h9) rfl dX9_row_47 ?_
        refine lv_iload_n hx hb dX9_row_50 rfl (lv_at hl 1 rfl) ?_
        obtain ⟨hi9, hf⟩ := ix_e hf
        refine va_bald hx hb hK hP 1 1 rfl rfl hi9 dX9_row_51 ?_
        obtain ⟨x10, ex10, hf⟩ := bnd_e hf
        refine w_nm ex10 ?_
        obtain ⟨x11, ex11, hf⟩ := bnd_e hf
        refine w_nm2 ex11 ?_
        obtain ⟨hi12, hf⟩ := ix_e hf
        obtain ⟨s13, es13, hf⟩ := bnd_e hf
        refine va_bast hx hb hK hP (hD st) hS 3 1 rfl rfl hi12 dX9_row_52 (fun H locs hP _ hS => ?_)
        have hP : va_P D vwCl (mw cI cB a s13) H := by rw [es13]; exact hP
        obtain ⟨x14, ex14, hf⟩ := bnd_e hf
        refine lv_iinc (v := x14) (lv' := [(1, .int x14), (0, .ref (a 0))]) hx hb dX9_row_53 hl (k := 1) rfl (by rw [ex14]; rfl) (by decide) rfl (fun ls hl => ?_)
        refine lv_goto (tgt := 25) hx hb dX9_row_56 (by decide) ?_
        exact ih25 x14 s13 _ _ _ hP hS (lv_sub hl [1, 0] rfl) hf
  unfold fX9_row at hf
  refine lv_aload_n hx hb dX9_row_0 rfl (lv_at hl 0 rfl) ?_
  refine lv_iconst (v := 0) hx hb dX9_row_1 (by decide) ?_
  obtain ⟨s15, es15, hf⟩ := bnd_e hf
  refine va_put (D := D) (ci := 7) (v := .int 0) (ty := .int) (C := RX9) (T := TX9) (N := 27) hx hb hts hiX9 tyX9 tyX9_ok nmX9 hown hK hP (hD st) hS 0 rfl rfl 0 (by decide) k54 (fun _ h9 => h9) rfl (by decide +kernel) rfl rfl (Nat.le_of_ble_eq_true rfl) dX9_row_2 (fun H locs hP _ hS => ?_)
  have hP : va_P D vwCl (mw cI cB a s15) H := by rw [es15]; exact hP
  refine lv_aload_n hx hb dX9_row_5 rfl (lv_at hl 0 rfl) ?_
  refine va_get (D := D) (ci := 7) (v := .int (s15.1 10)) (C := RX9) (T := TX9) (N := 27) hx hb hts hiX9 hown hK hP 0 rfl rfl 10 (by decide) k113 (fun _ h9 => h9) rfl dX9_row_6 ?_
  refine lv_bipush (v := 30) hx hb dX9_row_9 (by decide) ?_
  refine lv_icmp_eq (tgt := 21) hx hb dX9_row_11 (by decide) (fun c16 => ?_) (fun c16 => ?_)
  · replace hf := if_t hf c16
    refine lv_iconst (v := -1) hx hb dX9_row_21 (by decide) ?_
    exact W.iret (v := (-1)) hx hb hr (fun t ht _ => ⟨⟨(-1), s15, rfl, so_p hf, p_at ht hP⟩, hS.F ht⟩) hS.2.2 dX9_row_22
  · replace hf := if_f hf c16
    refine lv_aload_n hx hb dX9_row_14 rfl (lv_at hl 0 rfl) ?_
    obtain ⟨o17, ho17, hf⟩ := ob_e hf
    refine w_callR (b := a 0) (As := []) (rest := []) ⟨hx, hb, hml, hown, hts⟩ (c_X9_isPlain l D cI cB a tb s15 o17 ho17) (cwV 0 hts gX9_row_X9_isPlain rfl rfl rfl (by decide +kernel) ⟨Nat.le_of_ble_eq_true rfl, Nat.le_of_ble_eq_true rfl⟩) hP hK hD hZ hS (va_recv hK hP (ci := 7) (q0 := 0) rfl rfl) rfl hl.1 rfl (Nat.le_of_ble_eq_true rfl) ⟨Nat.zero_le _, Nat.zero_le _⟩ dX9_row_15 ?_
    refine lv_if_ne (tgt := 23) hx hb dX9_row_18 (by decide) (fun c18 => ?_) (fun c18 => ?_)
    · replace hf := if_f hf c18
      refine lv_iconst (v := 0) hx hb dX9_row_23 (by decide) ?_
      refine lv_istore_n (lv' := [(1, .int 0), (0, .ref (a 0))]) hx hb dX9_row_24 rfl hl (by decide) rfl (fun ls hl => ?_)
      exact l25 1000 0 s15 _ _ _ hP hS (lv_sub hl [1, 0] rfl) hf
    · replace hf := if_t hf c18
      refine lv_iconst (v := -1) hx hb dX9_row_21 (by decide) ?_
      exact W.iret (v := (-1)) hx hb hr (fun t ht _ => ⟨⟨(-1), s15, rfl, so_p hf, p_at ht hP⟩, hS.F ht⟩) hS.2.2 dX9_row_22
set_option maxHeartbeats 4000000 in
set_option maxRecDepth 100000 in
theorem c_X9_clear (l : Launch) (D : va_G) (cI cB : ClassId) (a tb : Nat → Nat) (st : ST) (r : ST) (hf : fX9_clear st = some r) : MetV l yX9_clear wsX9_clear ({ frames := 0, cells := 0, slots := 0, locals := 0 }) [.ref (a 0)] D [(cI, .int), (cB, .byte)] (mw cI cB a) (mA a) tb st r := by
  refine met_of (cc := cX9_clear) (maxL := 1) (ret := none) (by decide) rfl (Nat.le_of_ble_eq_true rfl) ?_
  intro p e s m below meth c hx hb hr hml hts hown hlk hG ls hl
  have hown : s.vm.findClass RX9 = some m.cls := hown
  obtain ⟨hP, hK, hD, hZ⟩ := hG
  have hS : va_S (mA a) s.heap s.heap [] := va_S.rf
  have hl : lv_has ls 1 [(0, .ref (a 0))] := hl
  have hiX9 : ∀ w ∈ wsX90, w ∈ wsX9_clear := by decide +kernel
  have k113 := hts (.fieldLink RX9 113 "DayColumnModel" "rows" "I") (by decide +kernel)
  have k54 := hts (.fieldLink RX9 54 "DayColumnModel" "thrown" "I") (by decide +kernel)
  unfold fX9_clear at hf
  refine lv_aload_n hx hb dX9_clear_0 rfl (lv_at hl 0 rfl) ?_
  refine lv_iconst (v := 0) hx hb dX9_clear_1 (by decide) ?_
  obtain ⟨s1, es1, hf⟩ := bnd_e hf
  refine va_put (D := D) (ci := 7) (v := .int 0) (ty := .int) (C := RX9) (T := TX9) (N := 27) hx hb hts hiX9 tyX9 tyX9_ok nmX9 hown hK hP (hD st) hS 0 rfl rfl 0 (by decide) k54 (fun _ h9 => h9) rfl (by decide +kernel) rfl rfl (Nat.le_of_ble_eq_true rfl) dX9_clear_2 (fun H locs hP _ hS => ?_)
  have hP : va_P D vwCl (mw cI cB a s1) H := by rw [es1]; exact hP
  refine lv_aload_n hx hb dX9_clear_5 rfl (lv_at hl 0 rfl) ?_
  refine lv_iconst (v := 0) hx hb dX9_clear_6 (by decide) ?_
  obtain ⟨s2, es2, hf⟩ := bnd_e hf
  refine va_put (D := D) (ci := 7) (v := .int 0) (ty := .int) (C := RX9) (T := TX9) (N := 27) hx hb hts hiX9 tyX9 tyX9_ok nmX9 hown hK hP (hD s1) hS 0 rfl rfl 10 (by decide) k113 (fun _ h9 => h9) rfl (by decide +kernel) rfl rfl (Nat.le_of_ble_eq_true rfl) dX9_clear_7 (fun H locs hP _ hS => ?_)
  have hP : va_P D vwCl (mw cI cB a s2) H := by rw [es2]; exact hP
  exact W.vret hx hb hr (fun t ht _ => ⟨⟨s2, rfl, so_i hf, p_at ht hP⟩, hS.F ht⟩) hS.2.2 dX9_clear_10
set_option maxHeartbeats 4000000 in
set_option maxRecDepth 100000 in
theorem c_X9_window (l : Launch) (D : va_G) (cI cB : ClassId) (a tb : Nat → Nat) (st : ST) (p1 : Int32) (r : Int32 × ST) (hf : fX9_window st p1 = some r) : MetW l yX9_window wsX9_window ({ frames := 1, cells := 0, slots := 0, locals := 22 }) [.ref (a 0), .int p1] D [(cI, .int), (cB, .byte)] (mw cI cB a) (mA a) tb st r := by
  refine met_of (cc := cX9_window) (maxL := 2) (ret := (some .boolean)) (by decide) rfl (Nat.le_of_ble_eq_true rfl) ?_
  intro p e s m below meth c hx hb hr hml hts hown hlk hG ls hl
  have hown : s.vm.findClass RX9 = some m.cls := hown
  obtain ⟨hP, hK, hD, hZ⟩ := hG
  have hS : va_S (mA a) s.heap s.heap [] := va_S.rf
  have hl : lv_has ls 2 [(0, .ref (a 0)), (1, .int p1)] := hl
  have hiX9 : ∀ w ∈ wsX90, w ∈ wsX9_window := by decide +kernel
  have k32 := hts (.fieldLink RX9 32 "DayColumnModel" "window" "I") (by decide +kernel)
  have k54 := hts (.fieldLink RX9 54 "DayColumnModel" "thrown" "I") (by decide +kernel)
  unfold fX9_window at hf
  refine lv_aload_n hx hb dX9_window_0 rfl (lv_at hl 0 rfl) ?_
  refine lv_iconst (v := 0) hx hb dX9_window_1 (by decide) ?_
  obtain ⟨s1, es1, hf⟩ := bnd_e hf
  refine va_put (D := D) (ci := 7) (v := .int 0) (ty := .int) (C := RX9) (T := TX9) (N := 27) hx hb hts hiX9 tyX9 tyX9_ok nmX9 hown hK hP (hD st) hS 0 rfl rfl 0 (by decide) k54 (fun _ h9 => h9) rfl (by decide +kernel) rfl rfl (Nat.le_of_ble_eq_true rfl) dX9_window_2 (fun H locs hP _ hS => ?_)
  have hP : va_P D vwCl (mw cI cB a s1) H := by rw [es1]; exact hP
  refine lv_iload_n hx hb dX9_window_5 rfl (lv_at hl 1 rfl) ?_
  refine lv_sipush (v := 1900) hx hb dX9_window_6 (by decide) ?_
  refine lv_sipush (v := 2100) hx hb dX9_window_9 (by decide) ?_
  obtain ⟨o2, ho2, hf⟩ := ob_e hf
  refine w_callT (As := [.int p1, .int 1900, .int 2100]) (rest := []) ⟨hx, hb, hml, hown, hts⟩ (c_X9_isIn l tb p1 1900 2100 o2 ho2) (va_cwS 3 hts gX9_window_X9_isIn rfl rfl rfl (by decide +kernel) ⟨Nat.le_of_ble_eq_true rfl, Nat.le_of_ble_eq_true rfl⟩) hZ hS rfl hl.1 rfl (Nat.le_of_ble_eq_true rfl) ⟨Nat.zero_le _, Nat.zero_le _⟩ dX9_window_12 ?_
  refine lv_if_ne (tgt := 20) hx hb dX9_window_15 (by decide) (fun c3 => ?_) (fun c3 => ?_)
  · replace hf := if_f hf c3
    refine lv_aload_n hx hb dX9_window_20 rfl (lv_at hl 0 rfl) ?_
    refine lv_iload_n hx hb dX9_window_21 rfl (lv_at hl 1 rfl) ?_
    obtain ⟨s4, es4, hf⟩ := bnd_e hf
    refine va_put (D := D) (ci := 7) (v := .int p1) (ty := .int) (C := RX9) (T := TX9) (N := 27) hx hb hts hiX9 tyX9 tyX9_ok nmX9 hown hK hP (hD s1) hS 0 rfl rfl 11 (by decide) k32 (fun _ h9 => h9) rfl (by decide +kernel) rfl rfl (Nat.le_of_ble_eq_true rfl) dX9_window_22 (fun H locs hP _ hS => ?_)
    have hP : va_P D vwCl (mw cI cB a s4) H := by rw [es4]; exact hP
    refine lv_iconst (v := 1) hx hb dX9_window_25 (by decide) ?_
    exact W.zret (v := 1) hx hb hr rfl (fun t ht _ => ⟨⟨1, s4, rfl, so_p hf, p_at ht hP⟩, hS.F ht⟩) hS.2.2 dX9_window_26
  · replace hf := if_t hf c3
    refine lv_iconst (v := 0) hx hb dX9_window_18 (by decide) ?_
    exact W.zret (v := 0) hx hb hr rfl (fun t ht _ => ⟨⟨0, s1, rfl, so_p hf, p_at ht hP⟩, hS.F ht⟩) hS.2.2 dX9_window_19
set_option maxHeartbeats 4000000 in
set_option maxRecDepth 100000 in
theorem c_X9_price (l : Launch) (D : va_G) (cI cB : ClassId) (a tb : Nat → Nat) (st : ST) (p1 p2 : Int32) (r : Int32 × ST) (hf : fX9_price st p1 p2 = some r) : MetW l yX9_price wsX9_price ({ frames := 1, cells := 0, slots := 0, locals := 22 }) [.ref (a 0), .int p1, .int p2] D [(cI, .int), (cB, .byte)] (mw cI cB a) (mA a) tb st r := by
  refine met_of (cc := cX9_price) (maxL := 3) (ret := (some .boolean)) (by decide) rfl (Nat.le_of_ble_eq_true rfl) ?_
  intro p e s m below meth c hx hb hr hml hts hown hlk hG ls hl
  have hown : s.vm.findClass RX9 = some m.cls := hown
  obtain ⟨hP, hK, hD, hZ⟩ := hG
  have hS : va_S (mA a) s.heap s.heap [] := va_S.rf
  have hl : lv_has ls 3 [(0, .ref (a 0)), (1, .int p1), (2, .int p2)] := hl
  have hiX9 : ∀ w ∈ wsX90, w ∈ wsX9_price := by decide +kernel
  have k29 := hts (.fieldLink RX9 29 "DayColumnModel" "price" "[I") (by decide +kernel)
  have k54 := hts (.fieldLink RX9 54 "DayColumnModel" "thrown" "I") (by decide +kernel)
  unfold fX9_price at hf
  refine lv_aload_n hx hb dX9_price_0 rfl (lv_at hl 0 rfl) ?_
  refine lv_iconst (v := 0) hx hb dX9_price_1 (by decide) ?_
  obtain ⟨s1, es1, hf⟩ := bnd_e hf
  refine va_put (D := D) (ci := 7) (v := .int 0) (ty := .int) (C := RX9) (T := TX9) (N := 27) hx hb hts hiX9 tyX9 tyX9_ok nmX9 hown hK hP (hD st) hS 0 rfl rfl 0 (by decide) k54 (fun _ h9 => h9) rfl (by decide +kernel) rfl rfl (Nat.le_of_ble_eq_true rfl) dX9_price_2 (fun H locs hP _ hS => ?_)
  have hP : va_P D vwCl (mw cI cB a s1) H := by rw [es1]; exact hP
  refine lv_iload_n hx hb dX9_price_5 rfl (lv_at hl 1 rfl) ?_
  refine lv_iconst (v := 0) hx hb dX9_price_6 (by decide) ?_
  refine lv_iconst (v := 2) hx hb dX9_price_7 (by decide) ?_
  obtain ⟨o2, ho2, hf⟩ := ob_e hf
  refine w_callT (As := [.int p1, .int 0, .int 2]) (rest := []) ⟨hx, hb, hml, hown, hts⟩ (c_X9_isIn l tb p1 0 2 o2 ho2) (va_cwS 3 hts gX9_price_X9_isIn rfl rfl rfl (by decide +kernel) ⟨Nat.le_of_ble_eq_true rfl, Nat.le_of_ble_eq_true rfl⟩) hZ hS rfl hl.1 rfl (Nat.le_of_ble_eq_true rfl) ⟨Nat.zero_le _, Nat.zero_le _⟩ dX9_price_8 ?_
  refine lv_if_eq (tgt := 25) hx hb dX9_price_11 (by decide) (fun c3 => ?_) (fun c3 => ?_)
  · replace hf := if_t hf c3
    refine lv_iconst (v := 0) hx hb dX9_price_25 (by decide) ?_
    exact W.zret (v := 0) hx hb hr rfl (fun t ht _ => ⟨⟨0, s1, rfl, so_p hf, p_at ht hP⟩, hS.F ht⟩) hS.2.2 dX9_price_26
  · replace hf := if_f hf c3
    refine lv_iload_n hx hb dX9_price_14 rfl (lv_at hl 2 rfl) ?_
    refine lv_iconst (v := 0) hx hb dX9_price_15 (by decide) ?_
    refine lv_sipush (v := 1000) hx hb dX9_price_16 (by decide) ?_
    obtain ⟨o4, ho4, hf⟩ := ob_e hf
    refine w_callT (As := [.int p2, .int 0, .int 1000]) (rest := []) ⟨hx, hb, hml, hown, hts⟩ (c_X9_isIn l tb p2 0 1000 o4 ho4) (va_cwS 3 hts gX9_price_X9_isIn rfl rfl rfl (by decide +kernel) ⟨Nat.le_of_ble_eq_true rfl, Nat.le_of_ble_eq_true rfl⟩) hZ hS rfl hl.1 rfl (Nat.le_of_ble_eq_true rfl) ⟨Nat.zero_le _, Nat.zero_le _⟩ dX9_price_19 ?_
    refine lv_if_ne (tgt := 27) hx hb dX9_price_22 (by decide) (fun c5 => ?_) (fun c5 => ?_)
    · replace hf := if_f hf c5
      refine lv_aload_n hx hb dX9_price_27 rfl (lv_at hl 0 rfl) ?_
      refine va_get (D := D) (ci := 7) (v := .ref (a 7)) (C := RX9) (T := TX9) (N := 27) hx hb hts hiX9 hown hK hP 0 rfl rfl 7 (by decide) k29 (fun _ h9 => h9) rfl dX9_price_28 ?_
      refine lv_iload_n hx hb dX9_price_31 rfl (lv_at hl 1 rfl) ?_
      refine lv_iload_n hx hb dX9_price_32 rfl (lv_at hl 2 rfl) ?_
      obtain ⟨hi6, hf⟩ := ix_e hf
      obtain ⟨s7, es7, hf⟩ := bnd_e hf
      refine va_iast hx hb hK hP (hD s1) hS 7 0 rfl rfl hi6 dX9_price_33 (fun H locs hP _ hS => ?_)
      have hP : va_P D vwCl (mw cI cB a s7) H := by rw [es7]; exact hP
      refine lv_iconst (v := 1) hx hb dX9_price_34 (by decide) ?_
      exact W.zret (v := 1) hx hb hr rfl (fun t ht _ => ⟨⟨1, s7, rfl, so_p hf, p_at ht hP⟩, hS.F ht⟩) hS.2.2 dX9_price_35
    · replace hf := if_t hf c5
      refine lv_iconst (v := 0) hx hb dX9_price_25 (by decide) ?_
      exact W.zret (v := 0) hx hb hr rfl (fun t ht _ => ⟨⟨0, s1, rfl, so_p hf, p_at ht hP⟩, hS.F ht⟩) hS.2.2 dX9_price_26
set_option maxHeartbeats 4000000 in
set_option maxRecDepth 100000 in
theorem c_X9_byteAt (l : Launch) (D : va_G) (cI cB : ClassId) (a tb : Nat → Nat) (st : ST) (p1 : Int32) (r : Int32) (hf : fX9_byteAt st p1 = some r) : MetR l yX9_byteAt wsX9_byteAt ({ frames := 0, cells := 0, slots := 0, locals := 0 }) [.ref (a 0), .int p1] D [(cI, .int), (cB, .byte)] (mw cI cB a) (mA a) tb st r := by
  refine met_of (cc := cX9_byteAt) (maxL := 2) (ret := (some .int)) (by decide) rfl (Nat.le_of_ble_eq_true rfl) ?_
  intro p e s m below meth c hx hb hr hml hts hown hlk hG ls hl
  have hown : s.vm.findClass RX9 = some m.cls := hown
  obtain ⟨hP, hK, hD, hZ⟩ := hG
  have hS : va_S (mA a) s.heap s.heap [] := va_S.rf
  have hl : lv_has ls 2 [(0, .ref (a 0)), (1, .int p1)] := hl
  have hiX9 : ∀ w ∈ wsX90, w ∈ wsX9_byteAt := by decide +kernel
  have k116 := hts (.fieldLink RX9 116 "DayColumnModel" "cellRow" "I") (by decide +kernel)
  have k16 := hts (.fieldLink RX9 16 "DayColumnModel" "cell" "[B") (by decide +kernel)
  have k26 := hts (.fieldLink RX9 26 "DayColumnModel" "cellLong" "[I") (by decide +kernel)
  unfold fX9_byteAt at hf
  refine lv_iload_n hx hb dX9_byteAt_0 rfl (lv_at hl 1 rfl) ?_
  refine lv_aload_n hx hb dX9_byteAt_1 rfl (lv_at hl 0 rfl) ?_
  refine va_get (D := D) (ci := 7) (v := .ref (a 6)) (C := RX9) (T := TX9) (N := 27) hx hb hts hiX9 hown hK hP 0 rfl rfl 6 (by decide) k26 (fun _ h9 => h9) rfl dX9_byteAt_2 ?_
  refine lv_aload_n hx hb dX9_byteAt_5 rfl (lv_at hl 0 rfl) ?_
  refine va_get (D := D) (ci := 7) (v := .int (st.1 18)) (C := RX9) (T := TX9) (N := 27) hx hb hts hiX9 hown hK hP 0 rfl rfl 18 (by decide) k116 (fun _ h9 => h9) rfl dX9_byteAt_6 ?_
  obtain ⟨x1, ex1, hf⟩ := bnd_e hf
  refine w_nm ex1 ?_
  obtain ⟨hi2, hf⟩ := ix_e hf
  refine va_iald hx hb hK hP 6 0 rfl rfl hi2 dX9_byteAt_9 ?_
  refine lv_icmp_ge (tgt := 30) hx hb dX9_byteAt_10 (by decide) (fun c3 => ?_) (fun c3 => ?_)
  · replace hf := if_t hf c3
    refine lv_iconst (v := 0) hx hb dX9_byteAt_30 (by decide) ?_
    exact W.iret (v := 0) hx hb hr (fun t ht _ => ⟨0, rfl, so_i hf, ht⟩) (fun _ h => by cases h) dX9_byteAt_31
  · replace hf := if_f hf c3
    refine lv_aload_n hx hb dX9_byteAt_13 rfl (lv_at hl 0 rfl) ?_
    refine va_get (D := D) (ci := 7) (v := .ref (a 3)) (C := RX9) (T := TX9) (N := 27) hx hb hts hiX9 hown hK hP 0 rfl rfl 3 (by decide) k16 (fun _ h9 => h9) rfl dX9_byteAt_14 ?_
    refine lv_bipush (v := 24) hx hb dX9_byteAt_17 (by decide) ?_
    refine lv_aload_n hx hb dX9_byteAt_19 rfl (lv_at hl 0 rfl) ?_
    refine va_get (D := D) (ci := 7) (v := .int (st.1 18)) (C := RX9) (T := TX9) (N := 27) hx hb hts hiX9 hown hK hP 0 rfl rfl 18 (by decide) k116 (fun _ h9 => h9) rfl dX9_byteAt_20 ?_
    refine lv_imul hx hb dX9_byteAt_23 ?_
    refine lv_iload_n hx hb dX9_byteAt_24 rfl (lv_at hl 1 rfl) ?_
    refine lv_iadd hx hb dX9_byteAt_25 ?_
    obtain ⟨x4, ex4, hf⟩ := bnd_e hf
    refine w_nm ex4 ?_
    obtain ⟨hi5, hf⟩ := ix_e hf
    refine va_bald hx hb hK hP 3 1 rfl rfl hi5 dX9_byteAt_26 ?_
    refine lv_goto (tgt := 31) hx hb dX9_byteAt_27 (by decide) ?_
    exact W.iret (v := (st.2 3 (Int32.toNatClampNeg x4))) hx hb hr (fun t ht _ => ⟨(st.2 3 (Int32.toNatClampNeg x4)), rfl, so_i hf, ht⟩) (fun _ h => by cases h) dX9_byteAt_31
set_option maxHeartbeats 4000000 in
set_option maxRecDepth 100000 in
theorem c_X9_isDigit (l : Launch) (D : va_G) (cI cB : ClassId) (a tb : Nat → Nat) (st : ST) (p1 : Int32) (r : Int32) (hf : fX9_isDigit st p1 = some r) : MetR l yX9_isDigit wsX9_isDigit ({ frames := 1, cells := 0, slots := 0, locals := 22 }) [.ref (a 0), .int p1] D [(cI, .int), (cB, .byte)] (mw cI cB a) (mA a) tb st r := by
  refine met_of (cc := cX9_isDigit) (maxL := 2) (ret := (some .boolean)) (by decide) rfl (Nat.le_of_ble_eq_true rfl) ?_
  intro p e s m below meth c hx hb hr hml hts hown hlk hG ls hl
  have hown : s.vm.findClass RX9 = some m.cls := hown
  obtain ⟨hP, hK, hD, hZ⟩ := hG
  have hS : va_S (mA a) s.heap s.heap [] := va_S.rf
  have hl : lv_has ls 2 [(0, .ref (a 0)), (1, .int p1)] := hl
  unfold fX9_isDigit at hf
  refine lv_aload_n hx hb dX9_isDigit_0 rfl (lv_at hl 0 rfl) ?_
  refine lv_iload_n hx hb dX9_isDigit_1 rfl (lv_at hl 1 rfl) ?_
  obtain ⟨o1, ho1, hf⟩ := ob_e hf
  refine w_callR (b := a 0) (As := [.int p1]) (rest := []) ⟨hx, hb, hml, hown, hts⟩ (c_X9_byteAt l D cI cB a tb st p1 o1 ho1) (cwV 1 hts gX9_isDigit_X9_byteAt rfl rfl rfl (by decide +kernel) ⟨Nat.le_of_ble_eq_true rfl, Nat.le_of_ble_eq_true rfl⟩) hP hK hD hZ hS (va_recv hK hP (ci := 7) (q0 := 0) rfl rfl) rfl hl.1 rfl (Nat.le_of_ble_eq_true rfl) ⟨Nat.zero_le _, Nat.zero_le _⟩ dX9_isDigit_2 ?_
  refine lv_bipush (v := 48) hx hb dX9_isDigit_5 (by decide) ?_
  refine lv_bipush (v := 57) hx hb dX9_isDigit_7 (by decide) ?_
  obtain ⟨o2, ho2, hf⟩ := ob_e hf
  refine w_callT (As := [.int o1, .int 48, .int 57]) (rest := []) ⟨hx, hb, hml, hown, hts⟩ (c_X9_isIn l tb o1 48 57 o2 ho2) (va_cwS 3 hts gX9_isDigit_X9_isIn rfl rfl rfl (by decide +kernel) ⟨Nat.le_of_ble_eq_true rfl, Nat.le_of_ble_eq_true rfl⟩) hZ hS rfl hl.1 rfl (Nat.le_of_ble_eq_true rfl) ⟨Nat.zero_le _, Nat.zero_le _⟩ dX9_isDigit_9 ?_
  obtain ⟨hz3, hf⟩ := tv_e hf
  exact W.zret (v := o2) hx hb hr hz3 (fun t ht _ => ⟨o2, rfl, so_i hf, ht⟩) (fun _ h => by cases h) dX9_isDigit_12
set_option maxHeartbeats 4000000 in
set_option maxRecDepth 100000 in
theorem c_X9_digits (l : Launch) (D : va_G) (cI cB : ClassId) (a tb : Nat → Nat) (st : ST) (p1 : Int32) (r : Int32 × ST) (hf : fX9_digits st p1 = some r) : MetW l yX9_digits wsX9_digits ({ frames := 2, cells := 0, slots := 0, locals := 43 }) [.ref (a 0), .int p1] D [(cI, .int), (cB, .byte)] (mw cI cB a) (mA a) tb st r := by
  refine met_of (cc := cX9_digits) (maxL := 4) (ret := (some .int)) (by decide) rfl (Nat.le_of_ble_eq_true rfl) ?_
  intro p e s m below meth c hx hb hr hml hts hown hlk hG ls hl
  have hown : s.vm.findClass RX9 = some m.cls := hown
  obtain ⟨hP, hK, hD, hZ⟩ := hG
  have hS : va_S (mA a) s.heap s.heap [] := va_S.rf
  have hl : lv_has ls 4 [(0, .ref (a 0)), (1, .int p1)] := hl
  have hiX9 : ∀ w ∈ wsX90, w ∈ wsX9_digits := by decide +kernel
  have k122 := hts (.fieldLink RX9 122 "DayColumnModel" "at" "I") (by decide +kernel)
  have l4 : ∀ (n : Nat) (x_1 x_2 x_3 : Int32) (st : ST) (H : Heap) (locs : List Loc) (ls : Array Slot), va_P D vwCl (mw cI cB a st) H → va_S (mA a) s.heap H locs → lv_has ls 4 [(0, .ref (a 0)), (1, .int x_1), (2, .int x_2), (3, .int x_3)] → fX9_digits_4 n st x_1 x_2 x_3 = some r → W p l e ({ frames := 2, cells := 0, slots := 0, locals := 43 }) s m ([.ref (a 0), .int p1] : List Value).toArray below meth c H locs 0 0 (MQ below (va_Qi (fun (z : Int32) (u : ST) => z = r.1 ∧ u = r.2) (fun u t => va_P D vwCl (mw cI cB a u) t.heap) (mA a)) ([.ref (a 0), .int p1] : List Value).toArray s 0 0 (mA a)) (F0 m 4 ls []) := by
    intro n
    induction n with
    | zero =>
      intro x_1 x_2 x_3 st H locs ls hP hS hl hf
      cases hf
    | succ n ih4 =>
      intro x_1 x_2 x_3 st H locs ls hP hS hl hf
      unfold fX9_digits_4 at hf
      refine lv_iload_n hx hb dX9_digits_4 rfl (lv_at hl 3 rfl) ?_
      refine lv_iload_n hx hb dX9_digits_5 rfl (lv_at hl 1 rfl) ?_
      refine lv_icmp_ge (tgt := 55) hx hb dX9_digits_6 (by decide) (fun c1 => ?_) (fun c1 => ?_)
      · replace hf := if_t hf c1
        refine lv_iload_n hx hb dX9_digits_55 rfl (lv_at hl 2 rfl) ?_
        exact W.iret (v := x_2) hx hb hr (fun t ht _ => ⟨⟨x_2, st, rfl, so_p hf, p_at ht hP⟩, hS.F ht⟩) hS.2.2 dX9_digits_56
      · replace hf := if_f hf c1
        refine lv_aload_n hx hb dX9_digits_9 rfl (lv_at hl 0 rfl) ?_
        refine lv_aload_n hx hb dX9_digits_10 rfl (lv_at hl 0 rfl) ?_
        refine va_get (D := D) (ci := 7) (v := .int (st.1 17)) (C := RX9) (T := TX9) (N := 27) hx hb hts hiX9 hown hK hP 0 rfl rfl 17 (by decide) k122 (fun _ h9 => h9) rfl dX9_digits_11 ?_
        obtain ⟨o2, ho2, hf⟩ := ob_e hf
        refine w_callR (b := a 0) (As := [.int (st.1 17)]) (rest := []) ⟨hx, hb, hml, hown, hts⟩ (c_X9_isDigit l D cI cB a tb st (st.1 17) o2 ho2) (cwV 1 hts gX9_digits_X9_isDigit rfl rfl rfl (by decide +kernel) ⟨Nat.le_of_ble_eq_true rfl, Nat.le_of_ble_eq_true rfl⟩) hP hK hD hZ hS (va_recv hK hP (ci := 7) (q0 := 0) rfl rfl) rfl hl.1 rfl (Nat.le_of_ble_eq_true rfl) ⟨Nat.zero_le _, Nat.zero_le _⟩ dX9_digits_14 ?_
        refine lv_if_ne (tgt := 22) hx hb dX9_digits_17 (by decide) (fun c3 => ?_) (fun c3 => ?_)
        · replace hf := if_f hf c3
          refine lv_bipush (v := 10) hx hb dX9_digits_22 (by decide) ?_
          refine lv_iload_n hx hb dX9_digits_24 rfl (lv_at hl 2 rfl) ?_
          refine lv_imul hx hb dX9_digits_25 ?_
          refine lv_aload_n hx hb dX9_digits_26 rfl (lv_at hl 0 rfl) ?_
          refine lv_aload_n hx hb dX9_digits_27 rfl (lv_at hl 0 rfl) ?_
          refine va_get (D := D) (ci := 7) (v := .int (st.1 17)) (C := RX9) (T := TX9) (N := 27) hx hb hts hiX9 hown hK hP 0 rfl rfl 17 (by decide) k122 (fun _ h9 => h9) rfl dX9_digits_28 ?_
          obtain ⟨o4, ho4, hf⟩ := ob_e hf
          refine w_callR (b := a 0) (As := [.int (st.1 17)]) (rest := [.int (10 * x_2)]) ⟨hx, hb, hml, hown, hts⟩ (c_X9_byteAt l D cI cB a tb st (st.1 17) o4 ho4) (cwV 1 hts gX9_digits_X9_byteAt rfl rfl rfl (by decide +kernel) ⟨Nat.le_of_ble_eq_true rfl, Nat.le_of_ble_eq_true rfl⟩) hP hK hD hZ hS (va_recv hK hP (ci := 7) (q0 := 0) rfl rfl) rfl hl.1 rfl (Nat.le_of_ble_eq_true rfl) ⟨Nat.zero_le _, Nat.zero_le _⟩ dX9_digits_31 ?_
          refine lv_iadd hx hb dX9_digits_34 ?_
          refine lv_bipush (v := 48) hx hb dX9_digits_35 (by decide) ?_
          refine lv_isub hx hb dX9_digits_37 ?_
          obtain ⟨x5, ex5, hf⟩ := bnd_e hf
          refine w_nm ex5 ?_
          refine lv_istore_n (lv' := [(2, .int x5), (0, .ref (a 0)), (1, .int x_1), (3, .int x_3)]) hx hb dX9_digits_38 rfl hl (by decide) rfl (fun ls hl => ?_)
          refine lv_aload_n hx hb dX9_digits_39 rfl (lv_at hl 1 rfl) ?_
          refine lv_dup hx hb dX9_digits_40 rfl ?_
          refine va_get (D := D) (ci := 7) (v := .int (st.1 17)) (C := RX9) (T := TX9) (N := 27) hx hb hts hiX9 hown hK hP 0 rfl rfl 17 (by decide) k122 (fun _ h9 => h9) rfl dX9_digits_41 ?_
          refine lv_iconst (v := 1) hx hb dX9_digits_44 (by decide) ?_
          refine lv_iadd hx hb dX9_digits_45 ?_
          obtain ⟨x6, ex6, hf⟩ := bnd_e hf
          refine w_nm ex6 ?_
          obtain ⟨s7, es7, hf⟩ := bnd_e hf
          refine va_put (D := D) (ci := 7) (v := .int x6) (ty := .int) (C := RX9) (T := TX9) (N := 27) hx hb hts hiX9 tyX9 tyX9_ok nmX9 hown hK hP (hD st) hS 0 rfl rfl 17 (by decide) k122 (fun _ h9 => h9) rfl (by decide +kernel) rfl rfl (Nat.le_of_ble_eq_true rfl) dX9_digits_46 (fun H locs hP _ hS => ?_)
          have hP : va_P D vwCl (mw cI cB a s7) H := by rw [es7]; exact hP
          obtain ⟨x8, ex8, hf⟩ := bnd_e hf
          refine lv_iinc (v := x8) (lv' := [(3, .int x8), (2, .int x5), (0, .ref (a 0)), (1, .int x_1)]) hx hb dX9_digits_49 hl (k := 3) rfl (by rw [ex8]; rfl) (by decide) rfl (fun ls hl => ?_)
          refine lv_goto (tgt := 4) hx hb dX9_digits_52 (by decide) ?_
          exact ih4 x_1 x5 x8 s7 _ _ _ hP hS (lv_sub hl [2, 3, 1, 0] rfl) hf
        · replace hf := if_t hf c3
          refine lv_iconst (v := -1) hx hb dX9_digits_20 (by decide) ?_
          exact W.iret (v := (-1)) hx hb hr (fun t ht _ => ⟨⟨(-1), st, rfl, so_p hf, p_at ht hP⟩, hS.F ht⟩) hS.2.2 dX9_digits_21
  unfold fX9_digits at hf
  refine lv_iconst (v := 0) hx hb dX9_digits_0 (by decide) ?_
  refine lv_istore_n (lv' := [(2, .int 0), (0, .ref (a 0)), (1, .int p1)]) hx hb dX9_digits_1 rfl hl (by decide) rfl (fun ls hl => ?_)
  refine lv_iconst (v := 0) hx hb dX9_digits_2 (by decide) ?_
  refine lv_istore_n (lv' := [(3, .int 0), (2, .int 0), (0, .ref (a 0)), (1, .int p1)]) hx hb dX9_digits_3 rfl hl (by decide) rfl (fun ls hl => ?_)
  exact l4 1000 p1 0 0 st _ _ _ hP hS (lv_sub hl [2, 3, 1, 0] rfl) hf
set_option maxHeartbeats 4000000 in
set_option maxRecDepth 100000 in
theorem c_X9_word_3 (l : Launch) (D : va_G) (cI cB : ClassId) (a tb : Nat → Nat) (st : ST) (r : Int32 × ST) (hf : fX9_word_3 st = some r) : MetW l yX9_word wsX9_word ({ frames := 4, cells := 0, slots := 0, locals := 91 }) [.ref (a 0), .ref (tb 3)] D [(cI, .int), (cB, .byte)] (mw cI cB a) (mA a) tb st r := by
  refine met_of (cc := cX9_word) (maxL := 6) (ret := (some .int)) (by decide) rfl (Nat.le_of_ble_eq_true rfl) ?_
  intro p e s m below meth c hx hb hr hml hts hown hlk hG ls hl
  have hown : s.vm.findClass RX9 = some m.cls := hown
  obtain ⟨hP, hK, hD, hZ⟩ := hG
  have hS : va_S (mA a) s.heap s.heap [] := va_S.rf
  have hl : lv_has ls 6 [(0, .ref (a 0)), (1, .ref (tb 3))] := hl
  have hiX9 : ∀ w ∈ wsX90, w ∈ wsX9_word := by decide +kernel
  have k122 := hts (.fieldLink RX9 122 "DayColumnModel" "at" "I") (by decide +kernel)
  have l17 : ∀ (n : Nat) (x_2 x_3 x_4 : Int32) (st : ST) (H : Heap) (locs : List Loc) (ls : Array Slot), va_P D vwCl (mw cI cB a st) H → va_S (mA a) s.heap H locs → lv_has ls 6 [(0, .ref (a 0)), (1, .ref (tb 3)), (2, .int x_2), (3, .int x_3), (4, .int x_4)] → ∀ (o : Int32), fX9_word_3_17 n st x_2 x_3 x_4 = some o → (∀ (H : Heap) (locs : List Loc) (ls : Array Slot), va_P D vwCl (mw cI cB a st) H → va_S (mA a) s.heap H locs → lv_has ls 6 [(0, .ref (a 0)), (1, .ref (tb 3)), (2, .int x_2), (3, .int o)] → W p l e ({ frames := 4, cells := 0, slots := 0, locals := 91 }) s m ([.ref (a 0), .ref (tb 3)] : List Value).toArray below meth c H locs 0 0 (MQ below (va_Qi (fun (z : Int32) (u : ST) => z = r.1 ∧ u = r.2) (fun u t => va_P D vwCl (mw cI cB a u) t.heap) (mA a)) ([.ref (a 0), .ref (tb 3)] : List Value).toArray s 0 0 (mA a)) (F0 m 82 ls [])) → W p l e ({ frames := 4, cells := 0, slots := 0, locals := 91 }) s m ([.ref (a 0), .ref (tb 3)] : List Value).toArray below meth c H locs 0 0 (MQ below (va_Qi (fun (z : Int32) (u : ST) => z = r.1 ∧ u = r.2) (fun u t => va_P D vwCl (mw cI cB a u) t.heap) (mA a)) ([.ref (a 0), .ref (tb 3)] : List Value).toArray s 0 0 (mA a)) (F0 m 17 ls []) := by
    intro n
    induction n with
    | zero =>
      intro x_2 x_3 x_4 st H locs ls hP hS hl o hf kk
      cases hf
    | succ n ih17 =>
      intro x_2 x_3 x_4 st H locs ls hP hS hl o hf kk
      unfold fX9_word_3_17 at hf
      refine lv_iload hx hb dX9_word_17 (lv_at hl 4 rfl) ?_
      refine lv_iconst (v := 3) hx hb dX9_word_19 (by decide) ?_
      refine lv_icmp_ge (tgt := 82) hx hb dX9_word_20 (by decide) (fun c1 => ?_) (fun c1 => ?_)
      · replace hf := if_t hf c1
        obtain rfl := so_i hf
        exact kk _ _ _ hP hS (lv_sub hl [0, 1, 2, 3] rfl)
      · replace hf := if_f hf c1
        refine lv_aload_n hx hb dX9_word_23 rfl (lv_at hl 0 rfl) ?_
        refine lv_aload_n hx hb dX9_word_24 rfl (lv_at hl 0 rfl) ?_
        refine va_get (D := D) (ci := 7) (v := .int (st.1 17)) (C := RX9) (T := TX9) (N := 27) hx hb hts hiX9 hown hK hP 0 rfl rfl 17 (by decide) k122 (fun _ h9 => h9) rfl dX9_word_25 ?_
        refine lv_iload hx hb dX9_word_28 (lv_at hl 4 rfl) ?_
        refine lv_iadd hx hb dX9_word_30 ?_
        obtain ⟨o2, ho2, hf⟩ := ob_e hf
        refine w_callR (b := a 0) (As := [.int ((st.1 17) + x_4)]) (rest := []) ⟨hx, hb, hml, hown, hts⟩ (c_X9_byteAt l D cI cB a tb st ((st.1 17) + x_4) o2 ho2) (cwV 1 hts gX9_word_X9_byteAt rfl rfl rfl (by decide +kernel) ⟨Nat.le_of_ble_eq_true rfl, Nat.le_of_ble_eq_true rfl⟩) hP hK hD hZ hS (va_recv hK hP (ci := 7) (q0 := 0) rfl rfl) rfl hl.1 rfl (Nat.le_of_ble_eq_true rfl) ⟨Nat.zero_le _, Nat.zero_le _⟩ dX9_word_31 ?_
        refine lv_istore (lv' := [(5, .int o2), (0, .ref (a 0)), (1, .ref (tb 3)), (2, .int x_2), (3, .int x_3), (4, .int x_4)]) hx hb dX9_word_34 hl (by decide) rfl (fun ls hl => ?_)
        refine lv_iload hx hb dX9_word_36 (lv_at hl 0 rfl) ?_
        refine lv_bipush (v := 65) hx hb dX9_word_38 (by decide) ?_
        refine lv_bipush (v := 90) hx hb dX9_word_40 (by decide) ?_
        obtain ⟨o3, ho3, hf⟩ := ob_e hf
        refine w_callT (As := [.int o2, .int 65, .int 90]) (rest := []) ⟨hx, hb, hml, hown, hts⟩ (c_X9_isIn l tb o2 65 90 o3 ho3) (va_cwS 3 hts gX9_word_X9_isIn rfl rfl rfl (by decide +kernel) ⟨Nat.le_of_ble_eq_true rfl, Nat.le_of_ble_eq_true rfl⟩) hZ hS rfl hl.1 rfl (Nat.le_of_ble_eq_true rfl) ⟨Nat.zero_le _, Nat.zero_le _⟩ dX9_word_42 ?_
        refine lv_if_eq (tgt := 51) hx hb dX9_word_45 (by decide) (fun c4 => ?_) (fun c4 => ?_)
        · replace hf := if_t hf c4
          refine lv_iload_n hx hb dX9_word_51 rfl (lv_at hl 4 rfl) ?_
          refine lv_if_eq (tgt := 74) hx hb dX9_word_52 (by decide) (fun c5 => ?_) (fun c5 => ?_)
          · replace hf := if_t hf c5
            refine lv_iconst (v := 0) hx hb dX9_word_74 (by decide) ?_
            refine lv_istore_n (lv' := [(3, .int 0), (5, .int o2), (0, .ref (a 0)), (1, .ref (tb 3)), (2, .int x_2), (4, .int x_4)]) hx hb dX9_word_75 rfl hl (by decide) rfl (fun ls hl => ?_)
            obtain ⟨x6, ex6, hf⟩ := bnd_e hf
            refine lv_iinc (v := x6) (lv' := [(4, .int x6), (3, .int 0), (5, .int o2), (0, .ref (a 0)), (1, .ref (tb 3)), (2, .int x_2)]) hx hb dX9_word_76 hl (k := 5) rfl (by rw [ex6]; rfl) (by decide) rfl (fun ls hl => ?_)
            refine lv_goto (tgt := 17) hx hb dX9_word_79 (by decide) ?_
            exact ih17 x_2 0 x6 st _ _ _ hP hS (lv_sub hl [3, 4, 5, 1, 0] rfl) _ hf kk
          · replace hf := if_f hf c5
            refine lv_iload hx hb dX9_word_55 (lv_at hl 0 rfl) ?_
            refine lv_aload_n hx hb dX9_word_57 rfl (lv_at hl 2 rfl) ?_
            refine lv_iconst (v := 3) hx hb dX9_word_58 (by decide) ?_
            refine lv_iload_n hx hb dX9_word_59 rfl (lv_at hl 3 rfl) ?_
            refine lv_imul hx hb dX9_word_60 ?_
            refine lv_iload hx hb dX9_word_61 (lv_at hl 5 rfl) ?_
            refine lv_iadd hx hb dX9_word_63 ?_
            obtain ⟨o7, ho7, hf⟩ := ob_e hf
            refine w_callS (b := tb 3) (As := [.int ((3 * x_2) + x_4)]) (rest := [.int o2]) ⟨hx, hb, hml, hown, hts⟩ (c_J0_charAt_5068e_3 l tb ((3 * x_2) + x_4) o7 ho7) (cwV 1 hts gX9_word_J0_charAt_5068e rfl rfl rfl (by decide +kernel) ⟨Nat.le_of_ble_eq_true rfl, Nat.le_of_ble_eq_true rfl⟩) hZ hS (vk_recv (adK := fun i => tb (3 + i)) (i := 0) hZ.2.2.2.2.1 (by decide) hS) rfl hl.1 rfl (Nat.le_of_ble_eq_true rfl) ⟨Nat.zero_le _, Nat.zero_le _⟩ dX9_word_64 ?_
            refine lv_icmp_ne (tgt := 74) hx hb dX9_word_67 (by decide) (fun c8 => ?_) (fun c8 => ?_)
            · replace hf := if_f hf c8
              refine lv_iconst (v := 0) hx hb dX9_word_74 (by decide) ?_
              refine lv_istore_n (lv' := [(3, .int 0), (5, .int o2), (0, .ref (a 0)), (1, .ref (tb 3)), (2, .int x_2), (4, .int x_4)]) hx hb dX9_word_75 rfl hl (by decide) rfl (fun ls hl => ?_)
              obtain ⟨x9, ex9, hf⟩ := bnd_e hf
              refine lv_iinc (v := x9) (lv' := [(4, .int x9), (3, .int 0), (5, .int o2), (0, .ref (a 0)), (1, .ref (tb 3)), (2, .int x_2)]) hx hb dX9_word_76 hl (k := 5) rfl (by rw [ex9]; rfl) (by decide) rfl (fun ls hl => ?_)
              refine lv_goto (tgt := 17) hx hb dX9_word_79 (by decide) ?_
              exact ih17 x_2 0 x9 st _ _ _ hP hS (lv_sub hl [3, 4, 5, 1, 0] rfl) _ hf kk
            · replace hf := if_t hf c8
              refine lv_iconst (v := 1) hx hb dX9_word_70 (by decide) ?_
              refine lv_goto (tgt := 75) hx hb dX9_word_71 (by decide) ?_
              refine lv_istore_n (lv' := [(3, .int 1), (5, .int o2), (0, .ref (a 0)), (1, .ref (tb 3)), (2, .int x_2), (4, .int x_4)]) hx hb dX9_word_75 rfl hl (by decide) rfl (fun ls hl => ?_)
              obtain ⟨x10, ex10, hf⟩ := bnd_e hf
              refine lv_iinc (v := x10) (lv' := [(4, .int x10), (3, .int 1), (5, .int o2), (0, .ref (a 0)), (1, .ref (tb 3)), (2, .int x_2)]) hx hb dX9_word_76 hl (k := 5) rfl (by rw [ex10]; rfl) (by decide) rfl (fun ls hl => ?_)
              refine lv_goto (tgt := 17) hx hb dX9_word_79 (by decide) ?_
              exact ih17 x_2 1 x10 st _ _ _ hP hS (lv_sub hl [3, 4, 5, 1, 0] rfl) _ hf kk
        · replace hf := if_f hf c4
          obtain ⟨x11, ex11, hf⟩ := bnd_e hf
          refine lv_iinc (v := x11) (lv' := [(5, .int x11), (0, .ref (a 0)), (1, .ref (tb 3)), (2, .int x_2), (3, .int x_3), (4, .int x_4)]) hx hb dX9_word_48 hl (k := 0) rfl (by rw [ex11]; rfl) (by decide) rfl (fun ls hl => ?_)
          refine lv_iload_n hx hb dX9_word_51 rfl (lv_at hl 4 rfl) ?_
          refine lv_if_eq (tgt := 74) hx hb dX9_word_52 (by decide) (fun c12 => ?_) (fun c12 => ?_)
          · replace hf := if_t hf c12
            refine lv_iconst (v := 0) hx hb dX9_word_74 (by decide) ?_
            refine lv_istore_n (lv' := [(3, .int 0), (5, .int x11), (0, .ref (a 0)), (1, .ref (tb 3)), (2, .int x_2), (4, .int x_4)]) hx hb dX9_word_75 rfl hl (by decide) rfl (fun ls hl => ?_)
            obtain ⟨x13, ex13, hf⟩ := bnd_e hf
            refine lv_iinc (v := x13) (lv' := [(4, .int x13), (3, .int 0), (5, .int x11), (0, .ref (a 0)), (1, .ref (tb 3)), (2, .int x_2)]) hx hb dX9_word_76 hl (k := 5) rfl (by rw [ex13]; rfl) (by decide) rfl (fun ls hl => ?_)
            refine lv_goto (tgt := 17) hx hb dX9_word_79 (by decide) ?_
            exact ih17 x_2 0 x13 st _ _ _ hP hS (lv_sub hl [3, 4, 5, 1, 0] rfl) _ hf kk
          · replace hf := if_f hf c12
            refine lv_iload hx hb dX9_word_55 (lv_at hl 0 rfl) ?_
            refine lv_aload_n hx hb dX9_word_57 rfl (lv_at hl 2 rfl) ?_
            refine lv_iconst (v := 3) hx hb dX9_word_58 (by decide) ?_
            refine lv_iload_n hx hb dX9_word_59 rfl (lv_at hl 3 rfl) ?_
            refine lv_imul hx hb dX9_word_60 ?_
            refine lv_iload hx hb dX9_word_61 (lv_at hl 5 rfl) ?_
            refine lv_iadd hx hb dX9_word_63 ?_
            obtain ⟨o14, ho14, hf⟩ := ob_e hf
            refine w_callS (b := tb 3) (As := [.int ((3 * x_2) + x_4)]) (rest := [.int x11]) ⟨hx, hb, hml, hown, hts⟩ (c_J0_charAt_5068e_3 l tb ((3 * x_2) + x_4) o14 ho14) (cwV 1 hts gX9_word_J0_charAt_5068e rfl rfl rfl (by decide +kernel) ⟨Nat.le_of_ble_eq_true rfl, Nat.le_of_ble_eq_true rfl⟩) hZ hS (vk_recv (adK := fun i => tb (3 + i)) (i := 0) hZ.2.2.2.2.1 (by decide) hS) rfl hl.1 rfl (Nat.le_of_ble_eq_true rfl) ⟨Nat.zero_le _, Nat.zero_le _⟩ dX9_word_64 ?_
            refine lv_icmp_ne (tgt := 74) hx hb dX9_word_67 (by decide) (fun c15 => ?_) (fun c15 => ?_)
            · replace hf := if_f hf c15
              refine lv_iconst (v := 0) hx hb dX9_word_74 (by decide) ?_
              refine lv_istore_n (lv' := [(3, .int 0), (5, .int x11), (0, .ref (a 0)), (1, .ref (tb 3)), (2, .int x_2), (4, .int x_4)]) hx hb dX9_word_75 rfl hl (by decide) rfl (fun ls hl => ?_)
              obtain ⟨x16, ex16, hf⟩ := bnd_e hf
              refine lv_iinc (v := x16) (lv' := [(4, .int x16), (3, .int 0), (5, .int x11), (0, .ref (a 0)), (1, .ref (tb 3)), (2, .int x_2)]) hx hb dX9_word_76 hl (k := 5) rfl (by rw [ex16]; rfl) (by decide) rfl (fun ls hl => ?_)
              refine lv_goto (tgt := 17) hx hb dX9_word_79 (by decide) ?_
              exact ih17 x_2 0 x16 st _ _ _ hP hS (lv_sub hl [3, 4, 5, 1, 0] rfl) _ hf kk
            · replace hf := if_t hf c15
              refine lv_iconst (v := 1) hx hb dX9_word_70 (by decide) ?_
              refine lv_goto (tgt := 75) hx hb dX9_word_71 (by decide) ?_
              refine lv_istore_n (lv' := [(3, .int 1), (5, .int x11), (0, .ref (a 0)), (1, .ref (tb 3)), (2, .int x_2), (4, .int x_4)]) hx hb dX9_word_75 rfl hl (by decide) rfl (fun ls hl => ?_)
              obtain ⟨x17, ex17, hf⟩ := bnd_e hf
              refine lv_iinc (v := x17) (lv' := [(4, .int x17), (3, .int 1), (5, .int x11), (0, .ref (a 0)), (1, .ref (tb 3)), (2, .int x_2)]) hx hb dX9_word_76 hl (k := 5) rfl (by rw [ex17]; rfl) (by decide) rfl (fun ls hl => ?_)
              refine lv_goto (tgt := 17) hx hb dX9_word_79 (by decide) ?_
              exact ih17 x_2 1 x17 st _ _ _ hP hS (lv_sub hl [3, 4, 5, 1, 0] rfl) _ hf kk
  have l2 : ∀ (n : Nat) (x_2 : Int32) (st : ST) (H : Heap) (locs : List Loc) (ls : Array Slot), va_P D vwCl (mw cI cB a st) H → va_S (mA a) s.heap H locs → lv_has ls 6 [(0, .ref (a 0)), (1, .ref (tb 3)), (2, .int x_2)] → fX9_word_3_2 n st x_2 = some r → W p l e ({ frames := 4, cells := 0, slots := 0, locals := 91 }) s m ([.ref (a 0), .ref (tb 3)] : List Value).toArray below meth c H locs 0 0 (MQ below (va_Qi (fun (z : Int32) (u : ST) => z = r.1 ∧ u = r.2) (fun u t => va_P D vwCl (mw cI cB a u) t.heap) (mA a)) ([.ref (a 0), .ref (tb 3)] : List Value).toArray s 0 0 (mA a)) (F0 m 2 ls []) := by
    intro n
    induction n with
    | zero =>
      intro x_2 st H locs ls hP hS hl hf
      cases hf
    | succ n ih2 =>
      intro x_2 st H locs ls hP hS hl hf
      unfold fX9_word_3_2 at hf
      refine lv_iconst (v := 3) hx hb dX9_word_2 (by decide) ?_
      refine lv_iload_n hx hb dX9_word_3 rfl (lv_at hl 2 rfl) ?_
      refine lv_imul hx hb dX9_word_4 ?_
      refine lv_aload_n hx hb dX9_word_5 rfl (lv_at hl 1 rfl) ?_
      obtain ⟨o18, ho18, hf⟩ := ob_e hf
      refine w_callS (b := tb 3) (As := []) (rest := [.int (3 * x_2)]) ⟨hx, hb, hml, hown, hts⟩ (c_J0_length_8abf5_3 l tb o18 ho18) (cwV 0 hts gX9_word_J0_length_8abf5 rfl rfl rfl (by decide +kernel) ⟨Nat.le_of_ble_eq_true rfl, Nat.le_of_ble_eq_true rfl⟩) hZ hS (vk_recv (adK := fun i => tb (3 + i)) (i := 0) hZ.2.2.2.2.1 (by decide) hS) rfl hl.1 rfl (Nat.le_of_ble_eq_true rfl) ⟨Nat.zero_le _, Nat.zero_le _⟩ dX9_word_6 ?_
      refine lv_icmp_ge (tgt := 104) hx hb dX9_word_9 (by decide) (fun c19 => ?_) (fun c19 => ?_)
      · replace hf := if_t hf c19
        refine lv_iconst (v := -1) hx hb dX9_word_104 (by decide) ?_
        exact W.iret (v := (-1)) hx hb hr (fun t ht _ => ⟨⟨(-1), st, rfl, so_p hf, p_at ht hP⟩, hS.F ht⟩) hS.2.2 dX9_word_105
      · replace hf := if_f hf c19
        refine lv_iconst (v := 1) hx hb dX9_word_12 (by decide) ?_
        refine lv_istore_n (lv' := [(3, .int 1), (0, .ref (a 0)), (1, .ref (tb 3)), (2, .int x_2)]) hx hb dX9_word_13 rfl hl (by decide) rfl (fun ls hl => ?_)
        refine lv_iconst (v := 0) hx hb dX9_word_14 (by decide) ?_
        refine lv_istore (lv' := [(4, .int 0), (3, .int 1), (0, .ref (a 0)), (1, .ref (tb 3)), (2, .int x_2)]) hx hb dX9_word_15 hl (by decide) rfl (fun ls hl => ?_)
        obtain ⟨o20, ho20, hf⟩ := ob_e hf
        refine l17 1000 x_2 1 0 st _ _ _ hP hS (lv_sub hl [2, 3, 4, 1, 0] rfl) _ ho20 ?_
        intro H locs ls hP hS hl
        have hl : lv_has ls 6 [(0, .ref (a 0)), (1, .ref (tb 3)), (2, .int x_2), (3, .int o20)] := hl
        refine lv_iload_n hx hb dX9_word_82 rfl (lv_at hl 3 rfl) ?_
        refine lv_if_eq (tgt := 98) hx hb dX9_word_83 (by decide) (fun c21 => ?_) (fun c21 => ?_)
        · replace hf := if_t hf c21
          obtain ⟨x22, ex22, hf⟩ := bnd_e hf
          refine lv_iinc (v := x22) (lv' := [(2, .int x22), (0, .ref (a 0)), (1, .ref (tb 3)), (3, .int o20)]) hx hb dX9_word_98 hl (k := 2) rfl (by rw [ex22]; rfl) (by decide) rfl (fun ls hl => ?_)
          refine lv_goto (tgt := 2) hx hb dX9_word_101 (by decide) ?_
          exact ih2 x22 st _ _ _ hP hS (lv_sub hl [1, 2, 0] rfl) hf
        · replace hf := if_f hf c21
          refine lv_aload_n hx hb dX9_word_86 rfl (lv_at hl 0 rfl) ?_
          refine lv_dup hx hb dX9_word_87 rfl ?_
          refine va_get (D := D) (ci := 7) (v := .int (st.1 17)) (C := RX9) (T := TX9) (N := 27) hx hb hts hiX9 hown hK hP 0 rfl rfl 17 (by decide) k122 (fun _ h9 => h9) rfl dX9_word_88 ?_
          refine lv_iconst (v := 3) hx hb dX9_word_91 (by decide) ?_
          refine lv_iadd hx hb dX9_word_92 ?_
          obtain ⟨x23, ex23, hf⟩ := bnd_e hf
          refine w_nm ex23 ?_
          obtain ⟨s24, es24, hf⟩ := bnd_e hf
          refine va_put (D := D) (ci := 7) (v := .int x23) (ty := .int) (C := RX9) (T := TX9) (N := 27) hx hb hts hiX9 tyX9 tyX9_ok nmX9 hown hK hP (hD st) hS 0 rfl rfl 17 (by decide) k122 (fun _ h9 => h9) rfl (by decide +kernel) rfl rfl (Nat.le_of_ble_eq_true rfl) dX9_word_93 (fun H locs hP _ hS => ?_)
          have hP : va_P D vwCl (mw cI cB a s24) H := by rw [es24]; exact hP
          refine lv_iload_n hx hb dX9_word_96 rfl (lv_at hl 2 rfl) ?_
          exact W.iret (v := x_2) hx hb hr (fun t ht _ => ⟨⟨x_2, s24, rfl, so_p hf, p_at ht hP⟩, hS.F ht⟩) hS.2.2 dX9_word_97
  unfold fX9_word_3 at hf
  refine lv_iconst (v := 0) hx hb dX9_word_0 (by decide) ?_
  refine lv_istore_n (lv' := [(2, .int 0), (0, .ref (a 0)), (1, .ref (tb 3))]) hx hb dX9_word_1 rfl hl (by decide) rfl (fun ls hl => ?_)
  exact l2 1000 0 st _ _ _ hP hS (lv_sub hl [1, 2, 0] rfl) hf
set_option maxHeartbeats 4000000 in
set_option maxRecDepth 100000 in
theorem c_X9_word_4 (l : Launch) (D : va_G) (cI cB : ClassId) (a tb : Nat → Nat) (st : ST) (r : Int32 × ST) (hf : fX9_word_4 st = some r) : MetW l yX9_word wsX9_word ({ frames := 4, cells := 0, slots := 0, locals := 91 }) [.ref (a 0), .ref (tb 4)] D [(cI, .int), (cB, .byte)] (mw cI cB a) (mA a) tb st r := by
  refine met_of (cc := cX9_word) (maxL := 6) (ret := (some .int)) (by decide) rfl (Nat.le_of_ble_eq_true rfl) ?_
  intro p e s m below meth c hx hb hr hml hts hown hlk hG ls hl
  have hown : s.vm.findClass RX9 = some m.cls := hown
  obtain ⟨hP, hK, hD, hZ⟩ := hG
  have hS : va_S (mA a) s.heap s.heap [] := va_S.rf
  have hl : lv_has ls 6 [(0, .ref (a 0)), (1, .ref (tb 4))] := hl
  have hiX9 : ∀ w ∈ wsX90, w ∈ wsX9_word := by decide +kernel
  have k122 := hts (.fieldLink RX9 122 "DayColumnModel" "at" "I") (by decide +kernel)
  have l17 : ∀ (n : Nat) (x_2 x_3 x_4 : Int32) (st : ST) (H : Heap) (locs : List Loc) (ls : Array Slot), va_P D vwCl (mw cI cB a st) H → va_S (mA a) s.heap H locs → lv_has ls 6 [(0, .ref (a 0)), (1, .ref (tb 4)), (2, .int x_2), (3, .int x_3), (4, .int x_4)] → ∀ (o : Int32), fX9_word_4_17 n st x_2 x_3 x_4 = some o → (∀ (H : Heap) (locs : List Loc) (ls : Array Slot), va_P D vwCl (mw cI cB a st) H → va_S (mA a) s.heap H locs → lv_has ls 6 [(0, .ref (a 0)), (1, .ref (tb 4)), (2, .int x_2), (3, .int o)] → W p l e ({ frames := 4, cells := 0, slots := 0, locals := 91 }) s m ([.ref (a 0), .ref (tb 4)] : List Value).toArray below meth c H locs 0 0 (MQ below (va_Qi (fun (z : Int32) (u : ST) => z = r.1 ∧ u = r.2) (fun u t => va_P D vwCl (mw cI cB a u) t.heap) (mA a)) ([.ref (a 0), .ref (tb 4)] : List Value).toArray s 0 0 (mA a)) (F0 m 82 ls [])) → W p l e ({ frames := 4, cells := 0, slots := 0, locals := 91 }) s m ([.ref (a 0), .ref (tb 4)] : List Value).toArray below meth c H locs 0 0 (MQ below (va_Qi (fun (z : Int32) (u : ST) => z = r.1 ∧ u = r.2) (fun u t => va_P D vwCl (mw cI cB a u) t.heap) (mA a)) ([.ref (a 0), .ref (tb 4)] : List Value).toArray s 0 0 (mA a)) (F0 m 17 ls []) := by
    intro n
    induction n with
    | zero =>
      intro x_2 x_3 x_4 st H locs ls hP hS hl o hf kk
      cases hf
    | succ n ih17 =>
      intro x_2 x_3 x_4 st H locs ls hP hS hl o hf kk
      unfold fX9_word_4_17 at hf
      refine lv_iload hx hb dX9_word_17 (lv_at hl 4 rfl) ?_
      refine lv_iconst (v := 3) hx hb dX9_word_19 (by decide) ?_
      refine lv_icmp_ge (tgt := 82) hx hb dX9_word_20 (by decide) (fun c1 => ?_) (fun c1 => ?_)
      · replace hf := if_t hf c1
        obtain rfl := so_i hf
        exact kk _ _ _ hP hS (lv_sub hl [0, 1, 2, 3] rfl)
      · replace hf := if_f hf c1
        refine lv_aload_n hx hb dX9_word_23 rfl (lv_at hl 0 rfl) ?_
        refine lv_aload_n hx hb dX9_word_24 rfl (lv_at hl 0 rfl) ?_
        refine va_get (D := D) (ci := 7) (v := .int (st.1 17)) (C := RX9) (T := TX9) (N := 27) hx hb hts hiX9 hown hK hP 0 rfl rfl 17 (by decide) k122 (fun _ h9 => h9) rfl dX9_word_25 ?_
        refine lv_iload hx hb dX9_word_28 (lv_at hl 4 rfl) ?_
        refine lv_iadd hx hb dX9_word_30 ?_
        obtain ⟨o2, ho2, hf⟩ := ob_e hf
        refine w_callR (b := a 0) (As := [.int ((st.1 17) + x_4)]) (rest := []) ⟨hx, hb, hml, hown, hts⟩ (c_X9_byteAt l D cI cB a tb st ((st.1 17) + x_4) o2 ho2) (cwV 1 hts gX9_word_X9_byteAt rfl rfl rfl (by decide +kernel) ⟨Nat.le_of_ble_eq_true rfl, Nat.le_of_ble_eq_true rfl⟩) hP hK hD hZ hS (va_recv hK hP (ci := 7) (q0 := 0) rfl rfl) rfl hl.1 rfl (Nat.le_of_ble_eq_true rfl) ⟨Nat.zero_le _, Nat.zero_le _⟩ dX9_word_31 ?_
        refine lv_istore (lv' := [(5, .int o2), (0, .ref (a 0)), (1, .ref (tb 4)), (2, .int x_2), (3, .int x_3), (4, .int x_4)]) hx hb dX9_word_34 hl (by decide) rfl (fun ls hl => ?_)
        refine lv_iload hx hb dX9_word_36 (lv_at hl 0 rfl) ?_
        refine lv_bipush (v := 65) hx hb dX9_word_38 (by decide) ?_
        refine lv_bipush (v := 90) hx hb dX9_word_40 (by decide) ?_
        obtain ⟨o3, ho3, hf⟩ := ob_e hf
        refine w_callT (As := [.int o2, .int 65, .int 90]) (rest := []) ⟨hx, hb, hml, hown, hts⟩ (c_X9_isIn l tb o2 65 90 o3 ho3) (va_cwS 3 hts gX9_word_X9_isIn rfl rfl rfl (by decide +kernel) ⟨Nat.le_of_ble_eq_true rfl, Nat.le_of_ble_eq_true rfl⟩) hZ hS rfl hl.1 rfl (Nat.le_of_ble_eq_true rfl) ⟨Nat.zero_le _, Nat.zero_le _⟩ dX9_word_42 ?_
        refine lv_if_eq (tgt := 51) hx hb dX9_word_45 (by decide) (fun c4 => ?_) (fun c4 => ?_)
        · replace hf := if_t hf c4
          refine lv_iload_n hx hb dX9_word_51 rfl (lv_at hl 4 rfl) ?_
          refine lv_if_eq (tgt := 74) hx hb dX9_word_52 (by decide) (fun c5 => ?_) (fun c5 => ?_)
          · replace hf := if_t hf c5
            refine lv_iconst (v := 0) hx hb dX9_word_74 (by decide) ?_
            refine lv_istore_n (lv' := [(3, .int 0), (5, .int o2), (0, .ref (a 0)), (1, .ref (tb 4)), (2, .int x_2), (4, .int x_4)]) hx hb dX9_word_75 rfl hl (by decide) rfl (fun ls hl => ?_)
            obtain ⟨x6, ex6, hf⟩ := bnd_e hf
            refine lv_iinc (v := x6) (lv' := [(4, .int x6), (3, .int 0), (5, .int o2), (0, .ref (a 0)), (1, .ref (tb 4)), (2, .int x_2)]) hx hb dX9_word_76 hl (k := 5) rfl (by rw [ex6]; rfl) (by decide) rfl (fun ls hl => ?_)
            refine lv_goto (tgt := 17) hx hb dX9_word_79 (by decide) ?_
            exact ih17 x_2 0 x6 st _ _ _ hP hS (lv_sub hl [3, 4, 5, 1, 0] rfl) _ hf kk
          · replace hf := if_f hf c5
            refine lv_iload hx hb dX9_word_55 (lv_at hl 0 rfl) ?_
            refine lv_aload_n hx hb dX9_word_57 rfl (lv_at hl 2 rfl) ?_
            refine lv_iconst (v := 3) hx hb dX9_word_58 (by decide) ?_
            refine lv_iload_n hx hb dX9_word_59 rfl (lv_at hl 3 rfl) ?_
            refine lv_imul hx hb dX9_word_60 ?_
            refine lv_iload hx hb dX9_word_61 (lv_at hl 5 rfl) ?_
            refine lv_iadd hx hb dX9_word_63 ?_
            obtain ⟨o7, ho7, hf⟩ := ob_e hf
            refine w_callS (b := tb 4) (As := [.int ((3 * x_2) + x_4)]) (rest := [.int o2]) ⟨hx, hb, hml, hown, hts⟩ (c_J0_charAt_5068e_4 l tb ((3 * x_2) + x_4) o7 ho7) (cwV 1 hts gX9_word_J0_charAt_5068e rfl rfl rfl (by decide +kernel) ⟨Nat.le_of_ble_eq_true rfl, Nat.le_of_ble_eq_true rfl⟩) hZ hS (vk_recv (adK := fun i => tb (3 + i)) (i := 1) hZ.2.2.2.2.1 (by decide) hS) rfl hl.1 rfl (Nat.le_of_ble_eq_true rfl) ⟨Nat.zero_le _, Nat.zero_le _⟩ dX9_word_64 ?_
            refine lv_icmp_ne (tgt := 74) hx hb dX9_word_67 (by decide) (fun c8 => ?_) (fun c8 => ?_)
            · replace hf := if_f hf c8
              refine lv_iconst (v := 0) hx hb dX9_word_74 (by decide) ?_
              refine lv_istore_n (lv' := [(3, .int 0), (5, .int o2), (0, .ref (a 0)), (1, .ref (tb 4)), (2, .int x_2), (4, .int x_4)]) hx hb dX9_word_75 rfl hl (by decide) rfl (fun ls hl => ?_)
              obtain ⟨x9, ex9, hf⟩ := bnd_e hf
              refine lv_iinc (v := x9) (lv' := [(4, .int x9), (3, .int 0), (5, .int o2), (0, .ref (a 0)), (1, .ref (tb 4)), (2, .int x_2)]) hx hb dX9_word_76 hl (k := 5) rfl (by rw [ex9]; rfl) (by decide) rfl (fun ls hl => ?_)
              refine lv_goto (tgt := 17) hx hb dX9_word_79 (by decide) ?_
              exact ih17 x_2 0 x9 st _ _ _ hP hS (lv_sub hl [3, 4, 5, 1, 0] rfl) _ hf kk
            · replace hf := if_t hf c8
              refine lv_iconst (v := 1) hx hb dX9_word_70 (by decide) ?_
              refine lv_goto (tgt := 75) hx hb dX9_word_71 (by decide) ?_
              refine lv_istore_n (lv' := [(3, .int 1), (5, .int o2), (0, .ref (a 0)), (1, .ref (tb 4)), (2, .int x_2), (4, .int x_4)]) hx hb dX9_word_75 rfl hl (by decide) rfl (fun ls hl => ?_)
              obtain ⟨x10, ex10, hf⟩ := bnd_e hf
              refine lv_iinc (v := x10) (lv' := [(4, .int x10), (3, .int 1), (5, .int o2), (0, .ref (a 0)), (1, .ref (tb 4)), (2, .int x_2)]) hx hb dX9_word_76 hl (k := 5) rfl (by rw [ex10]; rfl) (by decide) rfl (fun ls hl => ?_)
              refine lv_goto (tgt := 17) hx hb dX9_word_79 (by decide) ?_
              exact ih17 x_2 1 x10 st _ _ _ hP hS (lv_sub hl [3, 4, 5, 1, 0] rfl) _ hf kk
        · replace hf := if_f hf c4
          obtain ⟨x11, ex11, hf⟩ := bnd_e hf
          refine lv_iinc (v := x11) (lv' := [(5, .int x11), (0, .ref (a 0)), (1, .ref (tb 4)), (2, .int x_2), (3, .int x_3), (4, .int x_4)]) hx hb dX9_word_48 hl (k := 0) rfl (by rw [ex11]; rfl) (by decide) rfl (fun ls hl => ?_)
          refine lv_iload_n hx hb dX9_word_51 rfl (lv_at hl 4 rfl) ?_
          refine lv_if_eq (tgt := 74) hx hb dX9_word_52 (by decide) (fun c12 => ?_) (fun c12 => ?_)
          · replace hf := if_t hf c12
            refine lv_iconst (v := 0) hx hb dX9_word_74 (by decide) ?_
            refine lv_istore_n (lv' := [(3, .int 0), (5, .int x11), (0, .ref (a 0)), (1, .ref (tb 4)), (2, .int x_2), (4, .int x_4)]) hx hb dX9_word_75 rfl hl (by decide) rfl (fun ls hl => ?_)
            obtain ⟨x13, ex13, hf⟩ := bnd_e hf
            refine lv_iinc (v := x13) (lv' := [(4, .int x13), (3, .int 0), (5, .int x11), (0, .ref (a 0)), (1, .ref (tb 4)), (2, .int x_2)]) hx hb dX9_word_76 hl (k := 5) rfl (by rw [ex13]; rfl) (by decide) rfl (fun ls hl => ?_)
            refine lv_goto (tgt := 17) hx hb dX9_word_79 (by decide) ?_
            exact ih17 x_2 0 x13 st _ _ _ hP hS (lv_sub hl [3, 4, 5, 1, 0] rfl) _ hf kk
          · replace hf := if_f hf c12
            refine lv_iload hx hb dX9_word_55 (lv_at hl 0 rfl) ?_
            refine lv_aload_n hx hb dX9_word_57 rfl (lv_at hl 2 rfl) ?_
            refine lv_iconst (v := 3) hx hb dX9_word_58 (by decide) ?_
            refine lv_iload_n hx hb dX9_word_59 rfl (lv_at hl 3 rfl) ?_
            refine lv_imul hx hb dX9_word_60 ?_
            refine lv_iload hx hb dX9_word_61 (lv_at hl 5 rfl) ?_
            refine lv_iadd hx hb dX9_word_63 ?_
            obtain ⟨o14, ho14, hf⟩ := ob_e hf
            refine w_callS (b := tb 4) (As := [.int ((3 * x_2) + x_4)]) (rest := [.int x11]) ⟨hx, hb, hml, hown, hts⟩ (c_J0_charAt_5068e_4 l tb ((3 * x_2) + x_4) o14 ho14) (cwV 1 hts gX9_word_J0_charAt_5068e rfl rfl rfl (by decide +kernel) ⟨Nat.le_of_ble_eq_true rfl, Nat.le_of_ble_eq_true rfl⟩) hZ hS (vk_recv (adK := fun i => tb (3 + i)) (i := 1) hZ.2.2.2.2.1 (by decide) hS) rfl hl.1 rfl (Nat.le_of_ble_eq_true rfl) ⟨Nat.zero_le _, Nat.zero_le _⟩ dX9_word_64 ?_
            refine lv_icmp_ne (tgt := 74) hx hb dX9_word_67 (by decide) (fun c15 => ?_) (fun c15 => ?_)
            · replace hf := if_f hf c15
              refine lv_iconst (v := 0) hx hb dX9_word_74 (by decide) ?_
              refine lv_istore_n (lv' := [(3, .int 0), (5, .int x11), (0, .ref (a 0)), (1, .ref (tb 4)), (2, .int x_2), (4, .int x_4)]) hx hb dX9_word_75 rfl hl (by decide) rfl (fun ls hl => ?_)
              obtain ⟨x16, ex16, hf⟩ := bnd_e hf
              refine lv_iinc (v := x16) (lv' := [(4, .int x16), (3, .int 0), (5, .int x11), (0, .ref (a 0)), (1, .ref (tb 4)), (2, .int x_2)]) hx hb dX9_word_76 hl (k := 5) rfl (by rw [ex16]; rfl) (by decide) rfl (fun ls hl => ?_)
              refine lv_goto (tgt := 17) hx hb dX9_word_79 (by decide) ?_
              exact ih17 x_2 0 x16 st _ _ _ hP hS (lv_sub hl [3, 4, 5, 1, 0] rfl) _ hf kk
            · replace hf := if_t hf c15
              refine lv_iconst (v := 1) hx hb dX9_word_70 (by decide) ?_
              refine lv_goto (tgt := 75) hx hb dX9_word_71 (by decide) ?_
              refine lv_istore_n (lv' := [(3, .int 1), (5, .int x11), (0, .ref (a 0)), (1, .ref (tb 4)), (2, .int x_2), (4, .int x_4)]) hx hb dX9_word_75 rfl hl (by decide) rfl (fun ls hl => ?_)
              obtain ⟨x17, ex17, hf⟩ := bnd_e hf
              refine lv_iinc (v := x17) (lv' := [(4, .int x17), (3, .int 1), (5, .int x11), (0, .ref (a 0)), (1, .ref (tb 4)), (2, .int x_2)]) hx hb dX9_word_76 hl (k := 5) rfl (by rw [ex17]; rfl) (by decide) rfl (fun ls hl => ?_)
              refine lv_goto (tgt := 17) hx hb dX9_word_79 (by decide) ?_
              exact ih17 x_2 1 x17 st _ _ _ hP hS (lv_sub hl [3, 4, 5, 1, 0] rfl) _ hf kk
  have l2 : ∀ (n : Nat) (x_2 : Int32) (st : ST) (H : Heap) (locs : List Loc) (ls : Array Slot), va_P D vwCl (mw cI cB a st) H → va_S (mA a) s.heap H locs → lv_has ls 6 [(0, .ref (a 0)), (1, .ref (tb 4)), (2, .int x_2)] → fX9_word_4_2 n st x_2 = some r → W p l e ({ frames := 4, cells := 0, slots := 0, locals := 91 }) s m ([.ref (a 0), .ref (tb 4)] : List Value).toArray below meth c H locs 0 0 (MQ below (va_Qi (fun (z : Int32) (u : ST) => z = r.1 ∧ u = r.2) (fun u t => va_P D vwCl (mw cI cB a u) t.heap) (mA a)) ([.ref (a 0), .ref (tb 4)] : List Value).toArray s 0 0 (mA a)) (F0 m 2 ls []) := by
    intro n
    induction n with
    | zero =>
      intro x_2 st H locs ls hP hS hl hf
      cases hf
    | succ n ih2 =>
      intro x_2 st H locs ls hP hS hl hf
      unfold fX9_word_4_2 at hf
      refine lv_iconst (v := 3) hx hb dX9_word_2 (by decide) ?_
      refine lv_iload_n hx hb dX9_word_3 rfl (lv_at hl 2 rfl) ?_
      refine lv_imul hx hb dX9_word_4 ?_
      refine lv_aload_n hx hb dX9_word_5 rfl (lv_at hl 1 rfl) ?_
      obtain ⟨o18, ho18, hf⟩ := ob_e hf
      refine w_callS (b := tb 4) (As := []) (rest := [.int (3 * x_2)]) ⟨hx, hb, hml, hown, hts⟩ (c_J0_length_8abf5_4 l tb o18 ho18) (cwV 0 hts gX9_word_J0_length_8abf5 rfl rfl rfl (by decide +kernel) ⟨Nat.le_of_ble_eq_true rfl, Nat.le_of_ble_eq_true rfl⟩) hZ hS (vk_recv (adK := fun i => tb (3 + i)) (i := 1) hZ.2.2.2.2.1 (by decide) hS) rfl hl.1 rfl (Nat.le_of_ble_eq_true rfl) ⟨Nat.zero_le _, Nat.zero_le _⟩ dX9_word_6 ?_
      refine lv_icmp_ge (tgt := 104) hx hb dX9_word_9 (by decide) (fun c19 => ?_) (fun c19 => ?_)
      · replace hf := if_t hf c19
        refine lv_iconst (v := -1) hx hb dX9_word_104 (by decide) ?_
        exact W.iret (v := (-1)) hx hb hr (fun t ht _ => ⟨⟨(-1), st, rfl, so_p hf, p_at ht hP⟩, hS.F ht⟩) hS.2.2 dX9_word_105
      · replace hf := if_f hf c19
        refine lv_iconst (v := 1) hx hb dX9_word_12 (by decide) ?_
        refine lv_istore_n (lv' := [(3, .int 1), (0, .ref (a 0)), (1, .ref (tb 4)), (2, .int x_2)]) hx hb dX9_word_13 rfl hl (by decide) rfl (fun ls hl => ?_)
        refine lv_iconst (v := 0) hx hb dX9_word_14 (by decide) ?_
        refine lv_istore (lv' := [(4, .int 0), (3, .int 1), (0, .ref (a 0)), (1, .ref (tb 4)), (2, .int x_2)]) hx hb dX9_word_15 hl (by decide) rfl (fun ls hl => ?_)
        obtain ⟨o20, ho20, hf⟩ := ob_e hf
        refine l17 1000 x_2 1 0 st _ _ _ hP hS (lv_sub hl [2, 3, 4, 1, 0] rfl) _ ho20 ?_
        intro H locs ls hP hS hl
        have hl : lv_has ls 6 [(0, .ref (a 0)), (1, .ref (tb 4)), (2, .int x_2), (3, .int o20)] := hl
        refine lv_iload_n hx hb dX9_word_82 rfl (lv_at hl 3 rfl) ?_
        refine lv_if_eq (tgt := 98) hx hb dX9_word_83 (by decide) (fun c21 => ?_) (fun c21 => ?_)
        · replace hf := if_t hf c21
          obtain ⟨x22, ex22, hf⟩ := bnd_e hf
          refine lv_iinc (v := x22) (lv' := [(2, .int x22), (0, .ref (a 0)), (1, .ref (tb 4)), (3, .int o20)]) hx hb dX9_word_98 hl (k := 2) rfl (by rw [ex22]; rfl) (by decide) rfl (fun ls hl => ?_)
          refine lv_goto (tgt := 2) hx hb dX9_word_101 (by decide) ?_
          exact ih2 x22 st _ _ _ hP hS (lv_sub hl [1, 2, 0] rfl) hf
        · replace hf := if_f hf c21
          refine lv_aload_n hx hb dX9_word_86 rfl (lv_at hl 0 rfl) ?_
          refine lv_dup hx hb dX9_word_87 rfl ?_
          refine va_get (D := D) (ci := 7) (v := .int (st.1 17)) (C := RX9) (T := TX9) (N := 27) hx hb hts hiX9 hown hK hP 0 rfl rfl 17 (by decide) k122 (fun _ h9 => h9) rfl dX9_word_88 ?_
          refine lv_iconst (v := 3) hx hb dX9_word_91 (by decide) ?_
          refine lv_iadd hx hb dX9_word_92 ?_
          obtain ⟨x23, ex23, hf⟩ := bnd_e hf
          refine w_nm ex23 ?_
          obtain ⟨s24, es24, hf⟩ := bnd_e hf
          refine va_put (D := D) (ci := 7) (v := .int x23) (ty := .int) (C := RX9) (T := TX9) (N := 27) hx hb hts hiX9 tyX9 tyX9_ok nmX9 hown hK hP (hD st) hS 0 rfl rfl 17 (by decide) k122 (fun _ h9 => h9) rfl (by decide +kernel) rfl rfl (Nat.le_of_ble_eq_true rfl) dX9_word_93 (fun H locs hP _ hS => ?_)
          have hP : va_P D vwCl (mw cI cB a s24) H := by rw [es24]; exact hP
          refine lv_iload_n hx hb dX9_word_96 rfl (lv_at hl 2 rfl) ?_
          exact W.iret (v := x_2) hx hb hr (fun t ht _ => ⟨⟨x_2, s24, rfl, so_p hf, p_at ht hP⟩, hS.F ht⟩) hS.2.2 dX9_word_97
  unfold fX9_word_4 at hf
  refine lv_iconst (v := 0) hx hb dX9_word_0 (by decide) ?_
  refine lv_istore_n (lv' := [(2, .int 0), (0, .ref (a 0)), (1, .ref (tb 4))]) hx hb dX9_word_1 rfl hl (by decide) rfl (fun ls hl => ?_)
  exact l2 1000 0 st _ _ _ hP hS (lv_sub hl [1, 2, 0] rfl) hf
set_option maxHeartbeats 4000000 in
set_option maxRecDepth 100000 in
theorem c_X9_reads (l : Launch) (D : va_G) (cI cB : ClassId) (a tb : Nat → Nat) (st : ST) (p1 p2 : Int32) (r : Int32 × ST) (hf : fX9_reads st p1 p2 = some r) : MetW l yX9_reads wsX9_reads ({ frames := 5, cells := 0, slots := 0, locals := 116 }) [.ref (a 0), .int p1, .int p2] D [(cI, .int), (cB, .byte)] (mw cI cB a) (mA a) tb st r := by
  refine met_of (cc := cX9_reads) (maxL := 10) (ret := (some .boolean)) (by decide) rfl (Nat.le_of_ble_eq_true rfl) ?_
  intro p e s m below meth c hx hb hr hml hts hown hlk hG ls hl
  have hown : s.vm.findClass RX9 = some m.cls := hown
  obtain ⟨hP, hK, hD, hZ⟩ := hG
  have hS : va_S (mA a) s.heap s.heap [] := va_S.rf
  have hl : lv_has ls 10 [(0, .ref (a 0)), (1, .int p1), (2, .int p2)] := hl
  have hiX9 : ∀ w ∈ wsX90, w ∈ wsX9_reads := by decide +kernel
  have k116 := hts (.fieldLink RX9 116 "DayColumnModel" "cellRow" "I") (by decide +kernel)
  have k122 := hts (.fieldLink RX9 122 "DayColumnModel" "at" "I") (by decide +kernel)
  have k13 := hts (.fieldLink RX9 13 "DayColumnModel" "style" "[B") (by decide +kernel)
  have k156 := hts (.fieldLink RX9 156 "DayColumnModel" "from" "I") (by decide +kernel)
  have k159 := hts (.fieldLink RX9 159 "DayColumnModel" "to" "I") (by decide +kernel)
  have k19 := hts (.fieldLink RX9 19 "DayColumnModel" "styleLong" "[I") (by decide +kernel)
  have k26 := hts (.fieldLink RX9 26 "DayColumnModel" "cellLong" "[I") (by decide +kernel)
  have k32 := hts (.fieldLink RX9 32 "DayColumnModel" "window" "I") (by decide +kernel)
  have l268 : ∀ (n : Nat) (x_1 x_2 x_3 x_4 x_5 x_6 x_7 x_8 : Int32) (st : ST) (H : Heap) (locs : List Loc) (ls : Array Slot), va_P D vwCl (mw cI cB a st) H → va_S (mA a) s.heap H locs → lv_has ls 10 [(0, .ref (a 0)), (1, .int x_1), (2, .int x_2), (3, .int x_3), (4, .int x_4), (5, .int x_5), (6, .int x_6), (7, .int x_7), (8, .int x_8)] → ∀ (o : ST), fX9_reads_268 n st x_1 x_2 x_3 x_4 x_5 x_6 x_7 x_8 = some o → (∀ (H : Heap) (locs : List Loc) (ls : Array Slot), va_P D vwCl (mw cI cB a o) H → va_S (mA a) s.heap H locs → lv_has ls 10 [(0, .ref (a 0)), (1, .int x_1), (2, .int x_2), (3, .int x_3), (4, .int x_4), (5, .int x_5), (6, .int x_6), (7, .int x_7)] → W p l e ({ frames := 5, cells := 0, slots := 0, locals := 116 }) s m ([.ref (a 0), .int p1, .int p2] : List Value).toArray below meth c H locs 0 0 (MQ below (va_Qi (fun (z : Int32) (u : ST) => z = r.1 ∧ u = r.2) (fun u t => va_P D vwCl (mw cI cB a u) t.heap) (mA a)) ([.ref (a 0), .int p1, .int p2] : List Value).toArray s 0 0 (mA a)) (F0 m 301 ls [])) → W p l e ({ frames := 5, cells := 0, slots := 0, locals := 116 }) s m ([.ref (a 0), .int p1, .int p2] : List Value).toArray below meth c H locs 0 0 (MQ below (va_Qi (fun (z : Int32) (u : ST) => z = r.1 ∧ u = r.2) (fun u t => va_P D vwCl (mw cI cB a u) t.heap) (mA a)) ([.ref (a 0), .int p1, .int p2] : List Value).toArray s 0 0 (mA a)) (F0 m 268 ls []) := by
    intro n
    induction n with
    | zero =>
      intro x_1 x_2 x_3 x_4 x_5 x_6 x_7 x_8 st H locs ls hP hS hl o hf kk
      cases hf
    | succ n ih268 =>
      intro x_1 x_2 x_3 x_4 x_5 x_6 x_7 x_8 st H locs ls hP hS hl o hf kk
      unfold fX9_reads_268 at hf
      refine lv_iload hx hb dX9_reads_268 (lv_at hl 8 rfl) ?_
      refine lv_bipush (v := 32) hx hb dX9_reads_270 (by decide) ?_
      refine lv_icmp_ne (tgt := 301) hx hb dX9_reads_272 (by decide) (fun c1 => ?_) (fun c1 => ?_)
      · replace hf := if_f hf c1
        obtain rfl := so_i hf
        exact kk _ _ _ hP hS (lv_sub hl [0, 1, 2, 3, 4, 5, 6, 7] rfl)
      · replace hf := if_t hf c1
        refine lv_aload_n hx hb dX9_reads_275 rfl (lv_at hl 0 rfl) ?_
        refine lv_aload_n hx hb dX9_reads_276 rfl (lv_at hl 0 rfl) ?_
        refine va_get (D := D) (ci := 7) (v := .int (st.1 17)) (C := RX9) (T := TX9) (N := 27) hx hb hts hiX9 hown hK hP 0 rfl rfl 17 (by decide) k122 (fun _ h9 => h9) rfl dX9_reads_277 ?_
        obtain ⟨o2, ho2, hf⟩ := ob_e hf
        refine w_callR (b := a 0) (As := [.int (st.1 17)]) (rest := []) ⟨hx, hb, hml, hown, hts⟩ (c_X9_byteAt l D cI cB a tb st (st.1 17) o2 ho2) (cwV 1 hts gX9_reads_X9_byteAt rfl rfl rfl (by decide +kernel) ⟨Nat.le_of_ble_eq_true rfl, Nat.le_of_ble_eq_true rfl⟩) hP hK hD hZ hS (va_recv hK hP (ci := 7) (q0 := 0) rfl rfl) rfl hl.1 rfl (Nat.le_of_ble_eq_true rfl) ⟨Nat.zero_le _, Nat.zero_le _⟩ dX9_reads_280 ?_
        refine lv_bipush (v := 32) hx hb dX9_reads_283 (by decide) ?_
        refine lv_icmp_ne (tgt := 301) hx hb dX9_reads_285 (by decide) (fun c3 => ?_) (fun c3 => ?_)
        · replace hf := if_f hf c3
          obtain rfl := so_i hf
          exact kk _ _ _ hP hS (lv_sub hl [0, 1, 2, 3, 4, 5, 6, 7] rfl)
        · replace hf := if_t hf c3
          refine lv_aload_n hx hb dX9_reads_288 rfl (lv_at hl 0 rfl) ?_
          refine lv_dup hx hb dX9_reads_289 rfl ?_
          refine va_get (D := D) (ci := 7) (v := .int (st.1 17)) (C := RX9) (T := TX9) (N := 27) hx hb hts hiX9 hown hK hP 0 rfl rfl 17 (by decide) k122 (fun _ h9 => h9) rfl dX9_reads_290 ?_
          refine lv_iconst (v := 1) hx hb dX9_reads_293 (by decide) ?_
          refine lv_iadd hx hb dX9_reads_294 ?_
          obtain ⟨x4, ex4, hf⟩ := bnd_e hf
          refine w_nm ex4 ?_
          obtain ⟨s5, es5, hf⟩ := bnd_e hf
          refine va_put (D := D) (ci := 7) (v := .int x4) (ty := .int) (C := RX9) (T := TX9) (N := 27) hx hb hts hiX9 tyX9 tyX9_ok nmX9 hown hK hP (hD st) hS 0 rfl rfl 17 (by decide) k122 (fun _ h9 => h9) rfl (by decide +kernel) rfl rfl (Nat.le_of_ble_eq_true rfl) dX9_reads_295 (fun H locs hP _ hS => ?_)
          have hP : va_P D vwCl (mw cI cB a s5) H := by rw [es5]; exact hP
          refine lv_goto (tgt := 268) hx hb dX9_reads_298 (by decide) ?_
          exact ih268 x_1 x_2 x_3 x_4 x_5 x_6 x_7 x_8 s5 _ _ _ hP hS (lv_sub hl [0, 1, 2, 3, 4, 5, 6, 7, 8] rfl) _ hf kk
  have l25 : ∀ (n : Nat) (x_1 x_2 x_3 x_4 x_5 x_6 x_7 : Int32) (st : ST) (H : Heap) (locs : List Loc) (ls : Array Slot), va_P D vwCl (mw cI cB a st) H → va_S (mA a) s.heap H locs → lv_has ls 10 [(0, .ref (a 0)), (1, .int x_1), (2, .int x_2), (3, .int x_3), (4, .int x_4), (5, .int x_5), (6, .int x_6), (7, .int x_7)] → fX9_reads_25 n st x_1 x_2 x_3 x_4 x_5 x_6 x_7 = some r → W p l e ({ frames := 5, cells := 0, slots := 0, locals := 116 }) s m ([.ref (a 0), .int p1, .int p2] : List Value).toArray below meth c H locs 0 0 (MQ below (va_Qi (fun (z : Int32) (u : ST) => z = r.1 ∧ u = r.2) (fun u t => va_P D vwCl (mw cI cB a u) t.heap) (mA a)) ([.ref (a 0), .int p1, .int p2] : List Value).toArray s 0 0 (mA a)) (F0 m 25 ls []) := by
    intro n
    induction n with
    | zero =>
      intro x_1 x_2 x_3 x_4 x_5 x_6 x_7 st H locs ls hP hS hl hf
      cases hf
    | succ n ih25 =>
      intro x_1 x_2 x_3 x_4 x_5 x_6 x_7 st H locs ls hP hS hl hf
      unfold fX9_reads_25 at hf
      refine lv_iload hx hb dX9_reads_25 (lv_at hl 7 rfl) ?_
      refine lv_aload_n hx hb dX9_reads_27 rfl (lv_at hl 0 rfl) ?_
      refine va_get (D := D) (ci := 7) (v := .ref (a 4)) (C := RX9) (T := TX9) (N := 27) hx hb hts hiX9 hown hK hP 0 rfl rfl 4 (by decide) k19 (fun _ h9 => h9) rfl dX9_reads_28 ?_
      refine lv_iload_n hx hb dX9_reads_31 rfl (lv_at hl 2 rfl) ?_
      obtain ⟨hi6, hf⟩ := ix_e hf
      refine va_iald hx hb hK hP 4 0 rfl rfl hi6 dX9_reads_32 ?_
      refine lv_icmp_ge (tgt := 307) hx hb dX9_reads_33 (by decide) (fun c7 => ?_) (fun c7 => ?_)
      · replace hf := if_t hf c7
        refine lv_aload_n hx hb dX9_reads_307 rfl (lv_at hl 0 rfl) ?_
        refine va_get (D := D) (ci := 7) (v := .int (st.1 17)) (C := RX9) (T := TX9) (N := 27) hx hb hts hiX9 hown hK hP 0 rfl rfl 17 (by decide) k122 (fun _ h9 => h9) rfl dX9_reads_308 ?_
        refine lv_aload_n hx hb dX9_reads_311 rfl (lv_at hl 0 rfl) ?_
        refine va_get (D := D) (ci := 7) (v := .ref (a 6)) (C := RX9) (T := TX9) (N := 27) hx hb hts hiX9 hown hK hP 0 rfl rfl 6 (by decide) k26 (fun _ h9 => h9) rfl dX9_reads_312 ?_
        refine lv_iload_n hx hb dX9_reads_315 rfl (lv_at hl 1 rfl) ?_
        obtain ⟨hi8, hf⟩ := ix_e hf
        refine va_iald hx hb hK hP 6 0 rfl rfl hi8 dX9_reads_316 ?_
        refine lv_icmp_ne (tgt := 335) hx hb dX9_reads_317 (by decide) (fun c9 => ?_) (fun c9 => ?_)
        · replace hf := if_f hf c9
          refine lv_iconst (v := 0) hx hb dX9_reads_335 (by decide) ?_
          exact W.zret (v := 0) hx hb hr rfl (fun t ht _ => ⟨⟨0, st, rfl, so_p hf, p_at ht hP⟩, hS.F ht⟩) hS.2.2 dX9_reads_336
        · replace hf := if_t hf c9
          refine lv_iconst (v := 1) hx hb dX9_reads_320 (by decide) ?_
          refine lv_iload_n hx hb dX9_reads_321 rfl (lv_at hl 3 rfl) ?_
          refine va_mmax hx hb (by rw [hml]; exact hl.1.symm) hown (hts (.methodLink RX9 153 Lib.Math.max.name) (by decide +kernel)) (hts (.static Lib.Math.max.name) (by decide +kernel)) (hts (.initialized "java/lang/Math") (by decide +kernel)) (hts (.code Lib.Math.max.name Lib.Math.max.code 2 (some .int)) (by decide +kernel)) (Nat.le_of_ble_eq_true rfl) (Nat.le_of_ble_eq_true rfl) (Nat.zero_le _) (Nat.zero_le _) dX9_reads_322 ?_
          refine lv_iload hx hb dX9_reads_325 (lv_at hl 4 rfl) ?_
          refine lv_iload hx hb dX9_reads_327 (lv_at hl 5 rfl) ?_
          obtain ⟨o10, ho10, hf⟩ := ob_e hf
          refine w_callT (As := [.int (if 1 < x_3 then x_3 else 1), .int x_4, .int x_5]) (rest := []) ⟨hx, hb, hml, hown, hts⟩ (c_X9_isDate l tb (if 1 < x_3 then x_3 else 1) x_4 x_5 o10 ho10) (va_cwS 3 hts gX9_reads_X9_isDate rfl rfl rfl (by decide +kernel) ⟨Nat.le_of_ble_eq_true rfl, Nat.le_of_ble_eq_true rfl⟩) hZ hS rfl hl.1 rfl (Nat.le_of_ble_eq_true rfl) ⟨Nat.zero_le _, Nat.zero_le _⟩ dX9_reads_329 ?_
          refine lv_if_ne (tgt := 337) hx hb dX9_reads_332 (by decide) (fun c11 => ?_) (fun c11 => ?_)
          · replace hf := if_f hf c11
            refine lv_aload_n hx hb dX9_reads_337 rfl (lv_at hl 0 rfl) ?_
            refine lv_iconst (v := 1) hx hb dX9_reads_338 (by decide) ?_
            refine lv_iload_n hx hb dX9_reads_339 rfl (lv_at hl 3 rfl) ?_
            refine va_mmax hx hb (by rw [hml]; exact hl.1.symm) hown (hts (.methodLink RX9 153 Lib.Math.max.name) (by decide +kernel)) (hts (.static Lib.Math.max.name) (by decide +kernel)) (hts (.initialized "java/lang/Math") (by decide +kernel)) (hts (.code Lib.Math.max.name Lib.Math.max.code 2 (some .int)) (by decide +kernel)) (Nat.le_of_ble_eq_true rfl) (Nat.le_of_ble_eq_true rfl) (Nat.zero_le _) (Nat.zero_le _) dX9_reads_340 ?_
            refine lv_iload hx hb dX9_reads_343 (lv_at hl 4 rfl) ?_
            refine lv_iload hx hb dX9_reads_345 (lv_at hl 5 rfl) ?_
            obtain ⟨o12, ho12, hf⟩ := ob_e hf
            refine w_callT (As := [.int (if 1 < x_3 then x_3 else 1), .int x_4, .int x_5]) (rest := [.ref (a 0)]) ⟨hx, hb, hml, hown, hts⟩ (c_X9_numberOf l tb (if 1 < x_3 then x_3 else 1) x_4 x_5 o12 ho12) (va_cwS 3 hts gX9_reads_X9_numberOf rfl rfl rfl (by decide +kernel) ⟨Nat.le_of_ble_eq_true rfl, Nat.le_of_ble_eq_true rfl⟩) hZ hS rfl hl.1 rfl (Nat.le_of_ble_eq_true rfl) ⟨Nat.zero_le _, Nat.zero_le _⟩ dX9_reads_347 ?_
            obtain ⟨s13, es13, hf⟩ := bnd_e hf
            refine va_put (D := D) (ci := 7) (v := .int o12) (ty := .int) (C := RX9) (T := TX9) (N := 27) hx hb hts hiX9 tyX9 tyX9_ok nmX9 hown hK hP (hD st) hS 0 rfl rfl 15 (by decide) k156 (fun _ h9 => h9) rfl (by decide +kernel) rfl rfl (Nat.le_of_ble_eq_true rfl) dX9_reads_350 (fun H locs hP _ hS => ?_)
            have hP : va_P D vwCl (mw cI cB a s13) H := by rw [es13]; exact hP
            refine lv_aload_n hx hb dX9_reads_353 rfl (lv_at hl 0 rfl) ?_
            refine lv_iload_n hx hb dX9_reads_354 rfl (lv_at hl 3 rfl) ?_
            refine lv_if_ne (tgt := 375) hx hb dX9_reads_355 (by decide) (fun c14 => ?_) (fun c14 => ?_)
            · replace hf := if_f hf c14
              refine lv_aload_n hx hb dX9_reads_375 rfl (lv_at hl 0 rfl) ?_
              refine va_get (D := D) (ci := 7) (v := .int (s13.1 15)) (C := RX9) (T := TX9) (N := 27) hx hb hts hiX9 hown hK hP 0 rfl rfl 15 (by decide) k156 (fun _ h9 => h9) rfl dX9_reads_376 ?_
              obtain ⟨x15, ex15, hf⟩ := bnd_e hf
              refine w_nm ex15 ?_
              obtain ⟨s16, es16, hf⟩ := bnd_e hf
              refine va_put (D := D) (ci := 7) (v := .int x15) (ty := .int) (C := RX9) (T := TX9) (N := 27) hx hb hts hiX9 tyX9 tyX9_ok nmX9 hown hK hP (hD s13) hS 0 rfl rfl 16 (by decide) k159 (fun _ h9 => h9) rfl (by decide +kernel) rfl rfl (Nat.le_of_ble_eq_true rfl) dX9_reads_379 (fun H locs hP _ hS => ?_)
              have hP : va_P D vwCl (mw cI cB a s16) H := by rw [es16]; exact hP
              refine lv_iload hx hb dX9_reads_382 (lv_at hl 6 rfl) ?_
              refine lv_bipush (v := 7) hx hb dX9_reads_384 (by decide) ?_
              refine lv_icmp_eq (tgt := 401) hx hb dX9_reads_386 (by decide) (fun c17 => ?_) (fun c17 => ?_)
              · replace hf := if_t hf c17
                refine lv_iconst (v := 1) hx hb dX9_reads_401 (by decide) ?_
                refine lv_goto (tgt := 406) hx hb dX9_reads_402 (by decide) ?_
                exact W.zret (v := 1) hx hb hr rfl (fun t ht _ => ⟨⟨1, s16, rfl, so_p hf, p_at ht hP⟩, hS.F ht⟩) hS.2.2 dX9_reads_406
              · replace hf := if_f hf c17
                refine lv_aload_n hx hb dX9_reads_389 rfl (lv_at hl 0 rfl) ?_
                refine va_get (D := D) (ci := 7) (v := .int (s16.1 15)) (C := RX9) (T := TX9) (N := 27) hx hb hts hiX9 hown hK hP 0 rfl rfl 15 (by decide) k156 (fun _ h9 => h9) rfl dX9_reads_390 ?_
                refine lv_bipush (v := 7) hx hb dX9_reads_393 (by decide) ?_
                refine lv_irem hx hb dX9_reads_395 (by decide) ?_
                refine lv_iload hx hb dX9_reads_396 (lv_at hl 6 rfl) ?_
                refine lv_icmp_ne (tgt := 405) hx hb dX9_reads_398 (by decide) (fun c18 => ?_) (fun c18 => ?_)
                · replace hf := if_f hf c18
                  refine lv_iconst (v := 0) hx hb dX9_reads_405 (by decide) ?_
                  exact W.zret (v := 0) hx hb hr rfl (fun t ht _ => ⟨⟨0, s16, rfl, so_p hf, p_at ht hP⟩, hS.F ht⟩) hS.2.2 dX9_reads_406
                · replace hf := if_t hf c18
                  refine lv_iconst (v := 1) hx hb dX9_reads_401 (by decide) ?_
                  refine lv_goto (tgt := 406) hx hb dX9_reads_402 (by decide) ?_
                  exact W.zret (v := 1) hx hb hr rfl (fun t ht _ => ⟨⟨1, s16, rfl, so_p hf, p_at ht hP⟩, hS.F ht⟩) hS.2.2 dX9_reads_406
            · replace hf := if_t hf c14
              refine lv_aload_n hx hb dX9_reads_358 rfl (lv_at hl 0 rfl) ?_
              refine va_get (D := D) (ci := 7) (v := .int (s13.1 15)) (C := RX9) (T := TX9) (N := 27) hx hb hts hiX9 hown hK hP 0 rfl rfl 15 (by decide) k156 (fun _ h9 => h9) rfl dX9_reads_359 ?_
              refine lv_iload hx hb dX9_reads_362 (lv_at hl 4 rfl) ?_
              refine lv_iload hx hb dX9_reads_364 (lv_at hl 5 rfl) ?_
              obtain ⟨o19, ho19, hf⟩ := ob_e hf
              refine w_callT (As := [.int x_4, .int x_5]) (rest := [.int (s13.1 15), .ref (a 0)]) ⟨hx, hb, hml, hown, hts⟩ (c_X9_daysOf l tb x_4 x_5 o19 ho19) (va_cwS 2 hts gX9_reads_X9_daysOf rfl rfl rfl (by decide +kernel) ⟨Nat.le_of_ble_eq_true rfl, Nat.le_of_ble_eq_true rfl⟩) hZ hS rfl hl.1 rfl (Nat.le_of_ble_eq_true rfl) ⟨Nat.zero_le _, Nat.zero_le _⟩ dX9_reads_366 ?_
              refine lv_iadd hx hb dX9_reads_369 ?_
              refine lv_iconst (v := 1) hx hb dX9_reads_370 (by decide) ?_
              refine lv_isub hx hb dX9_reads_371 ?_
              refine lv_goto (tgt := 379) hx hb dX9_reads_372 (by decide) ?_
              obtain ⟨x20, ex20, hf⟩ := bnd_e hf
              refine w_nm ex20 ?_
              obtain ⟨s21, es21, hf⟩ := bnd_e hf
              refine va_put (D := D) (ci := 7) (v := .int x20) (ty := .int) (C := RX9) (T := TX9) (N := 27) hx hb hts hiX9 tyX9 tyX9_ok nmX9 hown hK hP (hD s13) hS 0 rfl rfl 16 (by decide) k159 (fun _ h9 => h9) rfl (by decide +kernel) rfl rfl (Nat.le_of_ble_eq_true rfl) dX9_reads_379 (fun H locs hP _ hS => ?_)
              have hP : va_P D vwCl (mw cI cB a s21) H := by rw [es21]; exact hP
              refine lv_iload hx hb dX9_reads_382 (lv_at hl 6 rfl) ?_
              refine lv_bipush (v := 7) hx hb dX9_reads_384 (by decide) ?_
              refine lv_icmp_eq (tgt := 401) hx hb dX9_reads_386 (by decide) (fun c22 => ?_) (fun c22 => ?_)
              · replace hf := if_t hf c22
                refine lv_iconst (v := 1) hx hb dX9_reads_401 (by decide) ?_
                refine lv_goto (tgt := 406) hx hb dX9_reads_402 (by decide) ?_
                exact W.zret (v := 1) hx hb hr rfl (fun t ht _ => ⟨⟨1, s21, rfl, so_p hf, p_at ht hP⟩, hS.F ht⟩) hS.2.2 dX9_reads_406
              · replace hf := if_f hf c22
                refine lv_aload_n hx hb dX9_reads_389 rfl (lv_at hl 0 rfl) ?_
                refine va_get (D := D) (ci := 7) (v := .int (s21.1 15)) (C := RX9) (T := TX9) (N := 27) hx hb hts hiX9 hown hK hP 0 rfl rfl 15 (by decide) k156 (fun _ h9 => h9) rfl dX9_reads_390 ?_
                refine lv_bipush (v := 7) hx hb dX9_reads_393 (by decide) ?_
                refine lv_irem hx hb dX9_reads_395 (by decide) ?_
                refine lv_iload hx hb dX9_reads_396 (lv_at hl 6 rfl) ?_
                refine lv_icmp_ne (tgt := 405) hx hb dX9_reads_398 (by decide) (fun c23 => ?_) (fun c23 => ?_)
                · replace hf := if_f hf c23
                  refine lv_iconst (v := 0) hx hb dX9_reads_405 (by decide) ?_
                  exact W.zret (v := 0) hx hb hr rfl (fun t ht _ => ⟨⟨0, s21, rfl, so_p hf, p_at ht hP⟩, hS.F ht⟩) hS.2.2 dX9_reads_406
                · replace hf := if_t hf c23
                  refine lv_iconst (v := 1) hx hb dX9_reads_401 (by decide) ?_
                  refine lv_goto (tgt := 406) hx hb dX9_reads_402 (by decide) ?_
                  exact W.zret (v := 1) hx hb hr rfl (fun t ht _ => ⟨⟨1, s21, rfl, so_p hf, p_at ht hP⟩, hS.F ht⟩) hS.2.2 dX9_reads_406
          · replace hf := if_t hf c11
            refine lv_iconst (v := 0) hx hb dX9_reads_335 (by decide) ?_
            exact W.zret (v := 0) hx hb hr rfl (fun t ht _ => ⟨⟨0, st, rfl, so_p hf, p_at ht hP⟩, hS.F ht⟩) hS.2.2 dX9_reads_336
      · replace hf := if_f hf c7
        refine lv_aload_n hx hb dX9_reads_36 rfl (lv_at hl 0 rfl) ?_
        refine va_get (D := D) (ci := 7) (v := .ref (a 2)) (C := RX9) (T := TX9) (N := 27) hx hb hts hiX9 hown hK hP 0 rfl rfl 2 (by decide) k13 (fun _ h9 => h9) rfl dX9_reads_37 ?_
        refine lv_bipush (v := 24) hx hb dX9_reads_40 (by decide) ?_
        refine lv_iload_n hx hb dX9_reads_42 rfl (lv_at hl 2 rfl) ?_
        refine lv_imul hx hb dX9_reads_43 ?_
        refine lv_iload hx hb dX9_reads_44 (lv_at hl 7 rfl) ?_
        refine lv_iadd hx hb dX9_reads_46 ?_
        obtain ⟨x24, ex24, hf⟩ := bnd_e hf
        refine w_nm ex24 ?_
        obtain ⟨hi25, hf⟩ := ix_e hf
        refine va_bald hx hb hK hP 2 1 rfl rfl hi25 dX9_reads_47 ?_
        obtain ⟨x26, ex26, hf⟩ := bnd_e hf
        refine w_nm ex26 ?_
        refine lv_istore (lv' := [(8, .int x26), (0, .ref (a 0)), (1, .int x_1), (2, .int x_2), (3, .int x_3), (4, .int x_4), (5, .int x_5), (6, .int x_6), (7, .int x_7)]) hx hb dX9_reads_48 hl (by decide) rfl (fun ls hl => ?_)
        refine lv_iload hx hb dX9_reads_50 (lv_at hl 0 rfl) ?_
        refine lv_bipush (v := 68) hx hb dX9_reads_52 (by decide) ?_
        refine lv_icmp_eq (tgt := 64) hx hb dX9_reads_54 (by decide) (fun c27 => ?_) (fun c27 => ?_)
        · replace hf := if_t hf c27
          refine lv_aload_n hx hb dX9_reads_64 rfl (lv_at hl 1 rfl) ?_
          refine lv_aload_n hx hb dX9_reads_65 rfl (lv_at hl 1 rfl) ?_
          refine lv_aload_n hx hb dX9_reads_66 rfl (lv_at hl 1 rfl) ?_
          refine va_get (D := D) (ci := 7) (v := .int (st.1 17)) (C := RX9) (T := TX9) (N := 27) hx hb hts hiX9 hown hK hP 0 rfl rfl 17 (by decide) k122 (fun _ h9 => h9) rfl dX9_reads_67 ?_
          obtain ⟨o28, ho28, hf⟩ := ob_e hf
          refine w_callR (b := a 0) (As := [.int (st.1 17)]) (rest := [.ref (a 0)]) ⟨hx, hb, hml, hown, hts⟩ (c_X9_isDigit l D cI cB a tb st (st.1 17) o28 ho28) (cwV 1 hts gX9_reads_X9_isDigit rfl rfl rfl (by decide +kernel) ⟨Nat.le_of_ble_eq_true rfl, Nat.le_of_ble_eq_true rfl⟩) hP hK hD hZ hS (va_recv hK hP (ci := 7) (q0 := 0) rfl rfl) rfl hl.1 rfl (Nat.le_of_ble_eq_true rfl) ⟨Nat.zero_le _, Nat.zero_le _⟩ dX9_reads_70 ?_
          refine lv_if_eq (tgt := 93) hx hb dX9_reads_73 (by decide) (fun c29 => ?_) (fun c29 => ?_)
          · replace hf := if_t hf c29
            refine lv_iconst (v := 1) hx hb dX9_reads_93 (by decide) ?_
            obtain ⟨o30, ho30, hf⟩ := ob_e hf
            refine w_callW (b := a 0) (As := [.int 1]) (rest := []) ⟨hx, hb, hml, hown, hts⟩ (c_X9_digits l D cI cB a tb st 1 o30 ho30) (cwV 1 hts gX9_reads_X9_digits rfl rfl rfl (by decide +kernel) ⟨Nat.le_of_ble_eq_true rfl, Nat.le_of_ble_eq_true rfl⟩) hP hK hD hZ hS (va_recv hK hP (ci := 7) (q0 := 0) rfl rfl) rfl hl.1 rfl (Nat.le_of_ble_eq_true rfl) ⟨Nat.zero_le _, Nat.zero_le _⟩ dX9_reads_94 (fun H locs hP hS => ?_)
            refine lv_istore (lv' := [(9, .int o30.1), (8, .int x26), (0, .ref (a 0)), (1, .int x_1), (2, .int x_2), (3, .int x_3), (4, .int x_4), (5, .int x_5), (6, .int x_6), (7, .int x_7)]) hx hb dX9_reads_97 hl (by decide) rfl (fun ls hl => ?_)
            refine lv_iload hx hb dX9_reads_99 (lv_at hl 0 rfl) ?_
            refine lv_iconst (v := 1) hx hb dX9_reads_101 (by decide) ?_
            refine lv_icmp_ge (tgt := 107) hx hb dX9_reads_102 (by decide) (fun c31 => ?_) (fun c31 => ?_)
            · replace hf := if_t hf c31
              refine lv_iload hx hb dX9_reads_107 (lv_at hl 1 rfl) ?_
              refine lv_bipush (v := 68) hx hb dX9_reads_109 (by decide) ?_
              refine lv_icmp_ne (tgt := 120) hx hb dX9_reads_111 (by decide) (fun c32 => ?_) (fun c32 => ?_)
              · replace hf := if_f hf c32
                refine lv_iload hx hb dX9_reads_120 (lv_at hl 0 rfl) ?_
                refine lv_istore (lv' := [(4, .int o30.1), (9, .int o30.1), (8, .int x26), (0, .ref (a 0)), (1, .int x_1), (2, .int x_2), (3, .int x_3), (5, .int x_5), (6, .int x_6), (7, .int x_7)]) hx hb dX9_reads_122 hl (by decide) rfl (fun ls hl => ?_)
                refine lv_goto (tgt := 301) hx hb dX9_reads_124 (by decide) ?_
                obtain ⟨x33, ex33, hf⟩ := bnd_e hf
                refine lv_iinc (v := x33) (lv' := [(7, .int x33), (4, .int o30.1), (9, .int o30.1), (8, .int x26), (0, .ref (a 0)), (1, .int x_1), (2, .int x_2), (3, .int x_3), (5, .int x_5), (6, .int x_6)]) hx hb dX9_reads_301 hl (k := 9) rfl (by rw [ex33]; rfl) (by decide) rfl (fun ls hl => ?_)
                refine lv_goto (tgt := 25) hx hb dX9_reads_304 (by decide) ?_
                exact ih25 x_1 x_2 x_3 o30.1 x_5 x_6 x33 o30.2 _ _ _ hP hS (lv_sub hl [4, 5, 6, 7, 1, 8, 9, 0] rfl) hf
              · replace hf := if_t hf c32
                refine lv_iload hx hb dX9_reads_114 (lv_at hl 0 rfl) ?_
                refine lv_istore_n (lv' := [(3, .int o30.1), (9, .int o30.1), (8, .int x26), (0, .ref (a 0)), (1, .int x_1), (2, .int x_2), (4, .int x_4), (5, .int x_5), (6, .int x_6), (7, .int x_7)]) hx hb dX9_reads_116 rfl hl (by decide) rfl (fun ls hl => ?_)
                refine lv_goto (tgt := 124) hx hb dX9_reads_117 (by decide) ?_
                refine lv_goto (tgt := 301) hx hb dX9_reads_124 (by decide) ?_
                obtain ⟨x34, ex34, hf⟩ := bnd_e hf
                refine lv_iinc (v := x34) (lv' := [(7, .int x34), (3, .int o30.1), (9, .int o30.1), (8, .int x26), (0, .ref (a 0)), (1, .int x_1), (2, .int x_2), (4, .int x_4), (5, .int x_5), (6, .int x_6)]) hx hb dX9_reads_301 hl (k := 9) rfl (by rw [ex34]; rfl) (by decide) rfl (fun ls hl => ?_)
                refine lv_goto (tgt := 25) hx hb dX9_reads_304 (by decide) ?_
                exact ih25 x_1 x_2 o30.1 x_4 x_5 x_6 x34 o30.2 _ _ _ hP hS (lv_sub hl [4, 5, 6, 1, 7, 8, 9, 0] rfl) hf
            · replace hf := if_f hf c31
              refine lv_iconst (v := 0) hx hb dX9_reads_105 (by decide) ?_
              exact W.zret (v := 0) hx hb hr rfl (fun t ht _ => ⟨⟨0, o30.2, rfl, so_p hf, p_at ht hP⟩, hS.F ht⟩) hS.2.2 dX9_reads_106
          · replace hf := if_f hf c29
            refine lv_aload_n hx hb dX9_reads_76 rfl (lv_at hl 1 rfl) ?_
            refine lv_aload_n hx hb dX9_reads_77 rfl (lv_at hl 1 rfl) ?_
            refine va_get (D := D) (ci := 7) (v := .int (st.1 17)) (C := RX9) (T := TX9) (N := 27) hx hb hts hiX9 hown hK hP 0 rfl rfl 17 (by decide) k122 (fun _ h9 => h9) rfl dX9_reads_78 ?_
            refine lv_iconst (v := 1) hx hb dX9_reads_81 (by decide) ?_
            refine lv_iadd hx hb dX9_reads_82 ?_
            obtain ⟨o35, ho35, hf⟩ := ob_e hf
            refine w_callR (b := a 0) (As := [.int ((st.1 17) + 1)]) (rest := [.ref (a 0)]) ⟨hx, hb, hml, hown, hts⟩ (c_X9_isDigit l D cI cB a tb st ((st.1 17) + 1) o35 ho35) (cwV 1 hts gX9_reads_X9_isDigit rfl rfl rfl (by decide +kernel) ⟨Nat.le_of_ble_eq_true rfl, Nat.le_of_ble_eq_true rfl⟩) hP hK hD hZ hS (va_recv hK hP (ci := 7) (q0 := 0) rfl rfl) rfl hl.1 rfl (Nat.le_of_ble_eq_true rfl) ⟨Nat.zero_le _, Nat.zero_le _⟩ dX9_reads_83 ?_
            refine lv_if_eq (tgt := 93) hx hb dX9_reads_86 (by decide) (fun c36 => ?_) (fun c36 => ?_)
            · replace hf := if_t hf c36
              refine lv_iconst (v := 1) hx hb dX9_reads_93 (by decide) ?_
              obtain ⟨o37, ho37, hf⟩ := ob_e hf
              refine w_callW (b := a 0) (As := [.int 1]) (rest := []) ⟨hx, hb, hml, hown, hts⟩ (c_X9_digits l D cI cB a tb st 1 o37 ho37) (cwV 1 hts gX9_reads_X9_digits rfl rfl rfl (by decide +kernel) ⟨Nat.le_of_ble_eq_true rfl, Nat.le_of_ble_eq_true rfl⟩) hP hK hD hZ hS (va_recv hK hP (ci := 7) (q0 := 0) rfl rfl) rfl hl.1 rfl (Nat.le_of_ble_eq_true rfl) ⟨Nat.zero_le _, Nat.zero_le _⟩ dX9_reads_94 (fun H locs hP hS => ?_)
              refine lv_istore (lv' := [(9, .int o37.1), (8, .int x26), (0, .ref (a 0)), (1, .int x_1), (2, .int x_2), (3, .int x_3), (4, .int x_4), (5, .int x_5), (6, .int x_6), (7, .int x_7)]) hx hb dX9_reads_97 hl (by decide) rfl (fun ls hl => ?_)
              refine lv_iload hx hb dX9_reads_99 (lv_at hl 0 rfl) ?_
              refine lv_iconst (v := 1) hx hb dX9_reads_101 (by decide) ?_
              refine lv_icmp_ge (tgt := 107) hx hb dX9_reads_102 (by decide) (fun c38 => ?_) (fun c38 => ?_)
              · replace hf := if_t hf c38
                refine lv_iload hx hb dX9_reads_107 (lv_at hl 1 rfl) ?_
                refine lv_bipush (v := 68) hx hb dX9_reads_109 (by decide) ?_
                refine lv_icmp_ne (tgt := 120) hx hb dX9_reads_111 (by decide) (fun c39 => ?_) (fun c39 => ?_)
                · replace hf := if_f hf c39
                  refine lv_iload hx hb dX9_reads_120 (lv_at hl 0 rfl) ?_
                  refine lv_istore (lv' := [(4, .int o37.1), (9, .int o37.1), (8, .int x26), (0, .ref (a 0)), (1, .int x_1), (2, .int x_2), (3, .int x_3), (5, .int x_5), (6, .int x_6), (7, .int x_7)]) hx hb dX9_reads_122 hl (by decide) rfl (fun ls hl => ?_)
                  refine lv_goto (tgt := 301) hx hb dX9_reads_124 (by decide) ?_
                  obtain ⟨x40, ex40, hf⟩ := bnd_e hf
                  refine lv_iinc (v := x40) (lv' := [(7, .int x40), (4, .int o37.1), (9, .int o37.1), (8, .int x26), (0, .ref (a 0)), (1, .int x_1), (2, .int x_2), (3, .int x_3), (5, .int x_5), (6, .int x_6)]) hx hb dX9_reads_301 hl (k := 9) rfl (by rw [ex40]; rfl) (by decide) rfl (fun ls hl => ?_)
                  refine lv_goto (tgt := 25) hx hb dX9_reads_304 (by decide) ?_
                  exact ih25 x_1 x_2 x_3 o37.1 x_5 x_6 x40 o37.2 _ _ _ hP hS (lv_sub hl [4, 5, 6, 7, 1, 8, 9, 0] rfl) hf
                · replace hf := if_t hf c39
                  refine lv_iload hx hb dX9_reads_114 (lv_at hl 0 rfl) ?_
                  refine lv_istore_n (lv' := [(3, .int o37.1), (9, .int o37.1), (8, .int x26), (0, .ref (a 0)), (1, .int x_1), (2, .int x_2), (4, .int x_4), (5, .int x_5), (6, .int x_6), (7, .int x_7)]) hx hb dX9_reads_116 rfl hl (by decide) rfl (fun ls hl => ?_)
                  refine lv_goto (tgt := 124) hx hb dX9_reads_117 (by decide) ?_
                  refine lv_goto (tgt := 301) hx hb dX9_reads_124 (by decide) ?_
                  obtain ⟨x41, ex41, hf⟩ := bnd_e hf
                  refine lv_iinc (v := x41) (lv' := [(7, .int x41), (3, .int o37.1), (9, .int o37.1), (8, .int x26), (0, .ref (a 0)), (1, .int x_1), (2, .int x_2), (4, .int x_4), (5, .int x_5), (6, .int x_6)]) hx hb dX9_reads_301 hl (k := 9) rfl (by rw [ex41]; rfl) (by decide) rfl (fun ls hl => ?_)
                  refine lv_goto (tgt := 25) hx hb dX9_reads_304 (by decide) ?_
                  exact ih25 x_1 x_2 o37.1 x_4 x_5 x_6 x41 o37.2 _ _ _ hP hS (lv_sub hl [4, 5, 6, 1, 7, 8, 9, 0] rfl) hf
              · replace hf := if_f hf c38
                refine lv_iconst (v := 0) hx hb dX9_reads_105 (by decide) ?_
                exact W.zret (v := 0) hx hb hr rfl (fun t ht _ => ⟨⟨0, o37.2, rfl, so_p hf, p_at ht hP⟩, hS.F ht⟩) hS.2.2 dX9_reads_106
            · replace hf := if_f hf c36
              refine lv_iconst (v := 2) hx hb dX9_reads_89 (by decide) ?_
              refine lv_goto (tgt := 94) hx hb dX9_reads_90 (by decide) ?_
              obtain ⟨o42, ho42, hf⟩ := ob_e hf
              refine w_callW (b := a 0) (As := [.int 2]) (rest := []) ⟨hx, hb, hml, hown, hts⟩ (c_X9_digits l D cI cB a tb st 2 o42 ho42) (cwV 1 hts gX9_reads_X9_digits rfl rfl rfl (by decide +kernel) ⟨Nat.le_of_ble_eq_true rfl, Nat.le_of_ble_eq_true rfl⟩) hP hK hD hZ hS (va_recv hK hP (ci := 7) (q0 := 0) rfl rfl) rfl hl.1 rfl (Nat.le_of_ble_eq_true rfl) ⟨Nat.zero_le _, Nat.zero_le _⟩ dX9_reads_94 (fun H locs hP hS => ?_)
              refine lv_istore (lv' := [(9, .int o42.1), (8, .int x26), (0, .ref (a 0)), (1, .int x_1), (2, .int x_2), (3, .int x_3), (4, .int x_4), (5, .int x_5), (6, .int x_6), (7, .int x_7)]) hx hb dX9_reads_97 hl (by decide) rfl (fun ls hl => ?_)
              refine lv_iload hx hb dX9_reads_99 (lv_at hl 0 rfl) ?_
              refine lv_iconst (v := 1) hx hb dX9_reads_101 (by decide) ?_
              refine lv_icmp_ge (tgt := 107) hx hb dX9_reads_102 (by decide) (fun c43 => ?_) (fun c43 => ?_)
              · replace hf := if_t hf c43
                refine lv_iload hx hb dX9_reads_107 (lv_at hl 1 rfl) ?_
                refine lv_bipush (v := 68) hx hb dX9_reads_109 (by decide) ?_
                refine lv_icmp_ne (tgt := 120) hx hb dX9_reads_111 (by decide) (fun c44 => ?_) (fun c44 => ?_)
                · replace hf := if_f hf c44
                  refine lv_iload hx hb dX9_reads_120 (lv_at hl 0 rfl) ?_
                  refine lv_istore (lv' := [(4, .int o42.1), (9, .int o42.1), (8, .int x26), (0, .ref (a 0)), (1, .int x_1), (2, .int x_2), (3, .int x_3), (5, .int x_5), (6, .int x_6), (7, .int x_7)]) hx hb dX9_reads_122 hl (by decide) rfl (fun ls hl => ?_)
                  refine lv_goto (tgt := 301) hx hb dX9_reads_124 (by decide) ?_
                  obtain ⟨x45, ex45, hf⟩ := bnd_e hf
                  refine lv_iinc (v := x45) (lv' := [(7, .int x45), (4, .int o42.1), (9, .int o42.1), (8, .int x26), (0, .ref (a 0)), (1, .int x_1), (2, .int x_2), (3, .int x_3), (5, .int x_5), (6, .int x_6)]) hx hb dX9_reads_301 hl (k := 9) rfl (by rw [ex45]; rfl) (by decide) rfl (fun ls hl => ?_)
                  refine lv_goto (tgt := 25) hx hb dX9_reads_304 (by decide) ?_
                  exact ih25 x_1 x_2 x_3 o42.1 x_5 x_6 x45 o42.2 _ _ _ hP hS (lv_sub hl [4, 5, 6, 7, 1, 8, 9, 0] rfl) hf
                · replace hf := if_t hf c44
                  refine lv_iload hx hb dX9_reads_114 (lv_at hl 0 rfl) ?_
                  refine lv_istore_n (lv' := [(3, .int o42.1), (9, .int o42.1), (8, .int x26), (0, .ref (a 0)), (1, .int x_1), (2, .int x_2), (4, .int x_4), (5, .int x_5), (6, .int x_6), (7, .int x_7)]) hx hb dX9_reads_116 rfl hl (by decide) rfl (fun ls hl => ?_)
                  refine lv_goto (tgt := 124) hx hb dX9_reads_117 (by decide) ?_
                  refine lv_goto (tgt := 301) hx hb dX9_reads_124 (by decide) ?_
                  obtain ⟨x46, ex46, hf⟩ := bnd_e hf
                  refine lv_iinc (v := x46) (lv' := [(7, .int x46), (3, .int o42.1), (9, .int o42.1), (8, .int x26), (0, .ref (a 0)), (1, .int x_1), (2, .int x_2), (4, .int x_4), (5, .int x_5), (6, .int x_6)]) hx hb dX9_reads_301 hl (k := 9) rfl (by rw [ex46]; rfl) (by decide) rfl (fun ls hl => ?_)
                  refine lv_goto (tgt := 25) hx hb dX9_reads_304 (by decide) ?_
                  exact ih25 x_1 x_2 o42.1 x_4 x_5 x_6 x46 o42.2 _ _ _ hP hS (lv_sub hl [4, 5, 6, 1, 7, 8, 9, 0] rfl) hf
              · replace hf := if_f hf c43
                refine lv_iconst (v := 0) hx hb dX9_reads_105 (by decide) ?_
                exact W.zret (v := 0) hx hb hr rfl (fun t ht _ => ⟨⟨0, o42.2, rfl, so_p hf, p_at ht hP⟩, hS.F ht⟩) hS.2.2 dX9_reads_106
        · replace hf := if_f hf c27
          refine lv_iload hx hb dX9_reads_57 (lv_at hl 0 rfl) ?_
          refine lv_bipush (v := 77) hx hb dX9_reads_59 (by decide) ?_
          refine lv_icmp_ne (tgt := 127) hx hb dX9_reads_61 (by decide) (fun c47 => ?_) (fun c47 => ?_)
          · replace hf := if_f hf c47
            refine lv_iload hx hb dX9_reads_127 (lv_at hl 0 rfl) ?_
            refine lv_bipush (v := 89) hx hb dX9_reads_129 (by decide) ?_
            refine lv_icmp_eq (tgt := 141) hx hb dX9_reads_131 (by decide) (fun c48 => ?_) (fun c48 => ?_)
            · replace hf := if_t hf c48
              refine lv_aload_n hx hb dX9_reads_141 rfl (lv_at hl 1 rfl) ?_
              refine lv_iload hx hb dX9_reads_142 (lv_at hl 0 rfl) ?_
              refine lv_bipush (v := 89) hx hb dX9_reads_144 (by decide) ?_
              refine lv_icmp_ne (tgt := 153) hx hb dX9_reads_146 (by decide) (fun c49 => ?_) (fun c49 => ?_)
              · replace hf := if_f hf c49
                refine lv_iconst (v := 2) hx hb dX9_reads_153 (by decide) ?_
                obtain ⟨o50, ho50, hf⟩ := ob_e hf
                refine w_callW (b := a 0) (As := [.int 2]) (rest := []) ⟨hx, hb, hml, hown, hts⟩ (c_X9_digits l D cI cB a tb st 2 o50 ho50) (cwV 1 hts gX9_reads_X9_digits rfl rfl rfl (by decide +kernel) ⟨Nat.le_of_ble_eq_true rfl, Nat.le_of_ble_eq_true rfl⟩) hP hK hD hZ hS (va_recv hK hP (ci := 7) (q0 := 0) rfl rfl) rfl hl.1 rfl (Nat.le_of_ble_eq_true rfl) ⟨Nat.zero_le _, Nat.zero_le _⟩ dX9_reads_154 (fun H locs hP hS => ?_)
                refine lv_istore (lv' := [(5, .int o50.1), (8, .int x26), (0, .ref (a 0)), (1, .int x_1), (2, .int x_2), (3, .int x_3), (4, .int x_4), (6, .int x_6), (7, .int x_7)]) hx hb dX9_reads_157 hl (by decide) rfl (fun ls hl => ?_)
                refine lv_iload hx hb dX9_reads_159 (lv_at hl 0 rfl) ?_
                refine lv_iconst (v := -1) hx hb dX9_reads_161 (by decide) ?_
                refine lv_icmp_ne (tgt := 167) hx hb dX9_reads_162 (by decide) (fun c51 => ?_) (fun c51 => ?_)
                · replace hf := if_f hf c51
                  refine lv_iload hx hb dX9_reads_167 (lv_at hl 1 rfl) ?_
                  refine lv_bipush (v := 121) hx hb dX9_reads_169 (by decide) ?_
                  refine lv_icmp_ne (tgt := 301) hx hb dX9_reads_171 (by decide) (fun c52 => ?_) (fun c52 => ?_)
                  · replace hf := if_f hf c52
                    obtain ⟨x53, ex53, hf⟩ := bnd_e hf
                    refine lv_iinc (v := x53) (lv' := [(7, .int x53), (5, .int o50.1), (8, .int x26), (0, .ref (a 0)), (1, .int x_1), (2, .int x_2), (3, .int x_3), (4, .int x_4), (6, .int x_6)]) hx hb dX9_reads_301 hl (k := 8) rfl (by rw [ex53]; rfl) (by decide) rfl (fun ls hl => ?_)
                    refine lv_goto (tgt := 25) hx hb dX9_reads_304 (by decide) ?_
                    exact ih25 x_1 x_2 x_3 x_4 o50.1 x_6 x53 o50.2 _ _ _ hP hS (lv_sub hl [3, 4, 5, 6, 7, 1, 8, 0] rfl) hf
                  · replace hf := if_t hf c52
                    refine lv_aload_n hx hb dX9_reads_174 rfl (lv_at hl 2 rfl) ?_
                    refine va_get (D := D) (ci := 7) (v := .int (o50.2.1 11)) (C := RX9) (T := TX9) (N := 27) hx hb hts hiX9 hown hK hP 0 rfl rfl 11 (by decide) k32 (fun _ h9 => h9) rfl dX9_reads_175 ?_
                    refine lv_iload hx hb dX9_reads_178 (lv_at hl 0 rfl) ?_
                    refine lv_aload_n hx hb dX9_reads_180 rfl (lv_at hl 2 rfl) ?_
                    refine va_get (D := D) (ci := 7) (v := .int (o50.2.1 11)) (C := RX9) (T := TX9) (N := 27) hx hb hts hiX9 hown hK hP 0 rfl rfl 11 (by decide) k32 (fun _ h9 => h9) rfl dX9_reads_181 ?_
                    refine lv_isub hx hb dX9_reads_184 ?_
                    refine lv_bipush (v := 100) hx hb dX9_reads_185 (by decide) ?_
                    obtain ⟨o54, ho54, hf⟩ := ob_e hf
                    refine w_callT (As := [.int (o50.1 - (o50.2.1 11)), .int 100]) (rest := [.int (o50.2.1 11)]) ⟨hx, hb, hml, hown, hts⟩ (c_J9_floorMod_7cf53 l tb (o50.1 - (o50.2.1 11)) 100 o54 ho54) (va_cwS 2 hts gX9_reads_J9_floorMod_7cf53 rfl rfl rfl (by decide +kernel) ⟨Nat.le_of_ble_eq_true rfl, Nat.le_of_ble_eq_true rfl⟩) hZ hS rfl hl.1 rfl (Nat.le_of_ble_eq_true rfl) ⟨Nat.zero_le _, Nat.zero_le _⟩ dX9_reads_187 ?_
                    refine lv_iadd hx hb dX9_reads_190 ?_
                    obtain ⟨x55, ex55, hf⟩ := bnd_e hf
                    refine w_nm ex55 ?_
                    refine lv_istore (lv' := [(5, .int x55), (8, .int x26), (0, .ref (a 0)), (1, .int x_1), (2, .int x_2), (3, .int x_3), (4, .int x_4), (6, .int x_6), (7, .int x_7)]) hx hb dX9_reads_191 hl (by decide) rfl (fun ls hl => ?_)
                    refine lv_goto (tgt := 301) hx hb dX9_reads_193 (by decide) ?_
                    obtain ⟨x56, ex56, hf⟩ := bnd_e hf
                    refine lv_iinc (v := x56) (lv' := [(7, .int x56), (5, .int x55), (8, .int x26), (0, .ref (a 0)), (1, .int x_1), (2, .int x_2), (3, .int x_3), (4, .int x_4), (6, .int x_6)]) hx hb dX9_reads_301 hl (k := 8) rfl (by rw [ex56]; rfl) (by decide) rfl (fun ls hl => ?_)
                    refine lv_goto (tgt := 25) hx hb dX9_reads_304 (by decide) ?_
                    exact ih25 x_1 x_2 x_3 x_4 x55 x_6 x56 o50.2 _ _ _ hP hS (lv_sub hl [3, 4, 5, 6, 7, 1, 8, 0] rfl) hf
                · replace hf := if_t hf c51
                  refine lv_iconst (v := 0) hx hb dX9_reads_165 (by decide) ?_
                  exact W.zret (v := 0) hx hb hr rfl (fun t ht _ => ⟨⟨0, o50.2, rfl, so_p hf, p_at ht hP⟩, hS.F ht⟩) hS.2.2 dX9_reads_166
              · replace hf := if_t hf c49
                refine lv_iconst (v := 4) hx hb dX9_reads_149 (by decide) ?_
                refine lv_goto (tgt := 154) hx hb dX9_reads_150 (by decide) ?_
                obtain ⟨o57, ho57, hf⟩ := ob_e hf
                refine w_callW (b := a 0) (As := [.int 4]) (rest := []) ⟨hx, hb, hml, hown, hts⟩ (c_X9_digits l D cI cB a tb st 4 o57 ho57) (cwV 1 hts gX9_reads_X9_digits rfl rfl rfl (by decide +kernel) ⟨Nat.le_of_ble_eq_true rfl, Nat.le_of_ble_eq_true rfl⟩) hP hK hD hZ hS (va_recv hK hP (ci := 7) (q0 := 0) rfl rfl) rfl hl.1 rfl (Nat.le_of_ble_eq_true rfl) ⟨Nat.zero_le _, Nat.zero_le _⟩ dX9_reads_154 (fun H locs hP hS => ?_)
                refine lv_istore (lv' := [(5, .int o57.1), (8, .int x26), (0, .ref (a 0)), (1, .int x_1), (2, .int x_2), (3, .int x_3), (4, .int x_4), (6, .int x_6), (7, .int x_7)]) hx hb dX9_reads_157 hl (by decide) rfl (fun ls hl => ?_)
                refine lv_iload hx hb dX9_reads_159 (lv_at hl 0 rfl) ?_
                refine lv_iconst (v := -1) hx hb dX9_reads_161 (by decide) ?_
                refine lv_icmp_ne (tgt := 167) hx hb dX9_reads_162 (by decide) (fun c58 => ?_) (fun c58 => ?_)
                · replace hf := if_f hf c58
                  refine lv_iload hx hb dX9_reads_167 (lv_at hl 1 rfl) ?_
                  refine lv_bipush (v := 121) hx hb dX9_reads_169 (by decide) ?_
                  refine lv_icmp_ne (tgt := 301) hx hb dX9_reads_171 (by decide) (fun c59 => ?_) (fun c59 => ?_)
                  · replace hf := if_f hf c59
                    obtain ⟨x60, ex60, hf⟩ := bnd_e hf
                    refine lv_iinc (v := x60) (lv' := [(7, .int x60), (5, .int o57.1), (8, .int x26), (0, .ref (a 0)), (1, .int x_1), (2, .int x_2), (3, .int x_3), (4, .int x_4), (6, .int x_6)]) hx hb dX9_reads_301 hl (k := 8) rfl (by rw [ex60]; rfl) (by decide) rfl (fun ls hl => ?_)
                    refine lv_goto (tgt := 25) hx hb dX9_reads_304 (by decide) ?_
                    exact ih25 x_1 x_2 x_3 x_4 o57.1 x_6 x60 o57.2 _ _ _ hP hS (lv_sub hl [3, 4, 5, 6, 7, 1, 8, 0] rfl) hf
                  · replace hf := if_t hf c59
                    refine lv_aload_n hx hb dX9_reads_174 rfl (lv_at hl 2 rfl) ?_
                    refine va_get (D := D) (ci := 7) (v := .int (o57.2.1 11)) (C := RX9) (T := TX9) (N := 27) hx hb hts hiX9 hown hK hP 0 rfl rfl 11 (by decide) k32 (fun _ h9 => h9) rfl dX9_reads_175 ?_
                    refine lv_iload hx hb dX9_reads_178 (lv_at hl 0 rfl) ?_
                    refine lv_aload_n hx hb dX9_reads_180 rfl (lv_at hl 2 rfl) ?_
                    refine va_get (D := D) (ci := 7) (v := .int (o57.2.1 11)) (C := RX9) (T := TX9) (N := 27) hx hb hts hiX9 hown hK hP 0 rfl rfl 11 (by decide) k32 (fun _ h9 => h9) rfl dX9_reads_181 ?_
                    refine lv_isub hx hb dX9_reads_184 ?_
                    refine lv_bipush (v := 100) hx hb dX9_reads_185 (by decide) ?_
                    obtain ⟨o61, ho61, hf⟩ := ob_e hf
                    refine w_callT (As := [.int (o57.1 - (o57.2.1 11)), .int 100]) (rest := [.int (o57.2.1 11)]) ⟨hx, hb, hml, hown, hts⟩ (c_J9_floorMod_7cf53 l tb (o57.1 - (o57.2.1 11)) 100 o61 ho61) (va_cwS 2 hts gX9_reads_J9_floorMod_7cf53 rfl rfl rfl (by decide +kernel) ⟨Nat.le_of_ble_eq_true rfl, Nat.le_of_ble_eq_true rfl⟩) hZ hS rfl hl.1 rfl (Nat.le_of_ble_eq_true rfl) ⟨Nat.zero_le _, Nat.zero_le _⟩ dX9_reads_187 ?_
                    refine lv_iadd hx hb dX9_reads_190 ?_
                    obtain ⟨x62, ex62, hf⟩ := bnd_e hf
                    refine w_nm ex62 ?_
                    refine lv_istore (lv' := [(5, .int x62), (8, .int x26), (0, .ref (a 0)), (1, .int x_1), (2, .int x_2), (3, .int x_3), (4, .int x_4), (6, .int x_6), (7, .int x_7)]) hx hb dX9_reads_191 hl (by decide) rfl (fun ls hl => ?_)
                    refine lv_goto (tgt := 301) hx hb dX9_reads_193 (by decide) ?_
                    obtain ⟨x63, ex63, hf⟩ := bnd_e hf
                    refine lv_iinc (v := x63) (lv' := [(7, .int x63), (5, .int x62), (8, .int x26), (0, .ref (a 0)), (1, .int x_1), (2, .int x_2), (3, .int x_3), (4, .int x_4), (6, .int x_6)]) hx hb dX9_reads_301 hl (k := 8) rfl (by rw [ex63]; rfl) (by decide) rfl (fun ls hl => ?_)
                    refine lv_goto (tgt := 25) hx hb dX9_reads_304 (by decide) ?_
                    exact ih25 x_1 x_2 x_3 x_4 x62 x_6 x63 o57.2 _ _ _ hP hS (lv_sub hl [3, 4, 5, 6, 7, 1, 8, 0] rfl) hf
                · replace hf := if_t hf c58
                  refine lv_iconst (v := 0) hx hb dX9_reads_165 (by decide) ?_
                  exact W.zret (v := 0) hx hb hr rfl (fun t ht _ => ⟨⟨0, o57.2, rfl, so_p hf, p_at ht hP⟩, hS.F ht⟩) hS.2.2 dX9_reads_166
            · replace hf := if_f hf c48
              refine lv_iload hx hb dX9_reads_134 (lv_at hl 0 rfl) ?_
              refine lv_bipush (v := 121) hx hb dX9_reads_136 (by decide) ?_
              refine lv_icmp_ne (tgt := 196) hx hb dX9_reads_138 (by decide) (fun c64 => ?_) (fun c64 => ?_)
              · replace hf := if_f hf c64
                refine lv_iload hx hb dX9_reads_196 (lv_at hl 0 rfl) ?_
                refine lv_bipush (v := 78) hx hb dX9_reads_198 (by decide) ?_
                refine lv_icmp_ne (tgt := 220) hx hb dX9_reads_200 (by decide) (fun c65 => ?_) (fun c65 => ?_)
                · replace hf := if_f hf c65
                  refine lv_iload hx hb dX9_reads_220 (lv_at hl 0 rfl) ?_
                  refine lv_bipush (v := 87) hx hb dX9_reads_222 (by decide) ?_
                  refine lv_icmp_ne (tgt := 243) hx hb dX9_reads_224 (by decide) (fun c66 => ?_) (fun c66 => ?_)
                  · replace hf := if_f hf c66
                    refine lv_aload_n hx hb dX9_reads_243 rfl (lv_at hl 1 rfl) ?_
                    refine lv_aload_n hx hb dX9_reads_244 rfl (lv_at hl 1 rfl) ?_
                    refine va_get (D := D) (ci := 7) (v := .int (st.1 17)) (C := RX9) (T := TX9) (N := 27) hx hb hts hiX9 hown hK hP 0 rfl rfl 17 (by decide) k122 (fun _ h9 => h9) rfl dX9_reads_245 ?_
                    obtain ⟨o67, ho67, hf⟩ := ob_e hf
                    refine w_callR (b := a 0) (As := [.int (st.1 17)]) (rest := []) ⟨hx, hb, hml, hown, hts⟩ (c_X9_byteAt l D cI cB a tb st (st.1 17) o67 ho67) (cwV 1 hts gX9_reads_X9_byteAt rfl rfl rfl (by decide +kernel) ⟨Nat.le_of_ble_eq_true rfl, Nat.le_of_ble_eq_true rfl⟩) hP hK hD hZ hS (va_recv hK hP (ci := 7) (q0 := 0) rfl rfl) rfl hl.1 rfl (Nat.le_of_ble_eq_true rfl) ⟨Nat.zero_le _, Nat.zero_le _⟩ dX9_reads_248 ?_
                    refine lv_iload hx hb dX9_reads_251 (lv_at hl 0 rfl) ?_
                    refine lv_icmp_eq (tgt := 258) hx hb dX9_reads_253 (by decide) (fun c68 => ?_) (fun c68 => ?_)
                    · replace hf := if_t hf c68
                      refine lv_aload_n hx hb dX9_reads_258 rfl (lv_at hl 1 rfl) ?_
                      refine lv_dup hx hb dX9_reads_259 rfl ?_
                      refine va_get (D := D) (ci := 7) (v := .int (st.1 17)) (C := RX9) (T := TX9) (N := 27) hx hb hts hiX9 hown hK hP 0 rfl rfl 17 (by decide) k122 (fun _ h9 => h9) rfl dX9_reads_260 ?_
                      refine lv_iconst (v := 1) hx hb dX9_reads_263 (by decide) ?_
                      refine lv_iadd hx hb dX9_reads_264 ?_
                      obtain ⟨x69, ex69, hf⟩ := bnd_e hf
                      refine w_nm ex69 ?_
                      obtain ⟨s70, es70, hf⟩ := bnd_e hf
                      refine va_put (D := D) (ci := 7) (v := .int x69) (ty := .int) (C := RX9) (T := TX9) (N := 27) hx hb hts hiX9 tyX9 tyX9_ok nmX9 hown hK hP (hD st) hS 0 rfl rfl 17 (by decide) k122 (fun _ h9 => h9) rfl (by decide +kernel) rfl rfl (Nat.le_of_ble_eq_true rfl) dX9_reads_265 (fun H locs hP _ hS => ?_)
                      have hP : va_P D vwCl (mw cI cB a s70) H := by rw [es70]; exact hP
                      obtain ⟨o71, ho71, hf⟩ := ob_e hf
                      refine l268 1000 x_1 x_2 x_3 x_4 x_5 x_6 x_7 x26 s70 _ _ _ hP hS (lv_sub hl [1, 2, 3, 4, 5, 6, 7, 8, 0] rfl) _ ho71 ?_
                      intro H locs ls hP hS hl
                      have hl : lv_has ls 10 [(0, .ref (a 0)), (1, .int x_1), (2, .int x_2), (3, .int x_3), (4, .int x_4), (5, .int x_5), (6, .int x_6), (7, .int x_7)] := hl
                      obtain ⟨x72, ex72, hf⟩ := bnd_e hf
                      refine lv_iinc (v := x72) (lv' := [(7, .int x72), (0, .ref (a 0)), (1, .int x_1), (2, .int x_2), (3, .int x_3), (4, .int x_4), (5, .int x_5), (6, .int x_6)]) hx hb dX9_reads_301 hl (k := 7) rfl (by rw [ex72]; rfl) (by decide) rfl (fun ls hl => ?_)
                      refine lv_goto (tgt := 25) hx hb dX9_reads_304 (by decide) ?_
                      exact ih25 x_1 x_2 x_3 x_4 x_5 x_6 x72 o71 _ _ _ hP hS (lv_sub hl [1, 2, 3, 4, 5, 6, 7, 0] rfl) hf
                    · replace hf := if_f hf c68
                      refine lv_iconst (v := 0) hx hb dX9_reads_256 (by decide) ?_
                      exact W.zret (v := 0) hx hb hr rfl (fun t ht _ => ⟨⟨0, st, rfl, so_p hf, p_at ht hP⟩, hS.F ht⟩) hS.2.2 dX9_reads_257
                  · replace hf := if_t hf c66
                    refine lv_aload_n hx hb dX9_reads_227 rfl (lv_at hl 1 rfl) ?_
                    refine va_ldcS hx hb hown hZ.2.2.2.1.2 dX9_reads_228 ?_
                    obtain ⟨o73, ho73, hf⟩ := ob_e hf
                    refine w_callW (b := a 0) (As := [.ref (tb 4)]) (rest := []) ⟨hx, hb, hml, hown, hts⟩ (c_X9_word_4 l D cI cB a tb st o73 ho73) (cwV 1 hts gX9_reads_X9_word rfl rfl rfl (by decide +kernel) ⟨Nat.le_of_ble_eq_true rfl, Nat.le_of_ble_eq_true rfl⟩) hP hK hD hZ hS (va_recv hK hP (ci := 7) (q0 := 0) rfl rfl) rfl hl.1 rfl (Nat.le_of_ble_eq_true rfl) ⟨Nat.zero_le _, Nat.zero_le _⟩ dX9_reads_230 (fun H locs hP hS => ?_)
                    refine lv_istore (lv' := [(6, .int o73.1), (8, .int x26), (0, .ref (a 0)), (1, .int x_1), (2, .int x_2), (3, .int x_3), (4, .int x_4), (5, .int x_5), (7, .int x_7)]) hx hb dX9_reads_233 hl (by decide) rfl (fun ls hl => ?_)
                    refine lv_iload hx hb dX9_reads_235 (lv_at hl 0 rfl) ?_
                    refine lv_iconst (v := -1) hx hb dX9_reads_237 (by decide) ?_
                    refine lv_icmp_ne (tgt := 301) hx hb dX9_reads_238 (by decide) (fun c74 => ?_) (fun c74 => ?_)
                    · replace hf := if_f hf c74
                      obtain ⟨x75, ex75, hf⟩ := bnd_e hf
                      refine lv_iinc (v := x75) (lv' := [(7, .int x75), (6, .int o73.1), (8, .int x26), (0, .ref (a 0)), (1, .int x_1), (2, .int x_2), (3, .int x_3), (4, .int x_4), (5, .int x_5)]) hx hb dX9_reads_301 hl (k := 8) rfl (by rw [ex75]; rfl) (by decide) rfl (fun ls hl => ?_)
                      refine lv_goto (tgt := 25) hx hb dX9_reads_304 (by decide) ?_
                      exact ih25 x_1 x_2 x_3 x_4 x_5 o73.1 x75 o73.2 _ _ _ hP hS (lv_sub hl [3, 4, 5, 6, 7, 8, 1, 0] rfl) hf
                    · replace hf := if_t hf c74
                      refine lv_iconst (v := 0) hx hb dX9_reads_241 (by decide) ?_
                      exact W.zret (v := 0) hx hb hr rfl (fun t ht _ => ⟨⟨0, o73.2, rfl, so_p hf, p_at ht hP⟩, hS.F ht⟩) hS.2.2 dX9_reads_242
                · replace hf := if_t hf c65
                  refine lv_iconst (v := 1) hx hb dX9_reads_203 (by decide) ?_
                  refine lv_aload_n hx hb dX9_reads_204 rfl (lv_at hl 1 rfl) ?_
                  refine va_ldcS hx hb hown hZ.2.2.2.1.1 dX9_reads_205 ?_
                  obtain ⟨o76, ho76, hf⟩ := ob_e hf
                  refine w_callW (b := a 0) (As := [.ref (tb 3)]) (rest := [.int 1]) ⟨hx, hb, hml, hown, hts⟩ (c_X9_word_3 l D cI cB a tb st o76 ho76) (cwV 1 hts gX9_reads_X9_word rfl rfl rfl (by decide +kernel) ⟨Nat.le_of_ble_eq_true rfl, Nat.le_of_ble_eq_true rfl⟩) hP hK hD hZ hS (va_recv hK hP (ci := 7) (q0 := 0) rfl rfl) rfl hl.1 rfl (Nat.le_of_ble_eq_true rfl) ⟨Nat.zero_le _, Nat.zero_le _⟩ dX9_reads_207 (fun H locs hP hS => ?_)
                  refine lv_iadd hx hb dX9_reads_210 ?_
                  obtain ⟨x77, ex77, hf⟩ := bnd_e hf
                  refine w_nm ex77 ?_
                  refine lv_istore (lv' := [(4, .int x77), (8, .int x26), (0, .ref (a 0)), (1, .int x_1), (2, .int x_2), (3, .int x_3), (5, .int x_5), (6, .int x_6), (7, .int x_7)]) hx hb dX9_reads_211 hl (by decide) rfl (fun ls hl => ?_)
                  refine lv_iload hx hb dX9_reads_213 (lv_at hl 0 rfl) ?_
                  refine lv_if_ne (tgt := 301) hx hb dX9_reads_215 (by decide) (fun c78 => ?_) (fun c78 => ?_)
                  · replace hf := if_f hf c78
                    obtain ⟨x79, ex79, hf⟩ := bnd_e hf
                    refine lv_iinc (v := x79) (lv' := [(7, .int x79), (4, .int x77), (8, .int x26), (0, .ref (a 0)), (1, .int x_1), (2, .int x_2), (3, .int x_3), (5, .int x_5), (6, .int x_6)]) hx hb dX9_reads_301 hl (k := 8) rfl (by rw [ex79]; rfl) (by decide) rfl (fun ls hl => ?_)
                    refine lv_goto (tgt := 25) hx hb dX9_reads_304 (by decide) ?_
                    exact ih25 x_1 x_2 x_3 x77 x_5 x_6 x79 o76.2 _ _ _ hP hS (lv_sub hl [3, 4, 5, 6, 1, 7, 8, 0] rfl) hf
                  · replace hf := if_t hf c78
                    refine lv_iconst (v := 0) hx hb dX9_reads_218 (by decide) ?_
                    exact W.zret (v := 0) hx hb hr rfl (fun t ht _ => ⟨⟨0, o76.2, rfl, so_p hf, p_at ht hP⟩, hS.F ht⟩) hS.2.2 dX9_reads_219
              · replace hf := if_t hf c64
                refine lv_aload_n hx hb dX9_reads_141 rfl (lv_at hl 1 rfl) ?_
                refine lv_iload hx hb dX9_reads_142 (lv_at hl 0 rfl) ?_
                refine lv_bipush (v := 89) hx hb dX9_reads_144 (by decide) ?_
                refine lv_icmp_ne (tgt := 153) hx hb dX9_reads_146 (by decide) (fun c80 => ?_) (fun c80 => ?_)
                · replace hf := if_f hf c80
                  refine lv_iconst (v := 2) hx hb dX9_reads_153 (by decide) ?_
                  obtain ⟨o81, ho81, hf⟩ := ob_e hf
                  refine w_callW (b := a 0) (As := [.int 2]) (rest := []) ⟨hx, hb, hml, hown, hts⟩ (c_X9_digits l D cI cB a tb st 2 o81 ho81) (cwV 1 hts gX9_reads_X9_digits rfl rfl rfl (by decide +kernel) ⟨Nat.le_of_ble_eq_true rfl, Nat.le_of_ble_eq_true rfl⟩) hP hK hD hZ hS (va_recv hK hP (ci := 7) (q0 := 0) rfl rfl) rfl hl.1 rfl (Nat.le_of_ble_eq_true rfl) ⟨Nat.zero_le _, Nat.zero_le _⟩ dX9_reads_154 (fun H locs hP hS => ?_)
                  refine lv_istore (lv' := [(5, .int o81.1), (8, .int x26), (0, .ref (a 0)), (1, .int x_1), (2, .int x_2), (3, .int x_3), (4, .int x_4), (6, .int x_6), (7, .int x_7)]) hx hb dX9_reads_157 hl (by decide) rfl (fun ls hl => ?_)
                  refine lv_iload hx hb dX9_reads_159 (lv_at hl 0 rfl) ?_
                  refine lv_iconst (v := -1) hx hb dX9_reads_161 (by decide) ?_
                  refine lv_icmp_ne (tgt := 167) hx hb dX9_reads_162 (by decide) (fun c82 => ?_) (fun c82 => ?_)
                  · replace hf := if_f hf c82
                    refine lv_iload hx hb dX9_reads_167 (lv_at hl 1 rfl) ?_
                    refine lv_bipush (v := 121) hx hb dX9_reads_169 (by decide) ?_
                    refine lv_icmp_ne (tgt := 301) hx hb dX9_reads_171 (by decide) (fun c83 => ?_) (fun c83 => ?_)
                    · replace hf := if_f hf c83
                      obtain ⟨x84, ex84, hf⟩ := bnd_e hf
                      refine lv_iinc (v := x84) (lv' := [(7, .int x84), (5, .int o81.1), (8, .int x26), (0, .ref (a 0)), (1, .int x_1), (2, .int x_2), (3, .int x_3), (4, .int x_4), (6, .int x_6)]) hx hb dX9_reads_301 hl (k := 8) rfl (by rw [ex84]; rfl) (by decide) rfl (fun ls hl => ?_)
                      refine lv_goto (tgt := 25) hx hb dX9_reads_304 (by decide) ?_
                      exact ih25 x_1 x_2 x_3 x_4 o81.1 x_6 x84 o81.2 _ _ _ hP hS (lv_sub hl [3, 4, 5, 6, 7, 1, 8, 0] rfl) hf
                    · replace hf := if_t hf c83
                      refine lv_aload_n hx hb dX9_reads_174 rfl (lv_at hl 2 rfl) ?_
                      refine va_get (D := D) (ci := 7) (v := .int (o81.2.1 11)) (C := RX9) (T := TX9) (N := 27) hx hb hts hiX9 hown hK hP 0 rfl rfl 11 (by decide) k32 (fun _ h9 => h9) rfl dX9_reads_175 ?_
                      refine lv_iload hx hb dX9_reads_178 (lv_at hl 0 rfl) ?_
                      refine lv_aload_n hx hb dX9_reads_180 rfl (lv_at hl 2 rfl) ?_
                      refine va_get (D := D) (ci := 7) (v := .int (o81.2.1 11)) (C := RX9) (T := TX9) (N := 27) hx hb hts hiX9 hown hK hP 0 rfl rfl 11 (by decide) k32 (fun _ h9 => h9) rfl dX9_reads_181 ?_
                      refine lv_isub hx hb dX9_reads_184 ?_
                      refine lv_bipush (v := 100) hx hb dX9_reads_185 (by decide) ?_
                      obtain ⟨o85, ho85, hf⟩ := ob_e hf
                      refine w_callT (As := [.int (o81.1 - (o81.2.1 11)), .int 100]) (rest := [.int (o81.2.1 11)]) ⟨hx, hb, hml, hown, hts⟩ (c_J9_floorMod_7cf53 l tb (o81.1 - (o81.2.1 11)) 100 o85 ho85) (va_cwS 2 hts gX9_reads_J9_floorMod_7cf53 rfl rfl rfl (by decide +kernel) ⟨Nat.le_of_ble_eq_true rfl, Nat.le_of_ble_eq_true rfl⟩) hZ hS rfl hl.1 rfl (Nat.le_of_ble_eq_true rfl) ⟨Nat.zero_le _, Nat.zero_le _⟩ dX9_reads_187 ?_
                      refine lv_iadd hx hb dX9_reads_190 ?_
                      obtain ⟨x86, ex86, hf⟩ := bnd_e hf
                      refine w_nm ex86 ?_
                      refine lv_istore (lv' := [(5, .int x86), (8, .int x26), (0, .ref (a 0)), (1, .int x_1), (2, .int x_2), (3, .int x_3), (4, .int x_4), (6, .int x_6), (7, .int x_7)]) hx hb dX9_reads_191 hl (by decide) rfl (fun ls hl => ?_)
                      refine lv_goto (tgt := 301) hx hb dX9_reads_193 (by decide) ?_
                      obtain ⟨x87, ex87, hf⟩ := bnd_e hf
                      refine lv_iinc (v := x87) (lv' := [(7, .int x87), (5, .int x86), (8, .int x26), (0, .ref (a 0)), (1, .int x_1), (2, .int x_2), (3, .int x_3), (4, .int x_4), (6, .int x_6)]) hx hb dX9_reads_301 hl (k := 8) rfl (by rw [ex87]; rfl) (by decide) rfl (fun ls hl => ?_)
                      refine lv_goto (tgt := 25) hx hb dX9_reads_304 (by decide) ?_
                      exact ih25 x_1 x_2 x_3 x_4 x86 x_6 x87 o81.2 _ _ _ hP hS (lv_sub hl [3, 4, 5, 6, 7, 1, 8, 0] rfl) hf
                  · replace hf := if_t hf c82
                    refine lv_iconst (v := 0) hx hb dX9_reads_165 (by decide) ?_
                    exact W.zret (v := 0) hx hb hr rfl (fun t ht _ => ⟨⟨0, o81.2, rfl, so_p hf, p_at ht hP⟩, hS.F ht⟩) hS.2.2 dX9_reads_166
                · replace hf := if_t hf c80
                  refine lv_iconst (v := 4) hx hb dX9_reads_149 (by decide) ?_
                  refine lv_goto (tgt := 154) hx hb dX9_reads_150 (by decide) ?_
                  obtain ⟨o88, ho88, hf⟩ := ob_e hf
                  refine w_callW (b := a 0) (As := [.int 4]) (rest := []) ⟨hx, hb, hml, hown, hts⟩ (c_X9_digits l D cI cB a tb st 4 o88 ho88) (cwV 1 hts gX9_reads_X9_digits rfl rfl rfl (by decide +kernel) ⟨Nat.le_of_ble_eq_true rfl, Nat.le_of_ble_eq_true rfl⟩) hP hK hD hZ hS (va_recv hK hP (ci := 7) (q0 := 0) rfl rfl) rfl hl.1 rfl (Nat.le_of_ble_eq_true rfl) ⟨Nat.zero_le _, Nat.zero_le _⟩ dX9_reads_154 (fun H locs hP hS => ?_)
                  refine lv_istore (lv' := [(5, .int o88.1), (8, .int x26), (0, .ref (a 0)), (1, .int x_1), (2, .int x_2), (3, .int x_3), (4, .int x_4), (6, .int x_6), (7, .int x_7)]) hx hb dX9_reads_157 hl (by decide) rfl (fun ls hl => ?_)
                  refine lv_iload hx hb dX9_reads_159 (lv_at hl 0 rfl) ?_
                  refine lv_iconst (v := -1) hx hb dX9_reads_161 (by decide) ?_
                  refine lv_icmp_ne (tgt := 167) hx hb dX9_reads_162 (by decide) (fun c89 => ?_) (fun c89 => ?_)
                  · replace hf := if_f hf c89
                    refine lv_iload hx hb dX9_reads_167 (lv_at hl 1 rfl) ?_
                    refine lv_bipush (v := 121) hx hb dX9_reads_169 (by decide) ?_
                    refine lv_icmp_ne (tgt := 301) hx hb dX9_reads_171 (by decide) (fun c90 => ?_) (fun c90 => ?_)
                    · replace hf := if_f hf c90
                      obtain ⟨x91, ex91, hf⟩ := bnd_e hf
                      refine lv_iinc (v := x91) (lv' := [(7, .int x91), (5, .int o88.1), (8, .int x26), (0, .ref (a 0)), (1, .int x_1), (2, .int x_2), (3, .int x_3), (4, .int x_4), (6, .int x_6)]) hx hb dX9_reads_301 hl (k := 8) rfl (by rw [ex91]; rfl) (by decide) rfl (fun ls hl => ?_)
                      refine lv_goto (tgt := 25) hx hb dX9_reads_304 (by decide) ?_
                      exact ih25 x_1 x_2 x_3 x_4 o88.1 x_6 x91 o88.2 _ _ _ hP hS (lv_sub hl [3, 4, 5, 6, 7, 1, 8, 0] rfl) hf
                    · replace hf := if_t hf c90
                      refine lv_aload_n hx hb dX9_reads_174 rfl (lv_at hl 2 rfl) ?_
                      refine va_get (D := D) (ci := 7) (v := .int (o88.2.1 11)) (C := RX9) (T := TX9) (N := 27) hx hb hts hiX9 hown hK hP 0 rfl rfl 11 (by decide) k32 (fun _ h9 => h9) rfl dX9_reads_175 ?_
                      refine lv_iload hx hb dX9_reads_178 (lv_at hl 0 rfl) ?_
                      refine lv_aload_n hx hb dX9_reads_180 rfl (lv_at hl 2 rfl) ?_
                      refine va_get (D := D) (ci := 7) (v := .int (o88.2.1 11)) (C := RX9) (T := TX9) (N := 27) hx hb hts hiX9 hown hK hP 0 rfl rfl 11 (by decide) k32 (fun _ h9 => h9) rfl dX9_reads_181 ?_
                      refine lv_isub hx hb dX9_reads_184 ?_
                      refine lv_bipush (v := 100) hx hb dX9_reads_185 (by decide) ?_
                      obtain ⟨o92, ho92, hf⟩ := ob_e hf
                      refine w_callT (As := [.int (o88.1 - (o88.2.1 11)), .int 100]) (rest := [.int (o88.2.1 11)]) ⟨hx, hb, hml, hown, hts⟩ (c_J9_floorMod_7cf53 l tb (o88.1 - (o88.2.1 11)) 100 o92 ho92) (va_cwS 2 hts gX9_reads_J9_floorMod_7cf53 rfl rfl rfl (by decide +kernel) ⟨Nat.le_of_ble_eq_true rfl, Nat.le_of_ble_eq_true rfl⟩) hZ hS rfl hl.1 rfl (Nat.le_of_ble_eq_true rfl) ⟨Nat.zero_le _, Nat.zero_le _⟩ dX9_reads_187 ?_
                      refine lv_iadd hx hb dX9_reads_190 ?_
                      obtain ⟨x93, ex93, hf⟩ := bnd_e hf
                      refine w_nm ex93 ?_
                      refine lv_istore (lv' := [(5, .int x93), (8, .int x26), (0, .ref (a 0)), (1, .int x_1), (2, .int x_2), (3, .int x_3), (4, .int x_4), (6, .int x_6), (7, .int x_7)]) hx hb dX9_reads_191 hl (by decide) rfl (fun ls hl => ?_)
                      refine lv_goto (tgt := 301) hx hb dX9_reads_193 (by decide) ?_
                      obtain ⟨x94, ex94, hf⟩ := bnd_e hf
                      refine lv_iinc (v := x94) (lv' := [(7, .int x94), (5, .int x93), (8, .int x26), (0, .ref (a 0)), (1, .int x_1), (2, .int x_2), (3, .int x_3), (4, .int x_4), (6, .int x_6)]) hx hb dX9_reads_301 hl (k := 8) rfl (by rw [ex94]; rfl) (by decide) rfl (fun ls hl => ?_)
                      refine lv_goto (tgt := 25) hx hb dX9_reads_304 (by decide) ?_
                      exact ih25 x_1 x_2 x_3 x_4 x93 x_6 x94 o88.2 _ _ _ hP hS (lv_sub hl [3, 4, 5, 6, 7, 1, 8, 0] rfl) hf
                  · replace hf := if_t hf c89
                    refine lv_iconst (v := 0) hx hb dX9_reads_165 (by decide) ?_
                    exact W.zret (v := 0) hx hb hr rfl (fun t ht _ => ⟨⟨0, o88.2, rfl, so_p hf, p_at ht hP⟩, hS.F ht⟩) hS.2.2 dX9_reads_166
          · replace hf := if_t hf c47
            refine lv_aload_n hx hb dX9_reads_64 rfl (lv_at hl 1 rfl) ?_
            refine lv_aload_n hx hb dX9_reads_65 rfl (lv_at hl 1 rfl) ?_
            refine lv_aload_n hx hb dX9_reads_66 rfl (lv_at hl 1 rfl) ?_
            refine va_get (D := D) (ci := 7) (v := .int (st.1 17)) (C := RX9) (T := TX9) (N := 27) hx hb hts hiX9 hown hK hP 0 rfl rfl 17 (by decide) k122 (fun _ h9 => h9) rfl dX9_reads_67 ?_
            obtain ⟨o95, ho95, hf⟩ := ob_e hf
            refine w_callR (b := a 0) (As := [.int (st.1 17)]) (rest := [.ref (a 0)]) ⟨hx, hb, hml, hown, hts⟩ (c_X9_isDigit l D cI cB a tb st (st.1 17) o95 ho95) (cwV 1 hts gX9_reads_X9_isDigit rfl rfl rfl (by decide +kernel) ⟨Nat.le_of_ble_eq_true rfl, Nat.le_of_ble_eq_true rfl⟩) hP hK hD hZ hS (va_recv hK hP (ci := 7) (q0 := 0) rfl rfl) rfl hl.1 rfl (Nat.le_of_ble_eq_true rfl) ⟨Nat.zero_le _, Nat.zero_le _⟩ dX9_reads_70 ?_
            refine lv_if_eq (tgt := 93) hx hb dX9_reads_73 (by decide) (fun c96 => ?_) (fun c96 => ?_)
            · replace hf := if_t hf c96
              refine lv_iconst (v := 1) hx hb dX9_reads_93 (by decide) ?_
              obtain ⟨o97, ho97, hf⟩ := ob_e hf
              refine w_callW (b := a 0) (As := [.int 1]) (rest := []) ⟨hx, hb, hml, hown, hts⟩ (c_X9_digits l D cI cB a tb st 1 o97 ho97) (cwV 1 hts gX9_reads_X9_digits rfl rfl rfl (by decide +kernel) ⟨Nat.le_of_ble_eq_true rfl, Nat.le_of_ble_eq_true rfl⟩) hP hK hD hZ hS (va_recv hK hP (ci := 7) (q0 := 0) rfl rfl) rfl hl.1 rfl (Nat.le_of_ble_eq_true rfl) ⟨Nat.zero_le _, Nat.zero_le _⟩ dX9_reads_94 (fun H locs hP hS => ?_)
              refine lv_istore (lv' := [(9, .int o97.1), (8, .int x26), (0, .ref (a 0)), (1, .int x_1), (2, .int x_2), (3, .int x_3), (4, .int x_4), (5, .int x_5), (6, .int x_6), (7, .int x_7)]) hx hb dX9_reads_97 hl (by decide) rfl (fun ls hl => ?_)
              refine lv_iload hx hb dX9_reads_99 (lv_at hl 0 rfl) ?_
              refine lv_iconst (v := 1) hx hb dX9_reads_101 (by decide) ?_
              refine lv_icmp_ge (tgt := 107) hx hb dX9_reads_102 (by decide) (fun c98 => ?_) (fun c98 => ?_)
              · replace hf := if_t hf c98
                refine lv_iload hx hb dX9_reads_107 (lv_at hl 1 rfl) ?_
                refine lv_bipush (v := 68) hx hb dX9_reads_109 (by decide) ?_
                refine lv_icmp_ne (tgt := 120) hx hb dX9_reads_111 (by decide) (fun c99 => ?_) (fun c99 => ?_)
                · replace hf := if_f hf c99
                  refine lv_iload hx hb dX9_reads_120 (lv_at hl 0 rfl) ?_
                  refine lv_istore (lv' := [(4, .int o97.1), (9, .int o97.1), (8, .int x26), (0, .ref (a 0)), (1, .int x_1), (2, .int x_2), (3, .int x_3), (5, .int x_5), (6, .int x_6), (7, .int x_7)]) hx hb dX9_reads_122 hl (by decide) rfl (fun ls hl => ?_)
                  refine lv_goto (tgt := 301) hx hb dX9_reads_124 (by decide) ?_
                  obtain ⟨x100, ex100, hf⟩ := bnd_e hf
                  refine lv_iinc (v := x100) (lv' := [(7, .int x100), (4, .int o97.1), (9, .int o97.1), (8, .int x26), (0, .ref (a 0)), (1, .int x_1), (2, .int x_2), (3, .int x_3), (5, .int x_5), (6, .int x_6)]) hx hb dX9_reads_301 hl (k := 9) rfl (by rw [ex100]; rfl) (by decide) rfl (fun ls hl => ?_)
                  refine lv_goto (tgt := 25) hx hb dX9_reads_304 (by decide) ?_
                  exact ih25 x_1 x_2 x_3 o97.1 x_5 x_6 x100 o97.2 _ _ _ hP hS (lv_sub hl [4, 5, 6, 7, 1, 8, 9, 0] rfl) hf
                · replace hf := if_t hf c99
                  refine lv_iload hx hb dX9_reads_114 (lv_at hl 0 rfl) ?_
                  refine lv_istore_n (lv' := [(3, .int o97.1), (9, .int o97.1), (8, .int x26), (0, .ref (a 0)), (1, .int x_1), (2, .int x_2), (4, .int x_4), (5, .int x_5), (6, .int x_6), (7, .int x_7)]) hx hb dX9_reads_116 rfl hl (by decide) rfl (fun ls hl => ?_)
                  refine lv_goto (tgt := 124) hx hb dX9_reads_117 (by decide) ?_
                  refine lv_goto (tgt := 301) hx hb dX9_reads_124 (by decide) ?_
                  obtain ⟨x101, ex101, hf⟩ := bnd_e hf
                  refine lv_iinc (v := x101) (lv' := [(7, .int x101), (3, .int o97.1), (9, .int o97.1), (8, .int x26), (0, .ref (a 0)), (1, .int x_1), (2, .int x_2), (4, .int x_4), (5, .int x_5), (6, .int x_6)]) hx hb dX9_reads_301 hl (k := 9) rfl (by rw [ex101]; rfl) (by decide) rfl (fun ls hl => ?_)
                  refine lv_goto (tgt := 25) hx hb dX9_reads_304 (by decide) ?_
                  exact ih25 x_1 x_2 o97.1 x_4 x_5 x_6 x101 o97.2 _ _ _ hP hS (lv_sub hl [4, 5, 6, 1, 7, 8, 9, 0] rfl) hf
              · replace hf := if_f hf c98
                refine lv_iconst (v := 0) hx hb dX9_reads_105 (by decide) ?_
                exact W.zret (v := 0) hx hb hr rfl (fun t ht _ => ⟨⟨0, o97.2, rfl, so_p hf, p_at ht hP⟩, hS.F ht⟩) hS.2.2 dX9_reads_106
            · replace hf := if_f hf c96
              refine lv_aload_n hx hb dX9_reads_76 rfl (lv_at hl 1 rfl) ?_
              refine lv_aload_n hx hb dX9_reads_77 rfl (lv_at hl 1 rfl) ?_
              refine va_get (D := D) (ci := 7) (v := .int (st.1 17)) (C := RX9) (T := TX9) (N := 27) hx hb hts hiX9 hown hK hP 0 rfl rfl 17 (by decide) k122 (fun _ h9 => h9) rfl dX9_reads_78 ?_
              refine lv_iconst (v := 1) hx hb dX9_reads_81 (by decide) ?_
              refine lv_iadd hx hb dX9_reads_82 ?_
              obtain ⟨o102, ho102, hf⟩ := ob_e hf
              refine w_callR (b := a 0) (As := [.int ((st.1 17) + 1)]) (rest := [.ref (a 0)]) ⟨hx, hb, hml, hown, hts⟩ (c_X9_isDigit l D cI cB a tb st ((st.1 17) + 1) o102 ho102) (cwV 1 hts gX9_reads_X9_isDigit rfl rfl rfl (by decide +kernel) ⟨Nat.le_of_ble_eq_true rfl, Nat.le_of_ble_eq_true rfl⟩) hP hK hD hZ hS (va_recv hK hP (ci := 7) (q0 := 0) rfl rfl) rfl hl.1 rfl (Nat.le_of_ble_eq_true rfl) ⟨Nat.zero_le _, Nat.zero_le _⟩ dX9_reads_83 ?_
              refine lv_if_eq (tgt := 93) hx hb dX9_reads_86 (by decide) (fun c103 => ?_) (fun c103 => ?_)
              · replace hf := if_t hf c103
                refine lv_iconst (v := 1) hx hb dX9_reads_93 (by decide) ?_
                obtain ⟨o104, ho104, hf⟩ := ob_e hf
                refine w_callW (b := a 0) (As := [.int 1]) (rest := []) ⟨hx, hb, hml, hown, hts⟩ (c_X9_digits l D cI cB a tb st 1 o104 ho104) (cwV 1 hts gX9_reads_X9_digits rfl rfl rfl (by decide +kernel) ⟨Nat.le_of_ble_eq_true rfl, Nat.le_of_ble_eq_true rfl⟩) hP hK hD hZ hS (va_recv hK hP (ci := 7) (q0 := 0) rfl rfl) rfl hl.1 rfl (Nat.le_of_ble_eq_true rfl) ⟨Nat.zero_le _, Nat.zero_le _⟩ dX9_reads_94 (fun H locs hP hS => ?_)
                refine lv_istore (lv' := [(9, .int o104.1), (8, .int x26), (0, .ref (a 0)), (1, .int x_1), (2, .int x_2), (3, .int x_3), (4, .int x_4), (5, .int x_5), (6, .int x_6), (7, .int x_7)]) hx hb dX9_reads_97 hl (by decide) rfl (fun ls hl => ?_)
                refine lv_iload hx hb dX9_reads_99 (lv_at hl 0 rfl) ?_
                refine lv_iconst (v := 1) hx hb dX9_reads_101 (by decide) ?_
                refine lv_icmp_ge (tgt := 107) hx hb dX9_reads_102 (by decide) (fun c105 => ?_) (fun c105 => ?_)
                · replace hf := if_t hf c105
                  refine lv_iload hx hb dX9_reads_107 (lv_at hl 1 rfl) ?_
                  refine lv_bipush (v := 68) hx hb dX9_reads_109 (by decide) ?_
                  refine lv_icmp_ne (tgt := 120) hx hb dX9_reads_111 (by decide) (fun c106 => ?_) (fun c106 => ?_)
                  · replace hf := if_f hf c106
                    refine lv_iload hx hb dX9_reads_120 (lv_at hl 0 rfl) ?_
                    refine lv_istore (lv' := [(4, .int o104.1), (9, .int o104.1), (8, .int x26), (0, .ref (a 0)), (1, .int x_1), (2, .int x_2), (3, .int x_3), (5, .int x_5), (6, .int x_6), (7, .int x_7)]) hx hb dX9_reads_122 hl (by decide) rfl (fun ls hl => ?_)
                    refine lv_goto (tgt := 301) hx hb dX9_reads_124 (by decide) ?_
                    obtain ⟨x107, ex107, hf⟩ := bnd_e hf
                    refine lv_iinc (v := x107) (lv' := [(7, .int x107), (4, .int o104.1), (9, .int o104.1), (8, .int x26), (0, .ref (a 0)), (1, .int x_1), (2, .int x_2), (3, .int x_3), (5, .int x_5), (6, .int x_6)]) hx hb dX9_reads_301 hl (k := 9) rfl (by rw [ex107]; rfl) (by decide) rfl (fun ls hl => ?_)
                    refine lv_goto (tgt := 25) hx hb dX9_reads_304 (by decide) ?_
                    exact ih25 x_1 x_2 x_3 o104.1 x_5 x_6 x107 o104.2 _ _ _ hP hS (lv_sub hl [4, 5, 6, 7, 1, 8, 9, 0] rfl) hf
                  · replace hf := if_t hf c106
                    refine lv_iload hx hb dX9_reads_114 (lv_at hl 0 rfl) ?_
                    refine lv_istore_n (lv' := [(3, .int o104.1), (9, .int o104.1), (8, .int x26), (0, .ref (a 0)), (1, .int x_1), (2, .int x_2), (4, .int x_4), (5, .int x_5), (6, .int x_6), (7, .int x_7)]) hx hb dX9_reads_116 rfl hl (by decide) rfl (fun ls hl => ?_)
                    refine lv_goto (tgt := 124) hx hb dX9_reads_117 (by decide) ?_
                    refine lv_goto (tgt := 301) hx hb dX9_reads_124 (by decide) ?_
                    obtain ⟨x108, ex108, hf⟩ := bnd_e hf
                    refine lv_iinc (v := x108) (lv' := [(7, .int x108), (3, .int o104.1), (9, .int o104.1), (8, .int x26), (0, .ref (a 0)), (1, .int x_1), (2, .int x_2), (4, .int x_4), (5, .int x_5), (6, .int x_6)]) hx hb dX9_reads_301 hl (k := 9) rfl (by rw [ex108]; rfl) (by decide) rfl (fun ls hl => ?_)
                    refine lv_goto (tgt := 25) hx hb dX9_reads_304 (by decide) ?_
                    exact ih25 x_1 x_2 o104.1 x_4 x_5 x_6 x108 o104.2 _ _ _ hP hS (lv_sub hl [4, 5, 6, 1, 7, 8, 9, 0] rfl) hf
                · replace hf := if_f hf c105
                  refine lv_iconst (v := 0) hx hb dX9_reads_105 (by decide) ?_
                  exact W.zret (v := 0) hx hb hr rfl (fun t ht _ => ⟨⟨0, o104.2, rfl, so_p hf, p_at ht hP⟩, hS.F ht⟩) hS.2.2 dX9_reads_106
              · replace hf := if_f hf c103
                refine lv_iconst (v := 2) hx hb dX9_reads_89 (by decide) ?_
                refine lv_goto (tgt := 94) hx hb dX9_reads_90 (by decide) ?_
                obtain ⟨o109, ho109, hf⟩ := ob_e hf
                refine w_callW (b := a 0) (As := [.int 2]) (rest := []) ⟨hx, hb, hml, hown, hts⟩ (c_X9_digits l D cI cB a tb st 2 o109 ho109) (cwV 1 hts gX9_reads_X9_digits rfl rfl rfl (by decide +kernel) ⟨Nat.le_of_ble_eq_true rfl, Nat.le_of_ble_eq_true rfl⟩) hP hK hD hZ hS (va_recv hK hP (ci := 7) (q0 := 0) rfl rfl) rfl hl.1 rfl (Nat.le_of_ble_eq_true rfl) ⟨Nat.zero_le _, Nat.zero_le _⟩ dX9_reads_94 (fun H locs hP hS => ?_)
                refine lv_istore (lv' := [(9, .int o109.1), (8, .int x26), (0, .ref (a 0)), (1, .int x_1), (2, .int x_2), (3, .int x_3), (4, .int x_4), (5, .int x_5), (6, .int x_6), (7, .int x_7)]) hx hb dX9_reads_97 hl (by decide) rfl (fun ls hl => ?_)
                refine lv_iload hx hb dX9_reads_99 (lv_at hl 0 rfl) ?_
                refine lv_iconst (v := 1) hx hb dX9_reads_101 (by decide) ?_
                refine lv_icmp_ge (tgt := 107) hx hb dX9_reads_102 (by decide) (fun c110 => ?_) (fun c110 => ?_)
                · replace hf := if_t hf c110
                  refine lv_iload hx hb dX9_reads_107 (lv_at hl 1 rfl) ?_
                  refine lv_bipush (v := 68) hx hb dX9_reads_109 (by decide) ?_
                  refine lv_icmp_ne (tgt := 120) hx hb dX9_reads_111 (by decide) (fun c111 => ?_) (fun c111 => ?_)
                  · replace hf := if_f hf c111
                    refine lv_iload hx hb dX9_reads_120 (lv_at hl 0 rfl) ?_
                    refine lv_istore (lv' := [(4, .int o109.1), (9, .int o109.1), (8, .int x26), (0, .ref (a 0)), (1, .int x_1), (2, .int x_2), (3, .int x_3), (5, .int x_5), (6, .int x_6), (7, .int x_7)]) hx hb dX9_reads_122 hl (by decide) rfl (fun ls hl => ?_)
                    refine lv_goto (tgt := 301) hx hb dX9_reads_124 (by decide) ?_
                    obtain ⟨x112, ex112, hf⟩ := bnd_e hf
                    refine lv_iinc (v := x112) (lv' := [(7, .int x112), (4, .int o109.1), (9, .int o109.1), (8, .int x26), (0, .ref (a 0)), (1, .int x_1), (2, .int x_2), (3, .int x_3), (5, .int x_5), (6, .int x_6)]) hx hb dX9_reads_301 hl (k := 9) rfl (by rw [ex112]; rfl) (by decide) rfl (fun ls hl => ?_)
                    refine lv_goto (tgt := 25) hx hb dX9_reads_304 (by decide) ?_
                    exact ih25 x_1 x_2 x_3 o109.1 x_5 x_6 x112 o109.2 _ _ _ hP hS (lv_sub hl [4, 5, 6, 7, 1, 8, 9, 0] rfl) hf
                  · replace hf := if_t hf c111
                    refine lv_iload hx hb dX9_reads_114 (lv_at hl 0 rfl) ?_
                    refine lv_istore_n (lv' := [(3, .int o109.1), (9, .int o109.1), (8, .int x26), (0, .ref (a 0)), (1, .int x_1), (2, .int x_2), (4, .int x_4), (5, .int x_5), (6, .int x_6), (7, .int x_7)]) hx hb dX9_reads_116 rfl hl (by decide) rfl (fun ls hl => ?_)
                    refine lv_goto (tgt := 124) hx hb dX9_reads_117 (by decide) ?_
                    refine lv_goto (tgt := 301) hx hb dX9_reads_124 (by decide) ?_
                    obtain ⟨x113, ex113, hf⟩ := bnd_e hf
                    refine lv_iinc (v := x113) (lv' := [(7, .int x113), (3, .int o109.1), (9, .int o109.1), (8, .int x26), (0, .ref (a 0)), (1, .int x_1), (2, .int x_2), (4, .int x_4), (5, .int x_5), (6, .int x_6)]) hx hb dX9_reads_301 hl (k := 9) rfl (by rw [ex113]; rfl) (by decide) rfl (fun ls hl => ?_)
                    refine lv_goto (tgt := 25) hx hb dX9_reads_304 (by decide) ?_
                    exact ih25 x_1 x_2 o109.1 x_4 x_5 x_6 x113 o109.2 _ _ _ hP hS (lv_sub hl [4, 5, 6, 1, 7, 8, 9, 0] rfl) hf
                · replace hf := if_f hf c110
                  refine lv_iconst (v := 0) hx hb dX9_reads_105 (by decide) ?_
                  exact W.zret (v := 0) hx hb hr rfl (fun t ht _ => ⟨⟨0, o109.2, rfl, so_p hf, p_at ht hP⟩, hS.F ht⟩) hS.2.2 dX9_reads_106
  unfold fX9_reads at hf
  refine lv_aload_n hx hb dX9_reads_0 rfl (lv_at hl 0 rfl) ?_
  refine lv_iload_n hx hb dX9_reads_1 rfl (lv_at hl 1 rfl) ?_
  obtain ⟨s114, es114, hf⟩ := bnd_e hf
  refine va_put (D := D) (ci := 7) (v := .int p1) (ty := .int) (C := RX9) (T := TX9) (N := 27) hx hb hts hiX9 tyX9 tyX9_ok nmX9 hown hK hP (hD st) hS 0 rfl rfl 18 (by decide) k116 (fun _ h9 => h9) rfl (by decide +kernel) rfl rfl (Nat.le_of_ble_eq_true rfl) dX9_reads_2 (fun H locs hP _ hS => ?_)
  have hP : va_P D vwCl (mw cI cB a s114) H := by rw [es114]; exact hP
  refine lv_aload_n hx hb dX9_reads_5 rfl (lv_at hl 0 rfl) ?_
  refine lv_iconst (v := 0) hx hb dX9_reads_6 (by decide) ?_
  obtain ⟨s115, es115, hf⟩ := bnd_e hf
  refine va_put (D := D) (ci := 7) (v := .int 0) (ty := .int) (C := RX9) (T := TX9) (N := 27) hx hb hts hiX9 tyX9 tyX9_ok nmX9 hown hK hP (hD s114) hS 0 rfl rfl 17 (by decide) k122 (fun _ h9 => h9) rfl (by decide +kernel) rfl rfl (Nat.le_of_ble_eq_true rfl) dX9_reads_7 (fun H locs hP _ hS => ?_)
  have hP : va_P D vwCl (mw cI cB a s115) H := by rw [es115]; exact hP
  refine lv_iconst (v := 0) hx hb dX9_reads_10 (by decide) ?_
  refine lv_istore_n (lv' := [(3, .int 0), (0, .ref (a 0)), (1, .int p1), (2, .int p2)]) hx hb dX9_reads_11 rfl hl (by decide) rfl (fun ls hl => ?_)
  refine lv_iconst (v := 0) hx hb dX9_reads_12 (by decide) ?_
  refine lv_istore (lv' := [(4, .int 0), (3, .int 0), (0, .ref (a 0)), (1, .int p1), (2, .int p2)]) hx hb dX9_reads_13 hl (by decide) rfl (fun ls hl => ?_)
  refine lv_iconst (v := 0) hx hb dX9_reads_15 (by decide) ?_
  refine lv_istore (lv' := [(5, .int 0), (4, .int 0), (3, .int 0), (0, .ref (a 0)), (1, .int p1), (2, .int p2)]) hx hb dX9_reads_16 hl (by decide) rfl (fun ls hl => ?_)
  refine lv_bipush (v := 7) hx hb dX9_reads_18 (by decide) ?_
  refine lv_istore (lv' := [(6, .int 7), (5, .int 0), (4, .int 0), (3, .int 0), (0, .ref (a 0)), (1, .int p1), (2, .int p2)]) hx hb dX9_reads_20 hl (by decide) rfl (fun ls hl => ?_)
  refine lv_iconst (v := 0) hx hb dX9_reads_22 (by decide) ?_
  refine lv_istore (lv' := [(7, .int 0), (6, .int 7), (5, .int 0), (4, .int 0), (3, .int 0), (0, .ref (a 0)), (1, .int p1), (2, .int p2)]) hx hb dX9_reads_23 hl (by decide) rfl (fun ls hl => ?_)
  exact l25 1000 p1 p2 0 0 0 7 0 s115 _ _ _ hP hS (lv_sub hl [5, 6, 7, 4, 3, 2, 1, 0] rfl) hf
