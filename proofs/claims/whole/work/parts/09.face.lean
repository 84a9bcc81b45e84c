set_option maxHeartbeats 4000000 in
set_option maxRecDepth 100000 in
theorem c_X8_isReadByBest (l : Launch) (D : va_G) (cI : ClassId) (a tb : Nat → Nat) (st : ST) (p1 : Int32) (r : Int32) (hf : fX8_isReadByBest st p1 = some r) : MetR l yX8_isReadByBest wsX8_isReadByBest ({ frames := 2, cells := 0, slots := 0, locals := 46 }) [.ref (a 0), .int p1] D [(cI, .int)] (cw cI a) (cA a) tb st r := by
  refine met_of (cc := cX8_isReadByBest) (maxL := 2) (ret := (some .boolean)) (by decide) rfl (Nat.le_of_ble_eq_true rfl) ?_
  intro p e s m below meth c hx hb hr hml hts hown hlk hG ls hl
  have hown : s.vm.findClass RX8 = some m.cls := hown
  obtain ⟨hP, hK, hD, hZ⟩ := hG
  have hS : va_S (cA a) s.heap s.heap [] := va_S.rf
  have hl : lv_has ls 2 [(0, .ref (a 0)), (1, .int p1)] := hl
  have hiX8 : ∀ w ∈ wsX80, w ∈ wsX8_isReadByBest := by decide +kernel
  have k33 := hts (.fieldLink RX8 33 "DayColumn" "table" "LDayColumn$Readings;") (by decide +kernel)
  have k42 := hts (.fieldLink RX8 42 "DayColumn" "ways" "LDayColumn$Ways;") (by decide +kernel)
  unfold fX8_isReadByBest at hf
  refine lv_aload_n hx hb dX8_isReadByBest_0 rfl (lv_at hl 0 rfl) ?_
  refine va_get (D := D) (ci := 6) (v := .ref (a 4)) (C := RX8) (T := TX8) (N := 8) hx hb hts hiX8 hown hK hP 0 rfl rfl 3 (by decide) k33 (fun _ h9 => h9) rfl dX8_isReadByBest_1 ?_
  refine lv_iload_n hx hb dX8_isReadByBest_4 rfl (lv_at hl 1 rfl) ?_
  refine lv_aload_n hx hb dX8_isReadByBest_5 rfl (lv_at hl 0 rfl) ?_
  refine va_get (D := D) (ci := 6) (v := .ref (a 6)) (C := RX8) (T := TX8) (N := 8) hx hb hts hiX8 hown hK hP 0 rfl rfl 4 (by decide) k42 (fun _ h9 => h9) rfl dX8_isReadByBest_6 ?_
  refine lv_iload_n hx hb dX8_isReadByBest_9 rfl (lv_at hl 1 rfl) ?_
  obtain ⟨o1, ho1, hf⟩ := ob_e hf
  refine w_callR (b := a 6) (As := [.int p1]) (rest := [.int p1, .ref (a 4)]) ⟨hx, hb, hml, hown, hts⟩ (c_X6_styleOf l D cI a tb st p1 o1 ho1) (cwV 1 hts gX8_isReadByBest_X6_styleOf rfl rfl rfl (by decide +kernel) ⟨Nat.le_of_ble_eq_true rfl, Nat.le_of_ble_eq_true rfl⟩) hP hK hD hZ hS (va_recv hK hP (ci := 5) (q0 := 6) rfl rfl) rfl hl.1 rfl (Nat.le_of_ble_eq_true rfl) ⟨Nat.zero_le _, Nat.zero_le _⟩ dX8_isReadByBest_10 ?_
  obtain ⟨o2, ho2, hf⟩ := ob_e hf
  refine w_callR (b := a 4) (As := [.int p1, .int o1]) (rest := []) ⟨hx, hb, hml, hown, hts⟩ (c_X3_isRead l D cI a tb st p1 o1 o2 ho2) (cwV 2 hts gX8_isReadByBest_X3_isRead rfl rfl rfl (by decide +kernel) ⟨Nat.le_of_ble_eq_true rfl, Nat.le_of_ble_eq_true rfl⟩) hP hK hD hZ hS (va_recv hK hP (ci := 2) (q0 := 4) rfl rfl) rfl hl.1 rfl (Nat.le_of_ble_eq_true rfl) ⟨Nat.zero_le _, Nat.zero_le _⟩ dX8_isReadByBest_13 ?_
  obtain ⟨hz3, hf⟩ := tv_e hf
  exact W.zret (v := o2) hx hb hr hz3 (fun t ht _ => ⟨o2, rfl, so_i hf, ht⟩) (fun _ h => by cases h) dX8_isReadByBest_16
set_option maxHeartbeats 4000000 in
set_option maxRecDepth 100000 in
theorem c_X8_kindOf (l : Launch) (D : va_G) (cI : ClassId) (a tb : Nat → Nat) (st : ST) (p1 : Int32) (r : Int32) (hf : fX8_kindOf st p1 = some r) : MetR l yX8_kindOf wsX8_kindOf ({ frames := 4, cells := 0, slots := 0, locals := 93 }) [.ref (a 0), .int p1] D [(cI, .int)] (cw cI a) (cA a) tb st r := by
  refine met_of (cc := cX8_kindOf) (maxL := 2) (ret := (some .int)) (by decide) rfl (Nat.le_of_ble_eq_true rfl) ?_
  intro p e s m below meth c hx hb hr hml hts hown hlk hG ls hl
  have hown : s.vm.findClass RX8 = some m.cls := hown
  obtain ⟨hP, hK, hD, hZ⟩ := hG
  have hS : va_S (cA a) s.heap s.heap [] := va_S.rf
  have hl : lv_has ls 2 [(0, .ref (a 0)), (1, .int p1)] := hl
  have hiX8 : ∀ w ∈ wsX80, w ∈ wsX8_kindOf := by decide +kernel
  have k33 := hts (.fieldLink RX8 33 "DayColumn" "table" "LDayColumn$Readings;") (by decide +kernel)
  have k42 := hts (.fieldLink RX8 42 "DayColumn" "ways" "LDayColumn$Ways;") (by decide +kernel)
  unfold fX8_kindOf at hf
  refine lv_aload_n hx hb dX8_kindOf_0 rfl (lv_at hl 0 rfl) ?_
  refine lv_iload_n hx hb dX8_kindOf_1 rfl (lv_at hl 1 rfl) ?_
  obtain ⟨o1, ho1, hf⟩ := ob_e hf
  refine w_callR (b := a 0) (As := [.int p1]) (rest := []) ⟨hx, hb, hml, hown, hts⟩ (c_X8_isReadByBest l D cI a tb st p1 o1 ho1) (cwV 1 hts gX8_kindOf_X8_isReadByBest rfl rfl rfl (by decide +kernel) ⟨Nat.le_of_ble_eq_true rfl, Nat.le_of_ble_eq_true rfl⟩) hP hK hD hZ hS (va_recv hK hP (ci := 6) (q0 := 0) rfl rfl) rfl hl.1 rfl (Nat.le_of_ble_eq_true rfl) ⟨Nat.zero_le _, Nat.zero_le _⟩ dX8_kindOf_2 ?_
  refine lv_if_ne (tgt := 10) hx hb dX8_kindOf_5 (by decide) (fun c2 => ?_) (fun c2 => ?_)
  · replace hf := if_f hf c2
    refine lv_aload_n hx hb dX8_kindOf_10 rfl (lv_at hl 0 rfl) ?_
    refine va_get (D := D) (ci := 6) (v := .ref (a 4)) (C := RX8) (T := TX8) (N := 8) hx hb hts hiX8 hown hK hP 0 rfl rfl 3 (by decide) k33 (fun _ h9 => h9) rfl dX8_kindOf_11 ?_
    refine lv_iload_n hx hb dX8_kindOf_14 rfl (lv_at hl 1 rfl) ?_
    obtain ⟨o3, ho3, hf⟩ := ob_e hf
    refine w_callR (b := a 4) (As := [.int p1]) (rest := []) ⟨hx, hb, hml, hown, hts⟩ (c_X3_unlike l D cI a tb st p1 o3 ho3) (cwV 1 hts gX8_kindOf_X3_unlike rfl rfl rfl (by decide +kernel) ⟨Nat.le_of_ble_eq_true rfl, Nat.le_of_ble_eq_true rfl⟩) hP hK hD hZ hS (va_recv hK hP (ci := 2) (q0 := 4) rfl rfl) rfl hl.1 rfl (Nat.le_of_ble_eq_true rfl) ⟨Nat.zero_le _, Nat.zero_le _⟩ dX8_kindOf_15 ?_
    refine lv_iconst (v := 1) hx hb dX8_kindOf_18 (by decide) ?_
    refine lv_icmp_ne (tgt := 24) hx hb dX8_kindOf_19 (by decide) (fun c4 => ?_) (fun c4 => ?_)
    · replace hf := if_f hf c4
      refine lv_aload_n hx hb dX8_kindOf_24 rfl (lv_at hl 0 rfl) ?_
      refine va_get (D := D) (ci := 6) (v := .ref (a 6)) (C := RX8) (T := TX8) (N := 8) hx hb hts hiX8 hown hK hP 0 rfl rfl 4 (by decide) k42 (fun _ h9 => h9) rfl dX8_kindOf_25 ?_
      refine lv_iload_n hx hb dX8_kindOf_28 rfl (lv_at hl 1 rfl) ?_
      obtain ⟨o5, ho5, hf⟩ := ob_e hf
      refine w_callR (b := a 6) (As := [.int p1]) (rest := []) ⟨hx, hb, hml, hown, hts⟩ (c_X6_leastOtherwise l D cI a tb st p1 o5 ho5) (cwV 1 hts gX8_kindOf_X6_leastOtherwise rfl rfl rfl (by decide +kernel) ⟨Nat.le_of_ble_eq_true rfl, Nat.le_of_ble_eq_true rfl⟩) hP hK hD hZ hS (va_recv hK hP (ci := 5) (q0 := 6) rfl rfl) rfl hl.1 rfl (Nat.le_of_ble_eq_true rfl) ⟨Nat.zero_le _, Nat.zero_le _⟩ dX8_kindOf_29 ?_
      refine lv_aload_n hx hb dX8_kindOf_32 rfl (lv_at hl 0 rfl) ?_
      refine va_get (D := D) (ci := 6) (v := .ref (a 6)) (C := RX8) (T := TX8) (N := 8) hx hb hts hiX8 hown hK hP 0 rfl rfl 4 (by decide) k42 (fun _ h9 => h9) rfl dX8_kindOf_33 ?_
      obtain ⟨o6, ho6, hf⟩ := ob_e hf
      refine w_callR (b := a 6) (As := []) (rest := [.int o5]) ⟨hx, hb, hml, hown, hts⟩ (c_X6_leastCost l D cI a tb st o6 ho6) (cwV 0 hts gX8_kindOf_X6_leastCost rfl rfl rfl (by decide +kernel) ⟨Nat.le_of_ble_eq_true rfl, Nat.le_of_ble_eq_true rfl⟩) hP hK hD hZ hS (va_recv hK hP (ci := 5) (q0 := 6) rfl rfl) rfl hl.1 rfl (Nat.le_of_ble_eq_true rfl) ⟨Nat.zero_le _, Nat.zero_le _⟩ dX8_kindOf_36 ?_
      refine lv_icmp_ne (tgt := 46) hx hb dX8_kindOf_39 (by decide) (fun c7 => ?_) (fun c7 => ?_)
      · replace hf := if_f hf c7
        refine lv_iconst (v := 1) hx hb dX8_kindOf_46 (by decide) ?_
        exact W.iret (v := 1) hx hb hr (fun t ht _ => ⟨1, rfl, so_i hf, ht⟩) (fun _ h => by cases h) dX8_kindOf_47
      · replace hf := if_t hf c7
        refine lv_iconst (v := 2) hx hb dX8_kindOf_42 (by decide) ?_
        refine lv_goto (tgt := 47) hx hb dX8_kindOf_43 (by decide) ?_
        exact W.iret (v := 2) hx hb hr (fun t ht _ => ⟨2, rfl, so_i hf, ht⟩) (fun _ h => by cases h) dX8_kindOf_47
    · replace hf := if_t hf c4
      refine lv_iconst (v := 0) hx hb dX8_kindOf_22 (by decide) ?_
      exact W.iret (v := 0) hx hb hr (fun t ht _ => ⟨0, rfl, so_i hf, ht⟩) (fun _ h => by cases h) dX8_kindOf_23
  · replace hf := if_t hf c2
    refine lv_iconst (v := 3) hx hb dX8_kindOf_8 (by decide) ?_
    exact W.iret (v := 3) hx hb hr (fun t ht _ => ⟨3, rfl, so_i hf, ht⟩) (fun _ h => by cases h) dX8_kindOf_9
set_option maxHeartbeats 4000000 in
set_option maxRecDepth 100000 in
theorem c_X8_settle (l : Launch) (D : va_G) (cI : ClassId) (a tb : Nat → Nat) (st : ST) (r : Int32 × ST) (hf : fX8_settle st = some r) : MetW l yX8_settle wsX8_settle ({ frames := 5, cells := 0, slots := 0, locals := 121 }) [.ref (a 0)] D [(cI, .int)] (cw cI a) (cA a) tb st r := by
  refine met_of (cc := cX8_settle) (maxL := 2) (ret := (some .boolean)) (by decide) rfl (Nat.le_of_ble_eq_true rfl) ?_
  intro p e s m below meth c hx hb hr hml hts hown hlk hG ls hl
  have hown : s.vm.findClass RX8 = some m.cls := hown
  obtain ⟨hP, hK, hD, hZ⟩ := hG
  have hS : va_S (cA a) s.heap s.heap [] := va_S.rf
  have hl : lv_has ls 2 [(0, .ref (a 0))] := hl
  have hiX8 : ∀ w ∈ wsX80, w ∈ wsX8_settle := by decide +kernel
  have k21 := hts (.fieldLink RX8 21 "DayColumn" "patterns" "LDayColumn$Texts;") (by decide +kernel)
  have k25 := hts (.fieldLink RX8 25 "DayColumn" "cells" "LDayColumn$Texts;") (by decide +kernel)
  have k33 := hts (.fieldLink RX8 33 "DayColumn" "table" "LDayColumn$Readings;") (by decide +kernel)
  have k42 := hts (.fieldLink RX8 42 "DayColumn" "ways" "LDayColumn$Ways;") (by decide +kernel)
  have k53 := hts (.fieldLink RX8 53 "DayColumn" "windowYear" "I") (by decide +kernel)
  have k57 := hts (.fieldLink RX8 57 "DayColumn" "settled" "Z") (by decide +kernel)
  have l31 : ∀ (n : Nat) (x_1 : Int32) (st : ST) (H : Heap) (locs : List Loc) (ls : Array Slot), va_P D vwCl (cw cI a st) H → va_S (cA a) s.heap H locs → lv_has ls 2 [(0, .ref (a 0)), (1, .int x_1)] → fX8_settle_31 n st x_1 = some r → W p l e ({ frames := 5, cells := 0, slots := 0, locals := 121 }) s m ([.ref (a 0)] : List Value).toArray below meth c H locs 0 0 (MQ below (va_Qi (fun (z : Int32) (u : ST) => z = r.1 ∧ u = r.2) (fun u t => va_P D vwCl (cw cI a u) t.heap) (cA a)) ([.ref (a 0)] : List Value).toArray s 0 0 (cA a)) (F0 m 31 ls []) := by
    intro n
    induction n with
    | zero =>
      intro x_1 st H locs ls hP hS hl hf
      cases hf
    | succ n ih31 =>
      intro x_1 st H locs ls hP hS hl hf
      unfold fX8_settle_31 at hf
      refine lv_iload_n hx hb dX8_settle_31 rfl (lv_at hl 1 rfl) ?_
      refine lv_aload_n hx hb dX8_settle_32 rfl (lv_at hl 0 rfl) ?_
      refine va_get (D := D) (ci := 6) (v := .ref (a 3)) (C := RX8) (T := TX8) (N := 8) hx hb hts hiX8 hown hK hP 0 rfl rfl 2 (by decide) k25 (fun _ h9 => h9) rfl dX8_settle_33 ?_
      obtain ⟨o1, ho1, hf⟩ := ob_e hf
      refine w_callR (b := a 3) (As := []) (rest := [.int x_1]) ⟨hx, hb, hml, hown, hts⟩ (c_X5_size_c l D cI a tb st o1 ho1) (cwV 0 hts gX8_settle_X5_size rfl rfl rfl (by decide +kernel) ⟨Nat.le_of_ble_eq_true rfl, Nat.le_of_ble_eq_true rfl⟩) hP hK hD hZ hS (va_recv hK hP (ci := 4) (q0 := 3) rfl rfl) rfl hl.1 rfl (Nat.le_of_ble_eq_true rfl) ⟨Nat.zero_le _, Nat.zero_le _⟩ dX8_settle_36 ?_
      refine lv_icmp_ge (tgt := 60) hx hb dX8_settle_39 (by decide) (fun c2 => ?_) (fun c2 => ?_)
      · replace hf := if_t hf c2
        refine lv_aload_n hx hb dX8_settle_60 rfl (lv_at hl 0 rfl) ?_
        refine va_get (D := D) (ci := 6) (v := .ref (a 6)) (C := RX8) (T := TX8) (N := 8) hx hb hts hiX8 hown hK hP 0 rfl rfl 4 (by decide) k42 (fun _ h9 => h9) rfl dX8_settle_61 ?_
        refine lv_aload_n hx hb dX8_settle_64 rfl (lv_at hl 0 rfl) ?_
        refine va_get (D := D) (ci := 6) (v := .ref (a 3)) (C := RX8) (T := TX8) (N := 8) hx hb hts hiX8 hown hK hP 0 rfl rfl 2 (by decide) k25 (fun _ h9 => h9) rfl dX8_settle_65 ?_
        obtain ⟨o3, ho3, hf⟩ := ob_e hf
        refine w_callR (b := a 3) (As := []) (rest := [.ref (a 6)]) ⟨hx, hb, hml, hown, hts⟩ (c_X5_size_c l D cI a tb st o3 ho3) (cwV 0 hts gX8_settle_X5_size rfl rfl rfl (by decide +kernel) ⟨Nat.le_of_ble_eq_true rfl, Nat.le_of_ble_eq_true rfl⟩) hP hK hD hZ hS (va_recv hK hP (ci := 4) (q0 := 3) rfl rfl) rfl hl.1 rfl (Nat.le_of_ble_eq_true rfl) ⟨Nat.zero_le _, Nat.zero_le _⟩ dX8_settle_68 ?_
        refine lv_aload_n hx hb dX8_settle_71 rfl (lv_at hl 0 rfl) ?_
        refine va_get (D := D) (ci := 6) (v := .ref (a 2)) (C := RX8) (T := TX8) (N := 8) hx hb hts hiX8 hown hK hP 0 rfl rfl 1 (by decide) k21 (fun _ h9 => h9) rfl dX8_settle_72 ?_
        obtain ⟨o4, ho4, hf⟩ := ob_e hf
        refine w_callR (b := a 2) (As := []) (rest := [.int o3, .ref (a 6)]) ⟨hx, hb, hml, hown, hts⟩ (c_X5_size_p l D cI a tb st o4 ho4) (cwV 0 hts gX8_settle_X5_size rfl rfl rfl (by decide +kernel) ⟨Nat.le_of_ble_eq_true rfl, Nat.le_of_ble_eq_true rfl⟩) hP hK hD hZ hS (va_recv hK hP (ci := 4) (q0 := 2) rfl rfl) rfl hl.1 rfl (Nat.le_of_ble_eq_true rfl) ⟨Nat.zero_le _, Nat.zero_le _⟩ dX8_settle_75 ?_
        obtain ⟨o5, ho5, hf⟩ := ob_e hf
        refine w_callV (b := a 6) (As := [.int o3, .int o4]) (rest := []) ⟨hx, hb, hml, hown, hts⟩ (c_X6_settle l D cI a tb st o3 o4 o5 ho5) (cwV 2 hts gX8_settle_X6_settle rfl rfl rfl (by decide +kernel) ⟨Nat.le_of_ble_eq_true rfl, Nat.le_of_ble_eq_true rfl⟩) hP hK hD hZ hS (va_recv hK hP (ci := 5) (q0 := 6) rfl rfl) rfl hl.1 rfl (Nat.le_of_ble_eq_true rfl) ⟨Nat.zero_le _, Nat.zero_le _⟩ dX8_settle_78 (fun H locs hP hS => ?_)
        refine lv_aload_n hx hb dX8_settle_81 rfl (lv_at hl 0 rfl) ?_
        refine lv_iconst (v := 1) hx hb dX8_settle_82 (by decide) ?_
        obtain ⟨s6, es6, hf⟩ := bnd_e hf
        refine va_put (D := D) (ci := 6) (v := .int 1) (ty := .boolean) (C := RX8) (T := TX8) (N := 8) hx hb hts hiX8 tyX8 tyX8_ok nmX8 hown hK hP (hD o5) hS 0 rfl rfl 7 (by decide) k57 (fun _ h9 => h9) rfl (by decide +kernel) rfl rfl (Nat.le_of_ble_eq_true rfl) dX8_settle_83 (fun H locs hP _ hS => ?_)
        have hP : va_P D vwCl (cw cI a s6) H := by rw [es6]; exact hP
        refine lv_iconst (v := 1) hx hb dX8_settle_86 (by decide) ?_
        exact W.zret (v := 1) hx hb hr rfl (fun t ht _ => ⟨⟨1, s6, rfl, so_p hf, p_at ht hP⟩, hS.F ht⟩) hS.2.2 dX8_settle_87
      · replace hf := if_f hf c2
        refine lv_aload_n hx hb dX8_settle_42 rfl (lv_at hl 0 rfl) ?_
        refine va_get (D := D) (ci := 6) (v := .ref (a 4)) (C := RX8) (T := TX8) (N := 8) hx hb hts hiX8 hown hK hP 0 rfl rfl 3 (by decide) k33 (fun _ h9 => h9) rfl dX8_settle_43 ?_
        refine lv_iload_n hx hb dX8_settle_46 rfl (lv_at hl 1 rfl) ?_
        refine lv_aload_n hx hb dX8_settle_47 rfl (lv_at hl 0 rfl) ?_
        refine va_get (D := D) (ci := 6) (v := .int (st.1 0)) (C := RX8) (T := TX8) (N := 8) hx hb hts hiX8 hown hK hP 0 rfl rfl 6 (by decide) k53 (fun _ h9 => h9) rfl dX8_settle_48 ?_
        obtain ⟨o7, ho7, hf⟩ := ob_e hf
        refine w_callV (b := a 4) (As := [.int x_1, .int (st.1 0)]) (rest := []) ⟨hx, hb, hml, hown, hts⟩ (c_X3_bring l D cI a tb st x_1 (st.1 0) o7 ho7) (cwV 2 hts gX8_settle_X3_bring rfl rfl rfl (by decide +kernel) ⟨Nat.le_of_ble_eq_true rfl, Nat.le_of_ble_eq_true rfl⟩) hP hK hD hZ hS (va_recv hK hP (ci := 2) (q0 := 4) rfl rfl) rfl hl.1 rfl (Nat.le_of_ble_eq_true rfl) ⟨Nat.zero_le _, Nat.zero_le _⟩ dX8_settle_51 (fun H locs hP hS => ?_)
        obtain ⟨x8, ex8, hf⟩ := bnd_e hf
        refine lv_iinc (v := x8) (lv' := [(1, .int x8), (0, .ref (a 0))]) hx hb dX8_settle_54 hl (k := 1) rfl (by rw [ex8]; rfl) (by decide) rfl (fun ls hl => ?_)
        refine lv_goto (tgt := 31) hx hb dX8_settle_57 (by decide) ?_
        exact ih31 x8 o7 _ _ _ hP hS (lv_sub hl [1, 0] rfl) hf
  unfold fX8_settle at hf
  refine lv_aload_n hx hb dX8_settle_0 rfl (lv_at hl 0 rfl) ?_
  refine va_get (D := D) (ci := 6) (v := .ref (a 2)) (C := RX8) (T := TX8) (N := 8) hx hb hts hiX8 hown hK hP 0 rfl rfl 1 (by decide) k21 (fun _ h9 => h9) rfl dX8_settle_1 ?_
  obtain ⟨o9, ho9, hf⟩ := ob_e hf
  refine w_callR (b := a 2) (As := []) (rest := []) ⟨hx, hb, hml, hown, hts⟩ (c_X5_size_p l D cI a tb st o9 ho9) (cwV 0 hts gX8_settle_X5_size rfl rfl rfl (by decide +kernel) ⟨Nat.le_of_ble_eq_true rfl, Nat.le_of_ble_eq_true rfl⟩) hP hK hD hZ hS (va_recv hK hP (ci := 4) (q0 := 2) rfl rfl) rfl hl.1 rfl (Nat.le_of_ble_eq_true rfl) ⟨Nat.zero_le _, Nat.zero_le _⟩ dX8_settle_4 ?_
  refine lv_if_eq (tgt := 20) hx hb dX8_settle_7 (by decide) (fun c10 => ?_) (fun c10 => ?_)
  · replace hf := if_t hf c10
    refine lv_iconst (v := 0) hx hb dX8_settle_20 (by decide) ?_
    exact W.zret (v := 0) hx hb hr rfl (fun t ht _ => ⟨⟨0, st, rfl, so_p hf, p_at ht hP⟩, hS.F ht⟩) hS.2.2 dX8_settle_21
  · replace hf := if_f hf c10
    refine lv_aload_n hx hb dX8_settle_10 rfl (lv_at hl 0 rfl) ?_
    refine va_get (D := D) (ci := 6) (v := .ref (a 3)) (C := RX8) (T := TX8) (N := 8) hx hb hts hiX8 hown hK hP 0 rfl rfl 2 (by decide) k25 (fun _ h9 => h9) rfl dX8_settle_11 ?_
    obtain ⟨o11, ho11, hf⟩ := ob_e hf
    refine w_callR (b := a 3) (As := []) (rest := []) ⟨hx, hb, hml, hown, hts⟩ (c_X5_size_c l D cI a tb st o11 ho11) (cwV 0 hts gX8_settle_X5_size rfl rfl rfl (by decide +kernel) ⟨Nat.le_of_ble_eq_true rfl, Nat.le_of_ble_eq_true rfl⟩) hP hK hD hZ hS (va_recv hK hP (ci := 4) (q0 := 3) rfl rfl) rfl hl.1 rfl (Nat.le_of_ble_eq_true rfl) ⟨Nat.zero_le _, Nat.zero_le _⟩ dX8_settle_14 ?_
    refine lv_if_ne (tgt := 22) hx hb dX8_settle_17 (by decide) (fun c12 => ?_) (fun c12 => ?_)
    · replace hf := if_f hf c12
      refine lv_aload_n hx hb dX8_settle_22 rfl (lv_at hl 0 rfl) ?_
      refine va_get (D := D) (ci := 6) (v := .int (st.1 1)) (C := RX8) (T := TX8) (N := 8) hx hb hts hiX8 hown hK hP 0 rfl rfl 7 (by decide) k57 (fun _ h9 => h9) rfl dX8_settle_23 ?_
      refine lv_if_ne (tgt := 86) hx hb dX8_settle_26 (by decide) (fun c13 => ?_) (fun c13 => ?_)
      · replace hf := if_f hf c13
        refine lv_iconst (v := 1) hx hb dX8_settle_86 (by decide) ?_
        exact W.zret (v := 1) hx hb hr rfl (fun t ht _ => ⟨⟨1, st, rfl, so_p hf, p_at ht hP⟩, hS.F ht⟩) hS.2.2 dX8_settle_87
      · replace hf := if_t hf c13
        refine lv_iconst (v := 0) hx hb dX8_settle_29 (by decide) ?_
        refine lv_istore_n (lv' := [(1, .int 0), (0, .ref (a 0))]) hx hb dX8_settle_30 rfl hl (by decide) rfl (fun ls hl => ?_)
        exact l31 1000 0 st _ _ _ hP hS (lv_sub hl [1, 0] rfl) hf
    · replace hf := if_t hf c12
      refine lv_iconst (v := 0) hx hb dX8_settle_20 (by decide) ?_
      exact W.zret (v := 0) hx hb hr rfl (fun t ht _ => ⟨⟨0, st, rfl, so_p hf, p_at ht hP⟩, hS.F ht⟩) hS.2.2 dX8_settle_21
set_option maxHeartbeats 4000000 in
set_option maxRecDepth 100000 in
theorem c_X8_feed (l : Launch) (D : va_G) (cI : ClassId) (a tb : Nat → Nat) (st : ST) (p1 p2 : Int32) (r : Int32 × ST) (hf : fX8_feed st p1 p2 = some r) : MetW l yX8_feed wsX8_feed ({ frames := 1, cells := 0, slots := 0, locals := 23 }) [.ref (a 0), .int p1, .int p2] D [(cI, .int)] (cw cI a) (cA a) tb st r := by
  refine met_of (cc := cX8_feed) (maxL := 4) (ret := (some .int)) (by decide) rfl (Nat.le_of_ble_eq_true rfl) ?_
  intro p e s m below meth c hx hb hr hml hts hown hlk hG ls hl
  have hown : s.vm.findClass RX8 = some m.cls := hown
  obtain ⟨hP, hK, hD, hZ⟩ := hG
  have hS : va_S (cA a) s.heap s.heap [] := va_S.rf
  have hl : lv_has ls 4 [(0, .ref (a 0)), (1, .int p1), (2, .int p2)] := hl
  have hiX8 : ∀ w ∈ wsX80, w ∈ wsX8_feed := by decide +kernel
  have k10 := hts (.fieldLink RX8 10 "DayColumn" "tape" "LDayColumn$Tape;") (by decide +kernel)
  unfold fX8_feed at hf
  refine lv_iload_n hx hb dX8_feed_0 rfl (lv_at hl 1 rfl) ?_
  obtain ⟨o1, ho1, hf⟩ := ob_e hf
  refine w_callT (As := [.int p1]) (rest := []) ⟨hx, hb, hml, hown, hts⟩ (c_X4_bytesIn l tb p1 o1 ho1) (va_cwS 1 hts gX8_feed_X4_bytesIn rfl rfl rfl (by decide +kernel) ⟨Nat.le_of_ble_eq_true rfl, Nat.le_of_ble_eq_true rfl⟩) hZ hS rfl hl.1 rfl (Nat.le_of_ble_eq_true rfl) ⟨Nat.zero_le _, Nat.zero_le _⟩ dX8_feed_1 ?_
  refine lv_iload_n hx hb dX8_feed_4 rfl (lv_at hl 2 rfl) ?_
  obtain ⟨o2, ho2, hf⟩ := ob_e hf
  refine w_callT (As := [.int p2]) (rest := [.int o1]) ⟨hx, hb, hml, hown, hts⟩ (c_X4_bytesIn l tb p2 o2 ho2) (va_cwS 1 hts gX8_feed_X4_bytesIn rfl rfl rfl (by decide +kernel) ⟨Nat.le_of_ble_eq_true rfl, Nat.le_of_ble_eq_true rfl⟩) hZ hS rfl hl.1 rfl (Nat.le_of_ble_eq_true rfl) ⟨Nat.zero_le _, Nat.zero_le _⟩ dX8_feed_5 ?_
  refine lv_iadd hx hb dX8_feed_8 ?_
  obtain ⟨x3, ex3, hf⟩ := bnd_e hf
  refine w_nm ex3 ?_
  refine lv_istore_n (lv' := [(3, .int x3), (0, .ref (a 0)), (1, .int p1), (2, .int p2)]) hx hb dX8_feed_9 rfl hl (by decide) rfl (fun ls hl => ?_)
  refine lv_aload_n hx hb dX8_feed_10 rfl (lv_at hl 1 rfl) ?_
  refine va_get (D := D) (ci := 6) (v := .ref (a 1)) (C := RX8) (T := TX8) (N := 8) hx hb hts hiX8 hown hK hP 0 rfl rfl 0 (by decide) k10 (fun _ h9 => h9) rfl dX8_feed_11 ?_
  obtain ⟨o4, ho4, hf⟩ := ob_e hf
  refine w_callR (b := a 1) (As := []) (rest := []) ⟨hx, hb, hml, hown, hts⟩ (c_X4_length l D cI a tb st o4 ho4) (cwV 0 hts gX8_feed_X4_length rfl rfl rfl (by decide +kernel) ⟨Nat.le_of_ble_eq_true rfl, Nat.le_of_ble_eq_true rfl⟩) hP hK hD hZ hS (va_recv hK hP (ci := 3) (q0 := 1) rfl rfl) rfl hl.1 rfl (Nat.le_of_ble_eq_true rfl) ⟨Nat.zero_le _, Nat.zero_le _⟩ dX8_feed_14 ?_
  refine lv_iload_n hx hb dX8_feed_17 rfl (lv_at hl 0 rfl) ?_
  refine lv_iadd hx hb dX8_feed_18 ?_
  refine lv_bipush (v := 24) hx hb dX8_feed_19 (by decide) ?_
  refine lv_icmp_le (tgt := 26) hx hb dX8_feed_21 (by decide) (fun c5 => ?_) (fun c5 => ?_)
  · replace hf := if_t hf c5
    refine lv_aload_n hx hb dX8_feed_26 rfl (lv_at hl 1 rfl) ?_
    refine va_get (D := D) (ci := 6) (v := .ref (a 1)) (C := RX8) (T := TX8) (N := 8) hx hb hts hiX8 hown hK hP 0 rfl rfl 0 (by decide) k10 (fun _ h9 => h9) rfl dX8_feed_27 ?_
    refine lv_iload_n hx hb dX8_feed_30 rfl (lv_at hl 2 rfl) ?_
    obtain ⟨o6, ho6, hf⟩ := ob_e hf
    refine w_callV (b := a 1) (As := [.int p1]) (rest := []) ⟨hx, hb, hml, hown, hts⟩ (c_X4_append l D cI a tb st p1 o6 ho6) (cwV 1 hts gX8_feed_X4_append rfl rfl rfl (by decide +kernel) ⟨Nat.le_of_ble_eq_true rfl, Nat.le_of_ble_eq_true rfl⟩) hP hK hD hZ hS (va_recv hK hP (ci := 3) (q0 := 1) rfl rfl) rfl hl.1 rfl (Nat.le_of_ble_eq_true rfl) ⟨Nat.zero_le _, Nat.zero_le _⟩ dX8_feed_31 (fun H locs hP hS => ?_)
    refine lv_aload_n hx hb dX8_feed_34 rfl (lv_at hl 1 rfl) ?_
    refine va_get (D := D) (ci := 6) (v := .ref (a 1)) (C := RX8) (T := TX8) (N := 8) hx hb hts hiX8 hown hK hP 0 rfl rfl 0 (by decide) k10 (fun _ h9 => h9) rfl dX8_feed_35 ?_
    refine lv_iload_n hx hb dX8_feed_38 rfl (lv_at hl 3 rfl) ?_
    obtain ⟨o7, ho7, hf⟩ := ob_e hf
    refine w_callV (b := a 1) (As := [.int p2]) (rest := []) ⟨hx, hb, hml, hown, hts⟩ (c_X4_append l D cI a tb o6 p2 o7 ho7) (cwV 1 hts gX8_feed_X4_append rfl rfl rfl (by decide +kernel) ⟨Nat.le_of_ble_eq_true rfl, Nat.le_of_ble_eq_true rfl⟩) hP hK hD hZ hS (va_recv hK hP (ci := 3) (q0 := 1) rfl rfl) rfl hl.1 rfl (Nat.le_of_ble_eq_true rfl) ⟨Nat.zero_le _, Nat.zero_le _⟩ dX8_feed_39 (fun H locs hP hS => ?_)
    refine lv_aload_n hx hb dX8_feed_42 rfl (lv_at hl 1 rfl) ?_
    refine va_get (D := D) (ci := 6) (v := .ref (a 1)) (C := RX8) (T := TX8) (N := 8) hx hb hts hiX8 hown hK hP 0 rfl rfl 0 (by decide) k10 (fun _ h9 => h9) rfl dX8_feed_43 ?_
    obtain ⟨o8, ho8, hf⟩ := ob_e hf
    refine w_callR (b := a 1) (As := []) (rest := []) ⟨hx, hb, hml, hown, hts⟩ (c_X4_length l D cI a tb o7 o8 ho8) (cwV 0 hts gX8_feed_X4_length rfl rfl rfl (by decide +kernel) ⟨Nat.le_of_ble_eq_true rfl, Nat.le_of_ble_eq_true rfl⟩) hP hK hD hZ hS (va_recv hK hP (ci := 3) (q0 := 1) rfl rfl) rfl hl.1 rfl (Nat.le_of_ble_eq_true rfl) ⟨Nat.zero_le _, Nat.zero_le _⟩ dX8_feed_46 ?_
    exact W.iret (v := o8) hx hb hr (fun t ht _ => ⟨⟨o8, o7, rfl, so_p hf, p_at ht hP⟩, hS.F ht⟩) hS.2.2 dX8_feed_49
  · replace hf := if_f hf c5
    refine lv_iconst (v := -1) hx hb dX8_feed_24 (by decide) ?_
    exact W.iret (v := (-1)) hx hb hr (fun t ht _ => ⟨⟨(-1), st, rfl, so_p hf, p_at ht hP⟩, hS.F ht⟩) hS.2.2 dX8_feed_25
set_option maxHeartbeats 4000000 in
set_option maxRecDepth 100000 in
theorem c_X8_end (l : Launch) (D : va_G) (cI : ClassId) (a tb : Nat → Nat) (st : ST) (p1 : Int32) (r : Int32 × ST) (hf : fX8_end st p1 = some r) : MetW l yX8_end wsX8_end ({ frames := 1, cells := 0, slots := 0, locals := 21 }) [.ref (a 0), .int p1] D [(cI, .int)] (cw cI a) (cA a) tb st r := by
  refine met_of (cc := cX8_end) (maxL := 2) (ret := (some .boolean)) (by decide) rfl (Nat.le_of_ble_eq_true rfl) ?_
  intro p e s m below meth c hx hb hr hml hts hown hlk hG ls hl
  have hown : s.vm.findClass RX8 = some m.cls := hown
  obtain ⟨hP, hK, hD, hZ⟩ := hG
  have hS : va_S (cA a) s.heap s.heap [] := va_S.rf
  have hl : lv_has ls 2 [(0, .ref (a 0)), (1, .int p1)] := hl
  have hiX8 : ∀ w ∈ wsX80, w ∈ wsX8_end := by decide +kernel
  have k10 := hts (.fieldLink RX8 10 "DayColumn" "tape" "LDayColumn$Tape;") (by decide +kernel)
  unfold fX8_end at hf
  refine lv_aload_n hx hb dX8_end_0 rfl (lv_at hl 0 rfl) ?_
  refine va_get (D := D) (ci := 6) (v := .ref (a 1)) (C := RX8) (T := TX8) (N := 8) hx hb hts hiX8 hown hK hP 0 rfl rfl 0 (by decide) k10 (fun _ h9 => h9) rfl dX8_end_1 ?_
  refine lv_iload_n hx hb dX8_end_4 rfl (lv_at hl 1 rfl) ?_
  obtain ⟨o1, ho1, hf⟩ := ob_e hf
  refine w_callW (b := a 1) (As := [.int p1]) (rest := []) ⟨hx, hb, hml, hown, hts⟩ (c_X4_cut l D cI a tb st p1 o1 ho1) (cwV 1 hts gX8_end_X4_cut rfl rfl rfl (by decide +kernel) ⟨Nat.le_of_ble_eq_true rfl, Nat.le_of_ble_eq_true rfl⟩) hP hK hD hZ hS (va_recv hK hP (ci := 3) (q0 := 1) rfl rfl) rfl hl.1 rfl (Nat.le_of_ble_eq_true rfl) ⟨Nat.zero_le _, Nat.zero_le _⟩ dX8_end_5 (fun H locs hP hS => ?_)
  obtain ⟨hz2, hf⟩ := tv_e hf
  exact W.zret (v := o1.1) hx hb hr hz2 (fun t ht _ => ⟨⟨o1.1, o1.2, rfl, so_p hf, p_at ht hP⟩, hS.F ht⟩) hS.2.2 dX8_end_8
set_option maxHeartbeats 4000000 in
set_option maxRecDepth 100000 in
theorem c_X8_style (l : Launch) (D : va_G) (cI : ClassId) (a tb : Nat → Nat) (st : ST) (p1 : Int32) (r : Int32 × ST) (hf : fX8_style st p1 = some r) : MetW l yX8_style wsX8_style ({ frames := 2, cells := 0, slots := 0, locals := 47 }) [.ref (a 0), .int p1] D [(cI, .int)] (cw cI a) (cA a) tb st r := by
  refine met_of (cc := cX8_style) (maxL := 3) (ret := (some .int)) (by decide) rfl (Nat.le_of_ble_eq_true rfl) ?_
  intro p e s m below meth c hx hb hr hml hts hown hlk hG ls hl
  have hown : s.vm.findClass RX8 = some m.cls := hown
  obtain ⟨hP, hK, hD, hZ⟩ := hG
  have hS : va_S (cA a) s.heap s.heap [] := va_S.rf
  have hl : lv_has ls 3 [(0, .ref (a 0)), (1, .int p1)] := hl
  have hiX8 : ∀ w ∈ wsX80, w ∈ wsX8_style := by decide +kernel
  have k10 := hts (.fieldLink RX8 10 "DayColumn" "tape" "LDayColumn$Tape;") (by decide +kernel)
  have k21 := hts (.fieldLink RX8 21 "DayColumn" "patterns" "LDayColumn$Texts;") (by decide +kernel)
  have k42 := hts (.fieldLink RX8 42 "DayColumn" "ways" "LDayColumn$Ways;") (by decide +kernel)
  have k57 := hts (.fieldLink RX8 57 "DayColumn" "settled" "Z") (by decide +kernel)
  unfold fX8_style at hf
  refine lv_iload_n hx hb dX8_style_0 rfl (lv_at hl 1 rfl) ?_
  obtain ⟨o1, ho1, hf⟩ := ob_e hf
  refine w_callT (As := [.int p1]) (rest := []) ⟨hx, hb, hml, hown, hts⟩ (c_X8_isPrice l tb p1 o1 ho1) (va_cwS 1 hts gX8_style_X8_isPrice rfl rfl rfl (by decide +kernel) ⟨Nat.le_of_ble_eq_true rfl, Nat.le_of_ble_eq_true rfl⟩) hZ hS rfl hl.1 rfl (Nat.le_of_ble_eq_true rfl) ⟨Nat.zero_le _, Nat.zero_le _⟩ dX8_style_1 ?_
  refine lv_if_eq (tgt := 27) hx hb dX8_style_4 (by decide) (fun c2 => ?_) (fun c2 => ?_)
  · replace hf := if_t hf c2
    refine lv_iconst (v := -1) hx hb dX8_style_27 (by decide) ?_
    exact W.iret (v := (-1)) hx hb hr (fun t ht _ => ⟨⟨(-1), st, rfl, so_p hf, p_at ht hP⟩, hS.F ht⟩) hS.2.2 dX8_style_28
  · replace hf := if_f hf c2
    refine lv_aload_n hx hb dX8_style_7 rfl (lv_at hl 0 rfl) ?_
    refine va_get (D := D) (ci := 6) (v := .ref (a 2)) (C := RX8) (T := TX8) (N := 8) hx hb hts hiX8 hown hK hP 0 rfl rfl 1 (by decide) k21 (fun _ h9 => h9) rfl dX8_style_8 ?_
    obtain ⟨o3, ho3, hf⟩ := ob_e hf
    refine w_callR (b := a 2) (As := []) (rest := []) ⟨hx, hb, hml, hown, hts⟩ (c_X5_isFull_p l D cI a tb st o3 ho3) (cwV 0 hts gX8_style_X5_isFull rfl rfl rfl (by decide +kernel) ⟨Nat.le_of_ble_eq_true rfl, Nat.le_of_ble_eq_true rfl⟩) hP hK hD hZ hS (va_recv hK hP (ci := 4) (q0 := 2) rfl rfl) rfl hl.1 rfl (Nat.le_of_ble_eq_true rfl) ⟨Nat.zero_le _, Nat.zero_le _⟩ dX8_style_11 ?_
    refine lv_if_ne (tgt := 27) hx hb dX8_style_14 (by decide) (fun c4 => ?_) (fun c4 => ?_)
    · replace hf := if_f hf c4
      refine lv_iconst (v := -1) hx hb dX8_style_27 (by decide) ?_
      exact W.iret (v := (-1)) hx hb hr (fun t ht _ => ⟨⟨(-1), st, rfl, so_p hf, p_at ht hP⟩, hS.F ht⟩) hS.2.2 dX8_style_28
    · replace hf := if_t hf c4
      refine lv_aload_n hx hb dX8_style_17 rfl (lv_at hl 0 rfl) ?_
      refine va_get (D := D) (ci := 6) (v := .ref (a 1)) (C := RX8) (T := TX8) (N := 8) hx hb hts hiX8 hown hK hP 0 rfl rfl 0 (by decide) k10 (fun _ h9 => h9) rfl dX8_style_18 ?_
      obtain ⟨o5, ho5, hf⟩ := ob_e hf
      refine w_callR (b := a 1) (As := []) (rest := []) ⟨hx, hb, hml, hown, hts⟩ (c_X4_isPattern l D cI a tb st o5 ho5) (cwV 0 hts gX8_style_X4_isPattern rfl rfl rfl (by decide +kernel) ⟨Nat.le_of_ble_eq_true rfl, Nat.le_of_ble_eq_true rfl⟩) hP hK hD hZ hS (va_recv hK hP (ci := 3) (q0 := 1) rfl rfl) rfl hl.1 rfl (Nat.le_of_ble_eq_true rfl) ⟨Nat.zero_le _, Nat.zero_le _⟩ dX8_style_21 ?_
      refine lv_if_ne (tgt := 29) hx hb dX8_style_24 (by decide) (fun c6 => ?_) (fun c6 => ?_)
      · replace hf := if_f hf c6
        refine lv_aload_n hx hb dX8_style_29 rfl (lv_at hl 0 rfl) ?_
        refine va_get (D := D) (ci := 6) (v := .ref (a 2)) (C := RX8) (T := TX8) (N := 8) hx hb hts hiX8 hown hK hP 0 rfl rfl 1 (by decide) k21 (fun _ h9 => h9) rfl dX8_style_30 ?_
        refine lv_aload_n hx hb dX8_style_33 rfl (lv_at hl 0 rfl) ?_
        refine va_get (D := D) (ci := 6) (v := .ref (a 1)) (C := RX8) (T := TX8) (N := 8) hx hb hts hiX8 hown hK hP 0 rfl rfl 0 (by decide) k10 (fun _ h9 => h9) rfl dX8_style_34 ?_
        obtain ⟨o7, ho7, hf⟩ := ob_e hf
        refine w_callW (b := a 2) (As := [.ref (a 1)]) (rest := []) ⟨hx, hb, hml, hown, hts⟩ (c_X5_add_p l D cI a tb st o7 ho7) (cwV 1 hts gX8_style_X5_add rfl rfl rfl (by decide +kernel) ⟨Nat.le_of_ble_eq_true rfl, Nat.le_of_ble_eq_true rfl⟩) hP hK hD hZ hS (va_recv hK hP (ci := 4) (q0 := 2) rfl rfl) rfl hl.1 rfl (Nat.le_of_ble_eq_true rfl) ⟨Nat.zero_le _, Nat.zero_le _⟩ dX8_style_37 (fun H locs hP hS => ?_)
        refine lv_istore_n (lv' := [(2, .int o7.1), (0, .ref (a 0)), (1, .int p1)]) hx hb dX8_style_40 rfl hl (by decide) rfl (fun ls hl => ?_)
        refine lv_aload_n hx hb dX8_style_41 rfl (lv_at hl 1 rfl) ?_
        refine va_get (D := D) (ci := 6) (v := .ref (a 6)) (C := RX8) (T := TX8) (N := 8) hx hb hts hiX8 hown hK hP 0 rfl rfl 4 (by decide) k42 (fun _ h9 => h9) rfl dX8_style_42 ?_
        refine lv_iload_n hx hb dX8_style_45 rfl (lv_at hl 0 rfl) ?_
        refine lv_iload_n hx hb dX8_style_46 rfl (lv_at hl 2 rfl) ?_
        obtain ⟨o8, ho8, hf⟩ := ob_e hf
        refine w_callV (b := a 6) (As := [.int o7.1, .int p1]) (rest := []) ⟨hx, hb, hml, hown, hts⟩ (c_X6_setCost l D cI a tb o7.2 o7.1 p1 o8 ho8) (cwV 2 hts gX8_style_X6_setCost rfl rfl rfl (by decide +kernel) ⟨Nat.le_of_ble_eq_true rfl, Nat.le_of_ble_eq_true rfl⟩) hP hK hD hZ hS (va_recv hK hP (ci := 5) (q0 := 6) rfl rfl) rfl hl.1 rfl (Nat.le_of_ble_eq_true rfl) ⟨Nat.zero_le _, Nat.zero_le _⟩ dX8_style_47 (fun H locs hP hS => ?_)
        refine lv_aload_n hx hb dX8_style_50 rfl (lv_at hl 1 rfl) ?_
        refine lv_iconst (v := 0) hx hb dX8_style_51 (by decide) ?_
        obtain ⟨s9, es9, hf⟩ := bnd_e hf
        refine va_put (D := D) (ci := 6) (v := .int 0) (ty := .boolean) (C := RX8) (T := TX8) (N := 8) hx hb hts hiX8 tyX8 tyX8_ok nmX8 hown hK hP (hD o8) hS 0 rfl rfl 7 (by decide) k57 (fun _ h9 => h9) rfl (by decide +kernel) rfl rfl (Nat.le_of_ble_eq_true rfl) dX8_style_52 (fun H locs hP _ hS => ?_)
        have hP : va_P D vwCl (cw cI a s9) H := by rw [es9]; exact hP
        refine lv_iload_n hx hb dX8_style_55 rfl (lv_at hl 0 rfl) ?_
        exact W.iret (v := o7.1) hx hb hr (fun t ht _ => ⟨⟨o7.1, s9, rfl, so_p hf, p_at ht hP⟩, hS.F ht⟩) hS.2.2 dX8_style_56
      · replace hf := if_t hf c6
        refine lv_iconst (v := -1) hx hb dX8_style_27 (by decide) ?_
        exact W.iret (v := (-1)) hx hb hr (fun t ht _ => ⟨⟨(-1), st, rfl, so_p hf, p_at ht hP⟩, hS.F ht⟩) hS.2.2 dX8_style_28
set_option maxHeartbeats 4000000 in
set_option maxRecDepth 100000 in
theorem c_X8_row (l : Launch) (D : va_G) (cI : ClassId) (a tb : Nat → Nat) (st : ST) (r : Int32 × ST) (hf : fX8_row st = some r) : MetW l yX8_row wsX8_row ({ frames := 2, cells := 0, slots := 0, locals := 45 }) [.ref (a 0)] D [(cI, .int)] (cw cI a) (cA a) tb st r := by
  refine met_of (cc := cX8_row) (maxL := 2) (ret := (some .int)) (by decide) rfl (Nat.le_of_ble_eq_true rfl) ?_
  intro p e s m below meth c hx hb hr hml hts hown hlk hG ls hl
  have hown : s.vm.findClass RX8 = some m.cls := hown
  obtain ⟨hP, hK, hD, hZ⟩ := hG
  have hS : va_S (cA a) s.heap s.heap [] := va_S.rf
  have hl : lv_has ls 2 [(0, .ref (a 0))] := hl
  have hiX8 : ∀ w ∈ wsX80, w ∈ wsX8_row := by decide +kernel
  have k10 := hts (.fieldLink RX8 10 "DayColumn" "tape" "LDayColumn$Tape;") (by decide +kernel)
  have k25 := hts (.fieldLink RX8 25 "DayColumn" "cells" "LDayColumn$Texts;") (by decide +kernel)
  have k33 := hts (.fieldLink RX8 33 "DayColumn" "table" "LDayColumn$Readings;") (by decide +kernel)
  have k57 := hts (.fieldLink RX8 57 "DayColumn" "settled" "Z") (by decide +kernel)
  unfold fX8_row at hf
  refine lv_aload_n hx hb dX8_row_0 rfl (lv_at hl 0 rfl) ?_
  refine va_get (D := D) (ci := 6) (v := .ref (a 3)) (C := RX8) (T := TX8) (N := 8) hx hb hts hiX8 hown hK hP 0 rfl rfl 2 (by decide) k25 (fun _ h9 => h9) rfl dX8_row_1 ?_
  obtain ⟨o1, ho1, hf⟩ := ob_e hf
  refine w_callR (b := a 3) (As := []) (rest := []) ⟨hx, hb, hml, hown, hts⟩ (c_X5_isFull_c l D cI a tb st o1 ho1) (cwV 0 hts gX8_row_X5_isFull rfl rfl rfl (by decide +kernel) ⟨Nat.le_of_ble_eq_true rfl, Nat.le_of_ble_eq_true rfl⟩) hP hK hD hZ hS (va_recv hK hP (ci := 4) (q0 := 3) rfl rfl) rfl hl.1 rfl (Nat.le_of_ble_eq_true rfl) ⟨Nat.zero_le _, Nat.zero_le _⟩ dX8_row_4 ?_
  refine lv_if_ne (tgt := 20) hx hb dX8_row_7 (by decide) (fun c2 => ?_) (fun c2 => ?_)
  · replace hf := if_f hf c2
    refine lv_iconst (v := -1) hx hb dX8_row_20 (by decide) ?_
    exact W.iret (v := (-1)) hx hb hr (fun t ht _ => ⟨⟨(-1), st, rfl, so_p hf, p_at ht hP⟩, hS.F ht⟩) hS.2.2 dX8_row_21
  · replace hf := if_t hf c2
    refine lv_aload_n hx hb dX8_row_10 rfl (lv_at hl 0 rfl) ?_
    refine va_get (D := D) (ci := 6) (v := .ref (a 1)) (C := RX8) (T := TX8) (N := 8) hx hb hts hiX8 hown hK hP 0 rfl rfl 0 (by decide) k10 (fun _ h9 => h9) rfl dX8_row_11 ?_
    obtain ⟨o3, ho3, hf⟩ := ob_e hf
    refine w_callR (b := a 1) (As := []) (rest := []) ⟨hx, hb, hml, hown, hts⟩ (c_X4_isText l D cI a tb st o3 ho3) (cwV 0 hts gX8_row_X4_isText rfl rfl rfl (by decide +kernel) ⟨Nat.le_of_ble_eq_true rfl, Nat.le_of_ble_eq_true rfl⟩) hP hK hD hZ hS (va_recv hK hP (ci := 3) (q0 := 1) rfl rfl) rfl hl.1 rfl (Nat.le_of_ble_eq_true rfl) ⟨Nat.zero_le _, Nat.zero_le _⟩ dX8_row_14 ?_
    refine lv_if_ne (tgt := 22) hx hb dX8_row_17 (by decide) (fun c4 => ?_) (fun c4 => ?_)
    · replace hf := if_f hf c4
      refine lv_aload_n hx hb dX8_row_22 rfl (lv_at hl 0 rfl) ?_
      refine va_get (D := D) (ci := 6) (v := .ref (a 3)) (C := RX8) (T := TX8) (N := 8) hx hb hts hiX8 hown hK hP 0 rfl rfl 2 (by decide) k25 (fun _ h9 => h9) rfl dX8_row_23 ?_
      refine lv_aload_n hx hb dX8_row_26 rfl (lv_at hl 0 rfl) ?_
      refine va_get (D := D) (ci := 6) (v := .ref (a 1)) (C := RX8) (T := TX8) (N := 8) hx hb hts hiX8 hown hK hP 0 rfl rfl 0 (by decide) k10 (fun _ h9 => h9) rfl dX8_row_27 ?_
      obtain ⟨o5, ho5, hf⟩ := ob_e hf
      refine w_callW (b := a 3) (As := [.ref (a 1)]) (rest := []) ⟨hx, hb, hml, hown, hts⟩ (c_X5_add_c l D cI a tb st o5 ho5) (cwV 1 hts gX8_row_X5_add rfl rfl rfl (by decide +kernel) ⟨Nat.le_of_ble_eq_true rfl, Nat.le_of_ble_eq_true rfl⟩) hP hK hD hZ hS (va_recv hK hP (ci := 4) (q0 := 3) rfl rfl) rfl hl.1 rfl (Nat.le_of_ble_eq_true rfl) ⟨Nat.zero_le _, Nat.zero_le _⟩ dX8_row_30 (fun H locs hP hS => ?_)
      refine lv_istore_n (lv' := [(1, .int o5.1), (0, .ref (a 0))]) hx hb dX8_row_33 rfl hl (by decide) rfl (fun ls hl => ?_)
      refine lv_aload_n hx hb dX8_row_34 rfl (lv_at hl 1 rfl) ?_
      refine va_get (D := D) (ci := 6) (v := .ref (a 4)) (C := RX8) (T := TX8) (N := 8) hx hb hts hiX8 hown hK hP 0 rfl rfl 3 (by decide) k33 (fun _ h9 => h9) rfl dX8_row_35 ?_
      refine lv_iload_n hx hb dX8_row_38 rfl (lv_at hl 0 rfl) ?_
      obtain ⟨o6, ho6, hf⟩ := ob_e hf
      refine w_callV (b := a 4) (As := [.int o5.1]) (rest := []) ⟨hx, hb, hml, hown, hts⟩ (c_X3_forget l D cI a tb o5.2 o5.1 o6 ho6) (cwV 1 hts gX8_row_X3_forget rfl rfl rfl (by decide +kernel) ⟨Nat.le_of_ble_eq_true rfl, Nat.le_of_ble_eq_true rfl⟩) hP hK hD hZ hS (va_recv hK hP (ci := 2) (q0 := 4) rfl rfl) rfl hl.1 rfl (Nat.le_of_ble_eq_true rfl) ⟨Nat.zero_le _, Nat.zero_le _⟩ dX8_row_39 (fun H locs hP hS => ?_)
      refine lv_aload_n hx hb dX8_row_42 rfl (lv_at hl 1 rfl) ?_
      refine lv_iconst (v := 0) hx hb dX8_row_43 (by decide) ?_
      obtain ⟨s7, es7, hf⟩ := bnd_e hf
      refine va_put (D := D) (ci := 6) (v := .int 0) (ty := .boolean) (C := RX8) (T := TX8) (N := 8) hx hb hts hiX8 tyX8 tyX8_ok nmX8 hown hK hP (hD o6) hS 0 rfl rfl 7 (by decide) k57 (fun _ h9 => h9) rfl (by decide +kernel) rfl rfl (Nat.le_of_ble_eq_true rfl) dX8_row_44 (fun H locs hP _ hS => ?_)
      have hP : va_P D vwCl (cw cI a s7) H := by rw [es7]; exact hP
      refine lv_iload_n hx hb dX8_row_47 rfl (lv_at hl 0 rfl) ?_
      exact W.iret (v := o5.1) hx hb hr (fun t ht _ => ⟨⟨o5.1, s7, rfl, so_p hf, p_at ht hP⟩, hS.F ht⟩) hS.2.2 dX8_row_48
    · replace hf := if_t hf c4
      refine lv_iconst (v := -1) hx hb dX8_row_20 (by decide) ?_
      exact W.iret (v := (-1)) hx hb hr (fun t ht _ => ⟨⟨(-1), st, rfl, so_p hf, p_at ht hP⟩, hS.F ht⟩) hS.2.2 dX8_row_21
set_option maxHeartbeats 4000000 in
set_option maxRecDepth 100000 in
theorem c_X8_clear (l : Launch) (D : va_G) (cI : ClassId) (a tb : Nat → Nat) (st : ST) (r : ST) (hf : fX8_clear st = some r) : MetV l yX8_clear wsX8_clear ({ frames := 1, cells := 0, slots := 0, locals := 20 }) [.ref (a 0)] D [(cI, .int)] (cw cI a) (cA a) tb st r := by
  refine met_of (cc := cX8_clear) (maxL := 1) (ret := none) (by decide) rfl (Nat.le_of_ble_eq_true rfl) ?_
  intro p e s m below meth c hx hb hr hml hts hown hlk hG ls hl
  have hown : s.vm.findClass RX8 = some m.cls := hown
  obtain ⟨hP, hK, hD, hZ⟩ := hG
  have hS : va_S (cA a) s.heap s.heap [] := va_S.rf
  have hl : lv_has ls 1 [(0, .ref (a 0))] := hl
  have hiX8 : ∀ w ∈ wsX80, w ∈ wsX8_clear := by decide +kernel
  have k25 := hts (.fieldLink RX8 25 "DayColumn" "cells" "LDayColumn$Texts;") (by decide +kernel)
  have k57 := hts (.fieldLink RX8 57 "DayColumn" "settled" "Z") (by decide +kernel)
  unfold fX8_clear at hf
  refine lv_aload_n hx hb dX8_clear_0 rfl (lv_at hl 0 rfl) ?_
  refine va_get (D := D) (ci := 6) (v := .ref (a 3)) (C := RX8) (T := TX8) (N := 8) hx hb hts hiX8 hown hK hP 0 rfl rfl 2 (by decide) k25 (fun _ h9 => h9) rfl dX8_clear_1 ?_
  obtain ⟨o1, ho1, hf⟩ := ob_e hf
  refine w_callV (b := a 3) (As := []) (rest := []) ⟨hx, hb, hml, hown, hts⟩ (c_X5_removeAll_c l D cI a tb st o1 ho1) (cwV 0 hts gX8_clear_X5_removeAll rfl rfl rfl (by decide +kernel) ⟨Nat.le_of_ble_eq_true rfl, Nat.le_of_ble_eq_true rfl⟩) hP hK hD hZ hS (va_recv hK hP (ci := 4) (q0 := 3) rfl rfl) rfl hl.1 rfl (Nat.le_of_ble_eq_true rfl) ⟨Nat.zero_le _, Nat.zero_le _⟩ dX8_clear_4 (fun H locs hP hS => ?_)
  refine lv_aload_n hx hb dX8_clear_7 rfl (lv_at hl 0 rfl) ?_
  refine lv_iconst (v := 0) hx hb dX8_clear_8 (by decide) ?_
  obtain ⟨s2, es2, hf⟩ := bnd_e hf
  refine va_put (D := D) (ci := 6) (v := .int 0) (ty := .boolean) (C := RX8) (T := TX8) (N := 8) hx hb hts hiX8 tyX8 tyX8_ok nmX8 hown hK hP (hD o1) hS 0 rfl rfl 7 (by decide) k57 (fun _ h9 => h9) rfl (by decide +kernel) rfl rfl (Nat.le_of_ble_eq_true rfl) dX8_clear_9 (fun H locs hP _ hS => ?_)
  have hP : va_P D vwCl (cw cI a s2) H := by rw [es2]; exact hP
  exact W.vret hx hb hr (fun t ht _ => ⟨⟨s2, rfl, so_i hf, p_at ht hP⟩, hS.F ht⟩) hS.2.2 dX8_clear_12
set_option maxHeartbeats 4000000 in
set_option maxRecDepth 100000 in
theorem c_X8_window (l : Launch) (D : va_G) (cI : ClassId) (a tb : Nat → Nat) (st : ST) (p1 : Int32) (r : Int32 × ST) (hf : fX8_window st p1 = some r) : MetW l yX8_window wsX8_window ({ frames := 0, cells := 0, slots := 0, locals := 0 }) [.ref (a 0), .int p1] D [(cI, .int)] (cw cI a) (cA a) tb st r := by
  refine met_of (cc := cX8_window) (maxL := 2) (ret := (some .boolean)) (by decide) rfl (Nat.le_of_ble_eq_true rfl) ?_
  intro p e s m below meth c hx hb hr hml hts hown hlk hG ls hl
  have hown : s.vm.findClass RX8 = some m.cls := hown
  obtain ⟨hP, hK, hD, hZ⟩ := hG
  have hS : va_S (cA a) s.heap s.heap [] := va_S.rf
  have hl : lv_has ls 2 [(0, .ref (a 0)), (1, .int p1)] := hl
  have hiX8 : ∀ w ∈ wsX80, w ∈ wsX8_window := by decide +kernel
  have k53 := hts (.fieldLink RX8 53 "DayColumn" "windowYear" "I") (by decide +kernel)
  have k57 := hts (.fieldLink RX8 57 "DayColumn" "settled" "Z") (by decide +kernel)
  unfold fX8_window at hf
  refine lv_iload_n hx hb dX8_window_0 rfl (lv_at hl 1 rfl) ?_
  refine lv_sipush (v := 1900) hx hb dX8_window_1 (by decide) ?_
  refine lv_icmp_lt (tgt := 14) hx hb dX8_window_4 (by decide) (fun c1 => ?_) (fun c1 => ?_)
  · replace hf := if_t hf c1
    refine lv_iconst (v := 0) hx hb dX8_window_14 (by decide) ?_
    exact W.zret (v := 0) hx hb hr rfl (fun t ht _ => ⟨⟨0, st, rfl, so_p hf, p_at ht hP⟩, hS.F ht⟩) hS.2.2 dX8_window_15
  · replace hf := if_f hf c1
    refine lv_iload_n hx hb dX8_window_7 rfl (lv_at hl 1 rfl) ?_
    refine lv_sipush (v := 2100) hx hb dX8_window_8 (by decide) ?_
    refine lv_icmp_le (tgt := 16) hx hb dX8_window_11 (by decide) (fun c2 => ?_) (fun c2 => ?_)
    · replace hf := if_t hf c2
      refine lv_aload_n hx hb dX8_window_16 rfl (lv_at hl 0 rfl) ?_
      refine lv_iload_n hx hb dX8_window_17 rfl (lv_at hl 1 rfl) ?_
      obtain ⟨s3, es3, hf⟩ := bnd_e hf
      refine va_put (D := D) (ci := 6) (v := .int p1) (ty := .int) (C := RX8) (T := TX8) (N := 8) hx hb hts hiX8 tyX8 tyX8_ok nmX8 hown hK hP (hD st) hS 0 rfl rfl 6 (by decide) k53 (fun _ h9 => h9) rfl (by decide +kernel) rfl rfl (Nat.le_of_ble_eq_true rfl) dX8_window_18 (fun H locs hP _ hS => ?_)
      have hP : va_P D vwCl (cw cI a s3) H := by rw [es3]; exact hP
      refine lv_aload_n hx hb dX8_window_21 rfl (lv_at hl 0 rfl) ?_
      refine lv_iconst (v := 0) hx hb dX8_window_22 (by decide) ?_
      obtain ⟨s4, es4, hf⟩ := bnd_e hf
      refine va_put (D := D) (ci := 6) (v := .int 0) (ty := .boolean) (C := RX8) (T := TX8) (N := 8) hx hb hts hiX8 tyX8 tyX8_ok nmX8 hown hK hP (hD s3) hS 0 rfl rfl 7 (by decide) k57 (fun _ h9 => h9) rfl (by decide +kernel) rfl rfl (Nat.le_of_ble_eq_true rfl) dX8_window_23 (fun H locs hP _ hS => ?_)
      have hP : va_P D vwCl (cw cI a s4) H := by rw [es4]; exact hP
      refine lv_iconst (v := 1) hx hb dX8_window_26 (by decide) ?_
      exact W.zret (v := 1) hx hb hr rfl (fun t ht _ => ⟨⟨1, s4, rfl, so_p hf, p_at ht hP⟩, hS.F ht⟩) hS.2.2 dX8_window_27
    · replace hf := if_f hf c2
      refine lv_iconst (v := 0) hx hb dX8_window_14 (by decide) ?_
      exact W.zret (v := 0) hx hb hr rfl (fun t ht _ => ⟨⟨0, st, rfl, so_p hf, p_at ht hP⟩, hS.F ht⟩) hS.2.2 dX8_window_15
set_option maxHeartbeats 4000000 in
set_option maxRecDepth 100000 in
theorem c_X8_price (l : Launch) (D : va_G) (cI : ClassId) (a tb : Nat → Nat) (st : ST) (p1 p2 : Int32) (r : Int32 × ST) (hf : fX8_price st p1 p2 = some r) : MetW l yX8_price wsX8_price ({ frames := 1, cells := 0, slots := 0, locals := 22 }) [.ref (a 0), .int p1, .int p2] D [(cI, .int)] (cw cI a) (cA a) tb st r := by
  refine met_of (cc := cX8_price) (maxL := 3) (ret := (some .boolean)) (by decide) rfl (Nat.le_of_ble_eq_true rfl) ?_
  intro p e s m below meth c hx hb hr hml hts hown hlk hG ls hl
  have hown : s.vm.findClass RX8 = some m.cls := hown
  obtain ⟨hP, hK, hD, hZ⟩ := hG
  have hS : va_S (cA a) s.heap s.heap [] := va_S.rf
  have hl : lv_has ls 3 [(0, .ref (a 0)), (1, .int p1), (2, .int p2)] := hl
  have hiX8 : ∀ w ∈ wsX80, w ∈ wsX8_price := by decide +kernel
  have k42 := hts (.fieldLink RX8 42 "DayColumn" "ways" "LDayColumn$Ways;") (by decide +kernel)
  have k57 := hts (.fieldLink RX8 57 "DayColumn" "settled" "Z") (by decide +kernel)
  unfold fX8_price at hf
  refine lv_iload_n hx hb dX8_price_0 rfl (lv_at hl 2 rfl) ?_
  obtain ⟨o1, ho1, hf⟩ := ob_e hf
  refine w_callT (As := [.int p2]) (rest := []) ⟨hx, hb, hml, hown, hts⟩ (c_X8_isPrice l tb p2 o1 ho1) (va_cwS 1 hts gX8_price_X8_isPrice rfl rfl rfl (by decide +kernel) ⟨Nat.le_of_ble_eq_true rfl, Nat.le_of_ble_eq_true rfl⟩) hZ hS rfl hl.1 rfl (Nat.le_of_ble_eq_true rfl) ⟨Nat.zero_le _, Nat.zero_le _⟩ dX8_price_1 ?_
  refine lv_if_eq (tgt := 19) hx hb dX8_price_4 (by decide) (fun c2 => ?_) (fun c2 => ?_)
  · replace hf := if_t hf c2
    refine lv_iconst (v := 0) hx hb dX8_price_19 (by decide) ?_
    exact W.zret (v := 0) hx hb hr rfl (fun t ht _ => ⟨⟨0, st, rfl, so_p hf, p_at ht hP⟩, hS.F ht⟩) hS.2.2 dX8_price_20
  · replace hf := if_f hf c2
    refine lv_aload_n hx hb dX8_price_7 rfl (lv_at hl 0 rfl) ?_
    refine va_get (D := D) (ci := 6) (v := .ref (a 6)) (C := RX8) (T := TX8) (N := 8) hx hb hts hiX8 hown hK hP 0 rfl rfl 4 (by decide) k42 (fun _ h9 => h9) rfl dX8_price_8 ?_
    refine lv_iload_n hx hb dX8_price_11 rfl (lv_at hl 1 rfl) ?_
    refine lv_iload_n hx hb dX8_price_12 rfl (lv_at hl 2 rfl) ?_
    obtain ⟨o3, ho3, hf⟩ := ob_e hf
    refine w_callW (b := a 6) (As := [.int p1, .int p2]) (rest := []) ⟨hx, hb, hml, hown, hts⟩ (c_X6_setPrice l D cI a tb st p1 p2 o3 ho3) (cwV 2 hts gX8_price_X6_setPrice rfl rfl rfl (by decide +kernel) ⟨Nat.le_of_ble_eq_true rfl, Nat.le_of_ble_eq_true rfl⟩) hP hK hD hZ hS (va_recv hK hP (ci := 5) (q0 := 6) rfl rfl) rfl hl.1 rfl (Nat.le_of_ble_eq_true rfl) ⟨Nat.zero_le _, Nat.zero_le _⟩ dX8_price_13 (fun H locs hP hS => ?_)
    refine lv_if_ne (tgt := 21) hx hb dX8_price_16 (by decide) (fun c4 => ?_) (fun c4 => ?_)
    · replace hf := if_f hf c4
      refine lv_aload_n hx hb dX8_price_21 rfl (lv_at hl 0 rfl) ?_
      refine lv_iconst (v := 0) hx hb dX8_price_22 (by decide) ?_
      obtain ⟨s5, es5, hf⟩ := bnd_e hf
      refine va_put (D := D) (ci := 6) (v := .int 0) (ty := .boolean) (C := RX8) (T := TX8) (N := 8) hx hb hts hiX8 tyX8 tyX8_ok nmX8 hown hK hP (hD o3.2) hS 0 rfl rfl 7 (by decide) k57 (fun _ h9 => h9) rfl (by decide +kernel) rfl rfl (Nat.le_of_ble_eq_true rfl) dX8_price_23 (fun H locs hP _ hS => ?_)
      have hP : va_P D vwCl (cw cI a s5) H := by rw [es5]; exact hP
      refine lv_iconst (v := 1) hx hb dX8_price_26 (by decide) ?_
      exact W.zret (v := 1) hx hb hr rfl (fun t ht _ => ⟨⟨1, s5, rfl, so_p hf, p_at ht hP⟩, hS.F ht⟩) hS.2.2 dX8_price_27
    · replace hf := if_t hf c4
      refine lv_iconst (v := 0) hx hb dX8_price_19 (by decide) ?_
      exact W.zret (v := 0) hx hb hr rfl (fun t ht _ => ⟨⟨0, o3.2, rfl, so_p hf, p_at ht hP⟩, hS.F ht⟩) hS.2.2 dX8_price_20
set_option maxHeartbeats 4000000 in
set_option maxRecDepth 100000 in
theorem c_X8_read (l : Launch) (D : va_G) (cI : ClassId) (a tb : Nat → Nat) (st : ST) (p1 p2 p3 : Int32) (r : Int32 × ST) (hf : fX8_read st p1 p2 p3 = some r) : MetW l yX8_read wsX8_read ({ frames := 5, cells := 0, slots := 0, locals := 121 }) [.ref (a 0), .int p1, .int p2, .int p3] D [(cI, .int)] (cw cI a) (cA a) tb st r := by
  refine met_of (cc := cX8_read) (maxL := 4) (ret := (some .int)) (by decide) rfl (Nat.le_of_ble_eq_true rfl) ?_
  intro p e s m below meth c hx hb hr hml hts hown hlk hG ls hl
  have hown : s.vm.findClass RX8 = some m.cls := hown
  obtain ⟨hP, hK, hD, hZ⟩ := hG
  have hS : va_S (cA a) s.heap s.heap [] := va_S.rf
  have hl : lv_has ls 4 [(0, .ref (a 0)), (1, .int p1), (2, .int p2), (3, .int p3)] := hl
  have hiX8 : ∀ w ∈ wsX80, w ∈ wsX8_read := by decide +kernel
  have k21 := hts (.fieldLink RX8 21 "DayColumn" "patterns" "LDayColumn$Texts;") (by decide +kernel)
  have k25 := hts (.fieldLink RX8 25 "DayColumn" "cells" "LDayColumn$Texts;") (by decide +kernel)
  have k33 := hts (.fieldLink RX8 33 "DayColumn" "table" "LDayColumn$Readings;") (by decide +kernel)
  have k53 := hts (.fieldLink RX8 53 "DayColumn" "windowYear" "I") (by decide +kernel)
  unfold fX8_read at hf
  refine lv_aload_n hx hb dX8_read_0 rfl (lv_at hl 0 rfl) ?_
  refine va_get (D := D) (ci := 6) (v := .ref (a 3)) (C := RX8) (T := TX8) (N := 8) hx hb hts hiX8 hown hK hP 0 rfl rfl 2 (by decide) k25 (fun _ h9 => h9) rfl dX8_read_1 ?_
  refine lv_iload_n hx hb dX8_read_4 rfl (lv_at hl 1 rfl) ?_
  obtain ⟨o1, ho1, hf⟩ := ob_e hf
  refine w_callR (b := a 3) (As := [.int p1]) (rest := []) ⟨hx, hb, hml, hown, hts⟩ (c_X5_has_c l D cI a tb st p1 o1 ho1) (cwV 1 hts gX8_read_X5_has rfl rfl rfl (by decide +kernel) ⟨Nat.le_of_ble_eq_true rfl, Nat.le_of_ble_eq_true rfl⟩) hP hK hD hZ hS (va_recv hK hP (ci := 4) (q0 := 3) rfl rfl) rfl hl.1 rfl (Nat.le_of_ble_eq_true rfl) ⟨Nat.zero_le _, Nat.zero_le _⟩ dX8_read_5 ?_
  refine lv_if_eq (tgt := 22) hx hb dX8_read_8 (by decide) (fun c2 => ?_) (fun c2 => ?_)
  · replace hf := if_t hf c2
    refine lv_iconst (v := -1) hx hb dX8_read_22 (by decide) ?_
    exact W.iret (v := (-1)) hx hb hr (fun t ht _ => ⟨⟨(-1), st, rfl, so_p hf, p_at ht hP⟩, hS.F ht⟩) hS.2.2 dX8_read_23
  · replace hf := if_f hf c2
    refine lv_aload_n hx hb dX8_read_11 rfl (lv_at hl 0 rfl) ?_
    refine va_get (D := D) (ci := 6) (v := .ref (a 2)) (C := RX8) (T := TX8) (N := 8) hx hb hts hiX8 hown hK hP 0 rfl rfl 1 (by decide) k21 (fun _ h9 => h9) rfl dX8_read_12 ?_
    refine lv_iload_n hx hb dX8_read_15 rfl (lv_at hl 2 rfl) ?_
    obtain ⟨o3, ho3, hf⟩ := ob_e hf
    refine w_callR (b := a 2) (As := [.int p2]) (rest := []) ⟨hx, hb, hml, hown, hts⟩ (c_X5_has_p l D cI a tb st p2 o3 ho3) (cwV 1 hts gX8_read_X5_has rfl rfl rfl (by decide +kernel) ⟨Nat.le_of_ble_eq_true rfl, Nat.le_of_ble_eq_true rfl⟩) hP hK hD hZ hS (va_recv hK hP (ci := 4) (q0 := 2) rfl rfl) rfl hl.1 rfl (Nat.le_of_ble_eq_true rfl) ⟨Nat.zero_le _, Nat.zero_le _⟩ dX8_read_16 ?_
    refine lv_if_ne (tgt := 24) hx hb dX8_read_19 (by decide) (fun c4 => ?_) (fun c4 => ?_)
    · replace hf := if_f hf c4
      refine lv_aload_n hx hb dX8_read_24 rfl (lv_at hl 0 rfl) ?_
      refine va_get (D := D) (ci := 6) (v := .ref (a 4)) (C := RX8) (T := TX8) (N := 8) hx hb hts hiX8 hown hK hP 0 rfl rfl 3 (by decide) k33 (fun _ h9 => h9) rfl dX8_read_25 ?_
      refine lv_iload_n hx hb dX8_read_28 rfl (lv_at hl 1 rfl) ?_
      refine lv_aload_n hx hb dX8_read_29 rfl (lv_at hl 0 rfl) ?_
      refine va_get (D := D) (ci := 6) (v := .int (st.1 0)) (C := RX8) (T := TX8) (N := 8) hx hb hts hiX8 hown hK hP 0 rfl rfl 6 (by decide) k53 (fun _ h9 => h9) rfl dX8_read_30 ?_
      obtain ⟨o5, ho5, hf⟩ := ob_e hf
      refine w_callV (b := a 4) (As := [.int p1, .int (st.1 0)]) (rest := []) ⟨hx, hb, hml, hown, hts⟩ (c_X3_bring l D cI a tb st p1 (st.1 0) o5 ho5) (cwV 2 hts gX8_read_X3_bring rfl rfl rfl (by decide +kernel) ⟨Nat.le_of_ble_eq_true rfl, Nat.le_of_ble_eq_true rfl⟩) hP hK hD hZ hS (va_recv hK hP (ci := 2) (q0 := 4) rfl rfl) rfl hl.1 rfl (Nat.le_of_ble_eq_true rfl) ⟨Nat.zero_le _, Nat.zero_le _⟩ dX8_read_33 (fun H locs hP hS => ?_)
      refine lv_aload_n hx hb dX8_read_36 rfl (lv_at hl 0 rfl) ?_
      refine va_get (D := D) (ci := 6) (v := .ref (a 4)) (C := RX8) (T := TX8) (N := 8) hx hb hts hiX8 hown hK hP 0 rfl rfl 3 (by decide) k33 (fun _ h9 => h9) rfl dX8_read_37 ?_
      refine lv_iload_n hx hb dX8_read_40 rfl (lv_at hl 1 rfl) ?_
      refine lv_iload_n hx hb dX8_read_41 rfl (lv_at hl 2 rfl) ?_
      refine lv_iload_n hx hb dX8_read_42 rfl (lv_at hl 3 rfl) ?_
      obtain ⟨o6, ho6, hf⟩ := ob_e hf
      refine w_callR (b := a 4) (As := [.int p1, .int p2, .int p3]) (rest := []) ⟨hx, hb, hml, hown, hts⟩ (c_X3_edge l D cI a tb o5 p1 p2 p3 o6 ho6) (cwV 3 hts gX8_read_X3_edge rfl rfl rfl (by decide +kernel) ⟨Nat.le_of_ble_eq_true rfl, Nat.le_of_ble_eq_true rfl⟩) hP hK hD hZ hS (va_recv hK hP (ci := 2) (q0 := 4) rfl rfl) rfl hl.1 rfl (Nat.le_of_ble_eq_true rfl) ⟨Nat.zero_le _, Nat.zero_le _⟩ dX8_read_43 ?_
      exact W.iret (v := o6) hx hb hr (fun t ht _ => ⟨⟨o6, o5, rfl, so_p hf, p_at ht hP⟩, hS.F ht⟩) hS.2.2 dX8_read_46
    · replace hf := if_t hf c4
      refine lv_iconst (v := -1) hx hb dX8_read_22 (by decide) ?_
      exact W.iret (v := (-1)) hx hb hr (fun t ht _ => ⟨⟨(-1), st, rfl, so_p hf, p_at ht hP⟩, hS.F ht⟩) hS.2.2 dX8_read_23
set_option maxHeartbeats 4000000 in
set_option maxRecDepth 100000 in
theorem c_X8_readings (l : Launch) (D : va_G) (cI : ClassId) (a tb : Nat → Nat) (st : ST) (p1 : Int32) (r : Int32 × ST) (hf : fX8_readings st p1 = some r) : MetW l yX8_readings wsX8_readings ({ frames := 5, cells := 0, slots := 0, locals := 121 }) [.ref (a 0), .int p1] D [(cI, .int)] (cw cI a) (cA a) tb st r := by
  refine met_of (cc := cX8_readings) (maxL := 2) (ret := (some .int)) (by decide) rfl (Nat.le_of_ble_eq_true rfl) ?_
  intro p e s m below meth c hx hb hr hml hts hown hlk hG ls hl
  have hown : s.vm.findClass RX8 = some m.cls := hown
  obtain ⟨hP, hK, hD, hZ⟩ := hG
  have hS : va_S (cA a) s.heap s.heap [] := va_S.rf
  have hl : lv_has ls 2 [(0, .ref (a 0)), (1, .int p1)] := hl
  have hiX8 : ∀ w ∈ wsX80, w ∈ wsX8_readings := by decide +kernel
  have k25 := hts (.fieldLink RX8 25 "DayColumn" "cells" "LDayColumn$Texts;") (by decide +kernel)
  have k33 := hts (.fieldLink RX8 33 "DayColumn" "table" "LDayColumn$Readings;") (by decide +kernel)
  have k53 := hts (.fieldLink RX8 53 "DayColumn" "windowYear" "I") (by decide +kernel)
  unfold fX8_readings at hf
  refine lv_aload_n hx hb dX8_readings_0 rfl (lv_at hl 0 rfl) ?_
  refine va_get (D := D) (ci := 6) (v := .ref (a 3)) (C := RX8) (T := TX8) (N := 8) hx hb hts hiX8 hown hK hP 0 rfl rfl 2 (by decide) k25 (fun _ h9 => h9) rfl dX8_readings_1 ?_
  refine lv_iload_n hx hb dX8_readings_4 rfl (lv_at hl 1 rfl) ?_
  obtain ⟨o1, ho1, hf⟩ := ob_e hf
  refine w_callR (b := a 3) (As := [.int p1]) (rest := []) ⟨hx, hb, hml, hown, hts⟩ (c_X5_has_c l D cI a tb st p1 o1 ho1) (cwV 1 hts gX8_readings_X5_has rfl rfl rfl (by decide +kernel) ⟨Nat.le_of_ble_eq_true rfl, Nat.le_of_ble_eq_true rfl⟩) hP hK hD hZ hS (va_recv hK hP (ci := 4) (q0 := 3) rfl rfl) rfl hl.1 rfl (Nat.le_of_ble_eq_true rfl) ⟨Nat.zero_le _, Nat.zero_le _⟩ dX8_readings_5 ?_
  refine lv_if_ne (tgt := 13) hx hb dX8_readings_8 (by decide) (fun c2 => ?_) (fun c2 => ?_)
  · replace hf := if_f hf c2
    refine lv_aload_n hx hb dX8_readings_13 rfl (lv_at hl 0 rfl) ?_
    refine va_get (D := D) (ci := 6) (v := .ref (a 4)) (C := RX8) (T := TX8) (N := 8) hx hb hts hiX8 hown hK hP 0 rfl rfl 3 (by decide) k33 (fun _ h9 => h9) rfl dX8_readings_14 ?_
    refine lv_iload_n hx hb dX8_readings_17 rfl (lv_at hl 1 rfl) ?_
    refine lv_aload_n hx hb dX8_readings_18 rfl (lv_at hl 0 rfl) ?_
    refine va_get (D := D) (ci := 6) (v := .int (st.1 0)) (C := RX8) (T := TX8) (N := 8) hx hb hts hiX8 hown hK hP 0 rfl rfl 6 (by decide) k53 (fun _ h9 => h9) rfl dX8_readings_19 ?_
    obtain ⟨o3, ho3, hf⟩ := ob_e hf
    refine w_callV (b := a 4) (As := [.int p1, .int (st.1 0)]) (rest := []) ⟨hx, hb, hml, hown, hts⟩ (c_X3_bring l D cI a tb st p1 (st.1 0) o3 ho3) (cwV 2 hts gX8_readings_X3_bring rfl rfl rfl (by decide +kernel) ⟨Nat.le_of_ble_eq_true rfl, Nat.le_of_ble_eq_true rfl⟩) hP hK hD hZ hS (va_recv hK hP (ci := 2) (q0 := 4) rfl rfl) rfl hl.1 rfl (Nat.le_of_ble_eq_true rfl) ⟨Nat.zero_le _, Nat.zero_le _⟩ dX8_readings_22 (fun H locs hP hS => ?_)
    refine lv_aload_n hx hb dX8_readings_25 rfl (lv_at hl 0 rfl) ?_
    refine va_get (D := D) (ci := 6) (v := .ref (a 4)) (C := RX8) (T := TX8) (N := 8) hx hb hts hiX8 hown hK hP 0 rfl rfl 3 (by decide) k33 (fun _ h9 => h9) rfl dX8_readings_26 ?_
    refine lv_iload_n hx hb dX8_readings_29 rfl (lv_at hl 1 rfl) ?_
    obtain ⟨o4, ho4, hf⟩ := ob_e hf
    refine w_callR (b := a 4) (As := [.int p1]) (rest := []) ⟨hx, hb, hml, hown, hts⟩ (c_X3_unlike l D cI a tb o3 p1 o4 ho4) (cwV 1 hts gX8_readings_X3_unlike rfl rfl rfl (by decide +kernel) ⟨Nat.le_of_ble_eq_true rfl, Nat.le_of_ble_eq_true rfl⟩) hP hK hD hZ hS (va_recv hK hP (ci := 2) (q0 := 4) rfl rfl) rfl hl.1 rfl (Nat.le_of_ble_eq_true rfl) ⟨Nat.zero_le _, Nat.zero_le _⟩ dX8_readings_30 ?_
    exact W.iret (v := o4) hx hb hr (fun t ht _ => ⟨⟨o4, o3, rfl, so_p hf, p_at ht hP⟩, hS.F ht⟩) hS.2.2 dX8_readings_33
  · replace hf := if_t hf c2
    refine lv_iconst (v := -1) hx hb dX8_readings_11 (by decide) ?_
    exact W.iret (v := (-1)) hx hb hr (fun t ht _ => ⟨⟨(-1), st, rfl, so_p hf, p_at ht hP⟩, hS.F ht⟩) hS.2.2 dX8_readings_12
set_option maxHeartbeats 4000000 in
set_option maxRecDepth 100000 in
theorem c_X8_cost (l : Launch) (D : va_G) (cI : ClassId) (a tb : Nat → Nat) (st : ST) (r : Int32 × ST) (hf : fX8_cost st = some r) : MetW l yX8_cost wsX8_cost ({ frames := 6, cells := 0, slots := 0, locals := 142 }) [.ref (a 0)] D [(cI, .int)] (cw cI a) (cA a) tb st r := by
  refine met_of (cc := cX8_cost) (maxL := 1) (ret := (some .int)) (by decide) rfl (Nat.le_of_ble_eq_true rfl) ?_
  intro p e s m below meth c hx hb hr hml hts hown hlk hG ls hl
  have hown : s.vm.findClass RX8 = some m.cls := hown
  obtain ⟨hP, hK, hD, hZ⟩ := hG
  have hS : va_S (cA a) s.heap s.heap [] := va_S.rf
  have hl : lv_has ls 1 [(0, .ref (a 0))] := hl
  have hiX8 : ∀ w ∈ wsX80, w ∈ wsX8_cost := by decide +kernel
  have k42 := hts (.fieldLink RX8 42 "DayColumn" "ways" "LDayColumn$Ways;") (by decide +kernel)
  unfold fX8_cost at hf
  refine lv_aload_n hx hb dX8_cost_0 rfl (lv_at hl 0 rfl) ?_
  obtain ⟨o1, ho1, hf⟩ := ob_e hf
  refine w_callW (b := a 0) (As := []) (rest := []) ⟨hx, hb, hml, hown, hts⟩ (c_X8_settle l D cI a tb st o1 ho1) (cwV 0 hts gX8_cost_X8_settle rfl rfl rfl (by decide +kernel) ⟨Nat.le_of_ble_eq_true rfl, Nat.le_of_ble_eq_true rfl⟩) hP hK hD hZ hS (va_recv hK hP (ci := 6) (q0 := 0) rfl rfl) rfl hl.1 rfl (Nat.le_of_ble_eq_true rfl) ⟨Nat.zero_le _, Nat.zero_le _⟩ dX8_cost_1 (fun H locs hP hS => ?_)
  refine lv_if_eq (tgt := 17) hx hb dX8_cost_4 (by decide) (fun c2 => ?_) (fun c2 => ?_)
  · replace hf := if_t hf c2
    refine lv_iconst (v := -1) hx hb dX8_cost_17 (by decide) ?_
    exact W.iret (v := (-1)) hx hb hr (fun t ht _ => ⟨⟨(-1), o1.2, rfl, so_p hf, p_at ht hP⟩, hS.F ht⟩) hS.2.2 dX8_cost_18
  · replace hf := if_f hf c2
    refine lv_aload_n hx hb dX8_cost_7 rfl (lv_at hl 0 rfl) ?_
    refine va_get (D := D) (ci := 6) (v := .ref (a 6)) (C := RX8) (T := TX8) (N := 8) hx hb hts hiX8 hown hK hP 0 rfl rfl 4 (by decide) k42 (fun _ h9 => h9) rfl dX8_cost_8 ?_
    obtain ⟨o3, ho3, hf⟩ := ob_e hf
    refine w_callR (b := a 6) (As := []) (rest := []) ⟨hx, hb, hml, hown, hts⟩ (c_X6_leastCost l D cI a tb o1.2 o3 ho3) (cwV 0 hts gX8_cost_X6_leastCost rfl rfl rfl (by decide +kernel) ⟨Nat.le_of_ble_eq_true rfl, Nat.le_of_ble_eq_true rfl⟩) hP hK hD hZ hS (va_recv hK hP (ci := 5) (q0 := 6) rfl rfl) rfl hl.1 rfl (Nat.le_of_ble_eq_true rfl) ⟨Nat.zero_le _, Nat.zero_le _⟩ dX8_cost_11 ?_
    refine lv_goto (tgt := 18) hx hb dX8_cost_14 (by decide) ?_
    exact W.iret (v := o3) hx hb hr (fun t ht _ => ⟨⟨o3, o1.2, rfl, so_p hf, p_at ht hP⟩, hS.F ht⟩) hS.2.2 dX8_cost_18
set_option maxHeartbeats 4000000 in
set_option maxRecDepth 100000 in
theorem c_X8_told (l : Launch) (D : va_G) (cI : ClassId) (a tb : Nat → Nat) (st : ST) (p1 : Int32) (r : Int32 × ST) (hf : fX8_told st p1 = some r) : MetW l yX8_told wsX8_told ({ frames := 6, cells := 0, slots := 0, locals := 142 }) [.ref (a 0), .int p1] D [(cI, .int)] (cw cI a) (cA a) tb st r := by
  refine met_of (cc := cX8_told) (maxL := 2) (ret := (some .int)) (by decide) rfl (Nat.le_of_ble_eq_true rfl) ?_
  intro p e s m below meth c hx hb hr hml hts hown hlk hG ls hl
  have hown : s.vm.findClass RX8 = some m.cls := hown
  obtain ⟨hP, hK, hD, hZ⟩ := hG
  have hS : va_S (cA a) s.heap s.heap [] := va_S.rf
  have hl : lv_has ls 2 [(0, .ref (a 0)), (1, .int p1)] := hl
  have hiX8 : ∀ w ∈ wsX80, w ∈ wsX8_told := by decide +kernel
  have k25 := hts (.fieldLink RX8 25 "DayColumn" "cells" "LDayColumn$Texts;") (by decide +kernel)
  have k42 := hts (.fieldLink RX8 42 "DayColumn" "ways" "LDayColumn$Ways;") (by decide +kernel)
  unfold fX8_told at hf
  refine lv_aload_n hx hb dX8_told_0 rfl (lv_at hl 0 rfl) ?_
  obtain ⟨o1, ho1, hf⟩ := ob_e hf
  refine w_callW (b := a 0) (As := []) (rest := []) ⟨hx, hb, hml, hown, hts⟩ (c_X8_settle l D cI a tb st o1 ho1) (cwV 0 hts gX8_told_X8_settle rfl rfl rfl (by decide +kernel) ⟨Nat.le_of_ble_eq_true rfl, Nat.le_of_ble_eq_true rfl⟩) hP hK hD hZ hS (va_recv hK hP (ci := 6) (q0 := 0) rfl rfl) rfl hl.1 rfl (Nat.le_of_ble_eq_true rfl) ⟨Nat.zero_le _, Nat.zero_le _⟩ dX8_told_1 (fun H locs hP hS => ?_)
  refine lv_if_eq (tgt := 29) hx hb dX8_told_4 (by decide) (fun c2 => ?_) (fun c2 => ?_)
  · replace hf := if_t hf c2
    refine lv_iconst (v := -1) hx hb dX8_told_29 (by decide) ?_
    exact W.iret (v := (-1)) hx hb hr (fun t ht _ => ⟨⟨(-1), o1.2, rfl, so_p hf, p_at ht hP⟩, hS.F ht⟩) hS.2.2 dX8_told_30
  · replace hf := if_f hf c2
    refine lv_aload_n hx hb dX8_told_7 rfl (lv_at hl 0 rfl) ?_
    refine va_get (D := D) (ci := 6) (v := .ref (a 3)) (C := RX8) (T := TX8) (N := 8) hx hb hts hiX8 hown hK hP 0 rfl rfl 2 (by decide) k25 (fun _ h9 => h9) rfl dX8_told_8 ?_
    refine lv_iload_n hx hb dX8_told_11 rfl (lv_at hl 1 rfl) ?_
    obtain ⟨o3, ho3, hf⟩ := ob_e hf
    refine w_callR (b := a 3) (As := [.int p1]) (rest := []) ⟨hx, hb, hml, hown, hts⟩ (c_X5_has_c l D cI a tb o1.2 p1 o3 ho3) (cwV 1 hts gX8_told_X5_has rfl rfl rfl (by decide +kernel) ⟨Nat.le_of_ble_eq_true rfl, Nat.le_of_ble_eq_true rfl⟩) hP hK hD hZ hS (va_recv hK hP (ci := 4) (q0 := 3) rfl rfl) rfl hl.1 rfl (Nat.le_of_ble_eq_true rfl) ⟨Nat.zero_le _, Nat.zero_le _⟩ dX8_told_12 ?_
    refine lv_if_eq (tgt := 29) hx hb dX8_told_15 (by decide) (fun c4 => ?_) (fun c4 => ?_)
    · replace hf := if_t hf c4
      refine lv_iconst (v := -1) hx hb dX8_told_29 (by decide) ?_
      exact W.iret (v := (-1)) hx hb hr (fun t ht _ => ⟨⟨(-1), o1.2, rfl, so_p hf, p_at ht hP⟩, hS.F ht⟩) hS.2.2 dX8_told_30
    · replace hf := if_f hf c4
      refine lv_aload_n hx hb dX8_told_18 rfl (lv_at hl 0 rfl) ?_
      refine va_get (D := D) (ci := 6) (v := .ref (a 6)) (C := RX8) (T := TX8) (N := 8) hx hb hts hiX8 hown hK hP 0 rfl rfl 4 (by decide) k42 (fun _ h9 => h9) rfl dX8_told_19 ?_
      refine lv_iload_n hx hb dX8_told_22 rfl (lv_at hl 1 rfl) ?_
      obtain ⟨o5, ho5, hf⟩ := ob_e hf
      refine w_callR (b := a 6) (As := [.int p1]) (rest := []) ⟨hx, hb, hml, hown, hts⟩ (c_X6_styleOf l D cI a tb o1.2 p1 o5 ho5) (cwV 1 hts gX8_told_X6_styleOf rfl rfl rfl (by decide +kernel) ⟨Nat.le_of_ble_eq_true rfl, Nat.le_of_ble_eq_true rfl⟩) hP hK hD hZ hS (va_recv hK hP (ci := 5) (q0 := 6) rfl rfl) rfl hl.1 rfl (Nat.le_of_ble_eq_true rfl) ⟨Nat.zero_le _, Nat.zero_le _⟩ dX8_told_23 ?_
      refine lv_goto (tgt := 30) hx hb dX8_told_26 (by decide) ?_
      exact W.iret (v := o5) hx hb hr (fun t ht _ => ⟨⟨o5, o1.2, rfl, so_p hf, p_at ht hP⟩, hS.F ht⟩) hS.2.2 dX8_told_30
set_option maxHeartbeats 4000000 in
set_option maxRecDepth 100000 in
theorem c_X8_day (l : Launch) (D : va_G) (cI : ClassId) (a tb : Nat → Nat) (st : ST) (p1 p2 : Int32) (r : Int32 × ST) (hf : fX8_day st p1 p2 = some r) : MetW l yX8_day wsX8_day ({ frames := 6, cells := 0, slots := 0, locals := 142 }) [.ref (a 0), .int p1, .int p2] D [(cI, .int)] (cw cI a) (cA a) tb st r := by
  refine met_of (cc := cX8_day) (maxL := 3) (ret := (some .int)) (by decide) rfl (Nat.le_of_ble_eq_true rfl) ?_
  intro p e s m below meth c hx hb hr hml hts hown hlk hG ls hl
  have hown : s.vm.findClass RX8 = some m.cls := hown
  obtain ⟨hP, hK, hD, hZ⟩ := hG
  have hS : va_S (cA a) s.heap s.heap [] := va_S.rf
  have hl : lv_has ls 3 [(0, .ref (a 0)), (1, .int p1), (2, .int p2)] := hl
  have hiX8 : ∀ w ∈ wsX80, w ∈ wsX8_day := by decide +kernel
  have k25 := hts (.fieldLink RX8 25 "DayColumn" "cells" "LDayColumn$Texts;") (by decide +kernel)
  have k33 := hts (.fieldLink RX8 33 "DayColumn" "table" "LDayColumn$Readings;") (by decide +kernel)
  have k42 := hts (.fieldLink RX8 42 "DayColumn" "ways" "LDayColumn$Ways;") (by decide +kernel)
  unfold fX8_day at hf
  refine lv_aload_n hx hb dX8_day_0 rfl (lv_at hl 0 rfl) ?_
  obtain ⟨o1, ho1, hf⟩ := ob_e hf
  refine w_callW (b := a 0) (As := []) (rest := []) ⟨hx, hb, hml, hown, hts⟩ (c_X8_settle l D cI a tb st o1 ho1) (cwV 0 hts gX8_day_X8_settle rfl rfl rfl (by decide +kernel) ⟨Nat.le_of_ble_eq_true rfl, Nat.le_of_ble_eq_true rfl⟩) hP hK hD hZ hS (va_recv hK hP (ci := 6) (q0 := 0) rfl rfl) rfl hl.1 rfl (Nat.le_of_ble_eq_true rfl) ⟨Nat.zero_le _, Nat.zero_le _⟩ dX8_day_1 (fun H locs hP hS => ?_)
  refine lv_if_eq (tgt := 38) hx hb dX8_day_4 (by decide) (fun c2 => ?_) (fun c2 => ?_)
  · replace hf := if_t hf c2
    refine lv_iconst (v := -1) hx hb dX8_day_38 (by decide) ?_
    exact W.iret (v := (-1)) hx hb hr (fun t ht _ => ⟨⟨(-1), o1.2, rfl, so_p hf, p_at ht hP⟩, hS.F ht⟩) hS.2.2 dX8_day_39
  · replace hf := if_f hf c2
    refine lv_aload_n hx hb dX8_day_7 rfl (lv_at hl 0 rfl) ?_
    refine va_get (D := D) (ci := 6) (v := .ref (a 3)) (C := RX8) (T := TX8) (N := 8) hx hb hts hiX8 hown hK hP 0 rfl rfl 2 (by decide) k25 (fun _ h9 => h9) rfl dX8_day_8 ?_
    refine lv_iload_n hx hb dX8_day_11 rfl (lv_at hl 1 rfl) ?_
    obtain ⟨o3, ho3, hf⟩ := ob_e hf
    refine w_callR (b := a 3) (As := [.int p1]) (rest := []) ⟨hx, hb, hml, hown, hts⟩ (c_X5_has_c l D cI a tb o1.2 p1 o3 ho3) (cwV 1 hts gX8_day_X5_has rfl rfl rfl (by decide +kernel) ⟨Nat.le_of_ble_eq_true rfl, Nat.le_of_ble_eq_true rfl⟩) hP hK hD hZ hS (va_recv hK hP (ci := 4) (q0 := 3) rfl rfl) rfl hl.1 rfl (Nat.le_of_ble_eq_true rfl) ⟨Nat.zero_le _, Nat.zero_le _⟩ dX8_day_12 ?_
    refine lv_if_eq (tgt := 38) hx hb dX8_day_15 (by decide) (fun c4 => ?_) (fun c4 => ?_)
    · replace hf := if_t hf c4
      refine lv_iconst (v := -1) hx hb dX8_day_38 (by decide) ?_
      exact W.iret (v := (-1)) hx hb hr (fun t ht _ => ⟨⟨(-1), o1.2, rfl, so_p hf, p_at ht hP⟩, hS.F ht⟩) hS.2.2 dX8_day_39
    · replace hf := if_f hf c4
      refine lv_aload_n hx hb dX8_day_18 rfl (lv_at hl 0 rfl) ?_
      refine va_get (D := D) (ci := 6) (v := .ref (a 4)) (C := RX8) (T := TX8) (N := 8) hx hb hts hiX8 hown hK hP 0 rfl rfl 3 (by decide) k33 (fun _ h9 => h9) rfl dX8_day_19 ?_
      refine lv_iload_n hx hb dX8_day_22 rfl (lv_at hl 1 rfl) ?_
      refine lv_aload_n hx hb dX8_day_23 rfl (lv_at hl 0 rfl) ?_
      refine va_get (D := D) (ci := 6) (v := .ref (a 6)) (C := RX8) (T := TX8) (N := 8) hx hb hts hiX8 hown hK hP 0 rfl rfl 4 (by decide) k42 (fun _ h9 => h9) rfl dX8_day_24 ?_
      refine lv_iload_n hx hb dX8_day_27 rfl (lv_at hl 1 rfl) ?_
      obtain ⟨o5, ho5, hf⟩ := ob_e hf
      refine w_callR (b := a 6) (As := [.int p1]) (rest := [.int p1, .ref (a 4)]) ⟨hx, hb, hml, hown, hts⟩ (c_X6_styleOf l D cI a tb o1.2 p1 o5 ho5) (cwV 1 hts gX8_day_X6_styleOf rfl rfl rfl (by decide +kernel) ⟨Nat.le_of_ble_eq_true rfl, Nat.le_of_ble_eq_true rfl⟩) hP hK hD hZ hS (va_recv hK hP (ci := 5) (q0 := 6) rfl rfl) rfl hl.1 rfl (Nat.le_of_ble_eq_true rfl) ⟨Nat.zero_le _, Nat.zero_le _⟩ dX8_day_28 ?_
      refine lv_iload_n hx hb dX8_day_31 rfl (lv_at hl 2 rfl) ?_
      obtain ⟨o6, ho6, hf⟩ := ob_e hf
      refine w_callR (b := a 4) (As := [.int p1, .int o5, .int p2]) (rest := []) ⟨hx, hb, hml, hown, hts⟩ (c_X3_edge l D cI a tb o1.2 p1 o5 p2 o6 ho6) (cwV 3 hts gX8_day_X3_edge rfl rfl rfl (by decide +kernel) ⟨Nat.le_of_ble_eq_true rfl, Nat.le_of_ble_eq_true rfl⟩) hP hK hD hZ hS (va_recv hK hP (ci := 2) (q0 := 4) rfl rfl) rfl hl.1 rfl (Nat.le_of_ble_eq_true rfl) ⟨Nat.zero_le _, Nat.zero_le _⟩ dX8_day_32 ?_
      refine lv_goto (tgt := 39) hx hb dX8_day_35 (by decide) ?_
      exact W.iret (v := o6) hx hb hr (fun t ht _ => ⟨⟨o6, o1.2, rfl, so_p hf, p_at ht hP⟩, hS.F ht⟩) hS.2.2 dX8_day_39
set_option maxHeartbeats 4000000 in
set_option maxRecDepth 100000 in
theorem c_X8_kind (l : Launch) (D : va_G) (cI : ClassId) (a tb : Nat → Nat) (st : ST) (p1 : Int32) (r : Int32 × ST) (hf : fX8_kind st p1 = some r) : MetW l yX8_kind wsX8_kind ({ frames := 6, cells := 0, slots := 0, locals := 142 }) [.ref (a 0), .int p1] D [(cI, .int)] (cw cI a) (cA a) tb st r := by
  refine met_of (cc := cX8_kind) (maxL := 2) (ret := (some .int)) (by decide) rfl (Nat.le_of_ble_eq_true rfl) ?_
  intro p e s m below meth c hx hb hr hml hts hown hlk hG ls hl
  have hown : s.vm.findClass RX8 = some m.cls := hown
  obtain ⟨hP, hK, hD, hZ⟩ := hG
  have hS : va_S (cA a) s.heap s.heap [] := va_S.rf
  have hl : lv_has ls 2 [(0, .ref (a 0)), (1, .int p1)] := hl
  have hiX8 : ∀ w ∈ wsX80, w ∈ wsX8_kind := by decide +kernel
  have k25 := hts (.fieldLink RX8 25 "DayColumn" "cells" "LDayColumn$Texts;") (by decide +kernel)
  unfold fX8_kind at hf
  refine lv_aload_n hx hb dX8_kind_0 rfl (lv_at hl 0 rfl) ?_
  obtain ⟨o1, ho1, hf⟩ := ob_e hf
  refine w_callW (b := a 0) (As := []) (rest := []) ⟨hx, hb, hml, hown, hts⟩ (c_X8_settle l D cI a tb st o1 ho1) (cwV 0 hts gX8_kind_X8_settle rfl rfl rfl (by decide +kernel) ⟨Nat.le_of_ble_eq_true rfl, Nat.le_of_ble_eq_true rfl⟩) hP hK hD hZ hS (va_recv hK hP (ci := 6) (q0 := 0) rfl rfl) rfl hl.1 rfl (Nat.le_of_ble_eq_true rfl) ⟨Nat.zero_le _, Nat.zero_le _⟩ dX8_kind_1 (fun H locs hP hS => ?_)
  refine lv_if_eq (tgt := 26) hx hb dX8_kind_4 (by decide) (fun c2 => ?_) (fun c2 => ?_)
  · replace hf := if_t hf c2
    refine lv_iconst (v := -1) hx hb dX8_kind_26 (by decide) ?_
    exact W.iret (v := (-1)) hx hb hr (fun t ht _ => ⟨⟨(-1), o1.2, rfl, so_p hf, p_at ht hP⟩, hS.F ht⟩) hS.2.2 dX8_kind_27
  · replace hf := if_f hf c2
    refine lv_aload_n hx hb dX8_kind_7 rfl (lv_at hl 0 rfl) ?_
    refine va_get (D := D) (ci := 6) (v := .ref (a 3)) (C := RX8) (T := TX8) (N := 8) hx hb hts hiX8 hown hK hP 0 rfl rfl 2 (by decide) k25 (fun _ h9 => h9) rfl dX8_kind_8 ?_
    refine lv_iload_n hx hb dX8_kind_11 rfl (lv_at hl 1 rfl) ?_
    obtain ⟨o3, ho3, hf⟩ := ob_e hf
    refine w_callR (b := a 3) (As := [.int p1]) (rest := []) ⟨hx, hb, hml, hown, hts⟩ (c_X5_has_c l D cI a tb o1.2 p1 o3 ho3) (cwV 1 hts gX8_kind_X5_has rfl rfl rfl (by decide +kernel) ⟨Nat.le_of_ble_eq_true rfl, Nat.le_of_ble_eq_true rfl⟩) hP hK hD hZ hS (va_recv hK hP (ci := 4) (q0 := 3) rfl rfl) rfl hl.1 rfl (Nat.le_of_ble_eq_true rfl) ⟨Nat.zero_le _, Nat.zero_le _⟩ dX8_kind_12 ?_
    refine lv_if_eq (tgt := 26) hx hb dX8_kind_15 (by decide) (fun c4 => ?_) (fun c4 => ?_)
    · replace hf := if_t hf c4
      refine lv_iconst (v := -1) hx hb dX8_kind_26 (by decide) ?_
      exact W.iret (v := (-1)) hx hb hr (fun t ht _ => ⟨⟨(-1), o1.2, rfl, so_p hf, p_at ht hP⟩, hS.F ht⟩) hS.2.2 dX8_kind_27
    · replace hf := if_f hf c4
      refine lv_aload_n hx hb dX8_kind_18 rfl (lv_at hl 0 rfl) ?_
      refine lv_iload_n hx hb dX8_kind_19 rfl (lv_at hl 1 rfl) ?_
      obtain ⟨o5, ho5, hf⟩ := ob_e hf
      refine w_callR (b := a 0) (As := [.int p1]) (rest := []) ⟨hx, hb, hml, hown, hts⟩ (c_X8_kindOf l D cI a tb o1.2 p1 o5 ho5) (cwV 1 hts gX8_kind_X8_kindOf rfl rfl rfl (by decide +kernel) ⟨Nat.le_of_ble_eq_true rfl, Nat.le_of_ble_eq_true rfl⟩) hP hK hD hZ hS (va_recv hK hP (ci := 6) (q0 := 0) rfl rfl) rfl hl.1 rfl (Nat.le_of_ble_eq_true rfl) ⟨Nat.zero_le _, Nat.zero_le _⟩ dX8_kind_20 ?_
      refine lv_goto (tgt := 27) hx hb dX8_kind_23 (by decide) ?_
      exact W.iret (v := o5) hx hb hr (fun t ht _ => ⟨⟨o5, o1.2, rfl, so_p hf, p_at ht hP⟩, hS.F ht⟩) hS.2.2 dX8_kind_27
set_option maxHeartbeats 4000000 in
set_option maxRecDepth 100000 in
theorem c_X8_second (l : Launch) (D : va_G) (cI : ClassId) (a tb : Nat → Nat) (st : ST) (p1 : Int32) (r : Int32 × ST) (hf : fX8_second st p1 = some r) : MetW l yX8_second wsX8_second ({ frames := 6, cells := 0, slots := 0, locals := 142 }) [.ref (a 0), .int p1] D [(cI, .int)] (cw cI a) (cA a) tb st r := by
  refine met_of (cc := cX8_second) (maxL := 2) (ret := (some .int)) (by decide) rfl (Nat.le_of_ble_eq_true rfl) ?_
  intro p e s m below meth c hx hb hr hml hts hown hlk hG ls hl
  have hown : s.vm.findClass RX8 = some m.cls := hown
  obtain ⟨hP, hK, hD, hZ⟩ := hG
  have hS : va_S (cA a) s.heap s.heap [] := va_S.rf
  have hl : lv_has ls 2 [(0, .ref (a 0)), (1, .int p1)] := hl
  have hiX8 : ∀ w ∈ wsX80, w ∈ wsX8_second := by decide +kernel
  have k25 := hts (.fieldLink RX8 25 "DayColumn" "cells" "LDayColumn$Texts;") (by decide +kernel)
  have k42 := hts (.fieldLink RX8 42 "DayColumn" "ways" "LDayColumn$Ways;") (by decide +kernel)
  unfold fX8_second at hf
  refine lv_aload_n hx hb dX8_second_0 rfl (lv_at hl 0 rfl) ?_
  obtain ⟨o1, ho1, hf⟩ := ob_e hf
  refine w_callW (b := a 0) (As := []) (rest := []) ⟨hx, hb, hml, hown, hts⟩ (c_X8_settle l D cI a tb st o1 ho1) (cwV 0 hts gX8_second_X8_settle rfl rfl rfl (by decide +kernel) ⟨Nat.le_of_ble_eq_true rfl, Nat.le_of_ble_eq_true rfl⟩) hP hK hD hZ hS (va_recv hK hP (ci := 6) (q0 := 0) rfl rfl) rfl hl.1 rfl (Nat.le_of_ble_eq_true rfl) ⟨Nat.zero_le _, Nat.zero_le _⟩ dX8_second_1 (fun H locs hP hS => ?_)
  refine lv_if_eq (tgt := 37) hx hb dX8_second_4 (by decide) (fun c2 => ?_) (fun c2 => ?_)
  · replace hf := if_t hf c2
    refine lv_iconst (v := -1) hx hb dX8_second_37 (by decide) ?_
    exact W.iret (v := (-1)) hx hb hr (fun t ht _ => ⟨⟨(-1), o1.2, rfl, so_p hf, p_at ht hP⟩, hS.F ht⟩) hS.2.2 dX8_second_38
  · replace hf := if_f hf c2
    refine lv_aload_n hx hb dX8_second_7 rfl (lv_at hl 0 rfl) ?_
    refine va_get (D := D) (ci := 6) (v := .ref (a 3)) (C := RX8) (T := TX8) (N := 8) hx hb hts hiX8 hown hK hP 0 rfl rfl 2 (by decide) k25 (fun _ h9 => h9) rfl dX8_second_8 ?_
    refine lv_iload_n hx hb dX8_second_11 rfl (lv_at hl 1 rfl) ?_
    obtain ⟨o3, ho3, hf⟩ := ob_e hf
    refine w_callR (b := a 3) (As := [.int p1]) (rest := []) ⟨hx, hb, hml, hown, hts⟩ (c_X5_has_c l D cI a tb o1.2 p1 o3 ho3) (cwV 1 hts gX8_second_X5_has rfl rfl rfl (by decide +kernel) ⟨Nat.le_of_ble_eq_true rfl, Nat.le_of_ble_eq_true rfl⟩) hP hK hD hZ hS (va_recv hK hP (ci := 4) (q0 := 3) rfl rfl) rfl hl.1 rfl (Nat.le_of_ble_eq_true rfl) ⟨Nat.zero_le _, Nat.zero_le _⟩ dX8_second_12 ?_
    refine lv_if_eq (tgt := 37) hx hb dX8_second_15 (by decide) (fun c4 => ?_) (fun c4 => ?_)
    · replace hf := if_t hf c4
      refine lv_iconst (v := -1) hx hb dX8_second_37 (by decide) ?_
      exact W.iret (v := (-1)) hx hb hr (fun t ht _ => ⟨⟨(-1), o1.2, rfl, so_p hf, p_at ht hP⟩, hS.F ht⟩) hS.2.2 dX8_second_38
    · replace hf := if_f hf c4
      refine lv_aload_n hx hb dX8_second_18 rfl (lv_at hl 0 rfl) ?_
      refine lv_iload_n hx hb dX8_second_19 rfl (lv_at hl 1 rfl) ?_
      obtain ⟨o5, ho5, hf⟩ := ob_e hf
      refine w_callR (b := a 0) (As := [.int p1]) (rest := []) ⟨hx, hb, hml, hown, hts⟩ (c_X8_isReadByBest l D cI a tb o1.2 p1 o5 ho5) (cwV 1 hts gX8_second_X8_isReadByBest rfl rfl rfl (by decide +kernel) ⟨Nat.le_of_ble_eq_true rfl, Nat.le_of_ble_eq_true rfl⟩) hP hK hD hZ hS (va_recv hK hP (ci := 6) (q0 := 0) rfl rfl) rfl hl.1 rfl (Nat.le_of_ble_eq_true rfl) ⟨Nat.zero_le _, Nat.zero_le _⟩ dX8_second_20 ?_
      refine lv_if_eq (tgt := 37) hx hb dX8_second_23 (by decide) (fun c6 => ?_) (fun c6 => ?_)
      · replace hf := if_t hf c6
        refine lv_iconst (v := -1) hx hb dX8_second_37 (by decide) ?_
        exact W.iret (v := (-1)) hx hb hr (fun t ht _ => ⟨⟨(-1), o1.2, rfl, so_p hf, p_at ht hP⟩, hS.F ht⟩) hS.2.2 dX8_second_38
      · replace hf := if_f hf c6
        refine lv_aload_n hx hb dX8_second_26 rfl (lv_at hl 0 rfl) ?_
        refine va_get (D := D) (ci := 6) (v := .ref (a 6)) (C := RX8) (T := TX8) (N := 8) hx hb hts hiX8 hown hK hP 0 rfl rfl 4 (by decide) k42 (fun _ h9 => h9) rfl dX8_second_27 ?_
        refine lv_iload_n hx hb dX8_second_30 rfl (lv_at hl 1 rfl) ?_
        obtain ⟨o7, ho7, hf⟩ := ob_e hf
        refine w_callR (b := a 6) (As := [.int p1]) (rest := []) ⟨hx, hb, hml, hown, hts⟩ (c_X6_leastOtherwise l D cI a tb o1.2 p1 o7 ho7) (cwV 1 hts gX8_second_X6_leastOtherwise rfl rfl rfl (by decide +kernel) ⟨Nat.le_of_ble_eq_true rfl, Nat.le_of_ble_eq_true rfl⟩) hP hK hD hZ hS (va_recv hK hP (ci := 5) (q0 := 6) rfl rfl) rfl hl.1 rfl (Nat.le_of_ble_eq_true rfl) ⟨Nat.zero_le _, Nat.zero_le _⟩ dX8_second_31 ?_
        refine lv_goto (tgt := 38) hx hb dX8_second_34 (by decide) ?_
        exact W.iret (v := o7) hx hb hr (fun t ht _ => ⟨⟨o7, o1.2, rfl, so_p hf, p_at ht hP⟩, hS.F ht⟩) hS.2.2 dX8_second_38
set_option maxHeartbeats 4000000 in
set_option maxRecDepth 100000 in
theorem c_X8_many (l : Launch) (D : va_G) (cI : ClassId) (a tb : Nat → Nat) (st : ST) (p1 : Int32) (r : Int32 × ST) (hf : fX8_many st p1 = some r) : MetW l yX8_many wsX8_many ({ frames := 6, cells := 0, slots := 0, locals := 142 }) [.ref (a 0), .int p1] D [(cI, .int)] (cw cI a) (cA a) tb st r := by
  refine met_of (cc := cX8_many) (maxL := 4) (ret := (some .int)) (by decide) rfl (Nat.le_of_ble_eq_true rfl) ?_
  intro p e s m below meth c hx hb hr hml hts hown hlk hG ls hl
  have hown : s.vm.findClass RX8 = some m.cls := hown
  obtain ⟨hP, hK, hD, hZ⟩ := hG
  have hS : va_S (cA a) s.heap s.heap [] := va_S.rf
  have hl : lv_has ls 4 [(0, .ref (a 0)), (1, .int p1)] := hl
  have hiX8 : ∀ w ∈ wsX80, w ∈ wsX8_many := by decide +kernel
  have k25 := hts (.fieldLink RX8 25 "DayColumn" "cells" "LDayColumn$Texts;") (by decide +kernel)
  have l22 : ∀ (n : Nat) (x_1 x_2 x_3 : Int32) (st : ST) (H : Heap) (locs : List Loc) (ls : Array Slot), va_P D vwCl (cw cI a st) H → va_S (cA a) s.heap H locs → lv_has ls 4 [(0, .ref (a 0)), (1, .int x_1), (2, .int x_2), (3, .int x_3)] → fX8_many_22 n st x_1 x_2 x_3 = some r → W p l e ({ frames := 6, cells := 0, slots := 0, locals := 142 }) s m ([.ref (a 0), .int p1] : List Value).toArray below meth c H locs 0 0 (MQ below (va_Qi (fun (z : Int32) (u : ST) => z = r.1 ∧ u = r.2) (fun u t => va_P D vwCl (cw cI a u) t.heap) (cA a)) ([.ref (a 0), .int p1] : List Value).toArray s 0 0 (cA a)) (F0 m 22 ls []) := by
    intro n
    induction n with
    | zero =>
      intro x_1 x_2 x_3 st H locs ls hP hS hl hf
      cases hf
    | succ n ih22 =>
      intro x_1 x_2 x_3 st H locs ls hP hS hl hf
      unfold fX8_many_22 at hf
      refine lv_iload_n hx hb dX8_many_22 rfl (lv_at hl 3 rfl) ?_
      refine lv_aload_n hx hb dX8_many_23 rfl (lv_at hl 0 rfl) ?_
      refine va_get (D := D) (ci := 6) (v := .ref (a 3)) (C := RX8) (T := TX8) (N := 8) hx hb hts hiX8 hown hK hP 0 rfl rfl 2 (by decide) k25 (fun _ h9 => h9) rfl dX8_many_24 ?_
      obtain ⟨o1, ho1, hf⟩ := ob_e hf
      refine w_callR (b := a 3) (As := []) (rest := [.int x_3]) ⟨hx, hb, hml, hown, hts⟩ (c_X5_size_c l D cI a tb st o1 ho1) (cwV 0 hts gX8_many_X5_size rfl rfl rfl (by decide +kernel) ⟨Nat.le_of_ble_eq_true rfl, Nat.le_of_ble_eq_true rfl⟩) hP hK hD hZ hS (va_recv hK hP (ci := 4) (q0 := 3) rfl rfl) rfl hl.1 rfl (Nat.le_of_ble_eq_true rfl) ⟨Nat.zero_le _, Nat.zero_le _⟩ dX8_many_27 ?_
      refine lv_icmp_ge (tgt := 51) hx hb dX8_many_30 (by decide) (fun c2 => ?_) (fun c2 => ?_)
      · replace hf := if_t hf c2
        refine lv_iload_n hx hb dX8_many_51 rfl (lv_at hl 2 rfl) ?_
        exact W.iret (v := x_2) hx hb hr (fun t ht _ => ⟨⟨x_2, st, rfl, so_p hf, p_at ht hP⟩, hS.F ht⟩) hS.2.2 dX8_many_52
      · replace hf := if_f hf c2
        refine lv_aload_n hx hb dX8_many_33 rfl (lv_at hl 0 rfl) ?_
        refine lv_iload_n hx hb dX8_many_34 rfl (lv_at hl 3 rfl) ?_
        obtain ⟨o3, ho3, hf⟩ := ob_e hf
        refine w_callR (b := a 0) (As := [.int x_3]) (rest := []) ⟨hx, hb, hml, hown, hts⟩ (c_X8_kindOf l D cI a tb st x_3 o3 ho3) (cwV 1 hts gX8_many_X8_kindOf rfl rfl rfl (by decide +kernel) ⟨Nat.le_of_ble_eq_true rfl, Nat.le_of_ble_eq_true rfl⟩) hP hK hD hZ hS (va_recv hK hP (ci := 6) (q0 := 0) rfl rfl) rfl hl.1 rfl (Nat.le_of_ble_eq_true rfl) ⟨Nat.zero_le _, Nat.zero_le _⟩ dX8_many_35 ?_
        refine lv_iload_n hx hb dX8_many_38 rfl (lv_at hl 1 rfl) ?_
        refine lv_icmp_ne (tgt := 45) hx hb dX8_many_39 (by decide) (fun c4 => ?_) (fun c4 => ?_)
        · replace hf := if_f hf c4
          obtain ⟨x5, ex5, hf⟩ := bnd_e hf
          refine lv_iinc (v := x5) (lv' := [(3, .int x5), (0, .ref (a 0)), (1, .int x_1), (2, .int x_2)]) hx hb dX8_many_45 hl (k := 3) rfl (by rw [ex5]; rfl) (by decide) rfl (fun ls hl => ?_)
          refine lv_goto (tgt := 22) hx hb dX8_many_48 (by decide) ?_
          exact ih22 x_1 x_2 x5 st _ _ _ hP hS (lv_sub hl [1, 2, 3, 0] rfl) hf
        · replace hf := if_t hf c4
          obtain ⟨x6, ex6, hf⟩ := bnd_e hf
          refine lv_iinc (v := x6) (lv' := [(2, .int x6), (0, .ref (a 0)), (1, .int x_1), (3, .int x_3)]) hx hb dX8_many_42 hl (k := 2) rfl (by rw [ex6]; rfl) (by decide) rfl (fun ls hl => ?_)
          obtain ⟨x7, ex7, hf⟩ := bnd_e hf
          refine lv_iinc (v := x7) (lv' := [(3, .int x7), (2, .int x6), (0, .ref (a 0)), (1, .int x_1)]) hx hb dX8_many_45 hl (k := 3) rfl (by rw [ex7]; rfl) (by decide) rfl (fun ls hl => ?_)
          refine lv_goto (tgt := 22) hx hb dX8_many_48 (by decide) ?_
          exact ih22 x_1 x6 x7 st _ _ _ hP hS (lv_sub hl [2, 3, 1, 0] rfl) hf
  unfold fX8_many at hf
  refine lv_iload_n hx hb dX8_many_0 rfl (lv_at hl 1 rfl) ?_
  refine lv_if_lt (tgt := 16) hx hb dX8_many_1 (by decide) (fun c8 => ?_) (fun c8 => ?_)
  · replace hf := if_t hf c8
    refine lv_iconst (v := -1) hx hb dX8_many_16 (by decide) ?_
    exact W.iret (v := (-1)) hx hb hr (fun t ht _ => ⟨⟨(-1), st, rfl, so_p hf, p_at ht hP⟩, hS.F ht⟩) hS.2.2 dX8_many_17
  · replace hf := if_f hf c8
    refine lv_iload_n hx hb dX8_many_4 rfl (lv_at hl 1 rfl) ?_
    refine lv_iconst (v := 3) hx hb dX8_many_5 (by decide) ?_
    refine lv_icmp_gt (tgt := 16) hx hb dX8_many_6 (by decide) (fun c9 => ?_) (fun c9 => ?_)
    · replace hf := if_t hf c9
      refine lv_iconst (v := -1) hx hb dX8_many_16 (by decide) ?_
      exact W.iret (v := (-1)) hx hb hr (fun t ht _ => ⟨⟨(-1), st, rfl, so_p hf, p_at ht hP⟩, hS.F ht⟩) hS.2.2 dX8_many_17
    · replace hf := if_f hf c9
      refine lv_aload_n hx hb dX8_many_9 rfl (lv_at hl 0 rfl) ?_
      obtain ⟨o10, ho10, hf⟩ := ob_e hf
      refine w_callW (b := a 0) (As := []) (rest := []) ⟨hx, hb, hml, hown, hts⟩ (c_X8_settle l D cI a tb st o10 ho10) (cwV 0 hts gX8_many_X8_settle rfl rfl rfl (by decide +kernel) ⟨Nat.le_of_ble_eq_true rfl, Nat.le_of_ble_eq_true rfl⟩) hP hK hD hZ hS (va_recv hK hP (ci := 6) (q0 := 0) rfl rfl) rfl hl.1 rfl (Nat.le_of_ble_eq_true rfl) ⟨Nat.zero_le _, Nat.zero_le _⟩ dX8_many_10 (fun H locs hP hS => ?_)
      refine lv_if_ne (tgt := 18) hx hb dX8_many_13 (by decide) (fun c11 => ?_) (fun c11 => ?_)
      · replace hf := if_f hf c11
        refine lv_iconst (v := 0) hx hb dX8_many_18 (by decide) ?_
        refine lv_istore_n (lv' := [(2, .int 0), (0, .ref (a 0)), (1, .int p1)]) hx hb dX8_many_19 rfl hl (by decide) rfl (fun ls hl => ?_)
        refine lv_iconst (v := 0) hx hb dX8_many_20 (by decide) ?_
        refine lv_istore_n (lv' := [(3, .int 0), (2, .int 0), (0, .ref (a 0)), (1, .int p1)]) hx hb dX8_many_21 rfl hl (by decide) rfl (fun ls hl => ?_)
        exact l22 1000 p1 0 0 o10.2 _ _ _ hP hS (lv_sub hl [2, 3, 1, 0] rfl) hf
      · replace hf := if_t hf c11
        refine lv_iconst (v := -1) hx hb dX8_many_16 (by decide) ?_
        exact W.iret (v := (-1)) hx hb hr (fun t ht _ => ⟨⟨(-1), o10.2, rfl, so_p hf, p_at ht hP⟩, hS.F ht⟩) hS.2.2 dX8_many_17
set_option maxHeartbeats 4000000 in
set_option maxRecDepth 100000 in
theorem c_X8_spans (l : Launch) (D : va_G) (cI : ClassId) (a tb : Nat → Nat) (st : ST) (r : Int32 × ST) (hf : fX8_spans st = some r) : MetW l yX8_spans wsX8_spans ({ frames := 6, cells := 0, slots := 0, locals := 142 }) [.ref (a 0)] D [(cI, .int)] (cw cI a) (cA a) tb st r := by
  refine met_of (cc := cX8_spans) (maxL := 3) (ret := (some .int)) (by decide) rfl (Nat.le_of_ble_eq_true rfl) ?_
  intro p e s m below meth c hx hb hr hml hts hown hlk hG ls hl
  have hown : s.vm.findClass RX8 = some m.cls := hown
  obtain ⟨hP, hK, hD, hZ⟩ := hG
  have hS : va_S (cA a) s.heap s.heap [] := va_S.rf
  have hl : lv_has ls 3 [(0, .ref (a 0))] := hl
  have hiX8 : ∀ w ∈ wsX80, w ∈ wsX8_spans := by decide +kernel
  have k25 := hts (.fieldLink RX8 25 "DayColumn" "cells" "LDayColumn$Texts;") (by decide +kernel)
  have k42 := hts (.fieldLink RX8 42 "DayColumn" "ways" "LDayColumn$Ways;") (by decide +kernel)
  have l13 : ∀ (n : Nat) (x_1 x_2 : Int32) (st : ST) (H : Heap) (locs : List Loc) (ls : Array Slot), va_P D vwCl (cw cI a st) H → va_S (cA a) s.heap H locs → lv_has ls 3 [(0, .ref (a 0)), (1, .int x_1), (2, .int x_2)] → fX8_spans_13 n st x_1 x_2 = some r → W p l e ({ frames := 6, cells := 0, slots := 0, locals := 142 }) s m ([.ref (a 0)] : List Value).toArray below meth c H locs 0 0 (MQ below (va_Qi (fun (z : Int32) (u : ST) => z = r.1 ∧ u = r.2) (fun u t => va_P D vwCl (cw cI a u) t.heap) (cA a)) ([.ref (a 0)] : List Value).toArray s 0 0 (cA a)) (F0 m 13 ls []) := by
    intro n
    induction n with
    | zero =>
      intro x_1 x_2 st H locs ls hP hS hl hf
      cases hf
    | succ n ih13 =>
      intro x_1 x_2 st H locs ls hP hS hl hf
      unfold fX8_spans_13 at hf
      refine lv_iload_n hx hb dX8_spans_13 rfl (lv_at hl 2 rfl) ?_
      refine lv_aload_n hx hb dX8_spans_14 rfl (lv_at hl 0 rfl) ?_
      refine va_get (D := D) (ci := 6) (v := .ref (a 3)) (C := RX8) (T := TX8) (N := 8) hx hb hts hiX8 hown hK hP 0 rfl rfl 2 (by decide) k25 (fun _ h9 => h9) rfl dX8_spans_15 ?_
      obtain ⟨o1, ho1, hf⟩ := ob_e hf
      refine w_callR (b := a 3) (As := []) (rest := [.int x_2]) ⟨hx, hb, hml, hown, hts⟩ (c_X5_size_c l D cI a tb st o1 ho1) (cwV 0 hts gX8_spans_X5_size rfl rfl rfl (by decide +kernel) ⟨Nat.le_of_ble_eq_true rfl, Nat.le_of_ble_eq_true rfl⟩) hP hK hD hZ hS (va_recv hK hP (ci := 4) (q0 := 3) rfl rfl) rfl hl.1 rfl (Nat.le_of_ble_eq_true rfl) ⟨Nat.zero_le _, Nat.zero_le _⟩ dX8_spans_18 ?_
      refine lv_icmp_ge (tgt := 54) hx hb dX8_spans_21 (by decide) (fun c2 => ?_) (fun c2 => ?_)
      · replace hf := if_t hf c2
        refine lv_iload_n hx hb dX8_spans_54 rfl (lv_at hl 1 rfl) ?_
        exact W.iret (v := x_1) hx hb hr (fun t ht _ => ⟨⟨x_1, st, rfl, so_p hf, p_at ht hP⟩, hS.F ht⟩) hS.2.2 dX8_spans_55
      · replace hf := if_f hf c2
        refine lv_aload_n hx hb dX8_spans_24 rfl (lv_at hl 0 rfl) ?_
        refine va_get (D := D) (ci := 6) (v := .ref (a 6)) (C := RX8) (T := TX8) (N := 8) hx hb hts hiX8 hown hK hP 0 rfl rfl 4 (by decide) k42 (fun _ h9 => h9) rfl dX8_spans_25 ?_
        refine lv_iload_n hx hb dX8_spans_28 rfl (lv_at hl 2 rfl) ?_
        obtain ⟨o3, ho3, hf⟩ := ob_e hf
        refine w_callR (b := a 6) (As := [.int x_2]) (rest := []) ⟨hx, hb, hml, hown, hts⟩ (c_X6_styleOf l D cI a tb st x_2 o3 ho3) (cwV 1 hts gX8_spans_X6_styleOf rfl rfl rfl (by decide +kernel) ⟨Nat.le_of_ble_eq_true rfl, Nat.le_of_ble_eq_true rfl⟩) hP hK hD hZ hS (va_recv hK hP (ci := 5) (q0 := 6) rfl rfl) rfl hl.1 rfl (Nat.le_of_ble_eq_true rfl) ⟨Nat.zero_le _, Nat.zero_le _⟩ dX8_spans_29 ?_
        refine lv_aload_n hx hb dX8_spans_32 rfl (lv_at hl 0 rfl) ?_
        refine va_get (D := D) (ci := 6) (v := .ref (a 6)) (C := RX8) (T := TX8) (N := 8) hx hb hts hiX8 hown hK hP 0 rfl rfl 4 (by decide) k42 (fun _ h9 => h9) rfl dX8_spans_33 ?_
        refine lv_iload_n hx hb dX8_spans_36 rfl (lv_at hl 2 rfl) ?_
        refine lv_iconst (v := 1) hx hb dX8_spans_37 (by decide) ?_
        refine lv_isub hx hb dX8_spans_38 ?_
        obtain ⟨o4, ho4, hf⟩ := ob_e hf
        refine w_callR (b := a 6) (As := [.int (x_2 - 1)]) (rest := [.int o3]) ⟨hx, hb, hml, hown, hts⟩ (c_X6_styleOf l D cI a tb st (x_2 - 1) o4 ho4) (cwV 1 hts gX8_spans_X6_styleOf rfl rfl rfl (by decide +kernel) ⟨Nat.le_of_ble_eq_true rfl, Nat.le_of_ble_eq_true rfl⟩) hP hK hD hZ hS (va_recv hK hP (ci := 5) (q0 := 6) rfl rfl) rfl hl.1 rfl (Nat.le_of_ble_eq_true rfl) ⟨Nat.zero_le _, Nat.zero_le _⟩ dX8_spans_39 ?_
        refine lv_icmp_eq (tgt := 48) hx hb dX8_spans_42 (by decide) (fun c5 => ?_) (fun c5 => ?_)
        · replace hf := if_t hf c5
          obtain ⟨x6, ex6, hf⟩ := bnd_e hf
          refine lv_iinc (v := x6) (lv' := [(2, .int x6), (0, .ref (a 0)), (1, .int x_1)]) hx hb dX8_spans_48 hl (k := 2) rfl (by rw [ex6]; rfl) (by decide) rfl (fun ls hl => ?_)
          refine lv_goto (tgt := 13) hx hb dX8_spans_51 (by decide) ?_
          exact ih13 x_1 x6 st _ _ _ hP hS (lv_sub hl [1, 2, 0] rfl) hf
        · replace hf := if_f hf c5
          obtain ⟨x7, ex7, hf⟩ := bnd_e hf
          refine lv_iinc (v := x7) (lv' := [(1, .int x7), (0, .ref (a 0)), (2, .int x_2)]) hx hb dX8_spans_45 hl (k := 1) rfl (by rw [ex7]; rfl) (by decide) rfl (fun ls hl => ?_)
          obtain ⟨x8, ex8, hf⟩ := bnd_e hf
          refine lv_iinc (v := x8) (lv' := [(2, .int x8), (1, .int x7), (0, .ref (a 0))]) hx hb dX8_spans_48 hl (k := 2) rfl (by rw [ex8]; rfl) (by decide) rfl (fun ls hl => ?_)
          refine lv_goto (tgt := 13) hx hb dX8_spans_51 (by decide) ?_
          exact ih13 x7 x8 st _ _ _ hP hS (lv_sub hl [2, 1, 0] rfl) hf
  unfold fX8_spans at hf
  refine lv_aload_n hx hb dX8_spans_0 rfl (lv_at hl 0 rfl) ?_
  obtain ⟨o9, ho9, hf⟩ := ob_e hf
  refine w_callW (b := a 0) (As := []) (rest := []) ⟨hx, hb, hml, hown, hts⟩ (c_X8_settle l D cI a tb st o9 ho9) (cwV 0 hts gX8_spans_X8_settle rfl rfl rfl (by decide +kernel) ⟨Nat.le_of_ble_eq_true rfl, Nat.le_of_ble_eq_true rfl⟩) hP hK hD hZ hS (va_recv hK hP (ci := 6) (q0 := 0) rfl rfl) rfl hl.1 rfl (Nat.le_of_ble_eq_true rfl) ⟨Nat.zero_le _, Nat.zero_le _⟩ dX8_spans_1 (fun H locs hP hS => ?_)
  refine lv_if_ne (tgt := 9) hx hb dX8_spans_4 (by decide) (fun c10 => ?_) (fun c10 => ?_)
  · replace hf := if_f hf c10
    refine lv_iconst (v := 1) hx hb dX8_spans_9 (by decide) ?_
    refine lv_istore_n (lv' := [(1, .int 1), (0, .ref (a 0))]) hx hb dX8_spans_10 rfl hl (by decide) rfl (fun ls hl => ?_)
    refine lv_iconst (v := 1) hx hb dX8_spans_11 (by decide) ?_
    refine lv_istore_n (lv' := [(2, .int 1), (1, .int 1), (0, .ref (a 0))]) hx hb dX8_spans_12 rfl hl (by decide) rfl (fun ls hl => ?_)
    exact l13 1000 1 1 o9.2 _ _ _ hP hS (lv_sub hl [2, 1, 0] rfl) hf
  · replace hf := if_t hf c10
    refine lv_iconst (v := -1) hx hb dX8_spans_7 (by decide) ?_
    exact W.iret (v := (-1)) hx hb hr (fun t ht _ => ⟨⟨(-1), o9.2, rfl, so_p hf, p_at ht hP⟩, hS.F ht⟩) hS.2.2 dX8_spans_8
set_option maxHeartbeats 4000000 in
set_option maxRecDepth 100000 in
theorem c_X8_number (l : Launch) (D : va_G) (cI : ClassId) (a tb : Nat → Nat) (st : ST) (p1 p2 p3 : Int32) (r : Int32) (hf : fX8_number st p1 p2 p3 = some r) : MetR l yX8_number wsX8_number ({ frames := 2, cells := 0, slots := 0, locals := 46 }) [.ref (a 0), .int p1, .int p2, .int p3] D [(cI, .int)] (cw cI a) (cA a) tb st r := by
  refine met_of (cc := cX8_number) (maxL := 4) (ret := (some .int)) (by decide) rfl (Nat.le_of_ble_eq_true rfl) ?_
  intro p e s m below meth c hx hb hr hml hts hown hlk hG ls hl
  have hown : s.vm.findClass RX8 = some m.cls := hown
  obtain ⟨hP, hK, hD, hZ⟩ := hG
  have hS : va_S (cA a) s.heap s.heap [] := va_S.rf
  have hl : lv_has ls 4 [(0, .ref (a 0)), (1, .int p1), (2, .int p2), (3, .int p3)] := hl
  unfold fX8_number at hf
  refine lv_iload_n hx hb dX8_number_0 rfl (lv_at hl 1 rfl) ?_
  refine lv_iload_n hx hb dX8_number_1 rfl (lv_at hl 2 rfl) ?_
  refine lv_iload_n hx hb dX8_number_2 rfl (lv_at hl 3 rfl) ?_
  obtain ⟨o1, ho1, hf⟩ := ob_e hf
  refine w_callT (As := [.int p1, .int p2, .int p3]) (rest := []) ⟨hx, hb, hml, hown, hts⟩ (c_X0_dayNumber l tb p1 p2 p3 o1 ho1) (va_cwS 3 hts gX8_number_X0_dayNumber rfl rfl rfl (by decide +kernel) ⟨Nat.le_of_ble_eq_true rfl, Nat.le_of_ble_eq_true rfl⟩) hZ hS rfl hl.1 rfl (Nat.le_of_ble_eq_true rfl) ⟨Nat.zero_le _, Nat.zero_le _⟩ dX8_number_3 ?_
  exact W.iret (v := o1) hx hb hr (fun t ht _ => ⟨o1, rfl, so_i hf, ht⟩) (fun _ h => by cases h) dX8_number_6
set_option maxHeartbeats 4000000 in
set_option maxRecDepth 100000 in
theorem c_X8_write (l : Launch) (D : va_G) (cI : ClassId) (a tb : Nat → Nat) (st : ST) (p1 p2 p3 : Int32) (r : Int32 × ST) (hf : fX8_write st p1 p2 p3 = some r) : MetW l yX8_write wsX8_write ({ frames := 6, cells := 0, slots := 0, locals := 133 }) [.ref (a 0), .int p1, .int p2, .int p3] D [(cI, .int)] (cw cI a) (cA a) tb st r := by
  refine met_of (cc := cX8_write) (maxL := 4) (ret := (some .int)) (by decide) rfl (Nat.le_of_ble_eq_true rfl) ?_
  intro p e s m below meth c hx hb hr hml hts hown hlk hG ls hl
  have hown : s.vm.findClass RX8 = some m.cls := hown
  obtain ⟨hP, hK, hD, hZ⟩ := hG
  have hS : va_S (cA a) s.heap s.heap [] := va_S.rf
  have hl : lv_has ls 4 [(0, .ref (a 0)), (1, .int p1), (2, .int p2), (3, .int p3)] := hl
  have hiX8 : ∀ w ∈ wsX80, w ∈ wsX8_write := by decide +kernel
  have k21 := hts (.fieldLink RX8 21 "DayColumn" "patterns" "LDayColumn$Texts;") (by decide +kernel)
  have k49 := hts (.fieldLink RX8 49 "DayColumn" "pen" "LDayColumn$Pen;") (by decide +kernel)
  unfold fX8_write at hf
  refine lv_iload_n hx hb dX8_write_0 rfl (lv_at hl 1 rfl) ?_
  obtain ⟨o1, ho1, hf⟩ := ob_e hf
  refine w_callT (As := [.int p1]) (rest := []) ⟨hx, hb, hml, hown, hts⟩ (c_X0_isDay l tb p1 o1 ho1) (va_cwS 1 hts gX8_write_X0_isDay rfl rfl rfl (by decide +kernel) ⟨Nat.le_of_ble_eq_true rfl, Nat.le_of_ble_eq_true rfl⟩) hZ hS rfl hl.1 rfl (Nat.le_of_ble_eq_true rfl) ⟨Nat.zero_le _, Nat.zero_le _⟩ dX8_write_1 ?_
  refine lv_if_eq (tgt := 18) hx hb dX8_write_4 (by decide) (fun c2 => ?_) (fun c2 => ?_)
  · replace hf := if_t hf c2
    refine lv_iconst (v := -1) hx hb dX8_write_18 (by decide) ?_
    exact W.iret (v := (-1)) hx hb hr (fun t ht _ => ⟨⟨(-1), st, rfl, so_p hf, p_at ht hP⟩, hS.F ht⟩) hS.2.2 dX8_write_19
  · replace hf := if_f hf c2
    refine lv_aload_n hx hb dX8_write_7 rfl (lv_at hl 0 rfl) ?_
    refine va_get (D := D) (ci := 6) (v := .ref (a 2)) (C := RX8) (T := TX8) (N := 8) hx hb hts hiX8 hown hK hP 0 rfl rfl 1 (by decide) k21 (fun _ h9 => h9) rfl dX8_write_8 ?_
    refine lv_iload_n hx hb dX8_write_11 rfl (lv_at hl 2 rfl) ?_
    obtain ⟨o3, ho3, hf⟩ := ob_e hf
    refine w_callR (b := a 2) (As := [.int p2]) (rest := []) ⟨hx, hb, hml, hown, hts⟩ (c_X5_has_p l D cI a tb st p2 o3 ho3) (cwV 1 hts gX8_write_X5_has rfl rfl rfl (by decide +kernel) ⟨Nat.le_of_ble_eq_true rfl, Nat.le_of_ble_eq_true rfl⟩) hP hK hD hZ hS (va_recv hK hP (ci := 4) (q0 := 2) rfl rfl) rfl hl.1 rfl (Nat.le_of_ble_eq_true rfl) ⟨Nat.zero_le _, Nat.zero_le _⟩ dX8_write_12 ?_
    refine lv_if_ne (tgt := 20) hx hb dX8_write_15 (by decide) (fun c4 => ?_) (fun c4 => ?_)
    · replace hf := if_f hf c4
      refine lv_aload_n hx hb dX8_write_20 rfl (lv_at hl 0 rfl) ?_
      refine va_get (D := D) (ci := 6) (v := .ref (a 7)) (C := RX8) (T := TX8) (N := 8) hx hb hts hiX8 hown hK hP 0 rfl rfl 5 (by decide) k49 (fun _ h9 => h9) rfl dX8_write_21 ?_
      refine lv_iload_n hx hb dX8_write_24 rfl (lv_at hl 1 rfl) ?_
      refine lv_aload_n hx hb dX8_write_25 rfl (lv_at hl 0 rfl) ?_
      refine va_get (D := D) (ci := 6) (v := .ref (a 2)) (C := RX8) (T := TX8) (N := 8) hx hb hts hiX8 hown hK hP 0 rfl rfl 1 (by decide) k21 (fun _ h9 => h9) rfl dX8_write_26 ?_
      refine lv_iload_n hx hb dX8_write_29 rfl (lv_at hl 2 rfl) ?_
      obtain ⟨o5, ho5, hf⟩ := ob_e hf
      refine w_callV (b := a 7) (As := [.int p1, .ref (a 2), .int p2]) (rest := []) ⟨hx, hb, hml, hown, hts⟩ (c_X1_setDown l D cI a tb st p1 p2 o5 ho5) (cwV 3 hts gX8_write_X1_setDown rfl rfl rfl (by decide +kernel) ⟨Nat.le_of_ble_eq_true rfl, Nat.le_of_ble_eq_true rfl⟩) hP hK hD hZ hS (va_recv hK hP (ci := 0) (q0 := 7) rfl rfl) rfl hl.1 rfl (Nat.le_of_ble_eq_true rfl) ⟨Nat.zero_le _, Nat.zero_le _⟩ dX8_write_30 (fun H locs hP hS => ?_)
      refine lv_aload_n hx hb dX8_write_33 rfl (lv_at hl 0 rfl) ?_
      refine va_get (D := D) (ci := 6) (v := .ref (a 7)) (C := RX8) (T := TX8) (N := 8) hx hb hts hiX8 hown hK hP 0 rfl rfl 5 (by decide) k49 (fun _ h9 => h9) rfl dX8_write_34 ?_
      refine lv_iload_n hx hb dX8_write_37 rfl (lv_at hl 3 rfl) ?_
      obtain ⟨o6, ho6, hf⟩ := ob_e hf
      refine w_callR (b := a 7) (As := [.int p3]) (rest := []) ⟨hx, hb, hml, hown, hts⟩ (c_X1_byteAt l D cI a tb o5 p3 o6 ho6) (cwV 1 hts gX8_write_X1_byteAt rfl rfl rfl (by decide +kernel) ⟨Nat.le_of_ble_eq_true rfl, Nat.le_of_ble_eq_true rfl⟩) hP hK hD hZ hS (va_recv hK hP (ci := 0) (q0 := 7) rfl rfl) rfl hl.1 rfl (Nat.le_of_ble_eq_true rfl) ⟨Nat.zero_le _, Nat.zero_le _⟩ dX8_write_38 ?_
      exact W.iret (v := o6) hx hb hr (fun t ht _ => ⟨⟨o6, o5, rfl, so_p hf, p_at ht hP⟩, hS.F ht⟩) hS.2.2 dX8_write_41
    · replace hf := if_t hf c4
      refine lv_iconst (v := -1) hx hb dX8_write_18 (by decide) ?_
      exact W.iret (v := (-1)) hx hb hr (fun t ht _ => ⟨⟨(-1), st, rfl, so_p hf, p_at ht hP⟩, hS.F ht⟩) hS.2.2 dX8_write_19
set_option maxHeartbeats 4000000 in
set_option maxRecDepth 100000 in
theorem c_X8_same (l : Launch) (D : va_G) (cI : ClassId) (a tb : Nat → Nat) (st : ST) (p1 : Int32) (r : Int32 × ST) (hf : fX8_same st p1 = some r) : MetW l yX8_same wsX8_same ({ frames := 6, cells := 0, slots := 0, locals := 142 }) [.ref (a 0), .int p1] D [(cI, .int)] (cw cI a) (cA a) tb st r := by
  refine met_of (cc := cX8_same) (maxL := 3) (ret := (some .int)) (by decide) rfl (Nat.le_of_ble_eq_true rfl) ?_
  intro p e s m below meth c hx hb hr hml hts hown hlk hG ls hl
  have hown : s.vm.findClass RX8 = some m.cls := hown
  obtain ⟨hP, hK, hD, hZ⟩ := hG
  have hS : va_S (cA a) s.heap s.heap [] := va_S.rf
  have hl : lv_has ls 3 [(0, .ref (a 0)), (1, .int p1)] := hl
  have hiX8 : ∀ w ∈ wsX80, w ∈ wsX8_same := by decide +kernel
  have k21 := hts (.fieldLink RX8 21 "DayColumn" "patterns" "LDayColumn$Texts;") (by decide +kernel)
  have k25 := hts (.fieldLink RX8 25 "DayColumn" "cells" "LDayColumn$Texts;") (by decide +kernel)
  have k33 := hts (.fieldLink RX8 33 "DayColumn" "table" "LDayColumn$Readings;") (by decide +kernel)
  have k42 := hts (.fieldLink RX8 42 "DayColumn" "ways" "LDayColumn$Ways;") (by decide +kernel)
  have k49 := hts (.fieldLink RX8 49 "DayColumn" "pen" "LDayColumn$Pen;") (by decide +kernel)
  unfold fX8_same at hf
  refine lv_aload_n hx hb dX8_same_0 rfl (lv_at hl 0 rfl) ?_
  obtain ⟨o1, ho1, hf⟩ := ob_e hf
  refine w_callW (b := a 0) (As := []) (rest := []) ⟨hx, hb, hml, hown, hts⟩ (c_X8_settle l D cI a tb st o1 ho1) (cwV 0 hts gX8_same_X8_settle rfl rfl rfl (by decide +kernel) ⟨Nat.le_of_ble_eq_true rfl, Nat.le_of_ble_eq_true rfl⟩) hP hK hD hZ hS (va_recv hK hP (ci := 6) (q0 := 0) rfl rfl) rfl hl.1 rfl (Nat.le_of_ble_eq_true rfl) ⟨Nat.zero_le _, Nat.zero_le _⟩ dX8_same_1 (fun H locs hP hS => ?_)
  refine lv_if_eq (tgt := 26) hx hb dX8_same_4 (by decide) (fun c2 => ?_) (fun c2 => ?_)
  · replace hf := if_t hf c2
    refine lv_iconst (v := -1) hx hb dX8_same_26 (by decide) ?_
    exact W.iret (v := (-1)) hx hb hr (fun t ht _ => ⟨⟨(-1), o1.2, rfl, so_p hf, p_at ht hP⟩, hS.F ht⟩) hS.2.2 dX8_same_27
  · replace hf := if_f hf c2
    refine lv_aload_n hx hb dX8_same_7 rfl (lv_at hl 0 rfl) ?_
    refine va_get (D := D) (ci := 6) (v := .ref (a 3)) (C := RX8) (T := TX8) (N := 8) hx hb hts hiX8 hown hK hP 0 rfl rfl 2 (by decide) k25 (fun _ h9 => h9) rfl dX8_same_8 ?_
    refine lv_iload_n hx hb dX8_same_11 rfl (lv_at hl 1 rfl) ?_
    obtain ⟨o3, ho3, hf⟩ := ob_e hf
    refine w_callR (b := a 3) (As := [.int p1]) (rest := []) ⟨hx, hb, hml, hown, hts⟩ (c_X5_has_c l D cI a tb o1.2 p1 o3 ho3) (cwV 1 hts gX8_same_X5_has rfl rfl rfl (by decide +kernel) ⟨Nat.le_of_ble_eq_true rfl, Nat.le_of_ble_eq_true rfl⟩) hP hK hD hZ hS (va_recv hK hP (ci := 4) (q0 := 3) rfl rfl) rfl hl.1 rfl (Nat.le_of_ble_eq_true rfl) ⟨Nat.zero_le _, Nat.zero_le _⟩ dX8_same_12 ?_
    refine lv_if_eq (tgt := 26) hx hb dX8_same_15 (by decide) (fun c4 => ?_) (fun c4 => ?_)
    · replace hf := if_t hf c4
      refine lv_iconst (v := -1) hx hb dX8_same_26 (by decide) ?_
      exact W.iret (v := (-1)) hx hb hr (fun t ht _ => ⟨⟨(-1), o1.2, rfl, so_p hf, p_at ht hP⟩, hS.F ht⟩) hS.2.2 dX8_same_27
    · replace hf := if_f hf c4
      refine lv_aload_n hx hb dX8_same_18 rfl (lv_at hl 0 rfl) ?_
      refine lv_iload_n hx hb dX8_same_19 rfl (lv_at hl 1 rfl) ?_
      obtain ⟨o5, ho5, hf⟩ := ob_e hf
      refine w_callR (b := a 0) (As := [.int p1]) (rest := []) ⟨hx, hb, hml, hown, hts⟩ (c_X8_isReadByBest l D cI a tb o1.2 p1 o5 ho5) (cwV 1 hts gX8_same_X8_isReadByBest rfl rfl rfl (by decide +kernel) ⟨Nat.le_of_ble_eq_true rfl, Nat.le_of_ble_eq_true rfl⟩) hP hK hD hZ hS (va_recv hK hP (ci := 6) (q0 := 0) rfl rfl) rfl hl.1 rfl (Nat.le_of_ble_eq_true rfl) ⟨Nat.zero_le _, Nat.zero_le _⟩ dX8_same_20 ?_
      refine lv_if_ne (tgt := 28) hx hb dX8_same_23 (by decide) (fun c6 => ?_) (fun c6 => ?_)
      · replace hf := if_f hf c6
        refine lv_aload_n hx hb dX8_same_28 rfl (lv_at hl 0 rfl) ?_
        refine va_get (D := D) (ci := 6) (v := .ref (a 6)) (C := RX8) (T := TX8) (N := 8) hx hb hts hiX8 hown hK hP 0 rfl rfl 4 (by decide) k42 (fun _ h9 => h9) rfl dX8_same_29 ?_
        refine lv_iload_n hx hb dX8_same_32 rfl (lv_at hl 1 rfl) ?_
        obtain ⟨o7, ho7, hf⟩ := ob_e hf
        refine w_callR (b := a 6) (As := [.int p1]) (rest := []) ⟨hx, hb, hml, hown, hts⟩ (c_X6_styleOf l D cI a tb o1.2 p1 o7 ho7) (cwV 1 hts gX8_same_X6_styleOf rfl rfl rfl (by decide +kernel) ⟨Nat.le_of_ble_eq_true rfl, Nat.le_of_ble_eq_true rfl⟩) hP hK hD hZ hS (va_recv hK hP (ci := 5) (q0 := 6) rfl rfl) rfl hl.1 rfl (Nat.le_of_ble_eq_true rfl) ⟨Nat.zero_le _, Nat.zero_le _⟩ dX8_same_33 ?_
        refine lv_istore_n (lv' := [(2, .int o7), (0, .ref (a 0)), (1, .int p1)]) hx hb dX8_same_36 rfl hl (by decide) rfl (fun ls hl => ?_)
        refine lv_aload_n hx hb dX8_same_37 rfl (lv_at hl 1 rfl) ?_
        refine va_get (D := D) (ci := 6) (v := .ref (a 7)) (C := RX8) (T := TX8) (N := 8) hx hb hts hiX8 hown hK hP 0 rfl rfl 5 (by decide) k49 (fun _ h9 => h9) rfl dX8_same_38 ?_
        refine lv_aload_n hx hb dX8_same_41 rfl (lv_at hl 1 rfl) ?_
        refine va_get (D := D) (ci := 6) (v := .ref (a 4)) (C := RX8) (T := TX8) (N := 8) hx hb hts hiX8 hown hK hP 0 rfl rfl 3 (by decide) k33 (fun _ h9 => h9) rfl dX8_same_42 ?_
        refine lv_iload_n hx hb dX8_same_45 rfl (lv_at hl 2 rfl) ?_
        refine lv_iload_n hx hb dX8_same_46 rfl (lv_at hl 0 rfl) ?_
        refine lv_iconst (v := 0) hx hb dX8_same_47 (by decide) ?_
        obtain ⟨o8, ho8, hf⟩ := ob_e hf
        refine w_callR (b := a 4) (As := [.int p1, .int o7, .int 0]) (rest := [.ref (a 7)]) ⟨hx, hb, hml, hown, hts⟩ (c_X3_edge l D cI a tb o1.2 p1 o7 0 o8 ho8) (cwV 3 hts gX8_same_X3_edge rfl rfl rfl (by decide +kernel) ⟨Nat.le_of_ble_eq_true rfl, Nat.le_of_ble_eq_true rfl⟩) hP hK hD hZ hS (va_recv hK hP (ci := 2) (q0 := 4) rfl rfl) rfl hl.1 rfl (Nat.le_of_ble_eq_true rfl) ⟨Nat.zero_le _, Nat.zero_le _⟩ dX8_same_48 ?_
        refine lv_aload_n hx hb dX8_same_51 rfl (lv_at hl 1 rfl) ?_
        refine va_get (D := D) (ci := 6) (v := .ref (a 2)) (C := RX8) (T := TX8) (N := 8) hx hb hts hiX8 hown hK hP 0 rfl rfl 1 (by decide) k21 (fun _ h9 => h9) rfl dX8_same_52 ?_
        refine lv_iload_n hx hb dX8_same_55 rfl (lv_at hl 0 rfl) ?_
        obtain ⟨o9, ho9, hf⟩ := ob_e hf
        refine w_callV (b := a 7) (As := [.int o8, .ref (a 2), .int o7]) (rest := []) ⟨hx, hb, hml, hown, hts⟩ (c_X1_setDown l D cI a tb o1.2 o8 o7 o9 ho9) (cwV 3 hts gX8_same_X1_setDown rfl rfl rfl (by decide +kernel) ⟨Nat.le_of_ble_eq_true rfl, Nat.le_of_ble_eq_true rfl⟩) hP hK hD hZ hS (va_recv hK hP (ci := 0) (q0 := 7) rfl rfl) rfl hl.1 rfl (Nat.le_of_ble_eq_true rfl) ⟨Nat.zero_le _, Nat.zero_le _⟩ dX8_same_56 (fun H locs hP hS => ?_)
        refine lv_aload_n hx hb dX8_same_59 rfl (lv_at hl 1 rfl) ?_
        refine va_get (D := D) (ci := 6) (v := .ref (a 7)) (C := RX8) (T := TX8) (N := 8) hx hb hts hiX8 hown hK hP 0 rfl rfl 5 (by decide) k49 (fun _ h9 => h9) rfl dX8_same_60 ?_
        refine lv_aload_n hx hb dX8_same_63 rfl (lv_at hl 1 rfl) ?_
        refine va_get (D := D) (ci := 6) (v := .ref (a 3)) (C := RX8) (T := TX8) (N := 8) hx hb hts hiX8 hown hK hP 0 rfl rfl 2 (by decide) k25 (fun _ h9 => h9) rfl dX8_same_64 ?_
        refine lv_iload_n hx hb dX8_same_67 rfl (lv_at hl 2 rfl) ?_
        obtain ⟨o10, ho10, hf⟩ := ob_e hf
        refine w_callR (b := a 7) (As := [.ref (a 3), .int p1]) (rest := []) ⟨hx, hb, hml, hown, hts⟩ (c_X1_equalsText l D cI a tb o9 p1 o10 ho10) (cwV 2 hts gX8_same_X1_equalsText rfl rfl rfl (by decide +kernel) ⟨Nat.le_of_ble_eq_true rfl, Nat.le_of_ble_eq_true rfl⟩) hP hK hD hZ hS (va_recv hK hP (ci := 0) (q0 := 7) rfl rfl) rfl hl.1 rfl (Nat.le_of_ble_eq_true rfl) ⟨Nat.zero_le _, Nat.zero_le _⟩ dX8_same_68 ?_
        refine lv_if_eq (tgt := 78) hx hb dX8_same_71 (by decide) (fun c11 => ?_) (fun c11 => ?_)
        · replace hf := if_t hf c11
          refine lv_iconst (v := 0) hx hb dX8_same_78 (by decide) ?_
          exact W.iret (v := 0) hx hb hr (fun t ht _ => ⟨⟨0, o9, rfl, so_p hf, p_at ht hP⟩, hS.F ht⟩) hS.2.2 dX8_same_79
        · replace hf := if_f hf c11
          refine lv_iconst (v := 1) hx hb dX8_same_74 (by decide) ?_
          refine lv_goto (tgt := 79) hx hb dX8_same_75 (by decide) ?_
          exact W.iret (v := 1) hx hb hr (fun t ht _ => ⟨⟨1, o9, rfl, so_p hf, p_at ht hP⟩, hS.F ht⟩) hS.2.2 dX8_same_79
      · replace hf := if_t hf c6
        refine lv_iconst (v := -1) hx hb dX8_same_26 (by decide) ?_
        exact W.iret (v := (-1)) hx hb hr (fun t ht _ => ⟨⟨(-1), o1.2, rfl, so_p hf, p_at ht hP⟩, hS.F ht⟩) hS.2.2 dX8_same_27
set_option maxHeartbeats 4000000 in
set_option maxRecDepth 100000 in
theorem c_X8_count (l : Launch) (D : va_G) (cI : ClassId) (a tb : Nat → Nat) (st : ST) (p1 : Int32) (r : Int32) (hf : fX8_count st p1 = some r) : MetR l yX8_count wsX8_count ({ frames := 1, cells := 0, slots := 0, locals := 20 }) [.ref (a 0), .int p1] D [(cI, .int)] (cw cI a) (cA a) tb st r := by
  refine met_of (cc := cX8_count) (maxL := 2) (ret := (some .int)) (by decide) rfl (Nat.le_of_ble_eq_true rfl) ?_
  intro p e s m below meth c hx hb hr hml hts hown hlk hG ls hl
  have hown : s.vm.findClass RX8 = some m.cls := hown
  obtain ⟨hP, hK, hD, hZ⟩ := hG
  have hS : va_S (cA a) s.heap s.heap [] := va_S.rf
  have hl : lv_has ls 2 [(0, .ref (a 0)), (1, .int p1)] := hl
  have hiX8 : ∀ w ∈ wsX80, w ∈ wsX8_count := by decide +kernel
  have k10 := hts (.fieldLink RX8 10 "DayColumn" "tape" "LDayColumn$Tape;") (by decide +kernel)
  have k21 := hts (.fieldLink RX8 21 "DayColumn" "patterns" "LDayColumn$Texts;") (by decide +kernel)
  have k25 := hts (.fieldLink RX8 25 "DayColumn" "cells" "LDayColumn$Texts;") (by decide +kernel)
  have k53 := hts (.fieldLink RX8 53 "DayColumn" "windowYear" "I") (by decide +kernel)
  unfold fX8_count at hf
  refine lv_iload_n hx hb dX8_count_0 rfl (lv_at hl 1 rfl) ?_
  by_cases c1 : p1 = 0
  · replace hf := if_t hf c1
    refine lv_tableIn (tgt := 32) (off := 31) hx hb dX8_count_1 (by rw [c1]; decide) (by rw [c1]; decide) (by rw [c1]; rfl) (by decide) ?_
    refine lv_aload_n hx hb dX8_count_32 rfl (lv_at hl 0 rfl) ?_
    refine va_get (D := D) (ci := 6) (v := .ref (a 2)) (C := RX8) (T := TX8) (N := 8) hx hb hts hiX8 hown hK hP 0 rfl rfl 1 (by decide) k21 (fun _ h9 => h9) rfl dX8_count_33 ?_
    obtain ⟨o2, ho2, hf⟩ := ob_e hf
    refine w_callR (b := a 2) (As := []) (rest := []) ⟨hx, hb, hml, hown, hts⟩ (c_X5_size_p l D cI a tb st o2 ho2) (cwV 0 hts gX8_count_X5_size rfl rfl rfl (by decide +kernel) ⟨Nat.le_of_ble_eq_true rfl, Nat.le_of_ble_eq_true rfl⟩) hP hK hD hZ hS (va_recv hK hP (ci := 4) (q0 := 2) rfl rfl) rfl hl.1 rfl (Nat.le_of_ble_eq_true rfl) ⟨Nat.zero_le _, Nat.zero_le _⟩ dX8_count_36 ?_
    exact W.iret (v := o2) hx hb hr (fun t ht _ => ⟨o2, rfl, so_i hf, ht⟩) (fun _ h => by cases h) dX8_count_39
  · replace hf := if_f hf c1
    by_cases c3 : p1 = 1
    · replace hf := if_t hf c3
      refine lv_tableIn (tgt := 40) (off := 39) hx hb dX8_count_1 (by rw [c3]; decide) (by rw [c3]; decide) (by rw [c3]; rfl) (by decide) ?_
      refine lv_aload_n hx hb dX8_count_40 rfl (lv_at hl 0 rfl) ?_
      refine va_get (D := D) (ci := 6) (v := .ref (a 3)) (C := RX8) (T := TX8) (N := 8) hx hb hts hiX8 hown hK hP 0 rfl rfl 2 (by decide) k25 (fun _ h9 => h9) rfl dX8_count_41 ?_
      obtain ⟨o4, ho4, hf⟩ := ob_e hf
      refine w_callR (b := a 3) (As := []) (rest := []) ⟨hx, hb, hml, hown, hts⟩ (c_X5_size_c l D cI a tb st o4 ho4) (cwV 0 hts gX8_count_X5_size rfl rfl rfl (by decide +kernel) ⟨Nat.le_of_ble_eq_true rfl, Nat.le_of_ble_eq_true rfl⟩) hP hK hD hZ hS (va_recv hK hP (ci := 4) (q0 := 3) rfl rfl) rfl hl.1 rfl (Nat.le_of_ble_eq_true rfl) ⟨Nat.zero_le _, Nat.zero_le _⟩ dX8_count_44 ?_
      exact W.iret (v := o4) hx hb hr (fun t ht _ => ⟨o4, rfl, so_i hf, ht⟩) (fun _ h => by cases h) dX8_count_47
    · replace hf := if_f hf c3
      by_cases c5 : p1 = 2
      · replace hf := if_t hf c5
        refine lv_tableIn (tgt := 48) (off := 47) hx hb dX8_count_1 (by rw [c5]; decide) (by rw [c5]; decide) (by rw [c5]; rfl) (by decide) ?_
        refine lv_aload_n hx hb dX8_count_48 rfl (lv_at hl 0 rfl) ?_
        refine va_get (D := D) (ci := 6) (v := .ref (a 1)) (C := RX8) (T := TX8) (N := 8) hx hb hts hiX8 hown hK hP 0 rfl rfl 0 (by decide) k10 (fun _ h9 => h9) rfl dX8_count_49 ?_
        obtain ⟨o6, ho6, hf⟩ := ob_e hf
        refine w_callR (b := a 1) (As := []) (rest := []) ⟨hx, hb, hml, hown, hts⟩ (c_X4_length l D cI a tb st o6 ho6) (cwV 0 hts gX8_count_X4_length rfl rfl rfl (by decide +kernel) ⟨Nat.le_of_ble_eq_true rfl, Nat.le_of_ble_eq_true rfl⟩) hP hK hD hZ hS (va_recv hK hP (ci := 3) (q0 := 1) rfl rfl) rfl hl.1 rfl (Nat.le_of_ble_eq_true rfl) ⟨Nat.zero_le _, Nat.zero_le _⟩ dX8_count_52 ?_
        exact W.iret (v := o6) hx hb hr (fun t ht _ => ⟨o6, rfl, so_i hf, ht⟩) (fun _ h => by cases h) dX8_count_55
      · replace hf := if_f hf c5
        by_cases c7 : p1 = 3
        · replace hf := if_t hf c7
          refine lv_tableIn (tgt := 56) (off := 55) hx hb dX8_count_1 (by rw [c7]; decide) (by rw [c7]; decide) (by rw [c7]; rfl) (by decide) ?_
          refine lv_aload_n hx hb dX8_count_56 rfl (lv_at hl 0 rfl) ?_
          refine va_get (D := D) (ci := 6) (v := .int (st.1 0)) (C := RX8) (T := TX8) (N := 8) hx hb hts hiX8 hown hK hP 0 rfl rfl 6 (by decide) k53 (fun _ h9 => h9) rfl dX8_count_57 ?_
          exact W.iret (v := (st.1 0)) hx hb hr (fun t ht _ => ⟨(st.1 0), rfl, so_i hf, ht⟩) (fun _ h => by cases h) dX8_count_60
        · replace hf := if_f hf c7
          have tc1 : ¬ Int32.toInt p1 = 0 := lv_neT c1 (by decide)
          have tc3 : ¬ Int32.toInt p1 = 1 := lv_neT c3 (by decide)
          have tc5 : ¬ Int32.toInt p1 = 2 := lv_neT c5 (by decide)
          have tc7 : ¬ Int32.toInt p1 = 3 := lv_neT c7 (by decide)
          refine lv_tableOut (tgt := 61) hx hb dX8_count_1 (by omega) (by decide) ?_
          refine lv_iconst (v := -1) hx hb dX8_count_61 (by decide) ?_
          exact W.iret (v := (-1)) hx hb hr (fun t ht _ => ⟨(-1), rfl, so_i hf, ht⟩) (fun _ h => by cases h) dX8_count_62
