set_option maxHeartbeats 4000000 in
set_option maxRecDepth 100000 in
theorem c_X3_forget (l : Launch) (D : va_G) (cI : ClassId) (a tb : Nat → Nat) (st : ST) (p1 : Int32) (r : ST) (hf : fX3_forget st p1 = some r) : MetV l yX3_forget wsX3_forget ({ frames := 0, cells := 0, slots := 0, locals := 0 }) [.ref (a 4), .int p1] D [(cI, .int)] (cw cI a) (cA a) tb st r := by
  refine met_of (cc := cX3_forget) (maxL := 2) (ret := none) (by decide) rfl (Nat.le_of_ble_eq_true rfl) ?_
  intro p e s m below meth c hx hb hr hml hts hown hlk hG ls hl
  have hown : s.vm.findClass RX3 = some m.cls := hown
  obtain ⟨hP, hK, hD, hZ⟩ := hG
  have hS : va_S (cA a) s.heap s.heap [] := va_S.rf
  have hl : lv_has ls 2 [(0, .ref (a 4)), (1, .int p1)] := hl
  have hiX3 : ∀ w ∈ wsX30, w ∈ wsX3_forget := by decide +kernel
  have k32 := hts (.fieldLink RX3 32 "DayColumn$Readings" "stylesRead" "[I") (by decide +kernel)
  unfold fX3_forget at hf
  refine lv_iload_n hx hb dX3_forget_0 rfl (lv_at hl 1 rfl) ?_
  refine lv_if_lt (tgt := 17) hx hb dX3_forget_1 (by decide) (fun c1 => ?_) (fun c1 => ?_)
  · replace hf := if_t hf c1
    exact W.vret hx hb hr (fun t ht _ => ⟨⟨st, rfl, so_i hf, p_at ht hP⟩, hS.F ht⟩) hS.2.2 dX3_forget_17
  · replace hf := if_f hf c1
    refine lv_iload_n hx hb dX3_forget_4 rfl (lv_at hl 1 rfl) ?_
    refine lv_bipush (v := 30) hx hb dX3_forget_5 (by decide) ?_
    refine lv_icmp_ge (tgt := 17) hx hb dX3_forget_7 (by decide) (fun c2 => ?_) (fun c2 => ?_)
    · replace hf := if_t hf c2
      exact W.vret hx hb hr (fun t ht _ => ⟨⟨st, rfl, so_i hf, p_at ht hP⟩, hS.F ht⟩) hS.2.2 dX3_forget_17
    · replace hf := if_f hf c2
      refine lv_aload_n hx hb dX3_forget_10 rfl (lv_at hl 0 rfl) ?_
      refine va_get (D := D) (ci := 2) (v := .ref (a 16)) (C := RX3) (T := TX3) (N := 7) hx hb hts hiX3 hown hK hP 4 rfl rfl 5 (by decide) k32 (fun _ h9 => h9) rfl dX3_forget_11 ?_
      refine lv_iload_n hx hb dX3_forget_14 rfl (lv_at hl 1 rfl) ?_
      refine lv_iconst (v := 0) hx hb dX3_forget_15 (by decide) ?_
      obtain ⟨hi3, hf⟩ := ix_e hf
      obtain ⟨s4, es4, hf⟩ := bnd_e hf
      refine va_iast hx hb hK hP (hD st) hS 16 0 rfl rfl hi3 dX3_forget_16 (fun H locs hP _ hS => ?_)
      have hP : va_P D vwCl (cw cI a s4) H := by rw [es4]; exact hP
      exact W.vret hx hb hr (fun t ht _ => ⟨⟨s4, rfl, so_i hf, p_at ht hP⟩, hS.F ht⟩) hS.2.2 dX3_forget_17
set_option maxHeartbeats 4000000 in
set_option maxRecDepth 100000 in
theorem c_X3_edge (l : Launch) (D : va_G) (cI : ClassId) (a tb : Nat → Nat) (st : ST) (p1 p2 p3 : Int32) (r : Int32) (hf : fX3_edge st p1 p2 p3 = some r) : MetR l yX3_edge wsX3_edge ({ frames := 0, cells := 0, slots := 0, locals := 0 }) [.ref (a 4), .int p1, .int p2, .int p3] D [(cI, .int)] (cw cI a) (cA a) tb st r := by
  refine met_of (cc := cX3_edge) (maxL := 5) (ret := (some .int)) (by decide) rfl (Nat.le_of_ble_eq_true rfl) ?_
  intro p e s m below meth c hx hb hr hml hts hown hlk hG ls hl
  have hown : s.vm.findClass RX3 = some m.cls := hown
  obtain ⟨hP, hK, hD, hZ⟩ := hG
  have hS : va_S (cA a) s.heap s.heap [] := va_S.rf
  have hl : lv_has ls 5 [(0, .ref (a 4)), (1, .int p1), (2, .int p2), (3, .int p3)] := hl
  have hiX3 : ∀ w ∈ wsX30, w ∈ wsX3_edge := by decide +kernel
  have k25 := hts (.fieldLink RX3 25 "DayColumn$Readings" "first" "[I") (by decide +kernel)
  have k29 := hts (.fieldLink RX3 29 "DayColumn$Readings" "last" "[I") (by decide +kernel)
  unfold fX3_edge at hf
  refine lv_iload_n hx hb dX3_edge_0 rfl (lv_at hl 1 rfl) ?_
  refine lv_if_lt (tgt := 29) hx hb dX3_edge_1 (by decide) (fun c1 => ?_) (fun c1 => ?_)
  · replace hf := if_t hf c1
    refine lv_iconst (v := -1) hx hb dX3_edge_29 (by decide) ?_
    exact W.iret (v := (-1)) hx hb hr (fun t ht _ => ⟨(-1), rfl, so_i hf, ht⟩) (fun _ h => by cases h) dX3_edge_30
  · replace hf := if_f hf c1
    refine lv_iload_n hx hb dX3_edge_4 rfl (lv_at hl 1 rfl) ?_
    refine lv_bipush (v := 30) hx hb dX3_edge_5 (by decide) ?_
    refine lv_icmp_ge (tgt := 29) hx hb dX3_edge_7 (by decide) (fun c2 => ?_) (fun c2 => ?_)
    · replace hf := if_t hf c2
      refine lv_iconst (v := -1) hx hb dX3_edge_29 (by decide) ?_
      exact W.iret (v := (-1)) hx hb hr (fun t ht _ => ⟨(-1), rfl, so_i hf, ht⟩) (fun _ h => by cases h) dX3_edge_30
    · replace hf := if_f hf c2
      refine lv_iload_n hx hb dX3_edge_10 rfl (lv_at hl 2 rfl) ?_
      refine lv_if_lt (tgt := 29) hx hb dX3_edge_11 (by decide) (fun c3 => ?_) (fun c3 => ?_)
      · replace hf := if_t hf c3
        refine lv_iconst (v := -1) hx hb dX3_edge_29 (by decide) ?_
        exact W.iret (v := (-1)) hx hb hr (fun t ht _ => ⟨(-1), rfl, so_i hf, ht⟩) (fun _ h => by cases h) dX3_edge_30
      · replace hf := if_f hf c3
        refine lv_iload_n hx hb dX3_edge_14 rfl (lv_at hl 2 rfl) ?_
        refine lv_bipush (v := 8) hx hb dX3_edge_15 (by decide) ?_
        refine lv_icmp_ge (tgt := 29) hx hb dX3_edge_17 (by decide) (fun c4 => ?_) (fun c4 => ?_)
        · replace hf := if_t hf c4
          refine lv_iconst (v := -1) hx hb dX3_edge_29 (by decide) ?_
          exact W.iret (v := (-1)) hx hb hr (fun t ht _ => ⟨(-1), rfl, so_i hf, ht⟩) (fun _ h => by cases h) dX3_edge_30
        · replace hf := if_f hf c4
          refine lv_iload_n hx hb dX3_edge_20 rfl (lv_at hl 3 rfl) ?_
          refine lv_if_lt (tgt := 29) hx hb dX3_edge_21 (by decide) (fun c5 => ?_) (fun c5 => ?_)
          · replace hf := if_t hf c5
            refine lv_iconst (v := -1) hx hb dX3_edge_29 (by decide) ?_
            exact W.iret (v := (-1)) hx hb hr (fun t ht _ => ⟨(-1), rfl, so_i hf, ht⟩) (fun _ h => by cases h) dX3_edge_30
          · replace hf := if_f hf c5
            refine lv_iload_n hx hb dX3_edge_24 rfl (lv_at hl 3 rfl) ?_
            refine lv_iconst (v := 1) hx hb dX3_edge_25 (by decide) ?_
            refine lv_icmp_le (tgt := 31) hx hb dX3_edge_26 (by decide) (fun c6 => ?_) (fun c6 => ?_)
            · replace hf := if_t hf c6
              refine lv_iload_n hx hb dX3_edge_31 rfl (lv_at hl 1 rfl) ?_
              refine lv_bipush (v := 8) hx hb dX3_edge_32 (by decide) ?_
              refine lv_imul hx hb dX3_edge_34 ?_
              refine lv_iload_n hx hb dX3_edge_35 rfl (lv_at hl 2 rfl) ?_
              refine lv_iadd hx hb dX3_edge_36 ?_
              obtain ⟨x7, ex7, hf⟩ := bnd_e hf
              refine w_nm ex7 ?_
              refine lv_istore (lv' := [(4, .int x7), (0, .ref (a 4)), (1, .int p1), (2, .int p2), (3, .int p3)]) hx hb dX3_edge_37 hl (by decide) rfl (fun ls hl => ?_)
              refine lv_iload_n hx hb dX3_edge_39 rfl (lv_at hl 4 rfl) ?_
              refine lv_if_ne (tgt := 53) hx hb dX3_edge_40 (by decide) (fun c8 => ?_) (fun c8 => ?_)
              · replace hf := if_f hf c8
                refine lv_aload_n hx hb dX3_edge_53 rfl (lv_at hl 1 rfl) ?_
                refine va_get (D := D) (ci := 2) (v := .ref (a 15)) (C := RX3) (T := TX3) (N := 7) hx hb hts hiX3 hown hK hP 4 rfl rfl 4 (by decide) k29 (fun _ h9 => h9) rfl dX3_edge_54 ?_
                refine lv_iload hx hb dX3_edge_57 (lv_at hl 0 rfl) ?_
                obtain ⟨hi9, hf⟩ := ix_e hf
                refine va_iald hx hb hK hP 15 0 rfl rfl hi9 dX3_edge_59 ?_
                exact W.iret (v := (st.2 7 (Int32.toNatClampNeg x7))) hx hb hr (fun t ht _ => ⟨(st.2 7 (Int32.toNatClampNeg x7)), rfl, so_i hf, ht⟩) (fun _ h => by cases h) dX3_edge_60
              · replace hf := if_t hf c8
                refine lv_aload_n hx hb dX3_edge_43 rfl (lv_at hl 1 rfl) ?_
                refine va_get (D := D) (ci := 2) (v := .ref (a 14)) (C := RX3) (T := TX3) (N := 7) hx hb hts hiX3 hown hK hP 4 rfl rfl 3 (by decide) k25 (fun _ h9 => h9) rfl dX3_edge_44 ?_
                refine lv_iload hx hb dX3_edge_47 (lv_at hl 0 rfl) ?_
                obtain ⟨hi10, hf⟩ := ix_e hf
                refine va_iald hx hb hK hP 14 0 rfl rfl hi10 dX3_edge_49 ?_
                refine lv_goto (tgt := 60) hx hb dX3_edge_50 (by decide) ?_
                exact W.iret (v := (st.2 6 (Int32.toNatClampNeg x7))) hx hb hr (fun t ht _ => ⟨(st.2 6 (Int32.toNatClampNeg x7)), rfl, so_i hf, ht⟩) (fun _ h => by cases h) dX3_edge_60
            · replace hf := if_f hf c6
              refine lv_iconst (v := -1) hx hb dX3_edge_29 (by decide) ?_
              exact W.iret (v := (-1)) hx hb hr (fun t ht _ => ⟨(-1), rfl, so_i hf, ht⟩) (fun _ h => by cases h) dX3_edge_30
set_option maxHeartbeats 4000000 in
set_option maxRecDepth 100000 in
theorem c_X3_isRead (l : Launch) (D : va_G) (cI : ClassId) (a tb : Nat → Nat) (st : ST) (p1 p2 : Int32) (r : Int32) (hf : fX3_isRead st p1 p2 = some r) : MetR l yX3_isRead wsX3_isRead ({ frames := 1, cells := 0, slots := 0, locals := 24 }) [.ref (a 4), .int p1, .int p2] D [(cI, .int)] (cw cI a) (cA a) tb st r := by
  refine met_of (cc := cX3_isRead) (maxL := 3) (ret := (some .boolean)) (by decide) rfl (Nat.le_of_ble_eq_true rfl) ?_
  intro p e s m below meth c hx hb hr hml hts hown hlk hG ls hl
  have hown : s.vm.findClass RX3 = some m.cls := hown
  obtain ⟨hP, hK, hD, hZ⟩ := hG
  have hS : va_S (cA a) s.heap s.heap [] := va_S.rf
  have hl : lv_has ls 3 [(0, .ref (a 4)), (1, .int p1), (2, .int p2)] := hl
  unfold fX3_isRead at hf
  refine lv_aload_n hx hb dX3_isRead_0 rfl (lv_at hl 0 rfl) ?_
  refine lv_iload_n hx hb dX3_isRead_1 rfl (lv_at hl 1 rfl) ?_
  refine lv_iload_n hx hb dX3_isRead_2 rfl (lv_at hl 2 rfl) ?_
  refine lv_iconst (v := 0) hx hb dX3_isRead_3 (by decide) ?_
  obtain ⟨o1, ho1, hf⟩ := ob_e hf
  refine w_callR (b := a 4) (As := [.int p1, .int p2, .int 0]) (rest := []) ⟨hx, hb, hml, hown, hts⟩ (c_X3_edge l D cI a tb st p1 p2 0 o1 ho1) (cwV 3 hts gX3_isRead_X3_edge rfl rfl rfl (by decide +kernel) ⟨Nat.le_of_ble_eq_true rfl, Nat.le_of_ble_eq_true rfl⟩) hP hK hD hZ hS (va_recv hK hP (ci := 2) (q0 := 4) rfl rfl) rfl hl.1 rfl (Nat.le_of_ble_eq_true rfl) ⟨Nat.zero_le _, Nat.zero_le _⟩ dX3_isRead_4 ?_
  refine lv_iconst (v := -1) hx hb dX3_isRead_7 (by decide) ?_
  refine lv_icmp_eq (tgt := 15) hx hb dX3_isRead_8 (by decide) (fun c2 => ?_) (fun c2 => ?_)
  · replace hf := if_t hf c2
    refine lv_iconst (v := 0) hx hb dX3_isRead_15 (by decide) ?_
    exact W.zret (v := 0) hx hb hr rfl (fun t ht _ => ⟨0, rfl, so_i hf, ht⟩) (fun _ h => by cases h) dX3_isRead_16
  · replace hf := if_f hf c2
    refine lv_iconst (v := 1) hx hb dX3_isRead_11 (by decide) ?_
    refine lv_goto (tgt := 16) hx hb dX3_isRead_12 (by decide) ?_
    exact W.zret (v := 1) hx hb hr rfl (fun t ht _ => ⟨1, rfl, so_i hf, ht⟩) (fun _ h => by cases h) dX3_isRead_16
set_option maxHeartbeats 4000000 in
set_option maxRecDepth 100000 in
theorem c_X3_isAlike (l : Launch) (D : va_G) (cI : ClassId) (a tb : Nat → Nat) (st : ST) (p1 p2 p3 : Int32) (r : Int32) (hf : fX3_isAlike st p1 p2 p3 = some r) : MetR l yX3_isAlike wsX3_isAlike ({ frames := 1, cells := 0, slots := 0, locals := 24 }) [.ref (a 4), .int p1, .int p2, .int p3] D [(cI, .int)] (cw cI a) (cA a) tb st r := by
  refine met_of (cc := cX3_isAlike) (maxL := 4) (ret := (some .boolean)) (by decide) rfl (Nat.le_of_ble_eq_true rfl) ?_
  intro p e s m below meth c hx hb hr hml hts hown hlk hG ls hl
  have hown : s.vm.findClass RX3 = some m.cls := hown
  obtain ⟨hP, hK, hD, hZ⟩ := hG
  have hS : va_S (cA a) s.heap s.heap [] := va_S.rf
  have hl : lv_has ls 4 [(0, .ref (a 4)), (1, .int p1), (2, .int p2), (3, .int p3)] := hl
  unfold fX3_isAlike at hf
  refine lv_aload_n hx hb dX3_isAlike_0 rfl (lv_at hl 0 rfl) ?_
  refine lv_iload_n hx hb dX3_isAlike_1 rfl (lv_at hl 1 rfl) ?_
  refine lv_iload_n hx hb dX3_isAlike_2 rfl (lv_at hl 2 rfl) ?_
  refine lv_iconst (v := 0) hx hb dX3_isAlike_3 (by decide) ?_
  obtain ⟨o1, ho1, hf⟩ := ob_e hf
  refine w_callR (b := a 4) (As := [.int p1, .int p2, .int 0]) (rest := []) ⟨hx, hb, hml, hown, hts⟩ (c_X3_edge l D cI a tb st p1 p2 0 o1 ho1) (cwV 3 hts gX3_isAlike_X3_edge rfl rfl rfl (by decide +kernel) ⟨Nat.le_of_ble_eq_true rfl, Nat.le_of_ble_eq_true rfl⟩) hP hK hD hZ hS (va_recv hK hP (ci := 2) (q0 := 4) rfl rfl) rfl hl.1 rfl (Nat.le_of_ble_eq_true rfl) ⟨Nat.zero_le _, Nat.zero_le _⟩ dX3_isAlike_4 ?_
  refine lv_aload_n hx hb dX3_isAlike_7 rfl (lv_at hl 0 rfl) ?_
  refine lv_iload_n hx hb dX3_isAlike_8 rfl (lv_at hl 1 rfl) ?_
  refine lv_iload_n hx hb dX3_isAlike_9 rfl (lv_at hl 3 rfl) ?_
  refine lv_iconst (v := 0) hx hb dX3_isAlike_10 (by decide) ?_
  obtain ⟨o2, ho2, hf⟩ := ob_e hf
  refine w_callR (b := a 4) (As := [.int p1, .int p3, .int 0]) (rest := [.int o1]) ⟨hx, hb, hml, hown, hts⟩ (c_X3_edge l D cI a tb st p1 p3 0 o2 ho2) (cwV 3 hts gX3_isAlike_X3_edge rfl rfl rfl (by decide +kernel) ⟨Nat.le_of_ble_eq_true rfl, Nat.le_of_ble_eq_true rfl⟩) hP hK hD hZ hS (va_recv hK hP (ci := 2) (q0 := 4) rfl rfl) rfl hl.1 rfl (Nat.le_of_ble_eq_true rfl) ⟨Nat.zero_le _, Nat.zero_le _⟩ dX3_isAlike_11 ?_
  refine lv_icmp_ne (tgt := 38) hx hb dX3_isAlike_14 (by decide) (fun c3 => ?_) (fun c3 => ?_)
  · replace hf := if_f hf c3
    refine lv_iconst (v := 0) hx hb dX3_isAlike_38 (by decide) ?_
    exact W.zret (v := 0) hx hb hr rfl (fun t ht _ => ⟨0, rfl, so_i hf, ht⟩) (fun _ h => by cases h) dX3_isAlike_39
  · replace hf := if_t hf c3
    refine lv_aload_n hx hb dX3_isAlike_17 rfl (lv_at hl 0 rfl) ?_
    refine lv_iload_n hx hb dX3_isAlike_18 rfl (lv_at hl 1 rfl) ?_
    refine lv_iload_n hx hb dX3_isAlike_19 rfl (lv_at hl 2 rfl) ?_
    refine lv_iconst (v := 1) hx hb dX3_isAlike_20 (by decide) ?_
    obtain ⟨o4, ho4, hf⟩ := ob_e hf
    refine w_callR (b := a 4) (As := [.int p1, .int p2, .int 1]) (rest := []) ⟨hx, hb, hml, hown, hts⟩ (c_X3_edge l D cI a tb st p1 p2 1 o4 ho4) (cwV 3 hts gX3_isAlike_X3_edge rfl rfl rfl (by decide +kernel) ⟨Nat.le_of_ble_eq_true rfl, Nat.le_of_ble_eq_true rfl⟩) hP hK hD hZ hS (va_recv hK hP (ci := 2) (q0 := 4) rfl rfl) rfl hl.1 rfl (Nat.le_of_ble_eq_true rfl) ⟨Nat.zero_le _, Nat.zero_le _⟩ dX3_isAlike_21 ?_
    refine lv_aload_n hx hb dX3_isAlike_24 rfl (lv_at hl 0 rfl) ?_
    refine lv_iload_n hx hb dX3_isAlike_25 rfl (lv_at hl 1 rfl) ?_
    refine lv_iload_n hx hb dX3_isAlike_26 rfl (lv_at hl 3 rfl) ?_
    refine lv_iconst (v := 1) hx hb dX3_isAlike_27 (by decide) ?_
    obtain ⟨o5, ho5, hf⟩ := ob_e hf
    refine w_callR (b := a 4) (As := [.int p1, .int p3, .int 1]) (rest := [.int o4]) ⟨hx, hb, hml, hown, hts⟩ (c_X3_edge l D cI a tb st p1 p3 1 o5 ho5) (cwV 3 hts gX3_isAlike_X3_edge rfl rfl rfl (by decide +kernel) ⟨Nat.le_of_ble_eq_true rfl, Nat.le_of_ble_eq_true rfl⟩) hP hK hD hZ hS (va_recv hK hP (ci := 2) (q0 := 4) rfl rfl) rfl hl.1 rfl (Nat.le_of_ble_eq_true rfl) ⟨Nat.zero_le _, Nat.zero_le _⟩ dX3_isAlike_28 ?_
    refine lv_icmp_ne (tgt := 38) hx hb dX3_isAlike_31 (by decide) (fun c6 => ?_) (fun c6 => ?_)
    · replace hf := if_f hf c6
      refine lv_iconst (v := 0) hx hb dX3_isAlike_38 (by decide) ?_
      exact W.zret (v := 0) hx hb hr rfl (fun t ht _ => ⟨0, rfl, so_i hf, ht⟩) (fun _ h => by cases h) dX3_isAlike_39
    · replace hf := if_t hf c6
      refine lv_iconst (v := 1) hx hb dX3_isAlike_34 (by decide) ?_
      refine lv_goto (tgt := 39) hx hb dX3_isAlike_35 (by decide) ?_
      exact W.zret (v := 1) hx hb hr rfl (fun t ht _ => ⟨1, rfl, so_i hf, ht⟩) (fun _ h => by cases h) dX3_isAlike_39
set_option maxHeartbeats 4000000 in
set_option maxRecDepth 100000 in
theorem c_X3_isSaidAhead (l : Launch) (D : va_G) (cI : ClassId) (a tb : Nat → Nat) (st : ST) (p1 p2 : Int32) (r : Int32) (hf : fX3_isSaidAhead st p1 p2 = some r) : MetR l yX3_isSaidAhead wsX3_isSaidAhead ({ frames := 2, cells := 0, slots := 0, locals := 47 }) [.ref (a 4), .int p1, .int p2] D [(cI, .int)] (cw cI a) (cA a) tb st r := by
  refine met_of (cc := cX3_isSaidAhead) (maxL := 4) (ret := (some .boolean)) (by decide) rfl (Nat.le_of_ble_eq_true rfl) ?_
  intro p e s m below meth c hx hb hr hml hts hown hlk hG ls hl
  have hown : s.vm.findClass RX3 = some m.cls := hown
  obtain ⟨hP, hK, hD, hZ⟩ := hG
  have hS : va_S (cA a) s.heap s.heap [] := va_S.rf
  have hl : lv_has ls 4 [(0, .ref (a 4)), (1, .int p1), (2, .int p2)] := hl
  have l2 : ∀ (n : Nat) (x_1 x_2 x_3 : Int32) (ls : Array Slot), lv_has ls 4 [(0, .ref (a 4)), (1, .int x_1), (2, .int x_2), (3, .int x_3)] → fX3_isSaidAhead_2 n st x_1 x_2 x_3 = some r → W p l e ({ frames := 2, cells := 0, slots := 0, locals := 47 }) s m ([.ref (a 4), .int p1, .int p2] : List Value).toArray below meth c s.heap [] 0 0 (MQ below (vp_Si (fun z => z = r)) ([.ref (a 4), .int p1, .int p2] : List Value).toArray s 0 0 (fun _ => False)) (F0 m 2 ls []) := by
    intro n
    induction n with
    | zero =>
      intro x_1 x_2 x_3 ls hl hf
      cases hf
    | succ n ih2 =>
      intro x_1 x_2 x_3 ls hl hf
      unfold fX3_isSaidAhead_2 at hf
      refine lv_iload_n hx hb dX3_isSaidAhead_2 rfl (lv_at hl 3 rfl) ?_
      refine lv_iload_n hx hb dX3_isSaidAhead_3 rfl (lv_at hl 2 rfl) ?_
      refine lv_icmp_ge (tgt := 25) hx hb dX3_isSaidAhead_4 (by decide) (fun c1 => ?_) (fun c1 => ?_)
      · replace hf := if_t hf c1
        refine lv_iconst (v := 0) hx hb dX3_isSaidAhead_25 (by decide) ?_
        exact W.zret (v := 0) hx hb hr rfl (fun t ht _ => ⟨0, rfl, so_i hf, ht⟩) (fun _ h => by cases h) dX3_isSaidAhead_26
      · replace hf := if_f hf c1
        refine lv_aload_n hx hb dX3_isSaidAhead_7 rfl (lv_at hl 0 rfl) ?_
        refine lv_iload_n hx hb dX3_isSaidAhead_8 rfl (lv_at hl 1 rfl) ?_
        refine lv_iload_n hx hb dX3_isSaidAhead_9 rfl (lv_at hl 3 rfl) ?_
        refine lv_iload_n hx hb dX3_isSaidAhead_10 rfl (lv_at hl 2 rfl) ?_
        obtain ⟨o2, ho2, hf⟩ := ob_e hf
        refine w_callR (b := a 4) (As := [.int x_1, .int x_3, .int x_2]) (rest := []) ⟨hx, hb, hml, hown, hts⟩ (c_X3_isAlike l D cI a tb st x_1 x_3 x_2 o2 ho2) (cwV 3 hts gX3_isSaidAhead_X3_isAlike rfl rfl rfl (by decide +kernel) ⟨Nat.le_of_ble_eq_true rfl, Nat.le_of_ble_eq_true rfl⟩) hP hK hD hZ hS (va_recv hK hP (ci := 2) (q0 := 4) rfl rfl) rfl hl.1 rfl (Nat.le_of_ble_eq_true rfl) ⟨Nat.zero_le _, Nat.zero_le _⟩ dX3_isSaidAhead_11 ?_
        refine lv_if_eq (tgt := 19) hx hb dX3_isSaidAhead_14 (by decide) (fun c3 => ?_) (fun c3 => ?_)
        · replace hf := if_t hf c3
          obtain ⟨x4, ex4, hf⟩ := bnd_e hf
          refine lv_iinc (v := x4) (lv' := [(3, .int x4), (0, .ref (a 4)), (1, .int x_1), (2, .int x_2)]) hx hb dX3_isSaidAhead_19 hl (k := 3) rfl (by rw [ex4]; rfl) (by decide) rfl (fun ls hl => ?_)
          refine lv_goto (tgt := 2) hx hb dX3_isSaidAhead_22 (by decide) ?_
          exact ih2 x_1 x_2 x4 _ (lv_sub hl [1, 2, 3, 0] rfl) hf
        · replace hf := if_f hf c3
          refine lv_iconst (v := 1) hx hb dX3_isSaidAhead_17 (by decide) ?_
          exact W.zret (v := 1) hx hb hr rfl (fun t ht _ => ⟨1, rfl, so_i hf, ht⟩) (fun _ h => by cases h) dX3_isSaidAhead_18
  unfold fX3_isSaidAhead at hf
  refine lv_iconst (v := 0) hx hb dX3_isSaidAhead_0 (by decide) ?_
  refine lv_istore_n (lv' := [(3, .int 0), (0, .ref (a 4)), (1, .int p1), (2, .int p2)]) hx hb dX3_isSaidAhead_1 rfl hl (by decide) rfl (fun ls hl => ?_)
  exact l2 1000 p1 p2 0 _ (lv_sub hl [1, 2, 3, 0] rfl) hf
set_option maxHeartbeats 4000000 in
set_option maxRecDepth 100000 in
theorem c_X3_unlike (l : Launch) (D : va_G) (cI : ClassId) (a tb : Nat → Nat) (st : ST) (p1 : Int32) (r : Int32) (hf : fX3_unlike st p1 = some r) : MetR l yX3_unlike wsX3_unlike ({ frames := 3, cells := 0, slots := 0, locals := 70 }) [.ref (a 4), .int p1] D [(cI, .int)] (cw cI a) (cA a) tb st r := by
  refine met_of (cc := cX3_unlike) (maxL := 4) (ret := (some .int)) (by decide) rfl (Nat.le_of_ble_eq_true rfl) ?_
  intro p e s m below meth c hx hb hr hml hts hown hlk hG ls hl
  have hown : s.vm.findClass RX3 = some m.cls := hown
  obtain ⟨hP, hK, hD, hZ⟩ := hG
  have hS : va_S (cA a) s.heap s.heap [] := va_S.rf
  have hl : lv_has ls 4 [(0, .ref (a 4)), (1, .int p1)] := hl
  have hiX3 : ∀ w ∈ wsX30, w ∈ wsX3_unlike := by decide +kernel
  have k9 := hts (.fieldLink RX3 9 "DayColumn$Readings" "patterns" "LDayColumn$Texts;") (by decide +kernel)
  have l4 : ∀ (n : Nat) (x_1 x_2 x_3 : Int32) (ls : Array Slot), lv_has ls 4 [(0, .ref (a 4)), (1, .int x_1), (2, .int x_2), (3, .int x_3)] → fX3_unlike_4 n st x_1 x_2 x_3 = some r → W p l e ({ frames := 3, cells := 0, slots := 0, locals := 70 }) s m ([.ref (a 4), .int p1] : List Value).toArray below meth c s.heap [] 0 0 (MQ below (vp_Si (fun z => z = r)) ([.ref (a 4), .int p1] : List Value).toArray s 0 0 (fun _ => False)) (F0 m 4 ls []) := by
    intro n
    induction n with
    | zero =>
      intro x_1 x_2 x_3 ls hl hf
      cases hf
    | succ n ih4 =>
      intro x_1 x_2 x_3 ls hl hf
      unfold fX3_unlike_4 at hf
      refine lv_iload_n hx hb dX3_unlike_4 rfl (lv_at hl 3 rfl) ?_
      refine lv_aload_n hx hb dX3_unlike_5 rfl (lv_at hl 0 rfl) ?_
      refine va_get (D := D) (ci := 2) (v := .ref (a 2)) (C := RX3) (T := TX3) (N := 7) hx hb hts hiX3 hown hK hP 4 rfl rfl 0 (by decide) k9 (fun _ h9 => h9) rfl dX3_unlike_6 ?_
      obtain ⟨o1, ho1, hf⟩ := ob_e hf
      refine w_callR (b := a 2) (As := []) (rest := [.int x_3]) ⟨hx, hb, hml, hown, hts⟩ (c_X5_size_p l D cI a tb st o1 ho1) (cwV 0 hts gX3_unlike_X5_size rfl rfl rfl (by decide +kernel) ⟨Nat.le_of_ble_eq_true rfl, Nat.le_of_ble_eq_true rfl⟩) hP hK hD hZ hS (va_recv hK hP (ci := 4) (q0 := 2) rfl rfl) rfl hl.1 rfl (Nat.le_of_ble_eq_true rfl) ⟨Nat.zero_le _, Nat.zero_le _⟩ dX3_unlike_9 ?_
      refine lv_icmp_ge (tgt := 42) hx hb dX3_unlike_12 (by decide) (fun c2 => ?_) (fun c2 => ?_)
      · replace hf := if_t hf c2
        refine lv_iload_n hx hb dX3_unlike_42 rfl (lv_at hl 2 rfl) ?_
        exact W.iret (v := x_2) hx hb hr (fun t ht _ => ⟨x_2, rfl, so_i hf, ht⟩) (fun _ h => by cases h) dX3_unlike_43
      · replace hf := if_f hf c2
        refine lv_aload_n hx hb dX3_unlike_15 rfl (lv_at hl 0 rfl) ?_
        refine lv_iload_n hx hb dX3_unlike_16 rfl (lv_at hl 1 rfl) ?_
        refine lv_iload_n hx hb dX3_unlike_17 rfl (lv_at hl 3 rfl) ?_
        obtain ⟨o3, ho3, hf⟩ := ob_e hf
        refine w_callR (b := a 4) (As := [.int x_1, .int x_3]) (rest := []) ⟨hx, hb, hml, hown, hts⟩ (c_X3_isRead l D cI a tb st x_1 x_3 o3 ho3) (cwV 2 hts gX3_unlike_X3_isRead rfl rfl rfl (by decide +kernel) ⟨Nat.le_of_ble_eq_true rfl, Nat.le_of_ble_eq_true rfl⟩) hP hK hD hZ hS (va_recv hK hP (ci := 2) (q0 := 4) rfl rfl) rfl hl.1 rfl (Nat.le_of_ble_eq_true rfl) ⟨Nat.zero_le _, Nat.zero_le _⟩ dX3_unlike_18 ?_
        refine lv_if_eq (tgt := 36) hx hb dX3_unlike_21 (by decide) (fun c4 => ?_) (fun c4 => ?_)
        · replace hf := if_t hf c4
          obtain ⟨x5, ex5, hf⟩ := bnd_e hf
          refine lv_iinc (v := x5) (lv' := [(3, .int x5), (0, .ref (a 4)), (1, .int x_1), (2, .int x_2)]) hx hb dX3_unlike_36 hl (k := 3) rfl (by rw [ex5]; rfl) (by decide) rfl (fun ls hl => ?_)
          refine lv_goto (tgt := 4) hx hb dX3_unlike_39 (by decide) ?_
          exact ih4 x_1 x_2 x5 _ (lv_sub hl [1, 2, 3, 0] rfl) hf
        · replace hf := if_f hf c4
          refine lv_aload_n hx hb dX3_unlike_24 rfl (lv_at hl 0 rfl) ?_
          refine lv_iload_n hx hb dX3_unlike_25 rfl (lv_at hl 1 rfl) ?_
          refine lv_iload_n hx hb dX3_unlike_26 rfl (lv_at hl 3 rfl) ?_
          obtain ⟨o6, ho6, hf⟩ := ob_e hf
          refine w_callR (b := a 4) (As := [.int x_1, .int x_3]) (rest := []) ⟨hx, hb, hml, hown, hts⟩ (c_X3_isSaidAhead l D cI a tb st x_1 x_3 o6 ho6) (cwV 2 hts gX3_unlike_X3_isSaidAhead rfl rfl rfl (by decide +kernel) ⟨Nat.le_of_ble_eq_true rfl, Nat.le_of_ble_eq_true rfl⟩) hP hK hD hZ hS (va_recv hK hP (ci := 2) (q0 := 4) rfl rfl) rfl hl.1 rfl (Nat.le_of_ble_eq_true rfl) ⟨Nat.zero_le _, Nat.zero_le _⟩ dX3_unlike_27 ?_
          refine lv_if_ne (tgt := 36) hx hb dX3_unlike_30 (by decide) (fun c7 => ?_) (fun c7 => ?_)
          · replace hf := if_f hf c7
            obtain ⟨x8, ex8, hf⟩ := bnd_e hf
            refine lv_iinc (v := x8) (lv' := [(3, .int x8), (0, .ref (a 4)), (1, .int x_1), (2, .int x_2)]) hx hb dX3_unlike_36 hl (k := 3) rfl (by rw [ex8]; rfl) (by decide) rfl (fun ls hl => ?_)
            refine lv_goto (tgt := 4) hx hb dX3_unlike_39 (by decide) ?_
            exact ih4 x_1 x_2 x8 _ (lv_sub hl [1, 2, 3, 0] rfl) hf
          · replace hf := if_t hf c7
            obtain ⟨x9, ex9, hf⟩ := bnd_e hf
            refine lv_iinc (v := x9) (lv' := [(2, .int x9), (0, .ref (a 4)), (1, .int x_1), (3, .int x_3)]) hx hb dX3_unlike_33 hl (k := 2) rfl (by rw [ex9]; rfl) (by decide) rfl (fun ls hl => ?_)
            obtain ⟨x10, ex10, hf⟩ := bnd_e hf
            refine lv_iinc (v := x10) (lv' := [(3, .int x10), (2, .int x9), (0, .ref (a 4)), (1, .int x_1)]) hx hb dX3_unlike_36 hl (k := 3) rfl (by rw [ex10]; rfl) (by decide) rfl (fun ls hl => ?_)
            refine lv_goto (tgt := 4) hx hb dX3_unlike_39 (by decide) ?_
            exact ih4 x_1 x9 x10 _ (lv_sub hl [2, 3, 1, 0] rfl) hf
  unfold fX3_unlike at hf
  refine lv_iconst (v := 0) hx hb dX3_unlike_0 (by decide) ?_
  refine lv_istore_n (lv' := [(2, .int 0), (0, .ref (a 4)), (1, .int p1)]) hx hb dX3_unlike_1 rfl hl (by decide) rfl (fun ls hl => ?_)
  refine lv_iconst (v := 0) hx hb dX3_unlike_2 (by decide) ?_
  refine lv_istore_n (lv' := [(3, .int 0), (2, .int 0), (0, .ref (a 4)), (1, .int p1)]) hx hb dX3_unlike_3 rfl hl (by decide) rfl (fun ls hl => ?_)
  exact l4 1000 p1 0 0 _ (lv_sub hl [2, 3, 1, 0] rfl) hf
set_option maxHeartbeats 4000000 in
set_option maxRecDepth 100000 in
theorem c_X3_bring (l : Launch) (D : va_G) (cI : ClassId) (a tb : Nat → Nat) (st : ST) (p1 p2 : Int32) (r : ST) (hf : fX3_bring st p1 p2 = some r) : MetV l yX3_bring wsX3_bring ({ frames := 4, cells := 0, slots := 0, locals := 96 }) [.ref (a 4), .int p1, .int p2] D [(cI, .int)] (cw cI a) (cA a) tb st r := by
  refine met_of (cc := cX3_bring) (maxL := 6) (ret := none) (by decide) rfl (Nat.le_of_ble_eq_true rfl) ?_
  intro p e s m below meth c hx hb hr hml hts hown hlk hG ls hl
  have hown : s.vm.findClass RX3 = some m.cls := hown
  obtain ⟨hP, hK, hD, hZ⟩ := hG
  have hS : va_S (cA a) s.heap s.heap [] := va_S.rf
  have hl : lv_has ls 6 [(0, .ref (a 4)), (1, .int p1), (2, .int p2)] := hl
  have hiX3 : ∀ w ∈ wsX30, w ∈ wsX3_bring := by decide +kernel
  have k15 := hts (.fieldLink RX3 15 "DayColumn$Readings" "cells" "LDayColumn$Texts;") (by decide +kernel)
  have k21 := hts (.fieldLink RX3 21 "DayColumn$Readings" "reader" "LDayColumn$Reader;") (by decide +kernel)
  have k25 := hts (.fieldLink RX3 25 "DayColumn$Readings" "first" "[I") (by decide +kernel)
  have k29 := hts (.fieldLink RX3 29 "DayColumn$Readings" "last" "[I") (by decide +kernel)
  have k32 := hts (.fieldLink RX3 32 "DayColumn$Readings" "stylesRead" "[I") (by decide +kernel)
  have k35 := hts (.fieldLink RX3 35 "DayColumn$Readings" "windowRead" "[I") (by decide +kernel)
  have k9 := hts (.fieldLink RX3 9 "DayColumn$Readings" "patterns" "LDayColumn$Texts;") (by decide +kernel)
  have l68 : ∀ (n : Nat) (x_1 x_2 x_3 x_5 : Int32) (st : ST) (H : Heap) (locs : List Loc) (ls : Array Slot), va_P D vwCl (cw cI a st) H → va_S (cA a) s.heap H locs → lv_has ls 6 [(0, .ref (a 4)), (1, .int x_1), (2, .int x_2), (3, .int x_3), (5, .int x_5)] → fX3_bring_68 n st x_1 x_2 x_3 x_5 = some r → W p l e ({ frames := 4, cells := 0, slots := 0, locals := 96 }) s m ([.ref (a 4), .int p1, .int p2] : List Value).toArray below meth c H locs 0 0 (MQ below (va_Qv (fun (u : ST) => u = r) (fun u t => va_P D vwCl (cw cI a u) t.heap) (cA a)) ([.ref (a 4), .int p1, .int p2] : List Value).toArray s 0 0 (cA a)) (F0 m 68 ls []) := by
    intro n
    induction n with
    | zero =>
      intro x_1 x_2 x_3 x_5 st H locs ls hP hS hl hf
      cases hf
    | succ n ih68 =>
      intro x_1 x_2 x_3 x_5 st H locs ls hP hS hl hf
      unfold fX3_bring_68 at hf
      refine lv_iload hx hb dX3_bring_68 (lv_at hl 4 rfl) ?_
      refine lv_iload_n hx hb dX3_bring_70 rfl (lv_at hl 3 rfl) ?_
      refine lv_icmp_ge (tgt := 132) hx hb dX3_bring_71 (by decide) (fun c1 => ?_) (fun c1 => ?_)
      · replace hf := if_t hf c1
        refine lv_aload_n hx hb dX3_bring_132 rfl (lv_at hl 0 rfl) ?_
        refine va_get (D := D) (ci := 2) (v := .ref (a 16)) (C := RX3) (T := TX3) (N := 7) hx hb hts hiX3 hown hK hP 4 rfl rfl 5 (by decide) k32 (fun _ h9 => h9) rfl dX3_bring_133 ?_
        refine lv_iload_n hx hb dX3_bring_136 rfl (lv_at hl 1 rfl) ?_
        refine lv_iload_n hx hb dX3_bring_137 rfl (lv_at hl 3 rfl) ?_
        obtain ⟨hi2, hf⟩ := ix_e hf
        obtain ⟨s3, es3, hf⟩ := bnd_e hf
        refine va_iast hx hb hK hP (hD st) hS 16 0 rfl rfl hi2 dX3_bring_138 (fun H locs hP _ hS => ?_)
        have hP : va_P D vwCl (cw cI a s3) H := by rw [es3]; exact hP
        refine lv_aload_n hx hb dX3_bring_139 rfl (lv_at hl 0 rfl) ?_
        refine va_get (D := D) (ci := 2) (v := .ref (a 17)) (C := RX3) (T := TX3) (N := 7) hx hb hts hiX3 hown hK hP 4 rfl rfl 6 (by decide) k35 (fun _ h9 => h9) rfl dX3_bring_140 ?_
        refine lv_iload_n hx hb dX3_bring_143 rfl (lv_at hl 1 rfl) ?_
        refine lv_iload_n hx hb dX3_bring_144 rfl (lv_at hl 2 rfl) ?_
        obtain ⟨hi4, hf⟩ := ix_e hf
        obtain ⟨s5, es5, hf⟩ := bnd_e hf
        refine va_iast hx hb hK hP (hD s3) hS 17 0 rfl rfl hi4 dX3_bring_145 (fun H locs hP _ hS => ?_)
        have hP : va_P D vwCl (cw cI a s5) H := by rw [es5]; exact hP
        exact W.vret hx hb hr (fun t ht _ => ⟨⟨s5, rfl, so_i hf, p_at ht hP⟩, hS.F ht⟩) hS.2.2 dX3_bring_146
      · replace hf := if_f hf c1
        refine lv_aload_n hx hb dX3_bring_74 rfl (lv_at hl 0 rfl) ?_
        refine va_get (D := D) (ci := 2) (v := .ref (a 5)) (C := RX3) (T := TX3) (N := 7) hx hb hts hiX3 hown hK hP 4 rfl rfl 2 (by decide) k21 (fun _ h9 => h9) rfl dX3_bring_75 ?_
        refine lv_aload_n hx hb dX3_bring_78 rfl (lv_at hl 0 rfl) ?_
        refine va_get (D := D) (ci := 2) (v := .ref (a 2)) (C := RX3) (T := TX3) (N := 7) hx hb hts hiX3 hown hK hP 4 rfl rfl 0 (by decide) k9 (fun _ h9 => h9) rfl dX3_bring_79 ?_
        refine lv_iload hx hb dX3_bring_82 (lv_at hl 4 rfl) ?_
        refine lv_iload_n hx hb dX3_bring_84 rfl (lv_at hl 2 rfl) ?_
        obtain ⟨o6, ho6, hf⟩ := ob_e hf
        refine w_callV (b := a 5) (As := [.ref (a 2), .int x_5, .int x_2]) (rest := []) ⟨hx, hb, hml, hown, hts⟩ (c_X2_scan l D cI a tb st x_5 x_2 o6 ho6) (cwV 3 hts gX3_bring_X2_scan rfl rfl rfl (by decide +kernel) ⟨Nat.le_of_ble_eq_true rfl, Nat.le_of_ble_eq_true rfl⟩) hP hK hD hZ hS (va_recv hK hP (ci := 1) (q0 := 5) rfl rfl) rfl hl.1 rfl (Nat.le_of_ble_eq_true rfl) ⟨Nat.zero_le _, Nat.zero_le _⟩ dX3_bring_85 (fun H locs hP hS => ?_)
        refine lv_aload_n hx hb dX3_bring_88 rfl (lv_at hl 0 rfl) ?_
        refine va_get (D := D) (ci := 2) (v := .ref (a 14)) (C := RX3) (T := TX3) (N := 7) hx hb hts hiX3 hown hK hP 4 rfl rfl 3 (by decide) k25 (fun _ h9 => h9) rfl dX3_bring_89 ?_
        refine lv_iload_n hx hb dX3_bring_92 rfl (lv_at hl 1 rfl) ?_
        refine lv_bipush (v := 8) hx hb dX3_bring_93 (by decide) ?_
        refine lv_imul hx hb dX3_bring_95 ?_
        refine lv_iload hx hb dX3_bring_96 (lv_at hl 4 rfl) ?_
        refine lv_iadd hx hb dX3_bring_98 ?_
        refine lv_aload_n hx hb dX3_bring_99 rfl (lv_at hl 0 rfl) ?_
        refine va_get (D := D) (ci := 2) (v := .ref (a 5)) (C := RX3) (T := TX3) (N := 7) hx hb hts hiX3 hown hK hP 4 rfl rfl 2 (by decide) k21 (fun _ h9 => h9) rfl dX3_bring_100 ?_
        obtain ⟨o7, ho7, hf⟩ := ob_e hf
        refine w_callR (b := a 5) (As := []) (rest := [.int ((x_1 * 8) + x_5), .ref (a 14)]) ⟨hx, hb, hml, hown, hts⟩ (c_X2_first l D cI a tb o6 o7 ho7) (cwV 0 hts gX3_bring_X2_first rfl rfl rfl (by decide +kernel) ⟨Nat.le_of_ble_eq_true rfl, Nat.le_of_ble_eq_true rfl⟩) hP hK hD hZ hS (va_recv hK hP (ci := 1) (q0 := 5) rfl rfl) rfl hl.1 rfl (Nat.le_of_ble_eq_true rfl) ⟨Nat.zero_le _, Nat.zero_le _⟩ dX3_bring_103 ?_
        obtain ⟨x8, ex8, hf⟩ := bnd_e hf
        refine w_nm2 ex8 ?_
        obtain ⟨hi9, hf⟩ := ix_e hf
        obtain ⟨s10, es10, hf⟩ := bnd_e hf
        refine va_iast hx hb hK hP (hD o6) hS 14 0 rfl rfl hi9 dX3_bring_106 (fun H locs hP _ hS => ?_)
        have hP : va_P D vwCl (cw cI a s10) H := by rw [es10]; exact hP
        refine lv_aload_n hx hb dX3_bring_107 rfl (lv_at hl 0 rfl) ?_
        refine va_get (D := D) (ci := 2) (v := .ref (a 15)) (C := RX3) (T := TX3) (N := 7) hx hb hts hiX3 hown hK hP 4 rfl rfl 4 (by decide) k29 (fun _ h9 => h9) rfl dX3_bring_108 ?_
        refine lv_iload_n hx hb dX3_bring_111 rfl (lv_at hl 1 rfl) ?_
        refine lv_bipush (v := 8) hx hb dX3_bring_112 (by decide) ?_
        refine lv_imul hx hb dX3_bring_114 ?_
        refine lv_iload hx hb dX3_bring_115 (lv_at hl 4 rfl) ?_
        refine lv_iadd hx hb dX3_bring_117 ?_
        refine lv_aload_n hx hb dX3_bring_118 rfl (lv_at hl 0 rfl) ?_
        refine va_get (D := D) (ci := 2) (v := .ref (a 5)) (C := RX3) (T := TX3) (N := 7) hx hb hts hiX3 hown hK hP 4 rfl rfl 2 (by decide) k21 (fun _ h9 => h9) rfl dX3_bring_119 ?_
        obtain ⟨o11, ho11, hf⟩ := ob_e hf
        refine w_callR (b := a 5) (As := []) (rest := [.int ((x_1 * 8) + x_5), .ref (a 15)]) ⟨hx, hb, hml, hown, hts⟩ (c_X2_last l D cI a tb s10 o11 ho11) (cwV 0 hts gX3_bring_X2_last rfl rfl rfl (by decide +kernel) ⟨Nat.le_of_ble_eq_true rfl, Nat.le_of_ble_eq_true rfl⟩) hP hK hD hZ hS (va_recv hK hP (ci := 1) (q0 := 5) rfl rfl) rfl hl.1 rfl (Nat.le_of_ble_eq_true rfl) ⟨Nat.zero_le _, Nat.zero_le _⟩ dX3_bring_122 ?_
        obtain ⟨x12, ex12, hf⟩ := bnd_e hf
        refine w_nm2 ex12 ?_
        obtain ⟨hi13, hf⟩ := ix_e hf
        obtain ⟨s14, es14, hf⟩ := bnd_e hf
        refine va_iast hx hb hK hP (hD s10) hS 15 0 rfl rfl hi13 dX3_bring_125 (fun H locs hP _ hS => ?_)
        have hP : va_P D vwCl (cw cI a s14) H := by rw [es14]; exact hP
        obtain ⟨x15, ex15, hf⟩ := bnd_e hf
        refine lv_iinc (v := x15) (lv' := [(5, .int x15), (0, .ref (a 4)), (1, .int x_1), (2, .int x_2), (3, .int x_3)]) hx hb dX3_bring_126 hl (k := 4) rfl (by rw [ex15]; rfl) (by decide) rfl (fun ls hl => ?_)
        refine lv_goto (tgt := 68) hx hb dX3_bring_129 (by decide) ?_
        exact ih68 x_1 x_2 x_3 x15 s14 _ _ _ hP hS (lv_sub hl [1, 2, 3, 4, 0] rfl) hf
  unfold fX3_bring at hf
  refine lv_iload_n hx hb dX3_bring_0 rfl (lv_at hl 1 rfl) ?_
  refine lv_if_lt (tgt := 10) hx hb dX3_bring_1 (by decide) (fun c16 => ?_) (fun c16 => ?_)
  · replace hf := if_t hf c16
    exact W.vret hx hb hr (fun t ht _ => ⟨⟨st, rfl, so_i hf, p_at ht hP⟩, hS.F ht⟩) hS.2.2 dX3_bring_10
  · replace hf := if_f hf c16
    refine lv_iload_n hx hb dX3_bring_4 rfl (lv_at hl 1 rfl) ?_
    refine lv_bipush (v := 30) hx hb dX3_bring_5 (by decide) ?_
    refine lv_icmp_lt (tgt := 11) hx hb dX3_bring_7 (by decide) (fun c17 => ?_) (fun c17 => ?_)
    · replace hf := if_t hf c17
      refine lv_aload_n hx hb dX3_bring_11 rfl (lv_at hl 0 rfl) ?_
      refine va_get (D := D) (ci := 2) (v := .ref (a 2)) (C := RX3) (T := TX3) (N := 7) hx hb hts hiX3 hown hK hP 4 rfl rfl 0 (by decide) k9 (fun _ h9 => h9) rfl dX3_bring_12 ?_
      obtain ⟨o18, ho18, hf⟩ := ob_e hf
      refine w_callR (b := a 2) (As := []) (rest := []) ⟨hx, hb, hml, hown, hts⟩ (c_X5_size_p l D cI a tb st o18 ho18) (cwV 0 hts gX3_bring_X5_size rfl rfl rfl (by decide +kernel) ⟨Nat.le_of_ble_eq_true rfl, Nat.le_of_ble_eq_true rfl⟩) hP hK hD hZ hS (va_recv hK hP (ci := 4) (q0 := 2) rfl rfl) rfl hl.1 rfl (Nat.le_of_ble_eq_true rfl) ⟨Nat.zero_le _, Nat.zero_le _⟩ dX3_bring_15 ?_
      refine lv_bipush (v := 8) hx hb dX3_bring_18 (by decide) ?_
      refine va_mmin hx hb (by rw [hml]; exact hl.1.symm) hown (hts (.methodLink RX3 44 Lib.Math.min.name) (by decide +kernel)) (hts (.static Lib.Math.min.name) (by decide +kernel)) (hts (.initialized "java/lang/Math") (by decide +kernel)) (hts (.code Lib.Math.min.name Lib.Math.min.code 2 (some .int)) (by decide +kernel)) (Nat.le_of_ble_eq_true rfl) (Nat.le_of_ble_eq_true rfl) (Nat.zero_le _) (Nat.zero_le _) dX3_bring_20 ?_
      obtain ⟨x19, ex19, hf⟩ := bnd_e hf
      refine w_nm ex19 ?_
      refine lv_istore_n (lv' := [(3, .int x19), (0, .ref (a 4)), (1, .int p1), (2, .int p2)]) hx hb dX3_bring_23 rfl hl (by decide) rfl (fun ls hl => ?_)
      refine lv_aload_n hx hb dX3_bring_24 rfl (lv_at hl 1 rfl) ?_
      refine va_get (D := D) (ci := 2) (v := .ref (a 17)) (C := RX3) (T := TX3) (N := 7) hx hb hts hiX3 hown hK hP 4 rfl rfl 6 (by decide) k35 (fun _ h9 => h9) rfl dX3_bring_25 ?_
      refine lv_iload_n hx hb dX3_bring_28 rfl (lv_at hl 2 rfl) ?_
      obtain ⟨hi20, hf⟩ := ix_e hf
      refine va_iald hx hb hK hP 17 0 rfl rfl hi20 dX3_bring_29 ?_
      refine lv_iload_n hx hb dX3_bring_30 rfl (lv_at hl 3 rfl) ?_
      refine lv_icmp_ne (tgt := 43) hx hb dX3_bring_31 (by decide) (fun c21 => ?_) (fun c21 => ?_)
      · replace hf := if_f hf c21
        refine lv_iconst (v := 0) hx hb dX3_bring_43 (by decide) ?_
        refine lv_istore (lv' := [(4, .int 0), (3, .int x19), (0, .ref (a 4)), (1, .int p1), (2, .int p2)]) hx hb dX3_bring_44 hl (by decide) rfl (fun ls hl => ?_)
        refine lv_iload hx hb dX3_bring_46 (lv_at hl 0 rfl) ?_
        refine lv_iload_n hx hb dX3_bring_48 rfl (lv_at hl 1 rfl) ?_
        refine lv_icmp_ge (tgt := 64) hx hb dX3_bring_49 (by decide) (fun c22 => ?_) (fun c22 => ?_)
        · replace hf := if_t hf c22
          refine lv_iload hx hb dX3_bring_64 (lv_at hl 0 rfl) ?_
          refine lv_istore (lv' := [(5, .int 0), (4, .int 0), (3, .int x19), (0, .ref (a 4)), (1, .int p1), (2, .int p2)]) hx hb dX3_bring_66 hl (by decide) rfl (fun ls hl => ?_)
          exact l68 1000 p1 p2 x19 0 st _ _ _ hP hS (lv_sub hl [3, 4, 5, 2, 0] rfl) hf
        · replace hf := if_f hf c22
          refine lv_aload_n hx hb dX3_bring_52 rfl (lv_at hl 2 rfl) ?_
          refine va_get (D := D) (ci := 2) (v := .ref (a 5)) (C := RX3) (T := TX3) (N := 7) hx hb hts hiX3 hown hK hP 4 rfl rfl 2 (by decide) k21 (fun _ h9 => h9) rfl dX3_bring_53 ?_
          refine lv_aload_n hx hb dX3_bring_56 rfl (lv_at hl 2 rfl) ?_
          refine va_get (D := D) (ci := 2) (v := .ref (a 3)) (C := RX3) (T := TX3) (N := 7) hx hb hts hiX3 hown hK hP 4 rfl rfl 1 (by decide) k15 (fun _ h9 => h9) rfl dX3_bring_57 ?_
          refine lv_iload_n hx hb dX3_bring_60 rfl (lv_at hl 3 rfl) ?_
          obtain ⟨o23, ho23, hf⟩ := ob_e hf
          refine w_callV (b := a 5) (As := [.ref (a 3), .int p1]) (rest := []) ⟨hx, hb, hml, hown, hts⟩ (c_X2_hold l D cI a tb st p1 o23 ho23) (cwV 2 hts gX3_bring_X2_hold rfl rfl rfl (by decide +kernel) ⟨Nat.le_of_ble_eq_true rfl, Nat.le_of_ble_eq_true rfl⟩) hP hK hD hZ hS (va_recv hK hP (ci := 1) (q0 := 5) rfl rfl) rfl hl.1 rfl (Nat.le_of_ble_eq_true rfl) ⟨Nat.zero_le _, Nat.zero_le _⟩ dX3_bring_61 (fun H locs hP hS => ?_)
          refine lv_iload hx hb dX3_bring_64 (lv_at hl 0 rfl) ?_
          refine lv_istore (lv' := [(5, .int 0), (4, .int 0), (3, .int x19), (0, .ref (a 4)), (1, .int p1), (2, .int p2)]) hx hb dX3_bring_66 hl (by decide) rfl (fun ls hl => ?_)
          exact l68 1000 p1 p2 x19 0 o23 _ _ _ hP hS (lv_sub hl [3, 4, 5, 2, 0] rfl) hf
      · replace hf := if_t hf c21
        refine lv_aload_n hx hb dX3_bring_34 rfl (lv_at hl 1 rfl) ?_
        refine va_get (D := D) (ci := 2) (v := .ref (a 16)) (C := RX3) (T := TX3) (N := 7) hx hb hts hiX3 hown hK hP 4 rfl rfl 5 (by decide) k32 (fun _ h9 => h9) rfl dX3_bring_35 ?_
        refine lv_iload_n hx hb dX3_bring_38 rfl (lv_at hl 2 rfl) ?_
        obtain ⟨hi24, hf⟩ := ix_e hf
        refine va_iald hx hb hK hP 16 0 rfl rfl hi24 dX3_bring_39 ?_
        refine lv_goto (tgt := 44) hx hb dX3_bring_40 (by decide) ?_
        obtain ⟨x25, ex25, hf⟩ := bnd_e hf
        refine w_nm ex25 ?_
        refine lv_istore (lv' := [(4, .int x25), (3, .int x19), (0, .ref (a 4)), (1, .int p1), (2, .int p2)]) hx hb dX3_bring_44 hl (by decide) rfl (fun ls hl => ?_)
        refine lv_iload hx hb dX3_bring_46 (lv_at hl 0 rfl) ?_
        refine lv_iload_n hx hb dX3_bring_48 rfl (lv_at hl 1 rfl) ?_
        refine lv_icmp_ge (tgt := 64) hx hb dX3_bring_49 (by decide) (fun c26 => ?_) (fun c26 => ?_)
        · replace hf := if_t hf c26
          refine lv_iload hx hb dX3_bring_64 (lv_at hl 0 rfl) ?_
          refine lv_istore (lv' := [(5, .int x25), (4, .int x25), (3, .int x19), (0, .ref (a 4)), (1, .int p1), (2, .int p2)]) hx hb dX3_bring_66 hl (by decide) rfl (fun ls hl => ?_)
          exact l68 1000 p1 p2 x19 x25 st _ _ _ hP hS (lv_sub hl [3, 4, 5, 2, 0] rfl) hf
        · replace hf := if_f hf c26
          refine lv_aload_n hx hb dX3_bring_52 rfl (lv_at hl 2 rfl) ?_
          refine va_get (D := D) (ci := 2) (v := .ref (a 5)) (C := RX3) (T := TX3) (N := 7) hx hb hts hiX3 hown hK hP 4 rfl rfl 2 (by decide) k21 (fun _ h9 => h9) rfl dX3_bring_53 ?_
          refine lv_aload_n hx hb dX3_bring_56 rfl (lv_at hl 2 rfl) ?_
          refine va_get (D := D) (ci := 2) (v := .ref (a 3)) (C := RX3) (T := TX3) (N := 7) hx hb hts hiX3 hown hK hP 4 rfl rfl 1 (by decide) k15 (fun _ h9 => h9) rfl dX3_bring_57 ?_
          refine lv_iload_n hx hb dX3_bring_60 rfl (lv_at hl 3 rfl) ?_
          obtain ⟨o27, ho27, hf⟩ := ob_e hf
          refine w_callV (b := a 5) (As := [.ref (a 3), .int p1]) (rest := []) ⟨hx, hb, hml, hown, hts⟩ (c_X2_hold l D cI a tb st p1 o27 ho27) (cwV 2 hts gX3_bring_X2_hold rfl rfl rfl (by decide +kernel) ⟨Nat.le_of_ble_eq_true rfl, Nat.le_of_ble_eq_true rfl⟩) hP hK hD hZ hS (va_recv hK hP (ci := 1) (q0 := 5) rfl rfl) rfl hl.1 rfl (Nat.le_of_ble_eq_true rfl) ⟨Nat.zero_le _, Nat.zero_le _⟩ dX3_bring_61 (fun H locs hP hS => ?_)
          refine lv_iload hx hb dX3_bring_64 (lv_at hl 0 rfl) ?_
          refine lv_istore (lv' := [(5, .int x25), (4, .int x25), (3, .int x19), (0, .ref (a 4)), (1, .int p1), (2, .int p2)]) hx hb dX3_bring_66 hl (by decide) rfl (fun ls hl => ?_)
          exact l68 1000 p1 p2 x19 x25 o27 _ _ _ hP hS (lv_sub hl [3, 4, 5, 2, 0] rfl) hf
    · replace hf := if_f hf c17
      exact W.vret hx hb hr (fun t ht _ => ⟨⟨st, rfl, so_i hf, p_at ht hP⟩, hS.F ht⟩) hS.2.2 dX3_bring_10
set_option maxHeartbeats 4000000 in
set_option maxRecDepth 100000 in
theorem c_X6_setCost (l : Launch) (D : va_G) (cI : ClassId) (a tb : Nat → Nat) (st : ST) (p1 p2 : Int32) (r : ST) (hf : fX6_setCost st p1 p2 = some r) : MetV l yX6_setCost wsX6_setCost ({ frames := 0, cells := 0, slots := 0, locals := 0 }) [.ref (a 6), .int p1, .int p2] D [(cI, .int)] (cw cI a) (cA a) tb st r := by
  refine met_of (cc := cX6_setCost) (maxL := 3) (ret := none) (by decide) rfl (Nat.le_of_ble_eq_true rfl) ?_
  intro p e s m below meth c hx hb hr hml hts hown hlk hG ls hl
  have hown : s.vm.findClass RX6 = some m.cls := hown
  obtain ⟨hP, hK, hD, hZ⟩ := hG
  have hS : va_S (cA a) s.heap s.heap [] := va_S.rf
  have hl : lv_has ls 3 [(0, .ref (a 6)), (1, .int p1), (2, .int p2)] := hl
  have hiX6 : ∀ w ∈ wsX60, w ∈ wsX6_setCost := by decide +kernel
  have k15 := hts (.fieldLink RX6 15 "DayColumn$Ways" "costs" "[I") (by decide +kernel)
  unfold fX6_setCost at hf
  refine lv_iload_n hx hb dX6_setCost_0 rfl (lv_at hl 1 rfl) ?_
  refine lv_if_lt (tgt := 20) hx hb dX6_setCost_1 (by decide) (fun c1 => ?_) (fun c1 => ?_)
  · replace hf := if_t hf c1
    exact W.vret hx hb hr (fun t ht _ => ⟨⟨st, rfl, so_i hf, p_at ht hP⟩, hS.F ht⟩) hS.2.2 dX6_setCost_20
  · replace hf := if_f hf c1
    refine lv_iload_n hx hb dX6_setCost_4 rfl (lv_at hl 1 rfl) ?_
    refine lv_aload_n hx hb dX6_setCost_5 rfl (lv_at hl 0 rfl) ?_
    refine va_get (D := D) (ci := 5) (v := .ref (a 18)) (C := RX6) (T := TX6) (N := 8) hx hb hts hiX6 hown hK hP 6 rfl rfl 1 (by decide) k15 (fun _ h9 => h9) rfl dX6_setCost_6 ?_
    refine va_alen hx hb hK hP 18 0 rfl rfl (v := 8) rfl dX6_setCost_9 ?_
    refine lv_icmp_ge (tgt := 20) hx hb dX6_setCost_10 (by decide) (fun c2 => ?_) (fun c2 => ?_)
    · replace hf := if_t hf c2
      exact W.vret hx hb hr (fun t ht _ => ⟨⟨st, rfl, so_i hf, p_at ht hP⟩, hS.F ht⟩) hS.2.2 dX6_setCost_20
    · replace hf := if_f hf c2
      refine lv_aload_n hx hb dX6_setCost_13 rfl (lv_at hl 0 rfl) ?_
      refine va_get (D := D) (ci := 5) (v := .ref (a 18)) (C := RX6) (T := TX6) (N := 8) hx hb hts hiX6 hown hK hP 6 rfl rfl 1 (by decide) k15 (fun _ h9 => h9) rfl dX6_setCost_14 ?_
      refine lv_iload_n hx hb dX6_setCost_17 rfl (lv_at hl 1 rfl) ?_
      refine lv_iload_n hx hb dX6_setCost_18 rfl (lv_at hl 2 rfl) ?_
      obtain ⟨hi3, hf⟩ := ix_e hf
      obtain ⟨s4, es4, hf⟩ := bnd_e hf
      refine va_iast hx hb hK hP (hD st) hS 18 0 rfl rfl hi3 dX6_setCost_19 (fun H locs hP _ hS => ?_)
      have hP : va_P D vwCl (cw cI a s4) H := by rw [es4]; exact hP
      exact W.vret hx hb hr (fun t ht _ => ⟨⟨s4, rfl, so_i hf, p_at ht hP⟩, hS.F ht⟩) hS.2.2 dX6_setCost_20
set_option maxHeartbeats 4000000 in
set_option maxRecDepth 100000 in
theorem c_X6_setPrice (l : Launch) (D : va_G) (cI : ClassId) (a tb : Nat → Nat) (st : ST) (p1 p2 : Int32) (r : Int32 × ST) (hf : fX6_setPrice st p1 p2 = some r) : MetW l yX6_setPrice wsX6_setPrice ({ frames := 0, cells := 0, slots := 0, locals := 0 }) [.ref (a 6), .int p1, .int p2] D [(cI, .int)] (cw cI a) (cA a) tb st r := by
  refine met_of (cc := cX6_setPrice) (maxL := 3) (ret := (some .boolean)) (by decide) rfl (Nat.le_of_ble_eq_true rfl) ?_
  intro p e s m below meth c hx hb hr hml hts hown hlk hG ls hl
  have hown : s.vm.findClass RX6 = some m.cls := hown
  obtain ⟨hP, hK, hD, hZ⟩ := hG
  have hS : va_S (cA a) s.heap s.heap [] := va_S.rf
  have hl : lv_has ls 3 [(0, .ref (a 6)), (1, .int p1), (2, .int p2)] := hl
  have hiX6 : ∀ w ∈ wsX60, w ∈ wsX6_setPrice := by decide +kernel
  have k19 := hts (.fieldLink RX6 19 "DayColumn$Ways" "prices" "[I") (by decide +kernel)
  unfold fX6_setPrice at hf
  refine lv_iload_n hx hb dX6_setPrice_0 rfl (lv_at hl 1 rfl) ?_
  refine lv_if_lt (tgt := 13) hx hb dX6_setPrice_1 (by decide) (fun c1 => ?_) (fun c1 => ?_)
  · replace hf := if_t hf c1
    refine lv_iconst (v := 0) hx hb dX6_setPrice_13 (by decide) ?_
    exact W.zret (v := 0) hx hb hr rfl (fun t ht _ => ⟨⟨0, st, rfl, so_p hf, p_at ht hP⟩, hS.F ht⟩) hS.2.2 dX6_setPrice_14
  · replace hf := if_f hf c1
    refine lv_iload_n hx hb dX6_setPrice_4 rfl (lv_at hl 1 rfl) ?_
    refine lv_aload_n hx hb dX6_setPrice_5 rfl (lv_at hl 0 rfl) ?_
    refine va_get (D := D) (ci := 5) (v := .ref (a 19)) (C := RX6) (T := TX6) (N := 8) hx hb hts hiX6 hown hK hP 6 rfl rfl 2 (by decide) k19 (fun _ h9 => h9) rfl dX6_setPrice_6 ?_
    refine va_alen hx hb hK hP 19 0 rfl rfl (v := 3) rfl dX6_setPrice_9 ?_
    refine lv_icmp_lt (tgt := 15) hx hb dX6_setPrice_10 (by decide) (fun c2 => ?_) (fun c2 => ?_)
    · replace hf := if_t hf c2
      refine lv_aload_n hx hb dX6_setPrice_15 rfl (lv_at hl 0 rfl) ?_
      refine va_get (D := D) (ci := 5) (v := .ref (a 19)) (C := RX6) (T := TX6) (N := 8) hx hb hts hiX6 hown hK hP 6 rfl rfl 2 (by decide) k19 (fun _ h9 => h9) rfl dX6_setPrice_16 ?_
      refine lv_iload_n hx hb dX6_setPrice_19 rfl (lv_at hl 1 rfl) ?_
      refine lv_iload_n hx hb dX6_setPrice_20 rfl (lv_at hl 2 rfl) ?_
      obtain ⟨hi3, hf⟩ := ix_e hf
      obtain ⟨s4, es4, hf⟩ := bnd_e hf
      refine va_iast hx hb hK hP (hD st) hS 19 0 rfl rfl hi3 dX6_setPrice_21 (fun H locs hP _ hS => ?_)
      have hP : va_P D vwCl (cw cI a s4) H := by rw [es4]; exact hP
      refine lv_iconst (v := 1) hx hb dX6_setPrice_22 (by decide) ?_
      exact W.zret (v := 1) hx hb hr rfl (fun t ht _ => ⟨⟨1, s4, rfl, so_p hf, p_at ht hP⟩, hS.F ht⟩) hS.2.2 dX6_setPrice_23
    · replace hf := if_f hf c2
      refine lv_iconst (v := 0) hx hb dX6_setPrice_13 (by decide) ?_
      exact W.zret (v := 0) hx hb hr rfl (fun t ht _ => ⟨⟨0, st, rfl, so_p hf, p_at ht hP⟩, hS.F ht⟩) hS.2.2 dX6_setPrice_14
set_option maxHeartbeats 4000000 in
set_option maxRecDepth 100000 in
theorem c_X6_styleOf (l : Launch) (D : va_G) (cI : ClassId) (a tb : Nat → Nat) (st : ST) (p1 : Int32) (r : Int32) (hf : fX6_styleOf st p1 = some r) : MetR l yX6_styleOf wsX6_styleOf ({ frames := 0, cells := 0, slots := 0, locals := 0 }) [.ref (a 6), .int p1] D [(cI, .int)] (cw cI a) (cA a) tb st r := by
  refine met_of (cc := cX6_styleOf) (maxL := 2) (ret := (some .int)) (by decide) rfl (Nat.le_of_ble_eq_true rfl) ?_
  intro p e s m below meth c hx hb hr hml hts hown hlk hG ls hl
  have hown : s.vm.findClass RX6 = some m.cls := hown
  obtain ⟨hP, hK, hD, hZ⟩ := hG
  have hS : va_S (cA a) s.heap s.heap [] := va_S.rf
  have hl : lv_has ls 2 [(0, .ref (a 6)), (1, .int p1)] := hl
  have hiX6 : ∀ w ∈ wsX60, w ∈ wsX6_styleOf := by decide +kernel
  have k28 := hts (.fieldLink RX6 28 "DayColumn$Ways" "best" "[I") (by decide +kernel)
  have k31 := hts (.fieldLink RX6 31 "DayColumn$Ways" "rows" "I") (by decide +kernel)
  unfold fX6_styleOf at hf
  refine lv_iload_n hx hb dX6_styleOf_0 rfl (lv_at hl 1 rfl) ?_
  refine lv_if_lt (tgt := 12) hx hb dX6_styleOf_1 (by decide) (fun c1 => ?_) (fun c1 => ?_)
  · replace hf := if_t hf c1
    refine lv_iconst (v := -1) hx hb dX6_styleOf_12 (by decide) ?_
    refine lv_goto (tgt := 22) hx hb dX6_styleOf_13 (by decide) ?_
    exact W.iret (v := (-1)) hx hb hr (fun t ht _ => ⟨(-1), rfl, so_i hf, ht⟩) (fun _ h => by cases h) dX6_styleOf_22
  · replace hf := if_f hf c1
    refine lv_iload_n hx hb dX6_styleOf_4 rfl (lv_at hl 1 rfl) ?_
    refine lv_aload_n hx hb dX6_styleOf_5 rfl (lv_at hl 0 rfl) ?_
    refine va_get (D := D) (ci := 5) (v := .int (st.1 13)) (C := RX6) (T := TX6) (N := 8) hx hb hts hiX6 hown hK hP 6 rfl rfl 6 (by decide) k31 (fun _ h9 => h9) rfl dX6_styleOf_6 ?_
    refine lv_icmp_lt (tgt := 16) hx hb dX6_styleOf_9 (by decide) (fun c2 => ?_) (fun c2 => ?_)
    · replace hf := if_t hf c2
      refine lv_aload_n hx hb dX6_styleOf_16 rfl (lv_at hl 0 rfl) ?_
      refine va_get (D := D) (ci := 5) (v := .ref (a 22)) (C := RX6) (T := TX6) (N := 8) hx hb hts hiX6 hown hK hP 6 rfl rfl 5 (by decide) k28 (fun _ h9 => h9) rfl dX6_styleOf_17 ?_
      refine lv_iload_n hx hb dX6_styleOf_20 rfl (lv_at hl 1 rfl) ?_
      obtain ⟨hi3, hf⟩ := ix_e hf
      refine va_iald hx hb hK hP 22 0 rfl rfl hi3 dX6_styleOf_21 ?_
      exact W.iret (v := (st.2 14 (Int32.toNatClampNeg p1))) hx hb hr (fun t ht _ => ⟨(st.2 14 (Int32.toNatClampNeg p1)), rfl, so_i hf, ht⟩) (fun _ h => by cases h) dX6_styleOf_22
    · replace hf := if_f hf c2
      refine lv_iconst (v := -1) hx hb dX6_styleOf_12 (by decide) ?_
      refine lv_goto (tgt := 22) hx hb dX6_styleOf_13 (by decide) ?_
      exact W.iret (v := (-1)) hx hb hr (fun t ht _ => ⟨(-1), rfl, so_i hf, ht⟩) (fun _ h => by cases h) dX6_styleOf_22
set_option maxHeartbeats 4000000 in
set_option maxRecDepth 100000 in
theorem c_X6_missOf (l : Launch) (D : va_G) (cI : ClassId) (a tb : Nat → Nat) (st : ST) (p1 p2 : Int32) (r : Int32) (hf : fX6_missOf st p1 p2 = some r) : MetR l yX6_missOf wsX6_missOf ({ frames := 1, cells := 0, slots := 0, locals := 24 }) [.ref (a 6), .int p1, .int p2] D [(cI, .int)] (cw cI a) (cA a) tb st r := by
  refine met_of (cc := cX6_missOf) (maxL := 3) (ret := (some .int)) (by decide) rfl (Nat.le_of_ble_eq_true rfl) ?_
  intro p e s m below meth c hx hb hr hml hts hown hlk hG ls hl
  have hown : s.vm.findClass RX6 = some m.cls := hown
  obtain ⟨hP, hK, hD, hZ⟩ := hG
  have hS : va_S (cA a) s.heap s.heap [] := va_S.rf
  have hl : lv_has ls 3 [(0, .ref (a 6)), (1, .int p1), (2, .int p2)] := hl
  have hiX6 : ∀ w ∈ wsX60, w ∈ wsX6_missOf := by decide +kernel
  have k19 := hts (.fieldLink RX6 19 "DayColumn$Ways" "prices" "[I") (by decide +kernel)
  have k9 := hts (.fieldLink RX6 9 "DayColumn$Ways" "table" "LDayColumn$Readings;") (by decide +kernel)
  unfold fX6_missOf at hf
  refine lv_aload_n hx hb dX6_missOf_0 rfl (lv_at hl 0 rfl) ?_
  refine va_get (D := D) (ci := 5) (v := .ref (a 4)) (C := RX6) (T := TX6) (N := 8) hx hb hts hiX6 hown hK hP 6 rfl rfl 0 (by decide) k9 (fun _ h9 => h9) rfl dX6_missOf_1 ?_
  refine lv_iload_n hx hb dX6_missOf_4 rfl (lv_at hl 1 rfl) ?_
  refine lv_iload_n hx hb dX6_missOf_5 rfl (lv_at hl 2 rfl) ?_
  refine lv_iconst (v := 0) hx hb dX6_missOf_6 (by decide) ?_
  obtain ⟨o1, ho1, hf⟩ := ob_e hf
  refine w_callR (b := a 4) (As := [.int p1, .int p2, .int 0]) (rest := []) ⟨hx, hb, hml, hown, hts⟩ (c_X3_edge l D cI a tb st p1 p2 0 o1 ho1) (cwV 3 hts gX6_missOf_X3_edge rfl rfl rfl (by decide +kernel) ⟨Nat.le_of_ble_eq_true rfl, Nat.le_of_ble_eq_true rfl⟩) hP hK hD hZ hS (va_recv hK hP (ci := 2) (q0 := 4) rfl rfl) rfl hl.1 rfl (Nat.le_of_ble_eq_true rfl) ⟨Nat.zero_le _, Nat.zero_le _⟩ dX6_missOf_7 ?_
  refine lv_iconst (v := -1) hx hb dX6_missOf_10 (by decide) ?_
  refine lv_icmp_ne (tgt := 23) hx hb dX6_missOf_11 (by decide) (fun c2 => ?_) (fun c2 => ?_)
  · replace hf := if_f hf c2
    refine lv_iconst (v := 0) hx hb dX6_missOf_23 (by decide) ?_
    exact W.iret (v := 0) hx hb hr (fun t ht _ => ⟨0, rfl, so_i hf, ht⟩) (fun _ h => by cases h) dX6_missOf_24
  · replace hf := if_t hf c2
    refine lv_aload_n hx hb dX6_missOf_14 rfl (lv_at hl 0 rfl) ?_
    refine va_get (D := D) (ci := 5) (v := .ref (a 19)) (C := RX6) (T := TX6) (N := 8) hx hb hts hiX6 hown hK hP 6 rfl rfl 2 (by decide) k19 (fun _ h9 => h9) rfl dX6_missOf_15 ?_
    refine lv_iconst (v := 1) hx hb dX6_missOf_18 (by decide) ?_
    obtain ⟨hi3, hf⟩ := ix_e hf
    refine va_iald hx hb hK hP 19 0 rfl rfl hi3 dX6_missOf_19 ?_
    refine lv_goto (tgt := 24) hx hb dX6_missOf_20 (by decide) ?_
    exact W.iret (v := (st.2 11 (Int32.toNatClampNeg 1))) hx hb hr (fun t ht _ => ⟨(st.2 11 (Int32.toNatClampNeg 1)), rfl, so_i hf, ht⟩) (fun _ h => by cases h) dX6_missOf_24
set_option maxHeartbeats 4000000 in
set_option maxRecDepth 100000 in
theorem c_X6_breaksOrder (l : Launch) (D : va_G) (cI : ClassId) (a tb : Nat → Nat) (st : ST) (p1 p2 p3 : Int32) (r : Int32) (hf : fX6_breaksOrder st p1 p2 p3 = some r) : MetR l yX6_breaksOrder wsX6_breaksOrder ({ frames := 1, cells := 0, slots := 0, locals := 24 }) [.ref (a 6), .int p1, .int p2, .int p3] D [(cI, .int)] (cw cI a) (cA a) tb st r := by
  refine met_of (cc := cX6_breaksOrder) (maxL := 5) (ret := (some .boolean)) (by decide) rfl (Nat.le_of_ble_eq_true rfl) ?_
  intro p e s m below meth c hx hb hr hml hts hown hlk hG ls hl
  have hown : s.vm.findClass RX6 = some m.cls := hown
  obtain ⟨hP, hK, hD, hZ⟩ := hG
  have hS : va_S (cA a) s.heap s.heap [] := va_S.rf
  have hl : lv_has ls 5 [(0, .ref (a 6)), (1, .int p1), (2, .int p2), (3, .int p3)] := hl
  have hiX6 : ∀ w ∈ wsX60, w ∈ wsX6_breaksOrder := by decide +kernel
  have k9 := hts (.fieldLink RX6 9 "DayColumn$Ways" "table" "LDayColumn$Readings;") (by decide +kernel)
  unfold fX6_breaksOrder at hf
  refine lv_aload_n hx hb dX6_breaksOrder_0 rfl (lv_at hl 0 rfl) ?_
  refine va_get (D := D) (ci := 5) (v := .ref (a 4)) (C := RX6) (T := TX6) (N := 8) hx hb hts hiX6 hown hK hP 6 rfl rfl 0 (by decide) k9 (fun _ h9 => h9) rfl dX6_breaksOrder_1 ?_
  refine lv_iload_n hx hb dX6_breaksOrder_4 rfl (lv_at hl 1 rfl) ?_
  refine lv_iload_n hx hb dX6_breaksOrder_5 rfl (lv_at hl 3 rfl) ?_
  refine lv_iconst (v := 1) hx hb dX6_breaksOrder_6 (by decide) ?_
  obtain ⟨o1, ho1, hf⟩ := ob_e hf
  refine w_callR (b := a 4) (As := [.int p1, .int p3, .int 1]) (rest := []) ⟨hx, hb, hml, hown, hts⟩ (c_X3_edge l D cI a tb st p1 p3 1 o1 ho1) (cwV 3 hts gX6_breaksOrder_X3_edge rfl rfl rfl (by decide +kernel) ⟨Nat.le_of_ble_eq_true rfl, Nat.le_of_ble_eq_true rfl⟩) hP hK hD hZ hS (va_recv hK hP (ci := 2) (q0 := 4) rfl rfl) rfl hl.1 rfl (Nat.le_of_ble_eq_true rfl) ⟨Nat.zero_le _, Nat.zero_le _⟩ dX6_breaksOrder_7 ?_
  refine lv_istore (lv' := [(4, .int o1), (0, .ref (a 6)), (1, .int p1), (2, .int p2), (3, .int p3)]) hx hb dX6_breaksOrder_10 hl (by decide) rfl (fun ls hl => ?_)
  refine lv_iload hx hb dX6_breaksOrder_12 (lv_at hl 0 rfl) ?_
  refine lv_iconst (v := -1) hx hb dX6_breaksOrder_14 (by decide) ?_
  refine lv_icmp_eq (tgt := 39) hx hb dX6_breaksOrder_15 (by decide) (fun c2 => ?_) (fun c2 => ?_)
  · replace hf := if_t hf c2
    refine lv_iconst (v := 0) hx hb dX6_breaksOrder_39 (by decide) ?_
    exact W.zret (v := 0) hx hb hr rfl (fun t ht _ => ⟨0, rfl, so_i hf, ht⟩) (fun _ h => by cases h) dX6_breaksOrder_40
  · replace hf := if_f hf c2
    refine lv_aload_n hx hb dX6_breaksOrder_18 rfl (lv_at hl 1 rfl) ?_
    refine va_get (D := D) (ci := 5) (v := .ref (a 4)) (C := RX6) (T := TX6) (N := 8) hx hb hts hiX6 hown hK hP 6 rfl rfl 0 (by decide) k9 (fun _ h9 => h9) rfl dX6_breaksOrder_19 ?_
    refine lv_iload_n hx hb dX6_breaksOrder_22 rfl (lv_at hl 2 rfl) ?_
    refine lv_iconst (v := 1) hx hb dX6_breaksOrder_23 (by decide) ?_
    refine lv_isub hx hb dX6_breaksOrder_24 ?_
    refine lv_iload_n hx hb dX6_breaksOrder_25 rfl (lv_at hl 3 rfl) ?_
    refine lv_iconst (v := 0) hx hb dX6_breaksOrder_26 (by decide) ?_
    obtain ⟨o3, ho3, hf⟩ := ob_e hf
    refine w_callR (b := a 4) (As := [.int (p1 - 1), .int p2, .int 0]) (rest := []) ⟨hx, hb, hml, hown, hts⟩ (c_X3_edge l D cI a tb st (p1 - 1) p2 0 o3 ho3) (cwV 3 hts gX6_breaksOrder_X3_edge rfl rfl rfl (by decide +kernel) ⟨Nat.le_of_ble_eq_true rfl, Nat.le_of_ble_eq_true rfl⟩) hP hK hD hZ hS (va_recv hK hP (ci := 2) (q0 := 4) rfl rfl) rfl hl.1 rfl (Nat.le_of_ble_eq_true rfl) ⟨Nat.zero_le _, Nat.zero_le _⟩ dX6_breaksOrder_27 ?_
    refine lv_iload hx hb dX6_breaksOrder_30 (lv_at hl 0 rfl) ?_
    refine lv_icmp_le (tgt := 39) hx hb dX6_breaksOrder_32 (by decide) (fun c4 => ?_) (fun c4 => ?_)
    · replace hf := if_t hf c4
      refine lv_iconst (v := 0) hx hb dX6_breaksOrder_39 (by decide) ?_
      exact W.zret (v := 0) hx hb hr rfl (fun t ht _ => ⟨0, rfl, so_i hf, ht⟩) (fun _ h => by cases h) dX6_breaksOrder_40
    · replace hf := if_f hf c4
      refine lv_iconst (v := 1) hx hb dX6_breaksOrder_35 (by decide) ?_
      refine lv_goto (tgt := 40) hx hb dX6_breaksOrder_36 (by decide) ?_
      exact W.zret (v := 1) hx hb hr rfl (fun t ht _ => ⟨1, rfl, so_i hf, ht⟩) (fun _ h => by cases h) dX6_breaksOrder_40
set_option maxHeartbeats 4000000 in
set_option maxRecDepth 100000 in
theorem c_X6_step (l : Launch) (D : va_G) (cI : ClassId) (a tb : Nat → Nat) (st : ST) (p1 p2 p3 : Int32) (r : Int32) (hf : fX6_step st p1 p2 p3 = some r) : MetR l yX6_step wsX6_step ({ frames := 2, cells := 0, slots := 0, locals := 48 }) [.ref (a 6), .int p1, .int p2, .int p3] D [(cI, .int)] (cw cI a) (cA a) tb st r := by
  refine met_of (cc := cX6_step) (maxL := 5) (ret := (some .int)) (by decide) rfl (Nat.le_of_ble_eq_true rfl) ?_
  intro p e s m below meth c hx hb hr hml hts hown hlk hG ls hl
  have hown : s.vm.findClass RX6 = some m.cls := hown
  obtain ⟨hP, hK, hD, hZ⟩ := hG
  have hS : va_S (cA a) s.heap s.heap [] := va_S.rf
  have hl : lv_has ls 5 [(0, .ref (a 6)), (1, .int p1), (2, .int p2), (3, .int p3)] := hl
  have hiX6 : ∀ w ∈ wsX60, w ∈ wsX6_step := by decide +kernel
  have k15 := hts (.fieldLink RX6 15 "DayColumn$Ways" "costs" "[I") (by decide +kernel)
  have k19 := hts (.fieldLink RX6 19 "DayColumn$Ways" "prices" "[I") (by decide +kernel)
  unfold fX6_step at hf
  refine lv_aload_n hx hb dX6_step_0 rfl (lv_at hl 0 rfl) ?_
  refine lv_iload_n hx hb dX6_step_1 rfl (lv_at hl 1 rfl) ?_
  refine lv_iload_n hx hb dX6_step_2 rfl (lv_at hl 3 rfl) ?_
  obtain ⟨o1, ho1, hf⟩ := ob_e hf
  refine w_callR (b := a 6) (As := [.int p1, .int p3]) (rest := []) ⟨hx, hb, hml, hown, hts⟩ (c_X6_missOf l D cI a tb st p1 p3 o1 ho1) (cwV 2 hts gX6_step_X6_missOf rfl rfl rfl (by decide +kernel) ⟨Nat.le_of_ble_eq_true rfl, Nat.le_of_ble_eq_true rfl⟩) hP hK hD hZ hS (va_recv hK hP (ci := 5) (q0 := 6) rfl rfl) rfl hl.1 rfl (Nat.le_of_ble_eq_true rfl) ⟨Nat.zero_le _, Nat.zero_le _⟩ dX6_step_3 ?_
  refine lv_istore (lv' := [(4, .int o1), (0, .ref (a 6)), (1, .int p1), (2, .int p2), (3, .int p3)]) hx hb dX6_step_6 hl (by decide) rfl (fun ls hl => ?_)
  refine lv_iload_n hx hb dX6_step_8 rfl (lv_at hl 3 rfl) ?_
  refine lv_iload_n hx hb dX6_step_9 rfl (lv_at hl 4 rfl) ?_
  refine lv_icmp_eq (tgt := 31) hx hb dX6_step_10 (by decide) (fun c2 => ?_) (fun c2 => ?_)
  · replace hf := if_t hf c2
    refine lv_aload_n hx hb dX6_step_31 rfl (lv_at hl 1 rfl) ?_
    refine lv_iload_n hx hb dX6_step_32 rfl (lv_at hl 2 rfl) ?_
    refine lv_iload_n hx hb dX6_step_33 rfl (lv_at hl 3 rfl) ?_
    refine lv_iload_n hx hb dX6_step_34 rfl (lv_at hl 4 rfl) ?_
    obtain ⟨o3, ho3, hf⟩ := ob_e hf
    refine w_callR (b := a 6) (As := [.int p1, .int p2, .int p3]) (rest := []) ⟨hx, hb, hml, hown, hts⟩ (c_X6_breaksOrder l D cI a tb st p1 p2 p3 o3 ho3) (cwV 3 hts gX6_step_X6_breaksOrder rfl rfl rfl (by decide +kernel) ⟨Nat.le_of_ble_eq_true rfl, Nat.le_of_ble_eq_true rfl⟩) hP hK hD hZ hS (va_recv hK hP (ci := 5) (q0 := 6) rfl rfl) rfl hl.1 rfl (Nat.le_of_ble_eq_true rfl) ⟨Nat.zero_le _, Nat.zero_le _⟩ dX6_step_35 ?_
    refine lv_if_eq (tgt := 53) hx hb dX6_step_38 (by decide) (fun c4 => ?_) (fun c4 => ?_)
    · replace hf := if_t hf c4
      refine lv_iload hx hb dX6_step_53 (lv_at hl 0 rfl) ?_
      exact W.iret (v := o1) hx hb hr (fun t ht _ => ⟨o1, rfl, so_i hf, ht⟩) (fun _ h => by cases h) dX6_step_55
    · replace hf := if_f hf c4
      refine lv_iload hx hb dX6_step_41 (lv_at hl 0 rfl) ?_
      refine lv_aload_n hx hb dX6_step_43 rfl (lv_at hl 1 rfl) ?_
      refine va_get (D := D) (ci := 5) (v := .ref (a 19)) (C := RX6) (T := TX6) (N := 8) hx hb hts hiX6 hown hK hP 6 rfl rfl 2 (by decide) k19 (fun _ h9 => h9) rfl dX6_step_44 ?_
      refine lv_iconst (v := 2) hx hb dX6_step_47 (by decide) ?_
      obtain ⟨hi5, hf⟩ := ix_e hf
      refine va_iald hx hb hK hP 19 0 rfl rfl hi5 dX6_step_48 ?_
      refine lv_iadd hx hb dX6_step_49 ?_
      refine lv_goto (tgt := 55) hx hb dX6_step_50 (by decide) ?_
      exact W.iret (v := (o1 + (st.2 11 (Int32.toNatClampNeg 2)))) hx hb hr (fun t ht _ => ⟨(o1 + (st.2 11 (Int32.toNatClampNeg 2))), rfl, so_i hf, ht⟩) (fun _ h => by cases h) dX6_step_55
  · replace hf := if_f hf c2
    refine lv_iload hx hb dX6_step_13 (lv_at hl 0 rfl) ?_
    refine lv_aload_n hx hb dX6_step_15 rfl (lv_at hl 1 rfl) ?_
    refine va_get (D := D) (ci := 5) (v := .ref (a 19)) (C := RX6) (T := TX6) (N := 8) hx hb hts hiX6 hown hK hP 6 rfl rfl 2 (by decide) k19 (fun _ h9 => h9) rfl dX6_step_16 ?_
    refine lv_iconst (v := 0) hx hb dX6_step_19 (by decide) ?_
    obtain ⟨hi6, hf⟩ := ix_e hf
    refine va_iald hx hb hK hP 19 0 rfl rfl hi6 dX6_step_20 ?_
    refine lv_aload_n hx hb dX6_step_21 rfl (lv_at hl 1 rfl) ?_
    refine va_get (D := D) (ci := 5) (v := .ref (a 18)) (C := RX6) (T := TX6) (N := 8) hx hb hts hiX6 hown hK hP 6 rfl rfl 1 (by decide) k15 (fun _ h9 => h9) rfl dX6_step_22 ?_
    refine lv_iload_n hx hb dX6_step_25 rfl (lv_at hl 4 rfl) ?_
    obtain ⟨hi7, hf⟩ := ix_e hf
    refine va_iald hx hb hK hP 18 0 rfl rfl hi7 dX6_step_26 ?_
    refine lv_iadd hx hb dX6_step_27 ?_
    refine lv_iadd hx hb dX6_step_28 ?_
    obtain ⟨x8, ex8, hf⟩ := bnd_e hf
    refine w_nm ex8 ?_
    refine lv_istore (lv' := [(4, .int x8), (0, .ref (a 6)), (1, .int p1), (2, .int p2), (3, .int p3)]) hx hb dX6_step_29 hl (by decide) rfl (fun ls hl => ?_)
    refine lv_aload_n hx hb dX6_step_31 rfl (lv_at hl 1 rfl) ?_
    refine lv_iload_n hx hb dX6_step_32 rfl (lv_at hl 2 rfl) ?_
    refine lv_iload_n hx hb dX6_step_33 rfl (lv_at hl 3 rfl) ?_
    refine lv_iload_n hx hb dX6_step_34 rfl (lv_at hl 4 rfl) ?_
    obtain ⟨o9, ho9, hf⟩ := ob_e hf
    refine w_callR (b := a 6) (As := [.int p1, .int p2, .int p3]) (rest := []) ⟨hx, hb, hml, hown, hts⟩ (c_X6_breaksOrder l D cI a tb st p1 p2 p3 o9 ho9) (cwV 3 hts gX6_step_X6_breaksOrder rfl rfl rfl (by decide +kernel) ⟨Nat.le_of_ble_eq_true rfl, Nat.le_of_ble_eq_true rfl⟩) hP hK hD hZ hS (va_recv hK hP (ci := 5) (q0 := 6) rfl rfl) rfl hl.1 rfl (Nat.le_of_ble_eq_true rfl) ⟨Nat.zero_le _, Nat.zero_le _⟩ dX6_step_35 ?_
    refine lv_if_eq (tgt := 53) hx hb dX6_step_38 (by decide) (fun c10 => ?_) (fun c10 => ?_)
    · replace hf := if_t hf c10
      refine lv_iload hx hb dX6_step_53 (lv_at hl 0 rfl) ?_
      exact W.iret (v := x8) hx hb hr (fun t ht _ => ⟨x8, rfl, so_i hf, ht⟩) (fun _ h => by cases h) dX6_step_55
    · replace hf := if_f hf c10
      refine lv_iload hx hb dX6_step_41 (lv_at hl 0 rfl) ?_
      refine lv_aload_n hx hb dX6_step_43 rfl (lv_at hl 1 rfl) ?_
      refine va_get (D := D) (ci := 5) (v := .ref (a 19)) (C := RX6) (T := TX6) (N := 8) hx hb hts hiX6 hown hK hP 6 rfl rfl 2 (by decide) k19 (fun _ h9 => h9) rfl dX6_step_44 ?_
      refine lv_iconst (v := 2) hx hb dX6_step_47 (by decide) ?_
      obtain ⟨hi11, hf⟩ := ix_e hf
      refine va_iald hx hb hK hP 19 0 rfl rfl hi11 dX6_step_48 ?_
      refine lv_iadd hx hb dX6_step_49 ?_
      refine lv_goto (tgt := 55) hx hb dX6_step_50 (by decide) ?_
      exact W.iret (v := (x8 + (st.2 11 (Int32.toNatClampNeg 2)))) hx hb hr (fun t ht _ => ⟨(x8 + (st.2 11 (Int32.toNatClampNeg 2))), rfl, so_i hf, ht⟩) (fun _ h => by cases h) dX6_step_55
set_option maxHeartbeats 4000000 in
set_option maxRecDepth 100000 in
theorem c_X6_through (l : Launch) (D : va_G) (cI : ClassId) (a tb : Nat → Nat) (st : ST) (p1 p2 : Int32) (r : Int32) (hf : fX6_through st p1 p2 = some r) : MetR l yX6_through wsX6_through ({ frames := 0, cells := 0, slots := 0, locals := 0 }) [.ref (a 6), .int p1, .int p2] D [(cI, .int)] (cw cI a) (cA a) tb st r := by
  refine met_of (cc := cX6_through) (maxL := 3) (ret := (some .int)) (by decide) rfl (Nat.le_of_ble_eq_true rfl) ?_
  intro p e s m below meth c hx hb hr hml hts hown hlk hG ls hl
  have hown : s.vm.findClass RX6 = some m.cls := hown
  obtain ⟨hP, hK, hD, hZ⟩ := hG
  have hS : va_S (cA a) s.heap s.heap [] := va_S.rf
  have hl : lv_has ls 3 [(0, .ref (a 6)), (1, .int p1), (2, .int p2)] := hl
  have hiX6 : ∀ w ∈ wsX60, w ∈ wsX6_through := by decide +kernel
  have k22 := hts (.fieldLink RX6 22 "DayColumn$Ways" "ahead" "[I") (by decide +kernel)
  have k25 := hts (.fieldLink RX6 25 "DayColumn$Ways" "behind" "[I") (by decide +kernel)
  have k31 := hts (.fieldLink RX6 31 "DayColumn$Ways" "rows" "I") (by decide +kernel)
  have k35 := hts (.fieldLink RX6 35 "DayColumn$Ways" "styles" "I") (by decide +kernel)
  unfold fX6_through at hf
  refine lv_iload_n hx hb dX6_through_0 rfl (lv_at hl 1 rfl) ?_
  refine lv_if_lt (tgt := 24) hx hb dX6_through_1 (by decide) (fun c1 => ?_) (fun c1 => ?_)
  · replace hf := if_t hf c1
    refine lv_iconst (v := -1) hx hb dX6_through_24 (by decide) ?_
    exact W.iret (v := (-1)) hx hb hr (fun t ht _ => ⟨(-1), rfl, so_i hf, ht⟩) (fun _ h => by cases h) dX6_through_25
  · replace hf := if_f hf c1
    refine lv_iload_n hx hb dX6_through_4 rfl (lv_at hl 1 rfl) ?_
    refine lv_aload_n hx hb dX6_through_5 rfl (lv_at hl 0 rfl) ?_
    refine va_get (D := D) (ci := 5) (v := .int (st.1 13)) (C := RX6) (T := TX6) (N := 8) hx hb hts hiX6 hown hK hP 6 rfl rfl 6 (by decide) k31 (fun _ h9 => h9) rfl dX6_through_6 ?_
    refine lv_icmp_ge (tgt := 24) hx hb dX6_through_9 (by decide) (fun c2 => ?_) (fun c2 => ?_)
    · replace hf := if_t hf c2
      refine lv_iconst (v := -1) hx hb dX6_through_24 (by decide) ?_
      exact W.iret (v := (-1)) hx hb hr (fun t ht _ => ⟨(-1), rfl, so_i hf, ht⟩) (fun _ h => by cases h) dX6_through_25
    · replace hf := if_f hf c2
      refine lv_iload_n hx hb dX6_through_12 rfl (lv_at hl 2 rfl) ?_
      refine lv_if_lt (tgt := 24) hx hb dX6_through_13 (by decide) (fun c3 => ?_) (fun c3 => ?_)
      · replace hf := if_t hf c3
        refine lv_iconst (v := -1) hx hb dX6_through_24 (by decide) ?_
        exact W.iret (v := (-1)) hx hb hr (fun t ht _ => ⟨(-1), rfl, so_i hf, ht⟩) (fun _ h => by cases h) dX6_through_25
      · replace hf := if_f hf c3
        refine lv_iload_n hx hb dX6_through_16 rfl (lv_at hl 2 rfl) ?_
        refine lv_aload_n hx hb dX6_through_17 rfl (lv_at hl 0 rfl) ?_
        refine va_get (D := D) (ci := 5) (v := .int (st.1 14)) (C := RX6) (T := TX6) (N := 8) hx hb hts hiX6 hown hK hP 6 rfl rfl 7 (by decide) k35 (fun _ h9 => h9) rfl dX6_through_18 ?_
        refine lv_icmp_lt (tgt := 26) hx hb dX6_through_21 (by decide) (fun c4 => ?_) (fun c4 => ?_)
        · replace hf := if_t hf c4
          refine lv_aload_n hx hb dX6_through_26 rfl (lv_at hl 0 rfl) ?_
          refine va_get (D := D) (ci := 5) (v := .ref (a 20)) (C := RX6) (T := TX6) (N := 8) hx hb hts hiX6 hown hK hP 6 rfl rfl 3 (by decide) k22 (fun _ h9 => h9) rfl dX6_through_27 ?_
          refine lv_iload_n hx hb dX6_through_30 rfl (lv_at hl 1 rfl) ?_
          refine lv_bipush (v := 8) hx hb dX6_through_31 (by decide) ?_
          refine lv_imul hx hb dX6_through_33 ?_
          refine lv_iload_n hx hb dX6_through_34 rfl (lv_at hl 2 rfl) ?_
          refine lv_iadd hx hb dX6_through_35 ?_
          obtain ⟨x5, ex5, hf⟩ := bnd_e hf
          refine w_nm ex5 ?_
          obtain ⟨hi6, hf⟩ := ix_e hf
          refine va_iald hx hb hK hP 20 0 rfl rfl hi6 dX6_through_36 ?_
          refine lv_aload_n hx hb dX6_through_37 rfl (lv_at hl 0 rfl) ?_
          refine va_get (D := D) (ci := 5) (v := .ref (a 21)) (C := RX6) (T := TX6) (N := 8) hx hb hts hiX6 hown hK hP 6 rfl rfl 4 (by decide) k25 (fun _ h9 => h9) rfl dX6_through_38 ?_
          refine lv_iload_n hx hb dX6_through_41 rfl (lv_at hl 1 rfl) ?_
          refine lv_bipush (v := 8) hx hb dX6_through_42 (by decide) ?_
          refine lv_imul hx hb dX6_through_44 ?_
          refine lv_iload_n hx hb dX6_through_45 rfl (lv_at hl 2 rfl) ?_
          refine lv_iadd hx hb dX6_through_46 ?_
          obtain ⟨x7, ex7, hf⟩ := bnd_e hf
          refine w_nm ex7 ?_
          obtain ⟨hi8, hf⟩ := ix_e hf
          refine va_iald hx hb hK hP 21 0 rfl rfl hi8 dX6_through_47 ?_
          refine lv_iadd hx hb dX6_through_48 ?_
          exact W.iret (v := ((st.2 12 (Int32.toNatClampNeg x5)) + (st.2 13 (Int32.toNatClampNeg x7)))) hx hb hr (fun t ht _ => ⟨((st.2 12 (Int32.toNatClampNeg x5)) + (st.2 13 (Int32.toNatClampNeg x7))), rfl, so_i hf, ht⟩) (fun _ h => by cases h) dX6_through_49
        · replace hf := if_f hf c4
          refine lv_iconst (v := -1) hx hb dX6_through_24 (by decide) ?_
          exact W.iret (v := (-1)) hx hb hr (fun t ht _ => ⟨(-1), rfl, so_i hf, ht⟩) (fun _ h => by cases h) dX6_through_25
set_option maxHeartbeats 4000000 in
set_option maxRecDepth 100000 in
theorem c_X6_leastCost (l : Launch) (D : va_G) (cI : ClassId) (a tb : Nat → Nat) (st : ST) (r : Int32) (hf : fX6_leastCost st = some r) : MetR l yX6_leastCost wsX6_leastCost ({ frames := 1, cells := 0, slots := 0, locals := 22 }) [.ref (a 6)] D [(cI, .int)] (cw cI a) (cA a) tb st r := by
  refine met_of (cc := cX6_leastCost) (maxL := 1) (ret := (some .int)) (by decide) rfl (Nat.le_of_ble_eq_true rfl) ?_
  intro p e s m below meth c hx hb hr hml hts hown hlk hG ls hl
  have hown : s.vm.findClass RX6 = some m.cls := hown
  obtain ⟨hP, hK, hD, hZ⟩ := hG
  have hS : va_S (cA a) s.heap s.heap [] := va_S.rf
  have hl : lv_has ls 1 [(0, .ref (a 6))] := hl
  unfold fX6_leastCost at hf
  refine lv_aload_n hx hb dX6_leastCost_0 rfl (lv_at hl 0 rfl) ?_
  refine lv_iconst (v := 0) hx hb dX6_leastCost_1 (by decide) ?_
  refine lv_aload_n hx hb dX6_leastCost_2 rfl (lv_at hl 0 rfl) ?_
  refine lv_iconst (v := 0) hx hb dX6_leastCost_3 (by decide) ?_
  obtain ⟨o1, ho1, hf⟩ := ob_e hf
  refine w_callR (b := a 6) (As := [.int 0]) (rest := [.int 0, .ref (a 6)]) ⟨hx, hb, hml, hown, hts⟩ (c_X6_styleOf l D cI a tb st 0 o1 ho1) (cwV 1 hts gX6_leastCost_X6_styleOf rfl rfl rfl (by decide +kernel) ⟨Nat.le_of_ble_eq_true rfl, Nat.le_of_ble_eq_true rfl⟩) hP hK hD hZ hS (va_recv hK hP (ci := 5) (q0 := 6) rfl rfl) rfl hl.1 rfl (Nat.le_of_ble_eq_true rfl) ⟨Nat.zero_le _, Nat.zero_le _⟩ dX6_leastCost_4 ?_
  obtain ⟨o2, ho2, hf⟩ := ob_e hf
  refine w_callR (b := a 6) (As := [.int 0, .int o1]) (rest := []) ⟨hx, hb, hml, hown, hts⟩ (c_X6_through l D cI a tb st 0 o1 o2 ho2) (cwV 2 hts gX6_leastCost_X6_through rfl rfl rfl (by decide +kernel) ⟨Nat.le_of_ble_eq_true rfl, Nat.le_of_ble_eq_true rfl⟩) hP hK hD hZ hS (va_recv hK hP (ci := 5) (q0 := 6) rfl rfl) rfl hl.1 rfl (Nat.le_of_ble_eq_true rfl) ⟨Nat.zero_le _, Nat.zero_le _⟩ dX6_leastCost_7 ?_
  exact W.iret (v := o2) hx hb hr (fun t ht _ => ⟨o2, rfl, so_i hf, ht⟩) (fun _ h => by cases h) dX6_leastCost_10
set_option maxHeartbeats 4000000 in
set_option maxRecDepth 100000 in
theorem c_X6_leastOtherwise (l : Launch) (D : va_G) (cI : ClassId) (a tb : Nat → Nat) (st : ST) (p1 : Int32) (r : Int32) (hf : fX6_leastOtherwise st p1 = some r) : MetR l yX6_leastOtherwise wsX6_leastOtherwise ({ frames := 2, cells := 0, slots := 0, locals := 47 }) [.ref (a 6), .int p1] D [(cI, .int)] (cw cI a) (cA a) tb st r := by
  refine met_of (cc := cX6_leastOtherwise) (maxL := 6) (ret := (some .int)) (by decide) rfl (Nat.le_of_ble_eq_true rfl) ?_
  intro p e s m below meth c hx hb hr hml hts hown hlk hG ls hl
  have hown : s.vm.findClass RX6 = some m.cls := hown
  obtain ⟨hP, hK, hD, hZ⟩ := hG
  have hS : va_S (cA a) s.heap s.heap [] := va_S.rf
  have hl : lv_has ls 6 [(0, .ref (a 6)), (1, .int p1)] := hl
  have hiX6 : ∀ w ∈ wsX60, w ∈ wsX6_leastOtherwise := by decide +kernel
  have k35 := hts (.fieldLink RX6 35 "DayColumn$Ways" "styles" "I") (by decide +kernel)
  have k9 := hts (.fieldLink RX6 9 "DayColumn$Ways" "table" "LDayColumn$Readings;") (by decide +kernel)
  have l11 : ∀ (n : Nat) (x_1 x_2 x_3 x_4 : Int32) (ls : Array Slot), lv_has ls 6 [(0, .ref (a 6)), (1, .int x_1), (2, .int x_2), (3, .int x_3), (4, .int x_4)] → fX6_leastOtherwise_11 n st x_1 x_2 x_3 x_4 = some r → W p l e ({ frames := 2, cells := 0, slots := 0, locals := 47 }) s m ([.ref (a 6), .int p1] : List Value).toArray below meth c s.heap [] 0 0 (MQ below (vp_Si (fun z => z = r)) ([.ref (a 6), .int p1] : List Value).toArray s 0 0 (fun _ => False)) (F0 m 11 ls []) := by
    intro n
    induction n with
    | zero =>
      intro x_1 x_2 x_3 x_4 ls hl hf
      cases hf
    | succ n ih11 =>
      intro x_1 x_2 x_3 x_4 ls hl hf
      unfold fX6_leastOtherwise_11 at hf
      refine lv_iload hx hb dX6_leastOtherwise_11 (lv_at hl 4 rfl) ?_
      refine lv_aload_n hx hb dX6_leastOtherwise_13 rfl (lv_at hl 0 rfl) ?_
      refine va_get (D := D) (ci := 5) (v := .int (st.1 14)) (C := RX6) (T := TX6) (N := 8) hx hb hts hiX6 hown hK hP 6 rfl rfl 7 (by decide) k35 (fun _ h9 => h9) rfl dX6_leastOtherwise_14 ?_
      refine lv_icmp_ge (tgt := 66) hx hb dX6_leastOtherwise_17 (by decide) (fun c1 => ?_) (fun c1 => ?_)
      · replace hf := if_t hf c1
        refine lv_iload_n hx hb dX6_leastOtherwise_66 rfl (lv_at hl 3 rfl) ?_
        exact W.iret (v := x_3) hx hb hr (fun t ht _ => ⟨x_3, rfl, so_i hf, ht⟩) (fun _ h => by cases h) dX6_leastOtherwise_67
      · replace hf := if_f hf c1
        refine lv_aload_n hx hb dX6_leastOtherwise_20 rfl (lv_at hl 0 rfl) ?_
        refine va_get (D := D) (ci := 5) (v := .ref (a 4)) (C := RX6) (T := TX6) (N := 8) hx hb hts hiX6 hown hK hP 6 rfl rfl 0 (by decide) k9 (fun _ h9 => h9) rfl dX6_leastOtherwise_21 ?_
        refine lv_iload_n hx hb dX6_leastOtherwise_24 rfl (lv_at hl 1 rfl) ?_
        refine lv_iload_n hx hb dX6_leastOtherwise_25 rfl (lv_at hl 2 rfl) ?_
        refine lv_iload hx hb dX6_leastOtherwise_26 (lv_at hl 4 rfl) ?_
        obtain ⟨o2, ho2, hf⟩ := ob_e hf
        refine w_callR (b := a 4) (As := [.int x_1, .int x_2, .int x_4]) (rest := []) ⟨hx, hb, hml, hown, hts⟩ (c_X3_isAlike l D cI a tb st x_1 x_2 x_4 o2 ho2) (cwV 3 hts gX6_leastOtherwise_X3_isAlike rfl rfl rfl (by decide +kernel) ⟨Nat.le_of_ble_eq_true rfl, Nat.le_of_ble_eq_true rfl⟩) hP hK hD hZ hS (va_recv hK hP (ci := 2) (q0 := 4) rfl rfl) rfl hl.1 rfl (Nat.le_of_ble_eq_true rfl) ⟨Nat.zero_le _, Nat.zero_le _⟩ dX6_leastOtherwise_28 ?_
        refine lv_if_ne (tgt := 60) hx hb dX6_leastOtherwise_31 (by decide) (fun c3 => ?_) (fun c3 => ?_)
        · replace hf := if_f hf c3
          obtain ⟨x4, ex4, hf⟩ := bnd_e hf
          refine lv_iinc (v := x4) (lv' := [(4, .int x4), (0, .ref (a 6)), (1, .int x_1), (2, .int x_2), (3, .int x_3)]) hx hb dX6_leastOtherwise_60 hl (k := 4) rfl (by rw [ex4]; rfl) (by decide) rfl (fun ls hl => ?_)
          refine lv_goto (tgt := 11) hx hb dX6_leastOtherwise_63 (by decide) ?_
          exact ih11 x_1 x_2 x_3 x4 _ (lv_sub hl [1, 2, 3, 4, 0] rfl) hf
        · replace hf := if_t hf c3
          refine lv_aload_n hx hb dX6_leastOtherwise_34 rfl (lv_at hl 0 rfl) ?_
          refine lv_iload_n hx hb dX6_leastOtherwise_35 rfl (lv_at hl 1 rfl) ?_
          refine lv_iload hx hb dX6_leastOtherwise_36 (lv_at hl 4 rfl) ?_
          obtain ⟨o5, ho5, hf⟩ := ob_e hf
          refine w_callR (b := a 6) (As := [.int x_1, .int x_4]) (rest := []) ⟨hx, hb, hml, hown, hts⟩ (c_X6_through l D cI a tb st x_1 x_4 o5 ho5) (cwV 2 hts gX6_leastOtherwise_X6_through rfl rfl rfl (by decide +kernel) ⟨Nat.le_of_ble_eq_true rfl, Nat.le_of_ble_eq_true rfl⟩) hP hK hD hZ hS (va_recv hK hP (ci := 5) (q0 := 6) rfl rfl) rfl hl.1 rfl (Nat.le_of_ble_eq_true rfl) ⟨Nat.zero_le _, Nat.zero_le _⟩ dX6_leastOtherwise_38 ?_
          refine lv_istore (lv' := [(5, .int o5), (0, .ref (a 6)), (1, .int x_1), (2, .int x_2), (3, .int x_3), (4, .int x_4)]) hx hb dX6_leastOtherwise_41 hl (by decide) rfl (fun ls hl => ?_)
          refine lv_iload_n hx hb dX6_leastOtherwise_43 rfl (lv_at hl 4 rfl) ?_
          refine lv_iconst (v := -1) hx hb dX6_leastOtherwise_44 (by decide) ?_
          refine lv_icmp_ne (tgt := 53) hx hb dX6_leastOtherwise_45 (by decide) (fun c6 => ?_) (fun c6 => ?_)
          · replace hf := if_f hf c6
            refine lv_iload_n hx hb dX6_leastOtherwise_53 rfl (lv_at hl 4 rfl) ?_
            refine lv_iload hx hb dX6_leastOtherwise_54 (lv_at hl 0 rfl) ?_
            refine va_mmin hx hb (by rw [hml]; exact hl.1.symm) hown (hts (.methodLink RX6 38 Lib.Math.min.name) (by decide +kernel)) (hts (.static Lib.Math.min.name) (by decide +kernel)) (hts (.initialized "java/lang/Math") (by decide +kernel)) (hts (.code Lib.Math.min.name Lib.Math.min.code 2 (some .int)) (by decide +kernel)) (Nat.le_of_ble_eq_true rfl) (Nat.le_of_ble_eq_true rfl) (Nat.zero_le _) (Nat.zero_le _) dX6_leastOtherwise_56 ?_
            obtain ⟨x7, ex7, hf⟩ := bnd_e hf
            refine w_nm ex7 ?_
            refine lv_istore_n (lv' := [(3, .int x7), (5, .int o5), (0, .ref (a 6)), (1, .int x_1), (2, .int x_2), (4, .int x_4)]) hx hb dX6_leastOtherwise_59 rfl hl (by decide) rfl (fun ls hl => ?_)
            obtain ⟨x8, ex8, hf⟩ := bnd_e hf
            refine lv_iinc (v := x8) (lv' := [(4, .int x8), (3, .int x7), (5, .int o5), (0, .ref (a 6)), (1, .int x_1), (2, .int x_2)]) hx hb dX6_leastOtherwise_60 hl (k := 5) rfl (by rw [ex8]; rfl) (by decide) rfl (fun ls hl => ?_)
            refine lv_goto (tgt := 11) hx hb dX6_leastOtherwise_63 (by decide) ?_
            exact ih11 x_1 x_2 x7 x8 _ (lv_sub hl [3, 4, 5, 1, 0] rfl) hf
          · replace hf := if_t hf c6
            refine lv_iload hx hb dX6_leastOtherwise_48 (lv_at hl 0 rfl) ?_
            refine lv_goto (tgt := 59) hx hb dX6_leastOtherwise_50 (by decide) ?_
            refine lv_istore_n (lv' := [(3, .int o5), (5, .int o5), (0, .ref (a 6)), (1, .int x_1), (2, .int x_2), (4, .int x_4)]) hx hb dX6_leastOtherwise_59 rfl hl (by decide) rfl (fun ls hl => ?_)
            obtain ⟨x9, ex9, hf⟩ := bnd_e hf
            refine lv_iinc (v := x9) (lv' := [(4, .int x9), (3, .int o5), (5, .int o5), (0, .ref (a 6)), (1, .int x_1), (2, .int x_2)]) hx hb dX6_leastOtherwise_60 hl (k := 5) rfl (by rw [ex9]; rfl) (by decide) rfl (fun ls hl => ?_)
            refine lv_goto (tgt := 11) hx hb dX6_leastOtherwise_63 (by decide) ?_
            exact ih11 x_1 x_2 o5 x9 _ (lv_sub hl [3, 4, 5, 1, 0] rfl) hf
  unfold fX6_leastOtherwise at hf
  refine lv_aload_n hx hb dX6_leastOtherwise_0 rfl (lv_at hl 0 rfl) ?_
  refine lv_iload_n hx hb dX6_leastOtherwise_1 rfl (lv_at hl 1 rfl) ?_
  obtain ⟨o10, ho10, hf⟩ := ob_e hf
  refine w_callR (b := a 6) (As := [.int p1]) (rest := []) ⟨hx, hb, hml, hown, hts⟩ (c_X6_styleOf l D cI a tb st p1 o10 ho10) (cwV 1 hts gX6_leastOtherwise_X6_styleOf rfl rfl rfl (by decide +kernel) ⟨Nat.le_of_ble_eq_true rfl, Nat.le_of_ble_eq_true rfl⟩) hP hK hD hZ hS (va_recv hK hP (ci := 5) (q0 := 6) rfl rfl) rfl hl.1 rfl (Nat.le_of_ble_eq_true rfl) ⟨Nat.zero_le _, Nat.zero_le _⟩ dX6_leastOtherwise_2 ?_
  refine lv_istore_n (lv' := [(2, .int o10), (0, .ref (a 6)), (1, .int p1)]) hx hb dX6_leastOtherwise_5 rfl hl (by decide) rfl (fun ls hl => ?_)
  refine lv_iconst (v := -1) hx hb dX6_leastOtherwise_6 (by decide) ?_
  refine lv_istore_n (lv' := [(3, .int (-1)), (2, .int o10), (0, .ref (a 6)), (1, .int p1)]) hx hb dX6_leastOtherwise_7 rfl hl (by decide) rfl (fun ls hl => ?_)
  refine lv_iconst (v := 0) hx hb dX6_leastOtherwise_8 (by decide) ?_
  refine lv_istore (lv' := [(4, .int 0), (3, .int (-1)), (2, .int o10), (0, .ref (a 6)), (1, .int p1)]) hx hb dX6_leastOtherwise_9 hl (by decide) rfl (fun ls hl => ?_)
  exact l11 1000 p1 o10 (-1) 0 _ (lv_sub hl [3, 4, 2, 1, 0] rfl) hf
set_option maxHeartbeats 4000000 in
set_option maxRecDepth 100000 in
theorem c_X6_addUpAhead (l : Launch) (D : va_G) (cI : ClassId) (a tb : Nat → Nat) (st : ST) (p1 : Int32) (r : ST) (hf : fX6_addUpAhead st p1 = some r) : MetV l yX6_addUpAhead wsX6_addUpAhead ({ frames := 3, cells := 0, slots := 0, locals := 72 }) [.ref (a 6), .int p1] D [(cI, .int)] (cw cI a) (cA a) tb st r := by
  refine met_of (cc := cX6_addUpAhead) (maxL := 6) (ret := none) (by decide) rfl (Nat.le_of_ble_eq_true rfl) ?_
  intro p e s m below meth c hx hb hr hml hts hown hlk hG ls hl
  have hown : s.vm.findClass RX6 = some m.cls := hown
  obtain ⟨hP, hK, hD, hZ⟩ := hG
  have hS : va_S (cA a) s.heap s.heap [] := va_S.rf
  have hl : lv_has ls 6 [(0, .ref (a 6)), (1, .int p1)] := hl
  have hiX6 : ∀ w ∈ wsX60, w ∈ wsX6_addUpAhead := by decide +kernel
  have k15 := hts (.fieldLink RX6 15 "DayColumn$Ways" "costs" "[I") (by decide +kernel)
  have k22 := hts (.fieldLink RX6 22 "DayColumn$Ways" "ahead" "[I") (by decide +kernel)
  have k35 := hts (.fieldLink RX6 35 "DayColumn$Ways" "styles" "I") (by decide +kernel)
  have l35 : ∀ (n : Nat) (x_1 x_2 x_3 x_4 : Int32) (st : ST) (H : Heap) (locs : List Loc) (ls : Array Slot), va_P D vwCl (cw cI a st) H → va_S (cA a) s.heap H locs → lv_has ls 6 [(0, .ref (a 6)), (1, .int x_1), (2, .int x_2), (3, .int x_3), (4, .int x_4)] → ∀ (o : Int32), fX6_addUpAhead_35 n st x_1 x_2 x_3 x_4 = some o → (∀ (H : Heap) (locs : List Loc) (ls : Array Slot), va_P D vwCl (cw cI a st) H → va_S (cA a) s.heap H locs → lv_has ls 6 [(0, .ref (a 6)), (1, .int x_1), (2, .int x_2), (3, .int o)] → W p l e ({ frames := 3, cells := 0, slots := 0, locals := 72 }) s m ([.ref (a 6), .int p1] : List Value).toArray below meth c H locs 0 0 (MQ below (va_Qv (fun (u : ST) => u = r) (fun u t => va_P D vwCl (cw cI a u) t.heap) (cA a)) ([.ref (a 6), .int p1] : List Value).toArray s 0 0 (cA a)) (F0 m 96 ls [])) → W p l e ({ frames := 3, cells := 0, slots := 0, locals := 72 }) s m ([.ref (a 6), .int p1] : List Value).toArray below meth c H locs 0 0 (MQ below (va_Qv (fun (u : ST) => u = r) (fun u t => va_P D vwCl (cw cI a u) t.heap) (cA a)) ([.ref (a 6), .int p1] : List Value).toArray s 0 0 (cA a)) (F0 m 35 ls []) := by
    intro n
    induction n with
    | zero =>
      intro x_1 x_2 x_3 x_4 st H locs ls hP hS hl o hf kk
      cases hf
    | succ n ih35 =>
      intro x_1 x_2 x_3 x_4 st H locs ls hP hS hl o hf kk
      unfold fX6_addUpAhead_35 at hf
      refine lv_iload hx hb dX6_addUpAhead_35 (lv_at hl 4 rfl) ?_
      refine lv_aload_n hx hb dX6_addUpAhead_37 rfl (lv_at hl 0 rfl) ?_
      refine va_get (D := D) (ci := 5) (v := .int (st.1 14)) (C := RX6) (T := TX6) (N := 8) hx hb hts hiX6 hown hK hP 6 rfl rfl 7 (by decide) k35 (fun _ h9 => h9) rfl dX6_addUpAhead_38 ?_
      refine lv_icmp_ge (tgt := 96) hx hb dX6_addUpAhead_41 (by decide) (fun c1 => ?_) (fun c1 => ?_)
      · replace hf := if_t hf c1
        obtain rfl := so_i hf
        exact kk _ _ _ hP hS (lv_sub hl [0, 1, 2, 3] rfl)
      · replace hf := if_f hf c1
        refine lv_iload_n hx hb dX6_addUpAhead_44 rfl (lv_at hl 1 rfl) ?_
        refine lv_if_le (tgt := 96) hx hb dX6_addUpAhead_45 (by decide) (fun c2 => ?_) (fun c2 => ?_)
        · replace hf := if_t hf c2
          obtain rfl := so_i hf
          exact kk _ _ _ hP hS (lv_sub hl [0, 1, 2, 3] rfl)
        · replace hf := if_f hf c2
          refine lv_aload_n hx hb dX6_addUpAhead_48 rfl (lv_at hl 0 rfl) ?_
          refine va_get (D := D) (ci := 5) (v := .ref (a 20)) (C := RX6) (T := TX6) (N := 8) hx hb hts hiX6 hown hK hP 6 rfl rfl 3 (by decide) k22 (fun _ h9 => h9) rfl dX6_addUpAhead_49 ?_
          refine lv_iload_n hx hb dX6_addUpAhead_52 rfl (lv_at hl 1 rfl) ?_
          refine lv_iconst (v := 1) hx hb dX6_addUpAhead_53 (by decide) ?_
          refine lv_isub hx hb dX6_addUpAhead_54 ?_
          refine lv_bipush (v := 8) hx hb dX6_addUpAhead_55 (by decide) ?_
          refine lv_imul hx hb dX6_addUpAhead_57 ?_
          refine lv_iload hx hb dX6_addUpAhead_58 (lv_at hl 4 rfl) ?_
          refine lv_iadd hx hb dX6_addUpAhead_60 ?_
          obtain ⟨x3, ex3, hf⟩ := bnd_e hf
          refine w_nm ex3 ?_
          obtain ⟨hi4, hf⟩ := ix_e hf
          refine va_iald hx hb hK hP 20 0 rfl rfl hi4 dX6_addUpAhead_61 ?_
          refine lv_aload_n hx hb dX6_addUpAhead_62 rfl (lv_at hl 0 rfl) ?_
          refine lv_iload_n hx hb dX6_addUpAhead_63 rfl (lv_at hl 1 rfl) ?_
          refine lv_iload hx hb dX6_addUpAhead_64 (lv_at hl 4 rfl) ?_
          refine lv_iload_n hx hb dX6_addUpAhead_66 rfl (lv_at hl 2 rfl) ?_
          obtain ⟨o5, ho5, hf⟩ := ob_e hf
          refine w_callR (b := a 6) (As := [.int x_1, .int x_4, .int x_2]) (rest := [.int (st.2 12 (Int32.toNatClampNeg x3))]) ⟨hx, hb, hml, hown, hts⟩ (c_X6_step l D cI a tb st x_1 x_4 x_2 o5 ho5) (cwV 3 hts gX6_addUpAhead_X6_step rfl rfl rfl (by decide +kernel) ⟨Nat.le_of_ble_eq_true rfl, Nat.le_of_ble_eq_true rfl⟩) hP hK hD hZ hS (va_recv hK hP (ci := 5) (q0 := 6) rfl rfl) rfl hl.1 rfl (Nat.le_of_ble_eq_true rfl) ⟨Nat.zero_le _, Nat.zero_le _⟩ dX6_addUpAhead_67 ?_
          refine lv_iadd hx hb dX6_addUpAhead_70 ?_
          obtain ⟨x6, ex6, hf⟩ := bnd_e hf
          refine w_nm ex6 ?_
          refine lv_istore (lv' := [(5, .int x6), (0, .ref (a 6)), (1, .int x_1), (2, .int x_2), (3, .int x_3), (4, .int x_4)]) hx hb dX6_addUpAhead_71 hl (by decide) rfl (fun ls hl => ?_)
          refine lv_iload_n hx hb dX6_addUpAhead_73 rfl (lv_at hl 4 rfl) ?_
          refine lv_iconst (v := -1) hx hb dX6_addUpAhead_74 (by decide) ?_
          refine lv_icmp_ne (tgt := 83) hx hb dX6_addUpAhead_75 (by decide) (fun c7 => ?_) (fun c7 => ?_)
          · replace hf := if_f hf c7
            refine lv_iload_n hx hb dX6_addUpAhead_83 rfl (lv_at hl 4 rfl) ?_
            refine lv_iload hx hb dX6_addUpAhead_84 (lv_at hl 0 rfl) ?_
            refine va_mmin hx hb (by rw [hml]; exact hl.1.symm) hown (hts (.methodLink RX6 38 Lib.Math.min.name) (by decide +kernel)) (hts (.static Lib.Math.min.name) (by decide +kernel)) (hts (.initialized "java/lang/Math") (by decide +kernel)) (hts (.code Lib.Math.min.name Lib.Math.min.code 2 (some .int)) (by decide +kernel)) (Nat.le_of_ble_eq_true rfl) (Nat.le_of_ble_eq_true rfl) (Nat.zero_le _) (Nat.zero_le _) dX6_addUpAhead_86 ?_
            obtain ⟨x8, ex8, hf⟩ := bnd_e hf
            refine w_nm ex8 ?_
            refine lv_istore_n (lv' := [(3, .int x8), (5, .int x6), (0, .ref (a 6)), (1, .int x_1), (2, .int x_2), (4, .int x_4)]) hx hb dX6_addUpAhead_89 rfl hl (by decide) rfl (fun ls hl => ?_)
            obtain ⟨x9, ex9, hf⟩ := bnd_e hf
            refine lv_iinc (v := x9) (lv' := [(4, .int x9), (3, .int x8), (5, .int x6), (0, .ref (a 6)), (1, .int x_1), (2, .int x_2)]) hx hb dX6_addUpAhead_90 hl (k := 5) rfl (by rw [ex9]; rfl) (by decide) rfl (fun ls hl => ?_)
            refine lv_goto (tgt := 35) hx hb dX6_addUpAhead_93 (by decide) ?_
            exact ih35 x_1 x_2 x8 x9 st _ _ _ hP hS (lv_sub hl [3, 4, 5, 1, 0] rfl) _ hf kk
          · replace hf := if_t hf c7
            refine lv_iload hx hb dX6_addUpAhead_78 (lv_at hl 0 rfl) ?_
            refine lv_goto (tgt := 89) hx hb dX6_addUpAhead_80 (by decide) ?_
            refine lv_istore_n (lv' := [(3, .int x6), (5, .int x6), (0, .ref (a 6)), (1, .int x_1), (2, .int x_2), (4, .int x_4)]) hx hb dX6_addUpAhead_89 rfl hl (by decide) rfl (fun ls hl => ?_)
            obtain ⟨x10, ex10, hf⟩ := bnd_e hf
            refine lv_iinc (v := x10) (lv' := [(4, .int x10), (3, .int x6), (5, .int x6), (0, .ref (a 6)), (1, .int x_1), (2, .int x_2)]) hx hb dX6_addUpAhead_90 hl (k := 5) rfl (by rw [ex10]; rfl) (by decide) rfl (fun ls hl => ?_)
            refine lv_goto (tgt := 35) hx hb dX6_addUpAhead_93 (by decide) ?_
            exact ih35 x_1 x_2 x6 x10 st _ _ _ hP hS (lv_sub hl [3, 4, 5, 1, 0] rfl) _ hf kk
  have l2 : ∀ (n : Nat) (x_1 x_2 : Int32) (st : ST) (H : Heap) (locs : List Loc) (ls : Array Slot), va_P D vwCl (cw cI a st) H → va_S (cA a) s.heap H locs → lv_has ls 6 [(0, .ref (a 6)), (1, .int x_1), (2, .int x_2)] → fX6_addUpAhead_2 n st x_1 x_2 = some r → W p l e ({ frames := 3, cells := 0, slots := 0, locals := 72 }) s m ([.ref (a 6), .int p1] : List Value).toArray below meth c H locs 0 0 (MQ below (va_Qv (fun (u : ST) => u = r) (fun u t => va_P D vwCl (cw cI a u) t.heap) (cA a)) ([.ref (a 6), .int p1] : List Value).toArray s 0 0 (cA a)) (F0 m 2 ls []) := by
    intro n
    induction n with
    | zero =>
      intro x_1 x_2 st H locs ls hP hS hl hf
      cases hf
    | succ n ih2 =>
      intro x_1 x_2 st H locs ls hP hS hl hf
      unfold fX6_addUpAhead_2 at hf
      refine lv_iload_n hx hb dX6_addUpAhead_2 rfl (lv_at hl 2 rfl) ?_
      refine lv_aload_n hx hb dX6_addUpAhead_3 rfl (lv_at hl 0 rfl) ?_
      refine va_get (D := D) (ci := 5) (v := .int (st.1 14)) (C := RX6) (T := TX6) (N := 8) hx hb hts hiX6 hown hK hP 6 rfl rfl 7 (by decide) k35 (fun _ h9 => h9) rfl dX6_addUpAhead_4 ?_
      refine lv_icmp_ge (tgt := 114) hx hb dX6_addUpAhead_7 (by decide) (fun c11 => ?_) (fun c11 => ?_)
      · replace hf := if_t hf c11
        exact W.vret hx hb hr (fun t ht _ => ⟨⟨st, rfl, so_i hf, p_at ht hP⟩, hS.F ht⟩) hS.2.2 dX6_addUpAhead_114
      · replace hf := if_f hf c11
        refine lv_iload_n hx hb dX6_addUpAhead_10 rfl (lv_at hl 1 rfl) ?_
        refine lv_if_ne (tgt := 30) hx hb dX6_addUpAhead_11 (by decide) (fun c12 => ?_) (fun c12 => ?_)
        · replace hf := if_f hf c12
          refine lv_iconst (v := -1) hx hb dX6_addUpAhead_30 (by decide) ?_
          refine lv_istore_n (lv' := [(3, .int (-1)), (0, .ref (a 6)), (1, .int x_1), (2, .int x_2)]) hx hb dX6_addUpAhead_31 rfl hl (by decide) rfl (fun ls hl => ?_)
          refine lv_iconst (v := 0) hx hb dX6_addUpAhead_32 (by decide) ?_
          refine lv_istore (lv' := [(4, .int 0), (3, .int (-1)), (0, .ref (a 6)), (1, .int x_1), (2, .int x_2)]) hx hb dX6_addUpAhead_33 hl (by decide) rfl (fun ls hl => ?_)
          obtain ⟨o13, ho13, hf⟩ := ob_e hf
          refine l35 1000 x_1 x_2 (-1) 0 st _ _ _ hP hS (lv_sub hl [2, 3, 4, 1, 0] rfl) _ ho13 ?_
          intro H locs ls hP hS hl
          have hl : lv_has ls 6 [(0, .ref (a 6)), (1, .int x_1), (2, .int x_2), (3, .int o13)] := hl
          refine lv_aload_n hx hb dX6_addUpAhead_96 rfl (lv_at hl 0 rfl) ?_
          refine va_get (D := D) (ci := 5) (v := .ref (a 20)) (C := RX6) (T := TX6) (N := 8) hx hb hts hiX6 hown hK hP 6 rfl rfl 3 (by decide) k22 (fun _ h9 => h9) rfl dX6_addUpAhead_97 ?_
          refine lv_iload_n hx hb dX6_addUpAhead_100 rfl (lv_at hl 1 rfl) ?_
          refine lv_bipush (v := 8) hx hb dX6_addUpAhead_101 (by decide) ?_
          refine lv_imul hx hb dX6_addUpAhead_103 ?_
          refine lv_iload_n hx hb dX6_addUpAhead_104 rfl (lv_at hl 2 rfl) ?_
          refine lv_iadd hx hb dX6_addUpAhead_105 ?_
          refine lv_iload_n hx hb dX6_addUpAhead_106 rfl (lv_at hl 3 rfl) ?_
          obtain ⟨x14, ex14, hf⟩ := bnd_e hf
          refine w_nm2 ex14 ?_
          obtain ⟨hi15, hf⟩ := ix_e hf
          obtain ⟨s16, es16, hf⟩ := bnd_e hf
          refine va_iast hx hb hK hP (hD st) hS 20 0 rfl rfl hi15 dX6_addUpAhead_107 (fun H locs hP _ hS => ?_)
          have hP : va_P D vwCl (cw cI a s16) H := by rw [es16]; exact hP
          obtain ⟨x17, ex17, hf⟩ := bnd_e hf
          refine lv_iinc (v := x17) (lv' := [(2, .int x17), (0, .ref (a 6)), (1, .int x_1), (3, .int o13)]) hx hb dX6_addUpAhead_108 hl (k := 2) rfl (by rw [ex17]; rfl) (by decide) rfl (fun ls hl => ?_)
          refine lv_goto (tgt := 2) hx hb dX6_addUpAhead_111 (by decide) ?_
          exact ih2 x_1 x17 s16 _ _ _ hP hS (lv_sub hl [1, 2, 0] rfl) hf
        · replace hf := if_t hf c12
          refine lv_aload_n hx hb dX6_addUpAhead_14 rfl (lv_at hl 0 rfl) ?_
          refine va_get (D := D) (ci := 5) (v := .ref (a 18)) (C := RX6) (T := TX6) (N := 8) hx hb hts hiX6 hown hK hP 6 rfl rfl 1 (by decide) k15 (fun _ h9 => h9) rfl dX6_addUpAhead_15 ?_
          refine lv_iload_n hx hb dX6_addUpAhead_18 rfl (lv_at hl 2 rfl) ?_
          obtain ⟨hi18, hf⟩ := ix_e hf
          refine va_iald hx hb hK hP 18 0 rfl rfl hi18 dX6_addUpAhead_19 ?_
          refine lv_aload_n hx hb dX6_addUpAhead_20 rfl (lv_at hl 0 rfl) ?_
          refine lv_iload_n hx hb dX6_addUpAhead_21 rfl (lv_at hl 1 rfl) ?_
          refine lv_iload_n hx hb dX6_addUpAhead_22 rfl (lv_at hl 2 rfl) ?_
          obtain ⟨o19, ho19, hf⟩ := ob_e hf
          refine w_callR (b := a 6) (As := [.int x_1, .int x_2]) (rest := [.int (st.2 10 (Int32.toNatClampNeg x_2))]) ⟨hx, hb, hml, hown, hts⟩ (c_X6_missOf l D cI a tb st x_1 x_2 o19 ho19) (cwV 2 hts gX6_addUpAhead_X6_missOf rfl rfl rfl (by decide +kernel) ⟨Nat.le_of_ble_eq_true rfl, Nat.le_of_ble_eq_true rfl⟩) hP hK hD hZ hS (va_recv hK hP (ci := 5) (q0 := 6) rfl rfl) rfl hl.1 rfl (Nat.le_of_ble_eq_true rfl) ⟨Nat.zero_le _, Nat.zero_le _⟩ dX6_addUpAhead_23 ?_
          refine lv_iadd hx hb dX6_addUpAhead_26 ?_
          refine lv_goto (tgt := 31) hx hb dX6_addUpAhead_27 (by decide) ?_
          obtain ⟨x20, ex20, hf⟩ := bnd_e hf
          refine w_nm ex20 ?_
          refine lv_istore_n (lv' := [(3, .int x20), (0, .ref (a 6)), (1, .int x_1), (2, .int x_2)]) hx hb dX6_addUpAhead_31 rfl hl (by decide) rfl (fun ls hl => ?_)
          refine lv_iconst (v := 0) hx hb dX6_addUpAhead_32 (by decide) ?_
          refine lv_istore (lv' := [(4, .int 0), (3, .int x20), (0, .ref (a 6)), (1, .int x_1), (2, .int x_2)]) hx hb dX6_addUpAhead_33 hl (by decide) rfl (fun ls hl => ?_)
          obtain ⟨o21, ho21, hf⟩ := ob_e hf
          refine l35 1000 x_1 x_2 x20 0 st _ _ _ hP hS (lv_sub hl [2, 3, 4, 1, 0] rfl) _ ho21 ?_
          intro H locs ls hP hS hl
          have hl : lv_has ls 6 [(0, .ref (a 6)), (1, .int x_1), (2, .int x_2), (3, .int o21)] := hl
          refine lv_aload_n hx hb dX6_addUpAhead_96 rfl (lv_at hl 0 rfl) ?_
          refine va_get (D := D) (ci := 5) (v := .ref (a 20)) (C := RX6) (T := TX6) (N := 8) hx hb hts hiX6 hown hK hP 6 rfl rfl 3 (by decide) k22 (fun _ h9 => h9) rfl dX6_addUpAhead_97 ?_
          refine lv_iload_n hx hb dX6_addUpAhead_100 rfl (lv_at hl 1 rfl) ?_
          refine lv_bipush (v := 8) hx hb dX6_addUpAhead_101 (by decide) ?_
          refine lv_imul hx hb dX6_addUpAhead_103 ?_
          refine lv_iload_n hx hb dX6_addUpAhead_104 rfl (lv_at hl 2 rfl) ?_
          refine lv_iadd hx hb dX6_addUpAhead_105 ?_
          refine lv_iload_n hx hb dX6_addUpAhead_106 rfl (lv_at hl 3 rfl) ?_
          obtain ⟨x22, ex22, hf⟩ := bnd_e hf
          refine w_nm2 ex22 ?_
          obtain ⟨hi23, hf⟩ := ix_e hf
          obtain ⟨s24, es24, hf⟩ := bnd_e hf
          refine va_iast hx hb hK hP (hD st) hS 20 0 rfl rfl hi23 dX6_addUpAhead_107 (fun H locs hP _ hS => ?_)
          have hP : va_P D vwCl (cw cI a s24) H := by rw [es24]; exact hP
          obtain ⟨x25, ex25, hf⟩ := bnd_e hf
          refine lv_iinc (v := x25) (lv' := [(2, .int x25), (0, .ref (a 6)), (1, .int x_1), (3, .int o21)]) hx hb dX6_addUpAhead_108 hl (k := 2) rfl (by rw [ex25]; rfl) (by decide) rfl (fun ls hl => ?_)
          refine lv_goto (tgt := 2) hx hb dX6_addUpAhead_111 (by decide) ?_
          exact ih2 x_1 x25 s24 _ _ _ hP hS (lv_sub hl [1, 2, 0] rfl) hf
  unfold fX6_addUpAhead at hf
  refine lv_iconst (v := 0) hx hb dX6_addUpAhead_0 (by decide) ?_
  refine lv_istore_n (lv' := [(2, .int 0), (0, .ref (a 6)), (1, .int p1)]) hx hb dX6_addUpAhead_1 rfl hl (by decide) rfl (fun ls hl => ?_)
  exact l2 1000 p1 0 st _ _ _ hP hS (lv_sub hl [1, 2, 0] rfl) hf
set_option maxHeartbeats 4000000 in
set_option maxRecDepth 100000 in
theorem c_X6_addUpBehind (l : Launch) (D : va_G) (cI : ClassId) (a tb : Nat → Nat) (st : ST) (p1 : Int32) (r : ST) (hf : fX6_addUpBehind st p1 = some r) : MetV l yX6_addUpBehind wsX6_addUpBehind ({ frames := 3, cells := 0, slots := 0, locals := 72 }) [.ref (a 6), .int p1] D [(cI, .int)] (cw cI a) (cA a) tb st r := by
  refine met_of (cc := cX6_addUpBehind) (maxL := 6) (ret := none) (by decide) rfl (Nat.le_of_ble_eq_true rfl) ?_
  intro p e s m below meth c hx hb hr hml hts hown hlk hG ls hl
  have hown : s.vm.findClass RX6 = some m.cls := hown
  obtain ⟨hP, hK, hD, hZ⟩ := hG
  have hS : va_S (cA a) s.heap s.heap [] := va_S.rf
  have hl : lv_has ls 6 [(0, .ref (a 6)), (1, .int p1)] := hl
  have hiX6 : ∀ w ∈ wsX60, w ∈ wsX6_addUpBehind := by decide +kernel
  have k25 := hts (.fieldLink RX6 25 "DayColumn$Ways" "behind" "[I") (by decide +kernel)
  have k31 := hts (.fieldLink RX6 31 "DayColumn$Ways" "rows" "I") (by decide +kernel)
  have k35 := hts (.fieldLink RX6 35 "DayColumn$Ways" "styles" "I") (by decide +kernel)
  have l29 : ∀ (n : Nat) (x_1 x_2 x_3 x_4 : Int32) (st : ST) (H : Heap) (locs : List Loc) (ls : Array Slot), va_P D vwCl (cw cI a st) H → va_S (cA a) s.heap H locs → lv_has ls 6 [(0, .ref (a 6)), (1, .int x_1), (2, .int x_2), (3, .int x_3), (4, .int x_4)] → ∀ (o : Int32), fX6_addUpBehind_29 n st x_1 x_2 x_3 x_4 = some o → (∀ (H : Heap) (locs : List Loc) (ls : Array Slot), va_P D vwCl (cw cI a st) H → va_S (cA a) s.heap H locs → lv_has ls 6 [(0, .ref (a 6)), (1, .int x_1), (2, .int x_2), (3, .int o)] → W p l e ({ frames := 3, cells := 0, slots := 0, locals := 72 }) s m ([.ref (a 6), .int p1] : List Value).toArray below meth c H locs 0 0 (MQ below (va_Qv (fun (u : ST) => u = r) (fun u t => va_P D vwCl (cw cI a u) t.heap) (cA a)) ([.ref (a 6), .int p1] : List Value).toArray s 0 0 (cA a)) (F0 m 98 ls [])) → W p l e ({ frames := 3, cells := 0, slots := 0, locals := 72 }) s m ([.ref (a 6), .int p1] : List Value).toArray below meth c H locs 0 0 (MQ below (va_Qv (fun (u : ST) => u = r) (fun u t => va_P D vwCl (cw cI a u) t.heap) (cA a)) ([.ref (a 6), .int p1] : List Value).toArray s 0 0 (cA a)) (F0 m 29 ls []) := by
    intro n
    induction n with
    | zero =>
      intro x_1 x_2 x_3 x_4 st H locs ls hP hS hl o hf kk
      cases hf
    | succ n ih29 =>
      intro x_1 x_2 x_3 x_4 st H locs ls hP hS hl o hf kk
      unfold fX6_addUpBehind_29 at hf
      refine lv_iload hx hb dX6_addUpBehind_29 (lv_at hl 4 rfl) ?_
      refine lv_aload_n hx hb dX6_addUpBehind_31 rfl (lv_at hl 0 rfl) ?_
      refine va_get (D := D) (ci := 5) (v := .int (st.1 14)) (C := RX6) (T := TX6) (N := 8) hx hb hts hiX6 hown hK hP 6 rfl rfl 7 (by decide) k35 (fun _ h9 => h9) rfl dX6_addUpBehind_32 ?_
      refine lv_icmp_ge (tgt := 98) hx hb dX6_addUpBehind_35 (by decide) (fun c1 => ?_) (fun c1 => ?_)
      · replace hf := if_t hf c1
        obtain rfl := so_i hf
        exact kk _ _ _ hP hS (lv_sub hl [0, 1, 2, 3] rfl)
      · replace hf := if_f hf c1
        refine lv_iload_n hx hb dX6_addUpBehind_38 rfl (lv_at hl 1 rfl) ?_
        refine lv_aload_n hx hb dX6_addUpBehind_39 rfl (lv_at hl 0 rfl) ?_
        refine va_get (D := D) (ci := 5) (v := .int (st.1 13)) (C := RX6) (T := TX6) (N := 8) hx hb hts hiX6 hown hK hP 6 rfl rfl 6 (by decide) k31 (fun _ h9 => h9) rfl dX6_addUpBehind_40 ?_
        refine lv_iconst (v := 1) hx hb dX6_addUpBehind_43 (by decide) ?_
        refine lv_isub hx hb dX6_addUpBehind_44 ?_
        refine lv_icmp_ge (tgt := 98) hx hb dX6_addUpBehind_45 (by decide) (fun c2 => ?_) (fun c2 => ?_)
        · replace hf := if_t hf c2
          obtain rfl := so_i hf
          exact kk _ _ _ hP hS (lv_sub hl [0, 1, 2, 3] rfl)
        · replace hf := if_f hf c2
          refine lv_aload_n hx hb dX6_addUpBehind_48 rfl (lv_at hl 0 rfl) ?_
          refine lv_iload_n hx hb dX6_addUpBehind_49 rfl (lv_at hl 1 rfl) ?_
          refine lv_iconst (v := 1) hx hb dX6_addUpBehind_50 (by decide) ?_
          refine lv_iadd hx hb dX6_addUpBehind_51 ?_
          refine lv_iload_n hx hb dX6_addUpBehind_52 rfl (lv_at hl 2 rfl) ?_
          refine lv_iload hx hb dX6_addUpBehind_53 (lv_at hl 4 rfl) ?_
          obtain ⟨o3, ho3, hf⟩ := ob_e hf
          refine w_callR (b := a 6) (As := [.int (x_1 + 1), .int x_2, .int x_4]) (rest := []) ⟨hx, hb, hml, hown, hts⟩ (c_X6_step l D cI a tb st (x_1 + 1) x_2 x_4 o3 ho3) (cwV 3 hts gX6_addUpBehind_X6_step rfl rfl rfl (by decide +kernel) ⟨Nat.le_of_ble_eq_true rfl, Nat.le_of_ble_eq_true rfl⟩) hP hK hD hZ hS (va_recv hK hP (ci := 5) (q0 := 6) rfl rfl) rfl hl.1 rfl (Nat.le_of_ble_eq_true rfl) ⟨Nat.zero_le _, Nat.zero_le _⟩ dX6_addUpBehind_55 ?_
          refine lv_aload_n hx hb dX6_addUpBehind_58 rfl (lv_at hl 0 rfl) ?_
          refine va_get (D := D) (ci := 5) (v := .ref (a 21)) (C := RX6) (T := TX6) (N := 8) hx hb hts hiX6 hown hK hP 6 rfl rfl 4 (by decide) k25 (fun _ h9 => h9) rfl dX6_addUpBehind_59 ?_
          refine lv_iload_n hx hb dX6_addUpBehind_62 rfl (lv_at hl 1 rfl) ?_
          refine lv_iconst (v := 1) hx hb dX6_addUpBehind_63 (by decide) ?_
          refine lv_iadd hx hb dX6_addUpBehind_64 ?_
          refine lv_bipush (v := 8) hx hb dX6_addUpBehind_65 (by decide) ?_
          refine lv_imul hx hb dX6_addUpBehind_67 ?_
          refine lv_iload hx hb dX6_addUpBehind_68 (lv_at hl 4 rfl) ?_
          refine lv_iadd hx hb dX6_addUpBehind_70 ?_
          obtain ⟨x4, ex4, hf⟩ := bnd_e hf
          refine w_nm ex4 ?_
          obtain ⟨hi5, hf⟩ := ix_e hf
          refine va_iald hx hb hK hP 21 0 rfl rfl hi5 dX6_addUpBehind_71 ?_
          refine lv_iadd hx hb dX6_addUpBehind_72 ?_
          obtain ⟨x6, ex6, hf⟩ := bnd_e hf
          refine w_nm ex6 ?_
          refine lv_istore (lv' := [(5, .int x6), (0, .ref (a 6)), (1, .int x_1), (2, .int x_2), (3, .int x_3), (4, .int x_4)]) hx hb dX6_addUpBehind_73 hl (by decide) rfl (fun ls hl => ?_)
          refine lv_iload_n hx hb dX6_addUpBehind_75 rfl (lv_at hl 4 rfl) ?_
          refine lv_iconst (v := -1) hx hb dX6_addUpBehind_76 (by decide) ?_
          refine lv_icmp_ne (tgt := 85) hx hb dX6_addUpBehind_77 (by decide) (fun c7 => ?_) (fun c7 => ?_)
          · replace hf := if_f hf c7
            refine lv_iload_n hx hb dX6_addUpBehind_85 rfl (lv_at hl 4 rfl) ?_
            refine lv_iload hx hb dX6_addUpBehind_86 (lv_at hl 0 rfl) ?_
            refine va_mmin hx hb (by rw [hml]; exact hl.1.symm) hown (hts (.methodLink RX6 38 Lib.Math.min.name) (by decide +kernel)) (hts (.static Lib.Math.min.name) (by decide +kernel)) (hts (.initialized "java/lang/Math") (by decide +kernel)) (hts (.code Lib.Math.min.name Lib.Math.min.code 2 (some .int)) (by decide +kernel)) (Nat.le_of_ble_eq_true rfl) (Nat.le_of_ble_eq_true rfl) (Nat.zero_le _) (Nat.zero_le _) dX6_addUpBehind_88 ?_
            obtain ⟨x8, ex8, hf⟩ := bnd_e hf
            refine w_nm ex8 ?_
            refine lv_istore_n (lv' := [(3, .int x8), (5, .int x6), (0, .ref (a 6)), (1, .int x_1), (2, .int x_2), (4, .int x_4)]) hx hb dX6_addUpBehind_91 rfl hl (by decide) rfl (fun ls hl => ?_)
            obtain ⟨x9, ex9, hf⟩ := bnd_e hf
            refine lv_iinc (v := x9) (lv' := [(4, .int x9), (3, .int x8), (5, .int x6), (0, .ref (a 6)), (1, .int x_1), (2, .int x_2)]) hx hb dX6_addUpBehind_92 hl (k := 5) rfl (by rw [ex9]; rfl) (by decide) rfl (fun ls hl => ?_)
            refine lv_goto (tgt := 29) hx hb dX6_addUpBehind_95 (by decide) ?_
            exact ih29 x_1 x_2 x8 x9 st _ _ _ hP hS (lv_sub hl [3, 4, 5, 1, 0] rfl) _ hf kk
          · replace hf := if_t hf c7
            refine lv_iload hx hb dX6_addUpBehind_80 (lv_at hl 0 rfl) ?_
            refine lv_goto (tgt := 91) hx hb dX6_addUpBehind_82 (by decide) ?_
            refine lv_istore_n (lv' := [(3, .int x6), (5, .int x6), (0, .ref (a 6)), (1, .int x_1), (2, .int x_2), (4, .int x_4)]) hx hb dX6_addUpBehind_91 rfl hl (by decide) rfl (fun ls hl => ?_)
            obtain ⟨x10, ex10, hf⟩ := bnd_e hf
            refine lv_iinc (v := x10) (lv' := [(4, .int x10), (3, .int x6), (5, .int x6), (0, .ref (a 6)), (1, .int x_1), (2, .int x_2)]) hx hb dX6_addUpBehind_92 hl (k := 5) rfl (by rw [ex10]; rfl) (by decide) rfl (fun ls hl => ?_)
            refine lv_goto (tgt := 29) hx hb dX6_addUpBehind_95 (by decide) ?_
            exact ih29 x_1 x_2 x6 x10 st _ _ _ hP hS (lv_sub hl [3, 4, 5, 1, 0] rfl) _ hf kk
  have l2 : ∀ (n : Nat) (x_1 x_2 : Int32) (st : ST) (H : Heap) (locs : List Loc) (ls : Array Slot), va_P D vwCl (cw cI a st) H → va_S (cA a) s.heap H locs → lv_has ls 6 [(0, .ref (a 6)), (1, .int x_1), (2, .int x_2)] → fX6_addUpBehind_2 n st x_1 x_2 = some r → W p l e ({ frames := 3, cells := 0, slots := 0, locals := 72 }) s m ([.ref (a 6), .int p1] : List Value).toArray below meth c H locs 0 0 (MQ below (va_Qv (fun (u : ST) => u = r) (fun u t => va_P D vwCl (cw cI a u) t.heap) (cA a)) ([.ref (a 6), .int p1] : List Value).toArray s 0 0 (cA a)) (F0 m 2 ls []) := by
    intro n
    induction n with
    | zero =>
      intro x_1 x_2 st H locs ls hP hS hl hf
      cases hf
    | succ n ih2 =>
      intro x_1 x_2 st H locs ls hP hS hl hf
      unfold fX6_addUpBehind_2 at hf
      refine lv_iload_n hx hb dX6_addUpBehind_2 rfl (lv_at hl 2 rfl) ?_
      refine lv_aload_n hx hb dX6_addUpBehind_3 rfl (lv_at hl 0 rfl) ?_
      refine va_get (D := D) (ci := 5) (v := .int (st.1 14)) (C := RX6) (T := TX6) (N := 8) hx hb hts hiX6 hown hK hP 6 rfl rfl 7 (by decide) k35 (fun _ h9 => h9) rfl dX6_addUpBehind_4 ?_
      refine lv_icmp_ge (tgt := 116) hx hb dX6_addUpBehind_7 (by decide) (fun c11 => ?_) (fun c11 => ?_)
      · replace hf := if_t hf c11
        exact W.vret hx hb hr (fun t ht _ => ⟨⟨st, rfl, so_i hf, p_at ht hP⟩, hS.F ht⟩) hS.2.2 dX6_addUpBehind_116
      · replace hf := if_f hf c11
        refine lv_iload_n hx hb dX6_addUpBehind_10 rfl (lv_at hl 1 rfl) ?_
        refine lv_aload_n hx hb dX6_addUpBehind_11 rfl (lv_at hl 0 rfl) ?_
        refine va_get (D := D) (ci := 5) (v := .int (st.1 13)) (C := RX6) (T := TX6) (N := 8) hx hb hts hiX6 hown hK hP 6 rfl rfl 6 (by decide) k31 (fun _ h9 => h9) rfl dX6_addUpBehind_12 ?_
        refine lv_iconst (v := 1) hx hb dX6_addUpBehind_15 (by decide) ?_
        refine lv_isub hx hb dX6_addUpBehind_16 ?_
        refine lv_icmp_ne (tgt := 24) hx hb dX6_addUpBehind_17 (by decide) (fun c12 => ?_) (fun c12 => ?_)
        · replace hf := if_f hf c12
          refine lv_iconst (v := -1) hx hb dX6_addUpBehind_24 (by decide) ?_
          refine lv_istore_n (lv' := [(3, .int (-1)), (0, .ref (a 6)), (1, .int x_1), (2, .int x_2)]) hx hb dX6_addUpBehind_25 rfl hl (by decide) rfl (fun ls hl => ?_)
          refine lv_iconst (v := 0) hx hb dX6_addUpBehind_26 (by decide) ?_
          refine lv_istore (lv' := [(4, .int 0), (3, .int (-1)), (0, .ref (a 6)), (1, .int x_1), (2, .int x_2)]) hx hb dX6_addUpBehind_27 hl (by decide) rfl (fun ls hl => ?_)
          obtain ⟨o13, ho13, hf⟩ := ob_e hf
          refine l29 1000 x_1 x_2 (-1) 0 st _ _ _ hP hS (lv_sub hl [2, 3, 4, 1, 0] rfl) _ ho13 ?_
          intro H locs ls hP hS hl
          have hl : lv_has ls 6 [(0, .ref (a 6)), (1, .int x_1), (2, .int x_2), (3, .int o13)] := hl
          refine lv_aload_n hx hb dX6_addUpBehind_98 rfl (lv_at hl 0 rfl) ?_
          refine va_get (D := D) (ci := 5) (v := .ref (a 21)) (C := RX6) (T := TX6) (N := 8) hx hb hts hiX6 hown hK hP 6 rfl rfl 4 (by decide) k25 (fun _ h9 => h9) rfl dX6_addUpBehind_99 ?_
          refine lv_iload_n hx hb dX6_addUpBehind_102 rfl (lv_at hl 1 rfl) ?_
          refine lv_bipush (v := 8) hx hb dX6_addUpBehind_103 (by decide) ?_
          refine lv_imul hx hb dX6_addUpBehind_105 ?_
          refine lv_iload_n hx hb dX6_addUpBehind_106 rfl (lv_at hl 2 rfl) ?_
          refine lv_iadd hx hb dX6_addUpBehind_107 ?_
          refine lv_iload_n hx hb dX6_addUpBehind_108 rfl (lv_at hl 3 rfl) ?_
          obtain ⟨x14, ex14, hf⟩ := bnd_e hf
          refine w_nm2 ex14 ?_
          obtain ⟨hi15, hf⟩ := ix_e hf
          obtain ⟨s16, es16, hf⟩ := bnd_e hf
          refine va_iast hx hb hK hP (hD st) hS 21 0 rfl rfl hi15 dX6_addUpBehind_109 (fun H locs hP _ hS => ?_)
          have hP : va_P D vwCl (cw cI a s16) H := by rw [es16]; exact hP
          obtain ⟨x17, ex17, hf⟩ := bnd_e hf
          refine lv_iinc (v := x17) (lv' := [(2, .int x17), (0, .ref (a 6)), (1, .int x_1), (3, .int o13)]) hx hb dX6_addUpBehind_110 hl (k := 2) rfl (by rw [ex17]; rfl) (by decide) rfl (fun ls hl => ?_)
          refine lv_goto (tgt := 2) hx hb dX6_addUpBehind_113 (by decide) ?_
          exact ih2 x_1 x17 s16 _ _ _ hP hS (lv_sub hl [1, 2, 0] rfl) hf
        · replace hf := if_t hf c12
          refine lv_iconst (v := 0) hx hb dX6_addUpBehind_20 (by decide) ?_
          refine lv_goto (tgt := 25) hx hb dX6_addUpBehind_21 (by decide) ?_
          refine lv_istore_n (lv' := [(3, .int 0), (0, .ref (a 6)), (1, .int x_1), (2, .int x_2)]) hx hb dX6_addUpBehind_25 rfl hl (by decide) rfl (fun ls hl => ?_)
          refine lv_iconst (v := 0) hx hb dX6_addUpBehind_26 (by decide) ?_
          refine lv_istore (lv' := [(4, .int 0), (3, .int 0), (0, .ref (a 6)), (1, .int x_1), (2, .int x_2)]) hx hb dX6_addUpBehind_27 hl (by decide) rfl (fun ls hl => ?_)
          obtain ⟨o18, ho18, hf⟩ := ob_e hf
          refine l29 1000 x_1 x_2 0 0 st _ _ _ hP hS (lv_sub hl [2, 3, 4, 1, 0] rfl) _ ho18 ?_
          intro H locs ls hP hS hl
          have hl : lv_has ls 6 [(0, .ref (a 6)), (1, .int x_1), (2, .int x_2), (3, .int o18)] := hl
          refine lv_aload_n hx hb dX6_addUpBehind_98 rfl (lv_at hl 0 rfl) ?_
          refine va_get (D := D) (ci := 5) (v := .ref (a 21)) (C := RX6) (T := TX6) (N := 8) hx hb hts hiX6 hown hK hP 6 rfl rfl 4 (by decide) k25 (fun _ h9 => h9) rfl dX6_addUpBehind_99 ?_
          refine lv_iload_n hx hb dX6_addUpBehind_102 rfl (lv_at hl 1 rfl) ?_
          refine lv_bipush (v := 8) hx hb dX6_addUpBehind_103 (by decide) ?_
          refine lv_imul hx hb dX6_addUpBehind_105 ?_
          refine lv_iload_n hx hb dX6_addUpBehind_106 rfl (lv_at hl 2 rfl) ?_
          refine lv_iadd hx hb dX6_addUpBehind_107 ?_
          refine lv_iload_n hx hb dX6_addUpBehind_108 rfl (lv_at hl 3 rfl) ?_
          obtain ⟨x19, ex19, hf⟩ := bnd_e hf
          refine w_nm2 ex19 ?_
          obtain ⟨hi20, hf⟩ := ix_e hf
          obtain ⟨s21, es21, hf⟩ := bnd_e hf
          refine va_iast hx hb hK hP (hD st) hS 21 0 rfl rfl hi20 dX6_addUpBehind_109 (fun H locs hP _ hS => ?_)
          have hP : va_P D vwCl (cw cI a s21) H := by rw [es21]; exact hP
          obtain ⟨x22, ex22, hf⟩ := bnd_e hf
          refine lv_iinc (v := x22) (lv' := [(2, .int x22), (0, .ref (a 6)), (1, .int x_1), (3, .int o18)]) hx hb dX6_addUpBehind_110 hl (k := 2) rfl (by rw [ex22]; rfl) (by decide) rfl (fun ls hl => ?_)
          refine lv_goto (tgt := 2) hx hb dX6_addUpBehind_113 (by decide) ?_
          exact ih2 x_1 x22 s21 _ _ _ hP hS (lv_sub hl [1, 2, 0] rfl) hf
  unfold fX6_addUpBehind at hf
  refine lv_iconst (v := 0) hx hb dX6_addUpBehind_0 (by decide) ?_
  refine lv_istore_n (lv' := [(2, .int 0), (0, .ref (a 6)), (1, .int p1)]) hx hb dX6_addUpBehind_1 rfl hl (by decide) rfl (fun ls hl => ?_)
  exact l2 1000 p1 0 st _ _ _ hP hS (lv_sub hl [1, 2, 0] rfl) hf
set_option maxHeartbeats 4000000 in
set_option maxRecDepth 100000 in
theorem c_X6_cheapestStyle (l : Launch) (D : va_G) (cI : ClassId) (a tb : Nat → Nat) (st : ST) (p1 : Int32) (r : Int32) (hf : fX6_cheapestStyle st p1 = some r) : MetR l yX6_cheapestStyle wsX6_cheapestStyle ({ frames := 3, cells := 0, slots := 0, locals := 72 }) [.ref (a 6), .int p1] D [(cI, .int)] (cw cI a) (cA a) tb st r := by
  refine met_of (cc := cX6_cheapestStyle) (maxL := 7) (ret := (some .int)) (by decide) rfl (Nat.le_of_ble_eq_true rfl) ?_
  intro p e s m below meth c hx hb hr hml hts hown hlk hG ls hl
  have hown : s.vm.findClass RX6 = some m.cls := hown
  obtain ⟨hP, hK, hD, hZ⟩ := hG
  have hS : va_S (cA a) s.heap s.heap [] := va_S.rf
  have hl : lv_has ls 7 [(0, .ref (a 6)), (1, .int p1)] := hl
  have hiX6 : ∀ w ∈ wsX60, w ∈ wsX6_cheapestStyle := by decide +kernel
  have k15 := hts (.fieldLink RX6 15 "DayColumn$Ways" "costs" "[I") (by decide +kernel)
  have k25 := hts (.fieldLink RX6 25 "DayColumn$Ways" "behind" "[I") (by decide +kernel)
  have k28 := hts (.fieldLink RX6 28 "DayColumn$Ways" "best" "[I") (by decide +kernel)
  have k35 := hts (.fieldLink RX6 35 "DayColumn$Ways" "styles" "I") (by decide +kernel)
  have l7 : ∀ (n : Nat) (x_1 x_2 x_3 x_4 : Int32) (ls : Array Slot), lv_has ls 7 [(0, .ref (a 6)), (1, .int x_1), (2, .int x_2), (3, .int x_3), (4, .int x_4)] → fX6_cheapestStyle_7 n st x_1 x_2 x_3 x_4 = some r → W p l e ({ frames := 3, cells := 0, slots := 0, locals := 72 }) s m ([.ref (a 6), .int p1] : List Value).toArray below meth c s.heap [] 0 0 (MQ below (vp_Si (fun z => z = r)) ([.ref (a 6), .int p1] : List Value).toArray s 0 0 (fun _ => False)) (F0 m 7 ls []) := by
    intro n
    induction n with
    | zero =>
      intro x_1 x_2 x_3 x_4 ls hl hf
      cases hf
    | succ n ih7 =>
      intro x_1 x_2 x_3 x_4 ls hl hf
      unfold fX6_cheapestStyle_7 at hf
      refine lv_iload hx hb dX6_cheapestStyle_7 (lv_at hl 4 rfl) ?_
      refine lv_aload_n hx hb dX6_cheapestStyle_9 rfl (lv_at hl 0 rfl) ?_
      refine va_get (D := D) (ci := 5) (v := .int (st.1 14)) (C := RX6) (T := TX6) (N := 8) hx hb hts hiX6 hown hK hP 6 rfl rfl 7 (by decide) k35 (fun _ h9 => h9) rfl dX6_cheapestStyle_10 ?_
      refine lv_icmp_ge (tgt := 95) hx hb dX6_cheapestStyle_13 (by decide) (fun c1 => ?_) (fun c1 => ?_)
      · replace hf := if_t hf c1
        refine lv_iload_n hx hb dX6_cheapestStyle_95 rfl (lv_at hl 2 rfl) ?_
        exact W.iret (v := x_2) hx hb hr (fun t ht _ => ⟨x_2, rfl, so_i hf, ht⟩) (fun _ h => by cases h) dX6_cheapestStyle_96
      · replace hf := if_f hf c1
        refine lv_iload_n hx hb dX6_cheapestStyle_16 rfl (lv_at hl 1 rfl) ?_
        refine lv_if_ne (tgt := 38) hx hb dX6_cheapestStyle_17 (by decide) (fun c2 => ?_) (fun c2 => ?_)
        · replace hf := if_f hf c2
          refine lv_aload_n hx hb dX6_cheapestStyle_38 rfl (lv_at hl 0 rfl) ?_
          refine lv_iload_n hx hb dX6_cheapestStyle_39 rfl (lv_at hl 1 rfl) ?_
          refine lv_aload_n hx hb dX6_cheapestStyle_40 rfl (lv_at hl 0 rfl) ?_
          refine va_get (D := D) (ci := 5) (v := .ref (a 22)) (C := RX6) (T := TX6) (N := 8) hx hb hts hiX6 hown hK hP 6 rfl rfl 5 (by decide) k28 (fun _ h9 => h9) rfl dX6_cheapestStyle_41 ?_
          refine lv_iload_n hx hb dX6_cheapestStyle_44 rfl (lv_at hl 1 rfl) ?_
          refine lv_iconst (v := 1) hx hb dX6_cheapestStyle_45 (by decide) ?_
          refine lv_isub hx hb dX6_cheapestStyle_46 ?_
          obtain ⟨x3, ex3, hf⟩ := bnd_e hf
          refine w_nm ex3 ?_
          obtain ⟨hi4, hf⟩ := ix_e hf
          refine va_iald hx hb hK hP 22 0 rfl rfl hi4 dX6_cheapestStyle_47 ?_
          refine lv_iload hx hb dX6_cheapestStyle_48 (lv_at hl 4 rfl) ?_
          obtain ⟨o5, ho5, hf⟩ := ob_e hf
          refine w_callR (b := a 6) (As := [.int x_1, .int (st.2 14 (Int32.toNatClampNeg x3)), .int x_4]) (rest := []) ⟨hx, hb, hml, hown, hts⟩ (c_X6_step l D cI a tb st x_1 (st.2 14 (Int32.toNatClampNeg x3)) x_4 o5 ho5) (cwV 3 hts gX6_cheapestStyle_X6_step rfl rfl rfl (by decide +kernel) ⟨Nat.le_of_ble_eq_true rfl, Nat.le_of_ble_eq_true rfl⟩) hP hK hD hZ hS (va_recv hK hP (ci := 5) (q0 := 6) rfl rfl) rfl hl.1 rfl (Nat.le_of_ble_eq_true rfl) ⟨Nat.zero_le _, Nat.zero_le _⟩ dX6_cheapestStyle_50 ?_
          refine lv_istore (lv' := [(5, .int o5), (0, .ref (a 6)), (1, .int x_1), (2, .int x_2), (3, .int x_3), (4, .int x_4)]) hx hb dX6_cheapestStyle_53 hl (by decide) rfl (fun ls hl => ?_)
          refine lv_iload hx hb dX6_cheapestStyle_55 (lv_at hl 0 rfl) ?_
          refine lv_aload_n hx hb dX6_cheapestStyle_57 rfl (lv_at hl 1 rfl) ?_
          refine va_get (D := D) (ci := 5) (v := .ref (a 21)) (C := RX6) (T := TX6) (N := 8) hx hb hts hiX6 hown hK hP 6 rfl rfl 4 (by decide) k25 (fun _ h9 => h9) rfl dX6_cheapestStyle_58 ?_
          refine lv_iload_n hx hb dX6_cheapestStyle_61 rfl (lv_at hl 2 rfl) ?_
          refine lv_bipush (v := 8) hx hb dX6_cheapestStyle_62 (by decide) ?_
          refine lv_imul hx hb dX6_cheapestStyle_64 ?_
          refine lv_iload hx hb dX6_cheapestStyle_65 (lv_at hl 5 rfl) ?_
          refine lv_iadd hx hb dX6_cheapestStyle_67 ?_
          obtain ⟨x6, ex6, hf⟩ := bnd_e hf
          refine w_nm ex6 ?_
          obtain ⟨hi7, hf⟩ := ix_e hf
          refine va_iald hx hb hK hP 21 0 rfl rfl hi7 dX6_cheapestStyle_68 ?_
          refine lv_iadd hx hb dX6_cheapestStyle_69 ?_
          obtain ⟨x8, ex8, hf⟩ := bnd_e hf
          refine w_nm ex8 ?_
          refine lv_istore (lv' := [(6, .int x8), (5, .int o5), (0, .ref (a 6)), (1, .int x_1), (2, .int x_2), (3, .int x_3), (4, .int x_4)]) hx hb dX6_cheapestStyle_70 hl (by decide) rfl (fun ls hl => ?_)
          refine lv_iload_n hx hb dX6_cheapestStyle_72 rfl (lv_at hl 5 rfl) ?_
          refine lv_iconst (v := -1) hx hb dX6_cheapestStyle_73 (by decide) ?_
          refine lv_icmp_eq (tgt := 83) hx hb dX6_cheapestStyle_74 (by decide) (fun c9 => ?_) (fun c9 => ?_)
          · replace hf := if_t hf c9
            refine lv_iload hx hb dX6_cheapestStyle_83 (lv_at hl 0 rfl) ?_
            refine lv_istore_n (lv' := [(3, .int x8), (6, .int x8), (5, .int o5), (0, .ref (a 6)), (1, .int x_1), (2, .int x_2), (4, .int x_4)]) hx hb dX6_cheapestStyle_85 rfl hl (by decide) rfl (fun ls hl => ?_)
            refine lv_iload hx hb dX6_cheapestStyle_86 (lv_at hl 6 rfl) ?_
            refine lv_istore_n (lv' := [(2, .int x_4), (3, .int x8), (6, .int x8), (5, .int o5), (0, .ref (a 6)), (1, .int x_1), (4, .int x_4)]) hx hb dX6_cheapestStyle_88 rfl hl (by decide) rfl (fun ls hl => ?_)
            obtain ⟨x10, ex10, hf⟩ := bnd_e hf
            refine lv_iinc (v := x10) (lv' := [(4, .int x10), (2, .int x_4), (3, .int x8), (6, .int x8), (5, .int o5), (0, .ref (a 6)), (1, .int x_1)]) hx hb dX6_cheapestStyle_89 hl (k := 6) rfl (by rw [ex10]; rfl) (by decide) rfl (fun ls hl => ?_)
            refine lv_goto (tgt := 7) hx hb dX6_cheapestStyle_92 (by decide) ?_
            exact ih7 x_1 x_4 x8 x10 _ (lv_sub hl [5, 6, 1, 2, 0] rfl) hf
          · replace hf := if_f hf c9
            refine lv_iload hx hb dX6_cheapestStyle_77 (lv_at hl 0 rfl) ?_
            refine lv_iload_n hx hb dX6_cheapestStyle_79 rfl (lv_at hl 5 rfl) ?_
            refine lv_icmp_ge (tgt := 89) hx hb dX6_cheapestStyle_80 (by decide) (fun c11 => ?_) (fun c11 => ?_)
            · replace hf := if_t hf c11
              obtain ⟨x12, ex12, hf⟩ := bnd_e hf
              refine lv_iinc (v := x12) (lv' := [(4, .int x12), (6, .int x8), (5, .int o5), (0, .ref (a 6)), (1, .int x_1), (2, .int x_2), (3, .int x_3)]) hx hb dX6_cheapestStyle_89 hl (k := 6) rfl (by rw [ex12]; rfl) (by decide) rfl (fun ls hl => ?_)
              refine lv_goto (tgt := 7) hx hb dX6_cheapestStyle_92 (by decide) ?_
              exact ih7 x_1 x_2 x_3 x12 _ (lv_sub hl [3, 4, 5, 6, 0] rfl) hf
            · replace hf := if_f hf c11
              refine lv_iload hx hb dX6_cheapestStyle_83 (lv_at hl 0 rfl) ?_
              refine lv_istore_n (lv' := [(3, .int x8), (6, .int x8), (5, .int o5), (0, .ref (a 6)), (1, .int x_1), (2, .int x_2), (4, .int x_4)]) hx hb dX6_cheapestStyle_85 rfl hl (by decide) rfl (fun ls hl => ?_)
              refine lv_iload hx hb dX6_cheapestStyle_86 (lv_at hl 6 rfl) ?_
              refine lv_istore_n (lv' := [(2, .int x_4), (3, .int x8), (6, .int x8), (5, .int o5), (0, .ref (a 6)), (1, .int x_1), (4, .int x_4)]) hx hb dX6_cheapestStyle_88 rfl hl (by decide) rfl (fun ls hl => ?_)
              obtain ⟨x13, ex13, hf⟩ := bnd_e hf
              refine lv_iinc (v := x13) (lv' := [(4, .int x13), (2, .int x_4), (3, .int x8), (6, .int x8), (5, .int o5), (0, .ref (a 6)), (1, .int x_1)]) hx hb dX6_cheapestStyle_89 hl (k := 6) rfl (by rw [ex13]; rfl) (by decide) rfl (fun ls hl => ?_)
              refine lv_goto (tgt := 7) hx hb dX6_cheapestStyle_92 (by decide) ?_
              exact ih7 x_1 x_4 x8 x13 _ (lv_sub hl [5, 6, 1, 2, 0] rfl) hf
        · replace hf := if_t hf c2
          refine lv_aload_n hx hb dX6_cheapestStyle_20 rfl (lv_at hl 0 rfl) ?_
          refine va_get (D := D) (ci := 5) (v := .ref (a 18)) (C := RX6) (T := TX6) (N := 8) hx hb hts hiX6 hown hK hP 6 rfl rfl 1 (by decide) k15 (fun _ h9 => h9) rfl dX6_cheapestStyle_21 ?_
          refine lv_iload hx hb dX6_cheapestStyle_24 (lv_at hl 4 rfl) ?_
          obtain ⟨hi14, hf⟩ := ix_e hf
          refine va_iald hx hb hK hP 18 0 rfl rfl hi14 dX6_cheapestStyle_26 ?_
          refine lv_aload_n hx hb dX6_cheapestStyle_27 rfl (lv_at hl 0 rfl) ?_
          refine lv_iload_n hx hb dX6_cheapestStyle_28 rfl (lv_at hl 1 rfl) ?_
          refine lv_iload hx hb dX6_cheapestStyle_29 (lv_at hl 4 rfl) ?_
          obtain ⟨o15, ho15, hf⟩ := ob_e hf
          refine w_callR (b := a 6) (As := [.int x_1, .int x_4]) (rest := [.int (st.2 10 (Int32.toNatClampNeg x_4))]) ⟨hx, hb, hml, hown, hts⟩ (c_X6_missOf l D cI a tb st x_1 x_4 o15 ho15) (cwV 2 hts gX6_cheapestStyle_X6_missOf rfl rfl rfl (by decide +kernel) ⟨Nat.le_of_ble_eq_true rfl, Nat.le_of_ble_eq_true rfl⟩) hP hK hD hZ hS (va_recv hK hP (ci := 5) (q0 := 6) rfl rfl) rfl hl.1 rfl (Nat.le_of_ble_eq_true rfl) ⟨Nat.zero_le _, Nat.zero_le _⟩ dX6_cheapestStyle_31 ?_
          refine lv_iadd hx hb dX6_cheapestStyle_34 ?_
          refine lv_goto (tgt := 53) hx hb dX6_cheapestStyle_35 (by decide) ?_
          obtain ⟨x16, ex16, hf⟩ := bnd_e hf
          refine w_nm ex16 ?_
          refine lv_istore (lv' := [(5, .int x16), (0, .ref (a 6)), (1, .int x_1), (2, .int x_2), (3, .int x_3), (4, .int x_4)]) hx hb dX6_cheapestStyle_53 hl (by decide) rfl (fun ls hl => ?_)
          refine lv_iload hx hb dX6_cheapestStyle_55 (lv_at hl 0 rfl) ?_
          refine lv_aload_n hx hb dX6_cheapestStyle_57 rfl (lv_at hl 1 rfl) ?_
          refine va_get (D := D) (ci := 5) (v := .ref (a 21)) (C := RX6) (T := TX6) (N := 8) hx hb hts hiX6 hown hK hP 6 rfl rfl 4 (by decide) k25 (fun _ h9 => h9) rfl dX6_cheapestStyle_58 ?_
          refine lv_iload_n hx hb dX6_cheapestStyle_61 rfl (lv_at hl 2 rfl) ?_
          refine lv_bipush (v := 8) hx hb dX6_cheapestStyle_62 (by decide) ?_
          refine lv_imul hx hb dX6_cheapestStyle_64 ?_
          refine lv_iload hx hb dX6_cheapestStyle_65 (lv_at hl 5 rfl) ?_
          refine lv_iadd hx hb dX6_cheapestStyle_67 ?_
          obtain ⟨x17, ex17, hf⟩ := bnd_e hf
          refine w_nm ex17 ?_
          obtain ⟨hi18, hf⟩ := ix_e hf
          refine va_iald hx hb hK hP 21 0 rfl rfl hi18 dX6_cheapestStyle_68 ?_
          refine lv_iadd hx hb dX6_cheapestStyle_69 ?_
          obtain ⟨x19, ex19, hf⟩ := bnd_e hf
          refine w_nm ex19 ?_
          refine lv_istore (lv' := [(6, .int x19), (5, .int x16), (0, .ref (a 6)), (1, .int x_1), (2, .int x_2), (3, .int x_3), (4, .int x_4)]) hx hb dX6_cheapestStyle_70 hl (by decide) rfl (fun ls hl => ?_)
          refine lv_iload_n hx hb dX6_cheapestStyle_72 rfl (lv_at hl 5 rfl) ?_
          refine lv_iconst (v := -1) hx hb dX6_cheapestStyle_73 (by decide) ?_
          refine lv_icmp_eq (tgt := 83) hx hb dX6_cheapestStyle_74 (by decide) (fun c20 => ?_) (fun c20 => ?_)
          · replace hf := if_t hf c20
            refine lv_iload hx hb dX6_cheapestStyle_83 (lv_at hl 0 rfl) ?_
            refine lv_istore_n (lv' := [(3, .int x19), (6, .int x19), (5, .int x16), (0, .ref (a 6)), (1, .int x_1), (2, .int x_2), (4, .int x_4)]) hx hb dX6_cheapestStyle_85 rfl hl (by decide) rfl (fun ls hl => ?_)
            refine lv_iload hx hb dX6_cheapestStyle_86 (lv_at hl 6 rfl) ?_
            refine lv_istore_n (lv' := [(2, .int x_4), (3, .int x19), (6, .int x19), (5, .int x16), (0, .ref (a 6)), (1, .int x_1), (4, .int x_4)]) hx hb dX6_cheapestStyle_88 rfl hl (by decide) rfl (fun ls hl => ?_)
            obtain ⟨x21, ex21, hf⟩ := bnd_e hf
            refine lv_iinc (v := x21) (lv' := [(4, .int x21), (2, .int x_4), (3, .int x19), (6, .int x19), (5, .int x16), (0, .ref (a 6)), (1, .int x_1)]) hx hb dX6_cheapestStyle_89 hl (k := 6) rfl (by rw [ex21]; rfl) (by decide) rfl (fun ls hl => ?_)
            refine lv_goto (tgt := 7) hx hb dX6_cheapestStyle_92 (by decide) ?_
            exact ih7 x_1 x_4 x19 x21 _ (lv_sub hl [5, 6, 1, 2, 0] rfl) hf
          · replace hf := if_f hf c20
            refine lv_iload hx hb dX6_cheapestStyle_77 (lv_at hl 0 rfl) ?_
            refine lv_iload_n hx hb dX6_cheapestStyle_79 rfl (lv_at hl 5 rfl) ?_
            refine lv_icmp_ge (tgt := 89) hx hb dX6_cheapestStyle_80 (by decide) (fun c22 => ?_) (fun c22 => ?_)
            · replace hf := if_t hf c22
              obtain ⟨x23, ex23, hf⟩ := bnd_e hf
              refine lv_iinc (v := x23) (lv' := [(4, .int x23), (6, .int x19), (5, .int x16), (0, .ref (a 6)), (1, .int x_1), (2, .int x_2), (3, .int x_3)]) hx hb dX6_cheapestStyle_89 hl (k := 6) rfl (by rw [ex23]; rfl) (by decide) rfl (fun ls hl => ?_)
              refine lv_goto (tgt := 7) hx hb dX6_cheapestStyle_92 (by decide) ?_
              exact ih7 x_1 x_2 x_3 x23 _ (lv_sub hl [3, 4, 5, 6, 0] rfl) hf
            · replace hf := if_f hf c22
              refine lv_iload hx hb dX6_cheapestStyle_83 (lv_at hl 0 rfl) ?_
              refine lv_istore_n (lv' := [(3, .int x19), (6, .int x19), (5, .int x16), (0, .ref (a 6)), (1, .int x_1), (2, .int x_2), (4, .int x_4)]) hx hb dX6_cheapestStyle_85 rfl hl (by decide) rfl (fun ls hl => ?_)
              refine lv_iload hx hb dX6_cheapestStyle_86 (lv_at hl 6 rfl) ?_
              refine lv_istore_n (lv' := [(2, .int x_4), (3, .int x19), (6, .int x19), (5, .int x16), (0, .ref (a 6)), (1, .int x_1), (4, .int x_4)]) hx hb dX6_cheapestStyle_88 rfl hl (by decide) rfl (fun ls hl => ?_)
              obtain ⟨x24, ex24, hf⟩ := bnd_e hf
              refine lv_iinc (v := x24) (lv' := [(4, .int x24), (2, .int x_4), (3, .int x19), (6, .int x19), (5, .int x16), (0, .ref (a 6)), (1, .int x_1)]) hx hb dX6_cheapestStyle_89 hl (k := 6) rfl (by rw [ex24]; rfl) (by decide) rfl (fun ls hl => ?_)
              refine lv_goto (tgt := 7) hx hb dX6_cheapestStyle_92 (by decide) ?_
              exact ih7 x_1 x_4 x19 x24 _ (lv_sub hl [5, 6, 1, 2, 0] rfl) hf
  unfold fX6_cheapestStyle at hf
  refine lv_iconst (v := 0) hx hb dX6_cheapestStyle_0 (by decide) ?_
  refine lv_istore_n (lv' := [(2, .int 0), (0, .ref (a 6)), (1, .int p1)]) hx hb dX6_cheapestStyle_1 rfl hl (by decide) rfl (fun ls hl => ?_)
  refine lv_iconst (v := -1) hx hb dX6_cheapestStyle_2 (by decide) ?_
  refine lv_istore_n (lv' := [(3, .int (-1)), (2, .int 0), (0, .ref (a 6)), (1, .int p1)]) hx hb dX6_cheapestStyle_3 rfl hl (by decide) rfl (fun ls hl => ?_)
  refine lv_iconst (v := 0) hx hb dX6_cheapestStyle_4 (by decide) ?_
  refine lv_istore (lv' := [(4, .int 0), (3, .int (-1)), (2, .int 0), (0, .ref (a 6)), (1, .int p1)]) hx hb dX6_cheapestStyle_5 hl (by decide) rfl (fun ls hl => ?_)
  exact l7 1000 p1 0 (-1) 0 _ (lv_sub hl [3, 4, 2, 1, 0] rfl) hf
set_option maxHeartbeats 4000000 in
set_option maxRecDepth 100000 in
theorem c_X6_settle (l : Launch) (D : va_G) (cI : ClassId) (a tb : Nat → Nat) (st : ST) (p1 p2 : Int32) (r : ST) (hf : fX6_settle st p1 p2 = some r) : MetV l yX6_settle wsX6_settle ({ frames := 4, cells := 0, slots := 0, locals := 98 }) [.ref (a 6), .int p1, .int p2] D [(cI, .int)] (cw cI a) (cA a) tb st r := by
  refine met_of (cc := cX6_settle) (maxL := 4) (ret := none) (by decide) rfl (Nat.le_of_ble_eq_true rfl) ?_
  intro p e s m below meth c hx hb hr hml hts hown hlk hG ls hl
  have hown : s.vm.findClass RX6 = some m.cls := hown
  obtain ⟨hP, hK, hD, hZ⟩ := hG
  have hS : va_S (cA a) s.heap s.heap [] := va_S.rf
  have hl : lv_has ls 4 [(0, .ref (a 6)), (1, .int p1), (2, .int p2)] := hl
  have hiX6 : ∀ w ∈ wsX60, w ∈ wsX6_settle := by decide +kernel
  have k28 := hts (.fieldLink RX6 28 "DayColumn$Ways" "best" "[I") (by decide +kernel)
  have k31 := hts (.fieldLink RX6 31 "DayColumn$Ways" "rows" "I") (by decide +kernel)
  have k35 := hts (.fieldLink RX6 35 "DayColumn$Ways" "styles" "I") (by decide +kernel)
  have l73 : ∀ (n : Nat) (x_3 : Int32) (st : ST) (H : Heap) (locs : List Loc) (ls : Array Slot), va_P D vwCl (cw cI a st) H → va_S (cA a) s.heap H locs → lv_has ls 4 [(0, .ref (a 6)), (3, .int x_3)] → fX6_settle_73 n st x_3 = some r → W p l e ({ frames := 4, cells := 0, slots := 0, locals := 98 }) s m ([.ref (a 6), .int p1, .int p2] : List Value).toArray below meth c H locs 0 0 (MQ below (va_Qv (fun (u : ST) => u = r) (fun u t => va_P D vwCl (cw cI a u) t.heap) (cA a)) ([.ref (a 6), .int p1, .int p2] : List Value).toArray s 0 0 (cA a)) (F0 m 73 ls []) := by
    intro n
    induction n with
    | zero =>
      intro x_3 st H locs ls hP hS hl hf
      cases hf
    | succ n ih73 =>
      intro x_3 st H locs ls hP hS hl hf
      unfold fX6_settle_73 at hf
      refine lv_iload_n hx hb dX6_settle_73 rfl (lv_at hl 1 rfl) ?_
      refine lv_aload_n hx hb dX6_settle_74 rfl (lv_at hl 0 rfl) ?_
      refine va_get (D := D) (ci := 5) (v := .int (st.1 13)) (C := RX6) (T := TX6) (N := 8) hx hb hts hiX6 hown hK hP 6 rfl rfl 6 (by decide) k31 (fun _ h9 => h9) rfl dX6_settle_75 ?_
      refine lv_icmp_ge (tgt := 98) hx hb dX6_settle_78 (by decide) (fun c1 => ?_) (fun c1 => ?_)
      · replace hf := if_t hf c1
        exact W.vret hx hb hr (fun t ht _ => ⟨⟨st, rfl, so_i hf, p_at ht hP⟩, hS.F ht⟩) hS.2.2 dX6_settle_98
      · replace hf := if_f hf c1
        refine lv_aload_n hx hb dX6_settle_81 rfl (lv_at hl 0 rfl) ?_
        refine va_get (D := D) (ci := 5) (v := .ref (a 22)) (C := RX6) (T := TX6) (N := 8) hx hb hts hiX6 hown hK hP 6 rfl rfl 5 (by decide) k28 (fun _ h9 => h9) rfl dX6_settle_82 ?_
        refine lv_iload_n hx hb dX6_settle_85 rfl (lv_at hl 1 rfl) ?_
        refine lv_aload_n hx hb dX6_settle_86 rfl (lv_at hl 0 rfl) ?_
        refine lv_iload_n hx hb dX6_settle_87 rfl (lv_at hl 1 rfl) ?_
        obtain ⟨o2, ho2, hf⟩ := ob_e hf
        refine w_callR (b := a 6) (As := [.int x_3]) (rest := [.int x_3, .ref (a 22)]) ⟨hx, hb, hml, hown, hts⟩ (c_X6_cheapestStyle l D cI a tb st x_3 o2 ho2) (cwV 1 hts gX6_settle_X6_cheapestStyle rfl rfl rfl (by decide +kernel) ⟨Nat.le_of_ble_eq_true rfl, Nat.le_of_ble_eq_true rfl⟩) hP hK hD hZ hS (va_recv hK hP (ci := 5) (q0 := 6) rfl rfl) rfl hl.1 rfl (Nat.le_of_ble_eq_true rfl) ⟨Nat.zero_le _, Nat.zero_le _⟩ dX6_settle_88 ?_
        obtain ⟨hi3, hf⟩ := ix_e hf
        obtain ⟨s4, es4, hf⟩ := bnd_e hf
        refine va_iast hx hb hK hP (hD st) hS 22 0 rfl rfl hi3 dX6_settle_91 (fun H locs hP _ hS => ?_)
        have hP : va_P D vwCl (cw cI a s4) H := by rw [es4]; exact hP
        obtain ⟨x5, ex5, hf⟩ := bnd_e hf
        refine lv_iinc (v := x5) (lv' := [(3, .int x5), (0, .ref (a 6))]) hx hb dX6_settle_92 hl (k := 1) rfl (by rw [ex5]; rfl) (by decide) rfl (fun ls hl => ?_)
        refine lv_goto (tgt := 73) hx hb dX6_settle_95 (by decide) ?_
        exact ih73 x5 s4 _ _ _ hP hS (lv_sub hl [1, 0] rfl) hf
  have l56 : ∀ (n : Nat) (x_3 : Int32) (st : ST) (H : Heap) (locs : List Loc) (ls : Array Slot), va_P D vwCl (cw cI a st) H → va_S (cA a) s.heap H locs → lv_has ls 4 [(0, .ref (a 6)), (3, .int x_3)] → fX6_settle_56 n st x_3 = some r → W p l e ({ frames := 4, cells := 0, slots := 0, locals := 98 }) s m ([.ref (a 6), .int p1, .int p2] : List Value).toArray below meth c H locs 0 0 (MQ below (va_Qv (fun (u : ST) => u = r) (fun u t => va_P D vwCl (cw cI a u) t.heap) (cA a)) ([.ref (a 6), .int p1, .int p2] : List Value).toArray s 0 0 (cA a)) (F0 m 56 ls []) := by
    intro n
    induction n with
    | zero =>
      intro x_3 st H locs ls hP hS hl hf
      cases hf
    | succ n ih56 =>
      intro x_3 st H locs ls hP hS hl hf
      unfold fX6_settle_56 at hf
      refine lv_iload_n hx hb dX6_settle_56 rfl (lv_at hl 1 rfl) ?_
      refine lv_if_lt (tgt := 71) hx hb dX6_settle_57 (by decide) (fun c6 => ?_) (fun c6 => ?_)
      · replace hf := if_t hf c6
        refine lv_iconst (v := 0) hx hb dX6_settle_71 (by decide) ?_
        refine lv_istore_n (lv' := [(3, .int 0), (0, .ref (a 6))]) hx hb dX6_settle_72 rfl hl (by decide) rfl (fun ls hl => ?_)
        exact l73 1000 0 st _ _ _ hP hS (lv_sub hl [1, 0] rfl) hf
      · replace hf := if_f hf c6
        refine lv_aload_n hx hb dX6_settle_60 rfl (lv_at hl 0 rfl) ?_
        refine lv_iload_n hx hb dX6_settle_61 rfl (lv_at hl 1 rfl) ?_
        obtain ⟨o7, ho7, hf⟩ := ob_e hf
        refine w_callV (b := a 6) (As := [.int x_3]) (rest := []) ⟨hx, hb, hml, hown, hts⟩ (c_X6_addUpBehind l D cI a tb st x_3 o7 ho7) (cwV 1 hts gX6_settle_X6_addUpBehind rfl rfl rfl (by decide +kernel) ⟨Nat.le_of_ble_eq_true rfl, Nat.le_of_ble_eq_true rfl⟩) hP hK hD hZ hS (va_recv hK hP (ci := 5) (q0 := 6) rfl rfl) rfl hl.1 rfl (Nat.le_of_ble_eq_true rfl) ⟨Nat.zero_le _, Nat.zero_le _⟩ dX6_settle_62 (fun H locs hP hS => ?_)
        obtain ⟨x8, ex8, hf⟩ := bnd_e hf
        refine lv_iinc (v := x8) (lv' := [(3, .int x8), (0, .ref (a 6))]) hx hb dX6_settle_65 hl (k := 1) rfl (by rw [ex8]; rfl) (by decide) rfl (fun ls hl => ?_)
        refine lv_goto (tgt := 56) hx hb dX6_settle_68 (by decide) ?_
        exact ih56 x8 o7 _ _ _ hP hS (lv_sub hl [1, 0] rfl) hf
  have l30 : ∀ (n : Nat) (x_3 : Int32) (st : ST) (H : Heap) (locs : List Loc) (ls : Array Slot), va_P D vwCl (cw cI a st) H → va_S (cA a) s.heap H locs → lv_has ls 4 [(0, .ref (a 6)), (3, .int x_3)] → fX6_settle_30 n st x_3 = some r → W p l e ({ frames := 4, cells := 0, slots := 0, locals := 98 }) s m ([.ref (a 6), .int p1, .int p2] : List Value).toArray below meth c H locs 0 0 (MQ below (va_Qv (fun (u : ST) => u = r) (fun u t => va_P D vwCl (cw cI a u) t.heap) (cA a)) ([.ref (a 6), .int p1, .int p2] : List Value).toArray s 0 0 (cA a)) (F0 m 30 ls []) := by
    intro n
    induction n with
    | zero =>
      intro x_3 st H locs ls hP hS hl hf
      cases hf
    | succ n ih30 =>
      intro x_3 st H locs ls hP hS hl hf
      unfold fX6_settle_30 at hf
      refine lv_iload_n hx hb dX6_settle_30 rfl (lv_at hl 1 rfl) ?_
      refine lv_aload_n hx hb dX6_settle_31 rfl (lv_at hl 0 rfl) ?_
      refine va_get (D := D) (ci := 5) (v := .int (st.1 13)) (C := RX6) (T := TX6) (N := 8) hx hb hts hiX6 hown hK hP 6 rfl rfl 6 (by decide) k31 (fun _ h9 => h9) rfl dX6_settle_32 ?_
      refine lv_icmp_ge (tgt := 49) hx hb dX6_settle_35 (by decide) (fun c9 => ?_) (fun c9 => ?_)
      · replace hf := if_t hf c9
        refine lv_aload_n hx hb dX6_settle_49 rfl (lv_at hl 0 rfl) ?_
        refine va_get (D := D) (ci := 5) (v := .int (st.1 13)) (C := RX6) (T := TX6) (N := 8) hx hb hts hiX6 hown hK hP 6 rfl rfl 6 (by decide) k31 (fun _ h9 => h9) rfl dX6_settle_50 ?_
        refine lv_iconst (v := 1) hx hb dX6_settle_53 (by decide) ?_
        refine lv_isub hx hb dX6_settle_54 ?_
        obtain ⟨x10, ex10, hf⟩ := bnd_e hf
        refine w_nm ex10 ?_
        refine lv_istore_n (lv' := [(3, .int x10), (0, .ref (a 6))]) hx hb dX6_settle_55 rfl hl (by decide) rfl (fun ls hl => ?_)
        exact l56 1000 x10 st _ _ _ hP hS (lv_sub hl [1, 0] rfl) hf
      · replace hf := if_f hf c9
        refine lv_aload_n hx hb dX6_settle_38 rfl (lv_at hl 0 rfl) ?_
        refine lv_iload_n hx hb dX6_settle_39 rfl (lv_at hl 1 rfl) ?_
        obtain ⟨o11, ho11, hf⟩ := ob_e hf
        refine w_callV (b := a 6) (As := [.int x_3]) (rest := []) ⟨hx, hb, hml, hown, hts⟩ (c_X6_addUpAhead l D cI a tb st x_3 o11 ho11) (cwV 1 hts gX6_settle_X6_addUpAhead rfl rfl rfl (by decide +kernel) ⟨Nat.le_of_ble_eq_true rfl, Nat.le_of_ble_eq_true rfl⟩) hP hK hD hZ hS (va_recv hK hP (ci := 5) (q0 := 6) rfl rfl) rfl hl.1 rfl (Nat.le_of_ble_eq_true rfl) ⟨Nat.zero_le _, Nat.zero_le _⟩ dX6_settle_40 (fun H locs hP hS => ?_)
        obtain ⟨x12, ex12, hf⟩ := bnd_e hf
        refine lv_iinc (v := x12) (lv' := [(3, .int x12), (0, .ref (a 6))]) hx hb dX6_settle_43 hl (k := 1) rfl (by rw [ex12]; rfl) (by decide) rfl (fun ls hl => ?_)
        refine lv_goto (tgt := 30) hx hb dX6_settle_46 (by decide) ?_
        exact ih30 x12 o11 _ _ _ hP hS (lv_sub hl [1, 0] rfl) hf
  unfold fX6_settle at hf
  refine lv_aload_n hx hb dX6_settle_0 rfl (lv_at hl 0 rfl) ?_
  refine lv_iconst (v := 0) hx hb dX6_settle_1 (by decide) ?_
  refine lv_iload_n hx hb dX6_settle_2 rfl (lv_at hl 1 rfl) ?_
  refine lv_bipush (v := 30) hx hb dX6_settle_3 (by decide) ?_
  refine va_mmin hx hb (by rw [hml]; exact hl.1.symm) hown (hts (.methodLink RX6 38 Lib.Math.min.name) (by decide +kernel)) (hts (.static Lib.Math.min.name) (by decide +kernel)) (hts (.initialized "java/lang/Math") (by decide +kernel)) (hts (.code Lib.Math.min.name Lib.Math.min.code 2 (some .int)) (by decide +kernel)) (Nat.le_of_ble_eq_true rfl) (Nat.le_of_ble_eq_true rfl) (Nat.zero_le _) (Nat.zero_le _) dX6_settle_5 ?_
  refine va_mmax hx hb (by rw [hml]; exact hl.1.symm) hown (hts (.methodLink RX6 44 Lib.Math.max.name) (by decide +kernel)) (hts (.static Lib.Math.max.name) (by decide +kernel)) (hts (.initialized "java/lang/Math") (by decide +kernel)) (hts (.code Lib.Math.max.name Lib.Math.max.code 2 (some .int)) (by decide +kernel)) (Nat.le_of_ble_eq_true rfl) (Nat.le_of_ble_eq_true rfl) (Nat.zero_le _) (Nat.zero_le _) dX6_settle_8 ?_
  obtain ⟨x13, ex13, hf⟩ := bnd_e hf
  refine w_nm ex13 ?_
  obtain ⟨s14, es14, hf⟩ := bnd_e hf
  refine va_put (D := D) (ci := 5) (v := .int x13) (ty := .int) (C := RX6) (T := TX6) (N := 8) hx hb hts hiX6 tyX6 tyX6_ok nmX6 hown hK hP (hD st) hS 6 rfl rfl 6 (by decide) k31 (fun _ h9 => h9) rfl (by decide +kernel) rfl rfl (Nat.le_of_ble_eq_true rfl) dX6_settle_11 (fun H locs hP _ hS => ?_)
  have hP : va_P D vwCl (cw cI a s14) H := by rw [es14]; exact hP
  refine lv_aload_n hx hb dX6_settle_14 rfl (lv_at hl 0 rfl) ?_
  refine lv_iconst (v := 0) hx hb dX6_settle_15 (by decide) ?_
  refine lv_iload_n hx hb dX6_settle_16 rfl (lv_at hl 2 rfl) ?_
  refine lv_bipush (v := 8) hx hb dX6_settle_17 (by decide) ?_
  refine va_mmin hx hb (by rw [hml]; exact hl.1.symm) hown (hts (.methodLink RX6 38 Lib.Math.min.name) (by decide +kernel)) (hts (.static Lib.Math.min.name) (by decide +kernel)) (hts (.initialized "java/lang/Math") (by decide +kernel)) (hts (.code Lib.Math.min.name Lib.Math.min.code 2 (some .int)) (by decide +kernel)) (Nat.le_of_ble_eq_true rfl) (Nat.le_of_ble_eq_true rfl) (Nat.zero_le _) (Nat.zero_le _) dX6_settle_19 ?_
  refine va_mmax hx hb (by rw [hml]; exact hl.1.symm) hown (hts (.methodLink RX6 44 Lib.Math.max.name) (by decide +kernel)) (hts (.static Lib.Math.max.name) (by decide +kernel)) (hts (.initialized "java/lang/Math") (by decide +kernel)) (hts (.code Lib.Math.max.name Lib.Math.max.code 2 (some .int)) (by decide +kernel)) (Nat.le_of_ble_eq_true rfl) (Nat.le_of_ble_eq_true rfl) (Nat.zero_le _) (Nat.zero_le _) dX6_settle_22 ?_
  obtain ⟨x15, ex15, hf⟩ := bnd_e hf
  refine w_nm ex15 ?_
  obtain ⟨s16, es16, hf⟩ := bnd_e hf
  refine va_put (D := D) (ci := 5) (v := .int x15) (ty := .int) (C := RX6) (T := TX6) (N := 8) hx hb hts hiX6 tyX6 tyX6_ok nmX6 hown hK hP (hD s14) hS 6 rfl rfl 7 (by decide) k35 (fun _ h9 => h9) rfl (by decide +kernel) rfl rfl (Nat.le_of_ble_eq_true rfl) dX6_settle_25 (fun H locs hP _ hS => ?_)
  have hP : va_P D vwCl (cw cI a s16) H := by rw [es16]; exact hP
  refine lv_iconst (v := 0) hx hb dX6_settle_28 (by decide) ?_
  refine lv_istore_n (lv' := [(3, .int 0), (0, .ref (a 6)), (1, .int p1), (2, .int p2)]) hx hb dX6_settle_29 rfl hl (by decide) rfl (fun ls hl => ?_)
  exact l30 1000 0 s16 _ _ _ hP hS (lv_sub hl [1, 0] rfl) hf
