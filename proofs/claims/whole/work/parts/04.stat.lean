set_option maxHeartbeats 4000000 in
set_option maxRecDepth 100000 in
theorem c_X0_isDay (l : Launch) (tb : Nat → Nat) (p0 : Int32) (r : Int32) (hf : fX0_isDay p0 = some r) : MetT l yX0_isDay wsX0_isDay ({ frames := 0, cells := 0, slots := 0, locals := 0 }) [.int p0] tb r := by
  refine met_of (cc := cX0_isDay) (maxL := 1) (ret := (some .boolean)) (by decide) rfl (Nat.le_of_ble_eq_true rfl) ?_
  intro p e s m below meth c hx hb hr hml hts hown hlk hG ls hl
  have hown : s.vm.findClass RX0 = some m.cls := hown
  have hZ : zz tb (fun _ => False) s s.heap := hG
  have hS : va_S (fun _ => False) s.heap s.heap [] := va_S.rf
  have hl : lv_has ls 1 [(0, .int p0)] := hl
  unfold fX0_isDay at hf
  refine lv_iload_n hx hb dX0_isDay_0 rfl (lv_at hl 0 rfl) ?_
  refine lv_if_lt (tgt := 14) hx hb dX0_isDay_1 (by decide) (fun c1 => ?_) (fun c1 => ?_)
  · replace hf := if_t hf c1
    refine lv_iconst (v := 0) hx hb dX0_isDay_14 (by decide) ?_
    exact W.zret (v := 0) hx hb hr rfl (fun t ht _ => ⟨0, rfl, so_i hf, ht⟩) (fun _ h => by cases h) dX0_isDay_15
  · replace hf := if_f hf c1
    refine lv_iload_n hx hb dX0_isDay_4 rfl (lv_at hl 0 rfl) ?_
    refine lv_ldc (v := 109572) hx hb hown (hts (.constant RX0 11 (109572)) (by decide +kernel)) dX0_isDay_5 ?_
    refine lv_icmp_gt (tgt := 14) hx hb dX0_isDay_7 (by decide) (fun c2 => ?_) (fun c2 => ?_)
    · replace hf := if_t hf c2
      refine lv_iconst (v := 0) hx hb dX0_isDay_14 (by decide) ?_
      exact W.zret (v := 0) hx hb hr rfl (fun t ht _ => ⟨0, rfl, so_i hf, ht⟩) (fun _ h => by cases h) dX0_isDay_15
    · replace hf := if_f hf c2
      refine lv_iconst (v := 1) hx hb dX0_isDay_10 (by decide) ?_
      refine lv_goto (tgt := 15) hx hb dX0_isDay_11 (by decide) ?_
      exact W.zret (v := 1) hx hb hr rfl (fun t ht _ => ⟨1, rfl, so_i hf, ht⟩) (fun _ h => by cases h) dX0_isDay_15
set_option maxHeartbeats 4000000 in
set_option maxRecDepth 100000 in
theorem c_X0_weekdayOf (l : Launch) (tb : Nat → Nat) (p0 : Int32) (r : Int32) (hf : fX0_weekdayOf p0 = some r) : MetT l yX0_weekdayOf wsX0_weekdayOf ({ frames := 0, cells := 0, slots := 0, locals := 0 }) [.int p0] tb r := by
  refine met_of (cc := cX0_weekdayOf) (maxL := 1) (ret := (some .int)) (by decide) rfl (Nat.le_of_ble_eq_true rfl) ?_
  intro p e s m below meth c hx hb hr hml hts hown hlk hG ls hl
  have hown : s.vm.findClass RX0 = some m.cls := hown
  have hZ : zz tb (fun _ => False) s s.heap := hG
  have hS : va_S (fun _ => False) s.heap s.heap [] := va_S.rf
  have hl : lv_has ls 1 [(0, .int p0)] := hl
  unfold fX0_weekdayOf at hf
  refine lv_iload_n hx hb dX0_weekdayOf_0 rfl (lv_at hl 0 rfl) ?_
  refine lv_bipush (v := 7) hx hb dX0_weekdayOf_1 (by decide) ?_
  refine lv_irem hx hb dX0_weekdayOf_3 (by decide) ?_
  exact W.iret (v := (p0 - p0 / 7 * 7)) hx hb hr (fun t ht _ => ⟨(p0 - p0 / 7 * 7), rfl, so_i hf, ht⟩) (fun _ h => by cases h) dX0_weekdayOf_4
set_option maxHeartbeats 4000000 in
set_option maxRecDepth 100000 in
theorem c_X0_yearStart (l : Launch) (tb : Nat → Nat) (p0 : Int32) (r : Int32) (hf : fX0_yearStart p0 = some r) : MetT l yX0_yearStart wsX0_yearStart ({ frames := 0, cells := 0, slots := 0, locals := 0 }) [.int p0] tb r := by
  refine met_of (cc := cX0_yearStart) (maxL := 3) (ret := (some .int)) (by decide) rfl (Nat.le_of_ble_eq_true rfl) ?_
  intro p e s m below meth c hx hb hr hml hts hown hlk hG ls hl
  have hown : s.vm.findClass RX0 = some m.cls := hown
  have hZ : zz tb (fun _ => False) s s.heap := hG
  have hS : va_S (fun _ => False) s.heap s.heap [] := va_S.rf
  have hl : lv_has ls 3 [(0, .int p0)] := hl
  unfold fX0_yearStart at hf
  refine lv_iload_n hx hb dX0_yearStart_0 rfl (lv_at hl 0 rfl) ?_
  refine lv_iconst (v := 1) hx hb dX0_yearStart_1 (by decide) ?_
  refine lv_isub hx hb dX0_yearStart_2 ?_
  obtain ⟨x1, ex1, hf⟩ := bnd_e hf
  refine w_nm ex1 ?_
  refine lv_istore_n (lv' := [(1, .int x1), (0, .int p0)]) hx hb dX0_yearStart_3 rfl hl (by decide) rfl (fun ls hl => ?_)
  refine lv_iload_n hx hb dX0_yearStart_4 rfl (lv_at hl 0 rfl) ?_
  refine lv_iconst (v := 4) hx hb dX0_yearStart_5 (by decide) ?_
  refine lv_idiv hx hb dX0_yearStart_6 (by decide) ?_
  refine lv_iload_n hx hb dX0_yearStart_7 rfl (lv_at hl 0 rfl) ?_
  refine lv_bipush (v := 100) hx hb dX0_yearStart_8 (by decide) ?_
  refine lv_idiv hx hb dX0_yearStart_10 (by decide) ?_
  refine lv_isub hx hb dX0_yearStart_11 ?_
  refine lv_iload_n hx hb dX0_yearStart_12 rfl (lv_at hl 0 rfl) ?_
  refine lv_sipush (v := 400) hx hb dX0_yearStart_13 (by decide) ?_
  refine lv_idiv hx hb dX0_yearStart_16 (by decide) ?_
  refine lv_iadd hx hb dX0_yearStart_17 ?_
  refine lv_sipush (v := 460) hx hb dX0_yearStart_18 (by decide) ?_
  refine lv_isub hx hb dX0_yearStart_21 ?_
  obtain ⟨x2, ex2, hf⟩ := bnd_e hf
  refine w_nm ex2 ?_
  refine lv_istore_n (lv' := [(2, .int x2), (1, .int x1), (0, .int p0)]) hx hb dX0_yearStart_22 rfl hl (by decide) rfl (fun ls hl => ?_)
  refine lv_iload_n hx hb dX0_yearStart_23 rfl (lv_at hl 2 rfl) ?_
  refine lv_sipush (v := 1900) hx hb dX0_yearStart_24 (by decide) ?_
  refine lv_isub hx hb dX0_yearStart_27 ?_
  refine lv_sipush (v := 365) hx hb dX0_yearStart_28 (by decide) ?_
  refine lv_imul hx hb dX0_yearStart_31 ?_
  refine lv_iload_n hx hb dX0_yearStart_32 rfl (lv_at hl 0 rfl) ?_
  refine lv_iadd hx hb dX0_yearStart_33 ?_
  exact W.iret (v := (((p0 - 1900) * 365) + x2)) hx hb hr (fun t ht _ => ⟨(((p0 - 1900) * 365) + x2), rfl, so_i hf, ht⟩) (fun _ h => by cases h) dX0_yearStart_34
set_option maxHeartbeats 4000000 in
set_option maxRecDepth 100000 in
theorem c_X0_monthLength (l : Launch) (tb : Nat → Nat) (p0 p1 : Int32) (r : Int32) (hf : fX0_monthLength p0 p1 = some r) : MetT l yX0_monthLength wsX0_monthLength ({ frames := 0, cells := 0, slots := 0, locals := 0 }) [.int p0, .int p1] tb r := by
  refine met_of (cc := cX0_monthLength) (maxL := 3) (ret := (some .int)) (by decide) rfl (Nat.le_of_ble_eq_true rfl) ?_
  intro p e s m below meth c hx hb hr hml hts hown hlk hG ls hl
  have hown : s.vm.findClass RX0 = some m.cls := hown
  have hZ : zz tb (fun _ => False) s s.heap := hG
  have hS : va_S (fun _ => False) s.heap s.heap [] := va_S.rf
  have hl : lv_has ls 3 [(0, .int p0), (1, .int p1)] := hl
  have k20 := hts (.fieldLink RX0 20 "DayColumn$Calendar" "MONTH_LENGTHS" "[I") (by decide +kernel)
  unfold fX0_monthLength at hf
  refine lv_iload_n hx hb dX0_monthLength_0 rfl (lv_at hl 0 rfl) ?_
  refine lv_iconst (v := 1) hx hb dX0_monthLength_1 (by decide) ?_
  refine lv_icmp_lt (tgt := 11) hx hb dX0_monthLength_2 (by decide) (fun c1 => ?_) (fun c1 => ?_)
  · replace hf := if_t hf c1
    refine lv_iconst (v := 0) hx hb dX0_monthLength_11 (by decide) ?_
    exact W.iret (v := 0) hx hb hr (fun t ht _ => ⟨0, rfl, so_i hf, ht⟩) (fun _ h => by cases h) dX0_monthLength_12
  · replace hf := if_f hf c1
    refine lv_iload_n hx hb dX0_monthLength_5 rfl (lv_at hl 0 rfl) ?_
    refine lv_bipush (v := 12) hx hb dX0_monthLength_6 (by decide) ?_
    refine lv_icmp_le (tgt := 13) hx hb dX0_monthLength_8 (by decide) (fun c2 => ?_) (fun c2 => ?_)
    · replace hf := if_t hf c2
      refine lv_iload_n hx hb dX0_monthLength_13 rfl (lv_at hl 1 rfl) ?_
      refine lv_iconst (v := 4) hx hb dX0_monthLength_14 (by decide) ?_
      refine lv_irem hx hb dX0_monthLength_15 (by decide) ?_
      refine lv_if_ne (tgt := 26) hx hb dX0_monthLength_16 (by decide) (fun c3 => ?_) (fun c3 => ?_)
      · replace hf := if_f hf c3
        refine lv_iload_n hx hb dX0_monthLength_26 rfl (lv_at hl 1 rfl) ?_
        refine lv_sipush (v := 400) hx hb dX0_monthLength_27 (by decide) ?_
        refine lv_irem hx hb dX0_monthLength_30 (by decide) ?_
        refine lv_if_ne (tgt := 38) hx hb dX0_monthLength_31 (by decide) (fun c4 => ?_) (fun c4 => ?_)
        · replace hf := if_f hf c4
          refine lv_iconst (v := 0) hx hb dX0_monthLength_38 (by decide) ?_
          refine lv_istore_n (lv' := [(2, .int 0), (0, .int p0), (1, .int p1)]) hx hb dX0_monthLength_39 rfl hl (by decide) rfl (fun ls hl => ?_)
          refine lv_iload_n hx hb dX0_monthLength_40 rfl (lv_at hl 1 rfl) ?_
          refine lv_iconst (v := 2) hx hb dX0_monthLength_41 (by decide) ?_
          refine lv_icmp_ne (tgt := 54) hx hb dX0_monthLength_42 (by decide) (fun c5 => ?_) (fun c5 => ?_)
          · replace hf := if_f hf c5
            refine va_gets hx hb hZ.1.1 hS hown k20 (fun _ h9 => h9) dX0_monthLength_54 ?_
            refine lv_iload_n hx hb dX0_monthLength_57 rfl (lv_at hl 1 rfl) ?_
            refine lv_iconst (v := 1) hx hb dX0_monthLength_58 (by decide) ?_
            refine lv_isub hx hb dX0_monthLength_59 ?_
            obtain ⟨x6, ex6, hf⟩ := bnd_e hf
            refine w_nm ex6 ?_
            obtain ⟨hi7, hf⟩ := ix_e hf
            refine va_ti hx hb hZ.1.2 hS hi7 (v := .int (tML (Int32.toNatClampNeg x6))) rfl dX0_monthLength_60 ?_
            exact W.iret (v := (tML (Int32.toNatClampNeg x6))) hx hb hr (fun t ht _ => ⟨(tML (Int32.toNatClampNeg x6)), rfl, so_i hf, ht⟩) (fun _ h => by cases h) dX0_monthLength_61
          · replace hf := if_t hf c5
            refine lv_iload_n hx hb dX0_monthLength_45 rfl (lv_at hl 0 rfl) ?_
            refine lv_if_eq (tgt := 54) hx hb dX0_monthLength_46 (by decide) (fun _ => ?_) (fun c8 => absurd (by decide) c8)
            refine va_gets hx hb hZ.1.1 hS hown k20 (fun _ h9 => h9) dX0_monthLength_54 ?_
            refine lv_iload_n hx hb dX0_monthLength_57 rfl (lv_at hl 1 rfl) ?_
            refine lv_iconst (v := 1) hx hb dX0_monthLength_58 (by decide) ?_
            refine lv_isub hx hb dX0_monthLength_59 ?_
            obtain ⟨x9, ex9, hf⟩ := bnd_e hf
            refine w_nm ex9 ?_
            obtain ⟨hi10, hf⟩ := ix_e hf
            refine va_ti hx hb hZ.1.2 hS hi10 (v := .int (tML (Int32.toNatClampNeg x9))) rfl dX0_monthLength_60 ?_
            exact W.iret (v := (tML (Int32.toNatClampNeg x9))) hx hb hr (fun t ht _ => ⟨(tML (Int32.toNatClampNeg x9)), rfl, so_i hf, ht⟩) (fun _ h => by cases h) dX0_monthLength_61
        · replace hf := if_t hf c4
          refine lv_iconst (v := 1) hx hb dX0_monthLength_34 (by decide) ?_
          refine lv_goto (tgt := 39) hx hb dX0_monthLength_35 (by decide) ?_
          refine lv_istore_n (lv' := [(2, .int 1), (0, .int p0), (1, .int p1)]) hx hb dX0_monthLength_39 rfl hl (by decide) rfl (fun ls hl => ?_)
          refine lv_iload_n hx hb dX0_monthLength_40 rfl (lv_at hl 1 rfl) ?_
          refine lv_iconst (v := 2) hx hb dX0_monthLength_41 (by decide) ?_
          refine lv_icmp_ne (tgt := 54) hx hb dX0_monthLength_42 (by decide) (fun c11 => ?_) (fun c11 => ?_)
          · replace hf := if_f hf c11
            refine va_gets hx hb hZ.1.1 hS hown k20 (fun _ h9 => h9) dX0_monthLength_54 ?_
            refine lv_iload_n hx hb dX0_monthLength_57 rfl (lv_at hl 1 rfl) ?_
            refine lv_iconst (v := 1) hx hb dX0_monthLength_58 (by decide) ?_
            refine lv_isub hx hb dX0_monthLength_59 ?_
            obtain ⟨x12, ex12, hf⟩ := bnd_e hf
            refine w_nm ex12 ?_
            obtain ⟨hi13, hf⟩ := ix_e hf
            refine va_ti hx hb hZ.1.2 hS hi13 (v := .int (tML (Int32.toNatClampNeg x12))) rfl dX0_monthLength_60 ?_
            exact W.iret (v := (tML (Int32.toNatClampNeg x12))) hx hb hr (fun t ht _ => ⟨(tML (Int32.toNatClampNeg x12)), rfl, so_i hf, ht⟩) (fun _ h => by cases h) dX0_monthLength_61
          · replace hf := if_t hf c11
            refine lv_iload_n hx hb dX0_monthLength_45 rfl (lv_at hl 0 rfl) ?_
            refine lv_if_eq (tgt := 54) hx hb dX0_monthLength_46 (by decide) (fun c14 => absurd c14 (by decide)) (fun _ => ?_)
            refine lv_bipush (v := 29) hx hb dX0_monthLength_49 (by decide) ?_
            refine lv_goto (tgt := 61) hx hb dX0_monthLength_51 (by decide) ?_
            exact W.iret (v := 29) hx hb hr (fun t ht _ => ⟨29, rfl, so_i hf, ht⟩) (fun _ h => by cases h) dX0_monthLength_61
      · replace hf := if_t hf c3
        refine lv_iload_n hx hb dX0_monthLength_19 rfl (lv_at hl 1 rfl) ?_
        refine lv_bipush (v := 100) hx hb dX0_monthLength_20 (by decide) ?_
        refine lv_irem hx hb dX0_monthLength_22 (by decide) ?_
        refine lv_if_ne (tgt := 34) hx hb dX0_monthLength_23 (by decide) (fun c15 => ?_) (fun c15 => ?_)
        · replace hf := if_f hf c15
          refine lv_iconst (v := 1) hx hb dX0_monthLength_34 (by decide) ?_
          refine lv_goto (tgt := 39) hx hb dX0_monthLength_35 (by decide) ?_
          refine lv_istore_n (lv' := [(2, .int 1), (0, .int p0), (1, .int p1)]) hx hb dX0_monthLength_39 rfl hl (by decide) rfl (fun ls hl => ?_)
          refine lv_iload_n hx hb dX0_monthLength_40 rfl (lv_at hl 1 rfl) ?_
          refine lv_iconst (v := 2) hx hb dX0_monthLength_41 (by decide) ?_
          refine lv_icmp_ne (tgt := 54) hx hb dX0_monthLength_42 (by decide) (fun c16 => ?_) (fun c16 => ?_)
          · replace hf := if_f hf c16
            refine va_gets hx hb hZ.1.1 hS hown k20 (fun _ h9 => h9) dX0_monthLength_54 ?_
            refine lv_iload_n hx hb dX0_monthLength_57 rfl (lv_at hl 1 rfl) ?_
            refine lv_iconst (v := 1) hx hb dX0_monthLength_58 (by decide) ?_
            refine lv_isub hx hb dX0_monthLength_59 ?_
            obtain ⟨x17, ex17, hf⟩ := bnd_e hf
            refine w_nm ex17 ?_
            obtain ⟨hi18, hf⟩ := ix_e hf
            refine va_ti hx hb hZ.1.2 hS hi18 (v := .int (tML (Int32.toNatClampNeg x17))) rfl dX0_monthLength_60 ?_
            exact W.iret (v := (tML (Int32.toNatClampNeg x17))) hx hb hr (fun t ht _ => ⟨(tML (Int32.toNatClampNeg x17)), rfl, so_i hf, ht⟩) (fun _ h => by cases h) dX0_monthLength_61
          · replace hf := if_t hf c16
            refine lv_iload_n hx hb dX0_monthLength_45 rfl (lv_at hl 0 rfl) ?_
            refine lv_if_eq (tgt := 54) hx hb dX0_monthLength_46 (by decide) (fun c19 => absurd c19 (by decide)) (fun _ => ?_)
            refine lv_bipush (v := 29) hx hb dX0_monthLength_49 (by decide) ?_
            refine lv_goto (tgt := 61) hx hb dX0_monthLength_51 (by decide) ?_
            exact W.iret (v := 29) hx hb hr (fun t ht _ => ⟨29, rfl, so_i hf, ht⟩) (fun _ h => by cases h) dX0_monthLength_61
        · replace hf := if_t hf c15
          refine lv_iload_n hx hb dX0_monthLength_26 rfl (lv_at hl 1 rfl) ?_
          refine lv_sipush (v := 400) hx hb dX0_monthLength_27 (by decide) ?_
          refine lv_irem hx hb dX0_monthLength_30 (by decide) ?_
          refine lv_if_ne (tgt := 38) hx hb dX0_monthLength_31 (by decide) (fun c20 => ?_) (fun c20 => ?_)
          · replace hf := if_f hf c20
            refine lv_iconst (v := 0) hx hb dX0_monthLength_38 (by decide) ?_
            refine lv_istore_n (lv' := [(2, .int 0), (0, .int p0), (1, .int p1)]) hx hb dX0_monthLength_39 rfl hl (by decide) rfl (fun ls hl => ?_)
            refine lv_iload_n hx hb dX0_monthLength_40 rfl (lv_at hl 1 rfl) ?_
            refine lv_iconst (v := 2) hx hb dX0_monthLength_41 (by decide) ?_
            refine lv_icmp_ne (tgt := 54) hx hb dX0_monthLength_42 (by decide) (fun c21 => ?_) (fun c21 => ?_)
            · replace hf := if_f hf c21
              refine va_gets hx hb hZ.1.1 hS hown k20 (fun _ h9 => h9) dX0_monthLength_54 ?_
              refine lv_iload_n hx hb dX0_monthLength_57 rfl (lv_at hl 1 rfl) ?_
              refine lv_iconst (v := 1) hx hb dX0_monthLength_58 (by decide) ?_
              refine lv_isub hx hb dX0_monthLength_59 ?_
              obtain ⟨x22, ex22, hf⟩ := bnd_e hf
              refine w_nm ex22 ?_
              obtain ⟨hi23, hf⟩ := ix_e hf
              refine va_ti hx hb hZ.1.2 hS hi23 (v := .int (tML (Int32.toNatClampNeg x22))) rfl dX0_monthLength_60 ?_
              exact W.iret (v := (tML (Int32.toNatClampNeg x22))) hx hb hr (fun t ht _ => ⟨(tML (Int32.toNatClampNeg x22)), rfl, so_i hf, ht⟩) (fun _ h => by cases h) dX0_monthLength_61
            · replace hf := if_t hf c21
              refine lv_iload_n hx hb dX0_monthLength_45 rfl (lv_at hl 0 rfl) ?_
              refine lv_if_eq (tgt := 54) hx hb dX0_monthLength_46 (by decide) (fun _ => ?_) (fun c24 => absurd (by decide) c24)
              refine va_gets hx hb hZ.1.1 hS hown k20 (fun _ h9 => h9) dX0_monthLength_54 ?_
              refine lv_iload_n hx hb dX0_monthLength_57 rfl (lv_at hl 1 rfl) ?_
              refine lv_iconst (v := 1) hx hb dX0_monthLength_58 (by decide) ?_
              refine lv_isub hx hb dX0_monthLength_59 ?_
              obtain ⟨x25, ex25, hf⟩ := bnd_e hf
              refine w_nm ex25 ?_
              obtain ⟨hi26, hf⟩ := ix_e hf
              refine va_ti hx hb hZ.1.2 hS hi26 (v := .int (tML (Int32.toNatClampNeg x25))) rfl dX0_monthLength_60 ?_
              exact W.iret (v := (tML (Int32.toNatClampNeg x25))) hx hb hr (fun t ht _ => ⟨(tML (Int32.toNatClampNeg x25)), rfl, so_i hf, ht⟩) (fun _ h => by cases h) dX0_monthLength_61
          · replace hf := if_t hf c20
            refine lv_iconst (v := 1) hx hb dX0_monthLength_34 (by decide) ?_
            refine lv_goto (tgt := 39) hx hb dX0_monthLength_35 (by decide) ?_
            refine lv_istore_n (lv' := [(2, .int 1), (0, .int p0), (1, .int p1)]) hx hb dX0_monthLength_39 rfl hl (by decide) rfl (fun ls hl => ?_)
            refine lv_iload_n hx hb dX0_monthLength_40 rfl (lv_at hl 1 rfl) ?_
            refine lv_iconst (v := 2) hx hb dX0_monthLength_41 (by decide) ?_
            refine lv_icmp_ne (tgt := 54) hx hb dX0_monthLength_42 (by decide) (fun c27 => ?_) (fun c27 => ?_)
            · replace hf := if_f hf c27
              refine va_gets hx hb hZ.1.1 hS hown k20 (fun _ h9 => h9) dX0_monthLength_54 ?_
              refine lv_iload_n hx hb dX0_monthLength_57 rfl (lv_at hl 1 rfl) ?_
              refine lv_iconst (v := 1) hx hb dX0_monthLength_58 (by decide) ?_
              refine lv_isub hx hb dX0_monthLength_59 ?_
              obtain ⟨x28, ex28, hf⟩ := bnd_e hf
              refine w_nm ex28 ?_
              obtain ⟨hi29, hf⟩ := ix_e hf
              refine va_ti hx hb hZ.1.2 hS hi29 (v := .int (tML (Int32.toNatClampNeg x28))) rfl dX0_monthLength_60 ?_
              exact W.iret (v := (tML (Int32.toNatClampNeg x28))) hx hb hr (fun t ht _ => ⟨(tML (Int32.toNatClampNeg x28)), rfl, so_i hf, ht⟩) (fun _ h => by cases h) dX0_monthLength_61
            · replace hf := if_t hf c27
              refine lv_iload_n hx hb dX0_monthLength_45 rfl (lv_at hl 0 rfl) ?_
              refine lv_if_eq (tgt := 54) hx hb dX0_monthLength_46 (by decide) (fun c30 => absurd c30 (by decide)) (fun _ => ?_)
              refine lv_bipush (v := 29) hx hb dX0_monthLength_49 (by decide) ?_
              refine lv_goto (tgt := 61) hx hb dX0_monthLength_51 (by decide) ?_
              exact W.iret (v := 29) hx hb hr (fun t ht _ => ⟨29, rfl, so_i hf, ht⟩) (fun _ h => by cases h) dX0_monthLength_61
    · replace hf := if_f hf c2
      refine lv_iconst (v := 0) hx hb dX0_monthLength_11 (by decide) ?_
      exact W.iret (v := 0) hx hb hr (fun t ht _ => ⟨0, rfl, so_i hf, ht⟩) (fun _ h => by cases h) dX0_monthLength_12
set_option maxHeartbeats 4000000 in
set_option maxRecDepth 100000 in
theorem c_X0_dayNumber (l : Launch) (tb : Nat → Nat) (p0 p1 p2 : Int32) (r : Int32) (hf : fX0_dayNumber p0 p1 p2 = some r) : MetT l yX0_dayNumber wsX0_dayNumber ({ frames := 1, cells := 0, slots := 0, locals := 22 }) [.int p0, .int p1, .int p2] tb r := by
  refine met_of (cc := cX0_dayNumber) (maxL := 5) (ret := (some .int)) (by decide) rfl (Nat.le_of_ble_eq_true rfl) ?_
  intro p e s m below meth c hx hb hr hml hts hown hlk hG ls hl
  have hown : s.vm.findClass RX0 = some m.cls := hown
  have hZ : zz tb (fun _ => False) s s.heap := hG
  have hS : va_S (fun _ => False) s.heap s.heap [] := va_S.rf
  have hl : lv_has ls 5 [(0, .int p0), (1, .int p1), (2, .int p2)] := hl
  have l42 : ∀ (n : Nat) (x_1 x_2 x_3 x_4 : Int32) (ls : Array Slot), lv_has ls 5 [(1, .int x_1), (2, .int x_2), (3, .int x_3), (4, .int x_4)] → fX0_dayNumber_42 n x_1 x_2 x_3 x_4 = some r → W p l e ({ frames := 1, cells := 0, slots := 0, locals := 22 }) s m ([.int p0, .int p1, .int p2] : List Value).toArray below meth c s.heap [] 0 0 (MQ below (vp_Si (fun z => z = r)) ([.int p0, .int p1, .int p2] : List Value).toArray s 0 0 (fun _ => False)) (F0 m 42 ls []) := by
    intro n
    induction n with
    | zero =>
      intro x_1 x_2 x_3 x_4 ls hl hf
      cases hf
    | succ n ih42 =>
      intro x_1 x_2 x_3 x_4 ls hl hf
      unfold fX0_dayNumber_42 at hf
      refine lv_iload hx hb dX0_dayNumber_42 (lv_at hl 3 rfl) ?_
      refine lv_iload_n hx hb dX0_dayNumber_44 rfl (lv_at hl 0 rfl) ?_
      refine lv_icmp_ge (tgt := 63) hx hb dX0_dayNumber_45 (by decide) (fun c1 => ?_) (fun c1 => ?_)
      · replace hf := if_t hf c1
        refine lv_iload_n hx hb dX0_dayNumber_63 rfl (lv_at hl 2 rfl) ?_
        exact W.iret (v := x_3) hx hb hr (fun t ht _ => ⟨x_3, rfl, so_i hf, ht⟩) (fun _ h => by cases h) dX0_dayNumber_64
      · replace hf := if_f hf c1
        refine lv_iload_n hx hb dX0_dayNumber_48 rfl (lv_at hl 2 rfl) ?_
        refine lv_iload hx hb dX0_dayNumber_49 (lv_at hl 3 rfl) ?_
        refine lv_iload_n hx hb dX0_dayNumber_51 rfl (lv_at hl 1 rfl) ?_
        obtain ⟨o2, ho2, hf⟩ := ob_e hf
        refine w_callT (As := [.int x_4, .int x_2]) (rest := [.int x_3]) ⟨hx, hb, hml, hown, hts⟩ (c_X0_monthLength l tb x_4 x_2 o2 ho2) (va_cwS 2 hts gX0_dayNumber_X0_monthLength rfl rfl rfl (by decide +kernel) ⟨Nat.le_of_ble_eq_true rfl, Nat.le_of_ble_eq_true rfl⟩) hZ hS rfl hl.1 rfl (Nat.le_of_ble_eq_true rfl) ⟨Nat.zero_le _, Nat.zero_le _⟩ dX0_dayNumber_52 ?_
        refine lv_iadd hx hb dX0_dayNumber_55 ?_
        obtain ⟨x3, ex3, hf⟩ := bnd_e hf
        refine w_nm ex3 ?_
        refine lv_istore_n (lv' := [(3, .int x3), (1, .int x_1), (2, .int x_2), (4, .int x_4)]) hx hb dX0_dayNumber_56 rfl hl (by decide) rfl (fun ls hl => ?_)
        obtain ⟨x4, ex4, hf⟩ := bnd_e hf
        refine lv_iinc (v := x4) (lv' := [(4, .int x4), (3, .int x3), (1, .int x_1), (2, .int x_2)]) hx hb dX0_dayNumber_57 hl (k := 3) rfl (by rw [ex4]; rfl) (by decide) rfl (fun ls hl => ?_)
        refine lv_goto (tgt := 42) hx hb dX0_dayNumber_60 (by decide) ?_
        exact ih42 x_1 x_2 x3 x4 _ (lv_sub hl [2, 3, 1, 0] rfl) hf
  unfold fX0_dayNumber at hf
  refine lv_iload_n hx hb dX0_dayNumber_0 rfl (lv_at hl 2 rfl) ?_
  refine lv_sipush (v := 1900) hx hb dX0_dayNumber_1 (by decide) ?_
  refine lv_icmp_lt (tgt := 28) hx hb dX0_dayNumber_4 (by decide) (fun c5 => ?_) (fun c5 => ?_)
  · replace hf := if_t hf c5
    refine lv_iconst (v := -1) hx hb dX0_dayNumber_28 (by decide) ?_
    exact W.iret (v := (-1)) hx hb hr (fun t ht _ => ⟨(-1), rfl, so_i hf, ht⟩) (fun _ h => by cases h) dX0_dayNumber_29
  · replace hf := if_f hf c5
    refine lv_iload_n hx hb dX0_dayNumber_7 rfl (lv_at hl 2 rfl) ?_
    refine lv_sipush (v := 2199) hx hb dX0_dayNumber_8 (by decide) ?_
    refine lv_icmp_gt (tgt := 28) hx hb dX0_dayNumber_11 (by decide) (fun c6 => ?_) (fun c6 => ?_)
    · replace hf := if_t hf c6
      refine lv_iconst (v := -1) hx hb dX0_dayNumber_28 (by decide) ?_
      exact W.iret (v := (-1)) hx hb hr (fun t ht _ => ⟨(-1), rfl, so_i hf, ht⟩) (fun _ h => by cases h) dX0_dayNumber_29
    · replace hf := if_f hf c6
      refine lv_iload_n hx hb dX0_dayNumber_14 rfl (lv_at hl 0 rfl) ?_
      refine lv_iconst (v := 1) hx hb dX0_dayNumber_15 (by decide) ?_
      refine lv_icmp_lt (tgt := 28) hx hb dX0_dayNumber_16 (by decide) (fun c7 => ?_) (fun c7 => ?_)
      · replace hf := if_t hf c7
        refine lv_iconst (v := -1) hx hb dX0_dayNumber_28 (by decide) ?_
        exact W.iret (v := (-1)) hx hb hr (fun t ht _ => ⟨(-1), rfl, so_i hf, ht⟩) (fun _ h => by cases h) dX0_dayNumber_29
      · replace hf := if_f hf c7
        refine lv_iload_n hx hb dX0_dayNumber_19 rfl (lv_at hl 0 rfl) ?_
        refine lv_iload_n hx hb dX0_dayNumber_20 rfl (lv_at hl 1 rfl) ?_
        refine lv_iload_n hx hb dX0_dayNumber_21 rfl (lv_at hl 2 rfl) ?_
        obtain ⟨o8, ho8, hf⟩ := ob_e hf
        refine w_callT (As := [.int p1, .int p2]) (rest := [.int p0]) ⟨hx, hb, hml, hown, hts⟩ (c_X0_monthLength l tb p1 p2 o8 ho8) (va_cwS 2 hts gX0_dayNumber_X0_monthLength rfl rfl rfl (by decide +kernel) ⟨Nat.le_of_ble_eq_true rfl, Nat.le_of_ble_eq_true rfl⟩) hZ hS rfl hl.1 rfl (Nat.le_of_ble_eq_true rfl) ⟨Nat.zero_le _, Nat.zero_le _⟩ dX0_dayNumber_22 ?_
        refine lv_icmp_le (tgt := 30) hx hb dX0_dayNumber_25 (by decide) (fun c9 => ?_) (fun c9 => ?_)
        · replace hf := if_t hf c9
          refine lv_iload_n hx hb dX0_dayNumber_30 rfl (lv_at hl 2 rfl) ?_
          obtain ⟨o10, ho10, hf⟩ := ob_e hf
          refine w_callT (As := [.int p2]) (rest := []) ⟨hx, hb, hml, hown, hts⟩ (c_X0_yearStart l tb p2 o10 ho10) (va_cwS 1 hts gX0_dayNumber_X0_yearStart rfl rfl rfl (by decide +kernel) ⟨Nat.le_of_ble_eq_true rfl, Nat.le_of_ble_eq_true rfl⟩) hZ hS rfl hl.1 rfl (Nat.le_of_ble_eq_true rfl) ⟨Nat.zero_le _, Nat.zero_le _⟩ dX0_dayNumber_31 ?_
          refine lv_iload_n hx hb dX0_dayNumber_34 rfl (lv_at hl 0 rfl) ?_
          refine lv_iadd hx hb dX0_dayNumber_35 ?_
          refine lv_iconst (v := 1) hx hb dX0_dayNumber_36 (by decide) ?_
          refine lv_isub hx hb dX0_dayNumber_37 ?_
          obtain ⟨x11, ex11, hf⟩ := bnd_e hf
          refine w_nm ex11 ?_
          refine lv_istore_n (lv' := [(3, .int x11), (0, .int p0), (1, .int p1), (2, .int p2)]) hx hb dX0_dayNumber_38 rfl hl (by decide) rfl (fun ls hl => ?_)
          refine lv_iconst (v := 1) hx hb dX0_dayNumber_39 (by decide) ?_
          refine lv_istore (lv' := [(4, .int 1), (3, .int x11), (0, .int p0), (1, .int p1), (2, .int p2)]) hx hb dX0_dayNumber_40 hl (by decide) rfl (fun ls hl => ?_)
          exact l42 1000 p1 p2 x11 1 _ (lv_sub hl [3, 4, 1, 0] rfl) hf
        · replace hf := if_f hf c9
          refine lv_iconst (v := -1) hx hb dX0_dayNumber_28 (by decide) ?_
          exact W.iret (v := (-1)) hx hb hr (fun t ht _ => ⟨(-1), rfl, so_i hf, ht⟩) (fun _ h => by cases h) dX0_dayNumber_29
set_option maxHeartbeats 4000000 in
set_option maxRecDepth 100000 in
theorem c_X0_yearOf (l : Launch) (tb : Nat → Nat) (p0 : Int32) (r : Int32) (hf : fX0_yearOf p0 = some r) : MetT l yX0_yearOf wsX0_yearOf ({ frames := 1, cells := 0, slots := 0, locals := 22 }) [.int p0] tb r := by
  refine met_of (cc := cX0_yearOf) (maxL := 2) (ret := (some .int)) (by decide) rfl (Nat.le_of_ble_eq_true rfl) ?_
  intro p e s m below meth c hx hb hr hml hts hown hlk hG ls hl
  have hown : s.vm.findClass RX0 = some m.cls := hown
  have hZ : zz tb (fun _ => False) s s.heap := hG
  have hS : va_S (fun _ => False) s.heap s.heap [] := va_S.rf
  have hl : lv_has ls 2 [(0, .int p0)] := hl
  have l10 : ∀ (n : Nat) (x_0 x_1 : Int32) (ls : Array Slot), lv_has ls 2 [(0, .int x_0), (1, .int x_1)] → fX0_yearOf_10 n x_0 x_1 = some r → W p l e ({ frames := 1, cells := 0, slots := 0, locals := 22 }) s m ([.int p0] : List Value).toArray below meth c s.heap [] 0 0 (MQ below (vp_Si (fun z => z = r)) ([.int p0] : List Value).toArray s 0 0 (fun _ => False)) (F0 m 10 ls []) := by
    intro n
    induction n with
    | zero =>
      intro x_0 x_1 ls hl hf
      cases hf
    | succ n ih10 =>
      intro x_0 x_1 ls hl hf
      unfold fX0_yearOf_10 at hf
      refine lv_iload_n hx hb dX0_yearOf_10 rfl (lv_at hl 1 rfl) ?_
      refine lv_sipush (v := 2199) hx hb dX0_yearOf_11 (by decide) ?_
      refine lv_icmp_ge (tgt := 33) hx hb dX0_yearOf_14 (by decide) (fun c1 => ?_) (fun c1 => ?_)
      · replace hf := if_t hf c1
        refine lv_iload_n hx hb dX0_yearOf_33 rfl (lv_at hl 1 rfl) ?_
        exact W.iret (v := x_1) hx hb hr (fun t ht _ => ⟨x_1, rfl, so_i hf, ht⟩) (fun _ h => by cases h) dX0_yearOf_34
      · replace hf := if_f hf c1
        refine lv_iload_n hx hb dX0_yearOf_17 rfl (lv_at hl 1 rfl) ?_
        refine lv_iconst (v := 1) hx hb dX0_yearOf_18 (by decide) ?_
        refine lv_iadd hx hb dX0_yearOf_19 ?_
        obtain ⟨o2, ho2, hf⟩ := ob_e hf
        refine w_callT (As := [.int (x_1 + 1)]) (rest := []) ⟨hx, hb, hml, hown, hts⟩ (c_X0_yearStart l tb (x_1 + 1) o2 ho2) (va_cwS 1 hts gX0_yearOf_X0_yearStart rfl rfl rfl (by decide +kernel) ⟨Nat.le_of_ble_eq_true rfl, Nat.le_of_ble_eq_true rfl⟩) hZ hS rfl hl.1 rfl (Nat.le_of_ble_eq_true rfl) ⟨Nat.zero_le _, Nat.zero_le _⟩ dX0_yearOf_20 ?_
        refine lv_iload_n hx hb dX0_yearOf_23 rfl (lv_at hl 0 rfl) ?_
        refine lv_icmp_gt (tgt := 33) hx hb dX0_yearOf_24 (by decide) (fun c3 => ?_) (fun c3 => ?_)
        · replace hf := if_t hf c3
          refine lv_iload_n hx hb dX0_yearOf_33 rfl (lv_at hl 1 rfl) ?_
          exact W.iret (v := x_1) hx hb hr (fun t ht _ => ⟨x_1, rfl, so_i hf, ht⟩) (fun _ h => by cases h) dX0_yearOf_34
        · replace hf := if_f hf c3
          obtain ⟨x4, ex4, hf⟩ := bnd_e hf
          refine lv_iinc (v := x4) (lv' := [(1, .int x4), (0, .int x_0)]) hx hb dX0_yearOf_27 hl (k := 1) rfl (by rw [ex4]; rfl) (by decide) rfl (fun ls hl => ?_)
          refine lv_goto (tgt := 10) hx hb dX0_yearOf_30 (by decide) ?_
          exact ih10 x_0 x4 _ (lv_sub hl [1, 0] rfl) hf
  unfold fX0_yearOf at hf
  refine lv_sipush (v := 1900) hx hb dX0_yearOf_0 (by decide) ?_
  refine lv_iload_n hx hb dX0_yearOf_3 rfl (lv_at hl 0 rfl) ?_
  refine lv_sipush (v := 366) hx hb dX0_yearOf_4 (by decide) ?_
  refine lv_idiv hx hb dX0_yearOf_7 (by decide) ?_
  refine lv_iadd hx hb dX0_yearOf_8 ?_
  obtain ⟨x5, ex5, hf⟩ := bnd_e hf
  refine w_nm ex5 ?_
  refine lv_istore_n (lv' := [(1, .int x5), (0, .int p0)]) hx hb dX0_yearOf_9 rfl hl (by decide) rfl (fun ls hl => ?_)
  exact l10 1000 p0 x5 _ (lv_sub hl [1, 0] rfl) hf
set_option maxHeartbeats 4000000 in
set_option maxRecDepth 100000 in
theorem c_X0_monthOf (l : Launch) (tb : Nat → Nat) (p0 : Int32) (r : Int32) (hf : fX0_monthOf p0 = some r) : MetT l yX0_monthOf wsX0_monthOf ({ frames := 2, cells := 0, slots := 0, locals := 43 }) [.int p0] tb r := by
  refine met_of (cc := cX0_monthOf) (maxL := 4) (ret := (some .int)) (by decide) rfl (Nat.le_of_ble_eq_true rfl) ?_
  intro p e s m below meth c hx hb hr hml hts hown hlk hG ls hl
  have hown : s.vm.findClass RX0 = some m.cls := hown
  have hZ : zz tb (fun _ => False) s s.heap := hG
  have hS : va_S (fun _ => False) s.heap s.heap [] := va_S.rf
  have hl : lv_has ls 4 [(0, .int p0)] := hl
  have l14 : ∀ (n : Nat) (x_1 x_2 x_3 : Int32) (ls : Array Slot), lv_has ls 4 [(1, .int x_1), (2, .int x_2), (3, .int x_3)] → fX0_monthOf_14 n x_1 x_2 x_3 = some r → W p l e ({ frames := 2, cells := 0, slots := 0, locals := 43 }) s m ([.int p0] : List Value).toArray below meth c s.heap [] 0 0 (MQ below (vp_Si (fun z => z = r)) ([.int p0] : List Value).toArray s 0 0 (fun _ => False)) (F0 m 14 ls []) := by
    intro n
    induction n with
    | zero =>
      intro x_1 x_2 x_3 ls hl hf
      cases hf
    | succ n ih14 =>
      intro x_1 x_2 x_3 ls hl hf
      unfold fX0_monthOf_14 at hf
      refine lv_iload_n hx hb dX0_monthOf_14 rfl (lv_at hl 2 rfl) ?_
      refine lv_bipush (v := 12) hx hb dX0_monthOf_15 (by decide) ?_
      refine lv_icmp_ge (tgt := 43) hx hb dX0_monthOf_17 (by decide) (fun c1 => ?_) (fun c1 => ?_)
      · replace hf := if_t hf c1
        refine lv_iload_n hx hb dX0_monthOf_43 rfl (lv_at hl 2 rfl) ?_
        exact W.iret (v := x_3) hx hb hr (fun t ht _ => ⟨x_3, rfl, so_i hf, ht⟩) (fun _ h => by cases h) dX0_monthOf_44
      · replace hf := if_f hf c1
        refine lv_iload_n hx hb dX0_monthOf_20 rfl (lv_at hl 1 rfl) ?_
        refine lv_iload_n hx hb dX0_monthOf_21 rfl (lv_at hl 2 rfl) ?_
        refine lv_iload_n hx hb dX0_monthOf_22 rfl (lv_at hl 0 rfl) ?_
        obtain ⟨o2, ho2, hf⟩ := ob_e hf
        refine w_callT (As := [.int x_3, .int x_1]) (rest := [.int x_2]) ⟨hx, hb, hml, hown, hts⟩ (c_X0_monthLength l tb x_3 x_1 o2 ho2) (va_cwS 2 hts gX0_monthOf_X0_monthLength rfl rfl rfl (by decide +kernel) ⟨Nat.le_of_ble_eq_true rfl, Nat.le_of_ble_eq_true rfl⟩) hZ hS rfl hl.1 rfl (Nat.le_of_ble_eq_true rfl) ⟨Nat.zero_le _, Nat.zero_le _⟩ dX0_monthOf_23 ?_
        refine lv_icmp_lt (tgt := 43) hx hb dX0_monthOf_26 (by decide) (fun c3 => ?_) (fun c3 => ?_)
        · replace hf := if_t hf c3
          refine lv_iload_n hx hb dX0_monthOf_43 rfl (lv_at hl 2 rfl) ?_
          exact W.iret (v := x_3) hx hb hr (fun t ht _ => ⟨x_3, rfl, so_i hf, ht⟩) (fun _ h => by cases h) dX0_monthOf_44
        · replace hf := if_f hf c3
          refine lv_iload_n hx hb dX0_monthOf_29 rfl (lv_at hl 1 rfl) ?_
          refine lv_iload_n hx hb dX0_monthOf_30 rfl (lv_at hl 2 rfl) ?_
          refine lv_iload_n hx hb dX0_monthOf_31 rfl (lv_at hl 0 rfl) ?_
          obtain ⟨o4, ho4, hf⟩ := ob_e hf
          refine w_callT (As := [.int x_3, .int x_1]) (rest := [.int x_2]) ⟨hx, hb, hml, hown, hts⟩ (c_X0_monthLength l tb x_3 x_1 o4 ho4) (va_cwS 2 hts gX0_monthOf_X0_monthLength rfl rfl rfl (by decide +kernel) ⟨Nat.le_of_ble_eq_true rfl, Nat.le_of_ble_eq_true rfl⟩) hZ hS rfl hl.1 rfl (Nat.le_of_ble_eq_true rfl) ⟨Nat.zero_le _, Nat.zero_le _⟩ dX0_monthOf_32 ?_
          refine lv_isub hx hb dX0_monthOf_35 ?_
          obtain ⟨x5, ex5, hf⟩ := bnd_e hf
          refine w_nm ex5 ?_
          refine lv_istore_n (lv' := [(2, .int x5), (1, .int x_1), (3, .int x_3)]) hx hb dX0_monthOf_36 rfl hl (by decide) rfl (fun ls hl => ?_)
          obtain ⟨x6, ex6, hf⟩ := bnd_e hf
          refine lv_iinc (v := x6) (lv' := [(3, .int x6), (2, .int x5), (1, .int x_1)]) hx hb dX0_monthOf_37 hl (k := 2) rfl (by rw [ex6]; rfl) (by decide) rfl (fun ls hl => ?_)
          refine lv_goto (tgt := 14) hx hb dX0_monthOf_40 (by decide) ?_
          exact ih14 x_1 x5 x6 _ (lv_sub hl [2, 1, 0] rfl) hf
  unfold fX0_monthOf at hf
  refine lv_iload_n hx hb dX0_monthOf_0 rfl (lv_at hl 0 rfl) ?_
  obtain ⟨o7, ho7, hf⟩ := ob_e hf
  refine w_callT (As := [.int p0]) (rest := []) ⟨hx, hb, hml, hown, hts⟩ (c_X0_yearOf l tb p0 o7 ho7) (va_cwS 1 hts gX0_monthOf_X0_yearOf rfl rfl rfl (by decide +kernel) ⟨Nat.le_of_ble_eq_true rfl, Nat.le_of_ble_eq_true rfl⟩) hZ hS rfl hl.1 rfl (Nat.le_of_ble_eq_true rfl) ⟨Nat.zero_le _, Nat.zero_le _⟩ dX0_monthOf_1 ?_
  refine lv_istore_n (lv' := [(1, .int o7), (0, .int p0)]) hx hb dX0_monthOf_4 rfl hl (by decide) rfl (fun ls hl => ?_)
  refine lv_iload_n hx hb dX0_monthOf_5 rfl (lv_at hl 1 rfl) ?_
  refine lv_iload_n hx hb dX0_monthOf_6 rfl (lv_at hl 0 rfl) ?_
  obtain ⟨o8, ho8, hf⟩ := ob_e hf
  refine w_callT (As := [.int o7]) (rest := [.int p0]) ⟨hx, hb, hml, hown, hts⟩ (c_X0_yearStart l tb o7 o8 ho8) (va_cwS 1 hts gX0_monthOf_X0_yearStart rfl rfl rfl (by decide +kernel) ⟨Nat.le_of_ble_eq_true rfl, Nat.le_of_ble_eq_true rfl⟩) hZ hS rfl hl.1 rfl (Nat.le_of_ble_eq_true rfl) ⟨Nat.zero_le _, Nat.zero_le _⟩ dX0_monthOf_7 ?_
  refine lv_isub hx hb dX0_monthOf_10 ?_
  obtain ⟨x9, ex9, hf⟩ := bnd_e hf
  refine w_nm ex9 ?_
  refine lv_istore_n (lv' := [(2, .int x9), (1, .int o7), (0, .int p0)]) hx hb dX0_monthOf_11 rfl hl (by decide) rfl (fun ls hl => ?_)
  refine lv_iconst (v := 1) hx hb dX0_monthOf_12 (by decide) ?_
  refine lv_istore_n (lv' := [(3, .int 1), (2, .int x9), (1, .int o7), (0, .int p0)]) hx hb dX0_monthOf_13 rfl hl (by decide) rfl (fun ls hl => ?_)
  exact l14 1000 o7 x9 1 _ (lv_sub hl [2, 1, 0] rfl) hf
set_option maxHeartbeats 4000000 in
set_option maxRecDepth 100000 in
theorem c_X0_dayOfMonth (l : Launch) (tb : Nat → Nat) (p0 : Int32) (r : Int32) (hf : fX0_dayOfMonth p0 = some r) : MetT l yX0_dayOfMonth wsX0_dayOfMonth ({ frames := 3, cells := 0, slots := 0, locals := 66 }) [.int p0] tb r := by
  refine met_of (cc := cX0_dayOfMonth) (maxL := 1) (ret := (some .int)) (by decide) rfl (Nat.le_of_ble_eq_true rfl) ?_
  intro p e s m below meth c hx hb hr hml hts hown hlk hG ls hl
  have hown : s.vm.findClass RX0 = some m.cls := hown
  have hZ : zz tb (fun _ => False) s s.heap := hG
  have hS : va_S (fun _ => False) s.heap s.heap [] := va_S.rf
  have hl : lv_has ls 1 [(0, .int p0)] := hl
  unfold fX0_dayOfMonth at hf
  refine lv_iload_n hx hb dX0_dayOfMonth_0 rfl (lv_at hl 0 rfl) ?_
  refine lv_iconst (v := 1) hx hb dX0_dayOfMonth_1 (by decide) ?_
  refine lv_iload_n hx hb dX0_dayOfMonth_2 rfl (lv_at hl 0 rfl) ?_
  obtain ⟨o1, ho1, hf⟩ := ob_e hf
  refine w_callT (As := [.int p0]) (rest := [.int 1, .int p0]) ⟨hx, hb, hml, hown, hts⟩ (c_X0_monthOf l tb p0 o1 ho1) (va_cwS 1 hts gX0_dayOfMonth_X0_monthOf rfl rfl rfl (by decide +kernel) ⟨Nat.le_of_ble_eq_true rfl, Nat.le_of_ble_eq_true rfl⟩) hZ hS rfl hl.1 rfl (Nat.le_of_ble_eq_true rfl) ⟨Nat.zero_le _, Nat.zero_le _⟩ dX0_dayOfMonth_3 ?_
  refine lv_iload_n hx hb dX0_dayOfMonth_6 rfl (lv_at hl 0 rfl) ?_
  obtain ⟨o2, ho2, hf⟩ := ob_e hf
  refine w_callT (As := [.int p0]) (rest := [.int o1, .int 1, .int p0]) ⟨hx, hb, hml, hown, hts⟩ (c_X0_yearOf l tb p0 o2 ho2) (va_cwS 1 hts gX0_dayOfMonth_X0_yearOf rfl rfl rfl (by decide +kernel) ⟨Nat.le_of_ble_eq_true rfl, Nat.le_of_ble_eq_true rfl⟩) hZ hS rfl hl.1 rfl (Nat.le_of_ble_eq_true rfl) ⟨Nat.zero_le _, Nat.zero_le _⟩ dX0_dayOfMonth_7 ?_
  obtain ⟨o3, ho3, hf⟩ := ob_e hf
  refine w_callT (As := [.int 1, .int o1, .int o2]) (rest := [.int p0]) ⟨hx, hb, hml, hown, hts⟩ (c_X0_dayNumber l tb 1 o1 o2 o3 ho3) (va_cwS 3 hts gX0_dayOfMonth_X0_dayNumber rfl rfl rfl (by decide +kernel) ⟨Nat.le_of_ble_eq_true rfl, Nat.le_of_ble_eq_true rfl⟩) hZ hS rfl hl.1 rfl (Nat.le_of_ble_eq_true rfl) ⟨Nat.zero_le _, Nat.zero_le _⟩ dX0_dayOfMonth_10 ?_
  refine lv_isub hx hb dX0_dayOfMonth_13 ?_
  refine lv_iconst (v := 1) hx hb dX0_dayOfMonth_14 (by decide) ?_
  refine lv_iadd hx hb dX0_dayOfMonth_15 ?_
  exact W.iret (v := ((p0 - o3) + 1)) hx hb hr (fun t ht _ => ⟨((p0 - o3) + 1), rfl, so_i hf, ht⟩) (fun _ h => by cases h) dX0_dayOfMonth_16
set_option maxHeartbeats 4000000 in
set_option maxRecDepth 100000 in
theorem c_X8_isPrice (l : Launch) (tb : Nat → Nat) (p0 : Int32) (r : Int32) (hf : fX8_isPrice p0 = some r) : MetT l yX8_isPrice wsX8_isPrice ({ frames := 0, cells := 0, slots := 0, locals := 0 }) [.int p0] tb r := by
  refine met_of (cc := cX8_isPrice) (maxL := 1) (ret := (some .boolean)) (by decide) rfl (Nat.le_of_ble_eq_true rfl) ?_
  intro p e s m below meth c hx hb hr hml hts hown hlk hG ls hl
  have hown : s.vm.findClass RX8 = some m.cls := hown
  have hZ : zz tb (fun _ => False) s s.heap := hG
  have hS : va_S (fun _ => False) s.heap s.heap [] := va_S.rf
  have hl : lv_has ls 1 [(0, .int p0)] := hl
  unfold fX8_isPrice at hf
  refine lv_iload_n hx hb dX8_isPrice_0 rfl (lv_at hl 0 rfl) ?_
  refine lv_if_lt (tgt := 15) hx hb dX8_isPrice_1 (by decide) (fun c1 => ?_) (fun c1 => ?_)
  · replace hf := if_t hf c1
    refine lv_iconst (v := 0) hx hb dX8_isPrice_15 (by decide) ?_
    exact W.zret (v := 0) hx hb hr rfl (fun t ht _ => ⟨0, rfl, so_i hf, ht⟩) (fun _ h => by cases h) dX8_isPrice_16
  · replace hf := if_f hf c1
    refine lv_iload_n hx hb dX8_isPrice_4 rfl (lv_at hl 0 rfl) ?_
    refine lv_sipush (v := 1000) hx hb dX8_isPrice_5 (by decide) ?_
    refine lv_icmp_gt (tgt := 15) hx hb dX8_isPrice_8 (by decide) (fun c2 => ?_) (fun c2 => ?_)
    · replace hf := if_t hf c2
      refine lv_iconst (v := 0) hx hb dX8_isPrice_15 (by decide) ?_
      exact W.zret (v := 0) hx hb hr rfl (fun t ht _ => ⟨0, rfl, so_i hf, ht⟩) (fun _ h => by cases h) dX8_isPrice_16
    · replace hf := if_f hf c2
      refine lv_iconst (v := 1) hx hb dX8_isPrice_11 (by decide) ?_
      refine lv_goto (tgt := 16) hx hb dX8_isPrice_12 (by decide) ?_
      exact W.zret (v := 1) hx hb hr rfl (fun t ht _ => ⟨1, rfl, so_i hf, ht⟩) (fun _ h => by cases h) dX8_isPrice_16
set_option maxHeartbeats 4000000 in
set_option maxRecDepth 100000 in
theorem c_X4_bytesIn (l : Launch) (tb : Nat → Nat) (p0 : Int32) (r : Int32) (hf : fX4_bytesIn p0 = some r) : MetT l yX4_bytesIn wsX4_bytesIn ({ frames := 0, cells := 0, slots := 0, locals := 0 }) [.int p0] tb r := by
  refine met_of (cc := cX4_bytesIn) (maxL := 3) (ret := (some .int)) (by decide) rfl (Nat.le_of_ble_eq_true rfl) ?_
  intro p e s m below meth c hx hb hr hml hts hown hlk hG ls hl
  have hown : s.vm.findClass RX4 = some m.cls := hown
  have hZ : zz tb (fun _ => False) s s.heap := hG
  have hS : va_S (fun _ => False) s.heap s.heap [] := va_S.rf
  have hl : lv_has ls 3 [(0, .int p0)] := hl
  have l5 : ∀ (n : Nat) (x_0 x_1 x_2 : Int32) (ls : Array Slot), lv_has ls 3 [(0, .int x_0), (1, .int x_1), (2, .int x_2)] → fX4_bytesIn_5 n x_0 x_1 x_2 = some r → W p l e ({ frames := 0, cells := 0, slots := 0, locals := 0 }) s m ([.int p0] : List Value).toArray below meth c s.heap [] 0 0 (MQ below (vp_Si (fun z => z = r)) ([.int p0] : List Value).toArray s 0 0 (fun _ => False)) (F0 m 5 ls []) := by
    intro n
    induction n with
    | zero =>
      intro x_0 x_1 x_2 ls hl hf
      cases hf
    | succ n ih5 =>
      intro x_0 x_1 x_2 ls hl hf
      unfold fX4_bytesIn_5 at hf
      refine lv_iload_n hx hb dX4_bytesIn_5 rfl (lv_at hl 2 rfl) ?_
      refine lv_if_lt (tgt := 28) hx hb dX4_bytesIn_6 (by decide) (fun c1 => ?_) (fun c1 => ?_)
      · replace hf := if_t hf c1
        refine lv_iload_n hx hb dX4_bytesIn_28 rfl (lv_at hl 1 rfl) ?_
        exact W.iret (v := x_1) hx hb hr (fun t ht _ => ⟨x_1, rfl, so_i hf, ht⟩) (fun _ h => by cases h) dX4_bytesIn_29
      · replace hf := if_f hf c1
        refine lv_iload_n hx hb dX4_bytesIn_9 rfl (lv_at hl 0 rfl) ?_
        refine lv_iload_n hx hb dX4_bytesIn_10 rfl (lv_at hl 2 rfl) ?_
        refine lv_iushr hx hb dX4_bytesIn_11 rfl ?_
        refine lv_sipush (v := 255) hx hb dX4_bytesIn_12 (by decide) ?_
        refine lv_iand hx hb dX4_bytesIn_15 ?_
        refine lv_if_eq (tgt := 22) hx hb dX4_bytesIn_16 (by decide) (fun c2 => ?_) (fun c2 => ?_)
        · replace hf := if_t hf c2
          obtain ⟨x3, ex3, hf⟩ := bnd_e hf
          refine lv_iinc (v := x3) (lv' := [(2, .int x3), (0, .int x_0), (1, .int x_1)]) hx hb dX4_bytesIn_22 hl (k := 2) rfl (by rw [ex3]; rfl) (by decide) rfl (fun ls hl => ?_)
          refine lv_goto (tgt := 5) hx hb dX4_bytesIn_25 (by decide) ?_
          exact ih5 x_0 x_1 x3 _ (lv_sub hl [1, 2, 0] rfl) hf
        · replace hf := if_f hf c2
          obtain ⟨x4, ex4, hf⟩ := bnd_e hf
          refine lv_iinc (v := x4) (lv' := [(1, .int x4), (0, .int x_0), (2, .int x_2)]) hx hb dX4_bytesIn_19 hl (k := 1) rfl (by rw [ex4]; rfl) (by decide) rfl (fun ls hl => ?_)
          obtain ⟨x5, ex5, hf⟩ := bnd_e hf
          refine lv_iinc (v := x5) (lv' := [(2, .int x5), (1, .int x4), (0, .int x_0)]) hx hb dX4_bytesIn_22 hl (k := 2) rfl (by rw [ex5]; rfl) (by decide) rfl (fun ls hl => ?_)
          refine lv_goto (tgt := 5) hx hb dX4_bytesIn_25 (by decide) ?_
          exact ih5 x_0 x4 x5 _ (lv_sub hl [2, 1, 0] rfl) hf
  unfold fX4_bytesIn at hf
  refine lv_iconst (v := 0) hx hb dX4_bytesIn_0 (by decide) ?_
  refine lv_istore_n (lv' := [(1, .int 0), (0, .int p0)]) hx hb dX4_bytesIn_1 rfl hl (by decide) rfl (fun ls hl => ?_)
  refine lv_bipush (v := 24) hx hb dX4_bytesIn_2 (by decide) ?_
  refine lv_istore_n (lv' := [(2, .int 24), (1, .int 0), (0, .int p0)]) hx hb dX4_bytesIn_4 rfl hl (by decide) rfl (fun ls hl => ?_)
  exact l5 1000 p0 0 24 _ (lv_sub hl [2, 1, 0] rfl) hf
set_option maxHeartbeats 4000000 in
set_option maxRecDepth 100000 in
theorem c_J9_floorMod_7cf53 (l : Launch) (tb : Nat → Nat) (p0 p1 : Int32) (r : Int32) (hf : fJ9_floorMod_7cf53 p0 p1 = some r) : MetT l yJ9_floorMod_7cf53 wsJ9_floorMod_7cf53 ({ frames := 0, cells := 0, slots := 0, locals := 0 }) [.int p0, .int p1] tb r := by
  refine met_ofF (cc := cJ9_floorMod_7cf53) (maxL := 3) (ret := (some .int)) (by decide +kernel) rfl (Nat.le_of_ble_eq_true rfl) ?_
  intro p e s m below meth c hx hb hr hml hts hown hlk hG ls hl
  have hown : s.vm.findClass RJ9 = some m.cls := hown
  have hZ : zz tb (fun _ => False) s s.heap := hG
  have hS : va_S (fun _ => False) s.heap s.heap [] := va_S.rf
  have hl : lv_has ls 3 [(0, .int p0), (1, .int p1)] := hl
  unfold fJ9_floorMod_7cf53 at hf
  refine lv_iload_n hx hb dJ9_floorMod_7cf53_0 rfl (lv_at hl 0 rfl) ?_
  refine lv_iload_n hx hb dJ9_floorMod_7cf53_1 rfl (lv_at hl 1 rfl) ?_
  obtain ⟨hz1, hf⟩ := nz_e hf
  refine lv_irem hx hb dJ9_floorMod_7cf53_2 hz1 ?_
  obtain ⟨x2, ex2, hf⟩ := bnd_e hf
  refine w_nm ex2 ?_
  refine lv_istore_n (lv' := [(2, .int x2), (0, .int p0), (1, .int p1)]) hx hb dJ9_floorMod_7cf53_3 rfl hl (by decide) rfl (fun ls hl => ?_)
  refine lv_iload_n hx hb dJ9_floorMod_7cf53_4 rfl (lv_at hl 1 rfl) ?_
  refine lv_iload_n hx hb dJ9_floorMod_7cf53_5 rfl (lv_at hl 2 rfl) ?_
  refine lv_ixor hx hb dJ9_floorMod_7cf53_6 ?_
  refine lv_if_ge (tgt := 18) hx hb dJ9_floorMod_7cf53_7 (by decide) (fun c3 => ?_) (fun c3 => ?_)
  · replace hf := if_t hf c3
    refine lv_iload_n hx hb dJ9_floorMod_7cf53_18 rfl (lv_at hl 0 rfl) ?_
    exact W.iret (v := x2) hx hb hr (fun t ht _ => ⟨x2, rfl, so_i hf, ht⟩) (fun _ h => by cases h) dJ9_floorMod_7cf53_19
  · replace hf := if_f hf c3
    refine lv_iload_n hx hb dJ9_floorMod_7cf53_10 rfl (lv_at hl 0 rfl) ?_
    refine lv_if_eq (tgt := 18) hx hb dJ9_floorMod_7cf53_11 (by decide) (fun c4 => ?_) (fun c4 => ?_)
    · replace hf := if_t hf c4
      refine lv_iload_n hx hb dJ9_floorMod_7cf53_18 rfl (lv_at hl 0 rfl) ?_
      exact W.iret (v := x2) hx hb hr (fun t ht _ => ⟨x2, rfl, so_i hf, ht⟩) (fun _ h => by cases h) dJ9_floorMod_7cf53_19
    · replace hf := if_f hf c4
      refine lv_iload_n hx hb dJ9_floorMod_7cf53_14 rfl (lv_at hl 0 rfl) ?_
      refine lv_iload_n hx hb dJ9_floorMod_7cf53_15 rfl (lv_at hl 2 rfl) ?_
      refine lv_iadd hx hb dJ9_floorMod_7cf53_16 ?_
      exact W.iret (v := (x2 + p1)) hx hb hr (fun t ht _ => ⟨(x2 + p1), rfl, so_i hf, ht⟩) (fun _ h => by cases h) dJ9_floorMod_7cf53_17
set_option maxHeartbeats 4000000 in
set_option maxRecDepth 100000 in
theorem c_X9_isIn (l : Launch) (tb : Nat → Nat) (p0 p1 p2 : Int32) (r : Int32) (hf : fX9_isIn p0 p1 p2 = some r) : MetT l yX9_isIn wsX9_isIn ({ frames := 0, cells := 0, slots := 0, locals := 0 }) [.int p0, .int p1, .int p2] tb r := by
  refine met_of (cc := cX9_isIn) (maxL := 3) (ret := (some .boolean)) (by decide) rfl (Nat.le_of_ble_eq_true rfl) ?_
  intro p e s m below meth c hx hb hr hml hts hown hlk hG ls hl
  have hown : s.vm.findClass RX9 = some m.cls := hown
  have hZ : zz tb (fun _ => False) s s.heap := hG
  have hS : va_S (fun _ => False) s.heap s.heap [] := va_S.rf
  have hl : lv_has ls 3 [(0, .int p0), (1, .int p1), (2, .int p2)] := hl
  unfold fX9_isIn at hf
  refine lv_iload_n hx hb dX9_isIn_0 rfl (lv_at hl 0 rfl) ?_
  refine lv_iload_n hx hb dX9_isIn_1 rfl (lv_at hl 1 rfl) ?_
  refine lv_icmp_lt (tgt := 14) hx hb dX9_isIn_2 (by decide) (fun c1 => ?_) (fun c1 => ?_)
  · replace hf := if_t hf c1
    refine lv_iconst (v := 0) hx hb dX9_isIn_14 (by decide) ?_
    exact W.zret (v := 0) hx hb hr rfl (fun t ht _ => ⟨0, rfl, so_i hf, ht⟩) (fun _ h => by cases h) dX9_isIn_15
  · replace hf := if_f hf c1
    refine lv_iload_n hx hb dX9_isIn_5 rfl (lv_at hl 0 rfl) ?_
    refine lv_iload_n hx hb dX9_isIn_6 rfl (lv_at hl 2 rfl) ?_
    refine lv_icmp_gt (tgt := 14) hx hb dX9_isIn_7 (by decide) (fun c2 => ?_) (fun c2 => ?_)
    · replace hf := if_t hf c2
      refine lv_iconst (v := 0) hx hb dX9_isIn_14 (by decide) ?_
      exact W.zret (v := 0) hx hb hr rfl (fun t ht _ => ⟨0, rfl, so_i hf, ht⟩) (fun _ h => by cases h) dX9_isIn_15
    · replace hf := if_f hf c2
      refine lv_iconst (v := 1) hx hb dX9_isIn_10 (by decide) ?_
      refine lv_goto (tgt := 15) hx hb dX9_isIn_11 (by decide) ?_
      exact W.zret (v := 1) hx hb hr rfl (fun t ht _ => ⟨1, rfl, so_i hf, ht⟩) (fun _ h => by cases h) dX9_isIn_15
set_option maxHeartbeats 4000000 in
set_option maxRecDepth 100000 in
theorem c_X9_isLeap (l : Launch) (tb : Nat → Nat) (p0 : Int32) (r : Int32) (hf : fX9_isLeap p0 = some r) : MetT l yX9_isLeap wsX9_isLeap ({ frames := 0, cells := 0, slots := 0, locals := 0 }) [.int p0] tb r := by
  refine met_of (cc := cX9_isLeap) (maxL := 1) (ret := (some .boolean)) (by decide) rfl (Nat.le_of_ble_eq_true rfl) ?_
  intro p e s m below meth c hx hb hr hml hts hown hlk hG ls hl
  have hown : s.vm.findClass RX9 = some m.cls := hown
  have hZ : zz tb (fun _ => False) s s.heap := hG
  have hS : va_S (fun _ => False) s.heap s.heap [] := va_S.rf
  have hl : lv_has ls 1 [(0, .int p0)] := hl
  unfold fX9_isLeap at hf
  refine lv_iload_n hx hb dX9_isLeap_0 rfl (lv_at hl 0 rfl) ?_
  refine lv_iconst (v := 4) hx hb dX9_isLeap_1 (by decide) ?_
  refine lv_irem hx hb dX9_isLeap_2 (by decide) ?_
  refine lv_if_ne (tgt := 13) hx hb dX9_isLeap_3 (by decide) (fun c1 => ?_) (fun c1 => ?_)
  · replace hf := if_f hf c1
    refine lv_iload_n hx hb dX9_isLeap_13 rfl (lv_at hl 0 rfl) ?_
    refine lv_sipush (v := 400) hx hb dX9_isLeap_14 (by decide) ?_
    refine lv_irem hx hb dX9_isLeap_17 (by decide) ?_
    refine lv_if_ne (tgt := 25) hx hb dX9_isLeap_18 (by decide) (fun c2 => ?_) (fun c2 => ?_)
    · replace hf := if_f hf c2
      refine lv_iconst (v := 0) hx hb dX9_isLeap_25 (by decide) ?_
      exact W.zret (v := 0) hx hb hr rfl (fun t ht _ => ⟨0, rfl, so_i hf, ht⟩) (fun _ h => by cases h) dX9_isLeap_26
    · replace hf := if_t hf c2
      refine lv_iconst (v := 1) hx hb dX9_isLeap_21 (by decide) ?_
      refine lv_goto (tgt := 26) hx hb dX9_isLeap_22 (by decide) ?_
      exact W.zret (v := 1) hx hb hr rfl (fun t ht _ => ⟨1, rfl, so_i hf, ht⟩) (fun _ h => by cases h) dX9_isLeap_26
  · replace hf := if_t hf c1
    refine lv_iload_n hx hb dX9_isLeap_6 rfl (lv_at hl 0 rfl) ?_
    refine lv_bipush (v := 100) hx hb dX9_isLeap_7 (by decide) ?_
    refine lv_irem hx hb dX9_isLeap_9 (by decide) ?_
    refine lv_if_ne (tgt := 21) hx hb dX9_isLeap_10 (by decide) (fun c3 => ?_) (fun c3 => ?_)
    · replace hf := if_f hf c3
      refine lv_iconst (v := 1) hx hb dX9_isLeap_21 (by decide) ?_
      refine lv_goto (tgt := 26) hx hb dX9_isLeap_22 (by decide) ?_
      exact W.zret (v := 1) hx hb hr rfl (fun t ht _ => ⟨1, rfl, so_i hf, ht⟩) (fun _ h => by cases h) dX9_isLeap_26
    · replace hf := if_t hf c3
      refine lv_iload_n hx hb dX9_isLeap_13 rfl (lv_at hl 0 rfl) ?_
      refine lv_sipush (v := 400) hx hb dX9_isLeap_14 (by decide) ?_
      refine lv_irem hx hb dX9_isLeap_17 (by decide) ?_
      refine lv_if_ne (tgt := 25) hx hb dX9_isLeap_18 (by decide) (fun c4 => ?_) (fun c4 => ?_)
      · replace hf := if_f hf c4
        refine lv_iconst (v := 0) hx hb dX9_isLeap_25 (by decide) ?_
        exact W.zret (v := 0) hx hb hr rfl (fun t ht _ => ⟨0, rfl, so_i hf, ht⟩) (fun _ h => by cases h) dX9_isLeap_26
      · replace hf := if_t hf c4
        refine lv_iconst (v := 1) hx hb dX9_isLeap_21 (by decide) ?_
        refine lv_goto (tgt := 26) hx hb dX9_isLeap_22 (by decide) ?_
        exact W.zret (v := 1) hx hb hr rfl (fun t ht _ => ⟨1, rfl, so_i hf, ht⟩) (fun _ h => by cases h) dX9_isLeap_26
set_option maxHeartbeats 4000000 in
set_option maxRecDepth 100000 in
theorem c_X9_daysOf (l : Launch) (tb : Nat → Nat) (p0 p1 : Int32) (r : Int32) (hf : fX9_daysOf p0 p1 = some r) : MetT l yX9_daysOf wsX9_daysOf ({ frames := 1, cells := 0, slots := 0, locals := 20 }) [.int p0, .int p1] tb r := by
  refine met_of (cc := cX9_daysOf) (maxL := 2) (ret := (some .int)) (by decide) rfl (Nat.le_of_ble_eq_true rfl) ?_
  intro p e s m below meth c hx hb hr hml hts hown hlk hG ls hl
  have hown : s.vm.findClass RX9 = some m.cls := hown
  have hZ : zz tb (fun _ => False) s s.heap := hG
  have hS : va_S (fun _ => False) s.heap s.heap [] := va_S.rf
  have hl : lv_has ls 2 [(0, .int p0), (1, .int p1)] := hl
  unfold fX9_daysOf at hf
  refine lv_iload_n hx hb dX9_daysOf_0 rfl (lv_at hl 0 rfl) ?_
  refine lv_iconst (v := 2) hx hb dX9_daysOf_1 (by decide) ?_
  refine lv_icmp_ne (tgt := 20) hx hb dX9_daysOf_2 (by decide) (fun c1 => ?_) (fun c1 => ?_)
  · replace hf := if_f hf c1
    refine lv_iload_n hx hb dX9_daysOf_20 rfl (lv_at hl 0 rfl) ?_
    refine lv_iconst (v := 4) hx hb dX9_daysOf_21 (by decide) ?_
    refine lv_icmp_eq (tgt := 43) hx hb dX9_daysOf_22 (by decide) (fun c2 => ?_) (fun c2 => ?_)
    · replace hf := if_t hf c2
      refine lv_bipush (v := 30) hx hb dX9_daysOf_43 (by decide) ?_
      refine lv_goto (tgt := 50) hx hb dX9_daysOf_45 (by decide) ?_
      exact W.iret (v := 30) hx hb hr (fun t ht _ => ⟨30, rfl, so_i hf, ht⟩) (fun _ h => by cases h) dX9_daysOf_50
    · replace hf := if_f hf c2
      refine lv_iload_n hx hb dX9_daysOf_25 rfl (lv_at hl 0 rfl) ?_
      refine lv_bipush (v := 6) hx hb dX9_daysOf_26 (by decide) ?_
      refine lv_icmp_eq (tgt := 43) hx hb dX9_daysOf_28 (by decide) (fun c3 => ?_) (fun c3 => ?_)
      · replace hf := if_t hf c3
        refine lv_bipush (v := 30) hx hb dX9_daysOf_43 (by decide) ?_
        refine lv_goto (tgt := 50) hx hb dX9_daysOf_45 (by decide) ?_
        exact W.iret (v := 30) hx hb hr (fun t ht _ => ⟨30, rfl, so_i hf, ht⟩) (fun _ h => by cases h) dX9_daysOf_50
      · replace hf := if_f hf c3
        refine lv_iload_n hx hb dX9_daysOf_31 rfl (lv_at hl 0 rfl) ?_
        refine lv_bipush (v := 9) hx hb dX9_daysOf_32 (by decide) ?_
        refine lv_icmp_eq (tgt := 43) hx hb dX9_daysOf_34 (by decide) (fun c4 => ?_) (fun c4 => ?_)
        · replace hf := if_t hf c4
          refine lv_bipush (v := 30) hx hb dX9_daysOf_43 (by decide) ?_
          refine lv_goto (tgt := 50) hx hb dX9_daysOf_45 (by decide) ?_
          exact W.iret (v := 30) hx hb hr (fun t ht _ => ⟨30, rfl, so_i hf, ht⟩) (fun _ h => by cases h) dX9_daysOf_50
        · replace hf := if_f hf c4
          refine lv_iload_n hx hb dX9_daysOf_37 rfl (lv_at hl 0 rfl) ?_
          refine lv_bipush (v := 11) hx hb dX9_daysOf_38 (by decide) ?_
          refine lv_icmp_ne (tgt := 48) hx hb dX9_daysOf_40 (by decide) (fun c5 => ?_) (fun c5 => ?_)
          · replace hf := if_f hf c5
            refine lv_bipush (v := 31) hx hb dX9_daysOf_48 (by decide) ?_
            exact W.iret (v := 31) hx hb hr (fun t ht _ => ⟨31, rfl, so_i hf, ht⟩) (fun _ h => by cases h) dX9_daysOf_50
          · replace hf := if_t hf c5
            refine lv_bipush (v := 30) hx hb dX9_daysOf_43 (by decide) ?_
            refine lv_goto (tgt := 50) hx hb dX9_daysOf_45 (by decide) ?_
            exact W.iret (v := 30) hx hb hr (fun t ht _ => ⟨30, rfl, so_i hf, ht⟩) (fun _ h => by cases h) dX9_daysOf_50
  · replace hf := if_t hf c1
    refine lv_iload_n hx hb dX9_daysOf_5 rfl (lv_at hl 1 rfl) ?_
    obtain ⟨o6, ho6, hf⟩ := ob_e hf
    refine w_callT (As := [.int p1]) (rest := []) ⟨hx, hb, hml, hown, hts⟩ (c_X9_isLeap l tb p1 o6 ho6) (va_cwS 1 hts gX9_daysOf_X9_isLeap rfl rfl rfl (by decide +kernel) ⟨Nat.le_of_ble_eq_true rfl, Nat.le_of_ble_eq_true rfl⟩) hZ hS rfl hl.1 rfl (Nat.le_of_ble_eq_true rfl) ⟨Nat.zero_le _, Nat.zero_le _⟩ dX9_daysOf_6 ?_
    refine lv_if_eq (tgt := 17) hx hb dX9_daysOf_9 (by decide) (fun c7 => ?_) (fun c7 => ?_)
    · replace hf := if_t hf c7
      refine lv_bipush (v := 28) hx hb dX9_daysOf_17 (by decide) ?_
      exact W.iret (v := 28) hx hb hr (fun t ht _ => ⟨28, rfl, so_i hf, ht⟩) (fun _ h => by cases h) dX9_daysOf_19
    · replace hf := if_f hf c7
      refine lv_bipush (v := 29) hx hb dX9_daysOf_12 (by decide) ?_
      refine lv_goto (tgt := 19) hx hb dX9_daysOf_14 (by decide) ?_
      exact W.iret (v := 29) hx hb hr (fun t ht _ => ⟨29, rfl, so_i hf, ht⟩) (fun _ h => by cases h) dX9_daysOf_19
set_option maxHeartbeats 4000000 in
set_option maxRecDepth 100000 in
theorem c_X9_isDate (l : Launch) (tb : Nat → Nat) (p0 p1 p2 : Int32) (r : Int32) (hf : fX9_isDate p0 p1 p2 = some r) : MetT l yX9_isDate wsX9_isDate ({ frames := 2, cells := 0, slots := 0, locals := 41 }) [.int p0, .int p1, .int p2] tb r := by
  refine met_of (cc := cX9_isDate) (maxL := 3) (ret := (some .boolean)) (by decide) rfl (Nat.le_of_ble_eq_true rfl) ?_
  intro p e s m below meth c hx hb hr hml hts hown hlk hG ls hl
  have hown : s.vm.findClass RX9 = some m.cls := hown
  have hZ : zz tb (fun _ => False) s s.heap := hG
  have hS : va_S (fun _ => False) s.heap s.heap [] := va_S.rf
  have hl : lv_has ls 3 [(0, .int p0), (1, .int p1), (2, .int p2)] := hl
  unfold fX9_isDate at hf
  refine lv_iload_n hx hb dX9_isDate_0 rfl (lv_at hl 2 rfl) ?_
  refine lv_sipush (v := 1900) hx hb dX9_isDate_1 (by decide) ?_
  refine lv_sipush (v := 2199) hx hb dX9_isDate_4 (by decide) ?_
  obtain ⟨o1, ho1, hf⟩ := ob_e hf
  refine w_callT (As := [.int p2, .int 1900, .int 2199]) (rest := []) ⟨hx, hb, hml, hown, hts⟩ (c_X9_isIn l tb p2 1900 2199 o1 ho1) (va_cwS 3 hts gX9_isDate_X9_isIn rfl rfl rfl (by decide +kernel) ⟨Nat.le_of_ble_eq_true rfl, Nat.le_of_ble_eq_true rfl⟩) hZ hS rfl hl.1 rfl (Nat.le_of_ble_eq_true rfl) ⟨Nat.zero_le _, Nat.zero_le _⟩ dX9_isDate_7 ?_
  refine lv_if_eq (tgt := 40) hx hb dX9_isDate_10 (by decide) (fun c2 => ?_) (fun c2 => ?_)
  · replace hf := if_t hf c2
    refine lv_iconst (v := 0) hx hb dX9_isDate_40 (by decide) ?_
    exact W.zret (v := 0) hx hb hr rfl (fun t ht _ => ⟨0, rfl, so_i hf, ht⟩) (fun _ h => by cases h) dX9_isDate_41
  · replace hf := if_f hf c2
    refine lv_iload_n hx hb dX9_isDate_13 rfl (lv_at hl 1 rfl) ?_
    refine lv_iconst (v := 1) hx hb dX9_isDate_14 (by decide) ?_
    refine lv_bipush (v := 12) hx hb dX9_isDate_15 (by decide) ?_
    obtain ⟨o3, ho3, hf⟩ := ob_e hf
    refine w_callT (As := [.int p1, .int 1, .int 12]) (rest := []) ⟨hx, hb, hml, hown, hts⟩ (c_X9_isIn l tb p1 1 12 o3 ho3) (va_cwS 3 hts gX9_isDate_X9_isIn rfl rfl rfl (by decide +kernel) ⟨Nat.le_of_ble_eq_true rfl, Nat.le_of_ble_eq_true rfl⟩) hZ hS rfl hl.1 rfl (Nat.le_of_ble_eq_true rfl) ⟨Nat.zero_le _, Nat.zero_le _⟩ dX9_isDate_17 ?_
    refine lv_if_eq (tgt := 40) hx hb dX9_isDate_20 (by decide) (fun c4 => ?_) (fun c4 => ?_)
    · replace hf := if_t hf c4
      refine lv_iconst (v := 0) hx hb dX9_isDate_40 (by decide) ?_
      exact W.zret (v := 0) hx hb hr rfl (fun t ht _ => ⟨0, rfl, so_i hf, ht⟩) (fun _ h => by cases h) dX9_isDate_41
    · replace hf := if_f hf c4
      refine lv_iload_n hx hb dX9_isDate_23 rfl (lv_at hl 0 rfl) ?_
      refine lv_iconst (v := 1) hx hb dX9_isDate_24 (by decide) ?_
      refine lv_iload_n hx hb dX9_isDate_25 rfl (lv_at hl 1 rfl) ?_
      refine lv_iload_n hx hb dX9_isDate_26 rfl (lv_at hl 2 rfl) ?_
      obtain ⟨o5, ho5, hf⟩ := ob_e hf
      refine w_callT (As := [.int p1, .int p2]) (rest := [.int 1, .int p0]) ⟨hx, hb, hml, hown, hts⟩ (c_X9_daysOf l tb p1 p2 o5 ho5) (va_cwS 2 hts gX9_isDate_X9_daysOf rfl rfl rfl (by decide +kernel) ⟨Nat.le_of_ble_eq_true rfl, Nat.le_of_ble_eq_true rfl⟩) hZ hS rfl hl.1 rfl (Nat.le_of_ble_eq_true rfl) ⟨Nat.zero_le _, Nat.zero_le _⟩ dX9_isDate_27 ?_
      obtain ⟨o6, ho6, hf⟩ := ob_e hf
      refine w_callT (As := [.int p0, .int 1, .int o5]) (rest := []) ⟨hx, hb, hml, hown, hts⟩ (c_X9_isIn l tb p0 1 o5 o6 ho6) (va_cwS 3 hts gX9_isDate_X9_isIn rfl rfl rfl (by decide +kernel) ⟨Nat.le_of_ble_eq_true rfl, Nat.le_of_ble_eq_true rfl⟩) hZ hS rfl hl.1 rfl (Nat.le_of_ble_eq_true rfl) ⟨Nat.zero_le _, Nat.zero_le _⟩ dX9_isDate_30 ?_
      refine lv_if_eq (tgt := 40) hx hb dX9_isDate_33 (by decide) (fun c7 => ?_) (fun c7 => ?_)
      · replace hf := if_t hf c7
        refine lv_iconst (v := 0) hx hb dX9_isDate_40 (by decide) ?_
        exact W.zret (v := 0) hx hb hr rfl (fun t ht _ => ⟨0, rfl, so_i hf, ht⟩) (fun _ h => by cases h) dX9_isDate_41
      · replace hf := if_f hf c7
        refine lv_iconst (v := 1) hx hb dX9_isDate_36 (by decide) ?_
        refine lv_goto (tgt := 41) hx hb dX9_isDate_37 (by decide) ?_
        exact W.zret (v := 1) hx hb hr rfl (fun t ht _ => ⟨1, rfl, so_i hf, ht⟩) (fun _ h => by cases h) dX9_isDate_41
set_option maxHeartbeats 4000000 in
set_option maxRecDepth 100000 in
theorem c_X9_numberOf (l : Launch) (tb : Nat → Nat) (p0 p1 p2 : Int32) (r : Int32) (hf : fX9_numberOf p0 p1 p2 = some r) : MetT l yX9_numberOf wsX9_numberOf ({ frames := 2, cells := 0, slots := 0, locals := 41 }) [.int p0, .int p1, .int p2] tb r := by
  refine met_of (cc := cX9_numberOf) (maxL := 5) (ret := (some .int)) (by decide) rfl (Nat.le_of_ble_eq_true rfl) ?_
  intro p e s m below meth c hx hb hr hml hts hown hlk hG ls hl
  have hown : s.vm.findClass RX9 = some m.cls := hown
  have hZ : zz tb (fun _ => False) s s.heap := hG
  have hS : va_S (fun _ => False) s.heap s.heap [] := va_S.rf
  have hl : lv_has ls 5 [(0, .int p0), (1, .int p1), (2, .int p2)] := hl
  have l44 : ∀ (n : Nat) (x_1 x_2 x_3 x_4 : Int32) (ls : Array Slot), lv_has ls 5 [(1, .int x_1), (2, .int x_2), (3, .int x_3), (4, .int x_4)] → fX9_numberOf_44 n x_1 x_2 x_3 x_4 = some r → W p l e ({ frames := 2, cells := 0, slots := 0, locals := 41 }) s m ([.int p0, .int p1, .int p2] : List Value).toArray below meth c s.heap [] 0 0 (MQ below (vp_Si (fun z => z = r)) ([.int p0, .int p1, .int p2] : List Value).toArray s 0 0 (fun _ => False)) (F0 m 44 ls []) := by
    intro n
    induction n with
    | zero =>
      intro x_1 x_2 x_3 x_4 ls hl hf
      cases hf
    | succ n ih44 =>
      intro x_1 x_2 x_3 x_4 ls hl hf
      unfold fX9_numberOf_44 at hf
      refine lv_iload hx hb dX9_numberOf_44 (lv_at hl 3 rfl) ?_
      refine lv_iload_n hx hb dX9_numberOf_46 rfl (lv_at hl 0 rfl) ?_
      refine lv_icmp_ge (tgt := 65) hx hb dX9_numberOf_47 (by decide) (fun c1 => ?_) (fun c1 => ?_)
      · replace hf := if_t hf c1
        refine lv_iload_n hx hb dX9_numberOf_65 rfl (lv_at hl 2 rfl) ?_
        exact W.iret (v := x_3) hx hb hr (fun t ht _ => ⟨x_3, rfl, so_i hf, ht⟩) (fun _ h => by cases h) dX9_numberOf_66
      · replace hf := if_f hf c1
        refine lv_iload_n hx hb dX9_numberOf_50 rfl (lv_at hl 2 rfl) ?_
        refine lv_iload hx hb dX9_numberOf_51 (lv_at hl 3 rfl) ?_
        refine lv_iload_n hx hb dX9_numberOf_53 rfl (lv_at hl 1 rfl) ?_
        obtain ⟨o2, ho2, hf⟩ := ob_e hf
        refine w_callT (As := [.int x_4, .int x_2]) (rest := [.int x_3]) ⟨hx, hb, hml, hown, hts⟩ (c_X9_daysOf l tb x_4 x_2 o2 ho2) (va_cwS 2 hts gX9_numberOf_X9_daysOf rfl rfl rfl (by decide +kernel) ⟨Nat.le_of_ble_eq_true rfl, Nat.le_of_ble_eq_true rfl⟩) hZ hS rfl hl.1 rfl (Nat.le_of_ble_eq_true rfl) ⟨Nat.zero_le _, Nat.zero_le _⟩ dX9_numberOf_54 ?_
        refine lv_iadd hx hb dX9_numberOf_57 ?_
        obtain ⟨x3, ex3, hf⟩ := bnd_e hf
        refine w_nm ex3 ?_
        refine lv_istore_n (lv' := [(3, .int x3), (1, .int x_1), (2, .int x_2), (4, .int x_4)]) hx hb dX9_numberOf_58 rfl hl (by decide) rfl (fun ls hl => ?_)
        obtain ⟨x4, ex4, hf⟩ := bnd_e hf
        refine lv_iinc (v := x4) (lv' := [(4, .int x4), (3, .int x3), (1, .int x_1), (2, .int x_2)]) hx hb dX9_numberOf_59 hl (k := 3) rfl (by rw [ex4]; rfl) (by decide) rfl (fun ls hl => ?_)
        refine lv_goto (tgt := 44) hx hb dX9_numberOf_62 (by decide) ?_
        exact ih44 x_1 x_2 x3 x4 _ (lv_sub hl [2, 3, 1, 0] rfl) hf
  have l9 : ∀ (n : Nat) (x_1 x_2 x_3 x_4 : Int32) (ls : Array Slot), lv_has ls 5 [(1, .int x_1), (2, .int x_2), (3, .int x_3), (4, .int x_4)] → fX9_numberOf_9 n x_1 x_2 x_3 x_4 = some r → W p l e ({ frames := 2, cells := 0, slots := 0, locals := 41 }) s m ([.int p0, .int p1, .int p2] : List Value).toArray below meth c s.heap [] 0 0 (MQ below (vp_Si (fun z => z = r)) ([.int p0, .int p1, .int p2] : List Value).toArray s 0 0 (fun _ => False)) (F0 m 9 ls []) := by
    intro n
    induction n with
    | zero =>
      intro x_1 x_2 x_3 x_4 ls hl hf
      cases hf
    | succ n ih9 =>
      intro x_1 x_2 x_3 x_4 ls hl hf
      unfold fX9_numberOf_9 at hf
      refine lv_iload hx hb dX9_numberOf_9 (lv_at hl 3 rfl) ?_
      refine lv_iload_n hx hb dX9_numberOf_11 rfl (lv_at hl 1 rfl) ?_
      refine lv_icmp_ge (tgt := 41) hx hb dX9_numberOf_12 (by decide) (fun c5 => ?_) (fun c5 => ?_)
      · replace hf := if_t hf c5
        refine lv_iconst (v := 1) hx hb dX9_numberOf_41 (by decide) ?_
        refine lv_istore (lv' := [(4, .int 1), (1, .int x_1), (2, .int x_2), (3, .int x_3)]) hx hb dX9_numberOf_42 hl (by decide) rfl (fun ls hl => ?_)
        exact l44 1000 x_1 x_2 x_3 1 _ (lv_sub hl [1, 2, 3, 0] rfl) hf
      · replace hf := if_f hf c5
        refine lv_iload_n hx hb dX9_numberOf_15 rfl (lv_at hl 2 rfl) ?_
        refine lv_iload hx hb dX9_numberOf_16 (lv_at hl 3 rfl) ?_
        obtain ⟨o6, ho6, hf⟩ := ob_e hf
        refine w_callT (As := [.int x_4]) (rest := [.int x_3]) ⟨hx, hb, hml, hown, hts⟩ (c_X9_isLeap l tb x_4 o6 ho6) (va_cwS 1 hts gX9_numberOf_X9_isLeap rfl rfl rfl (by decide +kernel) ⟨Nat.le_of_ble_eq_true rfl, Nat.le_of_ble_eq_true rfl⟩) hZ hS rfl hl.1 rfl (Nat.le_of_ble_eq_true rfl) ⟨Nat.zero_le _, Nat.zero_le _⟩ dX9_numberOf_18 ?_
        refine lv_if_eq (tgt := 30) hx hb dX9_numberOf_21 (by decide) (fun c7 => ?_) (fun c7 => ?_)
        · replace hf := if_t hf c7
          refine lv_sipush (v := 365) hx hb dX9_numberOf_30 (by decide) ?_
          refine lv_iadd hx hb dX9_numberOf_33 ?_
          obtain ⟨x8, ex8, hf⟩ := bnd_e hf
          refine w_nm ex8 ?_
          refine lv_istore_n (lv' := [(3, .int x8), (1, .int x_1), (2, .int x_2), (4, .int x_4)]) hx hb dX9_numberOf_34 rfl hl (by decide) rfl (fun ls hl => ?_)
          obtain ⟨x9, ex9, hf⟩ := bnd_e hf
          refine lv_iinc (v := x9) (lv' := [(4, .int x9), (3, .int x8), (1, .int x_1), (2, .int x_2)]) hx hb dX9_numberOf_35 hl (k := 3) rfl (by rw [ex9]; rfl) (by decide) rfl (fun ls hl => ?_)
          refine lv_goto (tgt := 9) hx hb dX9_numberOf_38 (by decide) ?_
          exact ih9 x_1 x_2 x8 x9 _ (lv_sub hl [2, 3, 1, 0] rfl) hf
        · replace hf := if_f hf c7
          refine lv_sipush (v := 366) hx hb dX9_numberOf_24 (by decide) ?_
          refine lv_goto (tgt := 33) hx hb dX9_numberOf_27 (by decide) ?_
          refine lv_iadd hx hb dX9_numberOf_33 ?_
          obtain ⟨x10, ex10, hf⟩ := bnd_e hf
          refine w_nm ex10 ?_
          refine lv_istore_n (lv' := [(3, .int x10), (1, .int x_1), (2, .int x_2), (4, .int x_4)]) hx hb dX9_numberOf_34 rfl hl (by decide) rfl (fun ls hl => ?_)
          obtain ⟨x11, ex11, hf⟩ := bnd_e hf
          refine lv_iinc (v := x11) (lv' := [(4, .int x11), (3, .int x10), (1, .int x_1), (2, .int x_2)]) hx hb dX9_numberOf_35 hl (k := 3) rfl (by rw [ex11]; rfl) (by decide) rfl (fun ls hl => ?_)
          refine lv_goto (tgt := 9) hx hb dX9_numberOf_38 (by decide) ?_
          exact ih9 x_1 x_2 x10 x11 _ (lv_sub hl [2, 3, 1, 0] rfl) hf
  unfold fX9_numberOf at hf
  refine lv_iload_n hx hb dX9_numberOf_0 rfl (lv_at hl 0 rfl) ?_
  refine lv_iconst (v := 1) hx hb dX9_numberOf_1 (by decide) ?_
  refine lv_isub hx hb dX9_numberOf_2 ?_
  obtain ⟨x12, ex12, hf⟩ := bnd_e hf
  refine w_nm ex12 ?_
  refine lv_istore_n (lv' := [(3, .int x12), (0, .int p0), (1, .int p1), (2, .int p2)]) hx hb dX9_numberOf_3 rfl hl (by decide) rfl (fun ls hl => ?_)
  refine lv_sipush (v := 1900) hx hb dX9_numberOf_4 (by decide) ?_
  refine lv_istore (lv' := [(4, .int 1900), (3, .int x12), (0, .int p0), (1, .int p1), (2, .int p2)]) hx hb dX9_numberOf_7 hl (by decide) rfl (fun ls hl => ?_)
  exact l9 1000 p1 p2 x12 1900 _ (lv_sub hl [3, 4, 1, 0] rfl) hf
set_option maxHeartbeats 4000000 in
set_option maxRecDepth 100000 in
theorem c_X9_isDay (l : Launch) (tb : Nat → Nat) (p0 : Int32) (r : Int32) (hf : fX9_isDay p0 = some r) : MetT l yX9_isDay wsX9_isDay ({ frames := 1, cells := 0, slots := 0, locals := 22 }) [.int p0] tb r := by
  refine met_of (cc := cX9_isDay) (maxL := 1) (ret := (some .boolean)) (by decide) rfl (Nat.le_of_ble_eq_true rfl) ?_
  intro p e s m below meth c hx hb hr hml hts hown hlk hG ls hl
  have hown : s.vm.findClass RX9 = some m.cls := hown
  have hZ : zz tb (fun _ => False) s s.heap := hG
  have hS : va_S (fun _ => False) s.heap s.heap [] := va_S.rf
  have hl : lv_has ls 1 [(0, .int p0)] := hl
  unfold fX9_isDay at hf
  refine lv_iload_n hx hb dX9_isDay_0 rfl (lv_at hl 0 rfl) ?_
  refine lv_iconst (v := 0) hx hb dX9_isDay_1 (by decide) ?_
  refine lv_ldc (v := 109572) hx hb hown (hts (.constant RX9 85 (109572)) (by decide +kernel)) dX9_isDay_2 ?_
  obtain ⟨o1, ho1, hf⟩ := ob_e hf
  refine w_callT (As := [.int p0, .int 0, .int 109572]) (rest := []) ⟨hx, hb, hml, hown, hts⟩ (c_X9_isIn l tb p0 0 109572 o1 ho1) (va_cwS 3 hts gX9_isDay_X9_isIn rfl rfl rfl (by decide +kernel) ⟨Nat.le_of_ble_eq_true rfl, Nat.le_of_ble_eq_true rfl⟩) hZ hS rfl hl.1 rfl (Nat.le_of_ble_eq_true rfl) ⟨Nat.zero_le _, Nat.zero_le _⟩ dX9_isDay_4 ?_
  obtain ⟨hz2, hf⟩ := tv_e hf
  exact W.zret (v := o1) hx hb hr hz2 (fun t ht _ => ⟨o1, rfl, so_i hf, ht⟩) (fun _ h => by cases h) dX9_isDay_7
set_option maxHeartbeats 4000000 in
set_option maxRecDepth 100000 in
theorem c_X9_bytesIn (l : Launch) (tb : Nat → Nat) (p0 : Int32) (r : Int32) (hf : fX9_bytesIn p0 = some r) : MetT l yX9_bytesIn wsX9_bytesIn ({ frames := 0, cells := 0, slots := 0, locals := 0 }) [.int p0] tb r := by
  refine met_of (cc := cX9_bytesIn) (maxL := 3) (ret := (some .int)) (by decide) rfl (Nat.le_of_ble_eq_true rfl) ?_
  intro p e s m below meth c hx hb hr hml hts hown hlk hG ls hl
  have hown : s.vm.findClass RX9 = some m.cls := hown
  have hZ : zz tb (fun _ => False) s s.heap := hG
  have hS : va_S (fun _ => False) s.heap s.heap [] := va_S.rf
  have hl : lv_has ls 3 [(0, .int p0)] := hl
  have l5 : ∀ (n : Nat) (x_0 x_1 x_2 : Int32) (ls : Array Slot), lv_has ls 3 [(0, .int x_0), (1, .int x_1), (2, .int x_2)] → fX9_bytesIn_5 n x_0 x_1 x_2 = some r → W p l e ({ frames := 0, cells := 0, slots := 0, locals := 0 }) s m ([.int p0] : List Value).toArray below meth c s.heap [] 0 0 (MQ below (vp_Si (fun z => z = r)) ([.int p0] : List Value).toArray s 0 0 (fun _ => False)) (F0 m 5 ls []) := by
    intro n
    induction n with
    | zero =>
      intro x_0 x_1 x_2 ls hl hf
      cases hf
    | succ n ih5 =>
      intro x_0 x_1 x_2 ls hl hf
      unfold fX9_bytesIn_5 at hf
      refine lv_iload_n hx hb dX9_bytesIn_5 rfl (lv_at hl 2 rfl) ?_
      refine lv_if_lt (tgt := 33) hx hb dX9_bytesIn_6 (by decide) (fun c1 => ?_) (fun c1 => ?_)
      · replace hf := if_t hf c1
        refine lv_iload_n hx hb dX9_bytesIn_33 rfl (lv_at hl 1 rfl) ?_
        exact W.iret (v := x_1) hx hb hr (fun t ht _ => ⟨x_1, rfl, so_i hf, ht⟩) (fun _ h => by cases h) dX9_bytesIn_34
      · replace hf := if_f hf c1
        refine lv_iload_n hx hb dX9_bytesIn_9 rfl (lv_at hl 1 rfl) ?_
        refine lv_iload_n hx hb dX9_bytesIn_10 rfl (lv_at hl 0 rfl) ?_
        refine lv_iload_n hx hb dX9_bytesIn_11 rfl (lv_at hl 2 rfl) ?_
        refine lv_ishr hx hb dX9_bytesIn_12 ?_
        refine lv_sipush (v := 255) hx hb dX9_bytesIn_13 (by decide) ?_
        refine lv_iand hx hb dX9_bytesIn_16 ?_
        refine lv_if_eq (tgt := 24) hx hb dX9_bytesIn_17 (by decide) (fun c2 => ?_) (fun c2 => ?_)
        · replace hf := if_t hf c2
          refine lv_iconst (v := 0) hx hb dX9_bytesIn_24 (by decide) ?_
          refine lv_iadd hx hb dX9_bytesIn_25 ?_
          obtain ⟨x3, ex3, hf⟩ := bnd_e hf
          refine w_nm ex3 ?_
          refine lv_istore_n (lv' := [(1, .int x3), (0, .int x_0), (2, .int x_2)]) hx hb dX9_bytesIn_26 rfl hl (by decide) rfl (fun ls hl => ?_)
          obtain ⟨x4, ex4, hf⟩ := bnd_e hf
          refine lv_iinc (v := x4) (lv' := [(2, .int x4), (1, .int x3), (0, .int x_0)]) hx hb dX9_bytesIn_27 hl (k := 2) rfl (by rw [ex4]; rfl) (by decide) rfl (fun ls hl => ?_)
          refine lv_goto (tgt := 5) hx hb dX9_bytesIn_30 (by decide) ?_
          exact ih5 x_0 x3 x4 _ (lv_sub hl [2, 1, 0] rfl) hf
        · replace hf := if_f hf c2
          refine lv_iconst (v := 1) hx hb dX9_bytesIn_20 (by decide) ?_
          refine lv_goto (tgt := 25) hx hb dX9_bytesIn_21 (by decide) ?_
          refine lv_iadd hx hb dX9_bytesIn_25 ?_
          obtain ⟨x5, ex5, hf⟩ := bnd_e hf
          refine w_nm ex5 ?_
          refine lv_istore_n (lv' := [(1, .int x5), (0, .int x_0), (2, .int x_2)]) hx hb dX9_bytesIn_26 rfl hl (by decide) rfl (fun ls hl => ?_)
          obtain ⟨x6, ex6, hf⟩ := bnd_e hf
          refine lv_iinc (v := x6) (lv' := [(2, .int x6), (1, .int x5), (0, .int x_0)]) hx hb dX9_bytesIn_27 hl (k := 2) rfl (by rw [ex6]; rfl) (by decide) rfl (fun ls hl => ?_)
          refine lv_goto (tgt := 5) hx hb dX9_bytesIn_30 (by decide) ?_
          exact ih5 x_0 x5 x6 _ (lv_sub hl [2, 1, 0] rfl) hf
  unfold fX9_bytesIn at hf
  refine lv_iconst (v := 0) hx hb dX9_bytesIn_0 (by decide) ?_
  refine lv_istore_n (lv' := [(1, .int 0), (0, .int p0)]) hx hb dX9_bytesIn_1 rfl hl (by decide) rfl (fun ls hl => ?_)
  refine lv_bipush (v := 24) hx hb dX9_bytesIn_2 (by decide) ?_
  refine lv_istore_n (lv' := [(2, .int 24), (1, .int 0), (0, .int p0)]) hx hb dX9_bytesIn_4 rfl hl (by decide) rfl (fun ls hl => ?_)
  exact l5 1000 p0 0 24 _ (lv_sub hl [2, 1, 0] rfl) hf
