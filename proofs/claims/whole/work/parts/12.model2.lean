set_option maxHeartbeats 4000000 in
set_option maxRecDepth 100000 in
theorem c_X9_readAll (l : Launch) (D : va_G) (cI cB : ClassId) (a tb : Nat → Nat) (st : ST) (r : ST) (hf : fX9_readAll st = some r) : MetV l yX9_readAll wsX9_readAll ({ frames := 6, cells := 0, slots := 0, locals := 145 }) [.ref (a 0)] D [(cI, .int), (cB, .byte)] (mw cI cB a) (mA a) tb st r := by
  refine met_of (cc := cX9_readAll) (maxL := 4) (ret := none) (by decide) rfl (Nat.le_of_ble_eq_true rfl) ?_
  intro p e s m below meth c hx hb hr hml hts hown hlk hG ls hl
  have hown : s.vm.findClass RX9 = some m.cls := hown
  obtain ⟨hP, hK, hD, hZ⟩ := hG
  have hS : va_S (mA a) s.heap s.heap [] := va_S.rf
  have hl : lv_has ls 4 [(0, .ref (a 0))] := hl
  have hiX9 : ∀ w ∈ wsX90, w ∈ wsX9_readAll := by decide +kernel
  have k103 := hts (.fieldLink RX9 103 "DayColumnModel" "styles" "I") (by decide +kernel)
  have k113 := hts (.fieldLink RX9 113 "DayColumnModel" "rows" "I") (by decide +kernel)
  have k156 := hts (.fieldLink RX9 156 "DayColumnModel" "from" "I") (by decide +kernel)
  have k159 := hts (.fieldLink RX9 159 "DayColumnModel" "to" "I") (by decide +kernel)
  have k36 := hts (.fieldLink RX9 36 "DayColumnModel" "first" "[I") (by decide +kernel)
  have k39 := hts (.fieldLink RX9 39 "DayColumnModel" "last" "[I") (by decide +kernel)
  have l12 : ∀ (n : Nat) (x_1 x_2 : Int32) (st : ST) (H : Heap) (locs : List Loc) (ls : Array Slot), va_P D vwCl (mw cI cB a st) H → va_S (mA a) s.heap H locs → lv_has ls 4 [(0, .ref (a 0)), (1, .int x_1), (2, .int x_2)] → ∀ (o : ST), fX9_readAll_12 n st x_1 x_2 = some o → (∀ (H : Heap) (locs : List Loc) (ls : Array Slot), va_P D vwCl (mw cI cB a o) H → va_S (mA a) s.heap H locs → lv_has ls 4 [(0, .ref (a 0)), (1, .int x_1)] → W p l e ({ frames := 6, cells := 0, slots := 0, locals := 145 }) s m ([.ref (a 0)] : List Value).toArray below meth c H locs 0 0 (MQ below (va_Qv (fun (u : ST) => u = r) (fun u t => va_P D vwCl (mw cI cB a u) t.heap) (mA a)) ([.ref (a 0)] : List Value).toArray s 0 0 (mA a)) (F0 m 79 ls [])) → W p l e ({ frames := 6, cells := 0, slots := 0, locals := 145 }) s m ([.ref (a 0)] : List Value).toArray below meth c H locs 0 0 (MQ below (va_Qv (fun (u : ST) => u = r) (fun u t => va_P D vwCl (mw cI cB a u) t.heap) (mA a)) ([.ref (a 0)] : List Value).toArray s 0 0 (mA a)) (F0 m 12 ls []) := by
    intro n
    induction n with
    | zero =>
      intro x_1 x_2 st H locs ls hP hS hl o hf kk
      cases hf
    | succ n ih12 =>
      intro x_1 x_2 st H locs ls hP hS hl o hf kk
      unfold fX9_readAll_12 at hf
      refine lv_iload_n hx hb dX9_readAll_12 rfl (lv_at hl 2 rfl) ?_
      refine lv_aload_n hx hb dX9_readAll_13 rfl (lv_at hl 0 rfl) ?_
      refine va_get (D := D) (ci := 7) (v := .int (st.1 9)) (C := RX9) (T := TX9) (N := 27) hx hb hts hiX9 hown hK hP 0 rfl rfl 9 (by decide) k103 (fun _ h9 => h9) rfl dX9_readAll_14 ?_
      refine lv_icmp_ge (tgt := 79) hx hb dX9_readAll_17 (by decide) (fun c1 => ?_) (fun c1 => ?_)
      · replace hf := if_t hf c1
        obtain rfl := so_i hf
        exact kk _ _ _ hP hS (lv_sub hl [0, 1] rfl)
      · replace hf := if_f hf c1
        refine lv_aload_n hx hb dX9_readAll_20 rfl (lv_at hl 0 rfl) ?_
        refine lv_iload_n hx hb dX9_readAll_21 rfl (lv_at hl 1 rfl) ?_
        refine lv_iload_n hx hb dX9_readAll_22 rfl (lv_at hl 2 rfl) ?_
        obtain ⟨o2, ho2, hf⟩ := ob_e hf
        refine w_callW (b := a 0) (As := [.int x_1, .int x_2]) (rest := []) ⟨hx, hb, hml, hown, hts⟩ (c_X9_reads l D cI cB a tb st x_1 x_2 o2 ho2) (cwV 2 hts gX9_readAll_X9_reads rfl rfl rfl (by decide +kernel) ⟨Nat.le_of_ble_eq_true rfl, Nat.le_of_ble_eq_true rfl⟩) hP hK hD hZ hS (va_recv hK hP (ci := 7) (q0 := 0) rfl rfl) rfl hl.1 rfl (Nat.le_of_ble_eq_true rfl) ⟨Nat.zero_le _, Nat.zero_le _⟩ dX9_readAll_23 (fun H locs hP hS => ?_)
        refine lv_istore_n (lv' := [(3, .int o2.1), (0, .ref (a 0)), (1, .int x_1), (2, .int x_2)]) hx hb dX9_readAll_26 rfl hl (by decide) rfl (fun ls hl => ?_)
        refine lv_aload_n hx hb dX9_readAll_27 rfl (lv_at hl 1 rfl) ?_
        refine va_get (D := D) (ci := 7) (v := .ref (a 8)) (C := RX9) (T := TX9) (N := 27) hx hb hts hiX9 hown hK hP 0 rfl rfl 19 (by decide) k36 (fun _ h9 => h9) rfl dX9_readAll_28 ?_
        refine lv_bipush (v := 8) hx hb dX9_readAll_31 (by decide) ?_
        refine lv_iload_n hx hb dX9_readAll_33 rfl (lv_at hl 2 rfl) ?_
        refine lv_imul hx hb dX9_readAll_34 ?_
        refine lv_iload_n hx hb dX9_readAll_35 rfl (lv_at hl 3 rfl) ?_
        refine lv_iadd hx hb dX9_readAll_36 ?_
        refine lv_iload_n hx hb dX9_readAll_37 rfl (lv_at hl 0 rfl) ?_
        refine lv_if_eq (tgt := 48) hx hb dX9_readAll_38 (by decide) (fun c3 => ?_) (fun c3 => ?_)
        · replace hf := if_t hf c3
          refine lv_iconst (v := -1) hx hb dX9_readAll_48 (by decide) ?_
          obtain ⟨x4, ex4, hf⟩ := bnd_e hf
          refine w_nm2 ex4 ?_
          obtain ⟨hi5, hf⟩ := ix_e hf
          obtain ⟨s6, es6, hf⟩ := bnd_e hf
          refine va_iast hx hb hK hP (hD o2.2) hS 8 0 rfl rfl hi5 dX9_readAll_49 (fun H locs hP _ hS => ?_)
          have hP : va_P D vwCl (mw cI cB a s6) H := by rw [es6]; exact hP
          refine lv_aload_n hx hb dX9_readAll_50 rfl (lv_at hl 1 rfl) ?_
          refine va_get (D := D) (ci := 7) (v := .ref (a 9)) (C := RX9) (T := TX9) (N := 27) hx hb hts hiX9 hown hK hP 0 rfl rfl 20 (by decide) k39 (fun _ h9 => h9) rfl dX9_readAll_51 ?_
          refine lv_bipush (v := 8) hx hb dX9_readAll_54 (by decide) ?_
          refine lv_iload_n hx hb dX9_readAll_56 rfl (lv_at hl 2 rfl) ?_
          refine lv_imul hx hb dX9_readAll_57 ?_
          refine lv_iload_n hx hb dX9_readAll_58 rfl (lv_at hl 3 rfl) ?_
          refine lv_iadd hx hb dX9_readAll_59 ?_
          refine lv_iload_n hx hb dX9_readAll_60 rfl (lv_at hl 0 rfl) ?_
          refine lv_if_eq (tgt := 71) hx hb dX9_readAll_61 (by decide) (fun c7 => ?_) (fun c7 => ?_)
          · replace hf := if_t hf c7
            refine lv_iconst (v := -1) hx hb dX9_readAll_71 (by decide) ?_
            obtain ⟨x8, ex8, hf⟩ := bnd_e hf
            refine w_nm2 ex8 ?_
            obtain ⟨hi9, hf⟩ := ix_e hf
            obtain ⟨s10, es10, hf⟩ := bnd_e hf
            refine va_iast hx hb hK hP (hD s6) hS 9 0 rfl rfl hi9 dX9_readAll_72 (fun H locs hP _ hS => ?_)
            have hP : va_P D vwCl (mw cI cB a s10) H := by rw [es10]; exact hP
            obtain ⟨x11, ex11, hf⟩ := bnd_e hf
            refine lv_iinc (v := x11) (lv' := [(2, .int x11), (3, .int o2.1), (0, .ref (a 0)), (1, .int x_1)]) hx hb dX9_readAll_73 hl (k := 3) rfl (by rw [ex11]; rfl) (by decide) rfl (fun ls hl => ?_)
            refine lv_goto (tgt := 12) hx hb dX9_readAll_76 (by decide) ?_
            exact ih12 x_1 x11 s10 _ _ _ hP hS (lv_sub hl [2, 3, 0] rfl) _ hf kk
          · replace hf := if_f hf c7
            refine lv_aload_n hx hb dX9_readAll_64 rfl (lv_at hl 1 rfl) ?_
            refine va_get (D := D) (ci := 7) (v := .int (s6.1 16)) (C := RX9) (T := TX9) (N := 27) hx hb hts hiX9 hown hK hP 0 rfl rfl 16 (by decide) k159 (fun _ h9 => h9) rfl dX9_readAll_65 ?_
            refine lv_goto (tgt := 72) hx hb dX9_readAll_68 (by decide) ?_
            obtain ⟨x12, ex12, hf⟩ := bnd_e hf
            refine w_nm ex12 ?_
            obtain ⟨x13, ex13, hf⟩ := bnd_e hf
            refine w_nm2 ex13 ?_
            obtain ⟨hi14, hf⟩ := ix_e hf
            obtain ⟨s15, es15, hf⟩ := bnd_e hf
            refine va_iast hx hb hK hP (hD s6) hS 9 0 rfl rfl hi14 dX9_readAll_72 (fun H locs hP _ hS => ?_)
            have hP : va_P D vwCl (mw cI cB a s15) H := by rw [es15]; exact hP
            obtain ⟨x16, ex16, hf⟩ := bnd_e hf
            refine lv_iinc (v := x16) (lv' := [(2, .int x16), (3, .int o2.1), (0, .ref (a 0)), (1, .int x_1)]) hx hb dX9_readAll_73 hl (k := 3) rfl (by rw [ex16]; rfl) (by decide) rfl (fun ls hl => ?_)
            refine lv_goto (tgt := 12) hx hb dX9_readAll_76 (by decide) ?_
            exact ih12 x_1 x16 s15 _ _ _ hP hS (lv_sub hl [2, 3, 0] rfl) _ hf kk
        · replace hf := if_f hf c3
          refine lv_aload_n hx hb dX9_readAll_41 rfl (lv_at hl 1 rfl) ?_
          refine va_get (D := D) (ci := 7) (v := .int (o2.2.1 15)) (C := RX9) (T := TX9) (N := 27) hx hb hts hiX9 hown hK hP 0 rfl rfl 15 (by decide) k156 (fun _ h9 => h9) rfl dX9_readAll_42 ?_
          refine lv_goto (tgt := 49) hx hb dX9_readAll_45 (by decide) ?_
          obtain ⟨x17, ex17, hf⟩ := bnd_e hf
          refine w_nm ex17 ?_
          obtain ⟨x18, ex18, hf⟩ := bnd_e hf
          refine w_nm2 ex18 ?_
          obtain ⟨hi19, hf⟩ := ix_e hf
          obtain ⟨s20, es20, hf⟩ := bnd_e hf
          refine va_iast hx hb hK hP (hD o2.2) hS 8 0 rfl rfl hi19 dX9_readAll_49 (fun H locs hP _ hS => ?_)
          have hP : va_P D vwCl (mw cI cB a s20) H := by rw [es20]; exact hP
          refine lv_aload_n hx hb dX9_readAll_50 rfl (lv_at hl 1 rfl) ?_
          refine va_get (D := D) (ci := 7) (v := .ref (a 9)) (C := RX9) (T := TX9) (N := 27) hx hb hts hiX9 hown hK hP 0 rfl rfl 20 (by decide) k39 (fun _ h9 => h9) rfl dX9_readAll_51 ?_
          refine lv_bipush (v := 8) hx hb dX9_readAll_54 (by decide) ?_
          refine lv_iload_n hx hb dX9_readAll_56 rfl (lv_at hl 2 rfl) ?_
          refine lv_imul hx hb dX9_readAll_57 ?_
          refine lv_iload_n hx hb dX9_readAll_58 rfl (lv_at hl 3 rfl) ?_
          refine lv_iadd hx hb dX9_readAll_59 ?_
          refine lv_iload_n hx hb dX9_readAll_60 rfl (lv_at hl 0 rfl) ?_
          refine lv_if_eq (tgt := 71) hx hb dX9_readAll_61 (by decide) (fun c21 => ?_) (fun c21 => ?_)
          · replace hf := if_t hf c21
            refine lv_iconst (v := -1) hx hb dX9_readAll_71 (by decide) ?_
            obtain ⟨x22, ex22, hf⟩ := bnd_e hf
            refine w_nm2 ex22 ?_
            obtain ⟨hi23, hf⟩ := ix_e hf
            obtain ⟨s24, es24, hf⟩ := bnd_e hf
            refine va_iast hx hb hK hP (hD s20) hS 9 0 rfl rfl hi23 dX9_readAll_72 (fun H locs hP _ hS => ?_)
            have hP : va_P D vwCl (mw cI cB a s24) H := by rw [es24]; exact hP
            obtain ⟨x25, ex25, hf⟩ := bnd_e hf
            refine lv_iinc (v := x25) (lv' := [(2, .int x25), (3, .int o2.1), (0, .ref (a 0)), (1, .int x_1)]) hx hb dX9_readAll_73 hl (k := 3) rfl (by rw [ex25]; rfl) (by decide) rfl (fun ls hl => ?_)
            refine lv_goto (tgt := 12) hx hb dX9_readAll_76 (by decide) ?_
            exact ih12 x_1 x25 s24 _ _ _ hP hS (lv_sub hl [2, 3, 0] rfl) _ hf kk
          · replace hf := if_f hf c21
            refine lv_aload_n hx hb dX9_readAll_64 rfl (lv_at hl 1 rfl) ?_
            refine va_get (D := D) (ci := 7) (v := .int (s20.1 16)) (C := RX9) (T := TX9) (N := 27) hx hb hts hiX9 hown hK hP 0 rfl rfl 16 (by decide) k159 (fun _ h9 => h9) rfl dX9_readAll_65 ?_
            refine lv_goto (tgt := 72) hx hb dX9_readAll_68 (by decide) ?_
            obtain ⟨x26, ex26, hf⟩ := bnd_e hf
            refine w_nm ex26 ?_
            obtain ⟨x27, ex27, hf⟩ := bnd_e hf
            refine w_nm2 ex27 ?_
            obtain ⟨hi28, hf⟩ := ix_e hf
            obtain ⟨s29, es29, hf⟩ := bnd_e hf
            refine va_iast hx hb hK hP (hD s20) hS 9 0 rfl rfl hi28 dX9_readAll_72 (fun H locs hP _ hS => ?_)
            have hP : va_P D vwCl (mw cI cB a s29) H := by rw [es29]; exact hP
            obtain ⟨x30, ex30, hf⟩ := bnd_e hf
            refine lv_iinc (v := x30) (lv' := [(2, .int x30), (3, .int o2.1), (0, .ref (a 0)), (1, .int x_1)]) hx hb dX9_readAll_73 hl (k := 3) rfl (by rw [ex30]; rfl) (by decide) rfl (fun ls hl => ?_)
            refine lv_goto (tgt := 12) hx hb dX9_readAll_76 (by decide) ?_
            exact ih12 x_1 x30 s29 _ _ _ hP hS (lv_sub hl [2, 3, 0] rfl) _ hf kk
  have l2 : ∀ (n : Nat) (x_1 : Int32) (st : ST) (H : Heap) (locs : List Loc) (ls : Array Slot), va_P D vwCl (mw cI cB a st) H → va_S (mA a) s.heap H locs → lv_has ls 4 [(0, .ref (a 0)), (1, .int x_1)] → fX9_readAll_2 n st x_1 = some r → W p l e ({ frames := 6, cells := 0, slots := 0, locals := 145 }) s m ([.ref (a 0)] : List Value).toArray below meth c H locs 0 0 (MQ below (va_Qv (fun (u : ST) => u = r) (fun u t => va_P D vwCl (mw cI cB a u) t.heap) (mA a)) ([.ref (a 0)] : List Value).toArray s 0 0 (mA a)) (F0 m 2 ls []) := by
    intro n
    induction n with
    | zero =>
      intro x_1 st H locs ls hP hS hl hf
      cases hf
    | succ n ih2 =>
      intro x_1 st H locs ls hP hS hl hf
      unfold fX9_readAll_2 at hf
      refine lv_iload_n hx hb dX9_readAll_2 rfl (lv_at hl 1 rfl) ?_
      refine lv_aload_n hx hb dX9_readAll_3 rfl (lv_at hl 0 rfl) ?_
      refine va_get (D := D) (ci := 7) (v := .int (st.1 10)) (C := RX9) (T := TX9) (N := 27) hx hb hts hiX9 hown hK hP 0 rfl rfl 10 (by decide) k113 (fun _ h9 => h9) rfl dX9_readAll_4 ?_
      refine lv_icmp_ge (tgt := 85) hx hb dX9_readAll_7 (by decide) (fun c31 => ?_) (fun c31 => ?_)
      · replace hf := if_t hf c31
        exact W.vret hx hb hr (fun t ht _ => ⟨⟨st, rfl, so_i hf, p_at ht hP⟩, hS.F ht⟩) hS.2.2 dX9_readAll_85
      · replace hf := if_f hf c31
        refine lv_iconst (v := 0) hx hb dX9_readAll_10 (by decide) ?_
        refine lv_istore_n (lv' := [(2, .int 0), (0, .ref (a 0)), (1, .int x_1)]) hx hb dX9_readAll_11 rfl hl (by decide) rfl (fun ls hl => ?_)
        obtain ⟨o32, ho32, hf⟩ := ob_e hf
        refine l12 1000 x_1 0 st _ _ _ hP hS (lv_sub hl [1, 2, 0] rfl) _ ho32 ?_
        intro H locs ls hP hS hl
        have hl : lv_has ls 4 [(0, .ref (a 0)), (1, .int x_1)] := hl
        obtain ⟨x33, ex33, hf⟩ := bnd_e hf
        refine lv_iinc (v := x33) (lv' := [(1, .int x33), (0, .ref (a 0))]) hx hb dX9_readAll_79 hl (k := 1) rfl (by rw [ex33]; rfl) (by decide) rfl (fun ls hl => ?_)
        refine lv_goto (tgt := 2) hx hb dX9_readAll_82 (by decide) ?_
        exact ih2 x33 o32 _ _ _ hP hS (lv_sub hl [1, 0] rfl) hf
  unfold fX9_readAll at hf
  refine lv_iconst (v := 0) hx hb dX9_readAll_0 (by decide) ?_
  refine lv_istore_n (lv' := [(1, .int 0), (0, .ref (a 0))]) hx hb dX9_readAll_1 rfl hl (by decide) rfl (fun ls hl => ?_)
  exact l2 1000 0 st _ _ _ hP hS (lv_sub hl [1, 0] rfl) hf
set_option maxHeartbeats 4000000 in
set_option maxRecDepth 100000 in
theorem c_X9_isRow (l : Launch) (D : va_G) (cI cB : ClassId) (a tb : Nat → Nat) (st : ST) (p1 : Int32) (r : Int32) (hf : fX9_isRow st p1 = some r) : MetR l yX9_isRow wsX9_isRow ({ frames := 0, cells := 0, slots := 0, locals := 0 }) [.ref (a 0), .int p1] D [(cI, .int), (cB, .byte)] (mw cI cB a) (mA a) tb st r := by
  refine met_of (cc := cX9_isRow) (maxL := 2) (ret := (some .boolean)) (by decide) rfl (Nat.le_of_ble_eq_true rfl) ?_
  intro p e s m below meth c hx hb hr hml hts hown hlk hG ls hl
  have hown : s.vm.findClass RX9 = some m.cls := hown
  obtain ⟨hP, hK, hD, hZ⟩ := hG
  have hS : va_S (mA a) s.heap s.heap [] := va_S.rf
  have hl : lv_has ls 2 [(0, .ref (a 0)), (1, .int p1)] := hl
  have hiX9 : ∀ w ∈ wsX90, w ∈ wsX9_isRow := by decide +kernel
  have k113 := hts (.fieldLink RX9 113 "DayColumnModel" "rows" "I") (by decide +kernel)
  unfold fX9_isRow at hf
  refine lv_iload_n hx hb dX9_isRow_0 rfl (lv_at hl 1 rfl) ?_
  refine lv_if_lt (tgt := 16) hx hb dX9_isRow_1 (by decide) (fun c1 => ?_) (fun c1 => ?_)
  · replace hf := if_t hf c1
    refine lv_iconst (v := 0) hx hb dX9_isRow_16 (by decide) ?_
    exact W.zret (v := 0) hx hb hr rfl (fun t ht _ => ⟨0, rfl, so_i hf, ht⟩) (fun _ h => by cases h) dX9_isRow_17
  · replace hf := if_f hf c1
    refine lv_iload_n hx hb dX9_isRow_4 rfl (lv_at hl 1 rfl) ?_
    refine lv_aload_n hx hb dX9_isRow_5 rfl (lv_at hl 0 rfl) ?_
    refine va_get (D := D) (ci := 7) (v := .int (st.1 10)) (C := RX9) (T := TX9) (N := 27) hx hb hts hiX9 hown hK hP 0 rfl rfl 10 (by decide) k113 (fun _ h9 => h9) rfl dX9_isRow_6 ?_
    refine lv_icmp_ge (tgt := 16) hx hb dX9_isRow_9 (by decide) (fun c2 => ?_) (fun c2 => ?_)
    · replace hf := if_t hf c2
      refine lv_iconst (v := 0) hx hb dX9_isRow_16 (by decide) ?_
      exact W.zret (v := 0) hx hb hr rfl (fun t ht _ => ⟨0, rfl, so_i hf, ht⟩) (fun _ h => by cases h) dX9_isRow_17
    · replace hf := if_f hf c2
      refine lv_iconst (v := 1) hx hb dX9_isRow_12 (by decide) ?_
      refine lv_goto (tgt := 17) hx hb dX9_isRow_13 (by decide) ?_
      exact W.zret (v := 1) hx hb hr rfl (fun t ht _ => ⟨1, rfl, so_i hf, ht⟩) (fun _ h => by cases h) dX9_isRow_17
set_option maxHeartbeats 4000000 in
set_option maxRecDepth 100000 in
theorem c_X9_read (l : Launch) (D : va_G) (cI cB : ClassId) (a tb : Nat → Nat) (st : ST) (p1 p2 p3 : Int32) (r : Int32 × ST) (hf : fX9_read st p1 p2 p3 = some r) : MetW l yX9_read wsX9_read ({ frames := 6, cells := 0, slots := 0, locals := 145 }) [.ref (a 0), .int p1, .int p2, .int p3] D [(cI, .int), (cB, .byte)] (mw cI cB a) (mA a) tb st r := by
  refine met_of (cc := cX9_read) (maxL := 4) (ret := (some .int)) (by decide) rfl (Nat.le_of_ble_eq_true rfl) ?_
  intro p e s m below meth c hx hb hr hml hts hown hlk hG ls hl
  have hown : s.vm.findClass RX9 = some m.cls := hown
  obtain ⟨hP, hK, hD, hZ⟩ := hG
  have hS : va_S (mA a) s.heap s.heap [] := va_S.rf
  have hl : lv_has ls 4 [(0, .ref (a 0)), (1, .int p1), (2, .int p2), (3, .int p3)] := hl
  have hiX9 : ∀ w ∈ wsX90, w ∈ wsX9_read := by decide +kernel
  have k103 := hts (.fieldLink RX9 103 "DayColumnModel" "styles" "I") (by decide +kernel)
  have k156 := hts (.fieldLink RX9 156 "DayColumnModel" "from" "I") (by decide +kernel)
  have k159 := hts (.fieldLink RX9 159 "DayColumnModel" "to" "I") (by decide +kernel)
  have k54 := hts (.fieldLink RX9 54 "DayColumnModel" "thrown" "I") (by decide +kernel)
  unfold fX9_read at hf
  refine lv_aload_n hx hb dX9_read_0 rfl (lv_at hl 0 rfl) ?_
  refine lv_iconst (v := 0) hx hb dX9_read_1 (by decide) ?_
  obtain ⟨s1, es1, hf⟩ := bnd_e hf
  refine va_put (D := D) (ci := 7) (v := .int 0) (ty := .int) (C := RX9) (T := TX9) (N := 27) hx hb hts hiX9 tyX9 tyX9_ok nmX9 hown hK hP (hD st) hS 0 rfl rfl 0 (by decide) k54 (fun _ h9 => h9) rfl (by decide +kernel) rfl rfl (Nat.le_of_ble_eq_true rfl) dX9_read_2 (fun H locs hP _ hS => ?_)
  have hP : va_P D vwCl (mw cI cB a s1) H := by rw [es1]; exact hP
  refine lv_aload_n hx hb dX9_read_5 rfl (lv_at hl 0 rfl) ?_
  refine lv_iload_n hx hb dX9_read_6 rfl (lv_at hl 1 rfl) ?_
  obtain ⟨o2, ho2, hf⟩ := ob_e hf
  refine w_callR (b := a 0) (As := [.int p1]) (rest := []) ⟨hx, hb, hml, hown, hts⟩ (c_X9_isRow l D cI cB a tb s1 p1 o2 ho2) (cwV 1 hts gX9_read_X9_isRow rfl rfl rfl (by decide +kernel) ⟨Nat.le_of_ble_eq_true rfl, Nat.le_of_ble_eq_true rfl⟩) hP hK hD hZ hS (va_recv hK hP (ci := 7) (q0 := 0) rfl rfl) rfl hl.1 rfl (Nat.le_of_ble_eq_true rfl) ⟨Nat.zero_le _, Nat.zero_le _⟩ dX9_read_7 ?_
  refine lv_if_eq (tgt := 45) hx hb dX9_read_10 (by decide) (fun c3 => ?_) (fun c3 => ?_)
  · replace hf := if_t hf c3
    refine lv_iconst (v := -1) hx hb dX9_read_45 (by decide) ?_
    exact W.iret (v := (-1)) hx hb hr (fun t ht _ => ⟨⟨(-1), s1, rfl, so_p hf, p_at ht hP⟩, hS.F ht⟩) hS.2.2 dX9_read_46
  · replace hf := if_f hf c3
    refine lv_iload_n hx hb dX9_read_13 rfl (lv_at hl 2 rfl) ?_
    refine lv_iconst (v := 0) hx hb dX9_read_14 (by decide) ?_
    refine lv_aload_n hx hb dX9_read_15 rfl (lv_at hl 0 rfl) ?_
    refine va_get (D := D) (ci := 7) (v := .int (s1.1 9)) (C := RX9) (T := TX9) (N := 27) hx hb hts hiX9 hown hK hP 0 rfl rfl 9 (by decide) k103 (fun _ h9 => h9) rfl dX9_read_16 ?_
    refine lv_iconst (v := 1) hx hb dX9_read_19 (by decide) ?_
    refine lv_isub hx hb dX9_read_20 ?_
    obtain ⟨o4, ho4, hf⟩ := ob_e hf
    refine w_callT (As := [.int p2, .int 0, .int ((s1.1 9) - 1)]) (rest := []) ⟨hx, hb, hml, hown, hts⟩ (c_X9_isIn l tb p2 0 ((s1.1 9) - 1) o4 ho4) (va_cwS 3 hts gX9_read_X9_isIn rfl rfl rfl (by decide +kernel) ⟨Nat.le_of_ble_eq_true rfl, Nat.le_of_ble_eq_true rfl⟩) hZ hS rfl hl.1 rfl (Nat.le_of_ble_eq_true rfl) ⟨Nat.zero_le _, Nat.zero_le _⟩ dX9_read_21 ?_
    refine lv_if_eq (tgt := 45) hx hb dX9_read_24 (by decide) (fun c5 => ?_) (fun c5 => ?_)
    · replace hf := if_t hf c5
      refine lv_iconst (v := -1) hx hb dX9_read_45 (by decide) ?_
      exact W.iret (v := (-1)) hx hb hr (fun t ht _ => ⟨⟨(-1), s1, rfl, so_p hf, p_at ht hP⟩, hS.F ht⟩) hS.2.2 dX9_read_46
    · replace hf := if_f hf c5
      refine lv_iload_n hx hb dX9_read_27 rfl (lv_at hl 3 rfl) ?_
      refine lv_iconst (v := 0) hx hb dX9_read_28 (by decide) ?_
      refine lv_iconst (v := 1) hx hb dX9_read_29 (by decide) ?_
      obtain ⟨o6, ho6, hf⟩ := ob_e hf
      refine w_callT (As := [.int p3, .int 0, .int 1]) (rest := []) ⟨hx, hb, hml, hown, hts⟩ (c_X9_isIn l tb p3 0 1 o6 ho6) (va_cwS 3 hts gX9_read_X9_isIn rfl rfl rfl (by decide +kernel) ⟨Nat.le_of_ble_eq_true rfl, Nat.le_of_ble_eq_true rfl⟩) hZ hS rfl hl.1 rfl (Nat.le_of_ble_eq_true rfl) ⟨Nat.zero_le _, Nat.zero_le _⟩ dX9_read_30 ?_
      refine lv_if_eq (tgt := 45) hx hb dX9_read_33 (by decide) (fun c7 => ?_) (fun c7 => ?_)
      · replace hf := if_t hf c7
        refine lv_iconst (v := -1) hx hb dX9_read_45 (by decide) ?_
        exact W.iret (v := (-1)) hx hb hr (fun t ht _ => ⟨⟨(-1), s1, rfl, so_p hf, p_at ht hP⟩, hS.F ht⟩) hS.2.2 dX9_read_46
      · replace hf := if_f hf c7
        refine lv_aload_n hx hb dX9_read_36 rfl (lv_at hl 0 rfl) ?_
        refine lv_iload_n hx hb dX9_read_37 rfl (lv_at hl 1 rfl) ?_
        refine lv_iload_n hx hb dX9_read_38 rfl (lv_at hl 2 rfl) ?_
        obtain ⟨o8, ho8, hf⟩ := ob_e hf
        refine w_callW (b := a 0) (As := [.int p1, .int p2]) (rest := []) ⟨hx, hb, hml, hown, hts⟩ (c_X9_reads l D cI cB a tb s1 p1 p2 o8 ho8) (cwV 2 hts gX9_read_X9_reads rfl rfl rfl (by decide +kernel) ⟨Nat.le_of_ble_eq_true rfl, Nat.le_of_ble_eq_true rfl⟩) hP hK hD hZ hS (va_recv hK hP (ci := 7) (q0 := 0) rfl rfl) rfl hl.1 rfl (Nat.le_of_ble_eq_true rfl) ⟨Nat.zero_le _, Nat.zero_le _⟩ dX9_read_39 (fun H locs hP hS => ?_)
        refine lv_if_ne (tgt := 47) hx hb dX9_read_42 (by decide) (fun c9 => ?_) (fun c9 => ?_)
        · replace hf := if_f hf c9
          refine lv_iload_n hx hb dX9_read_47 rfl (lv_at hl 3 rfl) ?_
          refine lv_if_ne (tgt := 58) hx hb dX9_read_48 (by decide) (fun c10 => ?_) (fun c10 => ?_)
          · replace hf := if_f hf c10
            refine lv_aload_n hx hb dX9_read_58 rfl (lv_at hl 0 rfl) ?_
            refine va_get (D := D) (ci := 7) (v := .int (o8.2.1 16)) (C := RX9) (T := TX9) (N := 27) hx hb hts hiX9 hown hK hP 0 rfl rfl 16 (by decide) k159 (fun _ h9 => h9) rfl dX9_read_59 ?_
            exact W.iret (v := (o8.2.1 16)) hx hb hr (fun t ht _ => ⟨⟨(o8.2.1 16), o8.2, rfl, so_p hf, p_at ht hP⟩, hS.F ht⟩) hS.2.2 dX9_read_62
          · replace hf := if_t hf c10
            refine lv_aload_n hx hb dX9_read_51 rfl (lv_at hl 0 rfl) ?_
            refine va_get (D := D) (ci := 7) (v := .int (o8.2.1 15)) (C := RX9) (T := TX9) (N := 27) hx hb hts hiX9 hown hK hP 0 rfl rfl 15 (by decide) k156 (fun _ h9 => h9) rfl dX9_read_52 ?_
            refine lv_goto (tgt := 62) hx hb dX9_read_55 (by decide) ?_
            exact W.iret (v := (o8.2.1 15)) hx hb hr (fun t ht _ => ⟨⟨(o8.2.1 15), o8.2, rfl, so_p hf, p_at ht hP⟩, hS.F ht⟩) hS.2.2 dX9_read_62
        · replace hf := if_t hf c9
          refine lv_iconst (v := -1) hx hb dX9_read_45 (by decide) ?_
          exact W.iret (v := (-1)) hx hb hr (fun t ht _ => ⟨⟨(-1), o8.2, rfl, so_p hf, p_at ht hP⟩, hS.F ht⟩) hS.2.2 dX9_read_46
set_option maxHeartbeats 4000000 in
set_option maxRecDepth 100000 in
theorem c_X9_isSame (l : Launch) (D : va_G) (cI cB : ClassId) (a tb : Nat → Nat) (st : ST) (p1 p2 p3 : Int32) (r : Int32) (hf : fX9_isSame st p1 p2 p3 = some r) : MetR l yX9_isSame wsX9_isSame ({ frames := 0, cells := 0, slots := 0, locals := 0 }) [.ref (a 0), .int p1, .int p2, .int p3] D [(cI, .int), (cB, .byte)] (mw cI cB a) (mA a) tb st r := by
  refine met_of (cc := cX9_isSame) (maxL := 4) (ret := (some .boolean)) (by decide) rfl (Nat.le_of_ble_eq_true rfl) ?_
  intro p e s m below meth c hx hb hr hml hts hown hlk hG ls hl
  have hown : s.vm.findClass RX9 = some m.cls := hown
  obtain ⟨hP, hK, hD, hZ⟩ := hG
  have hS : va_S (mA a) s.heap s.heap [] := va_S.rf
  have hl : lv_has ls 4 [(0, .ref (a 0)), (1, .int p1), (2, .int p2), (3, .int p3)] := hl
  have hiX9 : ∀ w ∈ wsX90, w ∈ wsX9_isSame := by decide +kernel
  have k36 := hts (.fieldLink RX9 36 "DayColumnModel" "first" "[I") (by decide +kernel)
  have k39 := hts (.fieldLink RX9 39 "DayColumnModel" "last" "[I") (by decide +kernel)
  unfold fX9_isSame at hf
  refine lv_aload_n hx hb dX9_isSame_0 rfl (lv_at hl 0 rfl) ?_
  refine va_get (D := D) (ci := 7) (v := .ref (a 8)) (C := RX9) (T := TX9) (N := 27) hx hb hts hiX9 hown hK hP 0 rfl rfl 19 (by decide) k36 (fun _ h9 => h9) rfl dX9_isSame_1 ?_
  refine lv_bipush (v := 8) hx hb dX9_isSame_4 (by decide) ?_
  refine lv_iload_n hx hb dX9_isSame_6 rfl (lv_at hl 1 rfl) ?_
  refine lv_imul hx hb dX9_isSame_7 ?_
  refine lv_iload_n hx hb dX9_isSame_8 rfl (lv_at hl 2 rfl) ?_
  refine lv_iadd hx hb dX9_isSame_9 ?_
  obtain ⟨x1, ex1, hf⟩ := bnd_e hf
  refine w_nm ex1 ?_
  obtain ⟨hi2, hf⟩ := ix_e hf
  refine va_iald hx hb hK hP 8 0 rfl rfl hi2 dX9_isSame_10 ?_
  refine lv_aload_n hx hb dX9_isSame_11 rfl (lv_at hl 0 rfl) ?_
  refine va_get (D := D) (ci := 7) (v := .ref (a 8)) (C := RX9) (T := TX9) (N := 27) hx hb hts hiX9 hown hK hP 0 rfl rfl 19 (by decide) k36 (fun _ h9 => h9) rfl dX9_isSame_12 ?_
  refine lv_bipush (v := 8) hx hb dX9_isSame_15 (by decide) ?_
  refine lv_iload_n hx hb dX9_isSame_17 rfl (lv_at hl 1 rfl) ?_
  refine lv_imul hx hb dX9_isSame_18 ?_
  refine lv_iload_n hx hb dX9_isSame_19 rfl (lv_at hl 3 rfl) ?_
  refine lv_iadd hx hb dX9_isSame_20 ?_
  obtain ⟨x3, ex3, hf⟩ := bnd_e hf
  refine w_nm ex3 ?_
  obtain ⟨hi4, hf⟩ := ix_e hf
  refine va_iald hx hb hK hP 8 0 rfl rfl hi4 dX9_isSame_21 ?_
  refine lv_icmp_ne (tgt := 54) hx hb dX9_isSame_22 (by decide) (fun c5 => ?_) (fun c5 => ?_)
  · replace hf := if_f hf c5
    refine lv_iconst (v := 0) hx hb dX9_isSame_54 (by decide) ?_
    exact W.zret (v := 0) hx hb hr rfl (fun t ht _ => ⟨0, rfl, so_i hf, ht⟩) (fun _ h => by cases h) dX9_isSame_55
  · replace hf := if_t hf c5
    refine lv_aload_n hx hb dX9_isSame_25 rfl (lv_at hl 0 rfl) ?_
    refine va_get (D := D) (ci := 7) (v := .ref (a 9)) (C := RX9) (T := TX9) (N := 27) hx hb hts hiX9 hown hK hP 0 rfl rfl 20 (by decide) k39 (fun _ h9 => h9) rfl dX9_isSame_26 ?_
    refine lv_bipush (v := 8) hx hb dX9_isSame_29 (by decide) ?_
    refine lv_iload_n hx hb dX9_isSame_31 rfl (lv_at hl 1 rfl) ?_
    refine lv_imul hx hb dX9_isSame_32 ?_
    refine lv_iload_n hx hb dX9_isSame_33 rfl (lv_at hl 2 rfl) ?_
    refine lv_iadd hx hb dX9_isSame_34 ?_
    obtain ⟨x6, ex6, hf⟩ := bnd_e hf
    refine w_nm ex6 ?_
    obtain ⟨hi7, hf⟩ := ix_e hf
    refine va_iald hx hb hK hP 9 0 rfl rfl hi7 dX9_isSame_35 ?_
    refine lv_aload_n hx hb dX9_isSame_36 rfl (lv_at hl 0 rfl) ?_
    refine va_get (D := D) (ci := 7) (v := .ref (a 9)) (C := RX9) (T := TX9) (N := 27) hx hb hts hiX9 hown hK hP 0 rfl rfl 20 (by decide) k39 (fun _ h9 => h9) rfl dX9_isSame_37 ?_
    refine lv_bipush (v := 8) hx hb dX9_isSame_40 (by decide) ?_
    refine lv_iload_n hx hb dX9_isSame_42 rfl (lv_at hl 1 rfl) ?_
    refine lv_imul hx hb dX9_isSame_43 ?_
    refine lv_iload_n hx hb dX9_isSame_44 rfl (lv_at hl 3 rfl) ?_
    refine lv_iadd hx hb dX9_isSame_45 ?_
    obtain ⟨x8, ex8, hf⟩ := bnd_e hf
    refine w_nm ex8 ?_
    obtain ⟨hi9, hf⟩ := ix_e hf
    refine va_iald hx hb hK hP 9 0 rfl rfl hi9 dX9_isSame_46 ?_
    refine lv_icmp_ne (tgt := 54) hx hb dX9_isSame_47 (by decide) (fun c10 => ?_) (fun c10 => ?_)
    · replace hf := if_f hf c10
      refine lv_iconst (v := 0) hx hb dX9_isSame_54 (by decide) ?_
      exact W.zret (v := 0) hx hb hr rfl (fun t ht _ => ⟨0, rfl, so_i hf, ht⟩) (fun _ h => by cases h) dX9_isSame_55
    · replace hf := if_t hf c10
      refine lv_iconst (v := 1) hx hb dX9_isSame_50 (by decide) ?_
      refine lv_goto (tgt := 55) hx hb dX9_isSame_51 (by decide) ?_
      exact W.zret (v := 1) hx hb hr rfl (fun t ht _ => ⟨1, rfl, so_i hf, ht⟩) (fun _ h => by cases h) dX9_isSame_55
set_option maxHeartbeats 4000000 in
set_option maxRecDepth 100000 in
theorem c_X9_readings (l : Launch) (D : va_G) (cI cB : ClassId) (a tb : Nat → Nat) (st : ST) (p1 : Int32) (r : Int32 × ST) (hf : fX9_readings st p1 = some r) : MetW l yX9_readings wsX9_readings ({ frames := 7, cells := 0, slots := 0, locals := 168 }) [.ref (a 0), .int p1] D [(cI, .int), (cB, .byte)] (mw cI cB a) (mA a) tb st r := by
  refine met_of (cc := cX9_readings) (maxL := 6) (ret := (some .int)) (by decide) rfl (Nat.le_of_ble_eq_true rfl) ?_
  intro p e s m below meth c hx hb hr hml hts hown hlk hG ls hl
  have hown : s.vm.findClass RX9 = some m.cls := hown
  obtain ⟨hP, hK, hD, hZ⟩ := hG
  have hS : va_S (mA a) s.heap s.heap [] := va_S.rf
  have hl : lv_has ls 6 [(0, .ref (a 0)), (1, .int p1)] := hl
  have hiX9 : ∀ w ∈ wsX90, w ∈ wsX9_readings := by decide +kernel
  have k103 := hts (.fieldLink RX9 103 "DayColumnModel" "styles" "I") (by decide +kernel)
  have k36 := hts (.fieldLink RX9 36 "DayColumnModel" "first" "[I") (by decide +kernel)
  have k54 := hts (.fieldLink RX9 54 "DayColumnModel" "thrown" "I") (by decide +kernel)
  have l56 : ∀ (n : Nat) (x_1 x_2 x_3 x_4 x_5 : Int32) (st : ST) (H : Heap) (locs : List Loc) (ls : Array Slot), va_P D vwCl (mw cI cB a st) H → va_S (mA a) s.heap H locs → lv_has ls 6 [(0, .ref (a 0)), (1, .int x_1), (2, .int x_2), (3, .int x_3), (4, .int x_4), (5, .int x_5)] → ∀ (o : Int32), fX9_readings_56 n st x_1 x_2 x_3 x_4 x_5 = some o → (∀ (H : Heap) (locs : List Loc) (ls : Array Slot), va_P D vwCl (mw cI cB a st) H → va_S (mA a) s.heap H locs → lv_has ls 6 [(0, .ref (a 0)), (1, .int x_1), (2, .int x_2), (3, .int x_3), (4, .int o)] → W p l e ({ frames := 7, cells := 0, slots := 0, locals := 168 }) s m ([.ref (a 0), .int p1] : List Value).toArray below meth c H locs 0 0 (MQ below (va_Qi (fun (z : Int32) (u : ST) => z = r.1 ∧ u = r.2) (fun u t => va_P D vwCl (mw cI cB a u) t.heap) (mA a)) ([.ref (a 0), .int p1] : List Value).toArray s 0 0 (mA a)) (F0 m 91 ls [])) → W p l e ({ frames := 7, cells := 0, slots := 0, locals := 168 }) s m ([.ref (a 0), .int p1] : List Value).toArray below meth c H locs 0 0 (MQ below (va_Qi (fun (z : Int32) (u : ST) => z = r.1 ∧ u = r.2) (fun u t => va_P D vwCl (mw cI cB a u) t.heap) (mA a)) ([.ref (a 0), .int p1] : List Value).toArray s 0 0 (mA a)) (F0 m 56 ls []) := by
    intro n
    induction n with
    | zero =>
      intro x_1 x_2 x_3 x_4 x_5 st H locs ls hP hS hl o hf kk
      cases hf
    | succ n ih56 =>
      intro x_1 x_2 x_3 x_4 x_5 st H locs ls hP hS hl o hf kk
      unfold fX9_readings_56 at hf
      refine lv_iload hx hb dX9_readings_56 (lv_at hl 5 rfl) ?_
      refine lv_iload_n hx hb dX9_readings_58 rfl (lv_at hl 3 rfl) ?_
      refine lv_icmp_ge (tgt := 91) hx hb dX9_readings_59 (by decide) (fun c1 => ?_) (fun c1 => ?_)
      · replace hf := if_t hf c1
        obtain rfl := so_i hf
        exact kk _ _ _ hP hS (lv_sub hl [0, 1, 2, 3, 4] rfl)
      · replace hf := if_f hf c1
        refine lv_iload hx hb dX9_readings_62 (lv_at hl 4 rfl) ?_
        refine lv_if_eq (tgt := 82) hx hb dX9_readings_64 (by decide) (fun c2 => ?_) (fun c2 => ?_)
        · replace hf := if_t hf c2
          refine lv_iconst (v := 0) hx hb dX9_readings_82 (by decide) ?_
          refine lv_istore (lv' := [(4, .int 0), (0, .ref (a 0)), (1, .int x_1), (2, .int x_2), (3, .int x_3), (5, .int x_5)]) hx hb dX9_readings_83 hl (by decide) rfl (fun ls hl => ?_)
          obtain ⟨x3, ex3, hf⟩ := bnd_e hf
          refine lv_iinc (v := x3) (lv' := [(5, .int x3), (4, .int 0), (0, .ref (a 0)), (1, .int x_1), (2, .int x_2), (3, .int x_3)]) hx hb dX9_readings_85 hl (k := 5) rfl (by rw [ex3]; rfl) (by decide) rfl (fun ls hl => ?_)
          refine lv_goto (tgt := 56) hx hb dX9_readings_88 (by decide) ?_
          exact ih56 x_1 x_2 x_3 0 x3 st _ _ _ hP hS (lv_sub hl [2, 3, 4, 5, 1, 0] rfl) _ hf kk
        · replace hf := if_f hf c2
          refine lv_aload_n hx hb dX9_readings_67 rfl (lv_at hl 0 rfl) ?_
          refine lv_iload_n hx hb dX9_readings_68 rfl (lv_at hl 1 rfl) ?_
          refine lv_iload_n hx hb dX9_readings_69 rfl (lv_at hl 3 rfl) ?_
          refine lv_iload hx hb dX9_readings_70 (lv_at hl 5 rfl) ?_
          obtain ⟨o4, ho4, hf⟩ := ob_e hf
          refine w_callR (b := a 0) (As := [.int x_1, .int x_3, .int x_5]) (rest := []) ⟨hx, hb, hml, hown, hts⟩ (c_X9_isSame l D cI cB a tb st x_1 x_3 x_5 o4 ho4) (cwV 3 hts gX9_readings_X9_isSame rfl rfl rfl (by decide +kernel) ⟨Nat.le_of_ble_eq_true rfl, Nat.le_of_ble_eq_true rfl⟩) hP hK hD hZ hS (va_recv hK hP (ci := 7) (q0 := 0) rfl rfl) rfl hl.1 rfl (Nat.le_of_ble_eq_true rfl) ⟨Nat.zero_le _, Nat.zero_le _⟩ dX9_readings_72 ?_
          refine lv_if_ne (tgt := 82) hx hb dX9_readings_75 (by decide) (fun c5 => ?_) (fun c5 => ?_)
          · replace hf := if_f hf c5
            refine lv_iconst (v := 0) hx hb dX9_readings_82 (by decide) ?_
            refine lv_istore (lv' := [(4, .int 0), (0, .ref (a 0)), (1, .int x_1), (2, .int x_2), (3, .int x_3), (5, .int x_5)]) hx hb dX9_readings_83 hl (by decide) rfl (fun ls hl => ?_)
            obtain ⟨x6, ex6, hf⟩ := bnd_e hf
            refine lv_iinc (v := x6) (lv' := [(5, .int x6), (4, .int 0), (0, .ref (a 0)), (1, .int x_1), (2, .int x_2), (3, .int x_3)]) hx hb dX9_readings_85 hl (k := 5) rfl (by rw [ex6]; rfl) (by decide) rfl (fun ls hl => ?_)
            refine lv_goto (tgt := 56) hx hb dX9_readings_88 (by decide) ?_
            exact ih56 x_1 x_2 x_3 0 x6 st _ _ _ hP hS (lv_sub hl [2, 3, 4, 5, 1, 0] rfl) _ hf kk
          · replace hf := if_t hf c5
            refine lv_iconst (v := 1) hx hb dX9_readings_78 (by decide) ?_
            refine lv_goto (tgt := 83) hx hb dX9_readings_79 (by decide) ?_
            refine lv_istore (lv' := [(4, .int 1), (0, .ref (a 0)), (1, .int x_1), (2, .int x_2), (3, .int x_3), (5, .int x_5)]) hx hb dX9_readings_83 hl (by decide) rfl (fun ls hl => ?_)
            obtain ⟨x7, ex7, hf⟩ := bnd_e hf
            refine lv_iinc (v := x7) (lv' := [(5, .int x7), (4, .int 1), (0, .ref (a 0)), (1, .int x_1), (2, .int x_2), (3, .int x_3)]) hx hb dX9_readings_85 hl (k := 5) rfl (by rw [ex7]; rfl) (by decide) rfl (fun ls hl => ?_)
            refine lv_goto (tgt := 56) hx hb dX9_readings_88 (by decide) ?_
            exact ih56 x_1 x_2 x_3 1 x7 st _ _ _ hP hS (lv_sub hl [2, 3, 4, 5, 1, 0] rfl) _ hf kk
  have l23 : ∀ (n : Nat) (x_1 x_2 x_3 : Int32) (st : ST) (H : Heap) (locs : List Loc) (ls : Array Slot), va_P D vwCl (mw cI cB a st) H → va_S (mA a) s.heap H locs → lv_has ls 6 [(0, .ref (a 0)), (1, .int x_1), (2, .int x_2), (3, .int x_3)] → fX9_readings_23 n st x_1 x_2 x_3 = some r → W p l e ({ frames := 7, cells := 0, slots := 0, locals := 168 }) s m ([.ref (a 0), .int p1] : List Value).toArray below meth c H locs 0 0 (MQ below (va_Qi (fun (z : Int32) (u : ST) => z = r.1 ∧ u = r.2) (fun u t => va_P D vwCl (mw cI cB a u) t.heap) (mA a)) ([.ref (a 0), .int p1] : List Value).toArray s 0 0 (mA a)) (F0 m 23 ls []) := by
    intro n
    induction n with
    | zero =>
      intro x_1 x_2 x_3 st H locs ls hP hS hl hf
      cases hf
    | succ n ih23 =>
      intro x_1 x_2 x_3 st H locs ls hP hS hl hf
      unfold fX9_readings_23 at hf
      refine lv_iload_n hx hb dX9_readings_23 rfl (lv_at hl 3 rfl) ?_
      refine lv_aload_n hx hb dX9_readings_24 rfl (lv_at hl 0 rfl) ?_
      refine va_get (D := D) (ci := 7) (v := .int (st.1 9)) (C := RX9) (T := TX9) (N := 27) hx hb hts hiX9 hown hK hP 0 rfl rfl 9 (by decide) k103 (fun _ h9 => h9) rfl dX9_readings_25 ?_
      refine lv_icmp_ge (tgt := 110) hx hb dX9_readings_28 (by decide) (fun c8 => ?_) (fun c8 => ?_)
      · replace hf := if_t hf c8
        refine lv_iload_n hx hb dX9_readings_110 rfl (lv_at hl 2 rfl) ?_
        exact W.iret (v := x_2) hx hb hr (fun t ht _ => ⟨⟨x_2, st, rfl, so_p hf, p_at ht hP⟩, hS.F ht⟩) hS.2.2 dX9_readings_111
      · replace hf := if_f hf c8
        refine lv_aload_n hx hb dX9_readings_31 rfl (lv_at hl 0 rfl) ?_
        refine va_get (D := D) (ci := 7) (v := .ref (a 8)) (C := RX9) (T := TX9) (N := 27) hx hb hts hiX9 hown hK hP 0 rfl rfl 19 (by decide) k36 (fun _ h9 => h9) rfl dX9_readings_32 ?_
        refine lv_bipush (v := 8) hx hb dX9_readings_35 (by decide) ?_
        refine lv_iload_n hx hb dX9_readings_37 rfl (lv_at hl 1 rfl) ?_
        refine lv_imul hx hb dX9_readings_38 ?_
        refine lv_iload_n hx hb dX9_readings_39 rfl (lv_at hl 3 rfl) ?_
        refine lv_iadd hx hb dX9_readings_40 ?_
        obtain ⟨x9, ex9, hf⟩ := bnd_e hf
        refine w_nm ex9 ?_
        obtain ⟨hi10, hf⟩ := ix_e hf
        refine va_iald hx hb hK hP 8 0 rfl rfl hi10 dX9_readings_41 ?_
        refine lv_iconst (v := -1) hx hb dX9_readings_42 (by decide) ?_
        refine lv_icmp_eq (tgt := 50) hx hb dX9_readings_43 (by decide) (fun c11 => ?_) (fun c11 => ?_)
        · replace hf := if_t hf c11
          refine lv_iconst (v := 0) hx hb dX9_readings_50 (by decide) ?_
          refine lv_istore (lv' := [(4, .int 0), (0, .ref (a 0)), (1, .int x_1), (2, .int x_2), (3, .int x_3)]) hx hb dX9_readings_51 hl (by decide) rfl (fun ls hl => ?_)
          refine lv_iconst (v := 0) hx hb dX9_readings_53 (by decide) ?_
          refine lv_istore (lv' := [(5, .int 0), (4, .int 0), (0, .ref (a 0)), (1, .int x_1), (2, .int x_2), (3, .int x_3)]) hx hb dX9_readings_54 hl (by decide) rfl (fun ls hl => ?_)
          obtain ⟨o12, ho12, hf⟩ := ob_e hf
          refine l56 1000 x_1 x_2 x_3 0 0 st _ _ _ hP hS (lv_sub hl [2, 3, 4, 5, 1, 0] rfl) _ ho12 ?_
          intro H locs ls hP hS hl
          have hl : lv_has ls 6 [(0, .ref (a 0)), (1, .int x_1), (2, .int x_2), (3, .int x_3), (4, .int o12)] := hl
          refine lv_iload_n hx hb dX9_readings_91 rfl (lv_at hl 2 rfl) ?_
          refine lv_iload hx hb dX9_readings_92 (lv_at hl 4 rfl) ?_
          refine lv_if_eq (tgt := 101) hx hb dX9_readings_94 (by decide) (fun c13 => ?_) (fun c13 => ?_)
          · replace hf := if_t hf c13
            refine lv_iconst (v := 0) hx hb dX9_readings_101 (by decide) ?_
            refine lv_iadd hx hb dX9_readings_102 ?_
            obtain ⟨x14, ex14, hf⟩ := bnd_e hf
            refine w_nm ex14 ?_
            refine lv_istore_n (lv' := [(2, .int x14), (0, .ref (a 0)), (1, .int x_1), (3, .int x_3), (4, .int o12)]) hx hb dX9_readings_103 rfl hl (by decide) rfl (fun ls hl => ?_)
            obtain ⟨x15, ex15, hf⟩ := bnd_e hf
            refine lv_iinc (v := x15) (lv' := [(3, .int x15), (2, .int x14), (0, .ref (a 0)), (1, .int x_1), (4, .int o12)]) hx hb dX9_readings_104 hl (k := 3) rfl (by rw [ex15]; rfl) (by decide) rfl (fun ls hl => ?_)
            refine lv_goto (tgt := 23) hx hb dX9_readings_107 (by decide) ?_
            exact ih23 x_1 x14 x15 st _ _ _ hP hS (lv_sub hl [2, 3, 1, 0] rfl) hf
          · replace hf := if_f hf c13
            refine lv_iconst (v := 1) hx hb dX9_readings_97 (by decide) ?_
            refine lv_goto (tgt := 102) hx hb dX9_readings_98 (by decide) ?_
            refine lv_iadd hx hb dX9_readings_102 ?_
            obtain ⟨x16, ex16, hf⟩ := bnd_e hf
            refine w_nm ex16 ?_
            refine lv_istore_n (lv' := [(2, .int x16), (0, .ref (a 0)), (1, .int x_1), (3, .int x_3), (4, .int o12)]) hx hb dX9_readings_103 rfl hl (by decide) rfl (fun ls hl => ?_)
            obtain ⟨x17, ex17, hf⟩ := bnd_e hf
            refine lv_iinc (v := x17) (lv' := [(3, .int x17), (2, .int x16), (0, .ref (a 0)), (1, .int x_1), (4, .int o12)]) hx hb dX9_readings_104 hl (k := 3) rfl (by rw [ex17]; rfl) (by decide) rfl (fun ls hl => ?_)
            refine lv_goto (tgt := 23) hx hb dX9_readings_107 (by decide) ?_
            exact ih23 x_1 x16 x17 st _ _ _ hP hS (lv_sub hl [2, 3, 1, 0] rfl) hf
        · replace hf := if_f hf c11
          refine lv_iconst (v := 1) hx hb dX9_readings_46 (by decide) ?_
          refine lv_goto (tgt := 51) hx hb dX9_readings_47 (by decide) ?_
          refine lv_istore (lv' := [(4, .int 1), (0, .ref (a 0)), (1, .int x_1), (2, .int x_2), (3, .int x_3)]) hx hb dX9_readings_51 hl (by decide) rfl (fun ls hl => ?_)
          refine lv_iconst (v := 0) hx hb dX9_readings_53 (by decide) ?_
          refine lv_istore (lv' := [(5, .int 0), (4, .int 1), (0, .ref (a 0)), (1, .int x_1), (2, .int x_2), (3, .int x_3)]) hx hb dX9_readings_54 hl (by decide) rfl (fun ls hl => ?_)
          obtain ⟨o18, ho18, hf⟩ := ob_e hf
          refine l56 1000 x_1 x_2 x_3 1 0 st _ _ _ hP hS (lv_sub hl [2, 3, 4, 5, 1, 0] rfl) _ ho18 ?_
          intro H locs ls hP hS hl
          have hl : lv_has ls 6 [(0, .ref (a 0)), (1, .int x_1), (2, .int x_2), (3, .int x_3), (4, .int o18)] := hl
          refine lv_iload_n hx hb dX9_readings_91 rfl (lv_at hl 2 rfl) ?_
          refine lv_iload hx hb dX9_readings_92 (lv_at hl 4 rfl) ?_
          refine lv_if_eq (tgt := 101) hx hb dX9_readings_94 (by decide) (fun c19 => ?_) (fun c19 => ?_)
          · replace hf := if_t hf c19
            refine lv_iconst (v := 0) hx hb dX9_readings_101 (by decide) ?_
            refine lv_iadd hx hb dX9_readings_102 ?_
            obtain ⟨x20, ex20, hf⟩ := bnd_e hf
            refine w_nm ex20 ?_
            refine lv_istore_n (lv' := [(2, .int x20), (0, .ref (a 0)), (1, .int x_1), (3, .int x_3), (4, .int o18)]) hx hb dX9_readings_103 rfl hl (by decide) rfl (fun ls hl => ?_)
            obtain ⟨x21, ex21, hf⟩ := bnd_e hf
            refine lv_iinc (v := x21) (lv' := [(3, .int x21), (2, .int x20), (0, .ref (a 0)), (1, .int x_1), (4, .int o18)]) hx hb dX9_readings_104 hl (k := 3) rfl (by rw [ex21]; rfl) (by decide) rfl (fun ls hl => ?_)
            refine lv_goto (tgt := 23) hx hb dX9_readings_107 (by decide) ?_
            exact ih23 x_1 x20 x21 st _ _ _ hP hS (lv_sub hl [2, 3, 1, 0] rfl) hf
          · replace hf := if_f hf c19
            refine lv_iconst (v := 1) hx hb dX9_readings_97 (by decide) ?_
            refine lv_goto (tgt := 102) hx hb dX9_readings_98 (by decide) ?_
            refine lv_iadd hx hb dX9_readings_102 ?_
            obtain ⟨x22, ex22, hf⟩ := bnd_e hf
            refine w_nm ex22 ?_
            refine lv_istore_n (lv' := [(2, .int x22), (0, .ref (a 0)), (1, .int x_1), (3, .int x_3), (4, .int o18)]) hx hb dX9_readings_103 rfl hl (by decide) rfl (fun ls hl => ?_)
            obtain ⟨x23, ex23, hf⟩ := bnd_e hf
            refine lv_iinc (v := x23) (lv' := [(3, .int x23), (2, .int x22), (0, .ref (a 0)), (1, .int x_1), (4, .int o18)]) hx hb dX9_readings_104 hl (k := 3) rfl (by rw [ex23]; rfl) (by decide) rfl (fun ls hl => ?_)
            refine lv_goto (tgt := 23) hx hb dX9_readings_107 (by decide) ?_
            exact ih23 x_1 x22 x23 st _ _ _ hP hS (lv_sub hl [2, 3, 1, 0] rfl) hf
  unfold fX9_readings at hf
  refine lv_aload_n hx hb dX9_readings_0 rfl (lv_at hl 0 rfl) ?_
  refine lv_iconst (v := 0) hx hb dX9_readings_1 (by decide) ?_
  obtain ⟨s24, es24, hf⟩ := bnd_e hf
  refine va_put (D := D) (ci := 7) (v := .int 0) (ty := .int) (C := RX9) (T := TX9) (N := 27) hx hb hts hiX9 tyX9 tyX9_ok nmX9 hown hK hP (hD st) hS 0 rfl rfl 0 (by decide) k54 (fun _ h9 => h9) rfl (by decide +kernel) rfl rfl (Nat.le_of_ble_eq_true rfl) dX9_readings_2 (fun H locs hP _ hS => ?_)
  have hP : va_P D vwCl (mw cI cB a s24) H := by rw [es24]; exact hP
  refine lv_aload_n hx hb dX9_readings_5 rfl (lv_at hl 0 rfl) ?_
  refine lv_iload_n hx hb dX9_readings_6 rfl (lv_at hl 1 rfl) ?_
  obtain ⟨o25, ho25, hf⟩ := ob_e hf
  refine w_callR (b := a 0) (As := [.int p1]) (rest := []) ⟨hx, hb, hml, hown, hts⟩ (c_X9_isRow l D cI cB a tb s24 p1 o25 ho25) (cwV 1 hts gX9_readings_X9_isRow rfl rfl rfl (by decide +kernel) ⟨Nat.le_of_ble_eq_true rfl, Nat.le_of_ble_eq_true rfl⟩) hP hK hD hZ hS (va_recv hK hP (ci := 7) (q0 := 0) rfl rfl) rfl hl.1 rfl (Nat.le_of_ble_eq_true rfl) ⟨Nat.zero_le _, Nat.zero_le _⟩ dX9_readings_7 ?_
  refine lv_if_ne (tgt := 15) hx hb dX9_readings_10 (by decide) (fun c26 => ?_) (fun c26 => ?_)
  · replace hf := if_f hf c26
    refine lv_aload_n hx hb dX9_readings_15 rfl (lv_at hl 0 rfl) ?_
    obtain ⟨o27, ho27, hf⟩ := ob_e hf
    refine w_callV (b := a 0) (As := []) (rest := []) ⟨hx, hb, hml, hown, hts⟩ (c_X9_readAll l D cI cB a tb s24 o27 ho27) (cwV 0 hts gX9_readings_X9_readAll rfl rfl rfl (by decide +kernel) ⟨Nat.le_of_ble_eq_true rfl, Nat.le_of_ble_eq_true rfl⟩) hP hK hD hZ hS (va_recv hK hP (ci := 7) (q0 := 0) rfl rfl) rfl hl.1 rfl (Nat.le_of_ble_eq_true rfl) ⟨Nat.zero_le _, Nat.zero_le _⟩ dX9_readings_16 (fun H locs hP hS => ?_)
    refine lv_iconst (v := 0) hx hb dX9_readings_19 (by decide) ?_
    refine lv_istore_n (lv' := [(2, .int 0), (0, .ref (a 0)), (1, .int p1)]) hx hb dX9_readings_20 rfl hl (by decide) rfl (fun ls hl => ?_)
    refine lv_iconst (v := 0) hx hb dX9_readings_21 (by decide) ?_
    refine lv_istore_n (lv' := [(3, .int 0), (2, .int 0), (0, .ref (a 0)), (1, .int p1)]) hx hb dX9_readings_22 rfl hl (by decide) rfl (fun ls hl => ?_)
    exact l23 1000 p1 0 0 o27 _ _ _ hP hS (lv_sub hl [2, 3, 1, 0] rfl) hf
  · replace hf := if_t hf c26
    refine lv_iconst (v := -1) hx hb dX9_readings_13 (by decide) ?_
    exact W.iret (v := (-1)) hx hb hr (fun t ht _ => ⟨⟨(-1), s24, rfl, so_p hf, p_at ht hP⟩, hS.F ht⟩) hS.2.2 dX9_readings_14
set_option maxHeartbeats 4000000 in
set_option maxRecDepth 100000 in
theorem c_X9_miss (l : Launch) (D : va_G) (cI cB : ClassId) (a tb : Nat → Nat) (st : ST) (p1 p2 : Int32) (r : Int32) (hf : fX9_miss st p1 p2 = some r) : MetR l yX9_miss wsX9_miss ({ frames := 0, cells := 0, slots := 0, locals := 0 }) [.ref (a 0), .int p1, .int p2] D [(cI, .int), (cB, .byte)] (mw cI cB a) (mA a) tb st r := by
  refine met_of (cc := cX9_miss) (maxL := 3) (ret := (some .int)) (by decide) rfl (Nat.le_of_ble_eq_true rfl) ?_
  intro p e s m below meth c hx hb hr hml hts hown hlk hG ls hl
  have hown : s.vm.findClass RX9 = some m.cls := hown
  obtain ⟨hP, hK, hD, hZ⟩ := hG
  have hS : va_S (mA a) s.heap s.heap [] := va_S.rf
  have hl : lv_has ls 3 [(0, .ref (a 0)), (1, .int p1), (2, .int p2)] := hl
  have hiX9 : ∀ w ∈ wsX90, w ∈ wsX9_miss := by decide +kernel
  have k29 := hts (.fieldLink RX9 29 "DayColumnModel" "price" "[I") (by decide +kernel)
  have k36 := hts (.fieldLink RX9 36 "DayColumnModel" "first" "[I") (by decide +kernel)
  unfold fX9_miss at hf
  refine lv_aload_n hx hb dX9_miss_0 rfl (lv_at hl 0 rfl) ?_
  refine va_get (D := D) (ci := 7) (v := .ref (a 8)) (C := RX9) (T := TX9) (N := 27) hx hb hts hiX9 hown hK hP 0 rfl rfl 19 (by decide) k36 (fun _ h9 => h9) rfl dX9_miss_1 ?_
  refine lv_bipush (v := 8) hx hb dX9_miss_4 (by decide) ?_
  refine lv_iload_n hx hb dX9_miss_6 rfl (lv_at hl 1 rfl) ?_
  refine lv_imul hx hb dX9_miss_7 ?_
  refine lv_iload_n hx hb dX9_miss_8 rfl (lv_at hl 2 rfl) ?_
  refine lv_iadd hx hb dX9_miss_9 ?_
  obtain ⟨x1, ex1, hf⟩ := bnd_e hf
  refine w_nm ex1 ?_
  obtain ⟨hi2, hf⟩ := ix_e hf
  refine va_iald hx hb hK hP 8 0 rfl rfl hi2 dX9_miss_10 ?_
  refine lv_iconst (v := -1) hx hb dX9_miss_11 (by decide) ?_
  refine lv_icmp_ne (tgt := 24) hx hb dX9_miss_12 (by decide) (fun c3 => ?_) (fun c3 => ?_)
  · replace hf := if_f hf c3
    refine lv_iconst (v := 0) hx hb dX9_miss_24 (by decide) ?_
    exact W.iret (v := 0) hx hb hr (fun t ht _ => ⟨0, rfl, so_i hf, ht⟩) (fun _ h => by cases h) dX9_miss_25
  · replace hf := if_t hf c3
    refine lv_aload_n hx hb dX9_miss_15 rfl (lv_at hl 0 rfl) ?_
    refine va_get (D := D) (ci := 7) (v := .ref (a 7)) (C := RX9) (T := TX9) (N := 27) hx hb hts hiX9 hown hK hP 0 rfl rfl 7 (by decide) k29 (fun _ h9 => h9) rfl dX9_miss_16 ?_
    refine lv_iconst (v := 1) hx hb dX9_miss_19 (by decide) ?_
    obtain ⟨hi4, hf⟩ := ix_e hf
    refine va_iald hx hb hK hP 7 0 rfl rfl hi4 dX9_miss_20 ?_
    refine lv_goto (tgt := 25) hx hb dX9_miss_21 (by decide) ?_
    exact W.iret (v := (st.2 7 (Int32.toNatClampNeg 1))) hx hb hr (fun t ht _ => ⟨(st.2 7 (Int32.toNatClampNeg 1)), rfl, so_i hf, ht⟩) (fun _ h => by cases h) dX9_miss_25
set_option maxHeartbeats 4000000 in
set_option maxRecDepth 100000 in
theorem c_X9_step (l : Launch) (D : va_G) (cI cB : ClassId) (a tb : Nat → Nat) (st : ST) (p1 p2 p3 : Int32) (r : Int32) (hf : fX9_step st p1 p2 p3 = some r) : MetR l yX9_step wsX9_step ({ frames := 0, cells := 0, slots := 0, locals := 0 }) [.ref (a 0), .int p1, .int p2, .int p3] D [(cI, .int), (cB, .byte)] (mw cI cB a) (mA a) tb st r := by
  refine met_of (cc := cX9_step) (maxL := 7) (ret := (some .int)) (by decide) rfl (Nat.le_of_ble_eq_true rfl) ?_
  intro p e s m below meth c hx hb hr hml hts hown hlk hG ls hl
  have hown : s.vm.findClass RX9 = some m.cls := hown
  obtain ⟨hP, hK, hD, hZ⟩ := hG
  have hS : va_S (mA a) s.heap s.heap [] := va_S.rf
  have hl : lv_has ls 7 [(0, .ref (a 0)), (1, .int p1), (2, .int p2), (3, .int p3)] := hl
  have hiX9 : ∀ w ∈ wsX90, w ∈ wsX9_step := by decide +kernel
  have k23 := hts (.fieldLink RX9 23 "DayColumnModel" "styleCost" "[I") (by decide +kernel)
  have k29 := hts (.fieldLink RX9 29 "DayColumnModel" "price" "[I") (by decide +kernel)
  have k36 := hts (.fieldLink RX9 36 "DayColumnModel" "first" "[I") (by decide +kernel)
  have k39 := hts (.fieldLink RX9 39 "DayColumnModel" "last" "[I") (by decide +kernel)
  unfold fX9_step at hf
  refine lv_iload_n hx hb dX9_step_0 rfl (lv_at hl 2 rfl) ?_
  refine lv_iload_n hx hb dX9_step_1 rfl (lv_at hl 3 rfl) ?_
  refine lv_icmp_ne (tgt := 9) hx hb dX9_step_2 (by decide) (fun c1 => ?_) (fun c1 => ?_)
  · replace hf := if_f hf c1
    refine lv_aload_n hx hb dX9_step_9 rfl (lv_at hl 0 rfl) ?_
    refine va_get (D := D) (ci := 7) (v := .ref (a 7)) (C := RX9) (T := TX9) (N := 27) hx hb hts hiX9 hown hK hP 0 rfl rfl 7 (by decide) k29 (fun _ h9 => h9) rfl dX9_step_10 ?_
    refine lv_iconst (v := 0) hx hb dX9_step_13 (by decide) ?_
    obtain ⟨hi2, hf⟩ := ix_e hf
    refine va_iald hx hb hK hP 7 0 rfl rfl hi2 dX9_step_14 ?_
    refine lv_aload_n hx hb dX9_step_15 rfl (lv_at hl 0 rfl) ?_
    refine va_get (D := D) (ci := 7) (v := .ref (a 5)) (C := RX9) (T := TX9) (N := 27) hx hb hts hiX9 hown hK hP 0 rfl rfl 5 (by decide) k23 (fun _ h9 => h9) rfl dX9_step_16 ?_
    refine lv_iload_n hx hb dX9_step_19 rfl (lv_at hl 3 rfl) ?_
    obtain ⟨hi3, hf⟩ := ix_e hf
    refine va_iald hx hb hK hP 5 0 rfl rfl hi3 dX9_step_20 ?_
    refine lv_iadd hx hb dX9_step_21 ?_
    obtain ⟨x4, ex4, hf⟩ := bnd_e hf
    refine w_nm ex4 ?_
    refine lv_istore (lv' := [(4, .int x4), (0, .ref (a 0)), (1, .int p1), (2, .int p2), (3, .int p3)]) hx hb dX9_step_22 hl (by decide) rfl (fun ls hl => ?_)
    refine lv_bipush (v := 8) hx hb dX9_step_24 (by decide) ?_
    refine lv_iload_n hx hb dX9_step_26 rfl (lv_at hl 2 rfl) ?_
    refine lv_imul hx hb dX9_step_27 ?_
    refine lv_iload_n hx hb dX9_step_28 rfl (lv_at hl 3 rfl) ?_
    refine lv_iadd hx hb dX9_step_29 ?_
    obtain ⟨x5, ex5, hf⟩ := bnd_e hf
    refine w_nm ex5 ?_
    refine lv_istore (lv' := [(5, .int x5), (4, .int x4), (0, .ref (a 0)), (1, .int p1), (2, .int p2), (3, .int p3)]) hx hb dX9_step_30 hl (by decide) rfl (fun ls hl => ?_)
    refine lv_bipush (v := 8) hx hb dX9_step_32 (by decide) ?_
    refine lv_iload_n hx hb dX9_step_34 rfl (lv_at hl 3 rfl) ?_
    refine lv_iconst (v := 1) hx hb dX9_step_35 (by decide) ?_
    refine lv_iadd hx hb dX9_step_36 ?_
    refine lv_imul hx hb dX9_step_37 ?_
    refine lv_iload_n hx hb dX9_step_38 rfl (lv_at hl 5 rfl) ?_
    refine lv_iadd hx hb dX9_step_39 ?_
    obtain ⟨x6, ex6, hf⟩ := bnd_e hf
    refine w_nm ex6 ?_
    refine lv_istore (lv' := [(6, .int x6), (5, .int x5), (4, .int x4), (0, .ref (a 0)), (1, .int p1), (2, .int p2), (3, .int p3)]) hx hb dX9_step_40 hl (by decide) rfl (fun ls hl => ?_)
    refine lv_aload_n hx hb dX9_step_42 rfl (lv_at hl 3 rfl) ?_
    refine va_get (D := D) (ci := 7) (v := .ref (a 8)) (C := RX9) (T := TX9) (N := 27) hx hb hts hiX9 hown hK hP 0 rfl rfl 19 (by decide) k36 (fun _ h9 => h9) rfl dX9_step_43 ?_
    refine lv_iload hx hb dX9_step_46 (lv_at hl 1 rfl) ?_
    obtain ⟨hi7, hf⟩ := ix_e hf
    refine va_iald hx hb hK hP 8 0 rfl rfl hi7 dX9_step_48 ?_
    refine lv_iconst (v := -1) hx hb dX9_step_49 (by decide) ?_
    refine lv_icmp_eq (tgt := 93) hx hb dX9_step_50 (by decide) (fun c8 => ?_) (fun c8 => ?_)
    · replace hf := if_t hf c8
      refine lv_iload hx hb dX9_step_93 (lv_at hl 2 rfl) ?_
      exact W.iret (v := x4) hx hb hr (fun t ht _ => ⟨x4, rfl, so_i hf, ht⟩) (fun _ h => by cases h) dX9_step_95
    · replace hf := if_f hf c8
      refine lv_aload_n hx hb dX9_step_53 rfl (lv_at hl 3 rfl) ?_
      refine va_get (D := D) (ci := 7) (v := .ref (a 8)) (C := RX9) (T := TX9) (N := 27) hx hb hts hiX9 hown hK hP 0 rfl rfl 19 (by decide) k36 (fun _ h9 => h9) rfl dX9_step_54 ?_
      refine lv_iload hx hb dX9_step_57 (lv_at hl 0 rfl) ?_
      obtain ⟨hi9, hf⟩ := ix_e hf
      refine va_iald hx hb hK hP 8 0 rfl rfl hi9 dX9_step_59 ?_
      refine lv_iconst (v := -1) hx hb dX9_step_60 (by decide) ?_
      refine lv_icmp_eq (tgt := 93) hx hb dX9_step_61 (by decide) (fun c10 => ?_) (fun c10 => ?_)
      · replace hf := if_t hf c10
        refine lv_iload hx hb dX9_step_93 (lv_at hl 2 rfl) ?_
        exact W.iret (v := x4) hx hb hr (fun t ht _ => ⟨x4, rfl, so_i hf, ht⟩) (fun _ h => by cases h) dX9_step_95
      · replace hf := if_f hf c10
        refine lv_aload_n hx hb dX9_step_64 rfl (lv_at hl 3 rfl) ?_
        refine va_get (D := D) (ci := 7) (v := .ref (a 8)) (C := RX9) (T := TX9) (N := 27) hx hb hts hiX9 hown hK hP 0 rfl rfl 19 (by decide) k36 (fun _ h9 => h9) rfl dX9_step_65 ?_
        refine lv_iload hx hb dX9_step_68 (lv_at hl 1 rfl) ?_
        obtain ⟨hi11, hf⟩ := ix_e hf
        refine va_iald hx hb hK hP 8 0 rfl rfl hi11 dX9_step_70 ?_
        refine lv_aload_n hx hb dX9_step_71 rfl (lv_at hl 3 rfl) ?_
        refine va_get (D := D) (ci := 7) (v := .ref (a 9)) (C := RX9) (T := TX9) (N := 27) hx hb hts hiX9 hown hK hP 0 rfl rfl 20 (by decide) k39 (fun _ h9 => h9) rfl dX9_step_72 ?_
        refine lv_iload hx hb dX9_step_75 (lv_at hl 0 rfl) ?_
        obtain ⟨hi12, hf⟩ := ix_e hf
        refine va_iald hx hb hK hP 9 0 rfl rfl hi12 dX9_step_77 ?_
        refine lv_icmp_le (tgt := 93) hx hb dX9_step_78 (by decide) (fun c13 => ?_) (fun c13 => ?_)
        · replace hf := if_t hf c13
          refine lv_iload hx hb dX9_step_93 (lv_at hl 2 rfl) ?_
          exact W.iret (v := x4) hx hb hr (fun t ht _ => ⟨x4, rfl, so_i hf, ht⟩) (fun _ h => by cases h) dX9_step_95
        · replace hf := if_f hf c13
          refine lv_iload hx hb dX9_step_81 (lv_at hl 2 rfl) ?_
          refine lv_aload_n hx hb dX9_step_83 rfl (lv_at hl 3 rfl) ?_
          refine va_get (D := D) (ci := 7) (v := .ref (a 7)) (C := RX9) (T := TX9) (N := 27) hx hb hts hiX9 hown hK hP 0 rfl rfl 7 (by decide) k29 (fun _ h9 => h9) rfl dX9_step_84 ?_
          refine lv_iconst (v := 2) hx hb dX9_step_87 (by decide) ?_
          obtain ⟨hi14, hf⟩ := ix_e hf
          refine va_iald hx hb hK hP 7 0 rfl rfl hi14 dX9_step_88 ?_
          refine lv_iadd hx hb dX9_step_89 ?_
          refine lv_goto (tgt := 95) hx hb dX9_step_90 (by decide) ?_
          exact W.iret (v := (x4 + (st.2 7 (Int32.toNatClampNeg 2)))) hx hb hr (fun t ht _ => ⟨(x4 + (st.2 7 (Int32.toNatClampNeg 2))), rfl, so_i hf, ht⟩) (fun _ h => by cases h) dX9_step_95
  · replace hf := if_t hf c1
    refine lv_iconst (v := 0) hx hb dX9_step_5 (by decide) ?_
    refine lv_goto (tgt := 22) hx hb dX9_step_6 (by decide) ?_
    refine lv_istore (lv' := [(4, .int 0), (0, .ref (a 0)), (1, .int p1), (2, .int p2), (3, .int p3)]) hx hb dX9_step_22 hl (by decide) rfl (fun ls hl => ?_)
    refine lv_bipush (v := 8) hx hb dX9_step_24 (by decide) ?_
    refine lv_iload_n hx hb dX9_step_26 rfl (lv_at hl 2 rfl) ?_
    refine lv_imul hx hb dX9_step_27 ?_
    refine lv_iload_n hx hb dX9_step_28 rfl (lv_at hl 3 rfl) ?_
    refine lv_iadd hx hb dX9_step_29 ?_
    obtain ⟨x15, ex15, hf⟩ := bnd_e hf
    refine w_nm ex15 ?_
    refine lv_istore (lv' := [(5, .int x15), (4, .int 0), (0, .ref (a 0)), (1, .int p1), (2, .int p2), (3, .int p3)]) hx hb dX9_step_30 hl (by decide) rfl (fun ls hl => ?_)
    refine lv_bipush (v := 8) hx hb dX9_step_32 (by decide) ?_
    refine lv_iload_n hx hb dX9_step_34 rfl (lv_at hl 3 rfl) ?_
    refine lv_iconst (v := 1) hx hb dX9_step_35 (by decide) ?_
    refine lv_iadd hx hb dX9_step_36 ?_
    refine lv_imul hx hb dX9_step_37 ?_
    refine lv_iload_n hx hb dX9_step_38 rfl (lv_at hl 5 rfl) ?_
    refine lv_iadd hx hb dX9_step_39 ?_
    obtain ⟨x16, ex16, hf⟩ := bnd_e hf
    refine w_nm ex16 ?_
    refine lv_istore (lv' := [(6, .int x16), (5, .int x15), (4, .int 0), (0, .ref (a 0)), (1, .int p1), (2, .int p2), (3, .int p3)]) hx hb dX9_step_40 hl (by decide) rfl (fun ls hl => ?_)
    refine lv_aload_n hx hb dX9_step_42 rfl (lv_at hl 3 rfl) ?_
    refine va_get (D := D) (ci := 7) (v := .ref (a 8)) (C := RX9) (T := TX9) (N := 27) hx hb hts hiX9 hown hK hP 0 rfl rfl 19 (by decide) k36 (fun _ h9 => h9) rfl dX9_step_43 ?_
    refine lv_iload hx hb dX9_step_46 (lv_at hl 1 rfl) ?_
    obtain ⟨hi17, hf⟩ := ix_e hf
    refine va_iald hx hb hK hP 8 0 rfl rfl hi17 dX9_step_48 ?_
    refine lv_iconst (v := -1) hx hb dX9_step_49 (by decide) ?_
    refine lv_icmp_eq (tgt := 93) hx hb dX9_step_50 (by decide) (fun c18 => ?_) (fun c18 => ?_)
    · replace hf := if_t hf c18
      refine lv_iload hx hb dX9_step_93 (lv_at hl 2 rfl) ?_
      exact W.iret (v := 0) hx hb hr (fun t ht _ => ⟨0, rfl, so_i hf, ht⟩) (fun _ h => by cases h) dX9_step_95
    · replace hf := if_f hf c18
      refine lv_aload_n hx hb dX9_step_53 rfl (lv_at hl 3 rfl) ?_
      refine va_get (D := D) (ci := 7) (v := .ref (a 8)) (C := RX9) (T := TX9) (N := 27) hx hb hts hiX9 hown hK hP 0 rfl rfl 19 (by decide) k36 (fun _ h9 => h9) rfl dX9_step_54 ?_
      refine lv_iload hx hb dX9_step_57 (lv_at hl 0 rfl) ?_
      obtain ⟨hi19, hf⟩ := ix_e hf
      refine va_iald hx hb hK hP 8 0 rfl rfl hi19 dX9_step_59 ?_
      refine lv_iconst (v := -1) hx hb dX9_step_60 (by decide) ?_
      refine lv_icmp_eq (tgt := 93) hx hb dX9_step_61 (by decide) (fun c20 => ?_) (fun c20 => ?_)
      · replace hf := if_t hf c20
        refine lv_iload hx hb dX9_step_93 (lv_at hl 2 rfl) ?_
        exact W.iret (v := 0) hx hb hr (fun t ht _ => ⟨0, rfl, so_i hf, ht⟩) (fun _ h => by cases h) dX9_step_95
      · replace hf := if_f hf c20
        refine lv_aload_n hx hb dX9_step_64 rfl (lv_at hl 3 rfl) ?_
        refine va_get (D := D) (ci := 7) (v := .ref (a 8)) (C := RX9) (T := TX9) (N := 27) hx hb hts hiX9 hown hK hP 0 rfl rfl 19 (by decide) k36 (fun _ h9 => h9) rfl dX9_step_65 ?_
        refine lv_iload hx hb dX9_step_68 (lv_at hl 1 rfl) ?_
        obtain ⟨hi21, hf⟩ := ix_e hf
        refine va_iald hx hb hK hP 8 0 rfl rfl hi21 dX9_step_70 ?_
        refine lv_aload_n hx hb dX9_step_71 rfl (lv_at hl 3 rfl) ?_
        refine va_get (D := D) (ci := 7) (v := .ref (a 9)) (C := RX9) (T := TX9) (N := 27) hx hb hts hiX9 hown hK hP 0 rfl rfl 20 (by decide) k39 (fun _ h9 => h9) rfl dX9_step_72 ?_
        refine lv_iload hx hb dX9_step_75 (lv_at hl 0 rfl) ?_
        obtain ⟨hi22, hf⟩ := ix_e hf
        refine va_iald hx hb hK hP 9 0 rfl rfl hi22 dX9_step_77 ?_
        refine lv_icmp_le (tgt := 93) hx hb dX9_step_78 (by decide) (fun c23 => ?_) (fun c23 => ?_)
        · replace hf := if_t hf c23
          refine lv_iload hx hb dX9_step_93 (lv_at hl 2 rfl) ?_
          exact W.iret (v := 0) hx hb hr (fun t ht _ => ⟨0, rfl, so_i hf, ht⟩) (fun _ h => by cases h) dX9_step_95
        · replace hf := if_f hf c23
          refine lv_iload hx hb dX9_step_81 (lv_at hl 2 rfl) ?_
          refine lv_aload_n hx hb dX9_step_83 rfl (lv_at hl 3 rfl) ?_
          refine va_get (D := D) (ci := 7) (v := .ref (a 7)) (C := RX9) (T := TX9) (N := 27) hx hb hts hiX9 hown hK hP 0 rfl rfl 7 (by decide) k29 (fun _ h9 => h9) rfl dX9_step_84 ?_
          refine lv_iconst (v := 2) hx hb dX9_step_87 (by decide) ?_
          obtain ⟨hi24, hf⟩ := ix_e hf
          refine va_iald hx hb hK hP 7 0 rfl rfl hi24 dX9_step_88 ?_
          refine lv_iadd hx hb dX9_step_89 ?_
          refine lv_goto (tgt := 95) hx hb dX9_step_90 (by decide) ?_
          exact W.iret (v := (0 + (st.2 7 (Int32.toNatClampNeg 2)))) hx hb hr (fun t ht _ => ⟨(0 + (st.2 7 (Int32.toNatClampNeg 2))), rfl, so_i hf, ht⟩) (fun _ h => by cases h) dX9_step_95
set_option maxHeartbeats 4000000 in
set_option maxRecDepth 100000 in
theorem c_X9_finds (l : Launch) (D : va_G) (cI cB : ClassId) (a tb : Nat → Nat) (st : ST) (r : Int32 × ST) (hf : fX9_finds st = some r) : MetW l yX9_finds wsX9_finds ({ frames := 7, cells := 0, slots := 0, locals := 168 }) [.ref (a 0)] D [(cI, .int), (cB, .byte)] (mw cI cB a) (mA a) tb st r := by
  refine met_of (cc := cX9_finds) (maxL := 5) (ret := (some .boolean)) (by decide) rfl (Nat.le_of_ble_eq_true rfl) ?_
  intro p e s m below meth c hx hb hr hml hts hown hlk hG ls hl
  have hown : s.vm.findClass RX9 = some m.cls := hown
  obtain ⟨hP, hK, hD, hZ⟩ := hG
  have hS : va_S (mA a) s.heap s.heap [] := va_S.rf
  have hl : lv_has ls 5 [(0, .ref (a 0))] := hl
  have hiX9 : ∀ w ∈ wsX90, w ∈ wsX9_finds := by decide +kernel
  have k103 := hts (.fieldLink RX9 103 "DayColumnModel" "styles" "I") (by decide +kernel)
  have k113 := hts (.fieldLink RX9 113 "DayColumnModel" "rows" "I") (by decide +kernel)
  have k185 := hts (.fieldLink RX9 185 "DayColumnModel" "least" "I") (by decide +kernel)
  have k23 := hts (.fieldLink RX9 23 "DayColumnModel" "styleCost" "[I") (by decide +kernel)
  have k42 := hts (.fieldLink RX9 42 "DayColumnModel" "ahead" "[I") (by decide +kernel)
  have k45 := hts (.fieldLink RX9 45 "DayColumnModel" "behind" "[I") (by decide +kernel)
  have k48 := hts (.fieldLink RX9 48 "DayColumnModel" "best" "[I") (by decide +kernel)
  have k54 := hts (.fieldLink RX9 54 "DayColumnModel" "thrown" "I") (by decide +kernel)
  have l366 : ∀ (n : Nat) (x_1 x_2 x_3 : Int32) (st : ST) (H : Heap) (locs : List Loc) (ls : Array Slot), va_P D vwCl (mw cI cB a st) H → va_S (mA a) s.heap H locs → lv_has ls 5 [(0, .ref (a 0)), (1, .int x_1), (2, .int x_2), (3, .int x_3)] → ∀ (o : Int32), fX9_finds_366 n st x_1 x_2 x_3 = some o → (∀ (H : Heap) (locs : List Loc) (ls : Array Slot), va_P D vwCl (mw cI cB a st) H → va_S (mA a) s.heap H locs → lv_has ls 5 [(0, .ref (a 0)), (1, .int x_1), (2, .int o)] → W p l e ({ frames := 7, cells := 0, slots := 0, locals := 168 }) s m ([.ref (a 0)] : List Value).toArray below meth c H locs 0 0 (MQ below (va_Qi (fun (z : Int32) (u : ST) => z = r.1 ∧ u = r.2) (fun u t => va_P D vwCl (mw cI cB a u) t.heap) (mA a)) ([.ref (a 0)] : List Value).toArray s 0 0 (mA a)) (F0 m 418 ls [])) → W p l e ({ frames := 7, cells := 0, slots := 0, locals := 168 }) s m ([.ref (a 0)] : List Value).toArray below meth c H locs 0 0 (MQ below (va_Qi (fun (z : Int32) (u : ST) => z = r.1 ∧ u = r.2) (fun u t => va_P D vwCl (mw cI cB a u) t.heap) (mA a)) ([.ref (a 0)] : List Value).toArray s 0 0 (mA a)) (F0 m 366 ls []) := by
    intro n
    induction n with
    | zero =>
      intro x_1 x_2 x_3 st H locs ls hP hS hl o hf kk
      cases hf
    | succ n ih366 =>
      intro x_1 x_2 x_3 st H locs ls hP hS hl o hf kk
      unfold fX9_finds_366 at hf
      refine lv_aload_n hx hb dX9_finds_366 rfl (lv_at hl 0 rfl) ?_
      refine lv_iload_n hx hb dX9_finds_367 rfl (lv_at hl 1 rfl) ?_
      refine lv_iconst (v := 1) hx hb dX9_finds_368 (by decide) ?_
      refine lv_isub hx hb dX9_finds_369 ?_
      refine lv_iload_n hx hb dX9_finds_370 rfl (lv_at hl 3 rfl) ?_
      obtain ⟨o1, ho1, hf⟩ := ob_e hf
      refine w_callR (b := a 0) (As := [.int (x_1 - 1), .int x_3]) (rest := []) ⟨hx, hb, hml, hown, hts⟩ (c_X9_miss l D cI cB a tb st (x_1 - 1) x_3 o1 ho1) (cwV 2 hts gX9_finds_X9_miss rfl rfl rfl (by decide +kernel) ⟨Nat.le_of_ble_eq_true rfl, Nat.le_of_ble_eq_true rfl⟩) hP hK hD hZ hS (va_recv hK hP (ci := 7) (q0 := 0) rfl rfl) rfl hl.1 rfl (Nat.le_of_ble_eq_true rfl) ⟨Nat.zero_le _, Nat.zero_le _⟩ dX9_finds_371 ?_
      refine lv_aload_n hx hb dX9_finds_374 rfl (lv_at hl 0 rfl) ?_
      refine lv_iload_n hx hb dX9_finds_375 rfl (lv_at hl 1 rfl) ?_
      refine lv_iconst (v := 1) hx hb dX9_finds_376 (by decide) ?_
      refine lv_isub hx hb dX9_finds_377 ?_
      refine lv_iload_n hx hb dX9_finds_378 rfl (lv_at hl 3 rfl) ?_
      refine lv_iload_n hx hb dX9_finds_379 rfl (lv_at hl 2 rfl) ?_
      obtain ⟨o2, ho2, hf⟩ := ob_e hf
      refine w_callR (b := a 0) (As := [.int (x_1 - 1), .int x_3, .int x_2]) (rest := [.int o1]) ⟨hx, hb, hml, hown, hts⟩ (c_X9_step l D cI cB a tb st (x_1 - 1) x_3 x_2 o2 ho2) (cwV 3 hts gX9_finds_X9_step rfl rfl rfl (by decide +kernel) ⟨Nat.le_of_ble_eq_true rfl, Nat.le_of_ble_eq_true rfl⟩) hP hK hD hZ hS (va_recv hK hP (ci := 7) (q0 := 0) rfl rfl) rfl hl.1 rfl (Nat.le_of_ble_eq_true rfl) ⟨Nat.zero_le _, Nat.zero_le _⟩ dX9_finds_380 ?_
      refine lv_iadd hx hb dX9_finds_383 ?_
      refine lv_aload_n hx hb dX9_finds_384 rfl (lv_at hl 0 rfl) ?_
      refine va_get (D := D) (ci := 7) (v := .ref (a 11)) (C := RX9) (T := TX9) (N := 27) hx hb hts hiX9 hown hK hP 0 rfl rfl 22 (by decide) k45 (fun _ h9 => h9) rfl dX9_finds_385 ?_
      refine lv_bipush (v := 8) hx hb dX9_finds_388 (by decide) ?_
      refine lv_iload_n hx hb dX9_finds_390 rfl (lv_at hl 1 rfl) ?_
      refine lv_imul hx hb dX9_finds_391 ?_
      refine lv_iload_n hx hb dX9_finds_392 rfl (lv_at hl 2 rfl) ?_
      refine lv_iadd hx hb dX9_finds_393 ?_
      obtain ⟨x3, ex3, hf⟩ := bnd_e hf
      refine w_nm ex3 ?_
      obtain ⟨hi4, hf⟩ := ix_e hf
      refine va_iald hx hb hK hP 11 0 rfl rfl hi4 dX9_finds_394 ?_
      refine lv_iadd hx hb dX9_finds_395 ?_
      refine lv_aload_n hx hb dX9_finds_396 rfl (lv_at hl 0 rfl) ?_
      refine va_get (D := D) (ci := 7) (v := .ref (a 11)) (C := RX9) (T := TX9) (N := 27) hx hb hts hiX9 hown hK hP 0 rfl rfl 22 (by decide) k45 (fun _ h9 => h9) rfl dX9_finds_397 ?_
      refine lv_bipush (v := 8) hx hb dX9_finds_400 (by decide) ?_
      refine lv_iload_n hx hb dX9_finds_402 rfl (lv_at hl 1 rfl) ?_
      refine lv_iconst (v := 1) hx hb dX9_finds_403 (by decide) ?_
      refine lv_isub hx hb dX9_finds_404 ?_
      refine lv_imul hx hb dX9_finds_405 ?_
      refine lv_iload_n hx hb dX9_finds_406 rfl (lv_at hl 3 rfl) ?_
      refine lv_iadd hx hb dX9_finds_407 ?_
      obtain ⟨x5, ex5, hf⟩ := bnd_e hf
      refine w_nm ex5 ?_
      obtain ⟨hi6, hf⟩ := ix_e hf
      refine va_iald hx hb hK hP 11 0 rfl rfl hi6 dX9_finds_408 ?_
      refine lv_icmp_eq (tgt := 418) hx hb dX9_finds_409 (by decide) (fun c7 => ?_) (fun c7 => ?_)
      · replace hf := if_t hf c7
        obtain rfl := so_i hf
        exact kk _ _ _ hP hS (lv_sub hl [0, 1, 2] rfl)
      · replace hf := if_f hf c7
        obtain ⟨x8, ex8, hf⟩ := bnd_e hf
        refine lv_iinc (v := x8) (lv' := [(2, .int x8), (0, .ref (a 0)), (1, .int x_1), (3, .int x_3)]) hx hb dX9_finds_412 hl (k := 2) rfl (by rw [ex8]; rfl) (by decide) rfl (fun ls hl => ?_)
        refine lv_goto (tgt := 366) hx hb dX9_finds_415 (by decide) ?_
        exact ih366 x_1 x8 x_3 st _ _ _ hP hS (lv_sub hl [1, 2, 0, 3] rfl) _ hf kk
  have l331 : ∀ (n : Nat) (x_1 x_2 : Int32) (st : ST) (H : Heap) (locs : List Loc) (ls : Array Slot), va_P D vwCl (mw cI cB a st) H → va_S (mA a) s.heap H locs → lv_has ls 5 [(0, .ref (a 0)), (1, .int x_1), (2, .int x_2)] → ∀ (o : Int32), fX9_finds_331 n st x_1 x_2 = some o → (∀ (H : Heap) (locs : List Loc) (ls : Array Slot), va_P D vwCl (mw cI cB a st) H → va_S (mA a) s.heap H locs → lv_has ls 5 [(0, .ref (a 0)), (1, .int x_1), (2, .int o)] → W p l e ({ frames := 7, cells := 0, slots := 0, locals := 168 }) s m ([.ref (a 0)] : List Value).toArray below meth c H locs 0 0 (MQ below (va_Qi (fun (z : Int32) (u : ST) => z = r.1 ∧ u = r.2) (fun u t => va_P D vwCl (mw cI cB a u) t.heap) (mA a)) ([.ref (a 0)] : List Value).toArray s 0 0 (mA a)) (F0 m 418 ls [])) → W p l e ({ frames := 7, cells := 0, slots := 0, locals := 168 }) s m ([.ref (a 0)] : List Value).toArray below meth c H locs 0 0 (MQ below (va_Qi (fun (z : Int32) (u : ST) => z = r.1 ∧ u = r.2) (fun u t => va_P D vwCl (mw cI cB a u) t.heap) (mA a)) ([.ref (a 0)] : List Value).toArray s 0 0 (mA a)) (F0 m 331 ls []) := by
    intro n
    induction n with
    | zero =>
      intro x_1 x_2 st H locs ls hP hS hl o hf kk
      cases hf
    | succ n ih331 =>
      intro x_1 x_2 st H locs ls hP hS hl o hf kk
      unfold fX9_finds_331 at hf
      refine lv_aload_n hx hb dX9_finds_331 rfl (lv_at hl 0 rfl) ?_
      refine va_get (D := D) (ci := 7) (v := .ref (a 5)) (C := RX9) (T := TX9) (N := 27) hx hb hts hiX9 hown hK hP 0 rfl rfl 5 (by decide) k23 (fun _ h9 => h9) rfl dX9_finds_332 ?_
      refine lv_iload_n hx hb dX9_finds_335 rfl (lv_at hl 2 rfl) ?_
      obtain ⟨hi9, hf⟩ := ix_e hf
      refine va_iald hx hb hK hP 5 0 rfl rfl hi9 dX9_finds_336 ?_
      refine lv_aload_n hx hb dX9_finds_337 rfl (lv_at hl 0 rfl) ?_
      refine va_get (D := D) (ci := 7) (v := .ref (a 11)) (C := RX9) (T := TX9) (N := 27) hx hb hts hiX9 hown hK hP 0 rfl rfl 22 (by decide) k45 (fun _ h9 => h9) rfl dX9_finds_338 ?_
      refine lv_iload_n hx hb dX9_finds_341 rfl (lv_at hl 2 rfl) ?_
      obtain ⟨hi10, hf⟩ := ix_e hf
      refine va_iald hx hb hK hP 11 0 rfl rfl hi10 dX9_finds_342 ?_
      refine lv_iadd hx hb dX9_finds_343 ?_
      refine lv_aload_n hx hb dX9_finds_344 rfl (lv_at hl 0 rfl) ?_
      refine va_get (D := D) (ci := 7) (v := .int (st.1 24)) (C := RX9) (T := TX9) (N := 27) hx hb hts hiX9 hown hK hP 0 rfl rfl 24 (by decide) k185 (fun _ h9 => h9) rfl dX9_finds_345 ?_
      refine lv_icmp_eq (tgt := 418) hx hb dX9_finds_348 (by decide) (fun c11 => ?_) (fun c11 => ?_)
      · replace hf := if_t hf c11
        obtain rfl := so_i hf
        exact kk _ _ _ hP hS (lv_sub hl [0, 1, 2] rfl)
      · replace hf := if_f hf c11
        obtain ⟨x12, ex12, hf⟩ := bnd_e hf
        refine lv_iinc (v := x12) (lv' := [(2, .int x12), (0, .ref (a 0)), (1, .int x_1)]) hx hb dX9_finds_351 hl (k := 2) rfl (by rw [ex12]; rfl) (by decide) rfl (fun ls hl => ?_)
        refine lv_goto (tgt := 331) hx hb dX9_finds_354 (by decide) ?_
        exact ih331 x_1 x12 st _ _ _ hP hS (lv_sub hl [1, 2, 0] rfl) _ hf kk
  have l317 : ∀ (n : Nat) (x_1 : Int32) (st : ST) (H : Heap) (locs : List Loc) (ls : Array Slot), va_P D vwCl (mw cI cB a st) H → va_S (mA a) s.heap H locs → lv_has ls 5 [(0, .ref (a 0)), (1, .int x_1)] → fX9_finds_317 n st x_1 = some r → W p l e ({ frames := 7, cells := 0, slots := 0, locals := 168 }) s m ([.ref (a 0)] : List Value).toArray below meth c H locs 0 0 (MQ below (va_Qi (fun (z : Int32) (u : ST) => z = r.1 ∧ u = r.2) (fun u t => va_P D vwCl (mw cI cB a u) t.heap) (mA a)) ([.ref (a 0)] : List Value).toArray s 0 0 (mA a)) (F0 m 317 ls []) := by
    intro n
    induction n with
    | zero =>
      intro x_1 st H locs ls hP hS hl hf
      cases hf
    | succ n ih317 =>
      intro x_1 st H locs ls hP hS hl hf
      unfold fX9_finds_317 at hf
      refine lv_iload_n hx hb dX9_finds_317 rfl (lv_at hl 1 rfl) ?_
      refine lv_aload_n hx hb dX9_finds_318 rfl (lv_at hl 0 rfl) ?_
      refine va_get (D := D) (ci := 7) (v := .int (st.1 10)) (C := RX9) (T := TX9) (N := 27) hx hb hts hiX9 hown hK hP 0 rfl rfl 10 (by decide) k113 (fun _ h9 => h9) rfl dX9_finds_319 ?_
      refine lv_icmp_ge (tgt := 431) hx hb dX9_finds_322 (by decide) (fun c13 => ?_) (fun c13 => ?_)
      · replace hf := if_t hf c13
        refine lv_iconst (v := 1) hx hb dX9_finds_431 (by decide) ?_
        exact W.zret (v := 1) hx hb hr rfl (fun t ht _ => ⟨⟨1, st, rfl, so_p hf, p_at ht hP⟩, hS.F ht⟩) hS.2.2 dX9_finds_432
      · replace hf := if_f hf c13
        refine lv_iconst (v := 0) hx hb dX9_finds_325 (by decide) ?_
        refine lv_istore_n (lv' := [(2, .int 0), (0, .ref (a 0)), (1, .int x_1)]) hx hb dX9_finds_326 rfl hl (by decide) rfl (fun ls hl => ?_)
        refine lv_iload_n hx hb dX9_finds_327 rfl (lv_at hl 2 rfl) ?_
        refine lv_if_ne (tgt := 357) hx hb dX9_finds_328 (by decide) (fun c14 => ?_) (fun c14 => ?_)
        · replace hf := if_f hf c14
          refine lv_aload_n hx hb dX9_finds_357 rfl (lv_at hl 1 rfl) ?_
          refine va_get (D := D) (ci := 7) (v := .ref (a 12)) (C := RX9) (T := TX9) (N := 27) hx hb hts hiX9 hown hK hP 0 rfl rfl 23 (by decide) k48 (fun _ h9 => h9) rfl dX9_finds_358 ?_
          refine lv_iload_n hx hb dX9_finds_361 rfl (lv_at hl 2 rfl) ?_
          refine lv_iconst (v := 1) hx hb dX9_finds_362 (by decide) ?_
          refine lv_isub hx hb dX9_finds_363 ?_
          obtain ⟨x15, ex15, hf⟩ := bnd_e hf
          refine w_nm ex15 ?_
          obtain ⟨hi16, hf⟩ := ix_e hf
          refine va_iald hx hb hK hP 12 0 rfl rfl hi16 dX9_finds_364 ?_
          obtain ⟨x17, ex17, hf⟩ := bnd_e hf
          refine w_nm ex17 ?_
          refine lv_istore_n (lv' := [(3, .int x17), (2, .int 0), (0, .ref (a 0)), (1, .int x_1)]) hx hb dX9_finds_365 rfl hl (by decide) rfl (fun ls hl => ?_)
          obtain ⟨o18, ho18, hf⟩ := ob_e hf
          refine l366 1000 x_1 0 x17 st _ _ _ hP hS (lv_sub hl [2, 3, 1, 0] rfl) _ ho18 ?_
          intro H locs ls hP hS hl
          have hl : lv_has ls 5 [(0, .ref (a 0)), (1, .int x_1), (2, .int o18)] := hl
          refine lv_aload_n hx hb dX9_finds_418 rfl (lv_at hl 0 rfl) ?_
          refine va_get (D := D) (ci := 7) (v := .ref (a 12)) (C := RX9) (T := TX9) (N := 27) hx hb hts hiX9 hown hK hP 0 rfl rfl 23 (by decide) k48 (fun _ h9 => h9) rfl dX9_finds_419 ?_
          refine lv_iload_n hx hb dX9_finds_422 rfl (lv_at hl 1 rfl) ?_
          refine lv_iload_n hx hb dX9_finds_423 rfl (lv_at hl 2 rfl) ?_
          obtain ⟨hi19, hf⟩ := ix_e hf
          obtain ⟨s20, es20, hf⟩ := bnd_e hf
          refine va_iast hx hb hK hP (hD st) hS 12 0 rfl rfl hi19 dX9_finds_424 (fun H locs hP _ hS => ?_)
          have hP : va_P D vwCl (mw cI cB a s20) H := by rw [es20]; exact hP
          obtain ⟨x21, ex21, hf⟩ := bnd_e hf
          refine lv_iinc (v := x21) (lv' := [(1, .int x21), (0, .ref (a 0)), (2, .int o18)]) hx hb dX9_finds_425 hl (k := 1) rfl (by rw [ex21]; rfl) (by decide) rfl (fun ls hl => ?_)
          refine lv_goto (tgt := 317) hx hb dX9_finds_428 (by decide) ?_
          exact ih317 x21 s20 _ _ _ hP hS (lv_sub hl [1, 0] rfl) hf
        · replace hf := if_t hf c14
          obtain ⟨o22, ho22, hf⟩ := ob_e hf
          refine l331 1000 x_1 0 st _ _ _ hP hS (lv_sub hl [1, 2, 0] rfl) _ ho22 ?_
          intro H locs ls hP hS hl
          have hl : lv_has ls 5 [(0, .ref (a 0)), (1, .int x_1), (2, .int o22)] := hl
          refine lv_aload_n hx hb dX9_finds_418 rfl (lv_at hl 0 rfl) ?_
          refine va_get (D := D) (ci := 7) (v := .ref (a 12)) (C := RX9) (T := TX9) (N := 27) hx hb hts hiX9 hown hK hP 0 rfl rfl 23 (by decide) k48 (fun _ h9 => h9) rfl dX9_finds_419 ?_
          refine lv_iload_n hx hb dX9_finds_422 rfl (lv_at hl 1 rfl) ?_
          refine lv_iload_n hx hb dX9_finds_423 rfl (lv_at hl 2 rfl) ?_
          obtain ⟨hi23, hf⟩ := ix_e hf
          obtain ⟨s24, es24, hf⟩ := bnd_e hf
          refine va_iast hx hb hK hP (hD st) hS 12 0 rfl rfl hi23 dX9_finds_424 (fun H locs hP _ hS => ?_)
          have hP : va_P D vwCl (mw cI cB a s24) H := by rw [es24]; exact hP
          obtain ⟨x25, ex25, hf⟩ := bnd_e hf
          refine lv_iinc (v := x25) (lv' := [(1, .int x25), (0, .ref (a 0)), (2, .int o22)]) hx hb dX9_finds_425 hl (k := 1) rfl (by rw [ex25]; rfl) (by decide) rfl (fun ls hl => ?_)
          refine lv_goto (tgt := 317) hx hb dX9_finds_428 (by decide) ?_
          exact ih317 x25 s24 _ _ _ hP hS (lv_sub hl [1, 0] rfl) hf
  have l277 : ∀ (n : Nat) (x_1 : Int32) (st : ST) (H : Heap) (locs : List Loc) (ls : Array Slot), va_P D vwCl (mw cI cB a st) H → va_S (mA a) s.heap H locs → lv_has ls 5 [(0, .ref (a 0)), (1, .int x_1)] → fX9_finds_277 n st x_1 = some r → W p l e ({ frames := 7, cells := 0, slots := 0, locals := 168 }) s m ([.ref (a 0)] : List Value).toArray below meth c H locs 0 0 (MQ below (va_Qi (fun (z : Int32) (u : ST) => z = r.1 ∧ u = r.2) (fun u t => va_P D vwCl (mw cI cB a u) t.heap) (mA a)) ([.ref (a 0)] : List Value).toArray s 0 0 (mA a)) (F0 m 277 ls []) := by
    intro n
    induction n with
    | zero =>
      intro x_1 st H locs ls hP hS hl hf
      cases hf
    | succ n ih277 =>
      intro x_1 st H locs ls hP hS hl hf
      unfold fX9_finds_277 at hf
      refine lv_iload_n hx hb dX9_finds_277 rfl (lv_at hl 1 rfl) ?_
      refine lv_aload_n hx hb dX9_finds_278 rfl (lv_at hl 0 rfl) ?_
      refine va_get (D := D) (ci := 7) (v := .int (st.1 9)) (C := RX9) (T := TX9) (N := 27) hx hb hts hiX9 hown hK hP 0 rfl rfl 9 (by decide) k103 (fun _ h9 => h9) rfl dX9_finds_279 ?_
      refine lv_icmp_ge (tgt := 315) hx hb dX9_finds_282 (by decide) (fun c26 => ?_) (fun c26 => ?_)
      · replace hf := if_t hf c26
        refine lv_iconst (v := 0) hx hb dX9_finds_315 (by decide) ?_
        refine lv_istore_n (lv' := [(1, .int 0), (0, .ref (a 0))]) hx hb dX9_finds_316 rfl hl (by decide) rfl (fun ls hl => ?_)
        exact l317 1000 0 st _ _ _ hP hS (lv_sub hl [1, 0] rfl) hf
      · replace hf := if_f hf c26
        refine lv_aload_n hx hb dX9_finds_285 rfl (lv_at hl 0 rfl) ?_
        refine lv_aload_n hx hb dX9_finds_286 rfl (lv_at hl 0 rfl) ?_
        refine va_get (D := D) (ci := 7) (v := .int (st.1 24)) (C := RX9) (T := TX9) (N := 27) hx hb hts hiX9 hown hK hP 0 rfl rfl 24 (by decide) k185 (fun _ h9 => h9) rfl dX9_finds_287 ?_
        refine lv_aload_n hx hb dX9_finds_290 rfl (lv_at hl 0 rfl) ?_
        refine va_get (D := D) (ci := 7) (v := .ref (a 5)) (C := RX9) (T := TX9) (N := 27) hx hb hts hiX9 hown hK hP 0 rfl rfl 5 (by decide) k23 (fun _ h9 => h9) rfl dX9_finds_291 ?_
        refine lv_iload_n hx hb dX9_finds_294 rfl (lv_at hl 1 rfl) ?_
        obtain ⟨hi27, hf⟩ := ix_e hf
        refine va_iald hx hb hK hP 5 0 rfl rfl hi27 dX9_finds_295 ?_
        refine lv_aload_n hx hb dX9_finds_296 rfl (lv_at hl 0 rfl) ?_
        refine va_get (D := D) (ci := 7) (v := .ref (a 11)) (C := RX9) (T := TX9) (N := 27) hx hb hts hiX9 hown hK hP 0 rfl rfl 22 (by decide) k45 (fun _ h9 => h9) rfl dX9_finds_297 ?_
        refine lv_iload_n hx hb dX9_finds_300 rfl (lv_at hl 1 rfl) ?_
        obtain ⟨hi28, hf⟩ := ix_e hf
        refine va_iald hx hb hK hP 11 0 rfl rfl hi28 dX9_finds_301 ?_
        refine lv_iadd hx hb dX9_finds_302 ?_
        refine va_mmin hx hb (by rw [hml]; exact hl.1.symm) hown (hts (.methodLink RX9 179 Lib.Math.min.name) (by decide +kernel)) (hts (.static Lib.Math.min.name) (by decide +kernel)) (hts (.initialized "java/lang/Math") (by decide +kernel)) (hts (.code Lib.Math.min.name Lib.Math.min.code 2 (some .int)) (by decide +kernel)) (Nat.le_of_ble_eq_true rfl) (Nat.le_of_ble_eq_true rfl) (Nat.zero_le _) (Nat.zero_le _) dX9_finds_303 ?_
        obtain ⟨x29, ex29, hf⟩ := bnd_e hf
        refine w_nm ex29 ?_
        obtain ⟨s30, es30, hf⟩ := bnd_e hf
        refine va_put (D := D) (ci := 7) (v := .int x29) (ty := .int) (C := RX9) (T := TX9) (N := 27) hx hb hts hiX9 tyX9 tyX9_ok nmX9 hown hK hP (hD st) hS 0 rfl rfl 24 (by decide) k185 (fun _ h9 => h9) rfl (by decide +kernel) rfl rfl (Nat.le_of_ble_eq_true rfl) dX9_finds_306 (fun H locs hP _ hS => ?_)
        have hP : va_P D vwCl (mw cI cB a s30) H := by rw [es30]; exact hP
        obtain ⟨x31, ex31, hf⟩ := bnd_e hf
        refine lv_iinc (v := x31) (lv' := [(1, .int x31), (0, .ref (a 0))]) hx hb dX9_finds_309 hl (k := 1) rfl (by rw [ex31]; rfl) (by decide) rfl (fun ls hl => ?_)
        refine lv_goto (tgt := 277) hx hb dX9_finds_312 (by decide) ?_
        exact ih277 x31 s30 _ _ _ hP hS (lv_sub hl [1, 0] rfl) hf
  have l185 : ∀ (n : Nat) (x_1 x_2 x_3 x_4 : Int32) (st : ST) (H : Heap) (locs : List Loc) (ls : Array Slot), va_P D vwCl (mw cI cB a st) H → va_S (mA a) s.heap H locs → lv_has ls 5 [(0, .ref (a 0)), (1, .int x_1), (2, .int x_2), (3, .int x_3), (4, .int x_4)] → ∀ (o : Int32), fX9_finds_185 n st x_1 x_2 x_3 x_4 = some o → (∀ (H : Heap) (locs : List Loc) (ls : Array Slot), va_P D vwCl (mw cI cB a st) H → va_S (mA a) s.heap H locs → lv_has ls 5 [(0, .ref (a 0)), (1, .int x_1), (2, .int x_2), (3, .int o)] → W p l e ({ frames := 7, cells := 0, slots := 0, locals := 168 }) s m ([.ref (a 0)] : List Value).toArray below meth c H locs 0 0 (MQ below (va_Qi (fun (z : Int32) (u : ST) => z = r.1 ∧ u = r.2) (fun u t => va_P D vwCl (mw cI cB a u) t.heap) (mA a)) ([.ref (a 0)] : List Value).toArray s 0 0 (mA a)) (F0 m 238 ls [])) → W p l e ({ frames := 7, cells := 0, slots := 0, locals := 168 }) s m ([.ref (a 0)] : List Value).toArray below meth c H locs 0 0 (MQ below (va_Qi (fun (z : Int32) (u : ST) => z = r.1 ∧ u = r.2) (fun u t => va_P D vwCl (mw cI cB a u) t.heap) (mA a)) ([.ref (a 0)] : List Value).toArray s 0 0 (mA a)) (F0 m 185 ls []) := by
    intro n
    induction n with
    | zero =>
      intro x_1 x_2 x_3 x_4 st H locs ls hP hS hl o hf kk
      cases hf
    | succ n ih185 =>
      intro x_1 x_2 x_3 x_4 st H locs ls hP hS hl o hf kk
      unfold fX9_finds_185 at hf
      refine lv_iload hx hb dX9_finds_185 (lv_at hl 4 rfl) ?_
      refine lv_aload_n hx hb dX9_finds_187 rfl (lv_at hl 0 rfl) ?_
      refine va_get (D := D) (ci := 7) (v := .int (st.1 9)) (C := RX9) (T := TX9) (N := 27) hx hb hts hiX9 hown hK hP 0 rfl rfl 9 (by decide) k103 (fun _ h9 => h9) rfl dX9_finds_188 ?_
      refine lv_icmp_ge (tgt := 238) hx hb dX9_finds_191 (by decide) (fun c32 => ?_) (fun c32 => ?_)
      · replace hf := if_t hf c32
        obtain rfl := so_i hf
        exact kk _ _ _ hP hS (lv_sub hl [0, 1, 2, 3] rfl)
      · replace hf := if_f hf c32
        refine lv_iload_n hx hb dX9_finds_194 rfl (lv_at hl 1 rfl) ?_
        refine lv_aload_n hx hb dX9_finds_195 rfl (lv_at hl 0 rfl) ?_
        refine va_get (D := D) (ci := 7) (v := .int (st.1 10)) (C := RX9) (T := TX9) (N := 27) hx hb hts hiX9 hown hK hP 0 rfl rfl 10 (by decide) k113 (fun _ h9 => h9) rfl dX9_finds_196 ?_
        refine lv_iconst (v := 1) hx hb dX9_finds_199 (by decide) ?_
        refine lv_isub hx hb dX9_finds_200 ?_
        refine lv_icmp_ge (tgt := 238) hx hb dX9_finds_201 (by decide) (fun c33 => ?_) (fun c33 => ?_)
        · replace hf := if_t hf c33
          obtain rfl := so_i hf
          exact kk _ _ _ hP hS (lv_sub hl [0, 1, 2, 3] rfl)
        · replace hf := if_f hf c33
          refine lv_iload_n hx hb dX9_finds_204 rfl (lv_at hl 3 rfl) ?_
          refine lv_aload_n hx hb dX9_finds_205 rfl (lv_at hl 0 rfl) ?_
          refine lv_iload_n hx hb dX9_finds_206 rfl (lv_at hl 1 rfl) ?_
          refine lv_iload_n hx hb dX9_finds_207 rfl (lv_at hl 2 rfl) ?_
          refine lv_iload hx hb dX9_finds_208 (lv_at hl 4 rfl) ?_
          obtain ⟨o34, ho34, hf⟩ := ob_e hf
          refine w_callR (b := a 0) (As := [.int x_1, .int x_2, .int x_4]) (rest := [.int x_3]) ⟨hx, hb, hml, hown, hts⟩ (c_X9_step l D cI cB a tb st x_1 x_2 x_4 o34 ho34) (cwV 3 hts gX9_finds_X9_step rfl rfl rfl (by decide +kernel) ⟨Nat.le_of_ble_eq_true rfl, Nat.le_of_ble_eq_true rfl⟩) hP hK hD hZ hS (va_recv hK hP (ci := 7) (q0 := 0) rfl rfl) rfl hl.1 rfl (Nat.le_of_ble_eq_true rfl) ⟨Nat.zero_le _, Nat.zero_le _⟩ dX9_finds_210 ?_
          refine lv_aload_n hx hb dX9_finds_213 rfl (lv_at hl 0 rfl) ?_
          refine va_get (D := D) (ci := 7) (v := .ref (a 11)) (C := RX9) (T := TX9) (N := 27) hx hb hts hiX9 hown hK hP 0 rfl rfl 22 (by decide) k45 (fun _ h9 => h9) rfl dX9_finds_214 ?_
          refine lv_bipush (v := 8) hx hb dX9_finds_217 (by decide) ?_
          refine lv_iload_n hx hb dX9_finds_219 rfl (lv_at hl 1 rfl) ?_
          refine lv_iconst (v := 1) hx hb dX9_finds_220 (by decide) ?_
          refine lv_iadd hx hb dX9_finds_221 ?_
          refine lv_imul hx hb dX9_finds_222 ?_
          refine lv_iload hx hb dX9_finds_223 (lv_at hl 4 rfl) ?_
          refine lv_iadd hx hb dX9_finds_225 ?_
          obtain ⟨x35, ex35, hf⟩ := bnd_e hf
          refine w_nm ex35 ?_
          obtain ⟨hi36, hf⟩ := ix_e hf
          refine va_iald hx hb hK hP 11 0 rfl rfl hi36 dX9_finds_226 ?_
          refine lv_iadd hx hb dX9_finds_227 ?_
          refine va_mmin hx hb (by rw [hml]; exact hl.1.symm) hown (hts (.methodLink RX9 179 Lib.Math.min.name) (by decide +kernel)) (hts (.static Lib.Math.min.name) (by decide +kernel)) (hts (.initialized "java/lang/Math") (by decide +kernel)) (hts (.code Lib.Math.min.name Lib.Math.min.code 2 (some .int)) (by decide +kernel)) (Nat.le_of_ble_eq_true rfl) (Nat.le_of_ble_eq_true rfl) (Nat.zero_le _) (Nat.zero_le _) dX9_finds_228 ?_
          obtain ⟨x37, ex37, hf⟩ := bnd_e hf
          refine w_nm ex37 ?_
          refine lv_istore_n (lv' := [(3, .int x37), (0, .ref (a 0)), (1, .int x_1), (2, .int x_2), (4, .int x_4)]) hx hb dX9_finds_231 rfl hl (by decide) rfl (fun ls hl => ?_)
          obtain ⟨x38, ex38, hf⟩ := bnd_e hf
          refine lv_iinc (v := x38) (lv' := [(4, .int x38), (3, .int x37), (0, .ref (a 0)), (1, .int x_1), (2, .int x_2)]) hx hb dX9_finds_232 hl (k := 4) rfl (by rw [ex38]; rfl) (by decide) rfl (fun ls hl => ?_)
          refine lv_goto (tgt := 185) hx hb dX9_finds_235 (by decide) ?_
          exact ih185 x_1 x_2 x37 x38 st _ _ _ hP hS (lv_sub hl [2, 3, 4, 1, 0] rfl) _ hf kk
  have l157 : ∀ (n : Nat) (x_1 x_2 : Int32) (st : ST) (H : Heap) (locs : List Loc) (ls : Array Slot), va_P D vwCl (mw cI cB a st) H → va_S (mA a) s.heap H locs → lv_has ls 5 [(0, .ref (a 0)), (1, .int x_1), (2, .int x_2)] → ∀ (o : ST), fX9_finds_157 n st x_1 x_2 = some o → (∀ (H : Heap) (locs : List Loc) (ls : Array Slot), va_P D vwCl (mw cI cB a o) H → va_S (mA a) s.heap H locs → lv_has ls 5 [(0, .ref (a 0)), (1, .int x_1)] → W p l e ({ frames := 7, cells := 0, slots := 0, locals := 168 }) s m ([.ref (a 0)] : List Value).toArray below meth c H locs 0 0 (MQ below (va_Qi (fun (z : Int32) (u : ST) => z = r.1 ∧ u = r.2) (fun u t => va_P D vwCl (mw cI cB a u) t.heap) (mA a)) ([.ref (a 0)] : List Value).toArray s 0 0 (mA a)) (F0 m 263 ls [])) → W p l e ({ frames := 7, cells := 0, slots := 0, locals := 168 }) s m ([.ref (a 0)] : List Value).toArray below meth c H locs 0 0 (MQ below (va_Qi (fun (z : Int32) (u : ST) => z = r.1 ∧ u = r.2) (fun u t => va_P D vwCl (mw cI cB a u) t.heap) (mA a)) ([.ref (a 0)] : List Value).toArray s 0 0 (mA a)) (F0 m 157 ls []) := by
    intro n
    induction n with
    | zero =>
      intro x_1 x_2 st H locs ls hP hS hl o hf kk
      cases hf
    | succ n ih157 =>
      intro x_1 x_2 st H locs ls hP hS hl o hf kk
      unfold fX9_finds_157 at hf
      refine lv_iload_n hx hb dX9_finds_157 rfl (lv_at hl 2 rfl) ?_
      refine lv_aload_n hx hb dX9_finds_158 rfl (lv_at hl 0 rfl) ?_
      refine va_get (D := D) (ci := 7) (v := .int (st.1 9)) (C := RX9) (T := TX9) (N := 27) hx hb hts hiX9 hown hK hP 0 rfl rfl 9 (by decide) k103 (fun _ h9 => h9) rfl dX9_finds_159 ?_
      refine lv_icmp_ge (tgt := 263) hx hb dX9_finds_162 (by decide) (fun c39 => ?_) (fun c39 => ?_)
      · replace hf := if_t hf c39
        obtain rfl := so_i hf
        exact kk _ _ _ hP hS (lv_sub hl [0, 1] rfl)
      · replace hf := if_f hf c39
        refine lv_iload_n hx hb dX9_finds_165 rfl (lv_at hl 1 rfl) ?_
        refine lv_aload_n hx hb dX9_finds_166 rfl (lv_at hl 0 rfl) ?_
        refine va_get (D := D) (ci := 7) (v := .int (st.1 10)) (C := RX9) (T := TX9) (N := 27) hx hb hts hiX9 hown hK hP 0 rfl rfl 10 (by decide) k113 (fun _ h9 => h9) rfl dX9_finds_167 ?_
        refine lv_iconst (v := 1) hx hb dX9_finds_170 (by decide) ?_
        refine lv_isub hx hb dX9_finds_171 ?_
        refine lv_icmp_ne (tgt := 179) hx hb dX9_finds_172 (by decide) (fun c40 => ?_) (fun c40 => ?_)
        · replace hf := if_f hf c40
          refine lv_ldc (v := 100000000) hx hb hown (hts (.constant RX9 175 (100000000)) (by decide +kernel)) dX9_finds_179 ?_
          refine lv_istore_n (lv' := [(3, .int 100000000), (0, .ref (a 0)), (1, .int x_1), (2, .int x_2)]) hx hb dX9_finds_181 rfl hl (by decide) rfl (fun ls hl => ?_)
          refine lv_iconst (v := 0) hx hb dX9_finds_182 (by decide) ?_
          refine lv_istore (lv' := [(4, .int 0), (3, .int 100000000), (0, .ref (a 0)), (1, .int x_1), (2, .int x_2)]) hx hb dX9_finds_183 hl (by decide) rfl (fun ls hl => ?_)
          obtain ⟨o41, ho41, hf⟩ := ob_e hf
          refine l185 1000 x_1 x_2 100000000 0 st _ _ _ hP hS (lv_sub hl [2, 3, 4, 1, 0] rfl) _ ho41 ?_
          intro H locs ls hP hS hl
          have hl : lv_has ls 5 [(0, .ref (a 0)), (1, .int x_1), (2, .int x_2), (3, .int o41)] := hl
          refine lv_aload_n hx hb dX9_finds_238 rfl (lv_at hl 0 rfl) ?_
          refine va_get (D := D) (ci := 7) (v := .ref (a 11)) (C := RX9) (T := TX9) (N := 27) hx hb hts hiX9 hown hK hP 0 rfl rfl 22 (by decide) k45 (fun _ h9 => h9) rfl dX9_finds_239 ?_
          refine lv_bipush (v := 8) hx hb dX9_finds_242 (by decide) ?_
          refine lv_iload_n hx hb dX9_finds_244 rfl (lv_at hl 1 rfl) ?_
          refine lv_imul hx hb dX9_finds_245 ?_
          refine lv_iload_n hx hb dX9_finds_246 rfl (lv_at hl 2 rfl) ?_
          refine lv_iadd hx hb dX9_finds_247 ?_
          refine lv_iload_n hx hb dX9_finds_248 rfl (lv_at hl 3 rfl) ?_
          refine lv_aload_n hx hb dX9_finds_249 rfl (lv_at hl 0 rfl) ?_
          refine lv_iload_n hx hb dX9_finds_250 rfl (lv_at hl 1 rfl) ?_
          refine lv_iload_n hx hb dX9_finds_251 rfl (lv_at hl 2 rfl) ?_
          obtain ⟨o42, ho42, hf⟩ := ob_e hf
          refine w_callR (b := a 0) (As := [.int x_1, .int x_2]) (rest := [.int o41, .int ((8 * x_1) + x_2), .ref (a 11)]) ⟨hx, hb, hml, hown, hts⟩ (c_X9_miss l D cI cB a tb st x_1 x_2 o42 ho42) (cwV 2 hts gX9_finds_X9_miss rfl rfl rfl (by decide +kernel) ⟨Nat.le_of_ble_eq_true rfl, Nat.le_of_ble_eq_true rfl⟩) hP hK hD hZ hS (va_recv hK hP (ci := 7) (q0 := 0) rfl rfl) rfl hl.1 rfl (Nat.le_of_ble_eq_true rfl) ⟨Nat.zero_le _, Nat.zero_le _⟩ dX9_finds_252 ?_
          refine lv_iadd hx hb dX9_finds_255 ?_
          obtain ⟨x43, ex43, hf⟩ := bnd_e hf
          refine w_nm ex43 ?_
          obtain ⟨x44, ex44, hf⟩ := bnd_e hf
          refine w_nm2 ex44 ?_
          obtain ⟨hi45, hf⟩ := ix_e hf
          obtain ⟨s46, es46, hf⟩ := bnd_e hf
          refine va_iast hx hb hK hP (hD st) hS 11 0 rfl rfl hi45 dX9_finds_256 (fun H locs hP _ hS => ?_)
          have hP : va_P D vwCl (mw cI cB a s46) H := by rw [es46]; exact hP
          obtain ⟨x47, ex47, hf⟩ := bnd_e hf
          refine lv_iinc (v := x47) (lv' := [(2, .int x47), (0, .ref (a 0)), (1, .int x_1), (3, .int o41)]) hx hb dX9_finds_257 hl (k := 2) rfl (by rw [ex47]; rfl) (by decide) rfl (fun ls hl => ?_)
          refine lv_goto (tgt := 157) hx hb dX9_finds_260 (by decide) ?_
          exact ih157 x_1 x47 s46 _ _ _ hP hS (lv_sub hl [1, 2, 0] rfl) _ hf kk
        · replace hf := if_t hf c40
          refine lv_iconst (v := 0) hx hb dX9_finds_175 (by decide) ?_
          refine lv_goto (tgt := 181) hx hb dX9_finds_176 (by decide) ?_
          refine lv_istore_n (lv' := [(3, .int 0), (0, .ref (a 0)), (1, .int x_1), (2, .int x_2)]) hx hb dX9_finds_181 rfl hl (by decide) rfl (fun ls hl => ?_)
          refine lv_iconst (v := 0) hx hb dX9_finds_182 (by decide) ?_
          refine lv_istore (lv' := [(4, .int 0), (3, .int 0), (0, .ref (a 0)), (1, .int x_1), (2, .int x_2)]) hx hb dX9_finds_183 hl (by decide) rfl (fun ls hl => ?_)
          obtain ⟨o48, ho48, hf⟩ := ob_e hf
          refine l185 1000 x_1 x_2 0 0 st _ _ _ hP hS (lv_sub hl [2, 3, 4, 1, 0] rfl) _ ho48 ?_
          intro H locs ls hP hS hl
          have hl : lv_has ls 5 [(0, .ref (a 0)), (1, .int x_1), (2, .int x_2), (3, .int o48)] := hl
          refine lv_aload_n hx hb dX9_finds_238 rfl (lv_at hl 0 rfl) ?_
          refine va_get (D := D) (ci := 7) (v := .ref (a 11)) (C := RX9) (T := TX9) (N := 27) hx hb hts hiX9 hown hK hP 0 rfl rfl 22 (by decide) k45 (fun _ h9 => h9) rfl dX9_finds_239 ?_
          refine lv_bipush (v := 8) hx hb dX9_finds_242 (by decide) ?_
          refine lv_iload_n hx hb dX9_finds_244 rfl (lv_at hl 1 rfl) ?_
          refine lv_imul hx hb dX9_finds_245 ?_
          refine lv_iload_n hx hb dX9_finds_246 rfl (lv_at hl 2 rfl) ?_
          refine lv_iadd hx hb dX9_finds_247 ?_
          refine lv_iload_n hx hb dX9_finds_248 rfl (lv_at hl 3 rfl) ?_
          refine lv_aload_n hx hb dX9_finds_249 rfl (lv_at hl 0 rfl) ?_
          refine lv_iload_n hx hb dX9_finds_250 rfl (lv_at hl 1 rfl) ?_
          refine lv_iload_n hx hb dX9_finds_251 rfl (lv_at hl 2 rfl) ?_
          obtain ⟨o49, ho49, hf⟩ := ob_e hf
          refine w_callR (b := a 0) (As := [.int x_1, .int x_2]) (rest := [.int o48, .int ((8 * x_1) + x_2), .ref (a 11)]) ⟨hx, hb, hml, hown, hts⟩ (c_X9_miss l D cI cB a tb st x_1 x_2 o49 ho49) (cwV 2 hts gX9_finds_X9_miss rfl rfl rfl (by decide +kernel) ⟨Nat.le_of_ble_eq_true rfl, Nat.le_of_ble_eq_true rfl⟩) hP hK hD hZ hS (va_recv hK hP (ci := 7) (q0 := 0) rfl rfl) rfl hl.1 rfl (Nat.le_of_ble_eq_true rfl) ⟨Nat.zero_le _, Nat.zero_le _⟩ dX9_finds_252 ?_
          refine lv_iadd hx hb dX9_finds_255 ?_
          obtain ⟨x50, ex50, hf⟩ := bnd_e hf
          refine w_nm ex50 ?_
          obtain ⟨x51, ex51, hf⟩ := bnd_e hf
          refine w_nm2 ex51 ?_
          obtain ⟨hi52, hf⟩ := ix_e hf
          obtain ⟨s53, es53, hf⟩ := bnd_e hf
          refine va_iast hx hb hK hP (hD st) hS 11 0 rfl rfl hi52 dX9_finds_256 (fun H locs hP _ hS => ?_)
          have hP : va_P D vwCl (mw cI cB a s53) H := by rw [es53]; exact hP
          obtain ⟨x54, ex54, hf⟩ := bnd_e hf
          refine lv_iinc (v := x54) (lv' := [(2, .int x54), (0, .ref (a 0)), (1, .int x_1), (3, .int o48)]) hx hb dX9_finds_257 hl (k := 2) rfl (by rw [ex54]; rfl) (by decide) rfl (fun ls hl => ?_)
          refine lv_goto (tgt := 157) hx hb dX9_finds_260 (by decide) ?_
          exact ih157 x_1 x54 s53 _ _ _ hP hS (lv_sub hl [1, 2, 0] rfl) _ hf kk
  have l151 : ∀ (n : Nat) (x_1 : Int32) (st : ST) (H : Heap) (locs : List Loc) (ls : Array Slot), va_P D vwCl (mw cI cB a st) H → va_S (mA a) s.heap H locs → lv_has ls 5 [(0, .ref (a 0)), (1, .int x_1)] → fX9_finds_151 n st x_1 = some r → W p l e ({ frames := 7, cells := 0, slots := 0, locals := 168 }) s m ([.ref (a 0)] : List Value).toArray below meth c H locs 0 0 (MQ below (va_Qi (fun (z : Int32) (u : ST) => z = r.1 ∧ u = r.2) (fun u t => va_P D vwCl (mw cI cB a u) t.heap) (mA a)) ([.ref (a 0)] : List Value).toArray s 0 0 (mA a)) (F0 m 151 ls []) := by
    intro n
    induction n with
    | zero =>
      intro x_1 st H locs ls hP hS hl hf
      cases hf
    | succ n ih151 =>
      intro x_1 st H locs ls hP hS hl hf
      unfold fX9_finds_151 at hf
      refine lv_iload_n hx hb dX9_finds_151 rfl (lv_at hl 1 rfl) ?_
      refine lv_if_lt (tgt := 269) hx hb dX9_finds_152 (by decide) (fun c55 => ?_) (fun c55 => ?_)
      · replace hf := if_t hf c55
        refine lv_aload_n hx hb dX9_finds_269 rfl (lv_at hl 0 rfl) ?_
        refine lv_ldc (v := 100000000) hx hb hown (hts (.constant RX9 175 (100000000)) (by decide +kernel)) dX9_finds_270 ?_
        obtain ⟨s56, es56, hf⟩ := bnd_e hf
        refine va_put (D := D) (ci := 7) (v := .int 100000000) (ty := .int) (C := RX9) (T := TX9) (N := 27) hx hb hts hiX9 tyX9 tyX9_ok nmX9 hown hK hP (hD st) hS 0 rfl rfl 24 (by decide) k185 (fun _ h9 => h9) rfl (by decide +kernel) rfl rfl (Nat.le_of_ble_eq_true rfl) dX9_finds_272 (fun H locs hP _ hS => ?_)
        have hP : va_P D vwCl (mw cI cB a s56) H := by rw [es56]; exact hP
        refine lv_iconst (v := 0) hx hb dX9_finds_275 (by decide) ?_
        refine lv_istore_n (lv' := [(1, .int 0), (0, .ref (a 0))]) hx hb dX9_finds_276 rfl hl (by decide) rfl (fun ls hl => ?_)
        exact l277 1000 0 s56 _ _ _ hP hS (lv_sub hl [1, 0] rfl) hf
      · replace hf := if_f hf c55
        refine lv_iconst (v := 0) hx hb dX9_finds_155 (by decide) ?_
        refine lv_istore_n (lv' := [(2, .int 0), (0, .ref (a 0)), (1, .int x_1)]) hx hb dX9_finds_156 rfl hl (by decide) rfl (fun ls hl => ?_)
        obtain ⟨o57, ho57, hf⟩ := ob_e hf
        refine l157 1000 x_1 0 st _ _ _ hP hS (lv_sub hl [1, 2, 0] rfl) _ ho57 ?_
        intro H locs ls hP hS hl
        have hl : lv_has ls 5 [(0, .ref (a 0)), (1, .int x_1)] := hl
        obtain ⟨x58, ex58, hf⟩ := bnd_e hf
        refine lv_iinc (v := x58) (lv' := [(1, .int x58), (0, .ref (a 0))]) hx hb dX9_finds_263 hl (k := 1) rfl (by rw [ex58]; rfl) (by decide) rfl (fun ls hl => ?_)
        refine lv_goto (tgt := 151) hx hb dX9_finds_266 (by decide) ?_
        exact ih151 x58 o57 _ _ _ hP hS (lv_sub hl [1, 0] rfl) hf
  have l64 : ∀ (n : Nat) (x_1 x_2 x_3 x_4 : Int32) (st : ST) (H : Heap) (locs : List Loc) (ls : Array Slot), va_P D vwCl (mw cI cB a st) H → va_S (mA a) s.heap H locs → lv_has ls 5 [(0, .ref (a 0)), (1, .int x_1), (2, .int x_2), (3, .int x_3), (4, .int x_4)] → ∀ (o : Int32), fX9_finds_64 n st x_1 x_2 x_3 x_4 = some o → (∀ (H : Heap) (locs : List Loc) (ls : Array Slot), va_P D vwCl (mw cI cB a st) H → va_S (mA a) s.heap H locs → lv_has ls 5 [(0, .ref (a 0)), (1, .int x_1), (2, .int x_2), (3, .int o)] → W p l e ({ frames := 7, cells := 0, slots := 0, locals := 168 }) s m ([.ref (a 0)] : List Value).toArray below meth c H locs 0 0 (MQ below (va_Qi (fun (z : Int32) (u : ST) => z = r.1 ∧ u = r.2) (fun u t => va_P D vwCl (mw cI cB a u) t.heap) (mA a)) ([.ref (a 0)] : List Value).toArray s 0 0 (mA a)) (F0 m 113 ls [])) → W p l e ({ frames := 7, cells := 0, slots := 0, locals := 168 }) s m ([.ref (a 0)] : List Value).toArray below meth c H locs 0 0 (MQ below (va_Qi (fun (z : Int32) (u : ST) => z = r.1 ∧ u = r.2) (fun u t => va_P D vwCl (mw cI cB a u) t.heap) (mA a)) ([.ref (a 0)] : List Value).toArray s 0 0 (mA a)) (F0 m 64 ls []) := by
    intro n
    induction n with
    | zero =>
      intro x_1 x_2 x_3 x_4 st H locs ls hP hS hl o hf kk
      cases hf
    | succ n ih64 =>
      intro x_1 x_2 x_3 x_4 st H locs ls hP hS hl o hf kk
      unfold fX9_finds_64 at hf
      refine lv_iload hx hb dX9_finds_64 (lv_at hl 4 rfl) ?_
      refine lv_aload_n hx hb dX9_finds_66 rfl (lv_at hl 0 rfl) ?_
      refine va_get (D := D) (ci := 7) (v := .int (st.1 9)) (C := RX9) (T := TX9) (N := 27) hx hb hts hiX9 hown hK hP 0 rfl rfl 9 (by decide) k103 (fun _ h9 => h9) rfl dX9_finds_67 ?_
      refine lv_icmp_ge (tgt := 113) hx hb dX9_finds_70 (by decide) (fun c59 => ?_) (fun c59 => ?_)
      · replace hf := if_t hf c59
        obtain rfl := so_i hf
        exact kk _ _ _ hP hS (lv_sub hl [0, 1, 2, 3] rfl)
      · replace hf := if_f hf c59
        refine lv_iload_n hx hb dX9_finds_73 rfl (lv_at hl 1 rfl) ?_
        refine lv_if_le (tgt := 113) hx hb dX9_finds_74 (by decide) (fun c60 => ?_) (fun c60 => ?_)
        · replace hf := if_t hf c60
          obtain rfl := so_i hf
          exact kk _ _ _ hP hS (lv_sub hl [0, 1, 2, 3] rfl)
        · replace hf := if_f hf c60
          refine lv_iload_n hx hb dX9_finds_77 rfl (lv_at hl 3 rfl) ?_
          refine lv_aload_n hx hb dX9_finds_78 rfl (lv_at hl 0 rfl) ?_
          refine va_get (D := D) (ci := 7) (v := .ref (a 10)) (C := RX9) (T := TX9) (N := 27) hx hb hts hiX9 hown hK hP 0 rfl rfl 21 (by decide) k42 (fun _ h9 => h9) rfl dX9_finds_79 ?_
          refine lv_bipush (v := 8) hx hb dX9_finds_82 (by decide) ?_
          refine lv_iload_n hx hb dX9_finds_84 rfl (lv_at hl 1 rfl) ?_
          refine lv_iconst (v := 1) hx hb dX9_finds_85 (by decide) ?_
          refine lv_isub hx hb dX9_finds_86 ?_
          refine lv_imul hx hb dX9_finds_87 ?_
          refine lv_iload hx hb dX9_finds_88 (lv_at hl 4 rfl) ?_
          refine lv_iadd hx hb dX9_finds_90 ?_
          obtain ⟨x61, ex61, hf⟩ := bnd_e hf
          refine w_nm ex61 ?_
          obtain ⟨hi62, hf⟩ := ix_e hf
          refine va_iald hx hb hK hP 10 0 rfl rfl hi62 dX9_finds_91 ?_
          refine lv_aload_n hx hb dX9_finds_92 rfl (lv_at hl 0 rfl) ?_
          refine lv_iload_n hx hb dX9_finds_93 rfl (lv_at hl 1 rfl) ?_
          refine lv_iconst (v := 1) hx hb dX9_finds_94 (by decide) ?_
          refine lv_isub hx hb dX9_finds_95 ?_
          refine lv_iload hx hb dX9_finds_96 (lv_at hl 4 rfl) ?_
          refine lv_iload_n hx hb dX9_finds_98 rfl (lv_at hl 2 rfl) ?_
          obtain ⟨o63, ho63, hf⟩ := ob_e hf
          refine w_callR (b := a 0) (As := [.int (x_1 - 1), .int x_4, .int x_2]) (rest := [.int (st.2 10 (Int32.toNatClampNeg x61)), .int x_3]) ⟨hx, hb, hml, hown, hts⟩ (c_X9_step l D cI cB a tb st (x_1 - 1) x_4 x_2 o63 ho63) (cwV 3 hts gX9_finds_X9_step rfl rfl rfl (by decide +kernel) ⟨Nat.le_of_ble_eq_true rfl, Nat.le_of_ble_eq_true rfl⟩) hP hK hD hZ hS (va_recv hK hP (ci := 7) (q0 := 0) rfl rfl) rfl hl.1 rfl (Nat.le_of_ble_eq_true rfl) ⟨Nat.zero_le _, Nat.zero_le _⟩ dX9_finds_99 ?_
          refine lv_iadd hx hb dX9_finds_102 ?_
          refine va_mmin hx hb (by rw [hml]; exact hl.1.symm) hown (hts (.methodLink RX9 179 Lib.Math.min.name) (by decide +kernel)) (hts (.static Lib.Math.min.name) (by decide +kernel)) (hts (.initialized "java/lang/Math") (by decide +kernel)) (hts (.code Lib.Math.min.name Lib.Math.min.code 2 (some .int)) (by decide +kernel)) (Nat.le_of_ble_eq_true rfl) (Nat.le_of_ble_eq_true rfl) (Nat.zero_le _) (Nat.zero_le _) dX9_finds_103 ?_
          obtain ⟨x64, ex64, hf⟩ := bnd_e hf
          refine w_nm ex64 ?_
          refine lv_istore_n (lv' := [(3, .int x64), (0, .ref (a 0)), (1, .int x_1), (2, .int x_2), (4, .int x_4)]) hx hb dX9_finds_106 rfl hl (by decide) rfl (fun ls hl => ?_)
          obtain ⟨x65, ex65, hf⟩ := bnd_e hf
          refine lv_iinc (v := x65) (lv' := [(4, .int x65), (3, .int x64), (0, .ref (a 0)), (1, .int x_1), (2, .int x_2)]) hx hb dX9_finds_107 hl (k := 4) rfl (by rw [ex65]; rfl) (by decide) rfl (fun ls hl => ?_)
          refine lv_goto (tgt := 64) hx hb dX9_finds_110 (by decide) ?_
          exact ih64 x_1 x_2 x64 x65 st _ _ _ hP hS (lv_sub hl [2, 3, 4, 1, 0] rfl) _ hf kk
  have l37 : ∀ (n : Nat) (x_1 x_2 : Int32) (st : ST) (H : Heap) (locs : List Loc) (ls : Array Slot), va_P D vwCl (mw cI cB a st) H → va_S (mA a) s.heap H locs → lv_has ls 5 [(0, .ref (a 0)), (1, .int x_1), (2, .int x_2)] → ∀ (o : ST), fX9_finds_37 n st x_1 x_2 = some o → (∀ (H : Heap) (locs : List Loc) (ls : Array Slot), va_P D vwCl (mw cI cB a o) H → va_S (mA a) s.heap H locs → lv_has ls 5 [(0, .ref (a 0)), (1, .int x_1)] → W p l e ({ frames := 7, cells := 0, slots := 0, locals := 168 }) s m ([.ref (a 0)] : List Value).toArray below meth c H locs 0 0 (MQ below (va_Qi (fun (z : Int32) (u : ST) => z = r.1 ∧ u = r.2) (fun u t => va_P D vwCl (mw cI cB a u) t.heap) (mA a)) ([.ref (a 0)] : List Value).toArray s 0 0 (mA a)) (F0 m 138 ls [])) → W p l e ({ frames := 7, cells := 0, slots := 0, locals := 168 }) s m ([.ref (a 0)] : List Value).toArray below meth c H locs 0 0 (MQ below (va_Qi (fun (z : Int32) (u : ST) => z = r.1 ∧ u = r.2) (fun u t => va_P D vwCl (mw cI cB a u) t.heap) (mA a)) ([.ref (a 0)] : List Value).toArray s 0 0 (mA a)) (F0 m 37 ls []) := by
    intro n
    induction n with
    | zero =>
      intro x_1 x_2 st H locs ls hP hS hl o hf kk
      cases hf
    | succ n ih37 =>
      intro x_1 x_2 st H locs ls hP hS hl o hf kk
      unfold fX9_finds_37 at hf
      refine lv_iload_n hx hb dX9_finds_37 rfl (lv_at hl 2 rfl) ?_
      refine lv_aload_n hx hb dX9_finds_38 rfl (lv_at hl 0 rfl) ?_
      refine va_get (D := D) (ci := 7) (v := .int (st.1 9)) (C := RX9) (T := TX9) (N := 27) hx hb hts hiX9 hown hK hP 0 rfl rfl 9 (by decide) k103 (fun _ h9 => h9) rfl dX9_finds_39 ?_
      refine lv_icmp_ge (tgt := 138) hx hb dX9_finds_42 (by decide) (fun c66 => ?_) (fun c66 => ?_)
      · replace hf := if_t hf c66
        obtain rfl := so_i hf
        exact kk _ _ _ hP hS (lv_sub hl [0, 1] rfl)
      · replace hf := if_f hf c66
        refine lv_iload_n hx hb dX9_finds_45 rfl (lv_at hl 1 rfl) ?_
        refine lv_if_ne (tgt := 58) hx hb dX9_finds_46 (by decide) (fun c67 => ?_) (fun c67 => ?_)
        · replace hf := if_f hf c67
          refine lv_ldc (v := 100000000) hx hb hown (hts (.constant RX9 175 (100000000)) (by decide +kernel)) dX9_finds_58 ?_
          refine lv_istore_n (lv' := [(3, .int 100000000), (0, .ref (a 0)), (1, .int x_1), (2, .int x_2)]) hx hb dX9_finds_60 rfl hl (by decide) rfl (fun ls hl => ?_)
          refine lv_iconst (v := 0) hx hb dX9_finds_61 (by decide) ?_
          refine lv_istore (lv' := [(4, .int 0), (3, .int 100000000), (0, .ref (a 0)), (1, .int x_1), (2, .int x_2)]) hx hb dX9_finds_62 hl (by decide) rfl (fun ls hl => ?_)
          obtain ⟨o68, ho68, hf⟩ := ob_e hf
          refine l64 1000 x_1 x_2 100000000 0 st _ _ _ hP hS (lv_sub hl [2, 3, 4, 1, 0] rfl) _ ho68 ?_
          intro H locs ls hP hS hl
          have hl : lv_has ls 5 [(0, .ref (a 0)), (1, .int x_1), (2, .int x_2), (3, .int o68)] := hl
          refine lv_aload_n hx hb dX9_finds_113 rfl (lv_at hl 0 rfl) ?_
          refine va_get (D := D) (ci := 7) (v := .ref (a 10)) (C := RX9) (T := TX9) (N := 27) hx hb hts hiX9 hown hK hP 0 rfl rfl 21 (by decide) k42 (fun _ h9 => h9) rfl dX9_finds_114 ?_
          refine lv_bipush (v := 8) hx hb dX9_finds_117 (by decide) ?_
          refine lv_iload_n hx hb dX9_finds_119 rfl (lv_at hl 1 rfl) ?_
          refine lv_imul hx hb dX9_finds_120 ?_
          refine lv_iload_n hx hb dX9_finds_121 rfl (lv_at hl 2 rfl) ?_
          refine lv_iadd hx hb dX9_finds_122 ?_
          refine lv_iload_n hx hb dX9_finds_123 rfl (lv_at hl 3 rfl) ?_
          refine lv_aload_n hx hb dX9_finds_124 rfl (lv_at hl 0 rfl) ?_
          refine lv_iload_n hx hb dX9_finds_125 rfl (lv_at hl 1 rfl) ?_
          refine lv_iload_n hx hb dX9_finds_126 rfl (lv_at hl 2 rfl) ?_
          obtain ⟨o69, ho69, hf⟩ := ob_e hf
          refine w_callR (b := a 0) (As := [.int x_1, .int x_2]) (rest := [.int o68, .int ((8 * x_1) + x_2), .ref (a 10)]) ⟨hx, hb, hml, hown, hts⟩ (c_X9_miss l D cI cB a tb st x_1 x_2 o69 ho69) (cwV 2 hts gX9_finds_X9_miss rfl rfl rfl (by decide +kernel) ⟨Nat.le_of_ble_eq_true rfl, Nat.le_of_ble_eq_true rfl⟩) hP hK hD hZ hS (va_recv hK hP (ci := 7) (q0 := 0) rfl rfl) rfl hl.1 rfl (Nat.le_of_ble_eq_true rfl) ⟨Nat.zero_le _, Nat.zero_le _⟩ dX9_finds_127 ?_
          refine lv_iadd hx hb dX9_finds_130 ?_
          obtain ⟨x70, ex70, hf⟩ := bnd_e hf
          refine w_nm ex70 ?_
          obtain ⟨x71, ex71, hf⟩ := bnd_e hf
          refine w_nm2 ex71 ?_
          obtain ⟨hi72, hf⟩ := ix_e hf
          obtain ⟨s73, es73, hf⟩ := bnd_e hf
          refine va_iast hx hb hK hP (hD st) hS 10 0 rfl rfl hi72 dX9_finds_131 (fun H locs hP _ hS => ?_)
          have hP : va_P D vwCl (mw cI cB a s73) H := by rw [es73]; exact hP
          obtain ⟨x74, ex74, hf⟩ := bnd_e hf
          refine lv_iinc (v := x74) (lv' := [(2, .int x74), (0, .ref (a 0)), (1, .int x_1), (3, .int o68)]) hx hb dX9_finds_132 hl (k := 2) rfl (by rw [ex74]; rfl) (by decide) rfl (fun ls hl => ?_)
          refine lv_goto (tgt := 37) hx hb dX9_finds_135 (by decide) ?_
          exact ih37 x_1 x74 s73 _ _ _ hP hS (lv_sub hl [1, 2, 0] rfl) _ hf kk
        · replace hf := if_t hf c67
          refine lv_aload_n hx hb dX9_finds_49 rfl (lv_at hl 0 rfl) ?_
          refine va_get (D := D) (ci := 7) (v := .ref (a 5)) (C := RX9) (T := TX9) (N := 27) hx hb hts hiX9 hown hK hP 0 rfl rfl 5 (by decide) k23 (fun _ h9 => h9) rfl dX9_finds_50 ?_
          refine lv_iload_n hx hb dX9_finds_53 rfl (lv_at hl 2 rfl) ?_
          obtain ⟨hi75, hf⟩ := ix_e hf
          refine va_iald hx hb hK hP 5 0 rfl rfl hi75 dX9_finds_54 ?_
          refine lv_goto (tgt := 60) hx hb dX9_finds_55 (by decide) ?_
          obtain ⟨x76, ex76, hf⟩ := bnd_e hf
          refine w_nm ex76 ?_
          refine lv_istore_n (lv' := [(3, .int x76), (0, .ref (a 0)), (1, .int x_1), (2, .int x_2)]) hx hb dX9_finds_60 rfl hl (by decide) rfl (fun ls hl => ?_)
          refine lv_iconst (v := 0) hx hb dX9_finds_61 (by decide) ?_
          refine lv_istore (lv' := [(4, .int 0), (3, .int x76), (0, .ref (a 0)), (1, .int x_1), (2, .int x_2)]) hx hb dX9_finds_62 hl (by decide) rfl (fun ls hl => ?_)
          obtain ⟨o77, ho77, hf⟩ := ob_e hf
          refine l64 1000 x_1 x_2 x76 0 st _ _ _ hP hS (lv_sub hl [2, 3, 4, 1, 0] rfl) _ ho77 ?_
          intro H locs ls hP hS hl
          have hl : lv_has ls 5 [(0, .ref (a 0)), (1, .int x_1), (2, .int x_2), (3, .int o77)] := hl
          refine lv_aload_n hx hb dX9_finds_113 rfl (lv_at hl 0 rfl) ?_
          refine va_get (D := D) (ci := 7) (v := .ref (a 10)) (C := RX9) (T := TX9) (N := 27) hx hb hts hiX9 hown hK hP 0 rfl rfl 21 (by decide) k42 (fun _ h9 => h9) rfl dX9_finds_114 ?_
          refine lv_bipush (v := 8) hx hb dX9_finds_117 (by decide) ?_
          refine lv_iload_n hx hb dX9_finds_119 rfl (lv_at hl 1 rfl) ?_
          refine lv_imul hx hb dX9_finds_120 ?_
          refine lv_iload_n hx hb dX9_finds_121 rfl (lv_at hl 2 rfl) ?_
          refine lv_iadd hx hb dX9_finds_122 ?_
          refine lv_iload_n hx hb dX9_finds_123 rfl (lv_at hl 3 rfl) ?_
          refine lv_aload_n hx hb dX9_finds_124 rfl (lv_at hl 0 rfl) ?_
          refine lv_iload_n hx hb dX9_finds_125 rfl (lv_at hl 1 rfl) ?_
          refine lv_iload_n hx hb dX9_finds_126 rfl (lv_at hl 2 rfl) ?_
          obtain ⟨o78, ho78, hf⟩ := ob_e hf
          refine w_callR (b := a 0) (As := [.int x_1, .int x_2]) (rest := [.int o77, .int ((8 * x_1) + x_2), .ref (a 10)]) ⟨hx, hb, hml, hown, hts⟩ (c_X9_miss l D cI cB a tb st x_1 x_2 o78 ho78) (cwV 2 hts gX9_finds_X9_miss rfl rfl rfl (by decide +kernel) ⟨Nat.le_of_ble_eq_true rfl, Nat.le_of_ble_eq_true rfl⟩) hP hK hD hZ hS (va_recv hK hP (ci := 7) (q0 := 0) rfl rfl) rfl hl.1 rfl (Nat.le_of_ble_eq_true rfl) ⟨Nat.zero_le _, Nat.zero_le _⟩ dX9_finds_127 ?_
          refine lv_iadd hx hb dX9_finds_130 ?_
          obtain ⟨x79, ex79, hf⟩ := bnd_e hf
          refine w_nm ex79 ?_
          obtain ⟨x80, ex80, hf⟩ := bnd_e hf
          refine w_nm2 ex80 ?_
          obtain ⟨hi81, hf⟩ := ix_e hf
          obtain ⟨s82, es82, hf⟩ := bnd_e hf
          refine va_iast hx hb hK hP (hD st) hS 10 0 rfl rfl hi81 dX9_finds_131 (fun H locs hP _ hS => ?_)
          have hP : va_P D vwCl (mw cI cB a s82) H := by rw [es82]; exact hP
          obtain ⟨x83, ex83, hf⟩ := bnd_e hf
          refine lv_iinc (v := x83) (lv' := [(2, .int x83), (0, .ref (a 0)), (1, .int x_1), (3, .int o77)]) hx hb dX9_finds_132 hl (k := 2) rfl (by rw [ex83]; rfl) (by decide) rfl (fun ls hl => ?_)
          refine lv_goto (tgt := 37) hx hb dX9_finds_135 (by decide) ?_
          exact ih37 x_1 x83 s82 _ _ _ hP hS (lv_sub hl [1, 2, 0] rfl) _ hf kk
  have l27 : ∀ (n : Nat) (x_1 : Int32) (st : ST) (H : Heap) (locs : List Loc) (ls : Array Slot), va_P D vwCl (mw cI cB a st) H → va_S (mA a) s.heap H locs → lv_has ls 5 [(0, .ref (a 0)), (1, .int x_1)] → fX9_finds_27 n st x_1 = some r → W p l e ({ frames := 7, cells := 0, slots := 0, locals := 168 }) s m ([.ref (a 0)] : List Value).toArray below meth c H locs 0 0 (MQ below (va_Qi (fun (z : Int32) (u : ST) => z = r.1 ∧ u = r.2) (fun u t => va_P D vwCl (mw cI cB a u) t.heap) (mA a)) ([.ref (a 0)] : List Value).toArray s 0 0 (mA a)) (F0 m 27 ls []) := by
    intro n
    induction n with
    | zero =>
      intro x_1 st H locs ls hP hS hl hf
      cases hf
    | succ n ih27 =>
      intro x_1 st H locs ls hP hS hl hf
      unfold fX9_finds_27 at hf
      refine lv_iload_n hx hb dX9_finds_27 rfl (lv_at hl 1 rfl) ?_
      refine lv_aload_n hx hb dX9_finds_28 rfl (lv_at hl 0 rfl) ?_
      refine va_get (D := D) (ci := 7) (v := .int (st.1 10)) (C := RX9) (T := TX9) (N := 27) hx hb hts hiX9 hown hK hP 0 rfl rfl 10 (by decide) k113 (fun _ h9 => h9) rfl dX9_finds_29 ?_
      refine lv_icmp_ge (tgt := 144) hx hb dX9_finds_32 (by decide) (fun c84 => ?_) (fun c84 => ?_)
      · replace hf := if_t hf c84
        refine lv_aload_n hx hb dX9_finds_144 rfl (lv_at hl 0 rfl) ?_
        refine va_get (D := D) (ci := 7) (v := .int (st.1 10)) (C := RX9) (T := TX9) (N := 27) hx hb hts hiX9 hown hK hP 0 rfl rfl 10 (by decide) k113 (fun _ h9 => h9) rfl dX9_finds_145 ?_
        refine lv_iconst (v := 1) hx hb dX9_finds_148 (by decide) ?_
        refine lv_isub hx hb dX9_finds_149 ?_
        obtain ⟨x85, ex85, hf⟩ := bnd_e hf
        refine w_nm ex85 ?_
        refine lv_istore_n (lv' := [(1, .int x85), (0, .ref (a 0))]) hx hb dX9_finds_150 rfl hl (by decide) rfl (fun ls hl => ?_)
        exact l151 1000 x85 st _ _ _ hP hS (lv_sub hl [1, 0] rfl) hf
      · replace hf := if_f hf c84
        refine lv_iconst (v := 0) hx hb dX9_finds_35 (by decide) ?_
        refine lv_istore_n (lv' := [(2, .int 0), (0, .ref (a 0)), (1, .int x_1)]) hx hb dX9_finds_36 rfl hl (by decide) rfl (fun ls hl => ?_)
        obtain ⟨o86, ho86, hf⟩ := ob_e hf
        refine l37 1000 x_1 0 st _ _ _ hP hS (lv_sub hl [1, 2, 0] rfl) _ ho86 ?_
        intro H locs ls hP hS hl
        have hl : lv_has ls 5 [(0, .ref (a 0)), (1, .int x_1)] := hl
        obtain ⟨x87, ex87, hf⟩ := bnd_e hf
        refine lv_iinc (v := x87) (lv' := [(1, .int x87), (0, .ref (a 0))]) hx hb dX9_finds_138 hl (k := 1) rfl (by rw [ex87]; rfl) (by decide) rfl (fun ls hl => ?_)
        refine lv_goto (tgt := 27) hx hb dX9_finds_141 (by decide) ?_
        exact ih27 x87 o86 _ _ _ hP hS (lv_sub hl [1, 0] rfl) hf
  unfold fX9_finds at hf
  refine lv_aload_n hx hb dX9_finds_0 rfl (lv_at hl 0 rfl) ?_
  refine lv_iconst (v := 0) hx hb dX9_finds_1 (by decide) ?_
  obtain ⟨s88, es88, hf⟩ := bnd_e hf
  refine va_put (D := D) (ci := 7) (v := .int 0) (ty := .int) (C := RX9) (T := TX9) (N := 27) hx hb hts hiX9 tyX9 tyX9_ok nmX9 hown hK hP (hD st) hS 0 rfl rfl 0 (by decide) k54 (fun _ h9 => h9) rfl (by decide +kernel) rfl rfl (Nat.le_of_ble_eq_true rfl) dX9_finds_2 (fun H locs hP _ hS => ?_)
  have hP : va_P D vwCl (mw cI cB a s88) H := by rw [es88]; exact hP
  refine lv_aload_n hx hb dX9_finds_5 rfl (lv_at hl 0 rfl) ?_
  refine va_get (D := D) (ci := 7) (v := .int (s88.1 9)) (C := RX9) (T := TX9) (N := 27) hx hb hts hiX9 hown hK hP 0 rfl rfl 9 (by decide) k103 (fun _ h9 => h9) rfl dX9_finds_6 ?_
  refine lv_if_eq (tgt := 19) hx hb dX9_finds_9 (by decide) (fun c89 => ?_) (fun c89 => ?_)
  · replace hf := if_t hf c89
    refine lv_iconst (v := 0) hx hb dX9_finds_19 (by decide) ?_
    exact W.zret (v := 0) hx hb hr rfl (fun t ht _ => ⟨⟨0, s88, rfl, so_p hf, p_at ht hP⟩, hS.F ht⟩) hS.2.2 dX9_finds_20
  · replace hf := if_f hf c89
    refine lv_aload_n hx hb dX9_finds_12 rfl (lv_at hl 0 rfl) ?_
    refine va_get (D := D) (ci := 7) (v := .int (s88.1 10)) (C := RX9) (T := TX9) (N := 27) hx hb hts hiX9 hown hK hP 0 rfl rfl 10 (by decide) k113 (fun _ h9 => h9) rfl dX9_finds_13 ?_
    refine lv_if_ne (tgt := 21) hx hb dX9_finds_16 (by decide) (fun c90 => ?_) (fun c90 => ?_)
    · replace hf := if_f hf c90
      refine lv_aload_n hx hb dX9_finds_21 rfl (lv_at hl 0 rfl) ?_
      obtain ⟨o91, ho91, hf⟩ := ob_e hf
      refine w_callV (b := a 0) (As := []) (rest := []) ⟨hx, hb, hml, hown, hts⟩ (c_X9_readAll l D cI cB a tb s88 o91 ho91) (cwV 0 hts gX9_finds_X9_readAll rfl rfl rfl (by decide +kernel) ⟨Nat.le_of_ble_eq_true rfl, Nat.le_of_ble_eq_true rfl⟩) hP hK hD hZ hS (va_recv hK hP (ci := 7) (q0 := 0) rfl rfl) rfl hl.1 rfl (Nat.le_of_ble_eq_true rfl) ⟨Nat.zero_le _, Nat.zero_le _⟩ dX9_finds_22 (fun H locs hP hS => ?_)
      refine lv_iconst (v := 0) hx hb dX9_finds_25 (by decide) ?_
      refine lv_istore_n (lv' := [(1, .int 0), (0, .ref (a 0))]) hx hb dX9_finds_26 rfl hl (by decide) rfl (fun ls hl => ?_)
      exact l27 1000 0 o91 _ _ _ hP hS (lv_sub hl [1, 0] rfl) hf
    · replace hf := if_t hf c90
      refine lv_iconst (v := 0) hx hb dX9_finds_19 (by decide) ?_
      exact W.zret (v := 0) hx hb hr rfl (fun t ht _ => ⟨⟨0, s88, rfl, so_p hf, p_at ht hP⟩, hS.F ht⟩) hS.2.2 dX9_finds_20
set_option maxHeartbeats 4000000 in
set_option maxRecDepth 100000 in
theorem c_X9_through (l : Launch) (D : va_G) (cI cB : ClassId) (a tb : Nat → Nat) (st : ST) (p1 p2 : Int32) (r : Int32) (hf : fX9_through st p1 p2 = some r) : MetR l yX9_through wsX9_through ({ frames := 1, cells := 0, slots := 0, locals := 22 }) [.ref (a 0), .int p1, .int p2] D [(cI, .int), (cB, .byte)] (mw cI cB a) (mA a) tb st r := by
  refine met_of (cc := cX9_through) (maxL := 3) (ret := (some .int)) (by decide) rfl (Nat.le_of_ble_eq_true rfl) ?_
  intro p e s m below meth c hx hb hr hml hts hown hlk hG ls hl
  have hown : s.vm.findClass RX9 = some m.cls := hown
  obtain ⟨hP, hK, hD, hZ⟩ := hG
  have hS : va_S (mA a) s.heap s.heap [] := va_S.rf
  have hl : lv_has ls 3 [(0, .ref (a 0)), (1, .int p1), (2, .int p2)] := hl
  have hiX9 : ∀ w ∈ wsX90, w ∈ wsX9_through := by decide +kernel
  have k42 := hts (.fieldLink RX9 42 "DayColumnModel" "ahead" "[I") (by decide +kernel)
  have k45 := hts (.fieldLink RX9 45 "DayColumnModel" "behind" "[I") (by decide +kernel)
  unfold fX9_through at hf
  refine lv_aload_n hx hb dX9_through_0 rfl (lv_at hl 0 rfl) ?_
  refine va_get (D := D) (ci := 7) (v := .ref (a 10)) (C := RX9) (T := TX9) (N := 27) hx hb hts hiX9 hown hK hP 0 rfl rfl 21 (by decide) k42 (fun _ h9 => h9) rfl dX9_through_1 ?_
  refine lv_bipush (v := 8) hx hb dX9_through_4 (by decide) ?_
  refine lv_iload_n hx hb dX9_through_6 rfl (lv_at hl 1 rfl) ?_
  refine lv_imul hx hb dX9_through_7 ?_
  refine lv_iload_n hx hb dX9_through_8 rfl (lv_at hl 2 rfl) ?_
  refine lv_iadd hx hb dX9_through_9 ?_
  obtain ⟨x1, ex1, hf⟩ := bnd_e hf
  refine w_nm ex1 ?_
  obtain ⟨hi2, hf⟩ := ix_e hf
  refine va_iald hx hb hK hP 10 0 rfl rfl hi2 dX9_through_10 ?_
  refine lv_aload_n hx hb dX9_through_11 rfl (lv_at hl 0 rfl) ?_
  refine va_get (D := D) (ci := 7) (v := .ref (a 11)) (C := RX9) (T := TX9) (N := 27) hx hb hts hiX9 hown hK hP 0 rfl rfl 22 (by decide) k45 (fun _ h9 => h9) rfl dX9_through_12 ?_
  refine lv_bipush (v := 8) hx hb dX9_through_15 (by decide) ?_
  refine lv_iload_n hx hb dX9_through_17 rfl (lv_at hl 1 rfl) ?_
  refine lv_imul hx hb dX9_through_18 ?_
  refine lv_iload_n hx hb dX9_through_19 rfl (lv_at hl 2 rfl) ?_
  refine lv_iadd hx hb dX9_through_20 ?_
  obtain ⟨x3, ex3, hf⟩ := bnd_e hf
  refine w_nm ex3 ?_
  obtain ⟨hi4, hf⟩ := ix_e hf
  refine va_iald hx hb hK hP 11 0 rfl rfl hi4 dX9_through_21 ?_
  refine lv_iadd hx hb dX9_through_22 ?_
  refine lv_aload_n hx hb dX9_through_23 rfl (lv_at hl 0 rfl) ?_
  refine lv_iload_n hx hb dX9_through_24 rfl (lv_at hl 1 rfl) ?_
  refine lv_iload_n hx hb dX9_through_25 rfl (lv_at hl 2 rfl) ?_
  obtain ⟨o5, ho5, hf⟩ := ob_e hf
  refine w_callR (b := a 0) (As := [.int p1, .int p2]) (rest := [.int ((st.2 10 (Int32.toNatClampNeg x1)) + (st.2 11 (Int32.toNatClampNeg x3)))]) ⟨hx, hb, hml, hown, hts⟩ (c_X9_miss l D cI cB a tb st p1 p2 o5 ho5) (cwV 2 hts gX9_through_X9_miss rfl rfl rfl (by decide +kernel) ⟨Nat.le_of_ble_eq_true rfl, Nat.le_of_ble_eq_true rfl⟩) hP hK hD hZ hS (va_recv hK hP (ci := 7) (q0 := 0) rfl rfl) rfl hl.1 rfl (Nat.le_of_ble_eq_true rfl) ⟨Nat.zero_le _, Nat.zero_le _⟩ dX9_through_26 ?_
  refine lv_isub hx hb dX9_through_29 ?_
  exact W.iret (v := (((st.2 10 (Int32.toNatClampNeg x1)) + (st.2 11 (Int32.toNatClampNeg x3))) - o5)) hx hb hr (fun t ht _ => ⟨(((st.2 10 (Int32.toNatClampNeg x1)) + (st.2 11 (Int32.toNatClampNeg x3))) - o5), rfl, so_i hf, ht⟩) (fun _ h => by cases h) dX9_through_30
set_option maxHeartbeats 4000000 in
set_option maxRecDepth 100000 in
theorem c_X9_cost (l : Launch) (D : va_G) (cI cB : ClassId) (a tb : Nat → Nat) (st : ST) (r : Int32 × ST) (hf : fX9_cost st = some r) : MetW l yX9_cost wsX9_cost ({ frames := 8, cells := 0, slots := 0, locals := 192 }) [.ref (a 0)] D [(cI, .int), (cB, .byte)] (mw cI cB a) (mA a) tb st r := by
  refine met_of (cc := cX9_cost) (maxL := 1) (ret := (some .int)) (by decide) rfl (Nat.le_of_ble_eq_true rfl) ?_
  intro p e s m below meth c hx hb hr hml hts hown hlk hG ls hl
  have hown : s.vm.findClass RX9 = some m.cls := hown
  obtain ⟨hP, hK, hD, hZ⟩ := hG
  have hS : va_S (mA a) s.heap s.heap [] := va_S.rf
  have hl : lv_has ls 1 [(0, .ref (a 0))] := hl
  have hiX9 : ∀ w ∈ wsX90, w ∈ wsX9_cost := by decide +kernel
  have k185 := hts (.fieldLink RX9 185 "DayColumnModel" "least" "I") (by decide +kernel)
  unfold fX9_cost at hf
  refine lv_aload_n hx hb dX9_cost_0 rfl (lv_at hl 0 rfl) ?_
  obtain ⟨o1, ho1, hf⟩ := ob_e hf
  refine w_callW (b := a 0) (As := []) (rest := []) ⟨hx, hb, hml, hown, hts⟩ (c_X9_finds l D cI cB a tb st o1 ho1) (cwV 0 hts gX9_cost_X9_finds rfl rfl rfl (by decide +kernel) ⟨Nat.le_of_ble_eq_true rfl, Nat.le_of_ble_eq_true rfl⟩) hP hK hD hZ hS (va_recv hK hP (ci := 7) (q0 := 0) rfl rfl) rfl hl.1 rfl (Nat.le_of_ble_eq_true rfl) ⟨Nat.zero_le _, Nat.zero_le _⟩ dX9_cost_1 (fun H locs hP hS => ?_)
  refine lv_if_eq (tgt := 14) hx hb dX9_cost_4 (by decide) (fun c2 => ?_) (fun c2 => ?_)
  · replace hf := if_t hf c2
    refine lv_iconst (v := -1) hx hb dX9_cost_14 (by decide) ?_
    exact W.iret (v := (-1)) hx hb hr (fun t ht _ => ⟨⟨(-1), o1.2, rfl, so_p hf, p_at ht hP⟩, hS.F ht⟩) hS.2.2 dX9_cost_15
  · replace hf := if_f hf c2
    refine lv_aload_n hx hb dX9_cost_7 rfl (lv_at hl 0 rfl) ?_
    refine va_get (D := D) (ci := 7) (v := .int (o1.2.1 24)) (C := RX9) (T := TX9) (N := 27) hx hb hts hiX9 hown hK hP 0 rfl rfl 24 (by decide) k185 (fun _ h9 => h9) rfl dX9_cost_8 ?_
    refine lv_goto (tgt := 15) hx hb dX9_cost_11 (by decide) ?_
    exact W.iret (v := (o1.2.1 24)) hx hb hr (fun t ht _ => ⟨⟨(o1.2.1 24), o1.2, rfl, so_p hf, p_at ht hP⟩, hS.F ht⟩) hS.2.2 dX9_cost_15
set_option maxHeartbeats 4000000 in
set_option maxRecDepth 100000 in
theorem c_X9_told (l : Launch) (D : va_G) (cI cB : ClassId) (a tb : Nat → Nat) (st : ST) (p1 : Int32) (r : Int32 × ST) (hf : fX9_told st p1 = some r) : MetW l yX9_told wsX9_told ({ frames := 8, cells := 0, slots := 0, locals := 192 }) [.ref (a 0), .int p1] D [(cI, .int), (cB, .byte)] (mw cI cB a) (mA a) tb st r := by
  refine met_of (cc := cX9_told) (maxL := 2) (ret := (some .int)) (by decide) rfl (Nat.le_of_ble_eq_true rfl) ?_
  intro p e s m below meth c hx hb hr hml hts hown hlk hG ls hl
  have hown : s.vm.findClass RX9 = some m.cls := hown
  obtain ⟨hP, hK, hD, hZ⟩ := hG
  have hS : va_S (mA a) s.heap s.heap [] := va_S.rf
  have hl : lv_has ls 2 [(0, .ref (a 0)), (1, .int p1)] := hl
  have hiX9 : ∀ w ∈ wsX90, w ∈ wsX9_told := by decide +kernel
  have k48 := hts (.fieldLink RX9 48 "DayColumnModel" "best" "[I") (by decide +kernel)
  unfold fX9_told at hf
  refine lv_aload_n hx hb dX9_told_0 rfl (lv_at hl 0 rfl) ?_
  obtain ⟨o1, ho1, hf⟩ := ob_e hf
  refine w_callW (b := a 0) (As := []) (rest := []) ⟨hx, hb, hml, hown, hts⟩ (c_X9_finds l D cI cB a tb st o1 ho1) (cwV 0 hts gX9_told_X9_finds rfl rfl rfl (by decide +kernel) ⟨Nat.le_of_ble_eq_true rfl, Nat.le_of_ble_eq_true rfl⟩) hP hK hD hZ hS (va_recv hK hP (ci := 7) (q0 := 0) rfl rfl) rfl hl.1 rfl (Nat.le_of_ble_eq_true rfl) ⟨Nat.zero_le _, Nat.zero_le _⟩ dX9_told_1 (fun H locs hP hS => ?_)
  refine lv_if_eq (tgt := 24) hx hb dX9_told_4 (by decide) (fun c2 => ?_) (fun c2 => ?_)
  · replace hf := if_t hf c2
    refine lv_iconst (v := -1) hx hb dX9_told_24 (by decide) ?_
    exact W.iret (v := (-1)) hx hb hr (fun t ht _ => ⟨⟨(-1), o1.2, rfl, so_p hf, p_at ht hP⟩, hS.F ht⟩) hS.2.2 dX9_told_25
  · replace hf := if_f hf c2
    refine lv_aload_n hx hb dX9_told_7 rfl (lv_at hl 0 rfl) ?_
    refine lv_iload_n hx hb dX9_told_8 rfl (lv_at hl 1 rfl) ?_
    obtain ⟨o3, ho3, hf⟩ := ob_e hf
    refine w_callR (b := a 0) (As := [.int p1]) (rest := []) ⟨hx, hb, hml, hown, hts⟩ (c_X9_isRow l D cI cB a tb o1.2 p1 o3 ho3) (cwV 1 hts gX9_told_X9_isRow rfl rfl rfl (by decide +kernel) ⟨Nat.le_of_ble_eq_true rfl, Nat.le_of_ble_eq_true rfl⟩) hP hK hD hZ hS (va_recv hK hP (ci := 7) (q0 := 0) rfl rfl) rfl hl.1 rfl (Nat.le_of_ble_eq_true rfl) ⟨Nat.zero_le _, Nat.zero_le _⟩ dX9_told_9 ?_
    refine lv_if_eq (tgt := 24) hx hb dX9_told_12 (by decide) (fun c4 => ?_) (fun c4 => ?_)
    · replace hf := if_t hf c4
      refine lv_iconst (v := -1) hx hb dX9_told_24 (by decide) ?_
      exact W.iret (v := (-1)) hx hb hr (fun t ht _ => ⟨⟨(-1), o1.2, rfl, so_p hf, p_at ht hP⟩, hS.F ht⟩) hS.2.2 dX9_told_25
    · replace hf := if_f hf c4
      refine lv_aload_n hx hb dX9_told_15 rfl (lv_at hl 0 rfl) ?_
      refine va_get (D := D) (ci := 7) (v := .ref (a 12)) (C := RX9) (T := TX9) (N := 27) hx hb hts hiX9 hown hK hP 0 rfl rfl 23 (by decide) k48 (fun _ h9 => h9) rfl dX9_told_16 ?_
      refine lv_iload_n hx hb dX9_told_19 rfl (lv_at hl 1 rfl) ?_
      obtain ⟨hi5, hf⟩ := ix_e hf
      refine va_iald hx hb hK hP 12 0 rfl rfl hi5 dX9_told_20 ?_
      refine lv_goto (tgt := 25) hx hb dX9_told_21 (by decide) ?_
      exact W.iret (v := (o1.2.2 12 (Int32.toNatClampNeg p1))) hx hb hr (fun t ht _ => ⟨⟨(o1.2.2 12 (Int32.toNatClampNeg p1)), o1.2, rfl, so_p hf, p_at ht hP⟩, hS.F ht⟩) hS.2.2 dX9_told_25
set_option maxHeartbeats 4000000 in
set_option maxRecDepth 100000 in
theorem c_X9_day (l : Launch) (D : va_G) (cI cB : ClassId) (a tb : Nat → Nat) (st : ST) (p1 p2 : Int32) (r : Int32 × ST) (hf : fX9_day st p1 p2 = some r) : MetW l yX9_day wsX9_day ({ frames := 8, cells := 0, slots := 0, locals := 192 }) [.ref (a 0), .int p1, .int p2] D [(cI, .int), (cB, .byte)] (mw cI cB a) (mA a) tb st r := by
  refine met_of (cc := cX9_day) (maxL := 3) (ret := (some .int)) (by decide) rfl (Nat.le_of_ble_eq_true rfl) ?_
  intro p e s m below meth c hx hb hr hml hts hown hlk hG ls hl
  have hown : s.vm.findClass RX9 = some m.cls := hown
  obtain ⟨hP, hK, hD, hZ⟩ := hG
  have hS : va_S (mA a) s.heap s.heap [] := va_S.rf
  have hl : lv_has ls 3 [(0, .ref (a 0)), (1, .int p1), (2, .int p2)] := hl
  have hiX9 : ∀ w ∈ wsX90, w ∈ wsX9_day := by decide +kernel
  have k36 := hts (.fieldLink RX9 36 "DayColumnModel" "first" "[I") (by decide +kernel)
  have k39 := hts (.fieldLink RX9 39 "DayColumnModel" "last" "[I") (by decide +kernel)
  have k48 := hts (.fieldLink RX9 48 "DayColumnModel" "best" "[I") (by decide +kernel)
  unfold fX9_day at hf
  refine lv_aload_n hx hb dX9_day_0 rfl (lv_at hl 0 rfl) ?_
  obtain ⟨o1, ho1, hf⟩ := ob_e hf
  refine w_callW (b := a 0) (As := []) (rest := []) ⟨hx, hb, hml, hown, hts⟩ (c_X9_finds l D cI cB a tb st o1 ho1) (cwV 0 hts gX9_day_X9_finds rfl rfl rfl (by decide +kernel) ⟨Nat.le_of_ble_eq_true rfl, Nat.le_of_ble_eq_true rfl⟩) hP hK hD hZ hS (va_recv hK hP (ci := 7) (q0 := 0) rfl rfl) rfl hl.1 rfl (Nat.le_of_ble_eq_true rfl) ⟨Nat.zero_le _, Nat.zero_le _⟩ dX9_day_1 (fun H locs hP hS => ?_)
  refine lv_if_eq (tgt := 24) hx hb dX9_day_4 (by decide) (fun c2 => ?_) (fun c2 => ?_)
  · replace hf := if_t hf c2
    refine lv_iconst (v := -1) hx hb dX9_day_24 (by decide) ?_
    exact W.iret (v := (-1)) hx hb hr (fun t ht _ => ⟨⟨(-1), o1.2, rfl, so_p hf, p_at ht hP⟩, hS.F ht⟩) hS.2.2 dX9_day_25
  · replace hf := if_f hf c2
    refine lv_aload_n hx hb dX9_day_7 rfl (lv_at hl 0 rfl) ?_
    refine lv_iload_n hx hb dX9_day_8 rfl (lv_at hl 1 rfl) ?_
    obtain ⟨o3, ho3, hf⟩ := ob_e hf
    refine w_callR (b := a 0) (As := [.int p1]) (rest := []) ⟨hx, hb, hml, hown, hts⟩ (c_X9_isRow l D cI cB a tb o1.2 p1 o3 ho3) (cwV 1 hts gX9_day_X9_isRow rfl rfl rfl (by decide +kernel) ⟨Nat.le_of_ble_eq_true rfl, Nat.le_of_ble_eq_true rfl⟩) hP hK hD hZ hS (va_recv hK hP (ci := 7) (q0 := 0) rfl rfl) rfl hl.1 rfl (Nat.le_of_ble_eq_true rfl) ⟨Nat.zero_le _, Nat.zero_le _⟩ dX9_day_9 ?_
    refine lv_if_eq (tgt := 24) hx hb dX9_day_12 (by decide) (fun c4 => ?_) (fun c4 => ?_)
    · replace hf := if_t hf c4
      refine lv_iconst (v := -1) hx hb dX9_day_24 (by decide) ?_
      exact W.iret (v := (-1)) hx hb hr (fun t ht _ => ⟨⟨(-1), o1.2, rfl, so_p hf, p_at ht hP⟩, hS.F ht⟩) hS.2.2 dX9_day_25
    · replace hf := if_f hf c4
      refine lv_iload_n hx hb dX9_day_15 rfl (lv_at hl 2 rfl) ?_
      refine lv_iconst (v := 0) hx hb dX9_day_16 (by decide) ?_
      refine lv_iconst (v := 1) hx hb dX9_day_17 (by decide) ?_
      obtain ⟨o5, ho5, hf⟩ := ob_e hf
      refine w_callT (As := [.int p2, .int 0, .int 1]) (rest := []) ⟨hx, hb, hml, hown, hts⟩ (c_X9_isIn l tb p2 0 1 o5 ho5) (va_cwS 3 hts gX9_day_X9_isIn rfl rfl rfl (by decide +kernel) ⟨Nat.le_of_ble_eq_true rfl, Nat.le_of_ble_eq_true rfl⟩) hZ hS rfl hl.1 rfl (Nat.le_of_ble_eq_true rfl) ⟨Nat.zero_le _, Nat.zero_le _⟩ dX9_day_18 ?_
      refine lv_if_ne (tgt := 26) hx hb dX9_day_21 (by decide) (fun c6 => ?_) (fun c6 => ?_)
      · replace hf := if_f hf c6
        refine lv_iload_n hx hb dX9_day_26 rfl (lv_at hl 2 rfl) ?_
        refine lv_if_ne (tgt := 49) hx hb dX9_day_27 (by decide) (fun c7 => ?_) (fun c7 => ?_)
        · replace hf := if_f hf c7
          refine lv_aload_n hx hb dX9_day_49 rfl (lv_at hl 0 rfl) ?_
          refine va_get (D := D) (ci := 7) (v := .ref (a 9)) (C := RX9) (T := TX9) (N := 27) hx hb hts hiX9 hown hK hP 0 rfl rfl 20 (by decide) k39 (fun _ h9 => h9) rfl dX9_day_50 ?_
          refine lv_bipush (v := 8) hx hb dX9_day_53 (by decide) ?_
          refine lv_iload_n hx hb dX9_day_55 rfl (lv_at hl 1 rfl) ?_
          refine lv_imul hx hb dX9_day_56 ?_
          refine lv_aload_n hx hb dX9_day_57 rfl (lv_at hl 0 rfl) ?_
          refine va_get (D := D) (ci := 7) (v := .ref (a 12)) (C := RX9) (T := TX9) (N := 27) hx hb hts hiX9 hown hK hP 0 rfl rfl 23 (by decide) k48 (fun _ h9 => h9) rfl dX9_day_58 ?_
          refine lv_iload_n hx hb dX9_day_61 rfl (lv_at hl 1 rfl) ?_
          obtain ⟨hi8, hf⟩ := ix_e hf
          refine va_iald hx hb hK hP 12 0 rfl rfl hi8 dX9_day_62 ?_
          refine lv_iadd hx hb dX9_day_63 ?_
          obtain ⟨x9, ex9, hf⟩ := bnd_e hf
          refine w_nm ex9 ?_
          obtain ⟨hi10, hf⟩ := ix_e hf
          refine va_iald hx hb hK hP 9 0 rfl rfl hi10 dX9_day_64 ?_
          exact W.iret (v := (o1.2.2 9 (Int32.toNatClampNeg x9))) hx hb hr (fun t ht _ => ⟨⟨(o1.2.2 9 (Int32.toNatClampNeg x9)), o1.2, rfl, so_p hf, p_at ht hP⟩, hS.F ht⟩) hS.2.2 dX9_day_65
        · replace hf := if_t hf c7
          refine lv_aload_n hx hb dX9_day_30 rfl (lv_at hl 0 rfl) ?_
          refine va_get (D := D) (ci := 7) (v := .ref (a 8)) (C := RX9) (T := TX9) (N := 27) hx hb hts hiX9 hown hK hP 0 rfl rfl 19 (by decide) k36 (fun _ h9 => h9) rfl dX9_day_31 ?_
          refine lv_bipush (v := 8) hx hb dX9_day_34 (by decide) ?_
          refine lv_iload_n hx hb dX9_day_36 rfl (lv_at hl 1 rfl) ?_
          refine lv_imul hx hb dX9_day_37 ?_
          refine lv_aload_n hx hb dX9_day_38 rfl (lv_at hl 0 rfl) ?_
          refine va_get (D := D) (ci := 7) (v := .ref (a 12)) (C := RX9) (T := TX9) (N := 27) hx hb hts hiX9 hown hK hP 0 rfl rfl 23 (by decide) k48 (fun _ h9 => h9) rfl dX9_day_39 ?_
          refine lv_iload_n hx hb dX9_day_42 rfl (lv_at hl 1 rfl) ?_
          obtain ⟨hi11, hf⟩ := ix_e hf
          refine va_iald hx hb hK hP 12 0 rfl rfl hi11 dX9_day_43 ?_
          refine lv_iadd hx hb dX9_day_44 ?_
          obtain ⟨x12, ex12, hf⟩ := bnd_e hf
          refine w_nm ex12 ?_
          obtain ⟨hi13, hf⟩ := ix_e hf
          refine va_iald hx hb hK hP 8 0 rfl rfl hi13 dX9_day_45 ?_
          refine lv_goto (tgt := 65) hx hb dX9_day_46 (by decide) ?_
          exact W.iret (v := (o1.2.2 8 (Int32.toNatClampNeg x12))) hx hb hr (fun t ht _ => ⟨⟨(o1.2.2 8 (Int32.toNatClampNeg x12)), o1.2, rfl, so_p hf, p_at ht hP⟩, hS.F ht⟩) hS.2.2 dX9_day_65
      · replace hf := if_t hf c6
        refine lv_iconst (v := -1) hx hb dX9_day_24 (by decide) ?_
        exact W.iret (v := (-1)) hx hb hr (fun t ht _ => ⟨⟨(-1), o1.2, rfl, so_p hf, p_at ht hP⟩, hS.F ht⟩) hS.2.2 dX9_day_25
set_option maxHeartbeats 4000000 in
set_option maxRecDepth 100000 in
theorem c_X9_other (l : Launch) (D : va_G) (cI cB : ClassId) (a tb : Nat → Nat) (st : ST) (p1 : Int32) (r : Int32) (hf : fX9_other st p1 = some r) : MetR l yX9_other wsX9_other ({ frames := 2, cells := 0, slots := 0, locals := 44 }) [.ref (a 0), .int p1] D [(cI, .int), (cB, .byte)] (mw cI cB a) (mA a) tb st r := by
  refine met_of (cc := cX9_other) (maxL := 4) (ret := (some .int)) (by decide) rfl (Nat.le_of_ble_eq_true rfl) ?_
  intro p e s m below meth c hx hb hr hml hts hown hlk hG ls hl
  have hown : s.vm.findClass RX9 = some m.cls := hown
  obtain ⟨hP, hK, hD, hZ⟩ := hG
  have hS : va_S (mA a) s.heap s.heap [] := va_S.rf
  have hl : lv_has ls 4 [(0, .ref (a 0)), (1, .int p1)] := hl
  have hiX9 : ∀ w ∈ wsX90, w ∈ wsX9_other := by decide +kernel
  have k103 := hts (.fieldLink RX9 103 "DayColumnModel" "styles" "I") (by decide +kernel)
  have k48 := hts (.fieldLink RX9 48 "DayColumnModel" "best" "[I") (by decide +kernel)
  have l5 : ∀ (n : Nat) (x_1 x_2 x_3 : Int32) (ls : Array Slot), lv_has ls 4 [(0, .ref (a 0)), (1, .int x_1), (2, .int x_2), (3, .int x_3)] → fX9_other_5 n st x_1 x_2 x_3 = some r → W p l e ({ frames := 2, cells := 0, slots := 0, locals := 44 }) s m ([.ref (a 0), .int p1] : List Value).toArray below meth c s.heap [] 0 0 (MQ below (vp_Si (fun z => z = r)) ([.ref (a 0), .int p1] : List Value).toArray s 0 0 (fun _ => False)) (F0 m 5 ls []) := by
    intro n
    induction n with
    | zero =>
      intro x_1 x_2 x_3 ls hl hf
      cases hf
    | succ n ih5 =>
      intro x_1 x_2 x_3 ls hl hf
      unfold fX9_other_5 at hf
      refine lv_iload_n hx hb dX9_other_5 rfl (lv_at hl 3 rfl) ?_
      refine lv_aload_n hx hb dX9_other_6 rfl (lv_at hl 0 rfl) ?_
      refine va_get (D := D) (ci := 7) (v := .int (st.1 9)) (C := RX9) (T := TX9) (N := 27) hx hb hts hiX9 hown hK hP 0 rfl rfl 9 (by decide) k103 (fun _ h9 => h9) rfl dX9_other_7 ?_
      refine lv_icmp_ge (tgt := 45) hx hb dX9_other_10 (by decide) (fun c1 => ?_) (fun c1 => ?_)
      · replace hf := if_t hf c1
        refine lv_iload_n hx hb dX9_other_45 rfl (lv_at hl 2 rfl) ?_
        exact W.iret (v := x_2) hx hb hr (fun t ht _ => ⟨x_2, rfl, so_i hf, ht⟩) (fun _ h => by cases h) dX9_other_46
      · replace hf := if_f hf c1
        refine lv_aload_n hx hb dX9_other_13 rfl (lv_at hl 0 rfl) ?_
        refine lv_iload_n hx hb dX9_other_14 rfl (lv_at hl 1 rfl) ?_
        refine lv_iload_n hx hb dX9_other_15 rfl (lv_at hl 3 rfl) ?_
        refine lv_aload_n hx hb dX9_other_16 rfl (lv_at hl 0 rfl) ?_
        refine va_get (D := D) (ci := 7) (v := .ref (a 12)) (C := RX9) (T := TX9) (N := 27) hx hb hts hiX9 hown hK hP 0 rfl rfl 23 (by decide) k48 (fun _ h9 => h9) rfl dX9_other_17 ?_
        refine lv_iload_n hx hb dX9_other_20 rfl (lv_at hl 1 rfl) ?_
        obtain ⟨hi2, hf⟩ := ix_e hf
        refine va_iald hx hb hK hP 12 0 rfl rfl hi2 dX9_other_21 ?_
        obtain ⟨o3, ho3, hf⟩ := ob_e hf
        refine w_callR (b := a 0) (As := [.int x_1, .int x_3, .int (st.2 12 (Int32.toNatClampNeg x_1))]) (rest := []) ⟨hx, hb, hml, hown, hts⟩ (c_X9_isSame l D cI cB a tb st x_1 x_3 (st.2 12 (Int32.toNatClampNeg x_1)) o3 ho3) (cwV 3 hts gX9_other_X9_isSame rfl rfl rfl (by decide +kernel) ⟨Nat.le_of_ble_eq_true rfl, Nat.le_of_ble_eq_true rfl⟩) hP hK hD hZ hS (va_recv hK hP (ci := 7) (q0 := 0) rfl rfl) rfl hl.1 rfl (Nat.le_of_ble_eq_true rfl) ⟨Nat.zero_le _, Nat.zero_le _⟩ dX9_other_22 ?_
        refine lv_if_ne (tgt := 39) hx hb dX9_other_25 (by decide) (fun c4 => ?_) (fun c4 => ?_)
        · replace hf := if_f hf c4
          obtain ⟨x5, ex5, hf⟩ := bnd_e hf
          refine lv_iinc (v := x5) (lv' := [(3, .int x5), (0, .ref (a 0)), (1, .int x_1), (2, .int x_2)]) hx hb dX9_other_39 hl (k := 3) rfl (by rw [ex5]; rfl) (by decide) rfl (fun ls hl => ?_)
          refine lv_goto (tgt := 5) hx hb dX9_other_42 (by decide) ?_
          exact ih5 x_1 x_2 x5 _ (lv_sub hl [1, 2, 3, 0] rfl) hf
        · replace hf := if_t hf c4
          refine lv_iload_n hx hb dX9_other_28 rfl (lv_at hl 2 rfl) ?_
          refine lv_aload_n hx hb dX9_other_29 rfl (lv_at hl 0 rfl) ?_
          refine lv_iload_n hx hb dX9_other_30 rfl (lv_at hl 1 rfl) ?_
          refine lv_iload_n hx hb dX9_other_31 rfl (lv_at hl 3 rfl) ?_
          obtain ⟨o6, ho6, hf⟩ := ob_e hf
          refine w_callR (b := a 0) (As := [.int x_1, .int x_3]) (rest := [.int x_2]) ⟨hx, hb, hml, hown, hts⟩ (c_X9_through l D cI cB a tb st x_1 x_3 o6 ho6) (cwV 2 hts gX9_other_X9_through rfl rfl rfl (by decide +kernel) ⟨Nat.le_of_ble_eq_true rfl, Nat.le_of_ble_eq_true rfl⟩) hP hK hD hZ hS (va_recv hK hP (ci := 7) (q0 := 0) rfl rfl) rfl hl.1 rfl (Nat.le_of_ble_eq_true rfl) ⟨Nat.zero_le _, Nat.zero_le _⟩ dX9_other_32 ?_
          refine va_mmin hx hb (by rw [hml]; exact hl.1.symm) hown (hts (.methodLink RX9 179 Lib.Math.min.name) (by decide +kernel)) (hts (.static Lib.Math.min.name) (by decide +kernel)) (hts (.initialized "java/lang/Math") (by decide +kernel)) (hts (.code Lib.Math.min.name Lib.Math.min.code 2 (some .int)) (by decide +kernel)) (Nat.le_of_ble_eq_true rfl) (Nat.le_of_ble_eq_true rfl) (Nat.zero_le _) (Nat.zero_le _) dX9_other_35 ?_
          obtain ⟨x7, ex7, hf⟩ := bnd_e hf
          refine w_nm ex7 ?_
          refine lv_istore_n (lv' := [(2, .int x7), (0, .ref (a 0)), (1, .int x_1), (3, .int x_3)]) hx hb dX9_other_38 rfl hl (by decide) rfl (fun ls hl => ?_)
          obtain ⟨x8, ex8, hf⟩ := bnd_e hf
          refine lv_iinc (v := x8) (lv' := [(3, .int x8), (2, .int x7), (0, .ref (a 0)), (1, .int x_1)]) hx hb dX9_other_39 hl (k := 3) rfl (by rw [ex8]; rfl) (by decide) rfl (fun ls hl => ?_)
          refine lv_goto (tgt := 5) hx hb dX9_other_42 (by decide) ?_
          exact ih5 x_1 x7 x8 _ (lv_sub hl [2, 3, 1, 0] rfl) hf
  unfold fX9_other at hf
  refine lv_ldc (v := 100000000) hx hb hown (hts (.constant RX9 175 (100000000)) (by decide +kernel)) dX9_other_0 ?_
  refine lv_istore_n (lv' := [(2, .int 100000000), (0, .ref (a 0)), (1, .int p1)]) hx hb dX9_other_2 rfl hl (by decide) rfl (fun ls hl => ?_)
  refine lv_iconst (v := 0) hx hb dX9_other_3 (by decide) ?_
  refine lv_istore_n (lv' := [(3, .int 0), (2, .int 100000000), (0, .ref (a 0)), (1, .int p1)]) hx hb dX9_other_4 rfl hl (by decide) rfl (fun ls hl => ?_)
  exact l5 1000 p1 100000000 0 _ (lv_sub hl [2, 3, 1, 0] rfl) hf
set_option maxHeartbeats 4000000 in
set_option maxRecDepth 100000 in
theorem c_X9_kindOf (l : Launch) (D : va_G) (cI cB : ClassId) (a tb : Nat → Nat) (st : ST) (p1 : Int32) (r : Int32) (hf : fX9_kindOf st p1 = some r) : MetR l yX9_kindOf wsX9_kindOf ({ frames := 3, cells := 0, slots := 0, locals := 67 }) [.ref (a 0), .int p1] D [(cI, .int), (cB, .byte)] (mw cI cB a) (mA a) tb st r := by
  refine met_of (cc := cX9_kindOf) (maxL := 4) (ret := (some .int)) (by decide) rfl (Nat.le_of_ble_eq_true rfl) ?_
  intro p e s m below meth c hx hb hr hml hts hown hlk hG ls hl
  have hown : s.vm.findClass RX9 = some m.cls := hown
  obtain ⟨hP, hK, hD, hZ⟩ := hG
  have hS : va_S (mA a) s.heap s.heap [] := va_S.rf
  have hl : lv_has ls 4 [(0, .ref (a 0)), (1, .int p1)] := hl
  have hiX9 : ∀ w ∈ wsX90, w ∈ wsX9_kindOf := by decide +kernel
  have k103 := hts (.fieldLink RX9 103 "DayColumnModel" "styles" "I") (by decide +kernel)
  have k185 := hts (.fieldLink RX9 185 "DayColumnModel" "least" "I") (by decide +kernel)
  have k36 := hts (.fieldLink RX9 36 "DayColumnModel" "first" "[I") (by decide +kernel)
  have k48 := hts (.fieldLink RX9 48 "DayColumnModel" "best" "[I") (by decide +kernel)
  have l26 : ∀ (n : Nat) (x_1 x_2 x_3 : Int32) (ls : Array Slot), lv_has ls 4 [(0, .ref (a 0)), (1, .int x_1), (2, .int x_2), (3, .int x_3)] → fX9_kindOf_26 n st x_1 x_2 x_3 = some r → W p l e ({ frames := 3, cells := 0, slots := 0, locals := 67 }) s m ([.ref (a 0), .int p1] : List Value).toArray below meth c s.heap [] 0 0 (MQ below (vp_Si (fun z => z = r)) ([.ref (a 0), .int p1] : List Value).toArray s 0 0 (fun _ => False)) (F0 m 26 ls []) := by
    intro n
    induction n with
    | zero =>
      intro x_1 x_2 x_3 ls hl hf
      cases hf
    | succ n ih26 =>
      intro x_1 x_2 x_3 ls hl hf
      unfold fX9_kindOf_26 at hf
      refine lv_iload_n hx hb dX9_kindOf_26 rfl (lv_at hl 3 rfl) ?_
      refine lv_aload_n hx hb dX9_kindOf_27 rfl (lv_at hl 0 rfl) ?_
      refine va_get (D := D) (ci := 7) (v := .int (st.1 9)) (C := RX9) (T := TX9) (N := 27) hx hb hts hiX9 hown hK hP 0 rfl rfl 9 (by decide) k103 (fun _ h9 => h9) rfl dX9_kindOf_28 ?_
      refine lv_icmp_ge (tgt := 80) hx hb dX9_kindOf_31 (by decide) (fun c1 => ?_) (fun c1 => ?_)
      · replace hf := if_t hf c1
        refine lv_iload_n hx hb dX9_kindOf_80 rfl (lv_at hl 2 rfl) ?_
        refine lv_if_eq (tgt := 86) hx hb dX9_kindOf_81 (by decide) (fun c2 => ?_) (fun c2 => ?_)
        · replace hf := if_t hf c2
          refine lv_aload_n hx hb dX9_kindOf_86 rfl (lv_at hl 0 rfl) ?_
          refine lv_iload_n hx hb dX9_kindOf_87 rfl (lv_at hl 1 rfl) ?_
          obtain ⟨o3, ho3, hf⟩ := ob_e hf
          refine w_callR (b := a 0) (As := [.int x_1]) (rest := []) ⟨hx, hb, hml, hown, hts⟩ (c_X9_other l D cI cB a tb st x_1 o3 ho3) (cwV 1 hts gX9_kindOf_X9_other rfl rfl rfl (by decide +kernel) ⟨Nat.le_of_ble_eq_true rfl, Nat.le_of_ble_eq_true rfl⟩) hP hK hD hZ hS (va_recv hK hP (ci := 7) (q0 := 0) rfl rfl) rfl hl.1 rfl (Nat.le_of_ble_eq_true rfl) ⟨Nat.zero_le _, Nat.zero_le _⟩ dX9_kindOf_88 ?_
          refine lv_aload_n hx hb dX9_kindOf_91 rfl (lv_at hl 0 rfl) ?_
          refine va_get (D := D) (ci := 7) (v := .int (st.1 24)) (C := RX9) (T := TX9) (N := 27) hx hb hts hiX9 hown hK hP 0 rfl rfl 24 (by decide) k185 (fun _ h9 => h9) rfl dX9_kindOf_92 ?_
          refine lv_icmp_ne (tgt := 102) hx hb dX9_kindOf_95 (by decide) (fun c4 => ?_) (fun c4 => ?_)
          · replace hf := if_f hf c4
            refine lv_iconst (v := 1) hx hb dX9_kindOf_102 (by decide) ?_
            exact W.iret (v := 1) hx hb hr (fun t ht _ => ⟨1, rfl, so_i hf, ht⟩) (fun _ h => by cases h) dX9_kindOf_103
          · replace hf := if_t hf c4
            refine lv_iconst (v := 2) hx hb dX9_kindOf_98 (by decide) ?_
            refine lv_goto (tgt := 103) hx hb dX9_kindOf_99 (by decide) ?_
            exact W.iret (v := 2) hx hb hr (fun t ht _ => ⟨2, rfl, so_i hf, ht⟩) (fun _ h => by cases h) dX9_kindOf_103
        · replace hf := if_f hf c2
          refine lv_iconst (v := 0) hx hb dX9_kindOf_84 (by decide) ?_
          exact W.iret (v := 0) hx hb hr (fun t ht _ => ⟨0, rfl, so_i hf, ht⟩) (fun _ h => by cases h) dX9_kindOf_85
      · replace hf := if_f hf c1
        refine lv_iload_n hx hb dX9_kindOf_34 rfl (lv_at hl 2 rfl) ?_
        refine lv_if_eq (tgt := 72) hx hb dX9_kindOf_35 (by decide) (fun c5 => ?_) (fun c5 => ?_)
        · replace hf := if_t hf c5
          refine lv_iconst (v := 0) hx hb dX9_kindOf_72 (by decide) ?_
          refine lv_istore_n (lv' := [(2, .int 0), (0, .ref (a 0)), (1, .int x_1), (3, .int x_3)]) hx hb dX9_kindOf_73 rfl hl (by decide) rfl (fun ls hl => ?_)
          obtain ⟨x6, ex6, hf⟩ := bnd_e hf
          refine lv_iinc (v := x6) (lv' := [(3, .int x6), (2, .int 0), (0, .ref (a 0)), (1, .int x_1)]) hx hb dX9_kindOf_74 hl (k := 3) rfl (by rw [ex6]; rfl) (by decide) rfl (fun ls hl => ?_)
          refine lv_goto (tgt := 26) hx hb dX9_kindOf_77 (by decide) ?_
          exact ih26 x_1 0 x6 _ (lv_sub hl [2, 3, 1, 0] rfl) hf
        · replace hf := if_f hf c5
          refine lv_aload_n hx hb dX9_kindOf_38 rfl (lv_at hl 0 rfl) ?_
          refine va_get (D := D) (ci := 7) (v := .ref (a 8)) (C := RX9) (T := TX9) (N := 27) hx hb hts hiX9 hown hK hP 0 rfl rfl 19 (by decide) k36 (fun _ h9 => h9) rfl dX9_kindOf_39 ?_
          refine lv_bipush (v := 8) hx hb dX9_kindOf_42 (by decide) ?_
          refine lv_iload_n hx hb dX9_kindOf_44 rfl (lv_at hl 1 rfl) ?_
          refine lv_imul hx hb dX9_kindOf_45 ?_
          refine lv_iload_n hx hb dX9_kindOf_46 rfl (lv_at hl 3 rfl) ?_
          refine lv_iadd hx hb dX9_kindOf_47 ?_
          obtain ⟨x7, ex7, hf⟩ := bnd_e hf
          refine w_nm ex7 ?_
          obtain ⟨hi8, hf⟩ := ix_e hf
          refine va_iald hx hb hK hP 8 0 rfl rfl hi8 dX9_kindOf_48 ?_
          refine lv_iconst (v := -1) hx hb dX9_kindOf_49 (by decide) ?_
          refine lv_icmp_eq (tgt := 68) hx hb dX9_kindOf_50 (by decide) (fun c9 => ?_) (fun c9 => ?_)
          · replace hf := if_t hf c9
            refine lv_iconst (v := 1) hx hb dX9_kindOf_68 (by decide) ?_
            refine lv_goto (tgt := 73) hx hb dX9_kindOf_69 (by decide) ?_
            refine lv_istore_n (lv' := [(2, .int 1), (0, .ref (a 0)), (1, .int x_1), (3, .int x_3)]) hx hb dX9_kindOf_73 rfl hl (by decide) rfl (fun ls hl => ?_)
            obtain ⟨x10, ex10, hf⟩ := bnd_e hf
            refine lv_iinc (v := x10) (lv' := [(3, .int x10), (2, .int 1), (0, .ref (a 0)), (1, .int x_1)]) hx hb dX9_kindOf_74 hl (k := 3) rfl (by rw [ex10]; rfl) (by decide) rfl (fun ls hl => ?_)
            refine lv_goto (tgt := 26) hx hb dX9_kindOf_77 (by decide) ?_
            exact ih26 x_1 1 x10 _ (lv_sub hl [2, 3, 1, 0] rfl) hf
          · replace hf := if_f hf c9
            refine lv_aload_n hx hb dX9_kindOf_53 rfl (lv_at hl 0 rfl) ?_
            refine lv_iload_n hx hb dX9_kindOf_54 rfl (lv_at hl 1 rfl) ?_
            refine lv_iload_n hx hb dX9_kindOf_55 rfl (lv_at hl 3 rfl) ?_
            refine lv_aload_n hx hb dX9_kindOf_56 rfl (lv_at hl 0 rfl) ?_
            refine va_get (D := D) (ci := 7) (v := .ref (a 12)) (C := RX9) (T := TX9) (N := 27) hx hb hts hiX9 hown hK hP 0 rfl rfl 23 (by decide) k48 (fun _ h9 => h9) rfl dX9_kindOf_57 ?_
            refine lv_iload_n hx hb dX9_kindOf_60 rfl (lv_at hl 1 rfl) ?_
            obtain ⟨hi11, hf⟩ := ix_e hf
            refine va_iald hx hb hK hP 12 0 rfl rfl hi11 dX9_kindOf_61 ?_
            obtain ⟨o12, ho12, hf⟩ := ob_e hf
            refine w_callR (b := a 0) (As := [.int x_1, .int x_3, .int (st.2 12 (Int32.toNatClampNeg x_1))]) (rest := []) ⟨hx, hb, hml, hown, hts⟩ (c_X9_isSame l D cI cB a tb st x_1 x_3 (st.2 12 (Int32.toNatClampNeg x_1)) o12 ho12) (cwV 3 hts gX9_kindOf_X9_isSame rfl rfl rfl (by decide +kernel) ⟨Nat.le_of_ble_eq_true rfl, Nat.le_of_ble_eq_true rfl⟩) hP hK hD hZ hS (va_recv hK hP (ci := 7) (q0 := 0) rfl rfl) rfl hl.1 rfl (Nat.le_of_ble_eq_true rfl) ⟨Nat.zero_le _, Nat.zero_le _⟩ dX9_kindOf_62 ?_
            refine lv_if_eq (tgt := 72) hx hb dX9_kindOf_65 (by decide) (fun c13 => ?_) (fun c13 => ?_)
            · replace hf := if_t hf c13
              refine lv_iconst (v := 0) hx hb dX9_kindOf_72 (by decide) ?_
              refine lv_istore_n (lv' := [(2, .int 0), (0, .ref (a 0)), (1, .int x_1), (3, .int x_3)]) hx hb dX9_kindOf_73 rfl hl (by decide) rfl (fun ls hl => ?_)
              obtain ⟨x14, ex14, hf⟩ := bnd_e hf
              refine lv_iinc (v := x14) (lv' := [(3, .int x14), (2, .int 0), (0, .ref (a 0)), (1, .int x_1)]) hx hb dX9_kindOf_74 hl (k := 3) rfl (by rw [ex14]; rfl) (by decide) rfl (fun ls hl => ?_)
              refine lv_goto (tgt := 26) hx hb dX9_kindOf_77 (by decide) ?_
              exact ih26 x_1 0 x14 _ (lv_sub hl [2, 3, 1, 0] rfl) hf
            · replace hf := if_f hf c13
              refine lv_iconst (v := 1) hx hb dX9_kindOf_68 (by decide) ?_
              refine lv_goto (tgt := 73) hx hb dX9_kindOf_69 (by decide) ?_
              refine lv_istore_n (lv' := [(2, .int 1), (0, .ref (a 0)), (1, .int x_1), (3, .int x_3)]) hx hb dX9_kindOf_73 rfl hl (by decide) rfl (fun ls hl => ?_)
              obtain ⟨x15, ex15, hf⟩ := bnd_e hf
              refine lv_iinc (v := x15) (lv' := [(3, .int x15), (2, .int 1), (0, .ref (a 0)), (1, .int x_1)]) hx hb dX9_kindOf_74 hl (k := 3) rfl (by rw [ex15]; rfl) (by decide) rfl (fun ls hl => ?_)
              refine lv_goto (tgt := 26) hx hb dX9_kindOf_77 (by decide) ?_
              exact ih26 x_1 1 x15 _ (lv_sub hl [2, 3, 1, 0] rfl) hf
  unfold fX9_kindOf at hf
  refine lv_aload_n hx hb dX9_kindOf_0 rfl (lv_at hl 0 rfl) ?_
  refine va_get (D := D) (ci := 7) (v := .ref (a 8)) (C := RX9) (T := TX9) (N := 27) hx hb hts hiX9 hown hK hP 0 rfl rfl 19 (by decide) k36 (fun _ h9 => h9) rfl dX9_kindOf_1 ?_
  refine lv_bipush (v := 8) hx hb dX9_kindOf_4 (by decide) ?_
  refine lv_iload_n hx hb dX9_kindOf_6 rfl (lv_at hl 1 rfl) ?_
  refine lv_imul hx hb dX9_kindOf_7 ?_
  refine lv_aload_n hx hb dX9_kindOf_8 rfl (lv_at hl 0 rfl) ?_
  refine va_get (D := D) (ci := 7) (v := .ref (a 12)) (C := RX9) (T := TX9) (N := 27) hx hb hts hiX9 hown hK hP 0 rfl rfl 23 (by decide) k48 (fun _ h9 => h9) rfl dX9_kindOf_9 ?_
  refine lv_iload_n hx hb dX9_kindOf_12 rfl (lv_at hl 1 rfl) ?_
  obtain ⟨hi16, hf⟩ := ix_e hf
  refine va_iald hx hb hK hP 12 0 rfl rfl hi16 dX9_kindOf_13 ?_
  refine lv_iadd hx hb dX9_kindOf_14 ?_
  obtain ⟨x17, ex17, hf⟩ := bnd_e hf
  refine w_nm ex17 ?_
  obtain ⟨hi18, hf⟩ := ix_e hf
  refine va_iald hx hb hK hP 8 0 rfl rfl hi18 dX9_kindOf_15 ?_
  refine lv_iconst (v := -1) hx hb dX9_kindOf_16 (by decide) ?_
  refine lv_icmp_ne (tgt := 22) hx hb dX9_kindOf_17 (by decide) (fun c19 => ?_) (fun c19 => ?_)
  · replace hf := if_f hf c19
    refine lv_iconst (v := 1) hx hb dX9_kindOf_22 (by decide) ?_
    refine lv_istore_n (lv' := [(2, .int 1), (0, .ref (a 0)), (1, .int p1)]) hx hb dX9_kindOf_23 rfl hl (by decide) rfl (fun ls hl => ?_)
    refine lv_iconst (v := 0) hx hb dX9_kindOf_24 (by decide) ?_
    refine lv_istore_n (lv' := [(3, .int 0), (2, .int 1), (0, .ref (a 0)), (1, .int p1)]) hx hb dX9_kindOf_25 rfl hl (by decide) rfl (fun ls hl => ?_)
    exact l26 1000 p1 1 0 _ (lv_sub hl [2, 3, 1, 0] rfl) hf
  · replace hf := if_t hf c19
    refine lv_iconst (v := 3) hx hb dX9_kindOf_20 (by decide) ?_
    exact W.iret (v := 3) hx hb hr (fun t ht _ => ⟨3, rfl, so_i hf, ht⟩) (fun _ h => by cases h) dX9_kindOf_21
set_option maxHeartbeats 4000000 in
set_option maxRecDepth 100000 in
theorem c_X9_kind (l : Launch) (D : va_G) (cI cB : ClassId) (a tb : Nat → Nat) (st : ST) (p1 : Int32) (r : Int32 × ST) (hf : fX9_kind st p1 = some r) : MetW l yX9_kind wsX9_kind ({ frames := 8, cells := 0, slots := 0, locals := 192 }) [.ref (a 0), .int p1] D [(cI, .int), (cB, .byte)] (mw cI cB a) (mA a) tb st r := by
  refine met_of (cc := cX9_kind) (maxL := 2) (ret := (some .int)) (by decide) rfl (Nat.le_of_ble_eq_true rfl) ?_
  intro p e s m below meth c hx hb hr hml hts hown hlk hG ls hl
  have hown : s.vm.findClass RX9 = some m.cls := hown
  obtain ⟨hP, hK, hD, hZ⟩ := hG
  have hS : va_S (mA a) s.heap s.heap [] := va_S.rf
  have hl : lv_has ls 2 [(0, .ref (a 0)), (1, .int p1)] := hl
  unfold fX9_kind at hf
  refine lv_aload_n hx hb dX9_kind_0 rfl (lv_at hl 0 rfl) ?_
  obtain ⟨o1, ho1, hf⟩ := ob_e hf
  refine w_callW (b := a 0) (As := []) (rest := []) ⟨hx, hb, hml, hown, hts⟩ (c_X9_finds l D cI cB a tb st o1 ho1) (cwV 0 hts gX9_kind_X9_finds rfl rfl rfl (by decide +kernel) ⟨Nat.le_of_ble_eq_true rfl, Nat.le_of_ble_eq_true rfl⟩) hP hK hD hZ hS (va_recv hK hP (ci := 7) (q0 := 0) rfl rfl) rfl hl.1 rfl (Nat.le_of_ble_eq_true rfl) ⟨Nat.zero_le _, Nat.zero_le _⟩ dX9_kind_1 (fun H locs hP hS => ?_)
  refine lv_if_eq (tgt := 23) hx hb dX9_kind_4 (by decide) (fun c2 => ?_) (fun c2 => ?_)
  · replace hf := if_t hf c2
    refine lv_iconst (v := -1) hx hb dX9_kind_23 (by decide) ?_
    exact W.iret (v := (-1)) hx hb hr (fun t ht _ => ⟨⟨(-1), o1.2, rfl, so_p hf, p_at ht hP⟩, hS.F ht⟩) hS.2.2 dX9_kind_24
  · replace hf := if_f hf c2
    refine lv_aload_n hx hb dX9_kind_7 rfl (lv_at hl 0 rfl) ?_
    refine lv_iload_n hx hb dX9_kind_8 rfl (lv_at hl 1 rfl) ?_
    obtain ⟨o3, ho3, hf⟩ := ob_e hf
    refine w_callR (b := a 0) (As := [.int p1]) (rest := []) ⟨hx, hb, hml, hown, hts⟩ (c_X9_isRow l D cI cB a tb o1.2 p1 o3 ho3) (cwV 1 hts gX9_kind_X9_isRow rfl rfl rfl (by decide +kernel) ⟨Nat.le_of_ble_eq_true rfl, Nat.le_of_ble_eq_true rfl⟩) hP hK hD hZ hS (va_recv hK hP (ci := 7) (q0 := 0) rfl rfl) rfl hl.1 rfl (Nat.le_of_ble_eq_true rfl) ⟨Nat.zero_le _, Nat.zero_le _⟩ dX9_kind_9 ?_
    refine lv_if_eq (tgt := 23) hx hb dX9_kind_12 (by decide) (fun c4 => ?_) (fun c4 => ?_)
    · replace hf := if_t hf c4
      refine lv_iconst (v := -1) hx hb dX9_kind_23 (by decide) ?_
      exact W.iret (v := (-1)) hx hb hr (fun t ht _ => ⟨⟨(-1), o1.2, rfl, so_p hf, p_at ht hP⟩, hS.F ht⟩) hS.2.2 dX9_kind_24
    · replace hf := if_f hf c4
      refine lv_aload_n hx hb dX9_kind_15 rfl (lv_at hl 0 rfl) ?_
      refine lv_iload_n hx hb dX9_kind_16 rfl (lv_at hl 1 rfl) ?_
      obtain ⟨o5, ho5, hf⟩ := ob_e hf
      refine w_callR (b := a 0) (As := [.int p1]) (rest := []) ⟨hx, hb, hml, hown, hts⟩ (c_X9_kindOf l D cI cB a tb o1.2 p1 o5 ho5) (cwV 1 hts gX9_kind_X9_kindOf rfl rfl rfl (by decide +kernel) ⟨Nat.le_of_ble_eq_true rfl, Nat.le_of_ble_eq_true rfl⟩) hP hK hD hZ hS (va_recv hK hP (ci := 7) (q0 := 0) rfl rfl) rfl hl.1 rfl (Nat.le_of_ble_eq_true rfl) ⟨Nat.zero_le _, Nat.zero_le _⟩ dX9_kind_17 ?_
      refine lv_goto (tgt := 24) hx hb dX9_kind_20 (by decide) ?_
      exact W.iret (v := o5) hx hb hr (fun t ht _ => ⟨⟨o5, o1.2, rfl, so_p hf, p_at ht hP⟩, hS.F ht⟩) hS.2.2 dX9_kind_24
set_option maxHeartbeats 4000000 in
set_option maxRecDepth 100000 in
theorem c_X9_second (l : Launch) (D : va_G) (cI cB : ClassId) (a tb : Nat → Nat) (st : ST) (p1 : Int32) (r : Int32 × ST) (hf : fX9_second st p1 = some r) : MetW l yX9_second wsX9_second ({ frames := 8, cells := 0, slots := 0, locals := 192 }) [.ref (a 0), .int p1] D [(cI, .int), (cB, .byte)] (mw cI cB a) (mA a) tb st r := by
  refine met_of (cc := cX9_second) (maxL := 3) (ret := (some .int)) (by decide) rfl (Nat.le_of_ble_eq_true rfl) ?_
  intro p e s m below meth c hx hb hr hml hts hown hlk hG ls hl
  have hown : s.vm.findClass RX9 = some m.cls := hown
  obtain ⟨hP, hK, hD, hZ⟩ := hG
  have hS : va_S (mA a) s.heap s.heap [] := va_S.rf
  have hl : lv_has ls 3 [(0, .ref (a 0)), (1, .int p1)] := hl
  unfold fX9_second at hf
  refine lv_aload_n hx hb dX9_second_0 rfl (lv_at hl 0 rfl) ?_
  obtain ⟨o1, ho1, hf⟩ := ob_e hf
  refine w_callW (b := a 0) (As := []) (rest := []) ⟨hx, hb, hml, hown, hts⟩ (c_X9_finds l D cI cB a tb st o1 ho1) (cwV 0 hts gX9_second_X9_finds rfl rfl rfl (by decide +kernel) ⟨Nat.le_of_ble_eq_true rfl, Nat.le_of_ble_eq_true rfl⟩) hP hK hD hZ hS (va_recv hK hP (ci := 7) (q0 := 0) rfl rfl) rfl hl.1 rfl (Nat.le_of_ble_eq_true rfl) ⟨Nat.zero_le _, Nat.zero_le _⟩ dX9_second_1 (fun H locs hP hS => ?_)
  refine lv_if_eq (tgt := 24) hx hb dX9_second_4 (by decide) (fun c2 => ?_) (fun c2 => ?_)
  · replace hf := if_t hf c2
    refine lv_iconst (v := -1) hx hb dX9_second_24 (by decide) ?_
    exact W.iret (v := (-1)) hx hb hr (fun t ht _ => ⟨⟨(-1), o1.2, rfl, so_p hf, p_at ht hP⟩, hS.F ht⟩) hS.2.2 dX9_second_25
  · replace hf := if_f hf c2
    refine lv_aload_n hx hb dX9_second_7 rfl (lv_at hl 0 rfl) ?_
    refine lv_iload_n hx hb dX9_second_8 rfl (lv_at hl 1 rfl) ?_
    obtain ⟨o3, ho3, hf⟩ := ob_e hf
    refine w_callR (b := a 0) (As := [.int p1]) (rest := []) ⟨hx, hb, hml, hown, hts⟩ (c_X9_isRow l D cI cB a tb o1.2 p1 o3 ho3) (cwV 1 hts gX9_second_X9_isRow rfl rfl rfl (by decide +kernel) ⟨Nat.le_of_ble_eq_true rfl, Nat.le_of_ble_eq_true rfl⟩) hP hK hD hZ hS (va_recv hK hP (ci := 7) (q0 := 0) rfl rfl) rfl hl.1 rfl (Nat.le_of_ble_eq_true rfl) ⟨Nat.zero_le _, Nat.zero_le _⟩ dX9_second_9 ?_
    refine lv_if_eq (tgt := 24) hx hb dX9_second_12 (by decide) (fun c4 => ?_) (fun c4 => ?_)
    · replace hf := if_t hf c4
      refine lv_iconst (v := -1) hx hb dX9_second_24 (by decide) ?_
      exact W.iret (v := (-1)) hx hb hr (fun t ht _ => ⟨⟨(-1), o1.2, rfl, so_p hf, p_at ht hP⟩, hS.F ht⟩) hS.2.2 dX9_second_25
    · replace hf := if_f hf c4
      refine lv_aload_n hx hb dX9_second_15 rfl (lv_at hl 0 rfl) ?_
      refine lv_iload_n hx hb dX9_second_16 rfl (lv_at hl 1 rfl) ?_
      obtain ⟨o5, ho5, hf⟩ := ob_e hf
      refine w_callR (b := a 0) (As := [.int p1]) (rest := []) ⟨hx, hb, hml, hown, hts⟩ (c_X9_kindOf l D cI cB a tb o1.2 p1 o5 ho5) (cwV 1 hts gX9_second_X9_kindOf rfl rfl rfl (by decide +kernel) ⟨Nat.le_of_ble_eq_true rfl, Nat.le_of_ble_eq_true rfl⟩) hP hK hD hZ hS (va_recv hK hP (ci := 7) (q0 := 0) rfl rfl) rfl hl.1 rfl (Nat.le_of_ble_eq_true rfl) ⟨Nat.zero_le _, Nat.zero_le _⟩ dX9_second_17 ?_
      refine lv_iconst (v := 3) hx hb dX9_second_20 (by decide) ?_
      refine lv_icmp_ne (tgt := 26) hx hb dX9_second_21 (by decide) (fun c6 => ?_) (fun c6 => ?_)
      · replace hf := if_f hf c6
        refine lv_aload_n hx hb dX9_second_26 rfl (lv_at hl 0 rfl) ?_
        refine lv_iload_n hx hb dX9_second_27 rfl (lv_at hl 1 rfl) ?_
        obtain ⟨o7, ho7, hf⟩ := ob_e hf
        refine w_callR (b := a 0) (As := [.int p1]) (rest := []) ⟨hx, hb, hml, hown, hts⟩ (c_X9_other l D cI cB a tb o1.2 p1 o7 ho7) (cwV 1 hts gX9_second_X9_other rfl rfl rfl (by decide +kernel) ⟨Nat.le_of_ble_eq_true rfl, Nat.le_of_ble_eq_true rfl⟩) hP hK hD hZ hS (va_recv hK hP (ci := 7) (q0 := 0) rfl rfl) rfl hl.1 rfl (Nat.le_of_ble_eq_true rfl) ⟨Nat.zero_le _, Nat.zero_le _⟩ dX9_second_28 ?_
        refine lv_istore_n (lv' := [(2, .int o7), (0, .ref (a 0)), (1, .int p1)]) hx hb dX9_second_31 rfl hl (by decide) rfl (fun ls hl => ?_)
        refine lv_iload_n hx hb dX9_second_32 rfl (lv_at hl 0 rfl) ?_
        refine lv_ldc (v := 100000000) hx hb hown (hts (.constant RX9 175 (100000000)) (by decide +kernel)) dX9_second_33 ?_
        refine lv_icmp_ne (tgt := 42) hx hb dX9_second_35 (by decide) (fun c8 => ?_) (fun c8 => ?_)
        · replace hf := if_f hf c8
          refine lv_iload_n hx hb dX9_second_42 rfl (lv_at hl 0 rfl) ?_
          exact W.iret (v := o7) hx hb hr (fun t ht _ => ⟨⟨o7, o1.2, rfl, so_p hf, p_at ht hP⟩, hS.F ht⟩) hS.2.2 dX9_second_43
        · replace hf := if_t hf c8
          refine lv_iconst (v := -1) hx hb dX9_second_38 (by decide) ?_
          refine lv_goto (tgt := 43) hx hb dX9_second_39 (by decide) ?_
          exact W.iret (v := (-1)) hx hb hr (fun t ht _ => ⟨⟨(-1), o1.2, rfl, so_p hf, p_at ht hP⟩, hS.F ht⟩) hS.2.2 dX9_second_43
      · replace hf := if_t hf c6
        refine lv_iconst (v := -1) hx hb dX9_second_24 (by decide) ?_
        exact W.iret (v := (-1)) hx hb hr (fun t ht _ => ⟨⟨(-1), o1.2, rfl, so_p hf, p_at ht hP⟩, hS.F ht⟩) hS.2.2 dX9_second_25
set_option maxHeartbeats 4000000 in
set_option maxRecDepth 100000 in
theorem c_X9_many (l : Launch) (D : va_G) (cI cB : ClassId) (a tb : Nat → Nat) (st : ST) (p1 : Int32) (r : Int32 × ST) (hf : fX9_many st p1 = some r) : MetW l yX9_many wsX9_many ({ frames := 8, cells := 0, slots := 0, locals := 192 }) [.ref (a 0), .int p1] D [(cI, .int), (cB, .byte)] (mw cI cB a) (mA a) tb st r := by
  refine met_of (cc := cX9_many) (maxL := 4) (ret := (some .int)) (by decide) rfl (Nat.le_of_ble_eq_true rfl) ?_
  intro p e s m below meth c hx hb hr hml hts hown hlk hG ls hl
  have hown : s.vm.findClass RX9 = some m.cls := hown
  obtain ⟨hP, hK, hD, hZ⟩ := hG
  have hS : va_S (mA a) s.heap s.heap [] := va_S.rf
  have hl : lv_has ls 4 [(0, .ref (a 0)), (1, .int p1)] := hl
  have hiX9 : ∀ w ∈ wsX90, w ∈ wsX9_many := by decide +kernel
  have k113 := hts (.fieldLink RX9 113 "DayColumnModel" "rows" "I") (by decide +kernel)
  have l22 : ∀ (n : Nat) (x_1 x_2 x_3 : Int32) (st : ST) (H : Heap) (locs : List Loc) (ls : Array Slot), va_P D vwCl (mw cI cB a st) H → va_S (mA a) s.heap H locs → lv_has ls 4 [(0, .ref (a 0)), (1, .int x_1), (2, .int x_2), (3, .int x_3)] → fX9_many_22 n st x_1 x_2 x_3 = some r → W p l e ({ frames := 8, cells := 0, slots := 0, locals := 192 }) s m ([.ref (a 0), .int p1] : List Value).toArray below meth c H locs 0 0 (MQ below (va_Qi (fun (z : Int32) (u : ST) => z = r.1 ∧ u = r.2) (fun u t => va_P D vwCl (mw cI cB a u) t.heap) (mA a)) ([.ref (a 0), .int p1] : List Value).toArray s 0 0 (mA a)) (F0 m 22 ls []) := by
    intro n
    induction n with
    | zero =>
      intro x_1 x_2 x_3 st H locs ls hP hS hl hf
      cases hf
    | succ n ih22 =>
      intro x_1 x_2 x_3 st H locs ls hP hS hl hf
      unfold fX9_many_22 at hf
      refine lv_iload_n hx hb dX9_many_22 rfl (lv_at hl 3 rfl) ?_
      refine lv_aload_n hx hb dX9_many_23 rfl (lv_at hl 0 rfl) ?_
      refine va_get (D := D) (ci := 7) (v := .int (st.1 10)) (C := RX9) (T := TX9) (N := 27) hx hb hts hiX9 hown hK hP 0 rfl rfl 10 (by decide) k113 (fun _ h9 => h9) rfl dX9_many_24 ?_
      refine lv_icmp_ge (tgt := 53) hx hb dX9_many_27 (by decide) (fun c1 => ?_) (fun c1 => ?_)
      · replace hf := if_t hf c1
        refine lv_iload_n hx hb dX9_many_53 rfl (lv_at hl 2 rfl) ?_
        exact W.iret (v := x_2) hx hb hr (fun t ht _ => ⟨⟨x_2, st, rfl, so_p hf, p_at ht hP⟩, hS.F ht⟩) hS.2.2 dX9_many_54
      · replace hf := if_f hf c1
        refine lv_iload_n hx hb dX9_many_30 rfl (lv_at hl 2 rfl) ?_
        refine lv_aload_n hx hb dX9_many_31 rfl (lv_at hl 0 rfl) ?_
        refine lv_iload_n hx hb dX9_many_32 rfl (lv_at hl 3 rfl) ?_
        obtain ⟨o2, ho2, hf⟩ := ob_e hf
        refine w_callR (b := a 0) (As := [.int x_3]) (rest := [.int x_2]) ⟨hx, hb, hml, hown, hts⟩ (c_X9_kindOf l D cI cB a tb st x_3 o2 ho2) (cwV 1 hts gX9_many_X9_kindOf rfl rfl rfl (by decide +kernel) ⟨Nat.le_of_ble_eq_true rfl, Nat.le_of_ble_eq_true rfl⟩) hP hK hD hZ hS (va_recv hK hP (ci := 7) (q0 := 0) rfl rfl) rfl hl.1 rfl (Nat.le_of_ble_eq_true rfl) ⟨Nat.zero_le _, Nat.zero_le _⟩ dX9_many_33 ?_
        refine lv_iload_n hx hb dX9_many_36 rfl (lv_at hl 1 rfl) ?_
        refine lv_icmp_ne (tgt := 44) hx hb dX9_many_37 (by decide) (fun c3 => ?_) (fun c3 => ?_)
        · replace hf := if_f hf c3
          refine lv_iconst (v := 0) hx hb dX9_many_44 (by decide) ?_
          refine lv_iadd hx hb dX9_many_45 ?_
          obtain ⟨x4, ex4, hf⟩ := bnd_e hf
          refine w_nm ex4 ?_
          refine lv_istore_n (lv' := [(2, .int x4), (0, .ref (a 0)), (1, .int x_1), (3, .int x_3)]) hx hb dX9_many_46 rfl hl (by decide) rfl (fun ls hl => ?_)
          obtain ⟨x5, ex5, hf⟩ := bnd_e hf
          refine lv_iinc (v := x5) (lv' := [(3, .int x5), (2, .int x4), (0, .ref (a 0)), (1, .int x_1)]) hx hb dX9_many_47 hl (k := 3) rfl (by rw [ex5]; rfl) (by decide) rfl (fun ls hl => ?_)
          refine lv_goto (tgt := 22) hx hb dX9_many_50 (by decide) ?_
          exact ih22 x_1 x4 x5 st _ _ _ hP hS (lv_sub hl [2, 3, 1, 0] rfl) hf
        · replace hf := if_t hf c3
          refine lv_iconst (v := 1) hx hb dX9_many_40 (by decide) ?_
          refine lv_goto (tgt := 45) hx hb dX9_many_41 (by decide) ?_
          refine lv_iadd hx hb dX9_many_45 ?_
          obtain ⟨x6, ex6, hf⟩ := bnd_e hf
          refine w_nm ex6 ?_
          refine lv_istore_n (lv' := [(2, .int x6), (0, .ref (a 0)), (1, .int x_1), (3, .int x_3)]) hx hb dX9_many_46 rfl hl (by decide) rfl (fun ls hl => ?_)
          obtain ⟨x7, ex7, hf⟩ := bnd_e hf
          refine lv_iinc (v := x7) (lv' := [(3, .int x7), (2, .int x6), (0, .ref (a 0)), (1, .int x_1)]) hx hb dX9_many_47 hl (k := 3) rfl (by rw [ex7]; rfl) (by decide) rfl (fun ls hl => ?_)
          refine lv_goto (tgt := 22) hx hb dX9_many_50 (by decide) ?_
          exact ih22 x_1 x6 x7 st _ _ _ hP hS (lv_sub hl [2, 3, 1, 0] rfl) hf
  unfold fX9_many at hf
  refine lv_aload_n hx hb dX9_many_0 rfl (lv_at hl 0 rfl) ?_
  obtain ⟨o8, ho8, hf⟩ := ob_e hf
  refine w_callW (b := a 0) (As := []) (rest := []) ⟨hx, hb, hml, hown, hts⟩ (c_X9_finds l D cI cB a tb st o8 ho8) (cwV 0 hts gX9_many_X9_finds rfl rfl rfl (by decide +kernel) ⟨Nat.le_of_ble_eq_true rfl, Nat.le_of_ble_eq_true rfl⟩) hP hK hD hZ hS (va_recv hK hP (ci := 7) (q0 := 0) rfl rfl) rfl hl.1 rfl (Nat.le_of_ble_eq_true rfl) ⟨Nat.zero_le _, Nat.zero_le _⟩ dX9_many_1 (fun H locs hP hS => ?_)
  refine lv_if_eq (tgt := 16) hx hb dX9_many_4 (by decide) (fun c9 => ?_) (fun c9 => ?_)
  · replace hf := if_t hf c9
    refine lv_iconst (v := -1) hx hb dX9_many_16 (by decide) ?_
    exact W.iret (v := (-1)) hx hb hr (fun t ht _ => ⟨⟨(-1), o8.2, rfl, so_p hf, p_at ht hP⟩, hS.F ht⟩) hS.2.2 dX9_many_17
  · replace hf := if_f hf c9
    refine lv_iload_n hx hb dX9_many_7 rfl (lv_at hl 1 rfl) ?_
    refine lv_iconst (v := 0) hx hb dX9_many_8 (by decide) ?_
    refine lv_iconst (v := 3) hx hb dX9_many_9 (by decide) ?_
    obtain ⟨o10, ho10, hf⟩ := ob_e hf
    refine w_callT (As := [.int p1, .int 0, .int 3]) (rest := []) ⟨hx, hb, hml, hown, hts⟩ (c_X9_isIn l tb p1 0 3 o10 ho10) (va_cwS 3 hts gX9_many_X9_isIn rfl rfl rfl (by decide +kernel) ⟨Nat.le_of_ble_eq_true rfl, Nat.le_of_ble_eq_true rfl⟩) hZ hS rfl hl.1 rfl (Nat.le_of_ble_eq_true rfl) ⟨Nat.zero_le _, Nat.zero_le _⟩ dX9_many_10 ?_
    refine lv_if_ne (tgt := 18) hx hb dX9_many_13 (by decide) (fun c11 => ?_) (fun c11 => ?_)
    · replace hf := if_f hf c11
      refine lv_iconst (v := 0) hx hb dX9_many_18 (by decide) ?_
      refine lv_istore_n (lv' := [(2, .int 0), (0, .ref (a 0)), (1, .int p1)]) hx hb dX9_many_19 rfl hl (by decide) rfl (fun ls hl => ?_)
      refine lv_iconst (v := 0) hx hb dX9_many_20 (by decide) ?_
      refine lv_istore_n (lv' := [(3, .int 0), (2, .int 0), (0, .ref (a 0)), (1, .int p1)]) hx hb dX9_many_21 rfl hl (by decide) rfl (fun ls hl => ?_)
      exact l22 1000 p1 0 0 o8.2 _ _ _ hP hS (lv_sub hl [2, 3, 1, 0] rfl) hf
    · replace hf := if_t hf c11
      refine lv_iconst (v := -1) hx hb dX9_many_16 (by decide) ?_
      exact W.iret (v := (-1)) hx hb hr (fun t ht _ => ⟨⟨(-1), o8.2, rfl, so_p hf, p_at ht hP⟩, hS.F ht⟩) hS.2.2 dX9_many_17
set_option maxHeartbeats 4000000 in
set_option maxRecDepth 100000 in
theorem c_X9_spans (l : Launch) (D : va_G) (cI cB : ClassId) (a tb : Nat → Nat) (st : ST) (r : Int32 × ST) (hf : fX9_spans st = some r) : MetW l yX9_spans wsX9_spans ({ frames := 8, cells := 0, slots := 0, locals := 192 }) [.ref (a 0)] D [(cI, .int), (cB, .byte)] (mw cI cB a) (mA a) tb st r := by
  refine met_of (cc := cX9_spans) (maxL := 3) (ret := (some .int)) (by decide) rfl (Nat.le_of_ble_eq_true rfl) ?_
  intro p e s m below meth c hx hb hr hml hts hown hlk hG ls hl
  have hown : s.vm.findClass RX9 = some m.cls := hown
  obtain ⟨hP, hK, hD, hZ⟩ := hG
  have hS : va_S (mA a) s.heap s.heap [] := va_S.rf
  have hl : lv_has ls 3 [(0, .ref (a 0))] := hl
  have hiX9 : ∀ w ∈ wsX90, w ∈ wsX9_spans := by decide +kernel
  have k113 := hts (.fieldLink RX9 113 "DayColumnModel" "rows" "I") (by decide +kernel)
  have k48 := hts (.fieldLink RX9 48 "DayColumnModel" "best" "[I") (by decide +kernel)
  have l13 : ∀ (n : Nat) (x_1 x_2 : Int32) (st : ST) (H : Heap) (locs : List Loc) (ls : Array Slot), va_P D vwCl (mw cI cB a st) H → va_S (mA a) s.heap H locs → lv_has ls 3 [(0, .ref (a 0)), (1, .int x_1), (2, .int x_2)] → fX9_spans_13 n st x_1 x_2 = some r → W p l e ({ frames := 8, cells := 0, slots := 0, locals := 192 }) s m ([.ref (a 0)] : List Value).toArray below meth c H locs 0 0 (MQ below (va_Qi (fun (z : Int32) (u : ST) => z = r.1 ∧ u = r.2) (fun u t => va_P D vwCl (mw cI cB a u) t.heap) (mA a)) ([.ref (a 0)] : List Value).toArray s 0 0 (mA a)) (F0 m 13 ls []) := by
    intro n
    induction n with
    | zero =>
      intro x_1 x_2 st H locs ls hP hS hl hf
      cases hf
    | succ n ih13 =>
      intro x_1 x_2 st H locs ls hP hS hl hf
      unfold fX9_spans_13 at hf
      refine lv_iload_n hx hb dX9_spans_13 rfl (lv_at hl 2 rfl) ?_
      refine lv_aload_n hx hb dX9_spans_14 rfl (lv_at hl 0 rfl) ?_
      refine va_get (D := D) (ci := 7) (v := .int (st.1 10)) (C := RX9) (T := TX9) (N := 27) hx hb hts hiX9 hown hK hP 0 rfl rfl 10 (by decide) k113 (fun _ h9 => h9) rfl dX9_spans_15 ?_
      refine lv_icmp_ge (tgt := 52) hx hb dX9_spans_18 (by decide) (fun c1 => ?_) (fun c1 => ?_)
      · replace hf := if_t hf c1
        refine lv_iload_n hx hb dX9_spans_52 rfl (lv_at hl 1 rfl) ?_
        exact W.iret (v := x_1) hx hb hr (fun t ht _ => ⟨⟨x_1, st, rfl, so_p hf, p_at ht hP⟩, hS.F ht⟩) hS.2.2 dX9_spans_53
      · replace hf := if_f hf c1
        refine lv_iload_n hx hb dX9_spans_21 rfl (lv_at hl 1 rfl) ?_
        refine lv_aload_n hx hb dX9_spans_22 rfl (lv_at hl 0 rfl) ?_
        refine va_get (D := D) (ci := 7) (v := .ref (a 12)) (C := RX9) (T := TX9) (N := 27) hx hb hts hiX9 hown hK hP 0 rfl rfl 23 (by decide) k48 (fun _ h9 => h9) rfl dX9_spans_23 ?_
        refine lv_iload_n hx hb dX9_spans_26 rfl (lv_at hl 2 rfl) ?_
        obtain ⟨hi2, hf⟩ := ix_e hf
        refine va_iald hx hb hK hP 12 0 rfl rfl hi2 dX9_spans_27 ?_
        refine lv_aload_n hx hb dX9_spans_28 rfl (lv_at hl 0 rfl) ?_
        refine va_get (D := D) (ci := 7) (v := .ref (a 12)) (C := RX9) (T := TX9) (N := 27) hx hb hts hiX9 hown hK hP 0 rfl rfl 23 (by decide) k48 (fun _ h9 => h9) rfl dX9_spans_29 ?_
        refine lv_iload_n hx hb dX9_spans_32 rfl (lv_at hl 2 rfl) ?_
        refine lv_iconst (v := 1) hx hb dX9_spans_33 (by decide) ?_
        refine lv_isub hx hb dX9_spans_34 ?_
        obtain ⟨x3, ex3, hf⟩ := bnd_e hf
        refine w_nm ex3 ?_
        obtain ⟨hi4, hf⟩ := ix_e hf
        refine va_iald hx hb hK hP 12 0 rfl rfl hi4 dX9_spans_35 ?_
        refine lv_icmp_eq (tgt := 43) hx hb dX9_spans_36 (by decide) (fun c5 => ?_) (fun c5 => ?_)
        · replace hf := if_t hf c5
          refine lv_iconst (v := 0) hx hb dX9_spans_43 (by decide) ?_
          refine lv_iadd hx hb dX9_spans_44 ?_
          obtain ⟨x6, ex6, hf⟩ := bnd_e hf
          refine w_nm ex6 ?_
          refine lv_istore_n (lv' := [(1, .int x6), (0, .ref (a 0)), (2, .int x_2)]) hx hb dX9_spans_45 rfl hl (by decide) rfl (fun ls hl => ?_)
          obtain ⟨x7, ex7, hf⟩ := bnd_e hf
          refine lv_iinc (v := x7) (lv' := [(2, .int x7), (1, .int x6), (0, .ref (a 0))]) hx hb dX9_spans_46 hl (k := 2) rfl (by rw [ex7]; rfl) (by decide) rfl (fun ls hl => ?_)
          refine lv_goto (tgt := 13) hx hb dX9_spans_49 (by decide) ?_
          exact ih13 x6 x7 st _ _ _ hP hS (lv_sub hl [2, 1, 0] rfl) hf
        · replace hf := if_f hf c5
          refine lv_iconst (v := 1) hx hb dX9_spans_39 (by decide) ?_
          refine lv_goto (tgt := 44) hx hb dX9_spans_40 (by decide) ?_
          refine lv_iadd hx hb dX9_spans_44 ?_
          obtain ⟨x8, ex8, hf⟩ := bnd_e hf
          refine w_nm ex8 ?_
          refine lv_istore_n (lv' := [(1, .int x8), (0, .ref (a 0)), (2, .int x_2)]) hx hb dX9_spans_45 rfl hl (by decide) rfl (fun ls hl => ?_)
          obtain ⟨x9, ex9, hf⟩ := bnd_e hf
          refine lv_iinc (v := x9) (lv' := [(2, .int x9), (1, .int x8), (0, .ref (a 0))]) hx hb dX9_spans_46 hl (k := 2) rfl (by rw [ex9]; rfl) (by decide) rfl (fun ls hl => ?_)
          refine lv_goto (tgt := 13) hx hb dX9_spans_49 (by decide) ?_
          exact ih13 x8 x9 st _ _ _ hP hS (lv_sub hl [2, 1, 0] rfl) hf
  unfold fX9_spans at hf
  refine lv_aload_n hx hb dX9_spans_0 rfl (lv_at hl 0 rfl) ?_
  obtain ⟨o10, ho10, hf⟩ := ob_e hf
  refine w_callW (b := a 0) (As := []) (rest := []) ⟨hx, hb, hml, hown, hts⟩ (c_X9_finds l D cI cB a tb st o10 ho10) (cwV 0 hts gX9_spans_X9_finds rfl rfl rfl (by decide +kernel) ⟨Nat.le_of_ble_eq_true rfl, Nat.le_of_ble_eq_true rfl⟩) hP hK hD hZ hS (va_recv hK hP (ci := 7) (q0 := 0) rfl rfl) rfl hl.1 rfl (Nat.le_of_ble_eq_true rfl) ⟨Nat.zero_le _, Nat.zero_le _⟩ dX9_spans_1 (fun H locs hP hS => ?_)
  refine lv_if_ne (tgt := 9) hx hb dX9_spans_4 (by decide) (fun c11 => ?_) (fun c11 => ?_)
  · replace hf := if_f hf c11
    refine lv_iconst (v := 1) hx hb dX9_spans_9 (by decide) ?_
    refine lv_istore_n (lv' := [(1, .int 1), (0, .ref (a 0))]) hx hb dX9_spans_10 rfl hl (by decide) rfl (fun ls hl => ?_)
    refine lv_iconst (v := 1) hx hb dX9_spans_11 (by decide) ?_
    refine lv_istore_n (lv' := [(2, .int 1), (1, .int 1), (0, .ref (a 0))]) hx hb dX9_spans_12 rfl hl (by decide) rfl (fun ls hl => ?_)
    exact l13 1000 1 1 o10.2 _ _ _ hP hS (lv_sub hl [2, 1, 0] rfl) hf
  · replace hf := if_t hf c11
    refine lv_iconst (v := -1) hx hb dX9_spans_7 (by decide) ?_
    exact W.iret (v := (-1)) hx hb hr (fun t ht _ => ⟨⟨(-1), o10.2, rfl, so_p hf, p_at ht hP⟩, hS.F ht⟩) hS.2.2 dX9_spans_8
