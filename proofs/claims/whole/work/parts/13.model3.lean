set_option maxHeartbeats 4000000 in
set_option maxRecDepth 100000 in
theorem c_X9_puts (l : Launch) (D : va_G) (cI cB : ClassId) (a tb : Nat → Nat) (st : ST) (p1 : Int32) (r : ST) (hf : fX9_puts st p1 = some r) : MetV l yX9_puts wsX9_puts ({ frames := 0, cells := 0, slots := 0, locals := 0 }) [.ref (a 0), .int p1] D [(cI, .int), (cB, .byte)] (mw cI cB a) (mA a) tb st r := by
  refine met_of (cc := cX9_puts) (maxL := 2) (ret := none) (by decide) rfl (Nat.le_of_ble_eq_true rfl) ?_
  intro p e s m below meth c hx hb hr hml hts hown hlk hG ls hl
  have hown : s.vm.findClass RX9 = some m.cls := hown
  obtain ⟨hP, hK, hD, hZ⟩ := hG
  have hS : va_S (mA a) s.heap s.heap [] := va_S.rf
  have hl : lv_has ls 2 [(0, .ref (a 0)), (1, .int p1)] := hl
  have hiX9 : ∀ w ∈ wsX90, w ∈ wsX9_puts := by decide +kernel
  have k200 := hts (.fieldLink RX9 200 "DayColumnModel" "writtenLong" "I") (by decide +kernel)
  have k51 := hts (.fieldLink RX9 51 "DayColumnModel" "written" "[B") (by decide +kernel)
  unfold fX9_puts at hf
  refine lv_aload_n hx hb dX9_puts_0 rfl (lv_at hl 0 rfl) ?_
  refine va_get (D := D) (ci := 7) (v := .ref (a 13)) (C := RX9) (T := TX9) (N := 27) hx hb hts hiX9 hown hK hP 0 rfl rfl 25 (by decide) k51 (fun _ h9 => h9) rfl dX9_puts_1 ?_
  refine lv_aload_n hx hb dX9_puts_4 rfl (lv_at hl 0 rfl) ?_
  refine va_get (D := D) (ci := 7) (v := .int (st.1 26)) (C := RX9) (T := TX9) (N := 27) hx hb hts hiX9 hown hK hP 0 rfl rfl 26 (by decide) k200 (fun _ h9 => h9) rfl dX9_puts_5 ?_
  refine lv_iload_n hx hb dX9_puts_8 rfl (lv_at hl 1 rfl) ?_
  refine lv_i2b hx hb dX9_puts_9 rfl ?_
  obtain ⟨x1, ex1, hf⟩ := bnd_e hf
  refine w_nm ex1 ?_
  obtain ⟨x2, ex2, hf⟩ := bnd_e hf
  refine w_nm2 ex2 ?_
  obtain ⟨hi3, hf⟩ := ix_e hf
  obtain ⟨s4, es4, hf⟩ := bnd_e hf
  refine va_bast hx hb hK hP (hD st) hS 13 1 rfl rfl hi3 dX9_puts_10 (fun H locs hP _ hS => ?_)
  have hP : va_P D vwCl (mw cI cB a s4) H := by rw [es4]; exact hP
  refine lv_aload_n hx hb dX9_puts_11 rfl (lv_at hl 0 rfl) ?_
  refine lv_dup hx hb dX9_puts_12 rfl ?_
  refine va_get (D := D) (ci := 7) (v := .int (s4.1 26)) (C := RX9) (T := TX9) (N := 27) hx hb hts hiX9 hown hK hP 0 rfl rfl 26 (by decide) k200 (fun _ h9 => h9) rfl dX9_puts_13 ?_
  refine lv_iconst (v := 1) hx hb dX9_puts_16 (by decide) ?_
  refine lv_iadd hx hb dX9_puts_17 ?_
  obtain ⟨x5, ex5, hf⟩ := bnd_e hf
  refine w_nm ex5 ?_
  obtain ⟨s6, es6, hf⟩ := bnd_e hf
  refine va_put (D := D) (ci := 7) (v := .int x5) (ty := .int) (C := RX9) (T := TX9) (N := 27) hx hb hts hiX9 tyX9 tyX9_ok nmX9 hown hK hP (hD s4) hS 0 rfl rfl 26 (by decide) k200 (fun _ h9 => h9) rfl (by decide +kernel) rfl rfl (Nat.le_of_ble_eq_true rfl) dX9_puts_18 (fun H locs hP _ hS => ?_)
  have hP : va_P D vwCl (mw cI cB a s6) H := by rw [es6]; exact hP
  exact W.vret hx hb hr (fun t ht _ => ⟨⟨s6, rfl, so_i hf, p_at ht hP⟩, hS.F ht⟩) hS.2.2 dX9_puts_21
set_option maxHeartbeats 4000000 in
set_option maxRecDepth 100000 in
theorem c_X9_figures (l : Launch) (D : va_G) (cI cB : ClassId) (a tb : Nat → Nat) (st : ST) (p1 p2 : Int32) (r : ST) (hf : fX9_figures st p1 p2 = some r) : MetV l yX9_figures wsX9_figures ({ frames := 1, cells := 0, slots := 0, locals := 21 }) [.ref (a 0), .int p1, .int p2] D [(cI, .int), (cB, .byte)] (mw cI cB a) (mA a) tb st r := by
  refine met_of (cc := cX9_figures) (maxL := 6) (ret := none) (by decide) rfl (Nat.le_of_ble_eq_true rfl) ?_
  intro p e s m below meth c hx hb hr hml hts hown hlk hG ls hl
  have hown : s.vm.findClass RX9 = some m.cls := hown
  obtain ⟨hP, hK, hD, hZ⟩ := hG
  have hS : va_S (mA a) s.heap s.heap [] := va_S.rf
  have hl : lv_has ls 6 [(0, .ref (a 0)), (1, .int p1), (2, .int p2)] := hl
  have l37 : ∀ (n : Nat) (x_1 x_5 : Int32) (st : ST) (H : Heap) (locs : List Loc) (ls : Array Slot), va_P D vwCl (mw cI cB a st) H → va_S (mA a) s.heap H locs → lv_has ls 6 [(0, .ref (a 0)), (1, .int x_1), (5, .int x_5)] → fX9_figures_37 n st x_1 x_5 = some r → W p l e ({ frames := 1, cells := 0, slots := 0, locals := 21 }) s m ([.ref (a 0), .int p1, .int p2] : List Value).toArray below meth c H locs 0 0 (MQ below (va_Qv (fun (u : ST) => u = r) (fun u t => va_P D vwCl (mw cI cB a u) t.heap) (mA a)) ([.ref (a 0), .int p1, .int p2] : List Value).toArray s 0 0 (mA a)) (F0 m 37 ls []) := by
    intro n
    induction n with
    | zero =>
      intro x_1 x_5 st H locs ls hP hS hl hf
      cases hf
    | succ n ih37 =>
      intro x_1 x_5 st H locs ls hP hS hl hf
      unfold fX9_figures_37 at hf
      refine lv_iload hx hb dX9_figures_37 (lv_at hl 2 rfl) ?_
      refine lv_if_le (tgt := 66) hx hb dX9_figures_39 (by decide) (fun c1 => ?_) (fun c1 => ?_)
      · replace hf := if_t hf c1
        exact W.vret hx hb hr (fun t ht _ => ⟨⟨st, rfl, so_i hf, p_at ht hP⟩, hS.F ht⟩) hS.2.2 dX9_figures_66
      · replace hf := if_f hf c1
        refine lv_aload_n hx hb dX9_figures_42 rfl (lv_at hl 0 rfl) ?_
        refine lv_bipush (v := 48) hx hb dX9_figures_43 (by decide) ?_
        refine lv_iload_n hx hb dX9_figures_45 rfl (lv_at hl 1 rfl) ?_
        refine lv_iload hx hb dX9_figures_46 (lv_at hl 2 rfl) ?_
        obtain ⟨hz2, hf⟩ := nz_e hf
        refine lv_idiv hx hb dX9_figures_48 hz2 ?_
        refine lv_bipush (v := 10) hx hb dX9_figures_49 (by decide) ?_
        refine lv_irem hx hb dX9_figures_51 (by decide) ?_
        refine lv_iadd hx hb dX9_figures_52 ?_
        obtain ⟨o3, ho3, hf⟩ := ob_e hf
        refine w_callV (b := a 0) (As := [.int (48 + ((x_1 / x_5) - (x_1 / x_5) / 10 * 10))]) (rest := []) ⟨hx, hb, hml, hown, hts⟩ (c_X9_puts l D cI cB a tb st (48 + ((x_1 / x_5) - (x_1 / x_5) / 10 * 10)) o3 ho3) (cwV 1 hts gX9_figures_X9_puts rfl rfl rfl (by decide +kernel) ⟨Nat.le_of_ble_eq_true rfl, Nat.le_of_ble_eq_true rfl⟩) hP hK hD hZ hS (va_recv hK hP (ci := 7) (q0 := 0) rfl rfl) rfl hl.1 rfl (Nat.le_of_ble_eq_true rfl) ⟨Nat.zero_le _, Nat.zero_le _⟩ dX9_figures_53 (fun H locs hP hS => ?_)
        refine lv_iload hx hb dX9_figures_56 (lv_at hl 2 rfl) ?_
        refine lv_bipush (v := 10) hx hb dX9_figures_58 (by decide) ?_
        refine lv_idiv hx hb dX9_figures_60 (by decide) ?_
        obtain ⟨x4, ex4, hf⟩ := bnd_e hf
        refine w_nm ex4 ?_
        refine lv_istore (lv' := [(5, .int x4), (0, .ref (a 0)), (1, .int x_1)]) hx hb dX9_figures_61 hl (by decide) rfl (fun ls hl => ?_)
        refine lv_goto (tgt := 37) hx hb dX9_figures_63 (by decide) ?_
        exact ih37 x_1 x4 o3 _ _ _ hP hS (lv_sub hl [1, 2, 0] rfl) hf
  have l6 : ∀ (n : Nat) (x_1 x_2 x_3 x_4 : Int32) (st : ST) (H : Heap) (locs : List Loc) (ls : Array Slot), va_P D vwCl (mw cI cB a st) H → va_S (mA a) s.heap H locs → lv_has ls 6 [(0, .ref (a 0)), (1, .int x_1), (2, .int x_2), (3, .int x_3), (4, .int x_4)] → fX9_figures_6 n st x_1 x_2 x_3 x_4 = some r → W p l e ({ frames := 1, cells := 0, slots := 0, locals := 21 }) s m ([.ref (a 0), .int p1, .int p2] : List Value).toArray below meth c H locs 0 0 (MQ below (va_Qv (fun (u : ST) => u = r) (fun u t => va_P D vwCl (mw cI cB a u) t.heap) (mA a)) ([.ref (a 0), .int p1, .int p2] : List Value).toArray s 0 0 (mA a)) (F0 m 6 ls []) := by
    intro n
    induction n with
    | zero =>
      intro x_1 x_2 x_3 x_4 st H locs ls hP hS hl hf
      cases hf
    | succ n ih6 =>
      intro x_1 x_2 x_3 x_4 st H locs ls hP hS hl hf
      unfold fX9_figures_6 at hf
      refine lv_iload_n hx hb dX9_figures_6 rfl (lv_at hl 3 rfl) ?_
      refine lv_iload_n hx hb dX9_figures_7 rfl (lv_at hl 2 rfl) ?_
      refine lv_icmp_lt (tgt := 17) hx hb dX9_figures_8 (by decide) (fun c5 => ?_) (fun c5 => ?_)
      · replace hf := if_t hf c5
        obtain ⟨x6, ex6, hf⟩ := bnd_e hf
        refine lv_iinc (v := x6) (lv' := [(3, .int x6), (0, .ref (a 0)), (1, .int x_1), (2, .int x_2), (4, .int x_4)]) hx hb dX9_figures_17 hl (k := 3) rfl (by rw [ex6]; rfl) (by decide) rfl (fun ls hl => ?_)
        refine lv_iload hx hb dX9_figures_20 (lv_at hl 4 rfl) ?_
        refine lv_bipush (v := 10) hx hb dX9_figures_22 (by decide) ?_
        refine lv_imul hx hb dX9_figures_24 ?_
        obtain ⟨x7, ex7, hf⟩ := bnd_e hf
        refine w_nm ex7 ?_
        refine lv_istore (lv' := [(4, .int x7), (3, .int x6), (0, .ref (a 0)), (1, .int x_1), (2, .int x_2)]) hx hb dX9_figures_25 hl (by decide) rfl (fun ls hl => ?_)
        refine lv_goto (tgt := 6) hx hb dX9_figures_27 (by decide) ?_
        exact ih6 x_1 x_2 x6 x7 st _ _ _ hP hS (lv_sub hl [2, 3, 4, 1, 0] rfl) hf
      · replace hf := if_f hf c5
        refine lv_iload_n hx hb dX9_figures_11 rfl (lv_at hl 1 rfl) ?_
        refine lv_iload hx hb dX9_figures_12 (lv_at hl 4 rfl) ?_
        refine lv_icmp_lt (tgt := 30) hx hb dX9_figures_14 (by decide) (fun c8 => ?_) (fun c8 => ?_)
        · replace hf := if_t hf c8
          refine lv_iload hx hb dX9_figures_30 (lv_at hl 4 rfl) ?_
          refine lv_bipush (v := 10) hx hb dX9_figures_32 (by decide) ?_
          refine lv_idiv hx hb dX9_figures_34 (by decide) ?_
          obtain ⟨x9, ex9, hf⟩ := bnd_e hf
          refine w_nm ex9 ?_
          refine lv_istore (lv' := [(5, .int x9), (0, .ref (a 0)), (1, .int x_1), (2, .int x_2), (3, .int x_3), (4, .int x_4)]) hx hb dX9_figures_35 hl (by decide) rfl (fun ls hl => ?_)
          exact l37 1000 x_1 x9 st _ _ _ hP hS (lv_sub hl [1, 2, 0] rfl) hf
        · replace hf := if_f hf c8
          obtain ⟨x10, ex10, hf⟩ := bnd_e hf
          refine lv_iinc (v := x10) (lv' := [(3, .int x10), (0, .ref (a 0)), (1, .int x_1), (2, .int x_2), (4, .int x_4)]) hx hb dX9_figures_17 hl (k := 3) rfl (by rw [ex10]; rfl) (by decide) rfl (fun ls hl => ?_)
          refine lv_iload hx hb dX9_figures_20 (lv_at hl 4 rfl) ?_
          refine lv_bipush (v := 10) hx hb dX9_figures_22 (by decide) ?_
          refine lv_imul hx hb dX9_figures_24 ?_
          obtain ⟨x11, ex11, hf⟩ := bnd_e hf
          refine w_nm ex11 ?_
          refine lv_istore (lv' := [(4, .int x11), (3, .int x10), (0, .ref (a 0)), (1, .int x_1), (2, .int x_2)]) hx hb dX9_figures_25 hl (by decide) rfl (fun ls hl => ?_)
          refine lv_goto (tgt := 6) hx hb dX9_figures_27 (by decide) ?_
          exact ih6 x_1 x_2 x10 x11 st _ _ _ hP hS (lv_sub hl [2, 3, 4, 1, 0] rfl) hf
  unfold fX9_figures at hf
  refine lv_iconst (v := 1) hx hb dX9_figures_0 (by decide) ?_
  refine lv_istore_n (lv' := [(3, .int 1), (0, .ref (a 0)), (1, .int p1), (2, .int p2)]) hx hb dX9_figures_1 rfl hl (by decide) rfl (fun ls hl => ?_)
  refine lv_bipush (v := 10) hx hb dX9_figures_2 (by decide) ?_
  refine lv_istore (lv' := [(4, .int 10), (3, .int 1), (0, .ref (a 0)), (1, .int p1), (2, .int p2)]) hx hb dX9_figures_4 hl (by decide) rfl (fun ls hl => ?_)
  exact l6 1000 p1 p2 1 10 st _ _ _ hP hS (lv_sub hl [2, 3, 4, 1, 0] rfl) hf
set_option maxHeartbeats 4000000 in
set_option maxRecDepth 100000 in
theorem c_X9_writes (l : Launch) (D : va_G) (cI cB : ClassId) (a tb : Nat → Nat) (st : ST) (p1 p2 : Int32) (r : ST) (hf : fX9_writes st p1 p2 = some r) : MetV l yX9_writes wsX9_writes ({ frames := 4, cells := 0, slots := 0, locals := 91 }) [.ref (a 0), .int p1, .int p2] D [(cI, .int), (cB, .byte)] (mw cI cB a) (mA a) tb st r := by
  refine met_of (cc := cX9_writes) (maxL := 6) (ret := none) (by decide) rfl (Nat.le_of_ble_eq_true rfl) ?_
  intro p e s m below meth c hx hb hr hml hts hown hlk hG ls hl
  have hown : s.vm.findClass RX9 = some m.cls := hown
  obtain ⟨hP, hK, hD, hZ⟩ := hG
  have hS : va_S (mA a) s.heap s.heap [] := va_S.rf
  have hl : lv_has ls 6 [(0, .ref (a 0)), (1, .int p1), (2, .int p2)] := hl
  have hiX9 : ∀ w ∈ wsX90, w ∈ wsX9_writes := by decide +kernel
  have k13 := hts (.fieldLink RX9 13 "DayColumnModel" "style" "[B") (by decide +kernel)
  have k19 := hts (.fieldLink RX9 19 "DayColumnModel" "styleLong" "[I") (by decide +kernel)
  have k200 := hts (.fieldLink RX9 200 "DayColumnModel" "writtenLong" "I") (by decide +kernel)
  have k76 := hts (.fieldLink RX9 76 "DayColumnModel" "partYear" "I") (by decide +kernel)
  have k79 := hts (.fieldLink RX9 79 "DayColumnModel" "partMonth" "I") (by decide +kernel)
  have k82 := hts (.fieldLink RX9 82 "DayColumnModel" "partDay" "I") (by decide +kernel)
  have l188 : ∀ (n : Nat) (x_1 x_2 x_3 x_5 : Int32) (st : ST) (H : Heap) (locs : List Loc) (ls : Array Slot), va_P D vwCl (mw cI cB a st) H → va_S (mA a) s.heap H locs → lv_has ls 6 [(0, .ref (a 0)), (1, .int x_1), (2, .int x_2), (3, .int x_3), (5, .int x_5)] → ∀ (o : ST), fX9_writes_188 n st x_1 x_2 x_3 x_5 = some o → (∀ (H : Heap) (locs : List Loc) (ls : Array Slot), va_P D vwCl (mw cI cB a o) H → va_S (mA a) s.heap H locs → lv_has ls 6 [(0, .ref (a 0)), (1, .int x_1), (2, .int x_2), (3, .int x_3)] → W p l e ({ frames := 4, cells := 0, slots := 0, locals := 91 }) s m ([.ref (a 0), .int p1, .int p2] : List Value).toArray below meth c H locs 0 0 (MQ below (va_Qv (fun (u : ST) => u = r) (fun u t => va_P D vwCl (mw cI cB a u) t.heap) (mA a)) ([.ref (a 0), .int p1, .int p2] : List Value).toArray s 0 0 (mA a)) (F0 m 218 ls [])) → W p l e ({ frames := 4, cells := 0, slots := 0, locals := 91 }) s m ([.ref (a 0), .int p1, .int p2] : List Value).toArray below meth c H locs 0 0 (MQ below (va_Qv (fun (u : ST) => u = r) (fun u t => va_P D vwCl (mw cI cB a u) t.heap) (mA a)) ([.ref (a 0), .int p1, .int p2] : List Value).toArray s 0 0 (mA a)) (F0 m 188 ls []) := by
    intro n
    induction n with
    | zero =>
      intro x_1 x_2 x_3 x_5 st H locs ls hP hS hl o hf kk
      cases hf
    | succ n ih188 =>
      intro x_1 x_2 x_3 x_5 st H locs ls hP hS hl o hf kk
      unfold fX9_writes_188 at hf
      refine lv_iload hx hb dX9_writes_188 (lv_at hl 4 rfl) ?_
      refine lv_iconst (v := 3) hx hb dX9_writes_190 (by decide) ?_
      refine lv_icmp_ge (tgt := 218) hx hb dX9_writes_191 (by decide) (fun c1 => ?_) (fun c1 => ?_)
      · replace hf := if_t hf c1
        obtain rfl := so_i hf
        exact kk _ _ _ hP hS (lv_sub hl [0, 1, 2, 3] rfl)
      · replace hf := if_f hf c1
        refine lv_aload_n hx hb dX9_writes_194 rfl (lv_at hl 0 rfl) ?_
        refine va_ldcS hx hb hown hZ.2.2.2.1.2 dX9_writes_195 ?_
        refine lv_iconst (v := 3) hx hb dX9_writes_197 (by decide) ?_
        refine lv_iload_n hx hb dX9_writes_198 rfl (lv_at hl 1 rfl) ?_
        refine lv_bipush (v := 7) hx hb dX9_writes_199 (by decide) ?_
        refine lv_irem hx hb dX9_writes_201 (by decide) ?_
        refine lv_imul hx hb dX9_writes_202 ?_
        refine lv_iload hx hb dX9_writes_203 (lv_at hl 4 rfl) ?_
        refine lv_iadd hx hb dX9_writes_205 ?_
        obtain ⟨o2, ho2, hf⟩ := ob_e hf
        refine w_callS (b := tb 4) (As := [.int ((3 * (x_1 - x_1 / 7 * 7)) + x_5)]) (rest := [.ref (a 0)]) ⟨hx, hb, hml, hown, hts⟩ (c_J0_charAt_5068e_4 l tb ((3 * (x_1 - x_1 / 7 * 7)) + x_5) o2 ho2) (cwV 1 hts gX9_writes_J0_charAt_5068e rfl rfl rfl (by decide +kernel) ⟨Nat.le_of_ble_eq_true rfl, Nat.le_of_ble_eq_true rfl⟩) hZ hS (vk_recv (adK := fun i => tb (3 + i)) (i := 1) hZ.2.2.2.2.1 (by decide) hS) rfl hl.1 rfl (Nat.le_of_ble_eq_true rfl) ⟨Nat.zero_le _, Nat.zero_le _⟩ dX9_writes_206 ?_
        obtain ⟨o3, ho3, hf⟩ := ob_e hf
        refine w_callV (b := a 0) (As := [.int o2]) (rest := []) ⟨hx, hb, hml, hown, hts⟩ (c_X9_puts l D cI cB a tb st o2 o3 ho3) (cwV 1 hts gX9_writes_X9_puts rfl rfl rfl (by decide +kernel) ⟨Nat.le_of_ble_eq_true rfl, Nat.le_of_ble_eq_true rfl⟩) hP hK hD hZ hS (va_recv hK hP (ci := 7) (q0 := 0) rfl rfl) rfl hl.1 rfl (Nat.le_of_ble_eq_true rfl) ⟨Nat.zero_le _, Nat.zero_le _⟩ dX9_writes_209 (fun H locs hP hS => ?_)
        obtain ⟨x4, ex4, hf⟩ := bnd_e hf
        refine lv_iinc (v := x4) (lv' := [(5, .int x4), (0, .ref (a 0)), (1, .int x_1), (2, .int x_2), (3, .int x_3)]) hx hb dX9_writes_212 hl (k := 4) rfl (by rw [ex4]; rfl) (by decide) rfl (fun ls hl => ?_)
        refine lv_goto (tgt := 188) hx hb dX9_writes_215 (by decide) ?_
        exact ih188 x_1 x_2 x_3 x4 o3 _ _ _ hP hS (lv_sub hl [1, 2, 3, 4, 0] rfl) _ hf kk
  have l150 : ∀ (n : Nat) (x_1 x_2 x_3 x_5 : Int32) (st : ST) (H : Heap) (locs : List Loc) (ls : Array Slot), va_P D vwCl (mw cI cB a st) H → va_S (mA a) s.heap H locs → lv_has ls 6 [(0, .ref (a 0)), (1, .int x_1), (2, .int x_2), (3, .int x_3), (5, .int x_5)] → ∀ (o : ST), fX9_writes_150 n st x_1 x_2 x_3 x_5 = some o → (∀ (H : Heap) (locs : List Loc) (ls : Array Slot), va_P D vwCl (mw cI cB a o) H → va_S (mA a) s.heap H locs → lv_has ls 6 [(0, .ref (a 0)), (1, .int x_1), (2, .int x_2), (3, .int x_3)] → W p l e ({ frames := 4, cells := 0, slots := 0, locals := 91 }) s m ([.ref (a 0), .int p1, .int p2] : List Value).toArray below meth c H locs 0 0 (MQ below (va_Qv (fun (u : ST) => u = r) (fun u t => va_P D vwCl (mw cI cB a u) t.heap) (mA a)) ([.ref (a 0), .int p1, .int p2] : List Value).toArray s 0 0 (mA a)) (F0 m 182 ls [])) → W p l e ({ frames := 4, cells := 0, slots := 0, locals := 91 }) s m ([.ref (a 0), .int p1, .int p2] : List Value).toArray below meth c H locs 0 0 (MQ below (va_Qv (fun (u : ST) => u = r) (fun u t => va_P D vwCl (mw cI cB a u) t.heap) (mA a)) ([.ref (a 0), .int p1, .int p2] : List Value).toArray s 0 0 (mA a)) (F0 m 150 ls []) := by
    intro n
    induction n with
    | zero =>
      intro x_1 x_2 x_3 x_5 st H locs ls hP hS hl o hf kk
      cases hf
    | succ n ih150 =>
      intro x_1 x_2 x_3 x_5 st H locs ls hP hS hl o hf kk
      unfold fX9_writes_150 at hf
      refine lv_iload hx hb dX9_writes_150 (lv_at hl 4 rfl) ?_
      refine lv_iconst (v := 3) hx hb dX9_writes_152 (by decide) ?_
      refine lv_icmp_ge (tgt := 182) hx hb dX9_writes_153 (by decide) (fun c5 => ?_) (fun c5 => ?_)
      · replace hf := if_t hf c5
        obtain rfl := so_i hf
        exact kk _ _ _ hP hS (lv_sub hl [0, 1, 2, 3] rfl)
      · replace hf := if_f hf c5
        refine lv_aload_n hx hb dX9_writes_156 rfl (lv_at hl 0 rfl) ?_
        refine va_ldcS hx hb hown hZ.2.2.2.1.1 dX9_writes_157 ?_
        refine lv_iconst (v := 3) hx hb dX9_writes_159 (by decide) ?_
        refine lv_aload_n hx hb dX9_writes_160 rfl (lv_at hl 0 rfl) ?_
        refine va_get (D := D) (ci := 7) (v := .int (st.1 13)) (C := RX9) (T := TX9) (N := 27) hx hb hts hiX9 hown hK hP 0 rfl rfl 13 (by decide) k79 (fun _ h9 => h9) rfl dX9_writes_161 ?_
        refine lv_imul hx hb dX9_writes_164 ?_
        refine lv_iconst (v := 3) hx hb dX9_writes_165 (by decide) ?_
        refine lv_isub hx hb dX9_writes_166 ?_
        refine lv_iload hx hb dX9_writes_167 (lv_at hl 4 rfl) ?_
        refine lv_iadd hx hb dX9_writes_169 ?_
        obtain ⟨o6, ho6, hf⟩ := ob_e hf
        refine w_callS (b := tb 3) (As := [.int (((3 * (st.1 13)) - 3) + x_5)]) (rest := [.ref (a 0)]) ⟨hx, hb, hml, hown, hts⟩ (c_J0_charAt_5068e_3 l tb (((3 * (st.1 13)) - 3) + x_5) o6 ho6) (cwV 1 hts gX9_writes_J0_charAt_5068e rfl rfl rfl (by decide +kernel) ⟨Nat.le_of_ble_eq_true rfl, Nat.le_of_ble_eq_true rfl⟩) hZ hS (vk_recv (adK := fun i => tb (3 + i)) (i := 0) hZ.2.2.2.2.1 (by decide) hS) rfl hl.1 rfl (Nat.le_of_ble_eq_true rfl) ⟨Nat.zero_le _, Nat.zero_le _⟩ dX9_writes_170 ?_
        obtain ⟨o7, ho7, hf⟩ := ob_e hf
        refine w_callV (b := a 0) (As := [.int o6]) (rest := []) ⟨hx, hb, hml, hown, hts⟩ (c_X9_puts l D cI cB a tb st o6 o7 ho7) (cwV 1 hts gX9_writes_X9_puts rfl rfl rfl (by decide +kernel) ⟨Nat.le_of_ble_eq_true rfl, Nat.le_of_ble_eq_true rfl⟩) hP hK hD hZ hS (va_recv hK hP (ci := 7) (q0 := 0) rfl rfl) rfl hl.1 rfl (Nat.le_of_ble_eq_true rfl) ⟨Nat.zero_le _, Nat.zero_le _⟩ dX9_writes_173 (fun H locs hP hS => ?_)
        obtain ⟨x8, ex8, hf⟩ := bnd_e hf
        refine lv_iinc (v := x8) (lv' := [(5, .int x8), (0, .ref (a 0)), (1, .int x_1), (2, .int x_2), (3, .int x_3)]) hx hb dX9_writes_176 hl (k := 4) rfl (by rw [ex8]; rfl) (by decide) rfl (fun ls hl => ?_)
        refine lv_goto (tgt := 150) hx hb dX9_writes_179 (by decide) ?_
        exact ih150 x_1 x_2 x_3 x8 o7 _ _ _ hP hS (lv_sub hl [1, 2, 3, 4, 0] rfl) _ hf kk
  have l12 : ∀ (n : Nat) (x_1 x_2 x_3 : Int32) (st : ST) (H : Heap) (locs : List Loc) (ls : Array Slot), va_P D vwCl (mw cI cB a st) H → va_S (mA a) s.heap H locs → lv_has ls 6 [(0, .ref (a 0)), (1, .int x_1), (2, .int x_2), (3, .int x_3)] → fX9_writes_12 n st x_1 x_2 x_3 = some r → W p l e ({ frames := 4, cells := 0, slots := 0, locals := 91 }) s m ([.ref (a 0), .int p1, .int p2] : List Value).toArray below meth c H locs 0 0 (MQ below (va_Qv (fun (u : ST) => u = r) (fun u t => va_P D vwCl (mw cI cB a u) t.heap) (mA a)) ([.ref (a 0), .int p1, .int p2] : List Value).toArray s 0 0 (mA a)) (F0 m 12 ls []) := by
    intro n
    induction n with
    | zero =>
      intro x_1 x_2 x_3 st H locs ls hP hS hl hf
      cases hf
    | succ n ih12 =>
      intro x_1 x_2 x_3 st H locs ls hP hS hl hf
      unfold fX9_writes_12 at hf
      refine lv_iload_n hx hb dX9_writes_12 rfl (lv_at hl 3 rfl) ?_
      refine lv_aload_n hx hb dX9_writes_13 rfl (lv_at hl 0 rfl) ?_
      refine va_get (D := D) (ci := 7) (v := .ref (a 4)) (C := RX9) (T := TX9) (N := 27) hx hb hts hiX9 hown hK hP 0 rfl rfl 4 (by decide) k19 (fun _ h9 => h9) rfl dX9_writes_14 ?_
      refine lv_iload_n hx hb dX9_writes_17 rfl (lv_at hl 2 rfl) ?_
      obtain ⟨hi9, hf⟩ := ix_e hf
      refine va_iald hx hb hK hP 4 0 rfl rfl hi9 dX9_writes_18 ?_
      refine lv_icmp_ge (tgt := 233) hx hb dX9_writes_19 (by decide) (fun c10 => ?_) (fun c10 => ?_)
      · replace hf := if_t hf c10
        exact W.vret hx hb hr (fun t ht _ => ⟨⟨st, rfl, so_i hf, p_at ht hP⟩, hS.F ht⟩) hS.2.2 dX9_writes_233
      · replace hf := if_f hf c10
        refine lv_aload_n hx hb dX9_writes_22 rfl (lv_at hl 0 rfl) ?_
        refine va_get (D := D) (ci := 7) (v := .ref (a 2)) (C := RX9) (T := TX9) (N := 27) hx hb hts hiX9 hown hK hP 0 rfl rfl 2 (by decide) k13 (fun _ h9 => h9) rfl dX9_writes_23 ?_
        refine lv_bipush (v := 24) hx hb dX9_writes_26 (by decide) ?_
        refine lv_iload_n hx hb dX9_writes_28 rfl (lv_at hl 2 rfl) ?_
        refine lv_imul hx hb dX9_writes_29 ?_
        refine lv_iload_n hx hb dX9_writes_30 rfl (lv_at hl 3 rfl) ?_
        refine lv_iadd hx hb dX9_writes_31 ?_
        obtain ⟨x11, ex11, hf⟩ := bnd_e hf
        refine w_nm ex11 ?_
        obtain ⟨hi12, hf⟩ := ix_e hf
        refine va_bald hx hb hK hP 2 1 rfl rfl hi12 dX9_writes_32 ?_
        obtain ⟨x13, ex13, hf⟩ := bnd_e hf
        refine w_nm ex13 ?_
        refine lv_istore (lv' := [(4, .int x13), (0, .ref (a 0)), (1, .int x_1), (2, .int x_2), (3, .int x_3)]) hx hb dX9_writes_33 hl (by decide) rfl (fun ls hl => ?_)
        refine lv_iload hx hb dX9_writes_35 (lv_at hl 0 rfl) ?_
        by_cases c14 : x13 = 68
        · replace hf := if_t hf c14
          refine lv_lookup (tgt := 96) (off := 59) hx hb dX9_writes_37 (by decide) (by rw [c14]; rfl) (by decide) ?_
          refine lv_aload_n hx hb dX9_writes_96 rfl (lv_at hl 1 rfl) ?_
          refine lv_aload_n hx hb dX9_writes_97 rfl (lv_at hl 1 rfl) ?_
          refine va_get (D := D) (ci := 7) (v := .int (st.1 12)) (C := RX9) (T := TX9) (N := 27) hx hb hts hiX9 hown hK hP 0 rfl rfl 12 (by decide) k82 (fun _ h9 => h9) rfl dX9_writes_98 ?_
          refine lv_iconst (v := 1) hx hb dX9_writes_101 (by decide) ?_
          obtain ⟨o15, ho15, hf⟩ := ob_e hf
          refine w_callV (b := a 0) (As := [.int (st.1 12), .int 1]) (rest := []) ⟨hx, hb, hml, hown, hts⟩ (c_X9_figures l D cI cB a tb st (st.1 12) 1 o15 ho15) (cwV 2 hts gX9_writes_X9_figures rfl rfl rfl (by decide +kernel) ⟨Nat.le_of_ble_eq_true rfl, Nat.le_of_ble_eq_true rfl⟩) hP hK hD hZ hS (va_recv hK hP (ci := 7) (q0 := 0) rfl rfl) rfl hl.1 rfl (Nat.le_of_ble_eq_true rfl) ⟨Nat.zero_le _, Nat.zero_le _⟩ dX9_writes_102 (fun H locs hP hS => ?_)
          refine lv_goto (tgt := 227) hx hb dX9_writes_105 (by decide) ?_
          obtain ⟨x16, ex16, hf⟩ := bnd_e hf
          refine lv_iinc (v := x16) (lv' := [(3, .int x16), (4, .int x13), (0, .ref (a 0)), (1, .int x_1), (2, .int x_2)]) hx hb dX9_writes_227 hl (k := 4) rfl (by rw [ex16]; rfl) (by decide) rfl (fun ls hl => ?_)
          refine lv_goto (tgt := 12) hx hb dX9_writes_230 (by decide) ?_
          exact ih12 x_1 x_2 x16 o15 _ _ _ hP hS (lv_sub hl [2, 3, 4, 0] rfl) hf
        · replace hf := if_f hf c14
          by_cases c17 : x13 = 77
          · replace hf := if_t hf c17
            refine lv_lookup (tgt := 108) (off := 71) hx hb dX9_writes_37 (by decide) (by rw [c17]; rfl) (by decide) ?_
            refine lv_aload_n hx hb dX9_writes_108 rfl (lv_at hl 1 rfl) ?_
            refine lv_aload_n hx hb dX9_writes_109 rfl (lv_at hl 1 rfl) ?_
            refine va_get (D := D) (ci := 7) (v := .int (st.1 13)) (C := RX9) (T := TX9) (N := 27) hx hb hts hiX9 hown hK hP 0 rfl rfl 13 (by decide) k79 (fun _ h9 => h9) rfl dX9_writes_110 ?_
            refine lv_iconst (v := 1) hx hb dX9_writes_113 (by decide) ?_
            obtain ⟨o18, ho18, hf⟩ := ob_e hf
            refine w_callV (b := a 0) (As := [.int (st.1 13), .int 1]) (rest := []) ⟨hx, hb, hml, hown, hts⟩ (c_X9_figures l D cI cB a tb st (st.1 13) 1 o18 ho18) (cwV 2 hts gX9_writes_X9_figures rfl rfl rfl (by decide +kernel) ⟨Nat.le_of_ble_eq_true rfl, Nat.le_of_ble_eq_true rfl⟩) hP hK hD hZ hS (va_recv hK hP (ci := 7) (q0 := 0) rfl rfl) rfl hl.1 rfl (Nat.le_of_ble_eq_true rfl) ⟨Nat.zero_le _, Nat.zero_le _⟩ dX9_writes_114 (fun H locs hP hS => ?_)
            refine lv_goto (tgt := 227) hx hb dX9_writes_117 (by decide) ?_
            obtain ⟨x19, ex19, hf⟩ := bnd_e hf
            refine lv_iinc (v := x19) (lv' := [(3, .int x19), (4, .int x13), (0, .ref (a 0)), (1, .int x_1), (2, .int x_2)]) hx hb dX9_writes_227 hl (k := 4) rfl (by rw [ex19]; rfl) (by decide) rfl (fun ls hl => ?_)
            refine lv_goto (tgt := 12) hx hb dX9_writes_230 (by decide) ?_
            exact ih12 x_1 x_2 x19 o18 _ _ _ hP hS (lv_sub hl [2, 3, 4, 0] rfl) hf
          · replace hf := if_f hf c17
            by_cases c20 : x13 = 78
            · replace hf := if_t hf c20
              refine lv_lookup (tgt := 147) (off := 110) hx hb dX9_writes_37 (by decide) (by rw [c20]; rfl) (by decide) ?_
              refine lv_iconst (v := 0) hx hb dX9_writes_147 (by decide) ?_
              refine lv_istore (lv' := [(5, .int 0), (4, .int x13), (0, .ref (a 0)), (1, .int x_1), (2, .int x_2), (3, .int x_3)]) hx hb dX9_writes_148 hl (by decide) rfl (fun ls hl => ?_)
              obtain ⟨o21, ho21, hf⟩ := ob_e hf
              refine l150 1000 x_1 x_2 x_3 0 st _ _ _ hP hS (lv_sub hl [2, 3, 4, 5, 0] rfl) _ ho21 ?_
              intro H locs ls hP hS hl
              have hl : lv_has ls 6 [(0, .ref (a 0)), (1, .int x_1), (2, .int x_2), (3, .int x_3)] := hl
              refine lv_goto (tgt := 227) hx hb dX9_writes_182 (by decide) ?_
              obtain ⟨x22, ex22, hf⟩ := bnd_e hf
              refine lv_iinc (v := x22) (lv' := [(3, .int x22), (0, .ref (a 0)), (1, .int x_1), (2, .int x_2)]) hx hb dX9_writes_227 hl (k := 3) rfl (by rw [ex22]; rfl) (by decide) rfl (fun ls hl => ?_)
              refine lv_goto (tgt := 12) hx hb dX9_writes_230 (by decide) ?_
              exact ih12 x_1 x_2 x22 o21 _ _ _ hP hS (lv_sub hl [1, 2, 3, 0] rfl) hf
            · replace hf := if_f hf c20
              by_cases c23 : x13 = 87
              · replace hf := if_t hf c23
                refine lv_lookup (tgt := 185) (off := 148) hx hb dX9_writes_37 (by decide) (by rw [c23]; rfl) (by decide) ?_
                refine lv_iconst (v := 0) hx hb dX9_writes_185 (by decide) ?_
                refine lv_istore (lv' := [(5, .int 0), (4, .int x13), (0, .ref (a 0)), (1, .int x_1), (2, .int x_2), (3, .int x_3)]) hx hb dX9_writes_186 hl (by decide) rfl (fun ls hl => ?_)
                obtain ⟨o24, ho24, hf⟩ := ob_e hf
                refine l188 1000 x_1 x_2 x_3 0 st _ _ _ hP hS (lv_sub hl [2, 3, 4, 5, 0] rfl) _ ho24 ?_
                intro H locs ls hP hS hl
                have hl : lv_has ls 6 [(0, .ref (a 0)), (1, .int x_1), (2, .int x_2), (3, .int x_3)] := hl
                refine lv_goto (tgt := 227) hx hb dX9_writes_218 (by decide) ?_
                obtain ⟨x25, ex25, hf⟩ := bnd_e hf
                refine lv_iinc (v := x25) (lv' := [(3, .int x25), (0, .ref (a 0)), (1, .int x_1), (2, .int x_2)]) hx hb dX9_writes_227 hl (k := 3) rfl (by rw [ex25]; rfl) (by decide) rfl (fun ls hl => ?_)
                refine lv_goto (tgt := 12) hx hb dX9_writes_230 (by decide) ?_
                exact ih12 x_1 x_2 x25 o24 _ _ _ hP hS (lv_sub hl [1, 2, 3, 0] rfl) hf
              · replace hf := if_f hf c23
                by_cases c26 : x13 = 89
                · replace hf := if_t hf c26
                  refine lv_lookup (tgt := 120) (off := 83) hx hb dX9_writes_37 (by decide) (by rw [c26]; rfl) (by decide) ?_
                  refine lv_aload_n hx hb dX9_writes_120 rfl (lv_at hl 1 rfl) ?_
                  refine lv_aload_n hx hb dX9_writes_121 rfl (lv_at hl 1 rfl) ?_
                  refine va_get (D := D) (ci := 7) (v := .int (st.1 14)) (C := RX9) (T := TX9) (N := 27) hx hb hts hiX9 hown hK hP 0 rfl rfl 14 (by decide) k76 (fun _ h9 => h9) rfl dX9_writes_122 ?_
                  refine lv_iconst (v := 4) hx hb dX9_writes_125 (by decide) ?_
                  obtain ⟨o27, ho27, hf⟩ := ob_e hf
                  refine w_callV (b := a 0) (As := [.int (st.1 14), .int 4]) (rest := []) ⟨hx, hb, hml, hown, hts⟩ (c_X9_figures l D cI cB a tb st (st.1 14) 4 o27 ho27) (cwV 2 hts gX9_writes_X9_figures rfl rfl rfl (by decide +kernel) ⟨Nat.le_of_ble_eq_true rfl, Nat.le_of_ble_eq_true rfl⟩) hP hK hD hZ hS (va_recv hK hP (ci := 7) (q0 := 0) rfl rfl) rfl hl.1 rfl (Nat.le_of_ble_eq_true rfl) ⟨Nat.zero_le _, Nat.zero_le _⟩ dX9_writes_126 (fun H locs hP hS => ?_)
                  refine lv_goto (tgt := 227) hx hb dX9_writes_129 (by decide) ?_
                  obtain ⟨x28, ex28, hf⟩ := bnd_e hf
                  refine lv_iinc (v := x28) (lv' := [(3, .int x28), (4, .int x13), (0, .ref (a 0)), (1, .int x_1), (2, .int x_2)]) hx hb dX9_writes_227 hl (k := 4) rfl (by rw [ex28]; rfl) (by decide) rfl (fun ls hl => ?_)
                  refine lv_goto (tgt := 12) hx hb dX9_writes_230 (by decide) ?_
                  exact ih12 x_1 x_2 x28 o27 _ _ _ hP hS (lv_sub hl [2, 3, 4, 0] rfl) hf
                · replace hf := if_f hf c26
                  by_cases c29 : x13 = 121
                  · replace hf := if_t hf c29
                    refine lv_lookup (tgt := 132) (off := 95) hx hb dX9_writes_37 (by decide) (by rw [c29]; rfl) (by decide) ?_
                    refine lv_aload_n hx hb dX9_writes_132 rfl (lv_at hl 1 rfl) ?_
                    refine lv_aload_n hx hb dX9_writes_133 rfl (lv_at hl 1 rfl) ?_
                    refine va_get (D := D) (ci := 7) (v := .int (st.1 14)) (C := RX9) (T := TX9) (N := 27) hx hb hts hiX9 hown hK hP 0 rfl rfl 14 (by decide) k76 (fun _ h9 => h9) rfl dX9_writes_134 ?_
                    refine lv_bipush (v := 100) hx hb dX9_writes_137 (by decide) ?_
                    refine lv_irem hx hb dX9_writes_139 (by decide) ?_
                    refine lv_iconst (v := 2) hx hb dX9_writes_140 (by decide) ?_
                    obtain ⟨o30, ho30, hf⟩ := ob_e hf
                    refine w_callV (b := a 0) (As := [.int ((st.1 14) - (st.1 14) / 100 * 100), .int 2]) (rest := []) ⟨hx, hb, hml, hown, hts⟩ (c_X9_figures l D cI cB a tb st ((st.1 14) - (st.1 14) / 100 * 100) 2 o30 ho30) (cwV 2 hts gX9_writes_X9_figures rfl rfl rfl (by decide +kernel) ⟨Nat.le_of_ble_eq_true rfl, Nat.le_of_ble_eq_true rfl⟩) hP hK hD hZ hS (va_recv hK hP (ci := 7) (q0 := 0) rfl rfl) rfl hl.1 rfl (Nat.le_of_ble_eq_true rfl) ⟨Nat.zero_le _, Nat.zero_le _⟩ dX9_writes_141 (fun H locs hP hS => ?_)
                    refine lv_goto (tgt := 227) hx hb dX9_writes_144 (by decide) ?_
                    obtain ⟨x31, ex31, hf⟩ := bnd_e hf
                    refine lv_iinc (v := x31) (lv' := [(3, .int x31), (4, .int x13), (0, .ref (a 0)), (1, .int x_1), (2, .int x_2)]) hx hb dX9_writes_227 hl (k := 4) rfl (by rw [ex31]; rfl) (by decide) rfl (fun ls hl => ?_)
                    refine lv_goto (tgt := 12) hx hb dX9_writes_230 (by decide) ?_
                    exact ih12 x_1 x_2 x31 o30 _ _ _ hP hS (lv_sub hl [2, 3, 4, 0] rfl) hf
                  · replace hf := if_f hf c29
                    refine lv_lookup (tgt := 221) (off := 184) hx hb dX9_writes_37 (by decide) ((lv_osw c14 (by decide)).trans ((lv_osw c17 (by decide)).trans ((lv_osw c20 (by decide)).trans ((lv_osw c23 (by decide)).trans ((lv_osw c26 (by decide)).trans ((lv_osw c29 (by decide)).trans (rfl))))))) (by decide) ?_
                    refine lv_aload_n hx hb dX9_writes_221 rfl (lv_at hl 1 rfl) ?_
                    refine lv_iload hx hb dX9_writes_222 (lv_at hl 0 rfl) ?_
                    obtain ⟨o32, ho32, hf⟩ := ob_e hf
                    refine w_callV (b := a 0) (As := [.int x13]) (rest := []) ⟨hx, hb, hml, hown, hts⟩ (c_X9_puts l D cI cB a tb st x13 o32 ho32) (cwV 1 hts gX9_writes_X9_puts rfl rfl rfl (by decide +kernel) ⟨Nat.le_of_ble_eq_true rfl, Nat.le_of_ble_eq_true rfl⟩) hP hK hD hZ hS (va_recv hK hP (ci := 7) (q0 := 0) rfl rfl) rfl hl.1 rfl (Nat.le_of_ble_eq_true rfl) ⟨Nat.zero_le _, Nat.zero_le _⟩ dX9_writes_224 (fun H locs hP hS => ?_)
                    obtain ⟨x33, ex33, hf⟩ := bnd_e hf
                    refine lv_iinc (v := x33) (lv' := [(3, .int x33), (4, .int x13), (0, .ref (a 0)), (1, .int x_1), (2, .int x_2)]) hx hb dX9_writes_227 hl (k := 4) rfl (by rw [ex33]; rfl) (by decide) rfl (fun ls hl => ?_)
                    refine lv_goto (tgt := 12) hx hb dX9_writes_230 (by decide) ?_
                    exact ih12 x_1 x_2 x33 o32 _ _ _ hP hS (lv_sub hl [2, 3, 4, 0] rfl) hf
  unfold fX9_writes at hf
  refine lv_aload_n hx hb dX9_writes_0 rfl (lv_at hl 0 rfl) ?_
  refine lv_iload_n hx hb dX9_writes_1 rfl (lv_at hl 1 rfl) ?_
  obtain ⟨o34, ho34, hf⟩ := ob_e hf
  refine w_callV (b := a 0) (As := [.int p1]) (rest := []) ⟨hx, hb, hml, hown, hts⟩ (c_X9_split l D cI cB a tb st p1 o34 ho34) (cwV 1 hts gX9_writes_X9_split rfl rfl rfl (by decide +kernel) ⟨Nat.le_of_ble_eq_true rfl, Nat.le_of_ble_eq_true rfl⟩) hP hK hD hZ hS (va_recv hK hP (ci := 7) (q0 := 0) rfl rfl) rfl hl.1 rfl (Nat.le_of_ble_eq_true rfl) ⟨Nat.zero_le _, Nat.zero_le _⟩ dX9_writes_2 (fun H locs hP hS => ?_)
  refine lv_aload_n hx hb dX9_writes_5 rfl (lv_at hl 0 rfl) ?_
  refine lv_iconst (v := 0) hx hb dX9_writes_6 (by decide) ?_
  obtain ⟨s35, es35, hf⟩ := bnd_e hf
  refine va_put (D := D) (ci := 7) (v := .int 0) (ty := .int) (C := RX9) (T := TX9) (N := 27) hx hb hts hiX9 tyX9 tyX9_ok nmX9 hown hK hP (hD o34) hS 0 rfl rfl 26 (by decide) k200 (fun _ h9 => h9) rfl (by decide +kernel) rfl rfl (Nat.le_of_ble_eq_true rfl) dX9_writes_7 (fun H locs hP _ hS => ?_)
  have hP : va_P D vwCl (mw cI cB a s35) H := by rw [es35]; exact hP
  refine lv_iconst (v := 0) hx hb dX9_writes_10 (by decide) ?_
  refine lv_istore_n (lv' := [(3, .int 0), (0, .ref (a 0)), (1, .int p1), (2, .int p2)]) hx hb dX9_writes_11 rfl hl (by decide) rfl (fun ls hl => ?_)
  exact l12 1000 p1 p2 0 s35 _ _ _ hP hS (lv_sub hl [1, 2, 3, 0] rfl) hf
set_option maxHeartbeats 4000000 in
set_option maxRecDepth 100000 in
theorem c_X9_write (l : Launch) (D : va_G) (cI cB : ClassId) (a tb : Nat → Nat) (st : ST) (p1 p2 p3 : Int32) (r : Int32 × ST) (hf : fX9_write st p1 p2 p3 = some r) : MetW l yX9_write wsX9_write ({ frames := 5, cells := 0, slots := 0, locals := 116 }) [.ref (a 0), .int p1, .int p2, .int p3] D [(cI, .int), (cB, .byte)] (mw cI cB a) (mA a) tb st r := by
  refine met_of (cc := cX9_write) (maxL := 4) (ret := (some .int)) (by decide) rfl (Nat.le_of_ble_eq_true rfl) ?_
  intro p e s m below meth c hx hb hr hml hts hown hlk hG ls hl
  have hown : s.vm.findClass RX9 = some m.cls := hown
  obtain ⟨hP, hK, hD, hZ⟩ := hG
  have hS : va_S (mA a) s.heap s.heap [] := va_S.rf
  have hl : lv_has ls 4 [(0, .ref (a 0)), (1, .int p1), (2, .int p2), (3, .int p3)] := hl
  have hiX9 : ∀ w ∈ wsX90, w ∈ wsX9_write := by decide +kernel
  have k103 := hts (.fieldLink RX9 103 "DayColumnModel" "styles" "I") (by decide +kernel)
  have k200 := hts (.fieldLink RX9 200 "DayColumnModel" "writtenLong" "I") (by decide +kernel)
  have k51 := hts (.fieldLink RX9 51 "DayColumnModel" "written" "[B") (by decide +kernel)
  have k54 := hts (.fieldLink RX9 54 "DayColumnModel" "thrown" "I") (by decide +kernel)
  unfold fX9_write at hf
  refine lv_aload_n hx hb dX9_write_0 rfl (lv_at hl 0 rfl) ?_
  refine lv_iconst (v := 0) hx hb dX9_write_1 (by decide) ?_
  obtain ⟨s1, es1, hf⟩ := bnd_e hf
  refine va_put (D := D) (ci := 7) (v := .int 0) (ty := .int) (C := RX9) (T := TX9) (N := 27) hx hb hts hiX9 tyX9 tyX9_ok nmX9 hown hK hP (hD st) hS 0 rfl rfl 0 (by decide) k54 (fun _ h9 => h9) rfl (by decide +kernel) rfl rfl (Nat.le_of_ble_eq_true rfl) dX9_write_2 (fun H locs hP _ hS => ?_)
  have hP : va_P D vwCl (mw cI cB a s1) H := by rw [es1]; exact hP
  refine lv_iload_n hx hb dX9_write_5 rfl (lv_at hl 1 rfl) ?_
  obtain ⟨o2, ho2, hf⟩ := ob_e hf
  refine w_callT (As := [.int p1]) (rest := []) ⟨hx, hb, hml, hown, hts⟩ (c_X9_isDay l tb p1 o2 ho2) (va_cwS 1 hts gX9_write_X9_isDay rfl rfl rfl (by decide +kernel) ⟨Nat.le_of_ble_eq_true rfl, Nat.le_of_ble_eq_true rfl⟩) hZ hS rfl hl.1 rfl (Nat.le_of_ble_eq_true rfl) ⟨Nat.zero_le _, Nat.zero_le _⟩ dX9_write_6 ?_
  refine lv_if_eq (tgt := 26) hx hb dX9_write_9 (by decide) (fun c3 => ?_) (fun c3 => ?_)
  · replace hf := if_t hf c3
    refine lv_iconst (v := -1) hx hb dX9_write_26 (by decide) ?_
    exact W.iret (v := (-1)) hx hb hr (fun t ht _ => ⟨⟨(-1), s1, rfl, so_p hf, p_at ht hP⟩, hS.F ht⟩) hS.2.2 dX9_write_27
  · replace hf := if_f hf c3
    refine lv_iload_n hx hb dX9_write_12 rfl (lv_at hl 2 rfl) ?_
    refine lv_iconst (v := 0) hx hb dX9_write_13 (by decide) ?_
    refine lv_aload_n hx hb dX9_write_14 rfl (lv_at hl 0 rfl) ?_
    refine va_get (D := D) (ci := 7) (v := .int (s1.1 9)) (C := RX9) (T := TX9) (N := 27) hx hb hts hiX9 hown hK hP 0 rfl rfl 9 (by decide) k103 (fun _ h9 => h9) rfl dX9_write_15 ?_
    refine lv_iconst (v := 1) hx hb dX9_write_18 (by decide) ?_
    refine lv_isub hx hb dX9_write_19 ?_
    obtain ⟨o4, ho4, hf⟩ := ob_e hf
    refine w_callT (As := [.int p2, .int 0, .int ((s1.1 9) - 1)]) (rest := []) ⟨hx, hb, hml, hown, hts⟩ (c_X9_isIn l tb p2 0 ((s1.1 9) - 1) o4 ho4) (va_cwS 3 hts gX9_write_X9_isIn rfl rfl rfl (by decide +kernel) ⟨Nat.le_of_ble_eq_true rfl, Nat.le_of_ble_eq_true rfl⟩) hZ hS rfl hl.1 rfl (Nat.le_of_ble_eq_true rfl) ⟨Nat.zero_le _, Nat.zero_le _⟩ dX9_write_20 ?_
    refine lv_if_ne (tgt := 28) hx hb dX9_write_23 (by decide) (fun c5 => ?_) (fun c5 => ?_)
    · replace hf := if_f hf c5
      refine lv_aload_n hx hb dX9_write_28 rfl (lv_at hl 0 rfl) ?_
      refine lv_iload_n hx hb dX9_write_29 rfl (lv_at hl 1 rfl) ?_
      refine lv_iload_n hx hb dX9_write_30 rfl (lv_at hl 2 rfl) ?_
      obtain ⟨o6, ho6, hf⟩ := ob_e hf
      refine w_callV (b := a 0) (As := [.int p1, .int p2]) (rest := []) ⟨hx, hb, hml, hown, hts⟩ (c_X9_writes l D cI cB a tb s1 p1 p2 o6 ho6) (cwV 2 hts gX9_write_X9_writes rfl rfl rfl (by decide +kernel) ⟨Nat.le_of_ble_eq_true rfl, Nat.le_of_ble_eq_true rfl⟩) hP hK hD hZ hS (va_recv hK hP (ci := 7) (q0 := 0) rfl rfl) rfl hl.1 rfl (Nat.le_of_ble_eq_true rfl) ⟨Nat.zero_le _, Nat.zero_le _⟩ dX9_write_31 (fun H locs hP hS => ?_)
      refine lv_iload_n hx hb dX9_write_34 rfl (lv_at hl 3 rfl) ?_
      refine lv_if_lt (tgt := 55) hx hb dX9_write_35 (by decide) (fun c7 => ?_) (fun c7 => ?_)
      · replace hf := if_t hf c7
        refine lv_iconst (v := -1) hx hb dX9_write_55 (by decide) ?_
        exact W.iret (v := (-1)) hx hb hr (fun t ht _ => ⟨⟨(-1), o6, rfl, so_p hf, p_at ht hP⟩, hS.F ht⟩) hS.2.2 dX9_write_56
      · replace hf := if_f hf c7
        refine lv_iload_n hx hb dX9_write_38 rfl (lv_at hl 3 rfl) ?_
        refine lv_aload_n hx hb dX9_write_39 rfl (lv_at hl 0 rfl) ?_
        refine va_get (D := D) (ci := 7) (v := .int (o6.1 26)) (C := RX9) (T := TX9) (N := 27) hx hb hts hiX9 hown hK hP 0 rfl rfl 26 (by decide) k200 (fun _ h9 => h9) rfl dX9_write_40 ?_
        refine lv_icmp_ge (tgt := 55) hx hb dX9_write_43 (by decide) (fun c8 => ?_) (fun c8 => ?_)
        · replace hf := if_t hf c8
          refine lv_iconst (v := -1) hx hb dX9_write_55 (by decide) ?_
          exact W.iret (v := (-1)) hx hb hr (fun t ht _ => ⟨⟨(-1), o6, rfl, so_p hf, p_at ht hP⟩, hS.F ht⟩) hS.2.2 dX9_write_56
        · replace hf := if_f hf c8
          refine lv_aload_n hx hb dX9_write_46 rfl (lv_at hl 0 rfl) ?_
          refine va_get (D := D) (ci := 7) (v := .ref (a 13)) (C := RX9) (T := TX9) (N := 27) hx hb hts hiX9 hown hK hP 0 rfl rfl 25 (by decide) k51 (fun _ h9 => h9) rfl dX9_write_47 ?_
          refine lv_iload_n hx hb dX9_write_50 rfl (lv_at hl 3 rfl) ?_
          obtain ⟨hi9, hf⟩ := ix_e hf
          refine va_bald hx hb hK hP 13 1 rfl rfl hi9 dX9_write_51 ?_
          refine lv_goto (tgt := 56) hx hb dX9_write_52 (by decide) ?_
          exact W.iret (v := (o6.2 13 (Int32.toNatClampNeg p3))) hx hb hr (fun t ht _ => ⟨⟨(o6.2 13 (Int32.toNatClampNeg p3)), o6, rfl, so_p hf, p_at ht hP⟩, hS.F ht⟩) hS.2.2 dX9_write_56
    · replace hf := if_t hf c5
      refine lv_iconst (v := -1) hx hb dX9_write_26 (by decide) ?_
      exact W.iret (v := (-1)) hx hb hr (fun t ht _ => ⟨⟨(-1), s1, rfl, so_p hf, p_at ht hP⟩, hS.F ht⟩) hS.2.2 dX9_write_27
set_option maxHeartbeats 4000000 in
set_option maxRecDepth 100000 in
theorem c_X9_same (l : Launch) (D : va_G) (cI cB : ClassId) (a tb : Nat → Nat) (st : ST) (p1 : Int32) (r : Int32 × ST) (hf : fX9_same st p1 = some r) : MetW l yX9_same wsX9_same ({ frames := 8, cells := 0, slots := 0, locals := 192 }) [.ref (a 0), .int p1] D [(cI, .int), (cB, .byte)] (mw cI cB a) (mA a) tb st r := by
  refine met_of (cc := cX9_same) (maxL := 4) (ret := (some .int)) (by decide) rfl (Nat.le_of_ble_eq_true rfl) ?_
  intro p e s m below meth c hx hb hr hml hts hown hlk hG ls hl
  have hown : s.vm.findClass RX9 = some m.cls := hown
  obtain ⟨hP, hK, hD, hZ⟩ := hG
  have hS : va_S (mA a) s.heap s.heap [] := va_S.rf
  have hl : lv_has ls 4 [(0, .ref (a 0)), (1, .int p1)] := hl
  have hiX9 : ∀ w ∈ wsX90, w ∈ wsX9_same := by decide +kernel
  have k16 := hts (.fieldLink RX9 16 "DayColumnModel" "cell" "[B") (by decide +kernel)
  have k200 := hts (.fieldLink RX9 200 "DayColumnModel" "writtenLong" "I") (by decide +kernel)
  have k26 := hts (.fieldLink RX9 26 "DayColumnModel" "cellLong" "[I") (by decide +kernel)
  have k36 := hts (.fieldLink RX9 36 "DayColumnModel" "first" "[I") (by decide +kernel)
  have k48 := hts (.fieldLink RX9 48 "DayColumnModel" "best" "[I") (by decide +kernel)
  have k51 := hts (.fieldLink RX9 51 "DayColumnModel" "written" "[B") (by decide +kernel)
  have l84 : ∀ (n : Nat) (x_1 x_2 x_3 : Int32) (st : ST) (H : Heap) (locs : List Loc) (ls : Array Slot), va_P D vwCl (mw cI cB a st) H → va_S (mA a) s.heap H locs → lv_has ls 4 [(0, .ref (a 0)), (1, .int x_1), (2, .int x_2), (3, .int x_3)] → fX9_same_84 n st x_1 x_2 x_3 = some r → W p l e ({ frames := 8, cells := 0, slots := 0, locals := 192 }) s m ([.ref (a 0), .int p1] : List Value).toArray below meth c H locs 0 0 (MQ below (va_Qi (fun (z : Int32) (u : ST) => z = r.1 ∧ u = r.2) (fun u t => va_P D vwCl (mw cI cB a u) t.heap) (mA a)) ([.ref (a 0), .int p1] : List Value).toArray s 0 0 (mA a)) (F0 m 84 ls []) := by
    intro n
    induction n with
    | zero =>
      intro x_1 x_2 x_3 st H locs ls hP hS hl hf
      cases hf
    | succ n ih84 =>
      intro x_1 x_2 x_3 st H locs ls hP hS hl hf
      unfold fX9_same_84 at hf
      refine lv_iload_n hx hb dX9_same_84 rfl (lv_at hl 3 rfl) ?_
      refine lv_aload_n hx hb dX9_same_85 rfl (lv_at hl 0 rfl) ?_
      refine va_get (D := D) (ci := 7) (v := .int (st.1 26)) (C := RX9) (T := TX9) (N := 27) hx hb hts hiX9 hown hK hP 0 rfl rfl 26 (by decide) k200 (fun _ h9 => h9) rfl dX9_same_86 ?_
      refine lv_icmp_ge (tgt := 128) hx hb dX9_same_89 (by decide) (fun c1 => ?_) (fun c1 => ?_)
      · replace hf := if_t hf c1
        refine lv_iload_n hx hb dX9_same_128 rfl (lv_at hl 2 rfl) ?_
        refine lv_if_eq (tgt := 136) hx hb dX9_same_129 (by decide) (fun c2 => ?_) (fun c2 => ?_)
        · replace hf := if_t hf c2
          refine lv_iconst (v := 0) hx hb dX9_same_136 (by decide) ?_
          exact W.iret (v := 0) hx hb hr (fun t ht _ => ⟨⟨0, st, rfl, so_p hf, p_at ht hP⟩, hS.F ht⟩) hS.2.2 dX9_same_137
        · replace hf := if_f hf c2
          refine lv_iconst (v := 1) hx hb dX9_same_132 (by decide) ?_
          refine lv_goto (tgt := 137) hx hb dX9_same_133 (by decide) ?_
          exact W.iret (v := 1) hx hb hr (fun t ht _ => ⟨⟨1, st, rfl, so_p hf, p_at ht hP⟩, hS.F ht⟩) hS.2.2 dX9_same_137
      · replace hf := if_f hf c1
        refine lv_iload_n hx hb dX9_same_92 rfl (lv_at hl 2 rfl) ?_
        refine lv_if_eq (tgt := 128) hx hb dX9_same_93 (by decide) (fun c3 => ?_) (fun c3 => ?_)
        · replace hf := if_t hf c3
          refine lv_iload_n hx hb dX9_same_128 rfl (lv_at hl 2 rfl) ?_
          refine lv_if_eq (tgt := 136) hx hb dX9_same_129 (by decide) (fun c4 => ?_) (fun c4 => ?_)
          · replace hf := if_t hf c4
            refine lv_iconst (v := 0) hx hb dX9_same_136 (by decide) ?_
            exact W.iret (v := 0) hx hb hr (fun t ht _ => ⟨⟨0, st, rfl, so_p hf, p_at ht hP⟩, hS.F ht⟩) hS.2.2 dX9_same_137
          · replace hf := if_f hf c4
            refine lv_iconst (v := 1) hx hb dX9_same_132 (by decide) ?_
            refine lv_goto (tgt := 137) hx hb dX9_same_133 (by decide) ?_
            exact W.iret (v := 1) hx hb hr (fun t ht _ => ⟨⟨1, st, rfl, so_p hf, p_at ht hP⟩, hS.F ht⟩) hS.2.2 dX9_same_137
        · replace hf := if_f hf c3
          refine lv_aload_n hx hb dX9_same_96 rfl (lv_at hl 0 rfl) ?_
          refine va_get (D := D) (ci := 7) (v := .ref (a 13)) (C := RX9) (T := TX9) (N := 27) hx hb hts hiX9 hown hK hP 0 rfl rfl 25 (by decide) k51 (fun _ h9 => h9) rfl dX9_same_97 ?_
          refine lv_iload_n hx hb dX9_same_100 rfl (lv_at hl 3 rfl) ?_
          obtain ⟨hi5, hf⟩ := ix_e hf
          refine va_bald hx hb hK hP 13 1 rfl rfl hi5 dX9_same_101 ?_
          refine lv_aload_n hx hb dX9_same_102 rfl (lv_at hl 0 rfl) ?_
          refine va_get (D := D) (ci := 7) (v := .ref (a 3)) (C := RX9) (T := TX9) (N := 27) hx hb hts hiX9 hown hK hP 0 rfl rfl 3 (by decide) k16 (fun _ h9 => h9) rfl dX9_same_103 ?_
          refine lv_bipush (v := 24) hx hb dX9_same_106 (by decide) ?_
          refine lv_iload_n hx hb dX9_same_108 rfl (lv_at hl 1 rfl) ?_
          refine lv_imul hx hb dX9_same_109 ?_
          refine lv_iload_n hx hb dX9_same_110 rfl (lv_at hl 3 rfl) ?_
          refine lv_iadd hx hb dX9_same_111 ?_
          obtain ⟨x6, ex6, hf⟩ := bnd_e hf
          refine w_nm ex6 ?_
          obtain ⟨hi7, hf⟩ := ix_e hf
          refine va_bald hx hb hK hP 3 1 rfl rfl hi7 dX9_same_112 ?_
          refine lv_icmp_ne (tgt := 120) hx hb dX9_same_113 (by decide) (fun c8 => ?_) (fun c8 => ?_)
          · replace hf := if_f hf c8
            refine lv_iconst (v := 0) hx hb dX9_same_120 (by decide) ?_
            refine lv_istore_n (lv' := [(2, .int 0), (0, .ref (a 0)), (1, .int x_1), (3, .int x_3)]) hx hb dX9_same_121 rfl hl (by decide) rfl (fun ls hl => ?_)
            obtain ⟨x9, ex9, hf⟩ := bnd_e hf
            refine lv_iinc (v := x9) (lv' := [(3, .int x9), (2, .int 0), (0, .ref (a 0)), (1, .int x_1)]) hx hb dX9_same_122 hl (k := 3) rfl (by rw [ex9]; rfl) (by decide) rfl (fun ls hl => ?_)
            refine lv_goto (tgt := 84) hx hb dX9_same_125 (by decide) ?_
            exact ih84 x_1 0 x9 st _ _ _ hP hS (lv_sub hl [2, 3, 1, 0] rfl) hf
          · replace hf := if_t hf c8
            refine lv_iconst (v := 1) hx hb dX9_same_116 (by decide) ?_
            refine lv_goto (tgt := 121) hx hb dX9_same_117 (by decide) ?_
            refine lv_istore_n (lv' := [(2, .int 1), (0, .ref (a 0)), (1, .int x_1), (3, .int x_3)]) hx hb dX9_same_121 rfl hl (by decide) rfl (fun ls hl => ?_)
            obtain ⟨x10, ex10, hf⟩ := bnd_e hf
            refine lv_iinc (v := x10) (lv' := [(3, .int x10), (2, .int 1), (0, .ref (a 0)), (1, .int x_1)]) hx hb dX9_same_122 hl (k := 3) rfl (by rw [ex10]; rfl) (by decide) rfl (fun ls hl => ?_)
            refine lv_goto (tgt := 84) hx hb dX9_same_125 (by decide) ?_
            exact ih84 x_1 1 x10 st _ _ _ hP hS (lv_sub hl [2, 3, 1, 0] rfl) hf
  unfold fX9_same at hf
  refine lv_aload_n hx hb dX9_same_0 rfl (lv_at hl 0 rfl) ?_
  obtain ⟨o11, ho11, hf⟩ := ob_e hf
  refine w_callW (b := a 0) (As := []) (rest := []) ⟨hx, hb, hml, hown, hts⟩ (c_X9_finds l D cI cB a tb st o11 ho11) (cwV 0 hts gX9_same_X9_finds rfl rfl rfl (by decide +kernel) ⟨Nat.le_of_ble_eq_true rfl, Nat.le_of_ble_eq_true rfl⟩) hP hK hD hZ hS (va_recv hK hP (ci := 7) (q0 := 0) rfl rfl) rfl hl.1 rfl (Nat.le_of_ble_eq_true rfl) ⟨Nat.zero_le _, Nat.zero_le _⟩ dX9_same_1 (fun H locs hP hS => ?_)
  refine lv_if_eq (tgt := 35) hx hb dX9_same_4 (by decide) (fun c12 => ?_) (fun c12 => ?_)
  · replace hf := if_t hf c12
    refine lv_iconst (v := -1) hx hb dX9_same_35 (by decide) ?_
    exact W.iret (v := (-1)) hx hb hr (fun t ht _ => ⟨⟨(-1), o11.2, rfl, so_p hf, p_at ht hP⟩, hS.F ht⟩) hS.2.2 dX9_same_36
  · replace hf := if_f hf c12
    refine lv_aload_n hx hb dX9_same_7 rfl (lv_at hl 0 rfl) ?_
    refine lv_iload_n hx hb dX9_same_8 rfl (lv_at hl 1 rfl) ?_
    obtain ⟨o13, ho13, hf⟩ := ob_e hf
    refine w_callR (b := a 0) (As := [.int p1]) (rest := []) ⟨hx, hb, hml, hown, hts⟩ (c_X9_isRow l D cI cB a tb o11.2 p1 o13 ho13) (cwV 1 hts gX9_same_X9_isRow rfl rfl rfl (by decide +kernel) ⟨Nat.le_of_ble_eq_true rfl, Nat.le_of_ble_eq_true rfl⟩) hP hK hD hZ hS (va_recv hK hP (ci := 7) (q0 := 0) rfl rfl) rfl hl.1 rfl (Nat.le_of_ble_eq_true rfl) ⟨Nat.zero_le _, Nat.zero_le _⟩ dX9_same_9 ?_
    refine lv_if_eq (tgt := 35) hx hb dX9_same_12 (by decide) (fun c14 => ?_) (fun c14 => ?_)
    · replace hf := if_t hf c14
      refine lv_iconst (v := -1) hx hb dX9_same_35 (by decide) ?_
      exact W.iret (v := (-1)) hx hb hr (fun t ht _ => ⟨⟨(-1), o11.2, rfl, so_p hf, p_at ht hP⟩, hS.F ht⟩) hS.2.2 dX9_same_36
    · replace hf := if_f hf c14
      refine lv_aload_n hx hb dX9_same_15 rfl (lv_at hl 0 rfl) ?_
      refine va_get (D := D) (ci := 7) (v := .ref (a 8)) (C := RX9) (T := TX9) (N := 27) hx hb hts hiX9 hown hK hP 0 rfl rfl 19 (by decide) k36 (fun _ h9 => h9) rfl dX9_same_16 ?_
      refine lv_bipush (v := 8) hx hb dX9_same_19 (by decide) ?_
      refine lv_iload_n hx hb dX9_same_21 rfl (lv_at hl 1 rfl) ?_
      refine lv_imul hx hb dX9_same_22 ?_
      refine lv_aload_n hx hb dX9_same_23 rfl (lv_at hl 0 rfl) ?_
      refine va_get (D := D) (ci := 7) (v := .ref (a 12)) (C := RX9) (T := TX9) (N := 27) hx hb hts hiX9 hown hK hP 0 rfl rfl 23 (by decide) k48 (fun _ h9 => h9) rfl dX9_same_24 ?_
      refine lv_iload_n hx hb dX9_same_27 rfl (lv_at hl 1 rfl) ?_
      obtain ⟨hi15, hf⟩ := ix_e hf
      refine va_iald hx hb hK hP 12 0 rfl rfl hi15 dX9_same_28 ?_
      refine lv_iadd hx hb dX9_same_29 ?_
      obtain ⟨x16, ex16, hf⟩ := bnd_e hf
      refine w_nm ex16 ?_
      obtain ⟨hi17, hf⟩ := ix_e hf
      refine va_iald hx hb hK hP 8 0 rfl rfl hi17 dX9_same_30 ?_
      refine lv_iconst (v := -1) hx hb dX9_same_31 (by decide) ?_
      refine lv_icmp_ne (tgt := 37) hx hb dX9_same_32 (by decide) (fun c18 => ?_) (fun c18 => ?_)
      · replace hf := if_f hf c18
        refine lv_aload_n hx hb dX9_same_37 rfl (lv_at hl 0 rfl) ?_
        refine lv_aload_n hx hb dX9_same_38 rfl (lv_at hl 0 rfl) ?_
        refine va_get (D := D) (ci := 7) (v := .ref (a 8)) (C := RX9) (T := TX9) (N := 27) hx hb hts hiX9 hown hK hP 0 rfl rfl 19 (by decide) k36 (fun _ h9 => h9) rfl dX9_same_39 ?_
        refine lv_bipush (v := 8) hx hb dX9_same_42 (by decide) ?_
        refine lv_iload_n hx hb dX9_same_44 rfl (lv_at hl 1 rfl) ?_
        refine lv_imul hx hb dX9_same_45 ?_
        refine lv_aload_n hx hb dX9_same_46 rfl (lv_at hl 0 rfl) ?_
        refine va_get (D := D) (ci := 7) (v := .ref (a 12)) (C := RX9) (T := TX9) (N := 27) hx hb hts hiX9 hown hK hP 0 rfl rfl 23 (by decide) k48 (fun _ h9 => h9) rfl dX9_same_47 ?_
        refine lv_iload_n hx hb dX9_same_50 rfl (lv_at hl 1 rfl) ?_
        obtain ⟨hi19, hf⟩ := ix_e hf
        refine va_iald hx hb hK hP 12 0 rfl rfl hi19 dX9_same_51 ?_
        refine lv_iadd hx hb dX9_same_52 ?_
        obtain ⟨x20, ex20, hf⟩ := bnd_e hf
        refine w_nm ex20 ?_
        obtain ⟨hi21, hf⟩ := ix_e hf
        refine va_iald hx hb hK hP 8 0 rfl rfl hi21 dX9_same_53 ?_
        refine lv_aload_n hx hb dX9_same_54 rfl (lv_at hl 0 rfl) ?_
        refine va_get (D := D) (ci := 7) (v := .ref (a 12)) (C := RX9) (T := TX9) (N := 27) hx hb hts hiX9 hown hK hP 0 rfl rfl 23 (by decide) k48 (fun _ h9 => h9) rfl dX9_same_55 ?_
        refine lv_iload_n hx hb dX9_same_58 rfl (lv_at hl 1 rfl) ?_
        obtain ⟨hi22, hf⟩ := ix_e hf
        refine va_iald hx hb hK hP 12 0 rfl rfl hi22 dX9_same_59 ?_
        obtain ⟨o23, ho23, hf⟩ := ob_e hf
        refine w_callV (b := a 0) (As := [.int (o11.2.2 8 (Int32.toNatClampNeg x20)), .int (o11.2.2 12 (Int32.toNatClampNeg p1))]) (rest := []) ⟨hx, hb, hml, hown, hts⟩ (c_X9_writes l D cI cB a tb o11.2 (o11.2.2 8 (Int32.toNatClampNeg x20)) (o11.2.2 12 (Int32.toNatClampNeg p1)) o23 ho23) (cwV 2 hts gX9_same_X9_writes rfl rfl rfl (by decide +kernel) ⟨Nat.le_of_ble_eq_true rfl, Nat.le_of_ble_eq_true rfl⟩) hP hK hD hZ hS (va_recv hK hP (ci := 7) (q0 := 0) rfl rfl) rfl hl.1 rfl (Nat.le_of_ble_eq_true rfl) ⟨Nat.zero_le _, Nat.zero_le _⟩ dX9_same_60 (fun H locs hP hS => ?_)
        refine lv_aload_n hx hb dX9_same_63 rfl (lv_at hl 0 rfl) ?_
        refine va_get (D := D) (ci := 7) (v := .int (o23.1 26)) (C := RX9) (T := TX9) (N := 27) hx hb hts hiX9 hown hK hP 0 rfl rfl 26 (by decide) k200 (fun _ h9 => h9) rfl dX9_same_64 ?_
        refine lv_aload_n hx hb dX9_same_67 rfl (lv_at hl 0 rfl) ?_
        refine va_get (D := D) (ci := 7) (v := .ref (a 6)) (C := RX9) (T := TX9) (N := 27) hx hb hts hiX9 hown hK hP 0 rfl rfl 6 (by decide) k26 (fun _ h9 => h9) rfl dX9_same_68 ?_
        refine lv_iload_n hx hb dX9_same_71 rfl (lv_at hl 1 rfl) ?_
        obtain ⟨hi24, hf⟩ := ix_e hf
        refine va_iald hx hb hK hP 6 0 rfl rfl hi24 dX9_same_72 ?_
        refine lv_icmp_ne (tgt := 80) hx hb dX9_same_73 (by decide) (fun c25 => ?_) (fun c25 => ?_)
        · replace hf := if_f hf c25
          refine lv_iconst (v := 0) hx hb dX9_same_80 (by decide) ?_
          refine lv_istore_n (lv' := [(2, .int 0), (0, .ref (a 0)), (1, .int p1)]) hx hb dX9_same_81 rfl hl (by decide) rfl (fun ls hl => ?_)
          refine lv_iconst (v := 0) hx hb dX9_same_82 (by decide) ?_
          refine lv_istore_n (lv' := [(3, .int 0), (2, .int 0), (0, .ref (a 0)), (1, .int p1)]) hx hb dX9_same_83 rfl hl (by decide) rfl (fun ls hl => ?_)
          exact l84 1000 p1 0 0 o23 _ _ _ hP hS (lv_sub hl [2, 3, 1, 0] rfl) hf
        · replace hf := if_t hf c25
          refine lv_iconst (v := 1) hx hb dX9_same_76 (by decide) ?_
          refine lv_goto (tgt := 81) hx hb dX9_same_77 (by decide) ?_
          refine lv_istore_n (lv' := [(2, .int 1), (0, .ref (a 0)), (1, .int p1)]) hx hb dX9_same_81 rfl hl (by decide) rfl (fun ls hl => ?_)
          refine lv_iconst (v := 0) hx hb dX9_same_82 (by decide) ?_
          refine lv_istore_n (lv' := [(3, .int 0), (2, .int 1), (0, .ref (a 0)), (1, .int p1)]) hx hb dX9_same_83 rfl hl (by decide) rfl (fun ls hl => ?_)
          exact l84 1000 p1 1 0 o23 _ _ _ hP hS (lv_sub hl [2, 3, 1, 0] rfl) hf
      · replace hf := if_t hf c18
        refine lv_iconst (v := -1) hx hb dX9_same_35 (by decide) ?_
        exact W.iret (v := (-1)) hx hb hr (fun t ht _ => ⟨⟨(-1), o11.2, rfl, so_p hf, p_at ht hP⟩, hS.F ht⟩) hS.2.2 dX9_same_36
set_option maxHeartbeats 4000000 in
set_option maxRecDepth 100000 in
theorem c_X9_count (l : Launch) (D : va_G) (cI cB : ClassId) (a tb : Nat → Nat) (st : ST) (p1 : Int32) (r : Int32 × ST) (hf : fX9_count st p1 = some r) : MetW l yX9_count wsX9_count ({ frames := 0, cells := 0, slots := 0, locals := 0 }) [.ref (a 0), .int p1] D [(cI, .int), (cB, .byte)] (mw cI cB a) (mA a) tb st r := by
  refine met_of (cc := cX9_count) (maxL := 2) (ret := (some .int)) (by decide) rfl (Nat.le_of_ble_eq_true rfl) ?_
  intro p e s m below meth c hx hb hr hml hts hown hlk hG ls hl
  have hown : s.vm.findClass RX9 = some m.cls := hown
  obtain ⟨hP, hK, hD, hZ⟩ := hG
  have hS : va_S (mA a) s.heap s.heap [] := va_S.rf
  have hl : lv_has ls 2 [(0, .ref (a 0)), (1, .int p1)] := hl
  have hiX9 : ∀ w ∈ wsX90, w ∈ wsX9_count := by decide +kernel
  have k103 := hts (.fieldLink RX9 103 "DayColumnModel" "styles" "I") (by decide +kernel)
  have k113 := hts (.fieldLink RX9 113 "DayColumnModel" "rows" "I") (by decide +kernel)
  have k32 := hts (.fieldLink RX9 32 "DayColumnModel" "window" "I") (by decide +kernel)
  have k54 := hts (.fieldLink RX9 54 "DayColumnModel" "thrown" "I") (by decide +kernel)
  have k93 := hts (.fieldLink RX9 93 "DayColumnModel" "length" "I") (by decide +kernel)
  unfold fX9_count at hf
  refine lv_aload_n hx hb dX9_count_0 rfl (lv_at hl 0 rfl) ?_
  refine lv_iconst (v := 0) hx hb dX9_count_1 (by decide) ?_
  obtain ⟨s1, es1, hf⟩ := bnd_e hf
  refine va_put (D := D) (ci := 7) (v := .int 0) (ty := .int) (C := RX9) (T := TX9) (N := 27) hx hb hts hiX9 tyX9 tyX9_ok nmX9 hown hK hP (hD st) hS 0 rfl rfl 0 (by decide) k54 (fun _ h9 => h9) rfl (by decide +kernel) rfl rfl (Nat.le_of_ble_eq_true rfl) dX9_count_2 (fun H locs hP _ hS => ?_)
  have hP : va_P D vwCl (mw cI cB a s1) H := by rw [es1]; exact hP
  refine lv_iload_n hx hb dX9_count_5 rfl (lv_at hl 1 rfl) ?_
  by_cases c2 : p1 = 0
  · replace hf := if_t hf c2
    refine lv_tableIn (tgt := 36) (off := 30) hx hb dX9_count_6 (by rw [c2]; decide) (by rw [c2]; decide) (by rw [c2]; rfl) (by decide) ?_
    refine lv_aload_n hx hb dX9_count_36 rfl (lv_at hl 0 rfl) ?_
    refine va_get (D := D) (ci := 7) (v := .int (s1.1 9)) (C := RX9) (T := TX9) (N := 27) hx hb hts hiX9 hown hK hP 0 rfl rfl 9 (by decide) k103 (fun _ h9 => h9) rfl dX9_count_37 ?_
    exact W.iret (v := (s1.1 9)) hx hb hr (fun t ht _ => ⟨⟨(s1.1 9), s1, rfl, so_p hf, p_at ht hP⟩, hS.F ht⟩) hS.2.2 dX9_count_40
  · replace hf := if_f hf c2
    by_cases c3 : p1 = 1
    · replace hf := if_t hf c3
      refine lv_tableIn (tgt := 41) (off := 35) hx hb dX9_count_6 (by rw [c3]; decide) (by rw [c3]; decide) (by rw [c3]; rfl) (by decide) ?_
      refine lv_aload_n hx hb dX9_count_41 rfl (lv_at hl 0 rfl) ?_
      refine va_get (D := D) (ci := 7) (v := .int (s1.1 10)) (C := RX9) (T := TX9) (N := 27) hx hb hts hiX9 hown hK hP 0 rfl rfl 10 (by decide) k113 (fun _ h9 => h9) rfl dX9_count_42 ?_
      exact W.iret (v := (s1.1 10)) hx hb hr (fun t ht _ => ⟨⟨(s1.1 10), s1, rfl, so_p hf, p_at ht hP⟩, hS.F ht⟩) hS.2.2 dX9_count_45
    · replace hf := if_f hf c3
      by_cases c4 : p1 = 2
      · replace hf := if_t hf c4
        refine lv_tableIn (tgt := 46) (off := 40) hx hb dX9_count_6 (by rw [c4]; decide) (by rw [c4]; decide) (by rw [c4]; rfl) (by decide) ?_
        refine lv_aload_n hx hb dX9_count_46 rfl (lv_at hl 0 rfl) ?_
        refine va_get (D := D) (ci := 7) (v := .int (s1.1 8)) (C := RX9) (T := TX9) (N := 27) hx hb hts hiX9 hown hK hP 0 rfl rfl 8 (by decide) k93 (fun _ h9 => h9) rfl dX9_count_47 ?_
        exact W.iret (v := (s1.1 8)) hx hb hr (fun t ht _ => ⟨⟨(s1.1 8), s1, rfl, so_p hf, p_at ht hP⟩, hS.F ht⟩) hS.2.2 dX9_count_50
      · replace hf := if_f hf c4
        by_cases c5 : p1 = 3
        · replace hf := if_t hf c5
          refine lv_tableIn (tgt := 51) (off := 45) hx hb dX9_count_6 (by rw [c5]; decide) (by rw [c5]; decide) (by rw [c5]; rfl) (by decide) ?_
          refine lv_aload_n hx hb dX9_count_51 rfl (lv_at hl 0 rfl) ?_
          refine va_get (D := D) (ci := 7) (v := .int (s1.1 11)) (C := RX9) (T := TX9) (N := 27) hx hb hts hiX9 hown hK hP 0 rfl rfl 11 (by decide) k32 (fun _ h9 => h9) rfl dX9_count_52 ?_
          exact W.iret (v := (s1.1 11)) hx hb hr (fun t ht _ => ⟨⟨(s1.1 11), s1, rfl, so_p hf, p_at ht hP⟩, hS.F ht⟩) hS.2.2 dX9_count_55
        · replace hf := if_f hf c5
          have tc2 : ¬ Int32.toInt p1 = 0 := lv_neT c2 (by decide)
          have tc3 : ¬ Int32.toInt p1 = 1 := lv_neT c3 (by decide)
          have tc4 : ¬ Int32.toInt p1 = 2 := lv_neT c4 (by decide)
          have tc5 : ¬ Int32.toInt p1 = 3 := lv_neT c5 (by decide)
          refine lv_tableOut (tgt := 56) hx hb dX9_count_6 (by omega) (by decide) ?_
          refine lv_iconst (v := -1) hx hb dX9_count_56 (by decide) ?_
          exact W.iret (v := (-1)) hx hb hr (fun t ht _ => ⟨⟨(-1), s1, rfl, so_p hf, p_at ht hP⟩, hS.F ht⟩) hS.2.2 dX9_count_57
