/-! The library's String: length and charAt of the two texts that stand from the start (all bytes are below 128). -/
set_option maxHeartbeats 4000000 in
set_option maxRecDepth 100000 in
theorem c_J3_checkIndex (l : Launch) (i n : Int32) (v : Value) (hv : v = .null ∨ ∃ q, v = .ref q) (h0 : ¬ i < 0) (h1 : i < n) : Met l yJ3_checkIndex_8e157 wsJ3_checkIndex_8e157 ({ frames := 0, cells := 0, slots := 0, locals := 0 }) (va_Pc [.int i, .int n, v] (fun _ => True)) (vp_Si (fun z => z = i)) 0 0 (fun _ => False) := by
  rcases hv with rfl | ⟨q, rfl⟩ <;>
  · refine met_ofF (cc := cJ3_checkIndex_8e157) (maxL := 3) (ret := (some .int)) (by decide +kernel) rfl (Nat.le_of_ble_eq_true rfl) ?_
    intro p e s m below meth c hx hb hr hml hts hown hlk hG ls hl
    refine lv_iload_n hx hb dJ3_checkIndex_8e157_0 rfl (lv_at hl 0 rfl) ?_
    refine lv_if_lt (tgt := 9) hx hb dJ3_checkIndex_8e157_1 (by decide) (fun c1 => absurd c1 h0) (fun _ => ?_)
    refine lv_iload_n hx hb dJ3_checkIndex_8e157_4 rfl (lv_at hl 0 rfl) ?_
    refine lv_iload_n hx hb dJ3_checkIndex_8e157_5 rfl (lv_at hl 1 rfl) ?_
    refine lv_icmp_lt (tgt := 16) hx hb dJ3_checkIndex_8e157_6 (by decide) (fun _ => ?_) (fun c1 => absurd h1 c1)
    refine lv_iload_n hx hb dJ3_checkIndex_8e157_16 rfl (lv_at hl 0 rfl) ?_
    exact W.iret (v := i) hx hb hr (fun t ht _ => ⟨i, rfl, rfl, ht⟩) (fun _ h => by cases h) dJ3_checkIndex_8e157_17
set_option maxHeartbeats 4000000 in
set_option maxRecDepth 100000 in
theorem c_J0_checkIndex (l : Launch) (tb : Nat → Nat) (i n : Int32) (h0 : ¬ i < 0) (h1 : i < n) : Met l yJ0_checkIndex_df160 wsJ0_checkIndex_df160 ({ frames := 1, cells := 0, slots := 0, locals := 22 }) (va_Pc [.int i, .int n] (fun U => zz tb (fun _ => False) U U.heap)) (va_Sv (fun _ => True)) 0 0 (fun _ => False) := by
  refine met_ofF (cc := cJ0_checkIndex_df160) (maxL := 2) (ret := none) (by decide +kernel) rfl (Nat.le_of_ble_eq_true rfl) ?_
  intro p e s m below meth c hx hb hr hml hts hown hlk hZ ls hl
  have hown : s.vm.findClass RJ0 = some m.cls := hown
  have hl : lv_has ls 2 [(0, .int i), (1, .int n)] := hl
  have hS : va_S (fun _ => False) s.heap s.heap [] := va_S.rf
  have k1053 := hts (.fieldLink RJ0 1053 "jdk/internal/util/Preconditions" "SIOOBE_FORMATTER" "Ljava/util/function/BiFunction;") (by decide +kernel)
  refine lv_iload_n hx hb dJ0_checkIndex_df160_0 rfl (lv_at hl 0 rfl) ?_
  refine lv_iload_n hx hb dJ0_checkIndex_df160_1 rfl (lv_at hl 1 rfl) ?_
  rcases hZ.2.2.2.2.2.2 with hq | ⟨q, hq⟩ <;>
  · refine va_gets hx hb hq hS hown k1053 (fun _ h9 => h9) dJ0_checkIndex_df160_2 ?_
    refine vp_callSi (W.runS (g := F0 m 5 ls _) (As := [.int i, .int n, _]) (rest := []) ⟨hx, hb, hml, hown, hts⟩ (c_J3_checkIndex l i n _ (by first | exact Or.inl rfl | exact Or.inr ⟨_, rfl⟩) h0 h1) (va_cwS 3 hts gJ0_checkIndex_df160_J3_checkIndex_8e157 rfl rfl rfl (by decide +kernel) ⟨Nat.le_of_ble_eq_true rfl, Nat.le_of_ble_eq_true rfl⟩) ⟨fun v U g mk q => ⟨q.1, trivial⟩, fun U hU hW => ⟨rfl, trivial⟩⟩ rfl rfl hl.1 rfl (lv_room (Nat.le_of_ble_eq_true rfl)) dJ0_checkIndex_df160_5 ⟨Nat.zero_le _, Nat.zero_le _⟩) (fun z _ => ?_)
    refine lv_pop hx hb dJ0_checkIndex_df160_8 rfl ?_
    exact W.vret hx hb hr (fun t ht _ => ⟨rfl, trivial, ht⟩) (fun _ h => by cases h) dJ0_checkIndex_df160_9
set_option maxHeartbeats 4000000 in
set_option maxRecDepth 100000 in
theorem c_J1_charAt (l : Launch) (tb : Nat → Nat) (k : Nat) (hk : k < 2) (i : Int32) (h : vp_in i (([36, 21] : List Nat).getD k 0)) : MetT l yJ1_charAt_3b067 wsJ1_charAt_3b067 ({ frames := 2, cells := 0, slots := 0, locals := 43 }) [.ref (tb (5 + k)), .int i] tb ((([bMO, bWD] : List (List Int32)).getD k []).getD i.toNatClampNeg 0) := by
  have hn : ¬ i < 0 := fun q => h (Or.inl q)
  have hlt : i < Int32.ofNat (([36, 21] : List Nat).getD k 0) := by
    have h1 : i.toNatClampNeg < ([36, 21] : List Nat).getD k 0 := Nat.not_le.mp fun q => h (Or.inr q)
    obtain ⟨j, hj, rfl⟩ := nI_of hn
    rw [show Int32.ofNat (([36, 21] : List Nat).getD k 0) = nI (([36, 21] : List Nat).getD k 0) from rfl]
    rw [nI_clamp hj] at h1
    have hs : ([36, 21] : List Nat).getD k 0 < 2 ^ 31 := by
      rcases (show k = 0 ∨ k = 1 by omega) with rfl | rfl <;> decide
    exact nI_lt h1 hs
  have hsmall : ∀ j : Nat, ((([bMO, bWD] : List (List Int32)).getD k []).getD j 0 &&& 255).toUInt32 % 65536 = (((([bMO, bWD] : List (List Int32)).getD k []).getD j 0)).toUInt32 ∧ narrow .char (.int ((([bMO, bWD] : List (List Int32)).getD k []).getD j 0)) = .int ((([bMO, bWD] : List (List Int32)).getD k []).getD j 0) := by
    intro j
    rcases (show k = 0 ∨ k = 1 by omega) with rfl | rfl
    · by_cases hj : j < 36
      · exact (show ∀ j, j < 36 → ((bMO.getD j 0 &&& 255).toUInt32 % 65536 = (bMO.getD j 0).toUInt32 ∧ narrow .char (.int (bMO.getD j 0)) = .int (bMO.getD j 0)) by decide +kernel) j hj
      · have : bMO.getD j 0 = 0 := by rw [List.getD_eq_getElem?_getD, List.getElem?_eq_none (by show 36 ≤ j; omega)]; rfl
        show (bMO.getD j 0 &&& 255).toUInt32 % 65536 = (bMO.getD j 0).toUInt32 ∧ narrow .char (.int (bMO.getD j 0)) = .int (bMO.getD j 0)
        rw [this]; decide +kernel
    · by_cases hj : j < 21
      · exact (show ∀ j, j < 21 → ((bWD.getD j 0 &&& 255).toUInt32 % 65536 = (bWD.getD j 0).toUInt32 ∧ narrow .char (.int (bWD.getD j 0)) = .int (bWD.getD j 0)) by decide +kernel) j hj
      · have : bWD.getD j 0 = 0 := by rw [List.getD_eq_getElem?_getD, List.getElem?_eq_none (by show 21 ≤ j; omega)]; rfl
        show (bWD.getD j 0 &&& 255).toUInt32 % 65536 = (bWD.getD j 0).toUInt32 ∧ narrow .char (.int (bWD.getD j 0)) = .int (bWD.getD j 0)
        rw [this]; decide +kernel
  refine met_ofF (cc := cJ1_charAt_3b067) (maxL := 2) (ret := (some .char)) (by decide +kernel) rfl (Nat.le_of_ble_eq_true rfl) ?_
  intro p e s m below meth c hx hb hr hml hts hown hlk hZ ls hl
  have hown : s.vm.findClass RJ1 = some m.cls := hown
  have hl : lv_has ls 2 [(0, .ref (tb (5 + k))), (1, .int i)] := hl
  have hS : va_S (fun _ => False) s.heap s.heap [] := va_S.rf
  have hT := (hZ.2.2.2.2.1.1 k hk).2.2.2
  refine lv_iload_n hx hb dJ1_charAt_3b067_0 rfl (lv_at hl 1 rfl) ?_
  refine lv_aload_n hx hb dJ1_charAt_3b067_1 rfl (lv_at hl 0 rfl) ?_
  refine va_tlen hx hb hT hS (v := Int32.ofNat (([36, 21] : List Nat).getD k 0)) rfl dJ1_charAt_3b067_2 ?_
  refine va_csv (W.runS (g := F0 m 3 ls _) (As := [.int i, .int (Int32.ofNat (([36, 21] : List Nat).getD k 0))]) (rest := []) ⟨hx, hb, hml, hown, hts⟩ (c_J0_checkIndex l tb i _ hn hlt) (va_cwS 2 hts gJ1_charAt_3b067_J0_checkIndex_df160 rfl rfl rfl (by decide +kernel) ⟨Nat.le_of_ble_eq_true rfl, Nat.le_of_ble_eq_true rfl⟩) ⟨zz_blind, fun U hU hW => ⟨rfl, zz_call hZ hS U hU hW⟩⟩ rfl rfl hl.1 rfl (lv_room (Nat.le_of_ble_eq_true rfl)) dJ1_charAt_3b067_3 ⟨Nat.zero_le _, Nat.zero_le _⟩) (fun _ => ?_)
  refine lv_aload_n hx hb dJ1_charAt_3b067_6 rfl (lv_at hl 0 rfl) ?_
  refine lv_iload_n hx hb dJ1_charAt_3b067_7 rfl (lv_at hl 1 rfl) ?_
  refine va_tb hx hb hT hS h rfl dJ1_charAt_3b067_8 ?_
  refine lv_sipush (v := 255) hx hb dJ1_charAt_3b067_9 (by decide) ?_
  refine lv_iand hx hb dJ1_charAt_3b067_12 ?_
  refine lv_i2c (v := (([bMO, bWD] : List (List Int32)).getD k []).getD i.toNatClampNeg 0) hx hb dJ1_charAt_3b067_13 (by first | exact congrArg UInt32.toInt32 (hsmall i.toNatClampNeg).1 | (rw [(hsmall i.toNatClampNeg).1]; rfl)) ?_
  exact W.zret hx hb hr (hsmall i.toNatClampNeg).2 (fun t ht _ => ⟨_, rfl, rfl, ht⟩) (fun _ h => by cases h) dJ1_charAt_3b067_14
set_option maxHeartbeats 4000000 in
set_option maxRecDepth 100000 in
theorem c_J0_isLatin1 (l : Launch) (tb : Nat → Nat) (k : Nat) (hk : k < 2) : MetT l yJ0_isLatin1_aae02 wsJ0_isLatin1_aae02 ({ frames := 0, cells := 0, slots := 0, locals := 0 }) [.ref (tb (3 + k))] tb 1 := by
  refine met_ofF (cc := cJ0_isLatin1_aae02) (maxL := 1) (ret := (some .boolean)) (by decide +kernel) rfl (Nat.le_of_ble_eq_true rfl) ?_
  intro p e s m below meth c hx hb hr hml hts hown hlk hZ ls hl
  have hown : s.vm.findClass RJ0 = some m.cls := hown
  have hl : lv_has ls 1 [(0, .ref (tb (3 + k)))] := hl
  have hS : va_S (fun _ => False) s.heap s.heap [] := va_S.rf
  refine va_gets hx hb hZ.2.2.2.2.2.1 hS hown (hts (.fieldLink RJ0 38 "java/lang/String" "COMPACT_STRINGS" "Z") (by decide +kernel)) (fun _ h9 => h9) dJ0_isLatin1_aae02_0 ?_
  refine lv_if_eq (tgt := 17) hx hb dJ0_isLatin1_aae02_3 (by decide) (fun c1 => absurd c1 (by decide)) (fun _ => ?_)
  refine lv_aload_n hx hb dJ0_isLatin1_aae02_6 rfl (lv_at hl 0 rfl) ?_
  refine vk_getf hx hb (hZ.2.2.2.2.1.1 k hk).2.1 hS hown (hts (.fieldLink RJ0 15 "java/lang/String" "coder" "B") (by decide +kernel)) (fun _ h9 => h9) dJ0_isLatin1_aae02_7 ?_
  refine lv_if_ne (tgt := 17) hx hb dJ0_isLatin1_aae02_10 (by decide) (fun c1 => absurd rfl c1) (fun _ => ?_)
  refine lv_iconst (v := 1) hx hb dJ0_isLatin1_aae02_13 (by decide) ?_
  refine lv_goto (tgt := 18) hx hb dJ0_isLatin1_aae02_14 (by decide) ?_
  exact W.zret (v := 1) hx hb hr rfl (fun t ht _ => ⟨1, rfl, rfl, ht⟩) (fun _ h => by cases h) dJ0_isLatin1_aae02_18
set_option maxHeartbeats 4000000 in
set_option maxRecDepth 100000 in
theorem c_J0_coder (l : Launch) (tb : Nat → Nat) (k : Nat) (hk : k < 2) : MetT l yJ0_coder_7d493 wsJ0_coder_7d493 ({ frames := 0, cells := 0, slots := 0, locals := 0 }) [.ref (tb (3 + k))] tb 0 := by
  refine met_ofF (cc := cJ0_coder_7d493) (maxL := 1) (ret := (some .byte)) (by decide +kernel) rfl (Nat.le_of_ble_eq_true rfl) ?_
  intro p e s m below meth c hx hb hr hml hts hown hlk hZ ls hl
  have hown : s.vm.findClass RJ0 = some m.cls := hown
  have hl : lv_has ls 1 [(0, .ref (tb (3 + k)))] := hl
  have hS : va_S (fun _ => False) s.heap s.heap [] := va_S.rf
  refine va_gets hx hb hZ.2.2.2.2.2.1 hS hown (hts (.fieldLink RJ0 38 "java/lang/String" "COMPACT_STRINGS" "Z") (by decide +kernel)) (fun _ h9 => h9) dJ0_coder_7d493_0 ?_
  refine lv_if_eq (tgt := 13) hx hb dJ0_coder_7d493_3 (by decide) (fun c1 => absurd c1 (by decide)) (fun _ => ?_)
  refine lv_aload_n hx hb dJ0_coder_7d493_6 rfl (lv_at hl 0 rfl) ?_
  refine vk_getf hx hb (hZ.2.2.2.2.1.1 k hk).2.1 hS hown (hts (.fieldLink RJ0 15 "java/lang/String" "coder" "B") (by decide +kernel)) (fun _ h9 => h9) dJ0_coder_7d493_7 ?_
  refine lv_goto (tgt := 14) hx hb dJ0_coder_7d493_10 (by decide) ?_
  exact W.zret (v := 0) hx hb hr rfl (fun t ht _ => ⟨0, rfl, rfl, ht⟩) (fun _ h => by cases h) dJ0_coder_7d493_14
set_option maxHeartbeats 4000000 in
set_option maxRecDepth 100000 in
theorem c_J0_length (l : Launch) (tb : Nat → Nat) (k : Nat) (hk : k < 2) : MetT l yJ0_length_8abf5 wsJ0_length_8abf5 ({ frames := 2, cells := 0, slots := 0, locals := 60 }) [.ref (tb (3 + k))] tb (Int32.ofNat (([36, 21] : List Nat).getD k 0)) := by
  refine met_ofF (cc := cJ0_length_8abf5) (maxL := 1) (ret := (some .int)) (by decide +kernel) rfl (Nat.le_of_ble_eq_true rfl) ?_
  intro p e s m below meth c hx hb hr hml hts hown hlk hZ ls hl
  have hown : s.vm.findClass RJ0 = some m.cls := hown
  have hl : lv_has ls 1 [(0, .ref (tb (3 + k)))] := hl
  have hS : va_S (fun _ => False) s.heap s.heap [] := va_S.rf
  have hT := (hZ.2.2.2.2.1.1 k hk).2.2.2
  refine lv_aload_n hx hb dJ0_length_8abf5_0 rfl (lv_at hl 0 rfl) ?_
  refine vk_getf hx hb (hZ.2.2.2.2.1.1 k hk).2.2.1 hS hown (hts (.fieldLink RJ0 9 "java/lang/String" "value" "[B") (by decide +kernel)) (fun _ h9 => h9) dJ0_length_8abf5_1 ?_
  refine va_tlen hx hb hT hS (v := Int32.ofNat (([36, 21] : List Nat).getD k 0)) rfl dJ0_length_8abf5_4 ?_
  refine lv_aload_n hx hb dJ0_length_8abf5_5 rfl (lv_at hl 0 rfl) ?_
  refine w_callS (b := tb (3 + k)) (As := []) (rest := [.int (Int32.ofNat (([36, 21] : List Nat).getD k 0))]) ⟨hx, hb, hml, hown, hts⟩ (c_J0_coder l tb k hk) (cwV 0 hts gJ0_length_8abf5_J0_coder_7d493 rfl rfl rfl (by decide +kernel) ⟨Nat.le_of_ble_eq_true rfl, Nat.le_of_ble_eq_true rfl⟩) hZ hS (vk_recv (adK := fun i => tb (3 + i)) (i := k) hZ.2.2.2.2.1 hk hS) rfl hl.1 rfl (Nat.le_of_ble_eq_true rfl) ⟨Nat.zero_le _, Nat.zero_le _⟩ dJ0_length_8abf5_6 ?_
  refine lv_ishr hx hb dJ0_length_8abf5_9 ?_
  refine w_nm (z := Int32.ofNat (([36, 21] : List Nat).getD k 0)) (sb_shr0 _).symm ?_
  exact W.iret hx hb hr (fun t ht _ => ⟨_, rfl, rfl, ht⟩) (fun _ h => by cases h) dJ0_length_8abf5_10
set_option maxHeartbeats 4000000 in
set_option maxRecDepth 100000 in
theorem c_J0_charAt (l : Launch) (tb : Nat → Nat) (k : Nat) (hk : k < 2) (i : Int32) (h : vp_in i (([36, 21] : List Nat).getD k 0)) : MetT l yJ0_charAt_5068e wsJ0_charAt_5068e ({ frames := 3, cells := 0, slots := 0, locals := 70 }) [.ref (tb (3 + k)), .int i] tb ((([bMO, bWD] : List (List Int32)).getD k []).getD i.toNatClampNeg 0) := by
  refine met_ofF (cc := cJ0_charAt_5068e) (maxL := 2) (ret := (some .char)) (by decide +kernel) rfl (Nat.le_of_ble_eq_true rfl) ?_
  intro p e s m below meth c hx hb hr hml hts hown hlk hZ ls hl
  have hown : s.vm.findClass RJ0 = some m.cls := hown
  have hl : lv_has ls 2 [(0, .ref (tb (3 + k))), (1, .int i)] := hl
  have hS : va_S (fun _ => False) s.heap s.heap [] := va_S.rf
  have hc : narrow .char (.int ((([bMO, bWD] : List (List Int32)).getD k []).getD i.toNatClampNeg 0)) = .int ((([bMO, bWD] : List (List Int32)).getD k []).getD i.toNatClampNeg 0) := by
    have h1 : i.toNatClampNeg < ([36, 21] : List Nat).getD k 0 := Nat.not_le.mp fun q => h (Or.inr q)
    rcases (show k = 0 ∨ k = 1 by omega) with rfl | rfl
    · exact (show ∀ j, j < 36 → narrow .char (.int (bMO.getD j 0)) = .int (bMO.getD j 0) by decide +kernel) _ h1
    · exact (show ∀ j, j < 21 → narrow .char (.int (bWD.getD j 0)) = .int (bWD.getD j 0) by decide +kernel) _ h1
  refine lv_aload_n hx hb dJ0_charAt_5068e_0 rfl (lv_at hl 0 rfl) ?_
  refine w_callS (b := tb (3 + k)) (As := []) (rest := []) ⟨hx, hb, hml, hown, hts⟩ (c_J0_isLatin1 l tb k hk) (cwV 0 hts gJ0_charAt_5068e_J0_isLatin1_aae02 rfl rfl rfl (by decide +kernel) ⟨Nat.le_of_ble_eq_true rfl, Nat.le_of_ble_eq_true rfl⟩) hZ hS (vk_recv (adK := fun i => tb (3 + i)) (i := k) hZ.2.2.2.2.1 hk hS) rfl hl.1 rfl (Nat.le_of_ble_eq_true rfl) ⟨Nat.zero_le _, Nat.zero_le _⟩ dJ0_charAt_5068e_1 ?_
  refine lv_if_eq (tgt := 16) hx hb dJ0_charAt_5068e_4 (by decide) (fun c1 => absurd c1 (by decide)) (fun _ => ?_)
  refine lv_aload_n hx hb dJ0_charAt_5068e_7 rfl (lv_at hl 0 rfl) ?_
  refine vk_getf hx hb (hZ.2.2.2.2.1.1 k hk).2.2.1 hS hown (hts (.fieldLink RJ0 9 "java/lang/String" "value" "[B") (by decide +kernel)) (fun _ h9 => h9) dJ0_charAt_5068e_8 ?_
  refine lv_iload_n hx hb dJ0_charAt_5068e_11 rfl (lv_at hl 1 rfl) ?_
  refine w_callT (As := [.ref (tb (5 + k)), .int i]) (rest := []) ⟨hx, hb, hml, hown, hts⟩ (c_J1_charAt l tb k hk i h) (va_cwS 2 hts gJ0_charAt_5068e_J1_charAt_3b067 rfl rfl rfl (by decide +kernel) ⟨Nat.le_of_ble_eq_true rfl, Nat.le_of_ble_eq_true rfl⟩) hZ hS rfl hl.1 rfl (Nat.le_of_ble_eq_true rfl) ⟨Nat.zero_le _, Nat.zero_le _⟩ dJ0_charAt_5068e_12 ?_
  exact W.zret hx hb hr hc (fun t ht _ => ⟨_, rfl, rfl, ht⟩) (fun _ h => by cases h) dJ0_charAt_5068e_15
theorem c_J0_length_8abf5_3 (l : Launch) (tb : Nat → Nat) (r : Int32) (hf : fJ0_length_8abf5_3 = some r) : MetT l yJ0_length_8abf5 wsJ0_length_8abf5 ({ frames := 2, cells := 0, slots := 0, locals := 60 }) [.ref (tb 3)] tb r := by
  have e := so_i hf
  rw [← e]
  exact c_J0_length l tb 0 (by decide)
theorem c_J0_length_8abf5_4 (l : Launch) (tb : Nat → Nat) (r : Int32) (hf : fJ0_length_8abf5_4 = some r) : MetT l yJ0_length_8abf5 wsJ0_length_8abf5 ({ frames := 2, cells := 0, slots := 0, locals := 60 }) [.ref (tb 4)] tb r := by
  have e := so_i hf
  rw [← e]
  exact c_J0_length l tb 1 (by decide)
theorem c_J0_charAt_5068e_3 (l : Launch) (tb : Nat → Nat) (i r : Int32) (hf : fJ0_charAt_5068e_3 i = some r) : MetT l yJ0_charAt_5068e wsJ0_charAt_5068e ({ frames := 3, cells := 0, slots := 0, locals := 70 }) [.ref (tb 3), .int i] tb r := by
  obtain ⟨h, hf⟩ := ix_e hf
  have e := so_i hf
  rw [← e]
  exact c_J0_charAt l tb 0 (by decide) i h
theorem c_J0_charAt_5068e_4 (l : Launch) (tb : Nat → Nat) (i r : Int32) (hf : fJ0_charAt_5068e_4 i = some r) : MetT l yJ0_charAt_5068e wsJ0_charAt_5068e ({ frames := 3, cells := 0, slots := 0, locals := 70 }) [.ref (tb 4), .int i] tb r := by
  obtain ⟨h, hf⟩ := ix_e hf
  have e := so_i hf
  rw [← e]
  exact c_J0_charAt l tb 1 (by decide) i h
