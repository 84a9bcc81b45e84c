/-! The law from its entry. -/
/-- the addresses of all, one behind another -/
def aL (a b : Nat → Nat) (o : Nat) (k : Nat) : Nat := if k < 24 then a k else if k < 38 then b (k - 24) else o
theorem LI_of {D : va_G} {cI cB cL : ClassId} {a b tb sa : Nat → Nat} {o : Nat} {s : State} {u v : ST} {g : Nat → Int64} (hK : va_K D vwCl [(cI, .int), (cB, .byte), (cL, .long)] s) (hD : va_D (nuf s) ((cw cI a u ++ mw cI cB b v) ++ [(o, .inl (cL, 1, .inr (.inl g)))])) (hpA : pA tb sa (nuf s) s s.heap) : LI D cI cB cL a b tb sa o s := by
  obtain ⟨h1, h2⟩ := w_inv (N := 39) (a := aL a b o) rfl hD
  have e8 : ∀ i, i < 24 → aL a b o i = a i := fun i hi => by unfold aL; rw [if_pos hi]
  have e9 : ∀ i, i < 14 → aL a b o (24 + i) = b i := fun i hi => by unfold aL; rw [if_neg (by omega), if_pos (by omega), Nat.add_sub_cancel_left]
  have eo : aL a b o 38 = o := rfl
  refine ⟨hK, ⟨fun i j hi hj e => h1 i j (by omega) (by omega) (by rw [e8 i hi, e8 j hj]; exact e), fun i j hi hj e => ?_⟩, ⟨fun i j hi hj e => ?_, fun i hi e => ?_, fun i hi e => ?_⟩, ⟨fun i hi => ?_, fun i hi => ?_, ?_⟩, hpA⟩
  · have := h1 (24 + i) (24 + j) (by omega) (by omega) (by rw [e9 i hi, e9 j hj]; exact e)
    omega
  · have := h1 i (24 + j) (by omega) (by omega) (by rw [e8 i hi, e9 j hj]; exact e)
    omega
  · have := h1 i 38 (by omega) (by omega) (by rw [e8 i hi, eo]; exact e)
    omega
  · have := h1 (24 + i) 38 (by omega) (by omega) (by rw [e9 i hi, eo]; exact e)
    omega
  · rw [← e8 i hi]; exact h2 i (by omega)
  · rw [← e9 i hi]; exact h2 (24 + i) (by omega)
  · rw [← eo]; exact h2 38 (by omega)
set_option maxHeartbeats 4000000 in
set_option maxRecDepth 100000 in
theorem whole_start {p : Program} {e : Env} {s : State} {m : MethodId} {below : List Frame} {meth : Method} {c : Code} (l : Launch) (hlt : l.stackTraces = false) {b L : Nat} {xs : Nat → Int32} (hL : L ≤ 2048) (C0 : lw_At p s m meth c b L xs) : W p l e room_1 s m #[Value.ref b] below meth c s.heap [] 0 0 (lw_Z below #[Value.ref b] s) (entryFrame m ([Value.ref b] : List Value).toArray 7) := by
  obtain ⟨hx, hb, hr, hml, hown, hts0, hX, hbl, hlocks, hgv⟩ := id C0
  have hown : s.vm.findClass RL = some m.cls := hown
  have hts : ∀ w ∈ wsL_law, w.before #[Value.ref b] s = true := fun w h => hts0 w (wsL_law_in w h)
  obtain ⟨D, cI, cB, cL, hK⟩ := K_start C0
  obtain ⟨tb, sa, hpA⟩ := pA_start C0
  have hA : ∀ q : Nat, s.heap.size ≤ q → nuf s q := fun _ h => h
  have hS : va_S (nuf s) s.heap s.heap [] := va_S.rf
  have hP : va_P D vwCl [] s.heap := fun k q h => by simp at h
  have hD : va_D (nuf s) [] := ⟨fun i j p q h => by simp at h, fun k q h => by simp at h⟩
  have hl := lv_entry ([.ref b]) (n := 7) (Nat.le_of_ble_eq_true rfl)
  rw [lg_entry_eq]
  generalize (lg_sl ([.ref b]) ++ List.replicate (7 - (lg_sl ([.ref b])).length) Slot.unset).toArray = ls at hl ⊢
  have hl : lv_has ls 7 [(0, .ref b)] := hl
  refine va_new (ci := 6) (fs := [.null, .null, .null, .null, .null, .null, .int 0, .int 0]) (C := RX8) (T := TX8) (N := 8) hx hb hts0 inX8 tyX8 tyX8_ok hown (hts (.classLink RL 8 RX8) (by decide +kernel)) (hts (.instantiable RX8 8) (by decide +kernel)) (hts (.initialized RX8) (by decide +kernel)) hK hP hD hS hA rfl (fun j hj => by rcases (show j = 0 ∨ j = 1 ∨ j = 2 ∨ j = 3 ∨ j = 4 ∨ j = 5 ∨ j = 6 ∨ j = 7 by omega) with rfl | rfl | rfl | rfl | rfl | rfl | rfl | rfl <;> rfl) (Nat.le_of_ble_eq_true rfl) (Nat.le_of_ble_eq_true rfl) dL_law_0 (fun q0 H hP hD hS => ?_)
  have hP : va_P D vwCl [(q0, .inr (6, [.null, .null, .null, .null, .null, .null, .int 0, .int 0]))] H := hP
  have hD : va_D (nuf s) [(q0, .inr (6, [.null, .null, .null, .null, .null, .null, .int 0, .int 0]))] := hD
  refine W.widen (k := 1) (n := 8) (by decide) (by decide) ?_
  refine lv_dup hx hb dL_law_3 rfl ?_
  have hFc := va_free (wc := [(q0, .inr (6, [.null, .null, .null, .null, .null, .null, .int 0, .int 0]))]) hD hS hA [0] rfl
  refine va_callv (va_runI (As := []) (rest := [.ref q0]) ⟨hx, hb, hml, hown, hts⟩ (c_X8_init l D cI q0 H.size) (cwI 0 hts gL_law_X8_init rfl rfl rfl (hts (.initialized RX8) (by decide +kernel)) (hts (.methodLink RL 15 yX8_init) (by decide +kernel)) (hts (.instanceMethod yX8_init) (by decide +kernel)) rfl (by decide +kernel) ⟨Nat.le_of_ble_eq_true rfl, Nat.le_of_ble_eq_true rfl⟩) ⟨ct_blind, fun U hU hW => ⟨rfl, by rw [hU], by rw [hU]; exact hP, va_K.moved hW.alike (hK.sub [0] rfl), hD.weaken (fun _ _ _ _ => trivial)⟩⟩ rfl rfl hl.1 rfl (lv_room (Nat.le_of_ble_eq_true rfl)) dL_law_4 ⟨Nat.le_of_ble_eq_true rfl, Nat.le_of_ble_eq_true rfl⟩) hS (fun q _ h => hFc q h) hFc (fun u t H1 locs ht hvm hw hB hz1 hk1 hS => ?_)
  obtain ⟨hP1, hD1⟩ := hB
  rw [ht] at hP1
  obtain ⟨hP, hD⟩ := va_join (wr := []) (w1 := wX8 cI q0 u) hP hD [0] [] rfl rfl (by decide) (by decide) hk1 hFc hP1 hD1
  generalize H1 = H at hP hS ⊢
  have hP : va_P D vwCl (wX8 cI q0 u) H := hP
  have hD : va_D (nuf s) (wX8 cI q0 u) := hD
  refine W.widen (k := 24) (n := 2133) (by decide) (by decide) ?_
  refine lv_astore_n (lv' := [(1, .ref q0), (0, .ref b)]) hx hb dL_law_7 rfl hl (by decide) rfl (fun ls hl => ?_)
  refine va_new (ci := 7) (fs := [.int 0, .null, .null, .null, .null, .null, .null, .null, .int 0, .int 0, .int 0, .int 0, .int 0, .int 0, .int 0, .int 0, .int 0, .int 0, .int 0, .null, .null, .null, .null, .null, .int 0, .null, .int 0]) (C := RX9) (T := TX9) (N := 27) hx hb hts0 inX9 tyX9 tyX9_ok hown (hts (.classLink RL 16 RX9) (by decide +kernel)) (hts (.instantiable RX9 27) (by decide +kernel)) (hts (.initialized RX9) (by decide +kernel)) hK hP hD hS hA rfl (fun j hj => by rcases (show j = 0 ∨ j = 1 ∨ j = 2 ∨ j = 3 ∨ j = 4 ∨ j = 5 ∨ j = 6 ∨ j = 7 ∨ j = 8 ∨ j = 9 ∨ j = 10 ∨ j = 11 ∨ j = 12 ∨ j = 13 ∨ j = 14 ∨ j = 15 ∨ j = 16 ∨ j = 17 ∨ j = 18 ∨ j = 19 ∨ j = 20 ∨ j = 21 ∨ j = 22 ∨ j = 23 ∨ j = 24 ∨ j = 25 ∨ j = 26 by omega) with rfl | rfl | rfl | rfl | rfl | rfl | rfl | rfl | rfl | rfl | rfl | rfl | rfl | rfl | rfl | rfl | rfl | rfl | rfl | rfl | rfl | rfl | rfl | rfl | rfl | rfl | rfl <;> rfl) (Nat.le_of_ble_eq_true rfl) (Nat.le_of_ble_eq_true rfl) dL_law_8 (fun q1 H hP hD hS => ?_)
  refine W.widen (k := 25) (n := 2160) (by decide) (by decide) ?_
  refine lv_dup hx hb dL_law_11 rfl ?_
  have hP9 : va_P D vwCl [(q1, .inr (7, [.int 0, .null, .null, .null, .null, .null, .null, .null, .int 0, .int 0, .int 0, .int 0, .int 0, .int 0, .int 0, .int 0, .int 0, .int 0, .int 0, .null, .null, .null, .null, .null, .int 0, .null, .int 0]))] H := hP.sub [24] rfl
  have hD9 : va_D (nuf s) [(q1, .inr (7, [.int 0, .null, .null, .null, .null, .null, .null, .null, .int 0, .int 0, .int 0, .int 0, .int 0, .int 0, .int 0, .int 0, .int 0, .int 0, .int 0, .null, .null, .null, .null, .null, .int 0, .null, .int 0]))] := hD.sub [24] (by decide) rfl
  have hFc := va_free (wc := [(q1, .inr (7, [.int 0, .null, .null, .null, .null, .null, .null, .null, .int 0, .int 0, .int 0, .int 0, .int 0, .int 0, .int 0, .int 0, .int 0, .int 0, .int 0, .null, .null, .null, .null, .null, .int 0, .null, .int 0]))]) hD9 hS hA [0] rfl
  refine va_callv (va_runI (As := []) (rest := [.ref q1]) ⟨hx, hb, hml, hown, hts⟩ (c_X9_init l D cI cB q1 H.size) (cwI 0 hts gL_law_X9_init rfl rfl rfl (hts (.initialized RX9) (by decide +kernel)) (hts (.methodLink RL 18 yX9_init) (by decide +kernel)) (hts (.instanceMethod yX9_init) (by decide +kernel)) rfl (by decide +kernel) ⟨Nat.le_of_ble_eq_true rfl, Nat.le_of_ble_eq_true rfl⟩) ⟨ct_blind, fun U hU hW => ⟨rfl, by rw [hU], by rw [hU]; exact hP9, va_K.moved hW.alike (hK.sub [0, 1] rfl), hD9.weaken (fun _ _ _ _ => trivial)⟩⟩ rfl rfl hl.1 rfl (lv_room (Nat.le_of_ble_eq_true rfl)) dL_law_12 ⟨Nat.le_of_ble_eq_true rfl, Nat.le_of_ble_eq_true rfl⟩) hS (fun q _ h => hFc q h) hFc (fun u9 t H1 locs ht hvm hw hB hz1 hk1 hS => ?_)
  obtain ⟨hP1, hD1⟩ := hB
  rw [ht] at hP1
  obtain ⟨hP, hD⟩ := va_join (wr := wX8 cI q0 u) (w1 := wX9 cI cB q1 u9) hP hD [24] [0, 1, 2, 3, 4, 5, 6, 7, 8, 9, 10, 11, 12, 13, 14, 15, 16, 17, 18, 19, 20, 21, 22, 23] rfl rfl (by decide) (by decide) hk1 hFc hP1 hD1
  generalize H1 = H at hP hS ⊢
  refine W.widen (k := 38) (n := 4335) (by decide) (by decide) ?_
  refine lv_astore_n (lv' := [(2, .ref q1), (1, .ref q0), (0, .ref b)]) hx hb dL_law_15 rfl hl (by decide) rfl (fun ls hl => ?_)
  refine lv_iconst (v := 1) hx hb dL_law_16 (by decide) ?_
  refine w_newa (cI := cL) (ty := .long) (N' := 1) (a0 := (1, .inr (.inl (fun _ => 0)))) hx hb (hts (.arrayClass .long) (by decide +kernel)) rfl hK 2 rfl hP hD hS hA (fun _ => rfl) (by decide) (by decide) (by decide) (Nat.le_of_ble_eq_true rfl) (Nat.le_of_ble_eq_true rfl) dL_law_17 (fun o H hP hD hS => ?_)
  refine W.widen (k := 40) (n := 4400) (by decide) (by decide) ?_
  refine lv_astore_n (lv' := [(3, .ref o), (2, .ref q1), (1, .ref q0), (0, .ref b)]) hx hb dL_law_19 rfl hl (by decide) rfl (fun ls hl => ?_)
  refine lv_iconst (v := 0) hx hb dL_law_20 (by decide) ?_
  refine lv_istore (lv' := [(4, .int 0), (3, .ref o), (2, .ref q1), (1, .ref q0), (0, .ref b)]) hx hb dL_law_21 hl (by decide) rfl (fun ls hl => ?_)
  have hD : va_D (nuf s) ((cw cI (aX8 q0 u) c00 ++ mw cI cB (aX9 q1 u9) m00) ++ [(o, .inl (cL, 1, .inr (.inl (fun _ => 0))))]) := hD.sub [0, 1, 3, 6, 9, 10, 16, 22, 2, 4, 5, 7, 8, 11, 12, 13, 14, 15, 17, 18, 19, 20, 21, 23, 24, 25, 26, 27, 28, 29, 30, 31, 32, 33, 34, 35, 36, 37, 38] (by decide) rfl
  have h8 : va_P D vwCl (cw cI (aX8 q0 u) c00) H := hP.sub [0, 1, 3, 6, 9, 10, 16, 22, 2, 4, 5, 7, 8, 11, 12, 13, 14, 15, 17, 18, 19, 20, 21, 23] rfl
  have h9 : va_P D vwCl (mw cI cB (aX9 q1 u9) m00) H := hP.sub [24, 25, 26, 27, 28, 29, 30, 31, 32, 33, 34, 35, 36, 37] rfl
  have ho : va_P D vwCl [(o, .inl (cL, 1, .inr (.inl (fun _ => 0))))] H := hP.sub [38] rfl
  exact law_loop hlt hL C0 (LI_of hK hD hpA) (L + 1) 0 40 4400 (Nat.zero_le _) (by omega) (by decide) (by decide) c00 m00 (fun _ => 0) H locs ls rel0 ⟨h8, h9, ho, hS⟩ (lv_sub hl [4, 3, 2, 1, 0] rfl)
