section LWK
variable {p : Program} {l : Launch} {e : Env} {s : State} {m : MethodId} {below : List Frame} {meth : Method} {c : Code} {H : Heap} {locs : List Loc} {cells slots : Nat} {Q : State → Prop} {ls : Array Slot}
variable {D : va_G} {cI cB cL : ClassId} {a b tb sa : Nat → Nat} {o sc L : Nat} {xs : Nat → Int32} {u v : ST} {g : Nat → Int64} {x4 : Int32}
set_option maxHeartbeats 4000000 in
set_option maxRecDepth 100000 in
theorem law_told (C0 : lw_At p s m meth c sc L xs) (hI : LI D cI cB cL a b tb sa o s) (hH : LH D cI cB cL a b o u v g s H locs) (hR : Rel u v) (hl : lv_has ls 7 [(0, .ref sc), (1, .ref (a 0)), (2, .ref (b 0)), (3, .ref o), (4, .int x4)]) (h1 : vp_in (x4 + 1) L) (h2 : vp_in (x4 + 2) L) (h3 : vp_in (x4 + 3) L) (hc : cells + 1 ≤ room_1.cells ∧ slots + 6 ≤ room_1.slots)
    (K : ∀ (u v : ST) (g : Nat → Int64) (H : Heap) (locs : List Loc) (ls : Array Slot), Rel u v → LH D cI cB cL a b o u v g s H locs → lv_has ls 7 [(0, .ref sc), (1, .ref (a 0)), (2, .ref (b 0)), (3, .ref o), (4, .int x4)] → W p l e room_1 s m #[Value.ref sc] below meth c H locs (cells + 1) (slots + 6) Q (F0 m 762 ls [])) : W p l e room_1 s m #[Value.ref sc] below meth c H locs cells slots Q (F0 m 396 ls []) := by
  obtain ⟨hx, hb, hr, hml, hown, hts0, hX, hbl, hlocks, hgv⟩ := id C0
  have hown : s.vm.findClass RL = some m.cls := hown
  have hts : ∀ w ∈ wsL_law, w.before #[Value.ref sc] s = true := fun w h => hts0 w (wsL_law_in w h)
  have hf : cells ≤ room_1.cells ∧ slots ≤ room_1.slots := ⟨Nat.le_of_succ_le hc.1, Nat.le_trans (Nat.le_add_right _ _) hc.2⟩
  obtain ⟨r, u1, v1, e1, e2, hR1⟩ := k_told hR (xs (x4 + 1).toNatClampNeg)
  refine lv_aload_n hx hb dL_law_396 rfl (lv_at hl 1 rfl) ?_
  refine L_ld (k := 1) (kv := 1) hx hb hX hbl hH.2.2.2 (lv_at hl 0 rfl) (lv_at hl 4 rfl) h1 dL_law_397 dL_law_398 dL_law_400 dL_law_401 dL_law_402 (by decide) ?_
  refine L8W (As := [.int (xs (x4 + 1).toNatClampNeg)]) (rest := []) hI hH ⟨hx, hb, hml, hown, hts⟩ (c_X8_told l D cI a tb u (xs (x4 + 1).toNatClampNeg) _ e1) (cwV 1 hts gL_law_X8_told rfl rfl rfl (by decide +kernel) ⟨Nat.le_of_ble_eq_true rfl, Nat.le_of_ble_eq_true rfl⟩) rfl hl.1 rfl (Nat.le_of_ble_eq_true rfl) hf dL_law_403 (fun H locs hH => ?_)
  refine lv_aload_n hx hb dL_law_406 rfl (lv_at hl 2 rfl) ?_
  refine L_ld (k := 1) (kv := 1) hx hb hX hbl hH.2.2.2 (lv_at hl 0 rfl) (lv_at hl 4 rfl) h1 dL_law_407 dL_law_408 dL_law_410 dL_law_411 dL_law_412 (by decide) ?_
  refine L9W (As := [.int (xs (x4 + 1).toNatClampNeg)]) (rest := [.int r]) hI hH ⟨hx, hb, hml, hown, hts⟩ (c_X9_told l D cI cB b tb v (xs (x4 + 1).toNatClampNeg) _ e2) (cwV 1 hts gL_law_X9_told rfl rfl rfl (by decide +kernel) ⟨Nat.le_of_ble_eq_true rfl, Nat.le_of_ble_eq_true rfl⟩) rfl hl.1 rfl (Nat.le_of_ble_eq_true rfl) hf dL_law_413 (fun H locs hH => ?_)
  exact lv_icmp_eq (tgt := 762) hx hb dL_law_416 (by decide) (fun _ => W.widen (Nat.le_add_right _ _) (Nat.le_add_right _ _) (K _ _ _ _ _ _ hR1 hH hl)) (fun q => absurd rfl q)
set_option maxHeartbeats 4000000 in
set_option maxRecDepth 100000 in
theorem law_day (C0 : lw_At p s m meth c sc L xs) (hI : LI D cI cB cL a b tb sa o s) (hH : LH D cI cB cL a b o u v g s H locs) (hR : Rel u v) (hl : lv_has ls 7 [(0, .ref sc), (1, .ref (a 0)), (2, .ref (b 0)), (3, .ref o), (4, .int x4)]) (h1 : vp_in (x4 + 1) L) (h2 : vp_in (x4 + 2) L) (h3 : vp_in (x4 + 3) L) (hc : cells + 1 ≤ room_1.cells ∧ slots + 6 ≤ room_1.slots)
    (K : ∀ (u v : ST) (g : Nat → Int64) (H : Heap) (locs : List Loc) (ls : Array Slot), Rel u v → LH D cI cB cL a b o u v g s H locs → lv_has ls 7 [(0, .ref sc), (1, .ref (a 0)), (2, .ref (b 0)), (3, .ref o), (4, .int x4)] → W p l e room_1 s m #[Value.ref sc] below meth c H locs (cells + 1) (slots + 6) Q (F0 m 762 ls [])) : W p l e room_1 s m #[Value.ref sc] below meth c H locs cells slots Q (F0 m 421 ls []) := by
  obtain ⟨hx, hb, hr, hml, hown, hts0, hX, hbl, hlocks, hgv⟩ := id C0
  have hown : s.vm.findClass RL = some m.cls := hown
  have hts : ∀ w ∈ wsL_law, w.before #[Value.ref sc] s = true := fun w h => hts0 w (wsL_law_in w h)
  have hf : cells ≤ room_1.cells ∧ slots ≤ room_1.slots := ⟨Nat.le_of_succ_le hc.1, Nat.le_trans (Nat.le_add_right _ _) hc.2⟩
  obtain ⟨r, u1, v1, e1, e2, hR1⟩ := k_day hR (xs (x4 + 1).toNatClampNeg) (xs (x4 + 2).toNatClampNeg)
  refine lv_aload_n hx hb dL_law_421 rfl (lv_at hl 1 rfl) ?_
  refine L_ld (k := 1) (kv := 1) hx hb hX hbl hH.2.2.2 (lv_at hl 0 rfl) (lv_at hl 4 rfl) h1 dL_law_422 dL_law_423 dL_law_425 dL_law_426 dL_law_427 (by decide) ?_
  refine L_ld (k := 2) (kv := 2) hx hb hX hbl hH.2.2.2 (lv_at hl 0 rfl) (lv_at hl 4 rfl) h2 dL_law_428 dL_law_429 dL_law_431 dL_law_432 dL_law_433 (by decide) ?_
  refine L8W (As := [.int (xs (x4 + 1).toNatClampNeg), .int (xs (x4 + 2).toNatClampNeg)]) (rest := []) hI hH ⟨hx, hb, hml, hown, hts⟩ (c_X8_day l D cI a tb u (xs (x4 + 1).toNatClampNeg) (xs (x4 + 2).toNatClampNeg) _ e1) (cwV 2 hts gL_law_X8_day rfl rfl rfl (by decide +kernel) ⟨Nat.le_of_ble_eq_true rfl, Nat.le_of_ble_eq_true rfl⟩) rfl hl.1 rfl (Nat.le_of_ble_eq_true rfl) hf dL_law_434 (fun H locs hH => ?_)
  refine lv_aload_n hx hb dL_law_437 rfl (lv_at hl 2 rfl) ?_
  refine L_ld (k := 1) (kv := 1) hx hb hX hbl hH.2.2.2 (lv_at hl 0 rfl) (lv_at hl 4 rfl) h1 dL_law_438 dL_law_439 dL_law_441 dL_law_442 dL_law_443 (by decide) ?_
  refine L_ld (k := 2) (kv := 2) hx hb hX hbl hH.2.2.2 (lv_at hl 0 rfl) (lv_at hl 4 rfl) h2 dL_law_444 dL_law_445 dL_law_447 dL_law_448 dL_law_449 (by decide) ?_
  refine L9W (As := [.int (xs (x4 + 1).toNatClampNeg), .int (xs (x4 + 2).toNatClampNeg)]) (rest := [.int r]) hI hH ⟨hx, hb, hml, hown, hts⟩ (c_X9_day l D cI cB b tb v (xs (x4 + 1).toNatClampNeg) (xs (x4 + 2).toNatClampNeg) _ e2) (cwV 2 hts gL_law_X9_day rfl rfl rfl (by decide +kernel) ⟨Nat.le_of_ble_eq_true rfl, Nat.le_of_ble_eq_true rfl⟩) rfl hl.1 rfl (Nat.le_of_ble_eq_true rfl) hf dL_law_450 (fun H locs hH => ?_)
  exact lv_icmp_eq (tgt := 762) hx hb dL_law_453 (by decide) (fun _ => W.widen (Nat.le_add_right _ _) (Nat.le_add_right _ _) (K _ _ _ _ _ _ hR1 hH hl)) (fun q => absurd rfl q)
set_option maxHeartbeats 4000000 in
set_option maxRecDepth 100000 in
theorem law_kind (C0 : lw_At p s m meth c sc L xs) (hI : LI D cI cB cL a b tb sa o s) (hH : LH D cI cB cL a b o u v g s H locs) (hR : Rel u v) (hl : lv_has ls 7 [(0, .ref sc), (1, .ref (a 0)), (2, .ref (b 0)), (3, .ref o), (4, .int x4)]) (h1 : vp_in (x4 + 1) L) (h2 : vp_in (x4 + 2) L) (h3 : vp_in (x4 + 3) L) (hc : cells + 1 ≤ room_1.cells ∧ slots + 6 ≤ room_1.slots)
    (K : ∀ (u v : ST) (g : Nat → Int64) (H : Heap) (locs : List Loc) (ls : Array Slot), Rel u v → LH D cI cB cL a b o u v g s H locs → lv_has ls 7 [(0, .ref sc), (1, .ref (a 0)), (2, .ref (b 0)), (3, .ref o), (4, .int x4)] → W p l e room_1 s m #[Value.ref sc] below meth c H locs (cells + 1) (slots + 6) Q (F0 m 762 ls [])) : W p l e room_1 s m #[Value.ref sc] below meth c H locs cells slots Q (F0 m 458 ls []) := by
  obtain ⟨hx, hb, hr, hml, hown, hts0, hX, hbl, hlocks, hgv⟩ := id C0
  have hown : s.vm.findClass RL = some m.cls := hown
  have hts : ∀ w ∈ wsL_law, w.before #[Value.ref sc] s = true := fun w h => hts0 w (wsL_law_in w h)
  have hf : cells ≤ room_1.cells ∧ slots ≤ room_1.slots := ⟨Nat.le_of_succ_le hc.1, Nat.le_trans (Nat.le_add_right _ _) hc.2⟩
  obtain ⟨r, u1, v1, e1, e2, hR1⟩ := k_kind hR (xs (x4 + 1).toNatClampNeg)
  refine lv_aload_n hx hb dL_law_458 rfl (lv_at hl 1 rfl) ?_
  refine L_ld (k := 1) (kv := 1) hx hb hX hbl hH.2.2.2 (lv_at hl 0 rfl) (lv_at hl 4 rfl) h1 dL_law_459 dL_law_460 dL_law_462 dL_law_463 dL_law_464 (by decide) ?_
  refine L8W (As := [.int (xs (x4 + 1).toNatClampNeg)]) (rest := []) hI hH ⟨hx, hb, hml, hown, hts⟩ (c_X8_kind l D cI a tb u (xs (x4 + 1).toNatClampNeg) _ e1) (cwV 1 hts gL_law_X8_kind rfl rfl rfl (by decide +kernel) ⟨Nat.le_of_ble_eq_true rfl, Nat.le_of_ble_eq_true rfl⟩) rfl hl.1 rfl (Nat.le_of_ble_eq_true rfl) hf dL_law_465 (fun H locs hH => ?_)
  refine lv_aload_n hx hb dL_law_468 rfl (lv_at hl 2 rfl) ?_
  refine L_ld (k := 1) (kv := 1) hx hb hX hbl hH.2.2.2 (lv_at hl 0 rfl) (lv_at hl 4 rfl) h1 dL_law_469 dL_law_470 dL_law_472 dL_law_473 dL_law_474 (by decide) ?_
  refine L9W (As := [.int (xs (x4 + 1).toNatClampNeg)]) (rest := [.int r]) hI hH ⟨hx, hb, hml, hown, hts⟩ (c_X9_kind l D cI cB b tb v (xs (x4 + 1).toNatClampNeg) _ e2) (cwV 1 hts gL_law_X9_kind rfl rfl rfl (by decide +kernel) ⟨Nat.le_of_ble_eq_true rfl, Nat.le_of_ble_eq_true rfl⟩) rfl hl.1 rfl (Nat.le_of_ble_eq_true rfl) hf dL_law_475 (fun H locs hH => ?_)
  exact lv_icmp_eq (tgt := 762) hx hb dL_law_478 (by decide) (fun _ => W.widen (Nat.le_add_right _ _) (Nat.le_add_right _ _) (K _ _ _ _ _ _ hR1 hH hl)) (fun q => absurd rfl q)
set_option maxHeartbeats 4000000 in
set_option maxRecDepth 100000 in
theorem law_second (C0 : lw_At p s m meth c sc L xs) (hI : LI D cI cB cL a b tb sa o s) (hH : LH D cI cB cL a b o u v g s H locs) (hR : Rel u v) (hl : lv_has ls 7 [(0, .ref sc), (1, .ref (a 0)), (2, .ref (b 0)), (3, .ref o), (4, .int x4)]) (h1 : vp_in (x4 + 1) L) (h2 : vp_in (x4 + 2) L) (h3 : vp_in (x4 + 3) L) (hc : cells + 1 ≤ room_1.cells ∧ slots + 6 ≤ room_1.slots)
    (K : ∀ (u v : ST) (g : Nat → Int64) (H : Heap) (locs : List Loc) (ls : Array Slot), Rel u v → LH D cI cB cL a b o u v g s H locs → lv_has ls 7 [(0, .ref sc), (1, .ref (a 0)), (2, .ref (b 0)), (3, .ref o), (4, .int x4)] → W p l e room_1 s m #[Value.ref sc] below meth c H locs (cells + 1) (slots + 6) Q (F0 m 762 ls [])) : W p l e room_1 s m #[Value.ref sc] below meth c H locs cells slots Q (F0 m 483 ls []) := by
  obtain ⟨hx, hb, hr, hml, hown, hts0, hX, hbl, hlocks, hgv⟩ := id C0
  have hown : s.vm.findClass RL = some m.cls := hown
  have hts : ∀ w ∈ wsL_law, w.before #[Value.ref sc] s = true := fun w h => hts0 w (wsL_law_in w h)
  have hf : cells ≤ room_1.cells ∧ slots ≤ room_1.slots := ⟨Nat.le_of_succ_le hc.1, Nat.le_trans (Nat.le_add_right _ _) hc.2⟩
  obtain ⟨r, u1, v1, e1, e2, hR1⟩ := k_second hR (xs (x4 + 1).toNatClampNeg)
  refine lv_aload_n hx hb dL_law_483 rfl (lv_at hl 1 rfl) ?_
  refine L_ld (k := 1) (kv := 1) hx hb hX hbl hH.2.2.2 (lv_at hl 0 rfl) (lv_at hl 4 rfl) h1 dL_law_484 dL_law_485 dL_law_487 dL_law_488 dL_law_489 (by decide) ?_
  refine L8W (As := [.int (xs (x4 + 1).toNatClampNeg)]) (rest := []) hI hH ⟨hx, hb, hml, hown, hts⟩ (c_X8_second l D cI a tb u (xs (x4 + 1).toNatClampNeg) _ e1) (cwV 1 hts gL_law_X8_second rfl rfl rfl (by decide +kernel) ⟨Nat.le_of_ble_eq_true rfl, Nat.le_of_ble_eq_true rfl⟩) rfl hl.1 rfl (Nat.le_of_ble_eq_true rfl) hf dL_law_490 (fun H locs hH => ?_)
  refine lv_aload_n hx hb dL_law_493 rfl (lv_at hl 2 rfl) ?_
  refine L_ld (k := 1) (kv := 1) hx hb hX hbl hH.2.2.2 (lv_at hl 0 rfl) (lv_at hl 4 rfl) h1 dL_law_494 dL_law_495 dL_law_497 dL_law_498 dL_law_499 (by decide) ?_
  refine L9W (As := [.int (xs (x4 + 1).toNatClampNeg)]) (rest := [.int r]) hI hH ⟨hx, hb, hml, hown, hts⟩ (c_X9_second l D cI cB b tb v (xs (x4 + 1).toNatClampNeg) _ e2) (cwV 1 hts gL_law_X9_second rfl rfl rfl (by decide +kernel) ⟨Nat.le_of_ble_eq_true rfl, Nat.le_of_ble_eq_true rfl⟩) rfl hl.1 rfl (Nat.le_of_ble_eq_true rfl) hf dL_law_500 (fun H locs hH => ?_)
  exact lv_icmp_eq (tgt := 762) hx hb dL_law_503 (by decide) (fun _ => W.widen (Nat.le_add_right _ _) (Nat.le_add_right _ _) (K _ _ _ _ _ _ hR1 hH hl)) (fun q => absurd rfl q)
set_option maxHeartbeats 4000000 in
set_option maxRecDepth 100000 in
theorem law_many (C0 : lw_At p s m meth c sc L xs) (hI : LI D cI cB cL a b tb sa o s) (hH : LH D cI cB cL a b o u v g s H locs) (hR : Rel u v) (hl : lv_has ls 7 [(0, .ref sc), (1, .ref (a 0)), (2, .ref (b 0)), (3, .ref o), (4, .int x4)]) (h1 : vp_in (x4 + 1) L) (h2 : vp_in (x4 + 2) L) (h3 : vp_in (x4 + 3) L) (hc : cells + 1 ≤ room_1.cells ∧ slots + 6 ≤ room_1.slots)
    (K : ∀ (u v : ST) (g : Nat → Int64) (H : Heap) (locs : List Loc) (ls : Array Slot), Rel u v → LH D cI cB cL a b o u v g s H locs → lv_has ls 7 [(0, .ref sc), (1, .ref (a 0)), (2, .ref (b 0)), (3, .ref o), (4, .int x4)] → W p l e room_1 s m #[Value.ref sc] below meth c H locs (cells + 1) (slots + 6) Q (F0 m 762 ls [])) : W p l e room_1 s m #[Value.ref sc] below meth c H locs cells slots Q (F0 m 508 ls []) := by
  obtain ⟨hx, hb, hr, hml, hown, hts0, hX, hbl, hlocks, hgv⟩ := id C0
  have hown : s.vm.findClass RL = some m.cls := hown
  have hts : ∀ w ∈ wsL_law, w.before #[Value.ref sc] s = true := fun w h => hts0 w (wsL_law_in w h)
  have hf : cells ≤ room_1.cells ∧ slots ≤ room_1.slots := ⟨Nat.le_of_succ_le hc.1, Nat.le_trans (Nat.le_add_right _ _) hc.2⟩
  obtain ⟨r, u1, v1, e1, e2, hR1⟩ := k_many hR (xs (x4 + 1).toNatClampNeg)
  refine lv_aload_n hx hb dL_law_508 rfl (lv_at hl 1 rfl) ?_
  refine L_ld (k := 1) (kv := 1) hx hb hX hbl hH.2.2.2 (lv_at hl 0 rfl) (lv_at hl 4 rfl) h1 dL_law_509 dL_law_510 dL_law_512 dL_law_513 dL_law_514 (by decide) ?_
  refine L8W (As := [.int (xs (x4 + 1).toNatClampNeg)]) (rest := []) hI hH ⟨hx, hb, hml, hown, hts⟩ (c_X8_many l D cI a tb u (xs (x4 + 1).toNatClampNeg) _ e1) (cwV 1 hts gL_law_X8_many rfl rfl rfl (by decide +kernel) ⟨Nat.le_of_ble_eq_true rfl, Nat.le_of_ble_eq_true rfl⟩) rfl hl.1 rfl (Nat.le_of_ble_eq_true rfl) hf dL_law_515 (fun H locs hH => ?_)
  refine lv_aload_n hx hb dL_law_518 rfl (lv_at hl 2 rfl) ?_
  refine L_ld (k := 1) (kv := 1) hx hb hX hbl hH.2.2.2 (lv_at hl 0 rfl) (lv_at hl 4 rfl) h1 dL_law_519 dL_law_520 dL_law_522 dL_law_523 dL_law_524 (by decide) ?_
  refine L9W (As := [.int (xs (x4 + 1).toNatClampNeg)]) (rest := [.int r]) hI hH ⟨hx, hb, hml, hown, hts⟩ (c_X9_many l D cI cB b tb v (xs (x4 + 1).toNatClampNeg) _ e2) (cwV 1 hts gL_law_X9_many rfl rfl rfl (by decide +kernel) ⟨Nat.le_of_ble_eq_true rfl, Nat.le_of_ble_eq_true rfl⟩) rfl hl.1 rfl (Nat.le_of_ble_eq_true rfl) hf dL_law_525 (fun H locs hH => ?_)
  exact lv_icmp_eq (tgt := 762) hx hb dL_law_528 (by decide) (fun _ => W.widen (Nat.le_add_right _ _) (Nat.le_add_right _ _) (K _ _ _ _ _ _ hR1 hH hl)) (fun q => absurd rfl q)
set_option maxHeartbeats 4000000 in
set_option maxRecDepth 100000 in
theorem law_spans (C0 : lw_At p s m meth c sc L xs) (hI : LI D cI cB cL a b tb sa o s) (hH : LH D cI cB cL a b o u v g s H locs) (hR : Rel u v) (hl : lv_has ls 7 [(0, .ref sc), (1, .ref (a 0)), (2, .ref (b 0)), (3, .ref o), (4, .int x4)]) (h1 : vp_in (x4 + 1) L) (h2 : vp_in (x4 + 2) L) (h3 : vp_in (x4 + 3) L) (hc : cells + 1 ≤ room_1.cells ∧ slots + 6 ≤ room_1.slots)
    (K : ∀ (u v : ST) (g : Nat → Int64) (H : Heap) (locs : List Loc) (ls : Array Slot), Rel u v → LH D cI cB cL a b o u v g s H locs → lv_has ls 7 [(0, .ref sc), (1, .ref (a 0)), (2, .ref (b 0)), (3, .ref o), (4, .int x4)] → W p l e room_1 s m #[Value.ref sc] below meth c H locs (cells + 1) (slots + 6) Q (F0 m 762 ls [])) : W p l e room_1 s m #[Value.ref sc] below meth c H locs cells slots Q (F0 m 533 ls []) := by
  obtain ⟨hx, hb, hr, hml, hown, hts0, hX, hbl, hlocks, hgv⟩ := id C0
  have hown : s.vm.findClass RL = some m.cls := hown
  have hts : ∀ w ∈ wsL_law, w.before #[Value.ref sc] s = true := fun w h => hts0 w (wsL_law_in w h)
  have hf : cells ≤ room_1.cells ∧ slots ≤ room_1.slots := ⟨Nat.le_of_succ_le hc.1, Nat.le_trans (Nat.le_add_right _ _) hc.2⟩
  obtain ⟨r, u1, v1, e1, e2, hR1⟩ := k_spans hR 
  refine lv_aload_n hx hb dL_law_533 rfl (lv_at hl 1 rfl) ?_
  refine L8W (As := []) (rest := []) hI hH ⟨hx, hb, hml, hown, hts⟩ (c_X8_spans l D cI a tb u  _ e1) (cwV 0 hts gL_law_X8_spans rfl rfl rfl (by decide +kernel) ⟨Nat.le_of_ble_eq_true rfl, Nat.le_of_ble_eq_true rfl⟩) rfl hl.1 rfl (Nat.le_of_ble_eq_true rfl) hf dL_law_534 (fun H locs hH => ?_)
  refine lv_aload_n hx hb dL_law_537 rfl (lv_at hl 2 rfl) ?_
  refine L9W (As := []) (rest := [.int r]) hI hH ⟨hx, hb, hml, hown, hts⟩ (c_X9_spans l D cI cB b tb v  _ e2) (cwV 0 hts gL_law_X9_spans rfl rfl rfl (by decide +kernel) ⟨Nat.le_of_ble_eq_true rfl, Nat.le_of_ble_eq_true rfl⟩) rfl hl.1 rfl (Nat.le_of_ble_eq_true rfl) hf dL_law_538 (fun H locs hH => ?_)
  exact lv_icmp_eq (tgt := 762) hx hb dL_law_541 (by decide) (fun _ => W.widen (Nat.le_add_right _ _) (Nat.le_add_right _ _) (K _ _ _ _ _ _ hR1 hH hl)) (fun q => absurd rfl q)
set_option maxHeartbeats 4000000 in
set_option maxRecDepth 100000 in
theorem law_number (C0 : lw_At p s m meth c sc L xs) (hI : LI D cI cB cL a b tb sa o s) (hH : LH D cI cB cL a b o u v g s H locs) (hR : Rel u v) (hl : lv_has ls 7 [(0, .ref sc), (1, .ref (a 0)), (2, .ref (b 0)), (3, .ref o), (4, .int x4)]) (h1 : vp_in (x4 + 1) L) (h2 : vp_in (x4 + 2) L) (h3 : vp_in (x4 + 3) L) (hc : cells + 1 ≤ room_1.cells ∧ slots + 6 ≤ room_1.slots)
    (K : ∀ (u v : ST) (g : Nat → Int64) (H : Heap) (locs : List Loc) (ls : Array Slot), Rel u v → LH D cI cB cL a b o u v g s H locs → lv_has ls 7 [(0, .ref sc), (1, .ref (a 0)), (2, .ref (b 0)), (3, .ref o), (4, .int x4)] → W p l e room_1 s m #[Value.ref sc] below meth c H locs (cells + 1) (slots + 6) Q (F0 m 762 ls [])) : W p l e room_1 s m #[Value.ref sc] below meth c H locs cells slots Q (F0 m 614 ls []) := by
  obtain ⟨hx, hb, hr, hml, hown, hts0, hX, hbl, hlocks, hgv⟩ := id C0
  have hown : s.vm.findClass RL = some m.cls := hown
  have hts : ∀ w ∈ wsL_law, w.before #[Value.ref sc] s = true := fun w h => hts0 w (wsL_law_in w h)
  have hf : cells ≤ room_1.cells ∧ slots ≤ room_1.slots := ⟨Nat.le_of_succ_le hc.1, Nat.le_trans (Nat.le_add_right _ _) hc.2⟩
  obtain ⟨r, v1, e1, e2, hR1⟩ := k_number hR (xs (x4 + 1).toNatClampNeg) (xs (x4 + 2).toNatClampNeg) (xs (x4 + 3).toNatClampNeg)
  refine lv_aload_n hx hb dL_law_614 rfl (lv_at hl 1 rfl) ?_
  refine L_ld (k := 1) (kv := 1) hx hb hX hbl hH.2.2.2 (lv_at hl 0 rfl) (lv_at hl 4 rfl) h1 dL_law_615 dL_law_616 dL_law_618 dL_law_619 dL_law_620 (by decide) ?_
  refine L_ld (k := 2) (kv := 2) hx hb hX hbl hH.2.2.2 (lv_at hl 0 rfl) (lv_at hl 4 rfl) h2 dL_law_621 dL_law_622 dL_law_624 dL_law_625 dL_law_626 (by decide) ?_
  refine L_ld (k := 3) (kv := 3) hx hb hX hbl hH.2.2.2 (lv_at hl 0 rfl) (lv_at hl 4 rfl) h3 dL_law_627 dL_law_628 dL_law_630 dL_law_631 dL_law_632 (by decide) ?_
  refine L8R (As := [.int (xs (x4 + 1).toNatClampNeg), .int (xs (x4 + 2).toNatClampNeg), .int (xs (x4 + 3).toNatClampNeg)]) (rest := []) hI hH ⟨hx, hb, hml, hown, hts⟩ (c_X8_number l D cI a tb u (xs (x4 + 1).toNatClampNeg) (xs (x4 + 2).toNatClampNeg) (xs (x4 + 3).toNatClampNeg) _ e1) (cwV 3 hts gL_law_X8_number rfl rfl rfl (by decide +kernel) ⟨Nat.le_of_ble_eq_true rfl, Nat.le_of_ble_eq_true rfl⟩) rfl hl.1 rfl (Nat.le_of_ble_eq_true rfl) hf dL_law_633 ?_
  refine lv_aload_n hx hb dL_law_636 rfl (lv_at hl 2 rfl) ?_
  refine L_ld (k := 1) (kv := 1) hx hb hX hbl hH.2.2.2 (lv_at hl 0 rfl) (lv_at hl 4 rfl) h1 dL_law_637 dL_law_638 dL_law_640 dL_law_641 dL_law_642 (by decide) ?_
  refine L_ld (k := 2) (kv := 2) hx hb hX hbl hH.2.2.2 (lv_at hl 0 rfl) (lv_at hl 4 rfl) h2 dL_law_643 dL_law_644 dL_law_646 dL_law_647 dL_law_648 (by decide) ?_
  refine L_ld (k := 3) (kv := 3) hx hb hX hbl hH.2.2.2 (lv_at hl 0 rfl) (lv_at hl 4 rfl) h3 dL_law_649 dL_law_650 dL_law_652 dL_law_653 dL_law_654 (by decide) ?_
  refine L9W (As := [.int (xs (x4 + 1).toNatClampNeg), .int (xs (x4 + 2).toNatClampNeg), .int (xs (x4 + 3).toNatClampNeg)]) (rest := [.int r]) hI hH ⟨hx, hb, hml, hown, hts⟩ (c_X9_number l D cI cB b tb v (xs (x4 + 1).toNatClampNeg) (xs (x4 + 2).toNatClampNeg) (xs (x4 + 3).toNatClampNeg) _ e2) (cwV 3 hts gL_law_X9_number rfl rfl rfl (by decide +kernel) ⟨Nat.le_of_ble_eq_true rfl, Nat.le_of_ble_eq_true rfl⟩) rfl hl.1 rfl (Nat.le_of_ble_eq_true rfl) hf dL_law_655 (fun H locs hH => ?_)
  exact lv_icmp_eq (tgt := 762) hx hb dL_law_658 (by decide) (fun _ => W.widen (Nat.le_add_right _ _) (Nat.le_add_right _ _) (K _ _ _ _ _ _ hR1 hH hl)) (fun q => absurd rfl q)
set_option maxHeartbeats 4000000 in
set_option maxRecDepth 100000 in
theorem law_write (C0 : lw_At p s m meth c sc L xs) (hI : LI D cI cB cL a b tb sa o s) (hH : LH D cI cB cL a b o u v g s H locs) (hR : Rel u v) (hl : lv_has ls 7 [(0, .ref sc), (1, .ref (a 0)), (2, .ref (b 0)), (3, .ref o), (4, .int x4)]) (h1 : vp_in (x4 + 1) L) (h2 : vp_in (x4 + 2) L) (h3 : vp_in (x4 + 3) L) (hc : cells + 1 ≤ room_1.cells ∧ slots + 6 ≤ room_1.slots)
    (K : ∀ (u v : ST) (g : Nat → Int64) (H : Heap) (locs : List Loc) (ls : Array Slot), Rel u v → LH D cI cB cL a b o u v g s H locs → lv_has ls 7 [(0, .ref sc), (1, .ref (a 0)), (2, .ref (b 0)), (3, .ref o), (4, .int x4)] → W p l e room_1 s m #[Value.ref sc] below meth c H locs (cells + 1) (slots + 6) Q (F0 m 762 ls [])) : W p l e room_1 s m #[Value.ref sc] below meth c H locs cells slots Q (F0 m 663 ls []) := by
  obtain ⟨hx, hb, hr, hml, hown, hts0, hX, hbl, hlocks, hgv⟩ := id C0
  have hown : s.vm.findClass RL = some m.cls := hown
  have hts : ∀ w ∈ wsL_law, w.before #[Value.ref sc] s = true := fun w h => hts0 w (wsL_law_in w h)
  have hf : cells ≤ room_1.cells ∧ slots ≤ room_1.slots := ⟨Nat.le_of_succ_le hc.1, Nat.le_trans (Nat.le_add_right _ _) hc.2⟩
  obtain ⟨r, u1, v1, e1, e2, hR1⟩ := k_write hR (xs (x4 + 1).toNatClampNeg) (xs (x4 + 2).toNatClampNeg) (xs (x4 + 3).toNatClampNeg)
  refine lv_aload_n hx hb dL_law_663 rfl (lv_at hl 1 rfl) ?_
  refine L_ld (k := 1) (kv := 1) hx hb hX hbl hH.2.2.2 (lv_at hl 0 rfl) (lv_at hl 4 rfl) h1 dL_law_664 dL_law_665 dL_law_667 dL_law_668 dL_law_669 (by decide) ?_
  refine L_ld (k := 2) (kv := 2) hx hb hX hbl hH.2.2.2 (lv_at hl 0 rfl) (lv_at hl 4 rfl) h2 dL_law_670 dL_law_671 dL_law_673 dL_law_674 dL_law_675 (by decide) ?_
  refine L_ld (k := 3) (kv := 3) hx hb hX hbl hH.2.2.2 (lv_at hl 0 rfl) (lv_at hl 4 rfl) h3 dL_law_676 dL_law_677 dL_law_679 dL_law_680 dL_law_681 (by decide) ?_
  refine L8W (As := [.int (xs (x4 + 1).toNatClampNeg), .int (xs (x4 + 2).toNatClampNeg), .int (xs (x4 + 3).toNatClampNeg)]) (rest := []) hI hH ⟨hx, hb, hml, hown, hts⟩ (c_X8_write l D cI a tb u (xs (x4 + 1).toNatClampNeg) (xs (x4 + 2).toNatClampNeg) (xs (x4 + 3).toNatClampNeg) _ e1) (cwV 3 hts gL_law_X8_write rfl rfl rfl (by decide +kernel) ⟨Nat.le_of_ble_eq_true rfl, Nat.le_of_ble_eq_true rfl⟩) rfl hl.1 rfl (Nat.le_of_ble_eq_true rfl) hf dL_law_682 (fun H locs hH => ?_)
  refine lv_aload_n hx hb dL_law_685 rfl (lv_at hl 2 rfl) ?_
  refine L_ld (k := 1) (kv := 1) hx hb hX hbl hH.2.2.2 (lv_at hl 0 rfl) (lv_at hl 4 rfl) h1 dL_law_686 dL_law_687 dL_law_689 dL_law_690 dL_law_691 (by decide) ?_
  refine L_ld (k := 2) (kv := 2) hx hb hX hbl hH.2.2.2 (lv_at hl 0 rfl) (lv_at hl 4 rfl) h2 dL_law_692 dL_law_693 dL_law_695 dL_law_696 dL_law_697 (by decide) ?_
  refine L_ld (k := 3) (kv := 3) hx hb hX hbl hH.2.2.2 (lv_at hl 0 rfl) (lv_at hl 4 rfl) h3 dL_law_698 dL_law_699 dL_law_701 dL_law_702 dL_law_703 (by decide) ?_
  refine L9W (As := [.int (xs (x4 + 1).toNatClampNeg), .int (xs (x4 + 2).toNatClampNeg), .int (xs (x4 + 3).toNatClampNeg)]) (rest := [.int r]) hI hH ⟨hx, hb, hml, hown, hts⟩ (c_X9_write l D cI cB b tb v (xs (x4 + 1).toNatClampNeg) (xs (x4 + 2).toNatClampNeg) (xs (x4 + 3).toNatClampNeg) _ e2) (cwV 3 hts gL_law_X9_write rfl rfl rfl (by decide +kernel) ⟨Nat.le_of_ble_eq_true rfl, Nat.le_of_ble_eq_true rfl⟩) rfl hl.1 rfl (Nat.le_of_ble_eq_true rfl) hf dL_law_704 (fun H locs hH => ?_)
  exact lv_icmp_eq (tgt := 762) hx hb dL_law_707 (by decide) (fun _ => W.widen (Nat.le_add_right _ _) (Nat.le_add_right _ _) (K _ _ _ _ _ _ hR1 hH hl)) (fun q => absurd rfl q)
set_option maxHeartbeats 4000000 in
set_option maxRecDepth 100000 in
theorem law_same (C0 : lw_At p s m meth c sc L xs) (hI : LI D cI cB cL a b tb sa o s) (hH : LH D cI cB cL a b o u v g s H locs) (hR : Rel u v) (hl : lv_has ls 7 [(0, .ref sc), (1, .ref (a 0)), (2, .ref (b 0)), (3, .ref o), (4, .int x4)]) (h1 : vp_in (x4 + 1) L) (h2 : vp_in (x4 + 2) L) (h3 : vp_in (x4 + 3) L) (hc : cells + 1 ≤ room_1.cells ∧ slots + 6 ≤ room_1.slots)
    (K : ∀ (u v : ST) (g : Nat → Int64) (H : Heap) (locs : List Loc) (ls : Array Slot), Rel u v → LH D cI cB cL a b o u v g s H locs → lv_has ls 7 [(0, .ref sc), (1, .ref (a 0)), (2, .ref (b 0)), (3, .ref o), (4, .int x4)] → W p l e room_1 s m #[Value.ref sc] below meth c H locs (cells + 1) (slots + 6) Q (F0 m 762 ls [])) : W p l e room_1 s m #[Value.ref sc] below meth c H locs cells slots Q (F0 m 712 ls []) := by
  obtain ⟨hx, hb, hr, hml, hown, hts0, hX, hbl, hlocks, hgv⟩ := id C0
  have hown : s.vm.findClass RL = some m.cls := hown
  have hts : ∀ w ∈ wsL_law, w.before #[Value.ref sc] s = true := fun w h => hts0 w (wsL_law_in w h)
  have hf : cells ≤ room_1.cells ∧ slots ≤ room_1.slots := ⟨Nat.le_of_succ_le hc.1, Nat.le_trans (Nat.le_add_right _ _) hc.2⟩
  obtain ⟨r, u1, v1, e1, e2, hR1⟩ := k_same hR (xs (x4 + 1).toNatClampNeg)
  refine lv_aload_n hx hb dL_law_712 rfl (lv_at hl 1 rfl) ?_
  refine L_ld (k := 1) (kv := 1) hx hb hX hbl hH.2.2.2 (lv_at hl 0 rfl) (lv_at hl 4 rfl) h1 dL_law_713 dL_law_714 dL_law_716 dL_law_717 dL_law_718 (by decide) ?_
  refine L8W (As := [.int (xs (x4 + 1).toNatClampNeg)]) (rest := []) hI hH ⟨hx, hb, hml, hown, hts⟩ (c_X8_same l D cI a tb u (xs (x4 + 1).toNatClampNeg) _ e1) (cwV 1 hts gL_law_X8_same rfl rfl rfl (by decide +kernel) ⟨Nat.le_of_ble_eq_true rfl, Nat.le_of_ble_eq_true rfl⟩) rfl hl.1 rfl (Nat.le_of_ble_eq_true rfl) hf dL_law_719 (fun H locs hH => ?_)
  refine lv_aload_n hx hb dL_law_722 rfl (lv_at hl 2 rfl) ?_
  refine L_ld (k := 1) (kv := 1) hx hb hX hbl hH.2.2.2 (lv_at hl 0 rfl) (lv_at hl 4 rfl) h1 dL_law_723 dL_law_724 dL_law_726 dL_law_727 dL_law_728 (by decide) ?_
  refine L9W (As := [.int (xs (x4 + 1).toNatClampNeg)]) (rest := [.int r]) hI hH ⟨hx, hb, hml, hown, hts⟩ (c_X9_same l D cI cB b tb v (xs (x4 + 1).toNatClampNeg) _ e2) (cwV 1 hts gL_law_X9_same rfl rfl rfl (by decide +kernel) ⟨Nat.le_of_ble_eq_true rfl, Nat.le_of_ble_eq_true rfl⟩) rfl hl.1 rfl (Nat.le_of_ble_eq_true rfl) hf dL_law_729 (fun H locs hH => ?_)
  exact lv_icmp_eq (tgt := 762) hx hb dL_law_732 (by decide) (fun _ => W.widen (Nat.le_add_right _ _) (Nat.le_add_right _ _) (K _ _ _ _ _ _ hR1 hH hl)) (fun q => absurd rfl q)
set_option maxHeartbeats 4000000 in
set_option maxRecDepth 100000 in
theorem law_count (C0 : lw_At p s m meth c sc L xs) (hI : LI D cI cB cL a b tb sa o s) (hH : LH D cI cB cL a b o u v g s H locs) (hR : Rel u v) (hl : lv_has ls 7 [(0, .ref sc), (1, .ref (a 0)), (2, .ref (b 0)), (3, .ref o), (4, .int x4)]) (h1 : vp_in (x4 + 1) L) (h2 : vp_in (x4 + 2) L) (h3 : vp_in (x4 + 3) L) (hc : cells + 1 ≤ room_1.cells ∧ slots + 6 ≤ room_1.slots)
    (K : ∀ (u v : ST) (g : Nat → Int64) (H : Heap) (locs : List Loc) (ls : Array Slot), Rel u v → LH D cI cB cL a b o u v g s H locs → lv_has ls 7 [(0, .ref sc), (1, .ref (a 0)), (2, .ref (b 0)), (3, .ref o), (4, .int x4)] → W p l e room_1 s m #[Value.ref sc] below meth c H locs (cells + 1) (slots + 6) Q (F0 m 762 ls [])) : W p l e room_1 s m #[Value.ref sc] below meth c H locs cells slots Q (F0 m 737 ls []) := by
  obtain ⟨hx, hb, hr, hml, hown, hts0, hX, hbl, hlocks, hgv⟩ := id C0
  have hown : s.vm.findClass RL = some m.cls := hown
  have hts : ∀ w ∈ wsL_law, w.before #[Value.ref sc] s = true := fun w h => hts0 w (wsL_law_in w h)
  have hf : cells ≤ room_1.cells ∧ slots ≤ room_1.slots := ⟨Nat.le_of_succ_le hc.1, Nat.le_trans (Nat.le_add_right _ _) hc.2⟩
  obtain ⟨r, v1, e1, e2, hR1⟩ := k_count hR (xs (x4 + 1).toNatClampNeg)
  refine lv_aload_n hx hb dL_law_737 rfl (lv_at hl 1 rfl) ?_
  refine L_ld (k := 1) (kv := 1) hx hb hX hbl hH.2.2.2 (lv_at hl 0 rfl) (lv_at hl 4 rfl) h1 dL_law_738 dL_law_739 dL_law_741 dL_law_742 dL_law_743 (by decide) ?_
  refine L8R (As := [.int (xs (x4 + 1).toNatClampNeg)]) (rest := []) hI hH ⟨hx, hb, hml, hown, hts⟩ (c_X8_count l D cI a tb u (xs (x4 + 1).toNatClampNeg) _ e1) (cwV 1 hts gL_law_X8_count rfl rfl rfl (by decide +kernel) ⟨Nat.le_of_ble_eq_true rfl, Nat.le_of_ble_eq_true rfl⟩) rfl hl.1 rfl (Nat.le_of_ble_eq_true rfl) hf dL_law_744 ?_
  refine lv_aload_n hx hb dL_law_747 rfl (lv_at hl 2 rfl) ?_
  refine L_ld (k := 1) (kv := 1) hx hb hX hbl hH.2.2.2 (lv_at hl 0 rfl) (lv_at hl 4 rfl) h1 dL_law_748 dL_law_749 dL_law_751 dL_law_752 dL_law_753 (by decide) ?_
  refine L9W (As := [.int (xs (x4 + 1).toNatClampNeg)]) (rest := [.int r]) hI hH ⟨hx, hb, hml, hown, hts⟩ (c_X9_count l D cI cB b tb v (xs (x4 + 1).toNatClampNeg) _ e2) (cwV 1 hts gL_law_X9_count rfl rfl rfl (by decide +kernel) ⟨Nat.le_of_ble_eq_true rfl, Nat.le_of_ble_eq_true rfl⟩) rfl hl.1 rfl (Nat.le_of_ble_eq_true rfl) hf dL_law_754 (fun H locs hH => ?_)
  exact lv_icmp_eq (tgt := 762) hx hb dL_law_757 (by decide) (fun _ => W.widen (Nat.le_add_right _ _) (Nat.le_add_right _ _) (K _ _ _ _ _ _ hR1 hH hl)) (fun q => absurd rfl q)
end LWK
