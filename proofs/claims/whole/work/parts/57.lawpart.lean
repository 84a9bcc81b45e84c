/-! The law's call of part. -/
theorem pV_none {x y : Int32} (h : fX0_isDay x = some 0 ∨ (fX0_isDay x = some 1 ∧ y ≠ 0 ∧ y ≠ 1 ∧ y ≠ 2 ∧ y ≠ 3)) : pV x y = none := by
  unfold pV
  rcases h with h | ⟨h, h0, h1, h2, h3⟩
  · rw [h]; rfl
  · rw [h]
    show (if (1 : Int32) = 0 then none else _) = none
    rw [if_neg (by decide), if_neg h0, if_neg h1, if_neg h2, if_neg h3]
theorem part_all {u v : ST} (hR : Rel u v) (x y z : Int32) (g g1 : Nat → Int64) (hz : (∃ r, pV x y = some r ∧ z = 0 ∧ g1 = vp_updL g 0 r.toInt64) ∨ (pV x y = none ∧ z = 1 ∧ g1 = g)) : ∃ r v1, fX9_part v x y = some (r, v1) ∧ v1.1 0 = z ∧ Rel u v1 ∧ (z = 0 → g1 0 = r.toInt64) := by
  rcases k_part hR x y with ⟨r, v1, ep, e2, h0, hR1⟩ | ⟨v1, hd, e2, h0, hR1⟩
  · rcases hz with ⟨r0, q1, rfl, rfl⟩ | ⟨q1, -, -⟩
    · cases Option.some.inj (q1.symm.trans ep)
      exact ⟨_, v1, e2, h0, hR1, fun _ => rfl⟩
    · rw [ep] at q1; cases q1
  · rcases hz with ⟨r0, q1, -, -⟩ | ⟨-, rfl, rfl⟩
    · rw [pV_none hd] at q1; cases q1
    · exact ⟨0, v1, e2, h0, hR1, fun q => absurd q (by decide)⟩
section LWP
variable {p : Program} {l : Launch} {e : Env} {s : State} {m : MethodId} {below : List Frame} {meth : Method} {c : Code} {H : Heap} {locs : List Loc} {cells slots : Nat} {Q : State → Prop} {ls : Array Slot}
variable {D : va_G} {cI cB cL : ClassId} {a b tb sa : Nat → Nat} {o sc L : Nat} {xs : Nat → Int32} {u v : ST} {g : Nat → Int64} {x4 : Int32}
set_option maxHeartbeats 4000000 in
set_option maxRecDepth 100000 in
theorem law_part (hlt : l.stackTraces = false) (C0 : lw_At p s m meth c sc L xs) (hI : LI D cI cB cL a b tb sa o s) (hH : LH D cI cB cL a b o u v g s H locs) (hR : Rel u v) (hl : lv_has ls 7 [(0, .ref sc), (1, .ref (a 0)), (2, .ref (b 0)), (3, .ref o), (4, .int x4)]) (h1 : vp_in (x4 + 1) L) (h2 : vp_in (x4 + 2) L) (h3 : vp_in (x4 + 3) L) (hc : cells + 1 ≤ room_1.cells ∧ slots + 6 ≤ room_1.slots)
    (K : ∀ (u v : ST) (g : Nat → Int64) (H : Heap) (locs : List Loc) (ls : Array Slot), Rel u v → LH D cI cB cL a b o u v g s H locs → lv_has ls 7 [(0, .ref sc), (1, .ref (a 0)), (2, .ref (b 0)), (3, .ref o), (4, .int x4)] → W p l e room_1 s m #[Value.ref sc] below meth c H locs (cells + 1) (slots + 6) Q (F0 m 762 ls [])) : W p l e room_1 s m #[Value.ref sc] below meth c H locs cells slots Q (F0 m 546 ls []) := by
  obtain ⟨hx, hb, hr, hml, hown, hts0, hX, hbl, hlocks, hgv⟩ := id C0
  have hown : s.vm.findClass RL = some m.cls := hown
  have hts : ∀ w ∈ wsL_law, w.before #[Value.ref sc] s = true := fun w h => hts0 w (wsL_law_in w h)
  refine lv_aload_n hx hb dL_law_546 rfl (lv_at hl 1 rfl) ?_
  refine L_ld (k := 1) (kv := 1) hx hb hX hbl hH.2.2.2 (lv_at hl 0 rfl) (lv_at hl 4 rfl) h1 dL_law_547 dL_law_548 dL_law_550 dL_law_551 dL_law_552 (by decide) ?_
  refine L_ld (k := 2) (kv := 2) hx hb hX hbl hH.2.2.2 (lv_at hl 0 rfl) (lv_at hl 4 rfl) h2 dL_law_553 dL_law_554 dL_law_556 dL_law_557 dL_law_558 (by decide) ?_
  refine lv_aload_n hx hb dL_law_559 rfl (lv_at hl 3 rfl) ?_
  refine LPart hlt (rest := []) (x := xs (x4 + 1).toNatClampNeg) (y := xs (x4 + 2).toNatClampNeg) hI hH ⟨hx, hb, hml, hown, hts⟩ (vx_cwSW 4 hts gL_law_L_part rfl rfl rfl (by decide +kernel) ⟨Nat.le_of_ble_eq_true rfl, Nat.le_of_ble_eq_true rfl⟩) hl.1 rfl (Nat.le_of_ble_eq_true rfl) hc dL_law_560 (fun z g1 H locs hz hH => ?_)
  obtain ⟨r, v1, e2, h0, hR1, hg⟩ := part_all hR _ _ z g g1 hz
  refine lv_istore (lv' := [(5, .int z), (0, .ref sc), (1, .ref (a 0)), (2, .ref (b 0)), (3, .ref o), (4, .int x4)]) hx hb dL_law_563 hl (by decide) rfl (fun ls hl => ?_)
  refine lv_aload_n hx hb dL_law_565 rfl (lv_at hl 3 rfl) ?_
  refine L_ld (k := 1) (kv := 1) hx hb hX hbl hH.2.2.2 (lv_at hl 1 rfl) (lv_at hl 5 rfl) h1 dL_law_566 dL_law_567 dL_law_569 dL_law_570 dL_law_571 (by decide) ?_
  refine L_ld (k := 2) (kv := 2) hx hb hX hbl hH.2.2.2 (lv_at hl 1 rfl) (lv_at hl 5 rfl) h2 dL_law_572 dL_law_573 dL_law_575 dL_law_576 dL_law_577 (by decide) ?_
  refine L9W (As := [.int (xs (x4 + 1).toNatClampNeg), .int (xs (x4 + 2).toNatClampNeg)]) (rest := []) hI hH ⟨hx, hb, hml, hown, hts⟩ (c_X9_part l D cI cB b tb v (xs (x4 + 1).toNatClampNeg) (xs (x4 + 2).toNatClampNeg) _ e2) (cwV 2 hts gL_law_X9_part rfl rfl rfl (by decide +kernel) ⟨Nat.le_of_ble_eq_true rfl, Nat.le_of_ble_eq_true rfl⟩) rfl hl.1 rfl (Nat.le_of_ble_eq_true rfl) hc dL_law_578 (fun H locs hH => ?_)
  refine lv_istore (x := r) (lv' := [(6, .int r), (5, .int z), (0, .ref sc), (1, .ref (a 0)), (2, .ref (b 0)), (3, .ref o), (4, .int x4)]) hx hb dL_law_581 hl (by decide) rfl (fun ls hl => ?_)
  refine lv_aload_n hx hb dL_law_583 rfl (lv_at hl 4 rfl) ?_
  refine L9R (As := []) (rest := []) hI hH ⟨hx, hb, hml, hown, hts⟩ (c_X9_thrown l D cI cB b tb v1 (v1.1 0) (by unfold fX9_thrown; rfl)) (cwV 0 hts gL_law_X9_thrown rfl rfl rfl (by decide +kernel) ⟨Nat.le_of_ble_eq_true rfl, Nat.le_of_ble_eq_true rfl⟩) rfl hl.1 rfl (Nat.le_of_ble_eq_true rfl) hc dL_law_584 ?_
  refine lv_iload hx hb dL_law_587 (lv_at hl 1 rfl) ?_
  refine lv_icmp_eq (tgt := 594) hx hb dL_law_589 (by decide) (fun _ => ?_) (fun q => absurd h0 q)
  refine lv_iload hx hb dL_law_594 (lv_at hl 1 rfl) ?_
  have hend : W p l e room_1 s m #[Value.ref sc] below meth c H locs (cells + 1) (slots + 6) Q (F0 m 611 ls []) :=
    lv_goto (tgt := 762) hx hb dL_law_611 (by decide) (K _ _ _ _ _ _ hR1 hH (lv_sub hl [2, 3, 4, 5, 6] rfl))
  refine lv_if_ne (tgt := 611) hx hb dL_law_596 (by decide) (fun _ => hend) (fun hz0 => ?_)
  refine lv_aload_n hx hb dL_law_599 rfl (lv_at hl 5 rfl) ?_
  refine lv_iconst (v := 0) hx hb dL_law_600 (by decide) ?_
  refine va_lald hx hb (hI.1.sub (tys' := [(cL, .long)]) [2] rfl) hH.2.2.1 0 0 rfl rfl (show vp_in 0 1 from vp_in_nI (n := 0) (by decide) (by decide)) dL_law_601 ?_
  refine lv_iload hx hb dL_law_602 (lv_at hl 0 rfl) ?_
  refine lv_i2l (v := r.toInt64) hx hb dL_law_604 rfl ?_
  refine W.lcmp hx hb dL_law_605 ?_
  refine lv_if_eq (tgt := 611) hx hb dL_law_606 (by decide) (fun _ => hend) (fun q => absurd ?_ q)
  show lg_cmp (g1 0) r.toInt64 = 0
  rw [hg hz0]
  simp [lg_cmp]
end LWP
