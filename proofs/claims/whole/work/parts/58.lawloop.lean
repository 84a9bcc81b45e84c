/-! The law's loop. -/
theorem i_le4 {L j : Nat} (hL : L ≤ 2048) (hj : 4 * j ≤ L) (h : ¬ Int32.ofNat L - 4 < nI (4 * j)) : 4 * j + 4 ≤ L := by
  rcases Nat.lt_or_ge L (4 * j + 4) with q | q
  · refine absurd ?_ h
    have e1 : (Int32.ofNat L).toInt = (L : Int) := nI_toInt (show L < 2 ^ 31 by omega)
    have e2 : (4 : Int32).toInt = 4 := by decide
    rw [Int32.lt_iff_toInt_lt, nI_toInt (show 4 * j < 2 ^ 31 by omega), Int32.toInt_sub, e1, e2]
    have : ((L : Int) - 4).bmod (2 ^ 32) = (L : Int) - 4 := by
      rw [Int.bmod_eq_of_le] <;> omega
    rw [this]
    omega
  · exact q
section LWL
variable {p : Program} {l : Launch} {e : Env} {s : State} {m : MethodId} {below : List Frame} {meth : Method} {c : Code}
variable {D : va_G} {cI cB cL : ClassId} {a b tb sa : Nat → Nat} {o sc L : Nat} {xs : Nat → Int32}
set_option maxHeartbeats 4000000 in
set_option maxRecDepth 100000 in
theorem law_loop (hlt : l.stackTraces = false) (hL : L ≤ 2048) (C0 : lw_At p s m meth c sc L xs) (hI : LI D cI cB cL a b tb sa o s) :
    ∀ (n j cells slots : Nat), 4 * j ≤ L → L < 4 * j + n → cells ≤ 40 + j → slots ≤ 4400 + 6 * j → ∀ (u v : ST) (g : Nat → Int64) (H : Heap) (locs : List Loc) (ls : Array Slot), Rel u v → LH D cI cB cL a b o u v g s H locs → lv_has ls 7 [(0, .ref sc), (1, .ref (a 0)), (2, .ref (b 0)), (3, .ref o), (4, .int (nI (4 * j)))] → W p l e room_1 s m #[Value.ref sc] below meth c H locs cells slots (lw_Z below #[Value.ref sc] s) (F0 m 23 ls []) := by
  obtain ⟨hx, hb, hr, hml, hown, hts0, hX, hbl, hlocks, hgv⟩ := id C0
  have hbA : ¬ nuf s sc := Nat.not_le.mpr hbl
  intro n
  induction n with
  | zero =>
    intro j cells slots h1 h2
    omega
  | succ n ih =>
    intro j cells slots hj hn hce hsl u v g H locs ls hR hH hl
    have hS := hH.2.2.2
    refine lv_iload hx hb dL_law_23 (lv_at hl 4 rfl) ?_
    refine lv_aload_n hx hb dL_law_25 rfl (lv_at hl 0 rfl) ?_
    refine va_slen (A := nuf s) hx hb hX hbl hbA hS dL_law_26 ?_
    refine lv_iconst (v := 4) hx hb dL_law_27 (by decide) ?_
    refine lv_isub hx hb dL_law_28 ?_
    refine lv_icmp_gt (tgt := 768) hx hb dL_law_29 (by decide) (fun _ => ?_) (fun q => ?_)
    · refine lv_iconst (v := 1) hx hb dL_law_768 (by decide) ?_
      refine va_forget (fun q hq => hS.2.2 q hq) ?_
      refine W.widen (k := 601024) (n := 7293034) (by omega) (by omega) ?_
      exact lw_ret hx hb hr hlocks dL_law_769
    · have hj4 := i_le4 hL hj q
      have h0 : vp_in (nI (4 * j)) L := vp_in_nI (by omega) (by omega)
      have hk : ∀ k : Nat, k < 4 → vp_in (nI (4 * j) + nI k) L := fun k hk => by
        rw [show nI (4 * j) + nI k = nI (4 * j + k) from nI_add _ _]
        exact vp_in_nI (by omega) (by omega)
      have h1 : vp_in (nI (4 * j) + 1) L := hk 1 (by decide)
      have h2 : vp_in (nI (4 * j) + 2) L := hk 2 (by decide)
      have h3 : vp_in (nI (4 * j) + 3) L := hk 3 (by decide)
      have hc : cells + 1 ≤ room_1.cells ∧ slots + 6 ≤ room_1.slots := ⟨show cells + 1 ≤ 601024 by omega, show slots + 6 ≤ 7293034 by omega⟩
      have K : ∀ (u v : ST) (g : Nat → Int64) (H : Heap) (locs : List Loc) (ls : Array Slot), Rel u v → LH D cI cB cL a b o u v g s H locs → lv_has ls 7 [(0, .ref sc), (1, .ref (a 0)), (2, .ref (b 0)), (3, .ref o), (4, .int (nI (4 * j)))] → W p l e room_1 s m #[Value.ref sc] below meth c H locs (cells + 1) (slots + 6) (lw_Z below #[Value.ref sc] s) (F0 m 762 ls []) := by
        intro u v g H locs ls hR hH hl
        refine lv_iinc (v := nI (4 * (j + 1))) (lv' := [(4, .int (nI (4 * (j + 1)))), (0, .ref sc), (1, .ref (a 0)), (2, .ref (b 0)), (3, .ref o)]) hx hb dL_law_762 hl (k := 4) rfl (show nI (4 * j) + nI 4 = nI (4 * (j + 1)) from nI_add _ _) (by decide) rfl (fun ls hl => ?_)
        refine lv_goto (tgt := 23) hx hb dL_law_765 (by decide) ?_
        exact ih (j + 1) (cells + 1) (slots + 6) (by omega) (by omega) (by omega) (by omega) u v g H locs ls hR hH (lv_sub hl [1, 2, 3, 4, 0] rfl)
      refine lv_aload_n hx hb dL_law_32 rfl (lv_at hl 0 rfl) ?_
      refine lv_iload hx hb dL_law_33 (lv_at hl 4 rfl) ?_
      refine va_sld (A := nuf s) hx hb hX hbl hbA hS h0 dL_law_35 ?_
      refine lv_bipush (v := 31) hx hb dL_law_36 (by decide) ?_
      refine lv_iand hx hb dL_law_38 ?_
      refine lv_topi (fun z _ => ?_)
      rcases Decidable.em (z.toInt < 0 ∨ 20 < z.toInt) with q | q
      · refine lv_tableOut (tgt := 762) hx hb dL_law_39 q (by decide) ?_
        exact W.widen (Nat.le_add_right _ _) (Nat.le_add_right _ _) (K _ _ _ _ _ _ hR hH hl)
      · rcases (show z.toInt = 0 ∨ z.toInt = 1 ∨ z.toInt = 2 ∨ z.toInt = 3 ∨ z.toInt = 4 ∨ z.toInt = 5 ∨ z.toInt = 6 ∨ z.toInt = 7 ∨ z.toInt = 8 ∨ z.toInt = 9 ∨ z.toInt = 10 ∨ z.toInt = 11 ∨ z.toInt = 12 ∨ z.toInt = 13 ∨ z.toInt = 14 ∨ z.toInt = 15 ∨ z.toInt = 16 ∨ z.toInt = 17 ∨ z.toInt = 18 ∨ z.toInt = 19 ∨ z.toInt = 20 by omega) with q | q | q | q | q | q | q | q | q | q | q | q | q | q | q | q | q | q | q | q | q
        · exact lv_tableIn (tgt := 136) (off := 97) hx hb dL_law_39 (by rw [q]; decide) (by rw [q]; decide) (by rw [q]; rfl) (by decide) (law_feed C0 hI hH hR hl h1 h2 h3 hc K)
        · exact lv_tableIn (tgt := 173) (off := 134) hx hb dL_law_39 (by rw [q]; decide) (by rw [q]; decide) (by rw [q]; rfl) (by decide) (law_end C0 hI hH hR hl h1 h2 h3 hc K)
        · exact lv_tableIn (tgt := 198) (off := 159) hx hb dL_law_39 (by rw [q]; decide) (by rw [q]; decide) (by rw [q]; rfl) (by decide) (law_style C0 hI hH hR hl h1 h2 h3 hc K)
        · exact lv_tableIn (tgt := 223) (off := 184) hx hb dL_law_39 (by rw [q]; decide) (by rw [q]; decide) (by rw [q]; rfl) (by decide) (law_row C0 hI hH hR hl h1 h2 h3 hc K)
        · exact lv_tableIn (tgt := 236) (off := 197) hx hb dL_law_39 (by rw [q]; decide) (by rw [q]; decide) (by rw [q]; rfl) (by decide) (law_clear C0 hI hH hR hl h1 h2 h3 hc K)
        · exact lv_tableIn (tgt := 247) (off := 208) hx hb dL_law_39 (by rw [q]; decide) (by rw [q]; decide) (by rw [q]; rfl) (by decide) (law_window C0 hI hH hR hl h1 h2 h3 hc K)
        · exact lv_tableIn (tgt := 272) (off := 233) hx hb dL_law_39 (by rw [q]; decide) (by rw [q]; decide) (by rw [q]; rfl) (by decide) (law_price C0 hI hH hR hl h1 h2 h3 hc K)
        · exact lv_tableIn (tgt := 309) (off := 270) hx hb dL_law_39 (by rw [q]; decide) (by rw [q]; decide) (by rw [q]; rfl) (by decide) (law_read C0 hI hH hR hl h1 h2 h3 hc K)
        · exact lv_tableIn (tgt := 358) (off := 319) hx hb dL_law_39 (by rw [q]; decide) (by rw [q]; decide) (by rw [q]; rfl) (by decide) (law_readings C0 hI hH hR hl h1 h2 h3 hc K)
        · exact lv_tableIn (tgt := 383) (off := 344) hx hb dL_law_39 (by rw [q]; decide) (by rw [q]; decide) (by rw [q]; rfl) (by decide) (law_cost C0 hI hH hR hl h1 h2 h3 hc K)
        · exact lv_tableIn (tgt := 396) (off := 357) hx hb dL_law_39 (by rw [q]; decide) (by rw [q]; decide) (by rw [q]; rfl) (by decide) (law_told C0 hI hH hR hl h1 h2 h3 hc K)
        · exact lv_tableIn (tgt := 421) (off := 382) hx hb dL_law_39 (by rw [q]; decide) (by rw [q]; decide) (by rw [q]; rfl) (by decide) (law_day C0 hI hH hR hl h1 h2 h3 hc K)
        · exact lv_tableIn (tgt := 458) (off := 419) hx hb dL_law_39 (by rw [q]; decide) (by rw [q]; decide) (by rw [q]; rfl) (by decide) (law_kind C0 hI hH hR hl h1 h2 h3 hc K)
        · exact lv_tableIn (tgt := 483) (off := 444) hx hb dL_law_39 (by rw [q]; decide) (by rw [q]; decide) (by rw [q]; rfl) (by decide) (law_second C0 hI hH hR hl h1 h2 h3 hc K)
        · exact lv_tableIn (tgt := 508) (off := 469) hx hb dL_law_39 (by rw [q]; decide) (by rw [q]; decide) (by rw [q]; rfl) (by decide) (law_many C0 hI hH hR hl h1 h2 h3 hc K)
        · exact lv_tableIn (tgt := 533) (off := 494) hx hb dL_law_39 (by rw [q]; decide) (by rw [q]; decide) (by rw [q]; rfl) (by decide) (law_spans C0 hI hH hR hl h1 h2 h3 hc K)
        · exact lv_tableIn (tgt := 546) (off := 507) hx hb dL_law_39 (by rw [q]; decide) (by rw [q]; decide) (by rw [q]; rfl) (by decide) (law_part hlt C0 hI hH hR hl h1 h2 h3 hc K)
        · exact lv_tableIn (tgt := 614) (off := 575) hx hb dL_law_39 (by rw [q]; decide) (by rw [q]; decide) (by rw [q]; rfl) (by decide) (law_number C0 hI hH hR hl h1 h2 h3 hc K)
        · exact lv_tableIn (tgt := 663) (off := 624) hx hb dL_law_39 (by rw [q]; decide) (by rw [q]; decide) (by rw [q]; rfl) (by decide) (law_write C0 hI hH hR hl h1 h2 h3 hc K)
        · exact lv_tableIn (tgt := 712) (off := 673) hx hb dL_law_39 (by rw [q]; decide) (by rw [q]; decide) (by rw [q]; rfl) (by decide) (law_same C0 hI hH hR hl h1 h2 h3 hc K)
        · exact lv_tableIn (tgt := 737) (off := 698) hx hb dL_law_39 (by rw [q]; decide) (by rw [q]; decide) (by rw [q]; rfl) (by decide) (law_count C0 hI hH hR hl h1 h2 h3 hc K)
end LWL
