/-! The calls of the law, one by one. -/
section LWK
variable {p : Program} {l : Launch} {e : Env} {s : State} {m : MethodId} {below : List Frame} {meth : Method} {c : Code} {H : Heap} {locs : List Loc} {cells slots : Nat} {Q : State → Prop} {ls : Array Slot}
variable {D : va_G} {cI cB cL : ClassId} {a b tb sa : Nat → Nat} {o sc L : Nat} {xs : Nat → Int32} {u v : ST} {g : Nat → Int64} {x4 : Int32}
set_option maxHeartbeats 4000000 in
set_option maxRecDepth 100000 in
theorem law_feed (C0 : lw_At p s m meth c sc L xs) (hI : LI D cI cB cL a b tb sa o s) (hH : LH D cI cB cL a b o u v g s H locs) (hR : Rel u v) (hl : lv_has ls 7 [(0, .ref sc), (1, .ref (a 0)), (2, .ref (b 0)), (3, .ref o), (4, .int x4)]) (h1 : vp_in (x4 + 1) L) (h2 : vp_in (x4 + 2) L) (h3 : vp_in (x4 + 3) L) (hc : cells + 1 ≤ room_1.cells ∧ slots + 6 ≤ room_1.slots)
    (K : ∀ (u v : ST) (g : Nat → Int64) (H : Heap) (locs : List Loc) (ls : Array Slot), Rel u v → LH D cI cB cL a b o u v g s H locs → lv_has ls 7 [(0, .ref sc), (1, .ref (a 0)), (2, .ref (b 0)), (3, .ref o), (4, .int x4)] → W p l e room_1 s m #[Value.ref sc] below meth c H locs (cells + 1) (slots + 6) Q (F0 m 762 ls [])) : W p l e room_1 s m #[Value.ref sc] below meth c H locs cells slots Q (F0 m 136 ls []) := by
  obtain ⟨hx, hb, hr, hml, hown, hts0, hX, hbl, hlocks, hgv⟩ := id C0
  have hown : s.vm.findClass RL = some m.cls := hown
  have hts : ∀ w ∈ wsL_law, w.before #[Value.ref sc] s = true := fun w h => hts0 w (wsL_law_in w h)
  have hf : cells ≤ room_1.cells ∧ slots ≤ room_1.slots := ⟨Nat.le_of_succ_le hc.1, Nat.le_trans (Nat.le_add_right _ _) hc.2⟩
  obtain ⟨r, u1, v1, e1, e2, hR1⟩ := k_feed hR (xs (x4 + 1).toNatClampNeg) (xs (x4 + 2).toNatClampNeg)
  refine lv_aload_n hx hb dL_law_136 rfl (lv_at hl 1 rfl) ?_
  refine L_ld (k := 1) (kv := 1) hx hb hX hbl hH.2.2.2 (lv_at hl 0 rfl) (lv_at hl 4 rfl) h1 dL_law_137 dL_law_138 dL_law_140 dL_law_141 dL_law_142 (by decide) ?_
  refine L_ld (k := 2) (kv := 2) hx hb hX hbl hH.2.2.2 (lv_at hl 0 rfl) (lv_at hl 4 rfl) h2 dL_law_143 dL_law_144 dL_law_146 dL_law_147 dL_law_148 (by decide) ?_
  refine L8W (As := [.int (xs (x4 + 1).toNatClampNeg), .int (xs (x4 + 2).toNatClampNeg)]) (rest := []) hI hH ⟨hx, hb, hml, hown, hts⟩ (c_X8_feed l D cI a tb u (xs (x4 + 1).toNatClampNeg) (xs (x4 + 2).toNatClampNeg) _ e1) (cwV 2 hts gL_law_X8_feed rfl rfl rfl (by decide +kernel) ⟨Nat.le_of_ble_eq_true rfl, Nat.le_of_ble_eq_true rfl⟩) rfl hl.1 rfl (Nat.le_of_ble_eq_true rfl) hf dL_law_149 (fun H locs hH => ?_)
  refine lv_aload_n hx hb dL_law_152 rfl (lv_at hl 2 rfl) ?_
  refine L_ld (k := 1) (kv := 1) hx hb hX hbl hH.2.2.2 (lv_at hl 0 rfl) (lv_at hl 4 rfl) h1 dL_law_153 dL_law_154 dL_law_156 dL_law_157 dL_law_158 (by decide) ?_
  refine L_ld (k := 2) (kv := 2) hx hb hX hbl hH.2.2.2 (lv_at hl 0 rfl) (lv_at hl 4 rfl) h2 dL_law_159 dL_law_160 dL_law_162 dL_law_163 dL_law_164 (by decide) ?_
  refine L9W (As := [.int (xs (x4 + 1).toNatClampNeg), .int (xs (x4 + 2).toNatClampNeg)]) (rest := [.int r]) hI hH ⟨hx, hb, hml, hown, hts⟩ (c_X9_feed l D cI cB b tb v (xs (x4 + 1).toNatClampNeg) (xs (x4 + 2).toNatClampNeg) _ e2) (cwV 2 hts gL_law_X9_feed rfl rfl rfl (by decide +kernel) ⟨Nat.le_of_ble_eq_true rfl, Nat.le_of_ble_eq_true rfl⟩) rfl hl.1 rfl (Nat.le_of_ble_eq_true rfl) hf dL_law_165 (fun H locs hH => ?_)
  exact lv_icmp_eq (tgt := 762) hx hb dL_law_168 (by decide) (fun _ => W.widen (Nat.le_add_right _ _) (Nat.le_add_right _ _) (K _ _ _ _ _ _ hR1 hH hl)) (fun q => absurd rfl q)
set_option maxHeartbeats 4000000 in
set_option maxRecDepth 100000 in
theorem law_end (C0 : lw_At p s m meth c sc L xs) (hI : LI D cI cB cL a b tb sa o s) (hH : LH D cI cB cL a b o u v g s H locs) (hR : Rel u v) (hl : lv_has ls 7 [(0, .ref sc), (1, .ref (a 0)), (2, .ref (b 0)), (3, .ref o), (4, .int x4)]) (h1 : vp_in (x4 + 1) L) (h2 : vp_in (x4 + 2) L) (h3 : vp_in (x4 + 3) L) (hc : cells + 1 ≤ room_1.cells ∧ slots + 6 ≤ room_1.slots)
    (K : ∀ (u v : ST) (g : Nat → Int64) (H : Heap) (locs : List Loc) (ls : Array Slot), Rel u v → LH D cI cB cL a b o u v g s H locs → lv_has ls 7 [(0, .ref sc), (1, .ref (a 0)), (2, .ref (b 0)), (3, .ref o), (4, .int x4)] → W p l e room_1 s m #[Value.ref sc] below meth c H locs (cells + 1) (slots + 6) Q (F0 m 762 ls [])) : W p l e room_1 s m #[Value.ref sc] below meth c H locs cells slots Q (F0 m 173 ls []) := by
  obtain ⟨hx, hb, hr, hml, hown, hts0, hX, hbl, hlocks, hgv⟩ := id C0
  have hown : s.vm.findClass RL = some m.cls := hown
  have hts : ∀ w ∈ wsL_law, w.before #[Value.ref sc] s = true := fun w h => hts0 w (wsL_law_in w h)
  have hf : cells ≤ room_1.cells ∧ slots ≤ room_1.slots := ⟨Nat.le_of_succ_le hc.1, Nat.le_trans (Nat.le_add_right _ _) hc.2⟩
  obtain ⟨r, u1, v1, e1, e2, hR1⟩ := k_end hR (xs (x4 + 1).toNatClampNeg)
  refine lv_aload_n hx hb dL_law_173 rfl (lv_at hl 1 rfl) ?_
  refine L_ld (k := 1) (kv := 1) hx hb hX hbl hH.2.2.2 (lv_at hl 0 rfl) (lv_at hl 4 rfl) h1 dL_law_174 dL_law_175 dL_law_177 dL_law_178 dL_law_179 (by decide) ?_
  refine L8W (As := [.int (xs (x4 + 1).toNatClampNeg)]) (rest := []) hI hH ⟨hx, hb, hml, hown, hts⟩ (c_X8_end l D cI a tb u (xs (x4 + 1).toNatClampNeg) _ e1) (cwV 1 hts gL_law_X8_end rfl rfl rfl (by decide +kernel) ⟨Nat.le_of_ble_eq_true rfl, Nat.le_of_ble_eq_true rfl⟩) rfl hl.1 rfl (Nat.le_of_ble_eq_true rfl) hf dL_law_180 (fun H locs hH => ?_)
  refine lv_aload_n hx hb dL_law_183 rfl (lv_at hl 2 rfl) ?_
  refine L_ld (k := 1) (kv := 1) hx hb hX hbl hH.2.2.2 (lv_at hl 0 rfl) (lv_at hl 4 rfl) h1 dL_law_184 dL_law_185 dL_law_187 dL_law_188 dL_law_189 (by decide) ?_
  refine L9W (As := [.int (xs (x4 + 1).toNatClampNeg)]) (rest := [.int r]) hI hH ⟨hx, hb, hml, hown, hts⟩ (c_X9_end l D cI cB b tb v (xs (x4 + 1).toNatClampNeg) _ e2) (cwV 1 hts gL_law_X9_end rfl rfl rfl (by decide +kernel) ⟨Nat.le_of_ble_eq_true rfl, Nat.le_of_ble_eq_true rfl⟩) rfl hl.1 rfl (Nat.le_of_ble_eq_true rfl) hf dL_law_190 (fun H locs hH => ?_)
  exact lv_icmp_eq (tgt := 762) hx hb dL_law_193 (by decide) (fun _ => W.widen (Nat.le_add_right _ _) (Nat.le_add_right _ _) (K _ _ _ _ _ _ hR1 hH hl)) (fun q => absurd rfl q)
set_option maxHeartbeats 4000000 in
set_option maxRecDepth 100000 in
theorem law_style (C0 : lw_At p s m meth c sc L xs) (hI : LI D cI cB cL a b tb sa o s) (hH : LH D cI cB cL a b o u v g s H locs) (hR : Rel u v) (hl : lv_has ls 7 [(0, .ref sc), (1, .ref (a 0)), (2, .ref (b 0)), (3, .ref o), (4, .int x4)]) (h1 : vp_in (x4 + 1) L) (h2 : vp_in (x4 + 2) L) (h3 : vp_in (x4 + 3) L) (hc : cells + 1 ≤ room_1.cells ∧ slots + 6 ≤ room_1.slots)
    (K : ∀ (u v : ST) (g : Nat → Int64) (H : Heap) (locs : List Loc) (ls : Array Slot), Rel u v → LH D cI cB cL a b o u v g s H locs → lv_has ls 7 [(0, .ref sc), (1, .ref (a 0)), (2, .ref (b 0)), (3, .ref o), (4, .int x4)] → W p l e room_1 s m #[Value.ref sc] below meth c H locs (cells + 1) (slots + 6) Q (F0 m 762 ls [])) : W p l e room_1 s m #[Value.ref sc] below meth c H locs cells slots Q (F0 m 198 ls []) := by
  obtain ⟨hx, hb, hr, hml, hown, hts0, hX, hbl, hlocks, hgv⟩ := id C0
  have hown : s.vm.findClass RL = some m.cls := hown
  have hts : ∀ w ∈ wsL_law, w.before #[Value.ref sc] s = true := fun w h => hts0 w (wsL_law_in w h)
  have hf : cells ≤ room_1.cells ∧ slots ≤ room_1.slots := ⟨Nat.le_of_succ_le hc.1, Nat.le_trans (Nat.le_add_right _ _) hc.2⟩
  obtain ⟨r, u1, v1, e1, e2, hR1⟩ := k_style hR (xs (x4 + 1).toNatClampNeg)
  refine lv_aload_n hx hb dL_law_198 rfl (lv_at hl 1 rfl) ?_
  refine L_ld (k := 1) (kv := 1) hx hb hX hbl hH.2.2.2 (lv_at hl 0 rfl) (lv_at hl 4 rfl) h1 dL_law_199 dL_law_200 dL_law_202 dL_law_203 dL_law_204 (by decide) ?_
  refine L8W (As := [.int (xs (x4 + 1).toNatClampNeg)]) (rest := []) hI hH ⟨hx, hb, hml, hown, hts⟩ (c_X8_style l D cI a tb u (xs (x4 + 1).toNatClampNeg) _ e1) (cwV 1 hts gL_law_X8_style rfl rfl rfl (by decide +kernel) ⟨Nat.le_of_ble_eq_true rfl, Nat.le_of_ble_eq_true rfl⟩) rfl hl.1 rfl (Nat.le_of_ble_eq_true rfl) hf dL_law_205 (fun H locs hH => ?_)
  refine lv_aload_n hx hb dL_law_208 rfl (lv_at hl 2 rfl) ?_
  refine L_ld (k := 1) (kv := 1) hx hb hX hbl hH.2.2.2 (lv_at hl 0 rfl) (lv_at hl 4 rfl) h1 dL_law_209 dL_law_210 dL_law_212 dL_law_213 dL_law_214 (by decide) ?_
  refine L9W (As := [.int (xs (x4 + 1).toNatClampNeg)]) (rest := [.int r]) hI hH ⟨hx, hb, hml, hown, hts⟩ (c_X9_style l D cI cB b tb v (xs (x4 + 1).toNatClampNeg) _ e2) (cwV 1 hts gL_law_X9_style rfl rfl rfl (by decide +kernel) ⟨Nat.le_of_ble_eq_true rfl, Nat.le_of_ble_eq_true rfl⟩) rfl hl.1 rfl (Nat.le_of_ble_eq_true rfl) hf dL_law_215 (fun H locs hH => ?_)
  exact lv_icmp_eq (tgt := 762) hx hb dL_law_218 (by decide) (fun _ => W.widen (Nat.le_add_right _ _) (Nat.le_add_right _ _) (K _ _ _ _ _ _ hR1 hH hl)) (fun q => absurd rfl q)
set_option maxHeartbeats 4000000 in
set_option maxRecDepth 100000 in
theorem law_row (C0 : lw_At p s m meth c sc L xs) (hI : LI D cI cB cL a b tb sa o s) (hH : LH D cI cB cL a b o u v g s H locs) (hR : Rel u v) (hl : lv_has ls 7 [(0, .ref sc), (1, .ref (a 0)), (2, .ref (b 0)), (3, .ref o), (4, .int x4)]) (h1 : vp_in (x4 + 1) L) (h2 : vp_in (x4 + 2) L) (h3 : vp_in (x4 + 3) L) (hc : cells + 1 ≤ room_1.cells ∧ slots + 6 ≤ room_1.slots)
    (K : ∀ (u v : ST) (g : Nat → Int64) (H : Heap) (locs : List Loc) (ls : Array Slot), Rel u v → LH D cI cB cL a b o u v g s H locs → lv_has ls 7 [(0, .ref sc), (1, .ref (a 0)), (2, .ref (b 0)), (3, .ref o), (4, .int x4)] → W p l e room_1 s m #[Value.ref sc] below meth c H locs (cells + 1) (slots + 6) Q (F0 m 762 ls [])) : W p l e room_1 s m #[Value.ref sc] below meth c H locs cells slots Q (F0 m 223 ls []) := by
  obtain ⟨hx, hb, hr, hml, hown, hts0, hX, hbl, hlocks, hgv⟩ := id C0
  have hown : s.vm.findClass RL = some m.cls := hown
  have hts : ∀ w ∈ wsL_law, w.before #[Value.ref sc] s = true := fun w h => hts0 w (wsL_law_in w h)
  have hf : cells ≤ room_1.cells ∧ slots ≤ room_1.slots := ⟨Nat.le_of_succ_le hc.1, Nat.le_trans (Nat.le_add_right _ _) hc.2⟩
  obtain ⟨r, u1, v1, e1, e2, hR1⟩ := k_row hR 
  refine lv_aload_n hx hb dL_law_223 rfl (lv_at hl 1 rfl) ?_
  refine L8W (As := []) (rest := []) hI hH ⟨hx, hb, hml, hown, hts⟩ (c_X8_row l D cI a tb u  _ e1) (cwV 0 hts gL_law_X8_row rfl rfl rfl (by decide +kernel) ⟨Nat.le_of_ble_eq_true rfl, Nat.le_of_ble_eq_true rfl⟩) rfl hl.1 rfl (Nat.le_of_ble_eq_true rfl) hf dL_law_224 (fun H locs hH => ?_)
  refine lv_aload_n hx hb dL_law_227 rfl (lv_at hl 2 rfl) ?_
  refine L9W (As := []) (rest := [.int r]) hI hH ⟨hx, hb, hml, hown, hts⟩ (c_X9_row l D cI cB b tb v  _ e2) (cwV 0 hts gL_law_X9_row rfl rfl rfl (by decide +kernel) ⟨Nat.le_of_ble_eq_true rfl, Nat.le_of_ble_eq_true rfl⟩) rfl hl.1 rfl (Nat.le_of_ble_eq_true rfl) hf dL_law_228 (fun H locs hH => ?_)
  exact lv_icmp_eq (tgt := 762) hx hb dL_law_231 (by decide) (fun _ => W.widen (Nat.le_add_right _ _) (Nat.le_add_right _ _) (K _ _ _ _ _ _ hR1 hH hl)) (fun q => absurd rfl q)
set_option maxHeartbeats 4000000 in
set_option maxRecDepth 100000 in
theorem law_clear (C0 : lw_At p s m meth c sc L xs) (hI : LI D cI cB cL a b tb sa o s) (hH : LH D cI cB cL a b o u v g s H locs) (hR : Rel u v) (hl : lv_has ls 7 [(0, .ref sc), (1, .ref (a 0)), (2, .ref (b 0)), (3, .ref o), (4, .int x4)]) (h1 : vp_in (x4 + 1) L) (h2 : vp_in (x4 + 2) L) (h3 : vp_in (x4 + 3) L) (hc : cells + 1 ≤ room_1.cells ∧ slots + 6 ≤ room_1.slots)
    (K : ∀ (u v : ST) (g : Nat → Int64) (H : Heap) (locs : List Loc) (ls : Array Slot), Rel u v → LH D cI cB cL a b o u v g s H locs → lv_has ls 7 [(0, .ref sc), (1, .ref (a 0)), (2, .ref (b 0)), (3, .ref o), (4, .int x4)] → W p l e room_1 s m #[Value.ref sc] below meth c H locs (cells + 1) (slots + 6) Q (F0 m 762 ls [])) : W p l e room_1 s m #[Value.ref sc] below meth c H locs cells slots Q (F0 m 236 ls []) := by
  obtain ⟨hx, hb, hr, hml, hown, hts0, hX, hbl, hlocks, hgv⟩ := id C0
  have hown : s.vm.findClass RL = some m.cls := hown
  have hts : ∀ w ∈ wsL_law, w.before #[Value.ref sc] s = true := fun w h => hts0 w (wsL_law_in w h)
  have hf : cells ≤ room_1.cells ∧ slots ≤ room_1.slots := ⟨Nat.le_of_succ_le hc.1, Nat.le_trans (Nat.le_add_right _ _) hc.2⟩
  obtain ⟨u1, v1, e1, e2, hR1⟩ := k_clear hR
  refine lv_aload_n hx hb dL_law_236 rfl (lv_at hl 1 rfl) ?_
  refine L8V (As := []) (rest := []) hI hH ⟨hx, hb, hml, hown, hts⟩ (c_X8_clear l D cI a tb u  _ e1) (cwV 0 hts gL_law_X8_clear rfl rfl rfl (by decide +kernel) ⟨Nat.le_of_ble_eq_true rfl, Nat.le_of_ble_eq_true rfl⟩) rfl hl.1 rfl (Nat.le_of_ble_eq_true rfl) hf dL_law_237 (fun H locs hH => ?_)
  refine lv_aload_n hx hb dL_law_240 rfl (lv_at hl 2 rfl) ?_
  refine L9V (As := []) (rest := []) hI hH ⟨hx, hb, hml, hown, hts⟩ (c_X9_clear l D cI cB b tb v  _ e2) (cwV 0 hts gL_law_X9_clear rfl rfl rfl (by decide +kernel) ⟨Nat.le_of_ble_eq_true rfl, Nat.le_of_ble_eq_true rfl⟩) rfl hl.1 rfl (Nat.le_of_ble_eq_true rfl) hf dL_law_241 (fun H locs hH => ?_)
  refine lv_goto (tgt := 762) hx hb dL_law_244 (by decide) ?_
  exact W.widen (Nat.le_add_right _ _) (Nat.le_add_right _ _) (K _ _ _ _ _ _ hR1 hH hl)
set_option maxHeartbeats 4000000 in
set_option maxRecDepth 100000 in
theorem law_window (C0 : lw_At p s m meth c sc L xs) (hI : LI D cI cB cL a b tb sa o s) (hH : LH D cI cB cL a b o u v g s H locs) (hR : Rel u v) (hl : lv_has ls 7 [(0, .ref sc), (1, .ref (a 0)), (2, .ref (b 0)), (3, .ref o), (4, .int x4)]) (h1 : vp_in (x4 + 1) L) (h2 : vp_in (x4 + 2) L) (h3 : vp_in (x4 + 3) L) (hc : cells + 1 ≤ room_1.cells ∧ slots + 6 ≤ room_1.slots)
    (K : ∀ (u v : ST) (g : Nat → Int64) (H : Heap) (locs : List Loc) (ls : Array Slot), Rel u v → LH D cI cB cL a b o u v g s H locs → lv_has ls 7 [(0, .ref sc), (1, .ref (a 0)), (2, .ref (b 0)), (3, .ref o), (4, .int x4)] → W p l e room_1 s m #[Value.ref sc] below meth c H locs (cells + 1) (slots + 6) Q (F0 m 762 ls [])) : W p l e room_1 s m #[Value.ref sc] below meth c H locs cells slots Q (F0 m 247 ls []) := by
  obtain ⟨hx, hb, hr, hml, hown, hts0, hX, hbl, hlocks, hgv⟩ := id C0
  have hown : s.vm.findClass RL = some m.cls := hown
  have hts : ∀ w ∈ wsL_law, w.before #[Value.ref sc] s = true := fun w h => hts0 w (wsL_law_in w h)
  have hf : cells ≤ room_1.cells ∧ slots ≤ room_1.slots := ⟨Nat.le_of_succ_le hc.1, Nat.le_trans (Nat.le_add_right _ _) hc.2⟩
  obtain ⟨r, u1, v1, e1, e2, hR1⟩ := k_window hR (xs (x4 + 1).toNatClampNeg)
  refine lv_aload_n hx hb dL_law_247 rfl (lv_at hl 1 rfl) ?_
  refine L_ld (k := 1) (kv := 1) hx hb hX hbl hH.2.2.2 (lv_at hl 0 rfl) (lv_at hl 4 rfl) h1 dL_law_248 dL_law_249 dL_law_251 dL_law_252 dL_law_253 (by decide) ?_
  refine L8W (As := [.int (xs (x4 + 1).toNatClampNeg)]) (rest := []) hI hH ⟨hx, hb, hml, hown, hts⟩ (c_X8_window l D cI a tb u (xs (x4 + 1).toNatClampNeg) _ e1) (cwV 1 hts gL_law_X8_window rfl rfl rfl (by decide +kernel) ⟨Nat.le_of_ble_eq_true rfl, Nat.le_of_ble_eq_true rfl⟩) rfl hl.1 rfl (Nat.le_of_ble_eq_true rfl) hf dL_law_254 (fun H locs hH => ?_)
  refine lv_aload_n hx hb dL_law_257 rfl (lv_at hl 2 rfl) ?_
  refine L_ld (k := 1) (kv := 1) hx hb hX hbl hH.2.2.2 (lv_at hl 0 rfl) (lv_at hl 4 rfl) h1 dL_law_258 dL_law_259 dL_law_261 dL_law_262 dL_law_263 (by decide) ?_
  refine L9W (As := [.int (xs (x4 + 1).toNatClampNeg)]) (rest := [.int r]) hI hH ⟨hx, hb, hml, hown, hts⟩ (c_X9_window l D cI cB b tb v (xs (x4 + 1).toNatClampNeg) _ e2) (cwV 1 hts gL_law_X9_window rfl rfl rfl (by decide +kernel) ⟨Nat.le_of_ble_eq_true rfl, Nat.le_of_ble_eq_true rfl⟩) rfl hl.1 rfl (Nat.le_of_ble_eq_true rfl) hf dL_law_264 (fun H locs hH => ?_)
  exact lv_icmp_eq (tgt := 762) hx hb dL_law_267 (by decide) (fun _ => W.widen (Nat.le_add_right _ _) (Nat.le_add_right _ _) (K _ _ _ _ _ _ hR1 hH hl)) (fun q => absurd rfl q)
set_option maxHeartbeats 4000000 in
set_option maxRecDepth 100000 in
theorem law_price (C0 : lw_At p s m meth c sc L xs) (hI : LI D cI cB cL a b tb sa o s) (hH : LH D cI cB cL a b o u v g s H locs) (hR : Rel u v) (hl : lv_has ls 7 [(0, .ref sc), (1, .ref (a 0)), (2, .ref (b 0)), (3, .ref o), (4, .int x4)]) (h1 : vp_in (x4 + 1) L) (h2 : vp_in (x4 + 2) L) (h3 : vp_in (x4 + 3) L) (hc : cells + 1 ≤ room_1.cells ∧ slots + 6 ≤ room_1.slots)
    (K : ∀ (u v : ST) (g : Nat → Int64) (H : Heap) (locs : List Loc) (ls : Array Slot), Rel u v → LH D cI cB cL a b o u v g s H locs → lv_has ls 7 [(0, .ref sc), (1, .ref (a 0)), (2, .ref (b 0)), (3, .ref o), (4, .int x4)] → W p l e room_1 s m #[Value.ref sc] below meth c H locs (cells + 1) (slots + 6) Q (F0 m 762 ls [])) : W p l e room_1 s m #[Value.ref sc] below meth c H locs cells slots Q (F0 m 272 ls []) := by
  obtain ⟨hx, hb, hr, hml, hown, hts0, hX, hbl, hlocks, hgv⟩ := id C0
  have hown : s.vm.findClass RL = some m.cls := hown
  have hts : ∀ w ∈ wsL_law, w.before #[Value.ref sc] s = true := fun w h => hts0 w (wsL_law_in w h)
  have hf : cells ≤ room_1.cells ∧ slots ≤ room_1.slots := ⟨Nat.le_of_succ_le hc.1, Nat.le_trans (Nat.le_add_right _ _) hc.2⟩
  obtain ⟨r, u1, v1, e1, e2, hR1⟩ := k_price hR (xs (x4 + 1).toNatClampNeg) (xs (x4 + 2).toNatClampNeg)
  refine lv_aload_n hx hb dL_law_272 rfl (lv_at hl 1 rfl) ?_
  refine L_ld (k := 1) (kv := 1) hx hb hX hbl hH.2.2.2 (lv_at hl 0 rfl) (lv_at hl 4 rfl) h1 dL_law_273 dL_law_274 dL_law_276 dL_law_277 dL_law_278 (by decide) ?_
  refine L_ld (k := 2) (kv := 2) hx hb hX hbl hH.2.2.2 (lv_at hl 0 rfl) (lv_at hl 4 rfl) h2 dL_law_279 dL_law_280 dL_law_282 dL_law_283 dL_law_284 (by decide) ?_
  refine L8W (As := [.int (xs (x4 + 1).toNatClampNeg), .int (xs (x4 + 2).toNatClampNeg)]) (rest := []) hI hH ⟨hx, hb, hml, hown, hts⟩ (c_X8_price l D cI a tb u (xs (x4 + 1).toNatClampNeg) (xs (x4 + 2).toNatClampNeg) _ e1) (cwV 2 hts gL_law_X8_price rfl rfl rfl (by decide +kernel) ⟨Nat.le_of_ble_eq_true rfl, Nat.le_of_ble_eq_true rfl⟩) rfl hl.1 rfl (Nat.le_of_ble_eq_true rfl) hf dL_law_285 (fun H locs hH => ?_)
  refine lv_aload_n hx hb dL_law_288 rfl (lv_at hl 2 rfl) ?_
  refine L_ld (k := 1) (kv := 1) hx hb hX hbl hH.2.2.2 (lv_at hl 0 rfl) (lv_at hl 4 rfl) h1 dL_law_289 dL_law_290 dL_law_292 dL_law_293 dL_law_294 (by decide) ?_
  refine L_ld (k := 2) (kv := 2) hx hb hX hbl hH.2.2.2 (lv_at hl 0 rfl) (lv_at hl 4 rfl) h2 dL_law_295 dL_law_296 dL_law_298 dL_law_299 dL_law_300 (by decide) ?_
  refine L9W (As := [.int (xs (x4 + 1).toNatClampNeg), .int (xs (x4 + 2).toNatClampNeg)]) (rest := [.int r]) hI hH ⟨hx, hb, hml, hown, hts⟩ (c_X9_price l D cI cB b tb v (xs (x4 + 1).toNatClampNeg) (xs (x4 + 2).toNatClampNeg) _ e2) (cwV 2 hts gL_law_X9_price rfl rfl rfl (by decide +kernel) ⟨Nat.le_of_ble_eq_true rfl, Nat.le_of_ble_eq_true rfl⟩) rfl hl.1 rfl (Nat.le_of_ble_eq_true rfl) hf dL_law_301 (fun H locs hH => ?_)
  exact lv_icmp_eq (tgt := 762) hx hb dL_law_304 (by decide) (fun _ => W.widen (Nat.le_add_right _ _) (Nat.le_add_right _ _) (K _ _ _ _ _ _ hR1 hH hl)) (fun q => absurd rfl q)
set_option maxHeartbeats 4000000 in
set_option maxRecDepth 100000 in
theorem law_read (C0 : lw_At p s m meth c sc L xs) (hI : LI D cI cB cL a b tb sa o s) (hH : LH D cI cB cL a b o u v g s H locs) (hR : Rel u v) (hl : lv_has ls 7 [(0, .ref sc), (1, .ref (a 0)), (2, .ref (b 0)), (3, .ref o), (4, .int x4)]) (h1 : vp_in (x4 + 1) L) (h2 : vp_in (x4 + 2) L) (h3 : vp_in (x4 + 3) L) (hc : cells + 1 ≤ room_1.cells ∧ slots + 6 ≤ room_1.slots)
    (K : ∀ (u v : ST) (g : Nat → Int64) (H : Heap) (locs : List Loc) (ls : Array Slot), Rel u v → LH D cI cB cL a b o u v g s H locs → lv_has ls 7 [(0, .ref sc), (1, .ref (a 0)), (2, .ref (b 0)), (3, .ref o), (4, .int x4)] → W p l e room_1 s m #[Value.ref sc] below meth c H locs (cells + 1) (slots + 6) Q (F0 m 762 ls [])) : W p l e room_1 s m #[Value.ref sc] below meth c H locs cells slots Q (F0 m 309 ls []) := by
  obtain ⟨hx, hb, hr, hml, hown, hts0, hX, hbl, hlocks, hgv⟩ := id C0
  have hown : s.vm.findClass RL = some m.cls := hown
  have hts : ∀ w ∈ wsL_law, w.before #[Value.ref sc] s = true := fun w h => hts0 w (wsL_law_in w h)
  have hf : cells ≤ room_1.cells ∧ slots ≤ room_1.slots := ⟨Nat.le_of_succ_le hc.1, Nat.le_trans (Nat.le_add_right _ _) hc.2⟩
  obtain ⟨r, u1, v1, e1, e2, hR1⟩ := k_read hR (xs (x4 + 1).toNatClampNeg) (xs (x4 + 2).toNatClampNeg) (xs (x4 + 3).toNatClampNeg)
  refine lv_aload_n hx hb dL_law_309 rfl (lv_at hl 1 rfl) ?_
  refine L_ld (k := 1) (kv := 1) hx hb hX hbl hH.2.2.2 (lv_at hl 0 rfl) (lv_at hl 4 rfl) h1 dL_law_310 dL_law_311 dL_law_313 dL_law_314 dL_law_315 (by decide) ?_
  refine L_ld (k := 2) (kv := 2) hx hb hX hbl hH.2.2.2 (lv_at hl 0 rfl) (lv_at hl 4 rfl) h2 dL_law_316 dL_law_317 dL_law_319 dL_law_320 dL_law_321 (by decide) ?_
  refine L_ld (k := 3) (kv := 3) hx hb hX hbl hH.2.2.2 (lv_at hl 0 rfl) (lv_at hl 4 rfl) h3 dL_law_322 dL_law_323 dL_law_325 dL_law_326 dL_law_327 (by decide) ?_
  refine L8W (As := [.int (xs (x4 + 1).toNatClampNeg), .int (xs (x4 + 2).toNatClampNeg), .int (xs (x4 + 3).toNatClampNeg)]) (rest := []) hI hH ⟨hx, hb, hml, hown, hts⟩ (c_X8_read l D cI a tb u (xs (x4 + 1).toNatClampNeg) (xs (x4 + 2).toNatClampNeg) (xs (x4 + 3).toNatClampNeg) _ e1) (cwV 3 hts gL_law_X8_read rfl rfl rfl (by decide +kernel) ⟨Nat.le_of_ble_eq_true rfl, Nat.le_of_ble_eq_true rfl⟩) rfl hl.1 rfl (Nat.le_of_ble_eq_true rfl) hf dL_law_328 (fun H locs hH => ?_)
  refine lv_aload_n hx hb dL_law_331 rfl (lv_at hl 2 rfl) ?_
  refine L_ld (k := 1) (kv := 1) hx hb hX hbl hH.2.2.2 (lv_at hl 0 rfl) (lv_at hl 4 rfl) h1 dL_law_332 dL_law_333 dL_law_335 dL_law_336 dL_law_337 (by decide) ?_
  refine L_ld (k := 2) (kv := 2) hx hb hX hbl hH.2.2.2 (lv_at hl 0 rfl) (lv_at hl 4 rfl) h2 dL_law_338 dL_law_339 dL_law_341 dL_law_342 dL_law_343 (by decide) ?_
  refine L_ld (k := 3) (kv := 3) hx hb hX hbl hH.2.2.2 (lv_at hl 0 rfl) (lv_at hl 4 rfl) h3 dL_law_344 dL_law_345 dL_law_347 dL_law_348 dL_law_349 (by decide) ?_
  refine L9W (As := [.int (xs (x4 + 1).toNatClampNeg), .int (xs (x4 + 2).toNatClampNeg), .int (xs (x4 + 3).toNatClampNeg)]) (rest := [.int r]) hI hH ⟨hx, hb, hml, hown, hts⟩ (c_X9_read l D cI cB b tb v (xs (x4 + 1).toNatClampNeg) (xs (x4 + 2).toNatClampNeg) (xs (x4 + 3).toNatClampNeg) _ e2) (cwV 3 hts gL_law_X9_read rfl rfl rfl (by decide +kernel) ⟨Nat.le_of_ble_eq_true rfl, Nat.le_of_ble_eq_true rfl⟩) rfl hl.1 rfl (Nat.le_of_ble_eq_true rfl) hf dL_law_350 (fun H locs hH => ?_)
  exact lv_icmp_eq (tgt := 762) hx hb dL_law_353 (by decide) (fun _ => W.widen (Nat.le_add_right _ _) (Nat.le_add_right _ _) (K _ _ _ _ _ _ hR1 hH hl)) (fun q => absurd rfl q)
set_option maxHeartbeats 4000000 in
set_option maxRecDepth 100000 in
theorem law_readings (C0 : lw_At p s m meth c sc L xs) (hI : LI D cI cB cL a b tb sa o s) (hH : LH D cI cB cL a b o u v g s H locs) (hR : Rel u v) (hl : lv_has ls 7 [(0, .ref sc), (1, .ref (a 0)), (2, .ref (b 0)), (3, .ref o), (4, .int x4)]) (h1 : vp_in (x4 + 1) L) (h2 : vp_in (x4 + 2) L) (h3 : vp_in (x4 + 3) L) (hc : cells + 1 ≤ room_1.cells ∧ slots + 6 ≤ room_1.slots)
    (K : ∀ (u v : ST) (g : Nat → Int64) (H : Heap) (locs : List Loc) (ls : Array Slot), Rel u v → LH D cI cB cL a b o u v g s H locs → lv_has ls 7 [(0, .ref sc), (1, .ref (a 0)), (2, .ref (b 0)), (3, .ref o), (4, .int x4)] → W p l e room_1 s m #[Value.ref sc] below meth c H locs (cells + 1) (slots + 6) Q (F0 m 762 ls [])) : W p l e room_1 s m #[Value.ref sc] below meth c H locs cells slots Q (F0 m 358 ls []) := by
  obtain ⟨hx, hb, hr, hml, hown, hts0, hX, hbl, hlocks, hgv⟩ := id C0
  have hown : s.vm.findClass RL = some m.cls := hown
  have hts : ∀ w ∈ wsL_law, w.before #[Value.ref sc] s = true := fun w h => hts0 w (wsL_law_in w h)
  have hf : cells ≤ room_1.cells ∧ slots ≤ room_1.slots := ⟨Nat.le_of_succ_le hc.1, Nat.le_trans (Nat.le_add_right _ _) hc.2⟩
  obtain ⟨r, u1, v1, e1, e2, hR1⟩ := k_readings hR (xs (x4 + 1).toNatClampNeg)
  refine lv_aload_n hx hb dL_law_358 rfl (lv_at hl 1 rfl) ?_
  refine L_ld (k := 1) (kv := 1) hx hb hX hbl hH.2.2.2 (lv_at hl 0 rfl) (lv_at hl 4 rfl) h1 dL_law_359 dL_law_360 dL_law_362 dL_law_363 dL_law_364 (by decide) ?_
  refine L8W (As := [.int (xs (x4 + 1).toNatClampNeg)]) (rest := []) hI hH ⟨hx, hb, hml, hown, hts⟩ (c_X8_readings l D cI a tb u (xs (x4 + 1).toNatClampNeg) _ e1) (cwV 1 hts gL_law_X8_readings rfl rfl rfl (by decide +kernel) ⟨Nat.le_of_ble_eq_true rfl, Nat.le_of_ble_eq_true rfl⟩) rfl hl.1 rfl (Nat.le_of_ble_eq_true rfl) hf dL_law_365 (fun H locs hH => ?_)
  refine lv_aload_n hx hb dL_law_368 rfl (lv_at hl 2 rfl) ?_
  refine L_ld (k := 1) (kv := 1) hx hb hX hbl hH.2.2.2 (lv_at hl 0 rfl) (lv_at hl 4 rfl) h1 dL_law_369 dL_law_370 dL_law_372 dL_law_373 dL_law_374 (by decide) ?_
  refine L9W (As := [.int (xs (x4 + 1).toNatClampNeg)]) (rest := [.int r]) hI hH ⟨hx, hb, hml, hown, hts⟩ (c_X9_readings l D cI cB b tb v (xs (x4 + 1).toNatClampNeg) _ e2) (cwV 1 hts gL_law_X9_readings rfl rfl rfl (by decide +kernel) ⟨Nat.le_of_ble_eq_true rfl, Nat.le_of_ble_eq_true rfl⟩) rfl hl.1 rfl (Nat.le_of_ble_eq_true rfl) hf dL_law_375 (fun H locs hH => ?_)
  exact lv_icmp_eq (tgt := 762) hx hb dL_law_378 (by decide) (fun _ => W.widen (Nat.le_add_right _ _) (Nat.le_add_right _ _) (K _ _ _ _ _ _ hR1 hH hl)) (fun q => absurd rfl q)
set_option maxHeartbeats 4000000 in
set_option maxRecDepth 100000 in
theorem law_cost (C0 : lw_At p s m meth c sc L xs) (hI : LI D cI cB cL a b tb sa o s) (hH : LH D cI cB cL a b o u v g s H locs) (hR : Rel u v) (hl : lv_has ls 7 [(0, .ref sc), (1, .ref (a 0)), (2, .ref (b 0)), (3, .ref o), (4, .int x4)]) (h1 : vp_in (x4 + 1) L) (h2 : vp_in (x4 + 2) L) (h3 : vp_in (x4 + 3) L) (hc : cells + 1 ≤ room_1.cells ∧ slots + 6 ≤ room_1.slots)
    (K : ∀ (u v : ST) (g : Nat → Int64) (H : Heap) (locs : List Loc) (ls : Array Slot), Rel u v → LH D cI cB cL a b o u v g s H locs → lv_has ls 7 [(0, .ref sc), (1, .ref (a 0)), (2, .ref (b 0)), (3, .ref o), (4, .int x4)] → W p l e room_1 s m #[Value.ref sc] below meth c H locs (cells + 1) (slots + 6) Q (F0 m 762 ls [])) : W p l e room_1 s m #[Value.ref sc] below meth c H locs cells slots Q (F0 m 383 ls []) := by
  obtain ⟨hx, hb, hr, hml, hown, hts0, hX, hbl, hlocks, hgv⟩ := id C0
  have hown : s.vm.findClass RL = some m.cls := hown
  have hts : ∀ w ∈ wsL_law, w.before #[Value.ref sc] s = true := fun w h => hts0 w (wsL_law_in w h)
  have hf : cells ≤ room_1.cells ∧ slots ≤ room_1.slots := ⟨Nat.le_of_succ_le hc.1, Nat.le_trans (Nat.le_add_right _ _) hc.2⟩
  obtain ⟨r, u1, v1, e1, e2, hR1⟩ := k_cost hR 
  refine lv_aload_n hx hb dL_law_383 rfl (lv_at hl 1 rfl) ?_
  refine L8W (As := []) (rest := []) hI hH ⟨hx, hb, hml, hown, hts⟩ (c_X8_cost l D cI a tb u  _ e1) (cwV 0 hts gL_law_X8_cost rfl rfl rfl (by decide +kernel) ⟨Nat.le_of_ble_eq_true rfl, Nat.le_of_ble_eq_true rfl⟩) rfl hl.1 rfl (Nat.le_of_ble_eq_true rfl) hf dL_law_384 (fun H locs hH => ?_)
  refine lv_aload_n hx hb dL_law_387 rfl (lv_at hl 2 rfl) ?_
  refine L9W (As := []) (rest := [.int r]) hI hH ⟨hx, hb, hml, hown, hts⟩ (c_X9_cost l D cI cB b tb v  _ e2) (cwV 0 hts gL_law_X9_cost rfl rfl rfl (by decide +kernel) ⟨Nat.le_of_ble_eq_true rfl, Nat.le_of_ble_eq_true rfl⟩) rfl hl.1 rfl (Nat.le_of_ble_eq_true rfl) hf dL_law_388 (fun H locs hH => ?_)
  exact lv_icmp_eq (tgt := 762) hx hb dL_law_391 (by decide) (fun _ => W.widen (Nat.le_add_right _ _) (Nat.le_add_right _ _) (K _ _ _ _ _ _ hR1 hH hl)) (fun q => absurd rfl q)
end LWK
