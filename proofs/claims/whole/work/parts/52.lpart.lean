/-! the law's own part: what the class's part answers, or that it threw. -/
def lP (D : va_G) (cL : ClassId) (tb sa : Nat → Nat) (h0 o : Nat) (f : Nat → Int64) (U : State) : Prop :=
  va_P D vwCl [(o, .inl (cL, 1, .inr (.inl f)))] U.heap ∧ va_K D vwCl [(cL, .long)] U ∧ (∃ cell : Cell, U.heap[h0]? = some cell ∧ cell.vm.isStatics = false ∧ U.vm.findClass RX8 = some cell.cls) ∧ pA tb sa (fun q => q = o) U U.heap
theorem lP_blind {av : List Value} {D : va_G} {cL : ClassId} {tb sa : Nat → Nat} {h0 o : Nat} {f : Nat → Int64} : FrameBlind (va_Pc av (lP D cL tb sa h0 o f)) := by
  intro v U g mk q
  obtain ⟨q0, qP, qK, qR, qA⟩ := q
  exact ⟨q0, qP, va_K.moved (u := U) (U := U.calling g mk v) (Vm.Alike.refl U.vm) qK, qR, pA.calling (H := U.heap) qA⟩
theorem one_D {o : Nat} {e : va_E} : va_D (fun q => q = o) [(o, e)] := by
  refine ⟨fun i j x z h1 h2 _ => ?_, fun k q h => ?_⟩
  · match i, j, h1, h2 with
    | 0, 0, _, _ => rfl
    | 0, j + 1, _, h2 => simp at h2
    | i + 1, _, h1, _ => simp at h1
  · match k, h with
    | 0, h => cases h; rfl
    | k + 1, h => simp at h
set_option maxHeartbeats 4000000 in
set_option maxRecDepth 100000 in
theorem c_L_part (l : Launch) (hlt : l.stackTraces = false) (D : va_G) (cL : ClassId) (tb sa : Nat → Nat) (h0 o : Nat) (x y : Int32) (f : Nat → Int64) : Met l yL_part wsL_part ({ frames := 7, cells := 1, slots := 6, locals := 108 }) (va_Pc [.ref h0, .int x, .int y, .ref o] (lP D cL tb sa h0 o f))
    (va_Qi (fun (z : Int32) (u : Nat → Int64) => (∃ v, pV x y = some v ∧ z = 0 ∧ u = vp_updL f 0 v.toInt64) ∨ (pV x y = none ∧ z = 1 ∧ u = f)) (fun u t => va_P D vwCl [(o, .inl (cL, 1, .inr (.inl u)))] t.heap) (fun q => q = o)) 1 6 (fun q => q = o) := by
  refine vxh_of (cc := cL_part) (maxL := 5) (ret := (some .int)) (hh := [(0, 10, 13, 13)]) (by decide) rfl (Nat.le_of_ble_eq_true rfl) ?_
  intro p e s m below meth c hx hb hr hml htb hts hown hlk hG ls hl
  have hown : s.vm.findClass RL = some m.cls := hown
  obtain ⟨hP, hK, hrc, hA⟩ := hG
  have hS : va_S (fun q => q = o) s.heap s.heap [] := va_S.rf
  have hl : lv_has ls 5 [(0, .ref h0), (1, .int x), (2, .int y), (3, .ref o)] := hl
  refine lv_aload_n hx hb dL_part_0 rfl (lv_at hl 3 rfl) ?_
  refine lv_iconst (v := 0) hx hb dL_part_1 (by decide) ?_
  refine lv_aload_n hx hb dL_part_2 rfl (lv_at hl 0 rfl) ?_
  refine lv_iload_n hx hb dL_part_3 rfl (lv_at hl 1 rfl) ?_
  refine lv_iload_n hx hb dL_part_4 rfl (lv_at hl 2 rfl) ?_
  refine vx_calli (vx_runV (As := [.int x, .int y]) (rest := [.int 0, .ref o]) ⟨hx, hb, hml, hown, hts⟩ (c_X8_part l hlt tb sa h0 x y) (cwV 2 hts gL_part_X8_part rfl rfl rfl (by decide +kernel) ⟨Nat.le_of_ble_eq_true rfl, Nat.le_of_ble_eq_true rfl⟩) ⟨pA_blind, hrc, fun U hU hW => ⟨rfl, pA_call hA hS (fun _ h => h.elim) U hU hW⟩⟩ rfl rfl hl.1 rfl (lv_room (Nat.le_of_ble_eq_true rfl)) dL_part_5 ⟨Nat.le_of_ble_eq_true rfl, Nat.le_of_ble_eq_true rfl⟩) hS (fun q _ h => h.elim) (fun q h => h.elim) (fun q _ h => h.elim) (fun E ce q9 u t H1 locs1 ht hvm hp hE hz hk hS1 hc hv hcl => ?_) (fun r u t H1 locs1 ht hvm hp hB hz hk hS1 => ?_)
  · have hE : E = nx_X := hE
    subst hE
    have hP1 : va_P D vwCl [(o, .inl (cL, 1, .inr (.inl f)))] H1 := hP.kept (fun k q hq => hk q.1 (vx_lt hP hq) (fun h => h))
    refine vx_catch (own := RL) (name := "java/util/NoSuchElementException") (E := nx_X) hown [] ⟨0, 10, 13, 13⟩ [] (by rw [htb]; rfl) (fun _ h => nomatch h) (by decide) (by decide) (hts (Cond.classLink RL 13 "java/util/NoSuchElementException") (by decide +kernel)) (va_Nw.use rfl hA.2.1.1) hc hv hcl ?_
    refine lv_astore (lv' := [(4, .ref q9), (0, .ref h0), (1, .int x), (2, .int y), (3, .ref o)]) hx hb dL_part_13 hl (by decide) rfl (fun ls hl => ?_)
    refine lv_iconst (v := 1) hx hb dL_part_15 (by decide) ?_
    exact W.iret (v := 1) hx hb hr (fun t ht _ => ⟨⟨1, f, rfl, Or.inr ⟨hp, rfl, rfl⟩, p_at ht hP1⟩, hS1.F ht⟩) hS1.2.2 dL_part_16
  · have hP1 : va_P D vwCl [(o, .inl (cL, 1, .inr (.inl f)))] H1 := hP.kept (fun k q hq => hk q.1 (vx_lt hP hq) (fun h => h))
    refine lv_i2l (v := r.toInt64) hx hb dL_part_8 rfl ?_
    refine va_last hx hb hK hP1 one_D hS1 0 0 rfl rfl (show vp_in 0 1 from vp_in_nI (n := 0) (by decide) (by decide)) dL_part_9 (fun H2 locs2 hP2 hD2 hS2 => ?_)
    refine lv_goto (tgt := 17) hx hb dL_part_10 (by decide) ?_
    refine lv_iconst (v := 0) hx hb dL_part_17 (by decide) ?_
    exact W.iret (v := 0) hx hb hr (fun t ht _ => ⟨⟨0, vp_updL f 0 r.toInt64, rfl, Or.inl ⟨r, hp, rfl, rfl⟩, p_at ht hP2⟩, hS2.F ht⟩) hS2.2.2 dL_part_18
