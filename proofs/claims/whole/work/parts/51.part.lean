/-! part of the class: it answers, or throws. -/
theorem nx_good : ∀ w ∈ Cond.classLink RX8 146 nx_X :: Cond.initialized nx_X :: nx_at RX8 150, vx_ot w = true := by decide +kernel
section NXW
variable {p : Program} {l : Launch} {e : Env} {R : Room} {s : State} {m : MethodId} {args : Array Value} {below : List Frame} {meth : Method} {c : Code} {H : Heap} {locs : List Loc} {cells slots : Nat} {Q : State → Prop}
variable {mc ms : Nat} {free : Addr → Prop} {A0 A1 : Nat → Prop} {H0 : Heap} {a : Array Value} {ls : Array Slot} {st0 rest : List Value}
variable {Qc : Array Value → State → Outcome → State → Prop} {XC : String → State → State → Prop}
/-- 'throw new E("text")': new; dup; ldc; invokespecial; athrow -/
theorem nx_throw {cc : ByteArray} {pc : Nat} (hexec : p.tables.exec = Jvm.exec) (hb : c.code = cc) (hl : l.stackTraces = false) {text : String} {is mc ms sa : Nat} {A : Nat → Prop}
    (hown : s.vm.findClass RX8 = some m.cls)
    (hk : (Cond.classLink RX8 146 nx_X).before args s = true) (hini : (Cond.initialized nx_X).before args s = true) (hstr : vk_R RX8 is text sa s) (hat : ∀ w ∈ nx_at RX8 150, w.before args s = true)
    (hU : vx_Zq Bundle.tN "UNASSIGNED_STACK" Bundle.steD A s s.heap) (hN : vx_Zq Bundle.tN "SUPPRESSED_SENTINEL" Bundle.listD A s s.heap) (hS : va_S A s.heap H locs) (hsize : ls.size = c.maxLocals)
    (d0 : decode cc pc = .ok (.new 146, 3)) (d3 : decode cc (pc + 3) = .ok (.dup, 1)) (d4 : decode cc (pc + 4) = .ok (.ldc is, 2)) (d6 : decode cc (pc + 6) = .ok (.invokespecial 150, 3)) (d9 : decode cc (pc + 9) = .ok (.athrow, 1))
    (hout : ∀ x ∈ c.exceptionTable.toList, covers x (pc + 9) = false)
    (hRframes : 5 < R.frames) (hRlocals : (rest.map fun v => v.category).sum + 82 ≤ R.locals) (hRcells : cells + 1 ≤ R.cells) (hRslots : slots + 6 ≤ R.slots) (hlocks : meth.locks = false)
    (hx : ∀ t : State, s.vm.Alike t.vm → H.size ≤ t.heap.size → (∀ q : Nat, q < H.size → t.heap[q]? = H[q]?) → XC nx_X s t)
    (hf : ∀ z ∈ locs, free z.base) (hc : cells + 1 ≤ mc) (hs : slots + 6 ≤ ms) :
    W p l e R s m args below meth c H locs cells slots (vx_MQ below Qc XC args s mc ms free) (F0 m pc ls rest) := by
  intro T hT X
  have htr : e.platform.stackTraces = false := (show e.platform.stackTraces = l.stackTraces by rw [X.admits.platform]).trans hl
  have Y := vx_rebase X (R' := { frames := R.frames, locals := R.locals, cells := 1, slots := 6 }) (Nat.le_refl _) (Nat.le_refl _) hRcells hRslots
  obtain ⟨s', hA⟩ : ∃ z, z = (T.setVm s.vm).setFrames (.invoking m args :: below) := ⟨_, rfl⟩
  rw [← hA] at Y
  have hvm : s'.vm = s.vm := by rw [hA]; rfl
  have hhp : s'.heap = H := by rw [hA]; exact hT
  have hW0 : s.WarmedH s'.vm := by rw [hvm]; exact State.WarmedH.refl s
  have hat' : ∀ w ∈ nx_at RX8 150, w.before args s' = true := fun w hw => vx_ot_at hW0 hvm.symm (nx_good w (List.mem_cons_of_mem _ (List.mem_cons_of_mem _ hw))) (hat w hw)
  have hk' : (Cond.classLink RX8 146 nx_X).before args s' = true := vx_ot_at hW0 hvm.symm (nx_good _ List.mem_cons_self) hk
  have hini' : (Cond.initialized nx_X).before args s' = true := vx_ot_at hW0 hvm.symm (nx_good _ (List.mem_cons_of_mem _ List.mem_cons_self)) hini
  have hU' : vx_Zq Bundle.tN "UNASSIGNED_STACK" Bundle.steD A s' s'.heap := by rw [hhp]; exact vx_Zq.moved hW0.alike (hU.kept hS.2.1)
  have hN' : vx_Zq Bundle.tN "SUPPRESSED_SENTINEL" Bundle.listD A s' s'.heap := by rw [hhp]; exact vx_Zq.moved hW0.alike (hN.kept hS.2.1)
  have h : ∀ w ∈ nx_own RX8 150, w.before args s' = true := vx_own hat' (vx_isRefq hU'.1) (vx_isRefq hN'.1) hU'.2.word hN'.2.word
  have hown' : s'.vm.findClass RX8 = some m.cls := by rw [hvm]; exact hown
  have hins : (Cond.instantiable nx_X 6).before args s' = true := h _ (by decide +kernel)
  obtain ⟨vm₁, cX, kX, hfX, hkX, -, -, X₁, st1⟩ := Y.newCold hexec (own := RX8) (C := nx_X) (index := 146) (n := 6) hown' hk' hins hini'
    (g := F0 m pc ls rest) rfl (by rw [hb]; exact d0) (Nat.le_refl _) (Nat.le_refl _)
  generalize hT1 : (T.setVm vm₁).pushCell { cls := cX, slots := kX.instanceTypes.map defaultValue, vm := .none } = T1 at X₁ st1
  have hcat : (Value.ref T.heap.size).category = 1 := rfl
  have hcellA : T1.heap[T.heap.size]? = some (freshCell cX kX) := by rw [← hT1]; exact State.heap_pushCell_size _ _
  have d3' : decode c.code (pc + 3) = .ok (.dup, 1) := by rw [hb]; exact d3
  have d4' : decode c.code (pc + 4) = .ok (.ldc is, 2) := by rw [hb]; exact d4
  have hstr' : vk_R RX8 is text sa s' := vk_R.warm hW0 hstr
  obtain ⟨U, hsteps, hrun, hend, hW, hsame, ce, hce, hOc, hOv⟩ := nx_ctor X₁ hexec htr hown' h hfX hkX hcellA (by rw [hhp, hT]; exact Nat.le_refl _) (msg := .ref sa) rfl
    (g := { method := m, pc := pc + 6, locals := ls, stack := .ref sa :: .ref T.heap.size :: .ref T.heap.size :: rest, locked := none }) rfl hsize rfl rfl (rest := rest) rfl
    (by rw [hb]; exact d6) (by rw [hb]; exact d9) hout hRframes (by simp only [List.map_cons, List.sum_cons, hcat]; omega) hlocks
  obtain ⟨f1, f2⟩ := vx_frame hsame
  rw [hhp] at f1 f2
  have hWs : s.WarmedH U.vm := State.WarmedH.trans hW0 hW
  have hcl : s.vm.findClass nx_X = some ce.cls := by
    have h9 := hOc
    rw [hvm] at h9
    exact h9
  have hall : s.sameButNew ({ U with vm := s.vm } : State) locs mc ms := by
    subst hA
    obtain ⟨e1, e2⟩ := hsame
    rw [State.setFrames_setFrames] at e1
    have h2 : (T.setVm s.vm).sameButNew ({ U with vm := s.vm } : State) [] (0 + 1) (0 + 6) := ⟨e1, e2⟩
    have h3 := X.same.trans h2
    rw [List.append_nil] at h3
    exact h3.mono hc hs
  refine ⟨U, ?_, .threw T.heap.size, hrun, hend, Or.inr ⟨T.heap.size, rfl, nx_X, ce, locs, hx U hWs.alike f1 (fun q hq => f2 q hq (fun z hz => nomatch hz)), hce, hOv, hcl, hWs, hall, hf⟩⟩
  refine st1 _ ?_
  show Steps p.tables e below (T1.setTop { method := m, pc := pc + 3, locals := ls, stack := .ref T.heap.size :: rest, locked := none }) _
  jvm_step X₁.here [X₁.here.top, hexec, d3', Value.category]
  exact X₁.ldcString hexec (own := RX8) (text := text) (index := is) (a := sa) hown' hstr'.1 hstr'.2
    (g := { method := m, pc := pc + 4, locals := ls, stack := .ref T.heap.size :: .ref T.heap.size :: rest, locked := none }) rfl d4' _ hsteps
end NXW
def nW (U : State) : Prop := va_Nw (.castable nx_X nx_X) U ∧ va_Nw (.declares (Bundle.initS "java/lang/RuntimeException")) U ∧ va_Nw (.declares (Bundle.initS "java/lang/Exception")) U ∧ va_Nw (.declares (Bundle.initS Bundle.tN)) U
theorem nW.warm {s U : State} (hW : s.WarmedH U.vm) (h : nW s) : nW U := ⟨va_Nw.warmC hW h.1, va_Nw.warmD hW h.2.1, va_Nw.warmD hW h.2.2.1, va_Nw.warmD hW h.2.2.2⟩
theorem nW.same {u U : State} (hv : u.vm = U.vm) (h : nW u) : nW U := ⟨va_Nw.same rfl hv h.1, va_Nw.same rfl hv h.2.1, va_Nw.same rfl hv h.2.2.1, va_Nw.same rfl hv h.2.2.2⟩
def nx_bad : List Cond := [.castable nx_X nx_X, .declares (Bundle.initS "java/lang/RuntimeException"), .declares (Bundle.initS "java/lang/Exception"), .declares (Bundle.initS Bundle.tN)]
theorem nx_b : ∀ w ∈ (nx_at RX8 150).filter (fun w => !goodWord w), w ∈ nx_bad := by decide +kernel
theorem nx_ws {args : Array Value} {s : State} (h1 : ∀ w ∈ (nx_at RX8 150).filter goodWord, w.before args s = true) (h : nW s) : ∀ w ∈ nx_at RX8 150, w.before args s = true :=
  vx_hat h1 nx_b (vx_c (va_Nw.use rfl h.1) (vx_c (va_Nw.use rfl h.2.1) (vx_c (va_Nw.use rfl h.2.2.1) (vx_c (va_Nw.use rfl h.2.2.2) vx_n))))
/-- what part stands on: the tables and texts, the words that no list holds, the two statics of Throwable, the two messages -/
def pA (tb sa : Nat → Nat) (A : Nat → Prop) (U : State) (H : Heap) : Prop := zz tb A U H ∧ nW U ∧ vx_Zq Bundle.tN "UNASSIGNED_STACK" Bundle.steD A U H ∧ vx_Zq Bundle.tN "SUPPRESSED_SENTINEL" Bundle.listD A U H ∧ vk_R RX8 148 "no such day" (sa 0) U ∧ vk_R RX8 165 "no such part of a day" (sa 1) U
theorem pA.warm {tb sa : Nat → Nat} {A : Nat → Prop} {s U : State} {H : Heap} (hW : s.WarmedH U.vm) (h : pA tb sa A s H) : pA tb sa A U H := by
  obtain ⟨a, b, c, d, e, f⟩ := h
  exact ⟨a.warm hW, b.warm hW, c.moved hW.alike, d.moved hW.alike, e.warm hW, f.warm hW⟩
theorem pA.calling {tb sa : Nat → Nat} {A : Nat → Prop} {U : State} {H : Heap} {g : JFrame} {mk : MethodId} {v : Array Value} (h : pA tb sa A U H) : pA tb sa A (U.calling g mk v) H := by
  obtain ⟨a, b, c, d, e, f⟩ := h
  have hv : (U.calling g mk v).vm = U.vm := rfl
  have ha : U.vm.Alike (U.calling g mk v).vm := Vm.Alike.refl U.vm
  exact ⟨a.calling, b.same hv.symm, c.moved ha, d.moved ha, e.same hv, f.same hv⟩
theorem pA.kept {tb sa : Nat → Nat} {A : Nat → Prop} {U : State} {H H1 : Heap} (h : pA tb sa A U H) (hq : ∀ q : Nat, q < H.size → ¬ A q → H1[q]? = H[q]?) : pA tb sa A U H1 := by
  obtain ⟨a, b, c, d, e, f⟩ := h
  exact ⟨a.kept hq, b, c.kept hq, d.kept hq, e, f⟩
theorem pA.narrow {tb sa : Nat → Nat} {A B : Nat → Prop} {U : State} {H : Heap} (h : pA tb sa A U H) (hq : ∀ q : Nat, B q → A q) : pA tb sa B U H := by
  obtain ⟨a, b, c, d, e, f⟩ := h
  exact ⟨a.narrow hq, b, c.narrow hq, d.narrow hq, e, f⟩
theorem pA_blind {av : List Value} {tb sa : Nat → Nat} {A : Nat → Prop} : FrameBlind (va_Pc av (fun U => pA tb sa A U U.heap)) := by
  intro v U g mk q
  exact ⟨q.1, pA.calling (H := U.heap) q.2⟩
theorem pA_call {A B : Nat → Prop} {tb sa : Nat → Nat} {s : State} {H : Heap} {locs : List Loc} (hZ : pA tb sa A s s.heap) (hS : va_S A s.heap H locs) (hq : ∀ q : Nat, B q → A q) : ∀ U : State, U.heap = H → s.WarmedH U.vm → pA tb sa B U U.heap := by
  intro U hU hW
  rw [hU]
  exact ((hZ.kept hS.2.1).warm hW).narrow hq
section VXM
variable {l : Launch} {y : MethodName} {ws ws' : List Cond} {rm : Room} {av : List Value} {cc : ByteArray} {maxL mc ms : Nat} {ret : Option FieldType}
theorem vxm_of {Pc : State → Prop} {Qc : Array Value → State → Outcome → State → Prop} {XC : String → State → State → Prop} {free : Addr → Prop} (hy : plainName y.cls = true) (hw : ws = Cond.code y cc maxL ret :: ws') (hav : (lg_sl av).length ≤ maxL)
    (body : ∀ (p : Program) (e : Env) (s : State) (m : MethodId) (below : List Frame) (meth : Method) (c : Code), p.tables.exec = Jvm.exec → c.code = cc → meth.sig.returnType = ret → c.maxLocals = maxL → (∀ x ∈ c.exceptionTable.toList, False) → (∀ w ∈ ws, w.before av.toArray s = true) → s.vm.findClass y.cls = some m.cls → meth.locks = false → Pc s → ∀ ls : Array Slot, lv_has ls maxL (lv_args 0 av) → W p l e rm s m av.toArray below meth c s.heap [] 0 0 (vx_MQ below Qc XC av.toArray s mc ms free) (F0 m 0 ls [])) :
    vx_Met l y ws rm (va_Pc av Pc) Qc XC mc ms free := by
  refine vx_ofW (cc := cc) (maxL := maxL) (ret := ret) hy hw ?_
  intro p e s m args below meth c s₁ B hml hex hv
  obtain ⟨rfl, hv⟩ := hv
  have hl := lv_entry av (n := maxL) hav
  rw [lg_entry_eq]
  generalize (lg_sl av ++ List.replicate (maxL - (lg_sl av).length) Slot.unset).toArray = ls at hl ⊢
  exact body p e s m below meth c B.exec B.bytes B.returns hml hex (atoms_spec (ws := ws) B.pre) (findClass_of_methodNamed B.named) B.notSynchronized hv ls hl
theorem vxh_of {Pc : State → Prop} {Qc : Array Value → State → Outcome → State → Prop} {free : Addr → Prop} {hh : List (Nat × Nat × Nat × Nat)} (hy : plainName y.cls = true) (hw : ws = Cond.codeWith y cc maxL ret hh :: ws') (hav : (lg_sl av).length ≤ maxL)
    (body : ∀ (p : Program) (e : Env) (s : State) (m : MethodId) (below : List Frame) (meth : Method) (c : Code), p.tables.exec = Jvm.exec → c.code = cc → meth.sig.returnType = ret → c.maxLocals = maxL → c.exceptionTable.toList = tableOf hh → (∀ w ∈ ws, w.before av.toArray s = true) → s.vm.findClass y.cls = some m.cls → meth.locks = false → Pc s → ∀ ls : Array Slot, lv_has ls maxL (lv_args 0 av) → W p l e rm s m av.toArray below meth c s.heap [] 0 0 (MQ below Qc av.toArray s mc ms free) (F0 m 0 ls [])) :
    Met l y ws rm (va_Pc av Pc) Qc mc ms free := by
  refine va_MetW (cc := cc) (maxL := maxL) (ret := ret) (hh := hh) hy hw ?_
  intro p e s m args below meth c s₁ B hml hv
  obtain ⟨rfl, hv⟩ := hv
  have hl := lv_entry av (n := maxL) hav
  have hts := atoms_spec (ws := ws) B.pre
  have htb : c.exceptionTable.toList = tableOf hh := vx_table (x := y) B (hts (Cond.codeWith y cc maxL ret hh) (by rw [hw]; exact List.mem_cons_self))
  rw [lg_entry_eq]
  generalize (lg_sl av ++ List.replicate (maxL - (lg_sl av).length) Slot.unset).toArray = ls at hl ⊢
  exact body p e s m below meth c B.exec B.bytes B.returns hml htb hts (findClass_of_methodNamed B.named) B.notSynchronized hv ls hl
end VXM
theorem i_ne3 {y : Int32} (h0 : y ≠ 0) (h1 : y ≠ 1) (h2 : y ≠ 2) (h3 : y ≠ 3) : y.toInt < 0 ∨ 3 < y.toInt := by
  rcases i03 y with q | q | q | q | q | q
  · exact absurd q h0
  · exact absurd q h1
  · exact absurd q h2
  · exact absurd q h3
  · exact Or.inl (by have := Int32.lt_iff_toInt_lt.mp q; exact this)
  · exact Or.inr (by have := Int32.lt_iff_toInt_lt.mp q; exact this)
set_option maxHeartbeats 4000000 in
set_option maxRecDepth 100000 in
theorem c_X8_part (l : Launch) (hlt : l.stackTraces = false) (tb sa : Nat → Nat) (h0 : Nat) (x y : Int32) : vx_Met l yX8_part wsX8_part ({ frames := 6, cells := 1, slots := 6, locals := 86 }) (va_Pc [.ref h0, .int x, .int y] (fun U => pA tb sa (fun _ => False) U U.heap)) (va_Qi (fun (z : Int32) (_ : Unit) => pV x y = some z) (fun _ _ => True) (fun _ => False)) (vx_X (fun _ : Unit => pV x y = none) (fun E _ _ => E = nx_X) (fun _ => False)) 1 6 (fun _ => False) := by
  refine vxm_of (cc := cX8_part) (maxL := 3) (ret := (some .int)) (by decide) rfl (Nat.le_of_ble_eq_true rfl) ?_
  intro p e s m below meth c hx hb hr hml hex hts hown hlk hG ls hl
  have hown : s.vm.findClass RX8 = some m.cls := hown
  have hZ := hG.1
  have hS : va_S (fun _ => False) s.heap s.heap [] := va_S.rf
  have hl : lv_has ls 3 [(0, .ref h0), (1, .int x), (2, .int y)] := hl
  have hat : ∀ w ∈ nx_at RX8 150, w.before ([.ref h0, .int x, .int y] : List Value).toArray s = true := nx_ws (fun w h => hts w (List.mem_cons_of_mem _ (List.mem_append_right _ h))) hG.2.1
  have hout : ∀ (k : Nat), ∀ z ∈ c.exceptionTable.toList, covers z k = false := fun k z hz => (hex z hz).elim
  have hgo : pV x y = none → ∀ t : State, s.vm.Alike t.vm → s.heap.size ≤ t.heap.size → (∀ q : Nat, q < s.heap.size → t.heap[q]? = s.heap[q]?) → vx_X (fun _ : Unit => pV x y = none) (fun E _ _ => E = nx_X) (fun _ => False) nx_X s t := fun hp t _ h1 h2 => ⟨(), hp, rfl, h1, fun q hq _ => h2 q hq⟩
  refine lv_iload_n hx hb dX8_part_0 rfl (lv_at hl 1 rfl) ?_
  rcases X0_isDay_s x with ⟨n, hn, hxn, e1, -⟩ | ⟨-, e1, -⟩
  · obtain ⟨d, mo, ye, hd⟩ := day_ex hn
    refine w_callT (As := [.int x]) (rest := []) ⟨hx, hb, hml, hown, hts⟩ (c_X0_isDay l tb x 1 e1) (va_cwS 1 hts gX8_part_X0_isDay rfl rfl rfl (by decide +kernel) ⟨Nat.le_of_ble_eq_true rfl, Nat.le_of_ble_eq_true rfl⟩) hZ hS rfl hl.1 rfl (Nat.le_of_ble_eq_true rfl) ⟨Nat.zero_le _, Nat.zero_le _⟩ dX8_part_1 ?_
    refine lv_if_ne (tgt := 17) hx hb dX8_part_4 (by decide) (fun _ => ?_) (fun q => absurd q (by decide))
    refine lv_iload_n hx hb dX8_part_17 rfl (lv_at hl 2 rfl) ?_
    have hpV : pV x y = (if y = 0 then fX0_dayOfMonth x else if y = 1 then fX0_monthOf x else if y = 2 then fX0_yearOf x else if y = 3 then fX0_weekdayOf x else none) := by
      unfold pV
      rw [e1]
      show (if (1 : Int32) = 0 then none else _) = _
      rw [if_neg (by decide)]
    by_cases y0 : y = 0
    · have hv : fX0_dayOfMonth x = some (nI d) := by rw [hxn]; exact X0_dayOfMonth_s hd
      refine lv_tableIn (tgt := 48) (off := 30) hx hb dX8_part_18 (by rw [y0]; decide) (by rw [y0]; decide) (by rw [y0]; rfl) (by decide) ?_
      refine lv_iload_n hx hb dX8_part_48 rfl (lv_at hl 1 rfl) ?_
      refine w_callT (As := [.int x]) (rest := []) ⟨hx, hb, hml, hown, hts⟩ (c_X0_dayOfMonth l tb x _ hv) (va_cwS 1 hts gX8_part_X0_dayOfMonth rfl rfl rfl (by decide +kernel) ⟨Nat.le_of_ble_eq_true rfl, Nat.le_of_ble_eq_true rfl⟩) hZ hS rfl hl.1 rfl (Nat.le_of_ble_eq_true rfl) ⟨Nat.zero_le _, Nat.zero_le _⟩ dX8_part_49 ?_
      exact vx_ret (W.widen (k := 1) (n := 6) (Nat.zero_le _) (Nat.zero_le _) (W.iret (v := nI d) hx hb hr (fun t ht _ => ⟨⟨nI d, (), rfl, by rw [hpV, if_pos y0]; exact hv, trivial⟩, hS.F ht⟩) (fun _ h => by cases h) dX8_part_52))
    · by_cases y1 : y = 1
      · have hv : fX0_monthOf x = some (nI mo) := by rw [hxn]; exact X0_monthOf_s hd
        refine lv_tableIn (tgt := 53) (off := 35) hx hb dX8_part_18 (by rw [y1]; decide) (by rw [y1]; decide) (by rw [y1]; rfl) (by decide) ?_
        refine lv_iload_n hx hb dX8_part_53 rfl (lv_at hl 1 rfl) ?_
        refine w_callT (As := [.int x]) (rest := []) ⟨hx, hb, hml, hown, hts⟩ (c_X0_monthOf l tb x _ hv) (va_cwS 1 hts gX8_part_X0_monthOf rfl rfl rfl (by decide +kernel) ⟨Nat.le_of_ble_eq_true rfl, Nat.le_of_ble_eq_true rfl⟩) hZ hS rfl hl.1 rfl (Nat.le_of_ble_eq_true rfl) ⟨Nat.zero_le _, Nat.zero_le _⟩ dX8_part_54 ?_
        exact vx_ret (W.widen (k := 1) (n := 6) (Nat.zero_le _) (Nat.zero_le _) (W.iret (v := nI mo) hx hb hr (fun t ht _ => ⟨⟨nI mo, (), rfl, by rw [hpV, if_neg y0, if_pos y1]; exact hv, trivial⟩, hS.F ht⟩) (fun _ h => by cases h) dX8_part_57))
      · by_cases y2 : y = 2
        · have hv : fX0_yearOf x = some (nI ye) := by rw [hxn]; exact X0_yearOf_s hd
          refine lv_tableIn (tgt := 58) (off := 40) hx hb dX8_part_18 (by rw [y2]; decide) (by rw [y2]; decide) (by rw [y2]; rfl) (by decide) ?_
          refine lv_iload_n hx hb dX8_part_58 rfl (lv_at hl 1 rfl) ?_
          refine w_callT (As := [.int x]) (rest := []) ⟨hx, hb, hml, hown, hts⟩ (c_X0_yearOf l tb x _ hv) (va_cwS 1 hts gX8_part_X0_yearOf rfl rfl rfl (by decide +kernel) ⟨Nat.le_of_ble_eq_true rfl, Nat.le_of_ble_eq_true rfl⟩) hZ hS rfl hl.1 rfl (Nat.le_of_ble_eq_true rfl) ⟨Nat.zero_le _, Nat.zero_le _⟩ dX8_part_59 ?_
          exact vx_ret (W.widen (k := 1) (n := 6) (Nat.zero_le _) (Nat.zero_le _) (W.iret (v := nI ye) hx hb hr (fun t ht _ => ⟨⟨nI ye, (), rfl, by rw [hpV, if_neg y0, if_neg y1, if_pos y2]; exact hv, trivial⟩, hS.F ht⟩) (fun _ h => by cases h) dX8_part_62))
        · by_cases y3 : y = 3
          · have hv : fX0_weekdayOf x = some (nI (n % 7)) := by rw [hxn]; exact X0_weekdayOf_s (by omega)
            refine lv_tableIn (tgt := 63) (off := 45) hx hb dX8_part_18 (by rw [y3]; decide) (by rw [y3]; decide) (by rw [y3]; rfl) (by decide) ?_
            refine lv_iload_n hx hb dX8_part_63 rfl (lv_at hl 1 rfl) ?_
            refine w_callT (As := [.int x]) (rest := []) ⟨hx, hb, hml, hown, hts⟩ (c_X0_weekdayOf l tb x _ hv) (va_cwS 1 hts gX8_part_X0_weekdayOf rfl rfl rfl (by decide +kernel) ⟨Nat.le_of_ble_eq_true rfl, Nat.le_of_ble_eq_true rfl⟩) hZ hS rfl hl.1 rfl (Nat.le_of_ble_eq_true rfl) ⟨Nat.zero_le _, Nat.zero_le _⟩ dX8_part_64 ?_
            exact vx_ret (W.widen (k := 1) (n := 6) (Nat.zero_le _) (Nat.zero_le _) (W.iret (v := nI (n % 7)) hx hb hr (fun t ht _ => ⟨⟨nI (n % 7), (), rfl, by rw [hpV, if_neg y0, if_neg y1, if_neg y2, if_pos y3]; exact hv, trivial⟩, hS.F ht⟩) (fun _ h => by cases h) dX8_part_67))
          · refine lv_tableOut (tgt := 68) hx hb dX8_part_18 (i_ne3 y0 y1 y2 y3) (by decide) ?_
            exact nx_throw hx hb hlt hown (hts (Cond.classLink RX8 146 "java/util/NoSuchElementException") (by decide +kernel)) (hts (Cond.initialized "java/util/NoSuchElementException") (by decide +kernel)) hG.2.2.2.2.2 hat hG.2.2.1 hG.2.2.2.1 hS (hl.1.trans hml.symm) dX8_part_68 dX8_part_71 dX8_part_72 dX8_part_74 dX8_part_77 (hout _) (Nat.le_of_ble_eq_true rfl) (Nat.le_of_ble_eq_true rfl) (Nat.le_of_ble_eq_true rfl) (Nat.le_of_ble_eq_true rfl) hlk (hgo (by rw [hpV, if_neg y0, if_neg y1, if_neg y2, if_neg y3])) (fun _ h => by cases h) (Nat.le_refl _) (Nat.le_refl _)
  · refine w_callT (As := [.int x]) (rest := []) ⟨hx, hb, hml, hown, hts⟩ (c_X0_isDay l tb x 0 e1) (va_cwS 1 hts gX8_part_X0_isDay rfl rfl rfl (by decide +kernel) ⟨Nat.le_of_ble_eq_true rfl, Nat.le_of_ble_eq_true rfl⟩) hZ hS rfl hl.1 rfl (Nat.le_of_ble_eq_true rfl) ⟨Nat.zero_le _, Nat.zero_le _⟩ dX8_part_1 ?_
    refine lv_if_ne (tgt := 17) hx hb dX8_part_4 (by decide) (fun q => absurd rfl q) (fun _ => ?_)
    have hpV : pV x y = none := by
      unfold pV
      rw [e1]
      rfl
    exact nx_throw hx hb hlt hown (hts (Cond.classLink RX8 146 "java/util/NoSuchElementException") (by decide +kernel)) (hts (Cond.initialized "java/util/NoSuchElementException") (by decide +kernel)) hG.2.2.2.2.1 hat hG.2.2.1 hG.2.2.2.1 hS (hl.1.trans hml.symm) dX8_part_7 dX8_part_10 dX8_part_11 dX8_part_13 dX8_part_16 (hout _) (Nat.le_of_ble_eq_true rfl) (Nat.le_of_ble_eq_true rfl) (Nat.le_of_ble_eq_true rfl) (Nat.le_of_ble_eq_true rfl) hlk (hgo hpV) (fun _ h => by cases h) (Nat.le_refl _) (Nat.le_refl _)
