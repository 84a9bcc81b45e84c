/-! What a state is: whole numbers by their places, rows of whole numbers by their places. -/
abbrev ST : Type := (Nat → Int32) × (Nat → Nat → Int32)
def setS (st : ST) (k : Nat) (v : Int32) : ST := (upd st.1 k v, st.2)
def setA (st : ST) (k i : Nat) (v : Int32) : ST := (st.1, va_up st.2 k (upd (st.2 k) i v))
/-- a name for a value -/
def bnd {α β : Type} (x : α) (k : α → β) : β := k x
/-- what may have no answer, and what follows -/
def ob {α β : Type} (x : Option α) (k : α → Option β) : Option β := match x with
  | none => none
  | some z => k z
/-- a place in a row of n -/
def ix {β : Type} (i : Int32) (n : Nat) (k : Option β) : Option β := if i < 0 ∨ n ≤ i.toNatClampNeg then none else k
/-- a truth value -/
def tv {β : Type} (i : Int32) (k : Option β) : Option β := if i &&& 1 = i then k else none
theorem bnd_e {α β : Type} {x : α} {k : α → β} {r : β} (h : bnd x k = r) : ∃ z, z = x ∧ k z = r := ⟨x, rfl, h⟩
theorem ob_e {α β : Type} {x : Option α} {k : α → Option β} {r : β} (h : ob x k = some r) : ∃ z, x = some z ∧ k z = some r := by
  cases x with
  | none => cases h
  | some z => exact ⟨z, rfl, h⟩
theorem ix_e {β : Type} {i : Int32} {n : Nat} {k : Option β} {r : β} (h : ix i n k = some r) : vp_in i n ∧ k = some r := by
  unfold ix at h
  by_cases c : i < 0 ∨ n ≤ i.toNatClampNeg
  · rw [if_pos c] at h; cases h
  · rw [if_neg c] at h; exact ⟨c, h⟩
theorem tv_e {β : Type} {i : Int32} {k : Option β} {r : β} (h : tv i k = some r) : narrow .boolean (.int i) = .int i ∧ k = some r := by
  unfold tv at h
  by_cases c : i &&& 1 = i
  · rw [if_pos c] at h; exact ⟨by show Value.int (i &&& 1) = .int i; rw [c], h⟩
  · rw [if_neg c] at h; cases h
/-- a divisor that is none -/
def nz {β : Type} (i : Int32) (k : Option β) : Option β := if i = 0 then none else k
theorem nz_e {β : Type} {i : Int32} {k : Option β} {r : β} (h : nz i k = some r) : ¬ i = 0 ∧ k = some r := by
  unfold nz at h
  by_cases c : i = 0
  · rw [if_pos c] at h; cases h
  · rw [if_neg c] at h; exact ⟨c, h⟩
theorem if_t {α : Type} {c : Prop} [Decidable c] {x y r : α} (h : (if c then x else y) = r) (hc : c) : x = r := by rw [if_pos hc] at h; exact h
theorem if_f {α : Type} {c : Prop} [Decidable c] {x y r : α} (h : (if c then x else y) = r) (hc : ¬ c) : y = r := by rw [if_neg hc] at h; exact h
theorem p_at {D : va_G} {cl : List vw_C} {w : va_W} {H : Heap} {t : State} (ht : t.heap = H) (hP : va_P D cl w H) : va_P D cl w t.heap := by rw [ht]; exact hP
theorem so_i {α : Type} {x y : α} (h : some x = some y) : x = y := Option.some.inj h
theorem so_p {α β : Type} {x : α} {z : β} {r : α × β} (h : some (x, z) = some r) : x = r.1 ∧ z = r.2 := by
  cases h
  exact ⟨rfl, rfl⟩
/-! The tables and texts that stand from the start. -/
def tML (j : Nat) : Int32 := ([31, 28, 31, 30, 31, 30, 31, 31, 30, 31, 30, 31] : List Int32).getD j 0
def bMO : List Int32 := [106, 97, 110, 102, 101, 98, 109, 97, 114, 97, 112, 114, 109, 97, 121, 106, 117, 110, 106, 117, 108, 97, 117, 103, 115, 101, 112, 111, 99, 116, 110, 111, 118, 100, 101, 99]
def bWD : List Int32 := [109, 111, 110, 116, 117, 101, 119, 101, 100, 116, 104, 117, 102, 114, 105, 115, 97, 116, 115, 117, 110]
def tMO (j : Nat) : Int32 := bMO.getD j 0
def tWD (j : Nat) : Int32 := bWD.getD j 0
def zz (tb : Nat → Nat) (A : Nat → Prop) (U : State) (H : Heap) : Prop :=
  (va_Z RX0 "MONTH_LENGTHS" "[I" (.ref (tb 0)) A U H ∧ va_T .int (tb 0) 12 (fun j => .int (tML j)) A U H) ∧
  (va_Z RX7 "MONTHS" "[C" (.ref (tb 1)) A U H ∧ va_T .char (tb 1) 36 (fun j => .int (tMO j)) A U H) ∧
  (va_Z RX7 "WEEKDAYS" "[C" (.ref (tb 2)) A U H ∧ va_T .char (tb 2) 21 (fun j => .int (tWD j)) A U H) ∧
  (vk_R RX9 145 "janfebmaraprmayjunjulaugsepoctnovdec" (tb 3) U ∧ vk_R RX9 151 "montuewedthufrisatsun" (tb 4) U) ∧
  vk_S 2 [36, 21] [bMO, bWD] (fun i => tb (3 + i)) (fun i => tb (5 + i)) A U H ∧
  va_Z RJ0 "COMPACT_STRINGS" "Z" (.int 1) A U H ∧ va_Zq RJ3 "SIOOBE_FORMATTER" "Ljava/util/function/BiFunction;" A U H
theorem zz.warm {tb : Nat → Nat} {A : Nat → Prop} {s U : State} {H : Heap} (hW : s.WarmedH U.vm) (h : zz tb A s H) : zz tb A U H := by
  obtain ⟨⟨a1, a2⟩, ⟨b1, b2⟩, ⟨c1, c2⟩, ⟨d1, d2⟩, e1, f1, g1⟩ := h
  exact ⟨⟨a1.moved hW.alike, a2.moved hW.alike⟩, ⟨b1.moved hW.alike, b2.moved hW.alike⟩, ⟨c1.moved hW.alike, c2.moved hW.alike⟩, ⟨d1.warm hW, d2.warm hW⟩, e1.moved hW.alike, f1.moved hW.alike, g1.moved hW.alike⟩
theorem zz.calling {tb : Nat → Nat} {A : Nat → Prop} {U : State} {H : Heap} {g : JFrame} {mk : MethodId} {v : Array Value} (h : zz tb A U H) : zz tb A (U.calling g mk v) H := by
  obtain ⟨⟨a1, a2⟩, ⟨b1, b2⟩, ⟨c1, c2⟩, ⟨d1, d2⟩, e1, f1, g1⟩ := h
  have hv : (U.calling g mk v).vm = U.vm := rfl
  have ha : U.vm.Alike (U.calling g mk v).vm := Vm.Alike.refl U.vm
  exact ⟨⟨a1.moved ha, a2.moved ha⟩, ⟨b1.moved ha, b2.moved ha⟩, ⟨c1.moved ha, c2.moved ha⟩, ⟨d1.same hv, d2.same hv⟩, e1.moved ha, f1.moved ha, g1.moved ha⟩
theorem zz.kept {tb : Nat → Nat} {A : Nat → Prop} {U : State} {H H1 : Heap} (h : zz tb A U H) (hq : ∀ q : Nat, q < H.size → ¬ A q → H1[q]? = H[q]?) : zz tb A U H1 := by
  obtain ⟨⟨a1, a2⟩, ⟨b1, b2⟩, ⟨c1, c2⟩, d, e1, f1, g1⟩ := h
  exact ⟨⟨a1.kept hq, a2.kept hq⟩, ⟨b1.kept hq, b2.kept hq⟩, ⟨c1.kept hq, c2.kept hq⟩, d, e1.kept hq, f1.kept hq, g1.kept hq⟩
theorem zz.narrow {tb : Nat → Nat} {A B : Nat → Prop} {U : State} {H : Heap} (h : zz tb A U H) (hq : ∀ q : Nat, B q → A q) : zz tb B U H := by
  obtain ⟨⟨a1, a2⟩, ⟨b1, b2⟩, ⟨c1, c2⟩, d, e1, f1, g1⟩ := h
  exact ⟨⟨a1.narrow hq, a2.narrow hq⟩, ⟨b1.narrow hq, b2.narrow hq⟩, ⟨c1.narrow hq, c2.narrow hq⟩, d, e1.narrow hq, f1.narrow hq, g1.narrow hq⟩
/-! A method's start: the world of a state. -/
def gP (D : va_G) (tys : List (ClassId × FieldType)) (wd : ST → va_W) (A : Nat → Prop) (tb : Nat → Nat) (st : ST) (U : State) : Prop :=
  va_P D vwCl (wd st) U.heap ∧ va_K D vwCl tys U ∧ (∀ u : ST, va_D A (wd u)) ∧ zz tb A U U.heap
theorem gP_blind {av : List Value} {D : va_G} {tys : List (ClassId × FieldType)} {wd : ST → va_W} {A : Nat → Prop} {tb : Nat → Nat} {st : ST} : FrameBlind (va_Pc av (gP D tys wd A tb st)) := by
  intro v U g mk q
  obtain ⟨q0, qP, qK, qD, qZ⟩ := q
  exact ⟨q0, qP, va_K.moved (u := U) (U := U.calling g mk v) (Vm.Alike.refl U.vm) qK, qD, qZ.calling⟩
theorem zz_blind {av : List Value} {tb : Nat → Nat} {A : Nat → Prop} : FrameBlind (va_Pc av (fun U => zz tb A U U.heap)) := by
  intro v U g mk q
  exact ⟨q.1, zz.calling (H := U.heap) q.2⟩
theorem gP_call {D : va_G} {tys : List (ClassId × FieldType)} {wd : ST → va_W} {A : Nat → Prop} {tb : Nat → Nat} {st : ST} {s : State} {H : Heap} {locs : List Loc} (hP : va_P D vwCl (wd st) H) (hK : va_K D vwCl tys s) (hD : ∀ u : ST, va_D A (wd u)) (hZ : zz tb A s s.heap) (hS : va_S A s.heap H locs) : ∀ U : State, U.heap = H → s.WarmedH U.vm → gP D tys wd A tb st U := by
  intro U hU hW
  exact ⟨by rw [hU]; exact hP, va_K.moved hW.alike hK, hD, by rw [hU]; exact (hZ.kept hS.2.1).warm hW⟩
theorem zz_call {A : Nat → Prop} {tb : Nat → Nat} {s : State} {H : Heap} {locs : List Loc} (hZ : zz tb A s s.heap) (hS : va_S A s.heap H locs) : ∀ U : State, U.heap = H → s.WarmedH U.vm → zz tb (fun _ => False) U U.heap := by
  intro U hU hW
  rw [hU]
  exact ((hZ.kept hS.2.1).warm hW).narrow (fun _ h => h.elim)
/-! The contracts: one that reads (R), one that writes and answers a number (W), one that writes and answers nothing (V), a static one (T). -/
abbrev MetR (l : Launch) (y : MethodName) (ws : List Cond) (rm : Room) (av : List Value) (D : va_G) (tys : List (ClassId × FieldType)) (wd : ST → va_W) (A : Nat → Prop) (tb : Nat → Nat) (st : ST) (r : Int32) : Prop := Met l y ws rm (va_Pc av (gP D tys wd A tb st)) (vp_Si (fun z => z = r)) 0 0 (fun _ => False)
abbrev MetT (l : Launch) (y : MethodName) (ws : List Cond) (rm : Room) (av : List Value) (tb : Nat → Nat) (r : Int32) : Prop := Met l y ws rm (va_Pc av (fun U => zz tb (fun _ => False) U U.heap)) (vp_Si (fun z => z = r)) 0 0 (fun _ => False)
abbrev MetW (l : Launch) (y : MethodName) (ws : List Cond) (rm : Room) (av : List Value) (D : va_G) (tys : List (ClassId × FieldType)) (wd : ST → va_W) (A : Nat → Prop) (tb : Nat → Nat) (st : ST) (r : Int32 × ST) : Prop := Met l y ws rm (va_Pc av (gP D tys wd A tb st)) (va_Qi (fun (z : Int32) (u : ST) => z = r.1 ∧ u = r.2) (fun u t => va_P D vwCl (wd u) t.heap) A) 0 0 A
abbrev MetV (l : Launch) (y : MethodName) (ws : List Cond) (rm : Room) (av : List Value) (D : va_G) (tys : List (ClassId × FieldType)) (wd : ST → va_W) (A : Nat → Prop) (tb : Nat → Nat) (st : ST) (r : ST) : Prop := Met l y ws rm (va_Pc av (gP D tys wd A tb st)) (va_Qv (fun (u : ST) => u = r) (fun u t => va_P D vwCl (wd u) t.heap) A) 0 0 A
section BSE
variable {l : Launch} {y : MethodName} {ws ws' : List Cond} {rm : Room} {av : List Value} {D : va_G} {tys : List (ClassId × FieldType)} {wd : ST → va_W} {A : Nat → Prop} {tb : Nat → Nat} {st : ST} {cc : ByteArray} {maxL : Nat} {ret : Option FieldType}
theorem met_of {Pc : State → Prop} {Qc : Array Value → State → Outcome → State → Prop} {free : Addr → Prop} (hy : plainName y.cls = true) (hw : ws = Cond.code y cc maxL ret :: ws') (hav : (lg_sl av).length ≤ maxL)
    (body : ∀ (p : Program) (e : Env) (s : State) (m : MethodId) (below : List Frame) (meth : Method) (c : Code), p.tables.exec = Jvm.exec → c.code = cc → meth.sig.returnType = ret → c.maxLocals = maxL → (∀ w ∈ ws, w.before av.toArray s = true) → s.vm.findClass y.cls = some m.cls → meth.locks = false → Pc s → ∀ ls : Array Slot, lv_has ls maxL (lv_args 0 av) → W p l e rm s m av.toArray below meth c s.heap [] 0 0 (MQ below Qc av.toArray s 0 0 free) (F0 m 0 ls [])) :
    Met l y ws rm (va_Pc av Pc) Qc 0 0 free := by
  refine Met.ofW (cc := cc) (maxL := maxL) (ret := ret) hy hw ?_
  intro p e s m args below meth c s₁ B hml hv
  obtain ⟨rfl, hv⟩ := hv
  have hl := lv_entry av (n := maxL) hav
  rw [lg_entry_eq]
  generalize (lg_sl av ++ List.replicate (maxL - (lg_sl av).length) Slot.unset).toArray = ls at hl ⊢
  exact body p e s m below meth c B.exec B.bytes B.returns hml (atoms_spec (ws := ws) B.pre) (findClass_of_methodNamed B.named) B.notSynchronized hv ls hl
theorem met_ofF {Pc : State → Prop} {Qc : Array Value → State → Outcome → State → Prop} {free : Addr → Prop} (hy : plainFor y = true) (hw : ws = Cond.code y cc maxL ret :: ws') (hav : (lg_sl av).length ≤ maxL)
    (body : ∀ (p : Program) (e : Env) (s : State) (m : MethodId) (below : List Frame) (meth : Method) (c : Code), p.tables.exec = Jvm.exec → c.code = cc → meth.sig.returnType = ret → c.maxLocals = maxL → (∀ w ∈ ws, w.before av.toArray s = true) → s.vm.findClass y.cls = some m.cls → meth.locks = false → Pc s → ∀ ls : Array Slot, lv_has ls maxL (lv_args 0 av) → W p l e rm s m av.toArray below meth c s.heap [] 0 0 (MQ below Qc av.toArray s 0 0 free) (F0 m 0 ls [])) :
    Met l y ws rm (va_Pc av Pc) Qc 0 0 free := by
  refine va_MetF (cc := cc) (maxL := maxL) (ret := ret) hy hw ?_
  intro p e s m args below meth c s₁ B hml hv
  obtain ⟨rfl, hv⟩ := hv
  have hl := lv_entry av (n := maxL) hav
  rw [lg_entry_eq]
  generalize (lg_sl av ++ List.replicate (maxL - (lg_sl av).length) Slot.unset).toArray = ls at hl ⊢
  exact body p e s m below meth c B.exec B.bytes B.returns hml (atoms_spec (ws := ws) B.pre) (findClass_of_methodNamed B.named) B.notSynchronized hv ls hl
end BSE
section BSW
variable {p : Program} {l : Launch} {e : Env} {R : Room} {s : State} {m : MethodId} {args : Array Value} {below : List Frame} {meth : Method} {c : Code} {H : Heap} {locs : List Loc} {cells slots : Nat} {Q : State → Prop}
variable {cc : ByteArray} {pc : Nat} {ls : Array Slot} {rest : List Value}
theorem w_nm {x z : Int32} (h : z = x) (k : W p l e R s m args below meth c H locs cells slots Q (F0 m pc ls (.int z :: rest))) : W p l e R s m args below meth c H locs cells slots Q (F0 m pc ls (.int x :: rest)) := h ▸ k
theorem w_nm2 {x z v : Int32} (h : z = x) (k : W p l e R s m args below meth c H locs cells slots Q (F0 m pc ls (.int v :: .int z :: rest))) : W p l e R s m args below meth c H locs cells slots Q (F0 m pc ls (.int v :: .int x :: rest)) := h ▸ k
variable {y : MethodName} {bytes : ByteArray} {maxL nL n index : Nat} {ret : Option FieldType} {ws Ts : List Cond} {rm : Room} {own C : String} {b : Addr} {As st0 : List Value} {D : va_G} {tys : List (ClassId × FieldType)} {wd : ST → va_W} {A : Nat → Prop} {tb : Nat → Nat} {st : ST}
theorem w_callR {r : Int32} (S : CallFix p m c cc nL s args Ts own) (hM : MetR l y ws rm (.ref b :: As) D tys wd A tb st r) (cw : CallW R s args own C index y bytes maxL ret ws rm 0 0 n) (hP : va_P D vwCl (wd st) H) (hK : va_K D vwCl tys s) (hD : ∀ u : ST, va_D A (wd u)) (hZ : zz tb A s s.heap) (hS : va_S A s.heap H locs)
    (hrc : ∃ cell : Cell, H[b]? = some cell ∧ cell.vm.isStatics = false ∧ s.vm.findClass C = some cell.cls) (hn : As.length = n) (hsz : ls.size = nL) (hst : st0 = As.reverse ++ .ref b :: rest) (hW : (rest.map fun v => v.category).sum ≤ 8) (hf : cells ≤ R.cells ∧ slots ≤ R.slots) (hdg : decode cc pc = .ok (.invokevirtual index, 3))
    (kk : W p l e R s m args below meth c H locs cells slots Q (F0 m (pc + 3) ls (.int r :: rest))) : W p l e R s m args below meth c H locs cells slots Q (F0 m pc ls st0) := by
  refine vp_callSi (W.runV (g := F0 m pc ls st0) S hM cw ⟨gP_blind, hrc, fun U hU hW => ⟨rfl, gP_call hP hK hD hZ hS U hU hW⟩⟩ rfl hn hsz hst (lv_room hW) hdg hf) (fun z hz => ?_)
  rw [hz]
  exact kk
theorem w_callS {r : Int32} (S : CallFix p m c cc nL s args Ts own) (hM : MetT l y ws rm (.ref b :: As) tb r) (cw : CallW R s args own C index y bytes maxL ret ws rm 0 0 n) (hZ : zz tb A s s.heap) (hS : va_S A s.heap H locs)
    (hrc : ∃ cell : Cell, H[b]? = some cell ∧ cell.vm.isStatics = false ∧ s.vm.findClass C = some cell.cls) (hn : As.length = n) (hsz : ls.size = nL) (hst : st0 = As.reverse ++ .ref b :: rest) (hW : (rest.map fun v => v.category).sum ≤ 8) (hf : cells ≤ R.cells ∧ slots ≤ R.slots) (hdg : decode cc pc = .ok (.invokevirtual index, 3))
    (kk : W p l e R s m args below meth c H locs cells slots Q (F0 m (pc + 3) ls (.int r :: rest))) : W p l e R s m args below meth c H locs cells slots Q (F0 m pc ls st0) := by
  refine vp_callSi (W.runV (g := F0 m pc ls st0) S hM cw ⟨zz_blind, hrc, fun U hU hW => ⟨rfl, zz_call hZ hS U hU hW⟩⟩ rfl hn hsz hst (lv_room hW) hdg hf) (fun z hz => ?_)
  rw [hz]
  exact kk
theorem w_callT {r : Int32} (S : CallFix p m c cc nL s args Ts own) (hM : MetT l y ws rm As tb r) (cw : CallB R s args own index y bytes maxL ret ws rm 0 0 n ∧ (Cond.static y).before args s = true) (hZ : zz tb A s s.heap) (hS : va_S A s.heap H locs)
    (hn : As.length = n) (hsz : ls.size = nL) (hst : st0 = As.reverse ++ rest) (hW : (rest.map fun v => v.category).sum ≤ 8) (hf : cells ≤ R.cells ∧ slots ≤ R.slots) (hdg : decode cc pc = .ok (.invokestatic index, 3))
    (kk : W p l e R s m args below meth c H locs cells slots Q (F0 m (pc + 3) ls (.int r :: rest))) : W p l e R s m args below meth c H locs cells slots Q (F0 m pc ls st0) := by
  refine vp_callSi (W.runS (g := F0 m pc ls st0) S hM cw ⟨zz_blind, fun U hU hW => ⟨rfl, zz_call hZ hS U hU hW⟩⟩ rfl hn hsz hst (lv_room hW) hdg hf) (fun z hz => ?_)
  rw [hz]
  exact kk
theorem w_callW {r : Int32 × ST} (S : CallFix p m c cc nL s args Ts own) (hM : MetW l y ws rm (.ref b :: As) D tys wd A tb st r) (cw : CallW R s args own C index y bytes maxL ret ws rm 0 0 n) (hP : va_P D vwCl (wd st) H) (hK : va_K D vwCl tys s) (hD : ∀ u : ST, va_D A (wd u)) (hZ : zz tb A s s.heap) (hS : va_S A s.heap H locs)
    (hrc : ∃ cell : Cell, H[b]? = some cell ∧ cell.vm.isStatics = false ∧ s.vm.findClass C = some cell.cls) (hn : As.length = n) (hsz : ls.size = nL) (hst : st0 = As.reverse ++ .ref b :: rest) (hW : (rest.map fun v => v.category).sum ≤ 8) (hf : cells ≤ R.cells ∧ slots ≤ R.slots) (hdg : decode cc pc = .ok (.invokevirtual index, 3))
    (kk : ∀ (H1 : Heap) (locs1 : List Loc), va_P D vwCl (wd r.2) H1 → va_S A s.heap H1 locs1 → W p l e R s m args below meth c H1 locs1 cells slots Q (F0 m (pc + 3) ls (.int r.1 :: rest))) : W p l e R s m args below meth c H locs cells slots Q (F0 m pc ls st0) := by
  refine va_calli (va_runV (g := F0 m pc ls st0) S hM cw ⟨gP_blind, hrc, fun U hU hW => ⟨rfl, gP_call hP hK hD hZ hS U hU hW⟩⟩ rfl hn hsz hst (lv_room hW) hdg hf) hS (fun q _ h => h) (fun q h => h) (fun z u t H1 locs1 ht hvm hw hB hz1 hk1 hS1 => ?_)
  obtain ⟨rfl, rfl⟩ := hw
  exact kk H1 locs1 (by rw [← ht]; exact hB) hS1
theorem w_callV {r : ST} (S : CallFix p m c cc nL s args Ts own) (hM : MetV l y ws rm (.ref b :: As) D tys wd A tb st r) (cw : CallW R s args own C index y bytes maxL ret ws rm 0 0 n) (hP : va_P D vwCl (wd st) H) (hK : va_K D vwCl tys s) (hD : ∀ u : ST, va_D A (wd u)) (hZ : zz tb A s s.heap) (hS : va_S A s.heap H locs)
    (hrc : ∃ cell : Cell, H[b]? = some cell ∧ cell.vm.isStatics = false ∧ s.vm.findClass C = some cell.cls) (hn : As.length = n) (hsz : ls.size = nL) (hst : st0 = As.reverse ++ .ref b :: rest) (hW : (rest.map fun v => v.category).sum ≤ 8) (hf : cells ≤ R.cells ∧ slots ≤ R.slots) (hdg : decode cc pc = .ok (.invokevirtual index, 3))
    (kk : ∀ (H1 : Heap) (locs1 : List Loc), va_P D vwCl (wd r) H1 → va_S A s.heap H1 locs1 → W p l e R s m args below meth c H1 locs1 cells slots Q (F0 m (pc + 3) ls rest)) : W p l e R s m args below meth c H locs cells slots Q (F0 m pc ls st0) := by
  refine va_callv (va_runV (g := F0 m pc ls st0) S hM cw ⟨gP_blind, hrc, fun U hU hW => ⟨rfl, gP_call hP hK hD hZ hS U hU hW⟩⟩ rfl hn hsz hst (lv_room hW) hdg hf) hS (fun q _ h => h) (fun q h => h) (fun u t H1 locs1 ht hvm hw hB hz1 hk1 hS1 => ?_)
  subst hw
  exact kk H1 locs1 (by rw [← ht]; exact hB) hS1
end BSW
/-! The two worlds. -/
def cw (cI : ClassId) (a : Nat → Nat) (st : ST) : va_W := [
  (a 0, .inr (6, [.ref (a 1), .ref (a 2), .ref (a 3), .ref (a 4), .ref (a 6), .ref (a 7), .int (st.1 0), .int (st.1 1)])),
  (a 1, .inr (3, [.ref (a 8), .int (st.1 2)])),
  (a 2, .inr (4, [.ref (a 9), .ref (a 10), .int (st.1 3)])),
  (a 3, .inr (4, [.ref (a 11), .ref (a 12), .int (st.1 4)])),
  (a 4, .inr (2, [.ref (a 2), .ref (a 3), .ref (a 5), .ref (a 14), .ref (a 15), .ref (a 16), .ref (a 17)])),
  (a 5, .inr (1, [.ref (a 13), .int (st.1 5), .int (st.1 6), .int (st.1 7), .int (st.1 8), .int (st.1 9), .int (st.1 10), .int (st.1 11), .int (st.1 12)])),
  (a 6, .inr (5, [.ref (a 4), .ref (a 18), .ref (a 19), .ref (a 20), .ref (a 21), .ref (a 22), .int (st.1 13), .int (st.1 14)])),
  (a 7, .inr (0, [.ref (a 23), .int (st.1 15)])),
  (a 8, .inl (cI, 24, .inl (st.2 0))), (a 9, .inl (cI, 192, .inl (st.2 1))), (a 10, .inl (cI, 8, .inl (st.2 2))), (a 11, .inl (cI, 720, .inl (st.2 3))),
  (a 12, .inl (cI, 30, .inl (st.2 4))), (a 13, .inl (cI, 24, .inl (st.2 5))), (a 14, .inl (cI, 240, .inl (st.2 6))), (a 15, .inl (cI, 240, .inl (st.2 7))),
  (a 16, .inl (cI, 30, .inl (st.2 8))), (a 17, .inl (cI, 30, .inl (st.2 9))), (a 18, .inl (cI, 8, .inl (st.2 10))), (a 19, .inl (cI, 3, .inl (st.2 11))),
  (a 20, .inl (cI, 240, .inl (st.2 12))), (a 21, .inl (cI, 240, .inl (st.2 13))), (a 22, .inl (cI, 30, .inl (st.2 14))), (a 23, .inl (cI, 32, .inl (st.2 15)))]
def cA (a : Nat → Nat) : Nat → Prop := fun q => ∃ i, i < 24 ∧ q = a i
def mw (cI cB : ClassId) (a : Nat → Nat) (st : ST) : va_W := [
  (a 0, .inr (7, [.int (st.1 0), .ref (a 1), .ref (a 2), .ref (a 3), .ref (a 4), .ref (a 5), .ref (a 6), .ref (a 7), .int (st.1 8), .int (st.1 9), .int (st.1 10), .int (st.1 11), .int (st.1 12), .int (st.1 13), .int (st.1 14), .int (st.1 15), .int (st.1 16), .int (st.1 17), .int (st.1 18), .ref (a 8), .ref (a 9), .ref (a 10), .ref (a 11), .ref (a 12), .int (st.1 24), .ref (a 13), .int (st.1 26)])),
  (a 1, .inl (cB, 24, .inl (st.2 1))), (a 2, .inl (cB, 192, .inl (st.2 2))), (a 3, .inl (cB, 720, .inl (st.2 3))), (a 4, .inl (cI, 8, .inl (st.2 4))), (a 5, .inl (cI, 8, .inl (st.2 5))), (a 6, .inl (cI, 30, .inl (st.2 6))), (a 7, .inl (cI, 3, .inl (st.2 7))),
  (a 8, .inl (cI, 240, .inl (st.2 8))), (a 9, .inl (cI, 240, .inl (st.2 9))), (a 10, .inl (cI, 240, .inl (st.2 10))), (a 11, .inl (cI, 240, .inl (st.2 11))), (a 12, .inl (cI, 30, .inl (st.2 12))), (a 13, .inl (cB, 200, .inl (st.2 13)))]
def mA (a : Nat → Nat) : Nat → Prop := fun q => ∃ i, i < 14 ∧ q = a i
theorem w_D {N : Nat} {a : Nat → Nat} {w : va_W} (hl : w.map Prod.fst = (List.range N).map a) (hd : ∀ i j : Nat, i < N → j < N → a i = a j → i = j) : va_D (fun q => ∃ i, i < N ∧ q = a i) w := by
  have key : ∀ (k : Nat) (q : Nat × va_E), w[k]? = some q → k < N ∧ q.1 = a k := by
    intro k q h
    have h1 : (w.map Prod.fst)[k]? = some q.1 := by rw [List.getElem?_map, h]; rfl
    rw [hl, List.getElem?_map] at h1
    by_cases hk : k < N
    · rw [List.getElem?_range hk] at h1
      exact ⟨hk, (Option.some.inj h1).symm⟩
    · rw [List.getElem?_eq_none (by simpa using hk)] at h1
      cases h1
  refine ⟨fun i j x z h1 h2 e => ?_, fun k q h => ⟨k, key k q h⟩⟩
  obtain ⟨i1, i2⟩ := key i x h1
  obtain ⟨j1, j2⟩ := key j z h2
  exact hd i j i1 j1 (by rw [← i2, ← j2, e])
theorem cw_D {cI : ClassId} {a : Nat → Nat} (hd : ∀ i j : Nat, i < 24 → j < 24 → a i = a j → i = j) (st : ST) : va_D (cA a) (cw cI a st) := w_D (N := 24) rfl hd
theorem mw_D {cI cB : ClassId} {a : Nat → Nat} (hd : ∀ i j : Nat, i < 14 → j < 14 → a i = a j → i = j) (st : ST) : va_D (mA a) (mw cI cB a st) := w_D (N := 14) rfl hd
