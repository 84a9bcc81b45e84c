/-! The law's entry, and its calls. -/
def R_law : String := "DayColumnLaw"
def lw_P (b : Addr) (xs : List Int32) (args : Array Value) (s : State) : Prop := args = #[.ref b] ∧ s.IntsAt b xs ∧ xs.length ≤ 2048 ∧ (Jvm.Cond.and given_1 narrow_1).before args s = true
def lw_Q (_ : Array Value) (s : State) (o : Outcome) (t : State) : Prop := o = .returned (some (.int 1)) ∧ Framed s o t [] 601024 7293034
def lw_Z (below : List Frame) (a : Array Value) (s : State) : State → Prop := fun t => ∃ o, t.status = .running ∧ Ended t below o ∧ lw_Q a s o t
/-- the law's own end, with 1 on the stack, nothing written that was there before, its room as the claim has it -/
theorem lw_ret {p : Program} {l : Launch} {e : Env} {s : State} {m : MethodId} {below : List Frame} {meth : Method} {c : Code} {b : Nat} (hx : p.tables.exec = Jvm.exec) (hb : c.code = code) (hr : meth.sig.returnType = ret) (hlocks : meth.locks = false) {pc : Nat} {H : Heap} {ls : Array Slot} (hdg : decode code pc = .ok (.ireturn, 1)) : W p l e room_1 s m #[Value.ref b] below meth c H [] 601024 7293034 (lw_Z below #[Value.ref b] s) (F0 m pc ls [.int 1]) := by
  intro T hT X
  obtain ⟨fs, hret, hrun, hended, hW, hframe⟩ := X.leave (v := some (.int 1)) (hlocks := hlocks) (fun h => by rw [hr] at h; cases h)
  have hmeth' : T.vm.method? m = some meth := X.method'
  refine ⟨T.setFrames fs, ?_, .returned (some (.int 1)), hrun, hended, rfl, ⟨_, rfl⟩, hW, hframe⟩
  jvm_step X.here [X.here.top, hx, hb, hdg, hmeth', hr, ret, narrow_b1]
  (try refine ⟨rfl, ?_⟩); (try refine ⟨rfl, ?_⟩)
  first | (intro acts; rw [hret _ acts rfl rfl rfl]) | rw [hret _ _ rfl rfl rfl]
  exact Steps.refl _
/-- what holds at the law's entry: the machine, the code, the tables' words (any of lw_tbl by 'hts w (by decide +kernel)'), the script of L ints xs at the cell b, what the Statement gives of the start (any of its parts by flat_of_before) -/
def lw_At (p : Program) (s : State) (m : MethodId) (meth : Method) (c : Code) (b L : Nat) (xs : Nat → Int32) : Prop :=
  p.tables.exec = Jvm.exec ∧ c.code = code ∧ meth.sig.returnType = ret ∧ c.maxLocals = 7 ∧ s.vm.findClass R_law = some m.cls ∧ (∀ w ∈ lw_tbl, w.before #[Value.ref b] s = true) ∧ va_X b L xs s s.heap ∧ b < s.heap.size ∧ meth.locks = false ∧ (Jvm.Cond.and given_1 narrow_1).before #[Value.ref b] s = true
/-- the cells that are new -/
def nuf (s : State) : Nat → Prop := fun q => s.heap.size ≤ q
/-- what stands through the whole law -/
def LI (D : va_G) (cI cB cL : ClassId) (a b tb sa : Nat → Nat) (o : Nat) (s : State) : Prop :=
  va_K D vwCl [(cI, .int), (cB, .byte), (cL, .long)] s ∧ ((∀ i j : Nat, i < 24 → j < 24 → a i = a j → i = j) ∧ (∀ i j : Nat, i < 14 → j < 14 → b i = b j → i = j)) ∧ ((∀ i j : Nat, i < 24 → j < 14 → a i ≠ b j) ∧ (∀ i : Nat, i < 24 → a i ≠ o) ∧ (∀ i : Nat, i < 14 → b i ≠ o)) ∧ ((∀ i : Nat, i < 24 → nuf s (a i)) ∧ (∀ i : Nat, i < 14 → nuf s (b i)) ∧ nuf s o) ∧ pA tb sa (nuf s) s s.heap
/-- and what is there at one time -/
def LH (D : va_G) (cI cB cL : ClassId) (a b : Nat → Nat) (o : Nat) (u v : ST) (g : Nat → Int64) (s : State) (H : Heap) (locs : List Loc) : Prop :=
  va_P D vwCl (cw cI a u) H ∧ va_P D vwCl (mw cI cB b v) H ∧ va_P D vwCl [(o, .inl (cL, 1, .inr (.inl g)))] H ∧ va_S (nuf s) s.heap H locs
section LWC
variable {D : va_G} {cI cB cL : ClassId} {a b tb sa : Nat → Nat} {o : Nat} {u v u1 v1 : ST} {g g1 : Nat → Int64} {s : State} {H H1 : Heap} {locs locs1 : List Loc}
theorem LI_8 (hI : LI D cI cB cL a b tb sa o s) : ∀ q, cA a q → nuf s q := fun q h => by
  obtain ⟨i, hi, e⟩ := h
  rw [e]; exact hI.2.2.2.1.1 i hi
theorem LI_9 (hI : LI D cI cB cL a b tb sa o s) : ∀ q, mA b q → nuf s q := fun q h => by
  obtain ⟨i, hi, e⟩ := h
  rw [e]; exact hI.2.2.2.1.2.1 i hi
theorem LH_c (hI : LI D cI cB cL a b tb sa o s) (h : LH D cI cB cL a b o u v g s H locs) (hP : va_P D vwCl (cw cI a u1) H1) (hk : ∀ q : Nat, q < H.size → ¬ cA a q → H1[q]? = H[q]?) (hS : va_S (nuf s) s.heap H1 locs1) : LH D cI cB cL a b o u1 v g s H1 locs1 := by
  obtain ⟨h1, h2, h3, h4⟩ := h
  refine ⟨hP, h2.kept (fun k q hq => hk q.1 (vx_lt h2 hq) (fun z => ?_)), h3.kept (fun k q hq => hk q.1 (vx_lt h3 hq) (fun z => ?_)), hS⟩
  · obtain ⟨i, hi, e⟩ := z
    obtain ⟨hk, e2⟩ := w_mem (N := 14) (a := b) rfl hq
    exact hI.2.2.1.1 i k hi hk (e.symm.trans e2)
  · obtain ⟨i, hi, e⟩ := z
    exact hI.2.2.1.2.1 i hi (e.symm.trans (one_D.2 k q hq))
theorem LH_m (hI : LI D cI cB cL a b tb sa o s) (h : LH D cI cB cL a b o u v g s H locs) (hP : va_P D vwCl (mw cI cB b v1) H1) (hk : ∀ q : Nat, q < H.size → ¬ mA b q → H1[q]? = H[q]?) (hS : va_S (nuf s) s.heap H1 locs1) : LH D cI cB cL a b o u v1 g s H1 locs1 := by
  obtain ⟨h1, h2, h3, h4⟩ := h
  refine ⟨h1.kept (fun k q hq => hk q.1 (vx_lt h1 hq) (fun z => ?_)), hP, h3.kept (fun k q hq => hk q.1 (vx_lt h3 hq) (fun z => ?_)), hS⟩
  · obtain ⟨i, hi, e⟩ := z
    obtain ⟨hk, e2⟩ := w_mem (N := 24) (a := a) rfl hq
    exact hI.2.2.1.1 k i hk hi (e2.symm.trans e)
  · obtain ⟨i, hi, e⟩ := z
    exact hI.2.2.1.2.2 i hi (e.symm.trans (one_D.2 k q hq))
theorem LH_o (hI : LI D cI cB cL a b tb sa o s) (h : LH D cI cB cL a b o u v g s H locs) (hP : va_P D vwCl [(o, .inl (cL, 1, .inr (.inl g1)))] H1) (hk : ∀ q : Nat, q < H.size → ¬ q = o → H1[q]? = H[q]?) (hS : va_S (nuf s) s.heap H1 locs1) : LH D cI cB cL a b o u v g1 s H1 locs1 := by
  obtain ⟨h1, h2, h3, h4⟩ := h
  refine ⟨h1.kept (fun k q hq => hk q.1 (vx_lt h1 hq) (fun z => ?_)), h2.kept (fun k q hq => hk q.1 (vx_lt h2 hq) (fun z => ?_)), hP, hS⟩
  · obtain ⟨hk, e2⟩ := w_mem (N := 24) (a := a) rfl hq
    exact hI.2.2.1.2.1 k hk (e2.symm.trans z)
  · obtain ⟨hk, e2⟩ := w_mem (N := 14) (a := b) rfl hq
    exact hI.2.2.1.2.2 k hk (e2.symm.trans z)
theorem LH_g8 (hI : LI D cI cB cL a b tb sa o s) (h : LH D cI cB cL a b o u v g s H locs) : ∀ U : State, U.heap = H → s.WarmedH U.vm → gP D [(cI, .int)] (cw cI a) (cA a) tb u U := fun U hU hW =>
  ⟨by rw [hU]; exact h.1, va_K.moved hW.alike (hI.1.sub [0] rfl), cw_D hI.2.1.1, by rw [hU]; exact ((hI.2.2.2.2.1.kept h.2.2.2.2.1).warm hW).narrow (LI_8 hI)⟩
theorem LH_g9 (hI : LI D cI cB cL a b tb sa o s) (h : LH D cI cB cL a b o u v g s H locs) : ∀ U : State, U.heap = H → s.WarmedH U.vm → gP D [(cI, .int), (cB, .byte)] (mw cI cB b) (mA b) tb v U := fun U hU hW =>
  ⟨by rw [hU]; exact h.2.1, va_K.moved hW.alike (hI.1.sub [0, 1] rfl), mw_D hI.2.1.2, by rw [hU]; exact ((hI.2.2.2.2.1.kept h.2.2.2.2.1).warm hW).narrow (LI_9 hI)⟩
variable {p : Program} {l : Launch} {e : Env} {R : Room} {m : MethodId} {args : Array Value} {below : List Frame} {meth : Method} {c : Code} {cells slots : Nat} {Q : State → Prop}
variable {cc : ByteArray} {pc : Nat} {ls : Array Slot} {rest : List Value}
variable {y : MethodName} {bytes : ByteArray} {maxL nL n index : Nat} {ret : Option FieldType} {ws Ts : List Cond} {rm : Room} {own : String} {As st0 : List Value}
theorem L8W {r : Int32 × ST} (hI : LI D cI cB cL a b tb sa o s) (hH : LH D cI cB cL a b o u v g s H locs) (S : CallFix p m c cc nL s args Ts own) (hM : MetW l y ws rm (.ref (a 0) :: As) D [(cI, .int)] (cw cI a) (cA a) tb u r) (cwd : CallW R s args own RX8 index y bytes maxL ret ws rm 0 0 n) (hn : As.length = n) (hsz : ls.size = nL) (hst : st0 = As.reverse ++ .ref (a 0) :: rest) (hW : (rest.map fun v => v.category).sum ≤ 8) (hf : cells ≤ R.cells ∧ slots ≤ R.slots) (hdg : decode cc pc = .ok (.invokevirtual index, 3))
    (kk : ∀ (H1 : Heap) (locs1 : List Loc), LH D cI cB cL a b o r.2 v g s H1 locs1 → W p l e R s m args below meth c H1 locs1 cells slots Q (F0 m (pc + 3) ls (.int r.1 :: rest))) : W p l e R s m args below meth c H locs cells slots Q (F0 m pc ls st0) := by
  refine va_calli (va_runV (g := F0 m pc ls st0) S hM cwd ⟨gP_blind, va_recv hI.1 hH.1 (ci := 6) (q0 := 0) rfl rfl, fun U hU hW => ⟨rfl, LH_g8 hI hH U hU hW⟩⟩ rfl hn hsz hst (lv_room hW) hdg hf) hH.2.2.2 (fun q _ h => LI_8 hI q h) (fun q h => LI_8 hI q h) (fun z w t H1 locs1 ht hvm hw hB hz1 hk1 hS1 => ?_)
  obtain ⟨rfl, rfl⟩ := hw
  exact kk H1 locs1 (LH_c hI hH (by rw [← ht]; exact hB) hk1 hS1)
theorem L8V {r : ST} (hI : LI D cI cB cL a b tb sa o s) (hH : LH D cI cB cL a b o u v g s H locs) (S : CallFix p m c cc nL s args Ts own) (hM : MetV l y ws rm (.ref (a 0) :: As) D [(cI, .int)] (cw cI a) (cA a) tb u r) (cwd : CallW R s args own RX8 index y bytes maxL ret ws rm 0 0 n) (hn : As.length = n) (hsz : ls.size = nL) (hst : st0 = As.reverse ++ .ref (a 0) :: rest) (hW : (rest.map fun v => v.category).sum ≤ 8) (hf : cells ≤ R.cells ∧ slots ≤ R.slots) (hdg : decode cc pc = .ok (.invokevirtual index, 3))
    (kk : ∀ (H1 : Heap) (locs1 : List Loc), LH D cI cB cL a b o r v g s H1 locs1 → W p l e R s m args below meth c H1 locs1 cells slots Q (F0 m (pc + 3) ls rest)) : W p l e R s m args below meth c H locs cells slots Q (F0 m pc ls st0) := by
  refine va_callv (va_runV (g := F0 m pc ls st0) S hM cwd ⟨gP_blind, va_recv hI.1 hH.1 (ci := 6) (q0 := 0) rfl rfl, fun U hU hW => ⟨rfl, LH_g8 hI hH U hU hW⟩⟩ rfl hn hsz hst (lv_room hW) hdg hf) hH.2.2.2 (fun q _ h => LI_8 hI q h) (fun q h => LI_8 hI q h) (fun w t H1 locs1 ht hvm hw hB hz1 hk1 hS1 => ?_)
  subst hw
  exact kk H1 locs1 (LH_c hI hH (by rw [← ht]; exact hB) hk1 hS1)
theorem L8R {r : Int32} (hI : LI D cI cB cL a b tb sa o s) (hH : LH D cI cB cL a b o u v g s H locs) (S : CallFix p m c cc nL s args Ts own) (hM : MetR l y ws rm (.ref (a 0) :: As) D [(cI, .int)] (cw cI a) (cA a) tb u r) (cwd : CallW R s args own RX8 index y bytes maxL ret ws rm 0 0 n) (hn : As.length = n) (hsz : ls.size = nL) (hst : st0 = As.reverse ++ .ref (a 0) :: rest) (hW : (rest.map fun v => v.category).sum ≤ 8) (hf : cells ≤ R.cells ∧ slots ≤ R.slots) (hdg : decode cc pc = .ok (.invokevirtual index, 3))
    (kk : W p l e R s m args below meth c H locs cells slots Q (F0 m (pc + 3) ls (.int r :: rest))) : W p l e R s m args below meth c H locs cells slots Q (F0 m pc ls st0) := by
  refine vp_callSi (W.runV (g := F0 m pc ls st0) S hM cwd ⟨gP_blind, va_recv hI.1 hH.1 (ci := 6) (q0 := 0) rfl rfl, fun U hU hW => ⟨rfl, LH_g8 hI hH U hU hW⟩⟩ rfl hn hsz hst (lv_room hW) hdg hf) (fun z hz => ?_)
  rw [hz]
  exact kk
theorem L9W {r : Int32 × ST} (hI : LI D cI cB cL a b tb sa o s) (hH : LH D cI cB cL a b o u v g s H locs) (S : CallFix p m c cc nL s args Ts own) (hM : MetW l y ws rm (.ref (b 0) :: As) D [(cI, .int), (cB, .byte)] (mw cI cB b) (mA b) tb v r) (cwd : CallW R s args own RX9 index y bytes maxL ret ws rm 0 0 n) (hn : As.length = n) (hsz : ls.size = nL) (hst : st0 = As.reverse ++ .ref (b 0) :: rest) (hW : (rest.map fun v => v.category).sum ≤ 8) (hf : cells ≤ R.cells ∧ slots ≤ R.slots) (hdg : decode cc pc = .ok (.invokevirtual index, 3))
    (kk : ∀ (H1 : Heap) (locs1 : List Loc), LH D cI cB cL a b o u r.2 g s H1 locs1 → W p l e R s m args below meth c H1 locs1 cells slots Q (F0 m (pc + 3) ls (.int r.1 :: rest))) : W p l e R s m args below meth c H locs cells slots Q (F0 m pc ls st0) := by
  refine va_calli (va_runV (g := F0 m pc ls st0) S hM cwd ⟨gP_blind, va_recv hI.1 hH.2.1 (ci := 7) (q0 := 0) rfl rfl, fun U hU hW => ⟨rfl, LH_g9 hI hH U hU hW⟩⟩ rfl hn hsz hst (lv_room hW) hdg hf) hH.2.2.2 (fun q _ h => LI_9 hI q h) (fun q h => LI_9 hI q h) (fun z w t H1 locs1 ht hvm hw hB hz1 hk1 hS1 => ?_)
  obtain ⟨rfl, rfl⟩ := hw
  exact kk H1 locs1 (LH_m hI hH (by rw [← ht]; exact hB) hk1 hS1)
theorem L9V {r : ST} (hI : LI D cI cB cL a b tb sa o s) (hH : LH D cI cB cL a b o u v g s H locs) (S : CallFix p m c cc nL s args Ts own) (hM : MetV l y ws rm (.ref (b 0) :: As) D [(cI, .int), (cB, .byte)] (mw cI cB b) (mA b) tb v r) (cwd : CallW R s args own RX9 index y bytes maxL ret ws rm 0 0 n) (hn : As.length = n) (hsz : ls.size = nL) (hst : st0 = As.reverse ++ .ref (b 0) :: rest) (hW : (rest.map fun v => v.category).sum ≤ 8) (hf : cells ≤ R.cells ∧ slots ≤ R.slots) (hdg : decode cc pc = .ok (.invokevirtual index, 3))
    (kk : ∀ (H1 : Heap) (locs1 : List Loc), LH D cI cB cL a b o u r g s H1 locs1 → W p l e R s m args below meth c H1 locs1 cells slots Q (F0 m (pc + 3) ls rest)) : W p l e R s m args below meth c H locs cells slots Q (F0 m pc ls st0) := by
  refine va_callv (va_runV (g := F0 m pc ls st0) S hM cwd ⟨gP_blind, va_recv hI.1 hH.2.1 (ci := 7) (q0 := 0) rfl rfl, fun U hU hW => ⟨rfl, LH_g9 hI hH U hU hW⟩⟩ rfl hn hsz hst (lv_room hW) hdg hf) hH.2.2.2 (fun q _ h => LI_9 hI q h) (fun q h => LI_9 hI q h) (fun w t H1 locs1 ht hvm hw hB hz1 hk1 hS1 => ?_)
  subst hw
  exact kk H1 locs1 (LH_m hI hH (by rw [← ht]; exact hB) hk1 hS1)
theorem L9R {r : Int32} (hI : LI D cI cB cL a b tb sa o s) (hH : LH D cI cB cL a b o u v g s H locs) (S : CallFix p m c cc nL s args Ts own) (hM : MetR l y ws rm (.ref (b 0) :: As) D [(cI, .int), (cB, .byte)] (mw cI cB b) (mA b) tb v r) (cwd : CallW R s args own RX9 index y bytes maxL ret ws rm 0 0 n) (hn : As.length = n) (hsz : ls.size = nL) (hst : st0 = As.reverse ++ .ref (b 0) :: rest) (hW : (rest.map fun v => v.category).sum ≤ 8) (hf : cells ≤ R.cells ∧ slots ≤ R.slots) (hdg : decode cc pc = .ok (.invokevirtual index, 3))
    (kk : W p l e R s m args below meth c H locs cells slots Q (F0 m (pc + 3) ls (.int r :: rest))) : W p l e R s m args below meth c H locs cells slots Q (F0 m pc ls st0) := by
  refine vp_callSi (W.runV (g := F0 m pc ls st0) S hM cwd ⟨gP_blind, va_recv hI.1 hH.2.1 (ci := 7) (q0 := 0) rfl rfl, fun U hU hW => ⟨rfl, LH_g9 hI hH U hU hW⟩⟩ rfl hn hsz hst (lv_room hW) hdg hf) (fun z hz => ?_)
  rw [hz]
  exact kk
theorem LPart (hlt : l.stackTraces = false) (hI : LI D cI cB cL a b tb sa o s) (hH : LH D cI cB cL a b o u v g s H locs) (S : CallFix p m c cc nL s args Ts own) {x y : Int32}
    (cwd : vx_CSW R s args own index yL_part cL_part 5 (some .int) [(0, 10, 13, 13)] wsL_part { frames := 7, cells := 1, slots := 6, locals := 108 } 1 6 4)
    (hsz : ls.size = nL) (hst : st0 = [Value.ref (a 0), .int x, .int y, .ref o].reverse ++ rest) (hW : (rest.map fun v => v.category).sum ≤ 8) (hf : cells + 1 ≤ R.cells ∧ slots + 6 ≤ R.slots) (hdg : decode cc pc = .ok (.invokestatic index, 3))
    (kk : ∀ (z : Int32) (g1 : Nat → Int64) (H1 : Heap) (locs1 : List Loc), ((∃ r, pV x y = some r ∧ z = 0 ∧ g1 = vp_updL g 0 r.toInt64) ∨ (pV x y = none ∧ z = 1 ∧ g1 = g)) → LH D cI cB cL a b o u v g1 s H1 locs1 → W p l e R s m args below meth c H1 locs1 (cells + 1) (slots + 6) Q (F0 m (pc + 3) ls (.int z :: rest))) : W p l e R s m args below meth c H locs cells slots Q (F0 m pc ls st0) := by
  have ho : ∀ q : Nat, q = o → nuf s q := fun q h => by rw [h]; exact hI.2.2.2.1.2.2
  refine va_calli (vx_runSW (g := F0 m pc ls st0) S (c_L_part l hlt D cL tb sa (a 0) o x y g) cwd ⟨lP_blind, fun U hU hW => ⟨rfl, by rw [hU]; exact hH.2.2.1, va_K.moved hW.alike (hI.1.sub [2] rfl), va_recv (va_K.moved hW.alike hI.1) (show va_P D vwCl (cw cI a u) U.heap by rw [hU]; exact hH.1) (ci := 6) (q0 := 0) rfl rfl, pA_call hI.2.2.2.2 hH.2.2.2 ho U hU hW⟩⟩ rfl rfl hsz hst (lv_room hW) hdg hf) hH.2.2.2 (fun q _ h => ho q h) (fun q h => ho q h) (fun z w t H1 locs1 ht hvm hw hB hz1 hk1 hS1 => ?_)
  exact kk z w H1 locs1 hw (LH_o hI hH (by rw [← ht]; exact hB) hk1 hS1)
theorem L_ld {k : Int} {kv x4 : Int32} {sc L : Nat} {xs : Nat → Int32} (hx : p.tables.exec = Jvm.exec) (hb : c.code = cc) (hX : va_X sc L xs s s.heap) (hbl : sc < s.heap.size) (hS : va_S (nuf s) s.heap H locs) (h0 : ls[0]? = some (.val (.ref sc))) (h4 : ls[4]? = some (.val (.int x4))) (hin : vp_in (x4 + kv) L)
    (d0 : decode cc pc = .ok (.aload_n 0, 1)) (d1 : decode cc (pc + 1) = .ok (.iload 4, 2)) (d3 : decode cc (pc + 3) = .ok (.iconst k, 1)) (d4 : decode cc (pc + 4) = .ok (.iadd, 1)) (d5 : decode cc (pc + 5) = .ok (.iaload, 1)) (hk : Int32.ofInt k = kv)
    (kk : W p l e R s m args below meth c H locs cells slots Q (F0 m (pc + 6) ls (.int (xs (x4 + kv).toNatClampNeg) :: rest))) : W p l e R s m args below meth c H locs cells slots Q (F0 m pc ls rest) := by
  refine lv_aload_n hx hb d0 rfl h0 ?_
  refine lv_iload hx hb d1 h4 ?_
  refine lv_iconst (v := kv) hx hb d3 hk ?_
  refine lv_iadd hx hb d4 ?_
  exact va_sld (A := nuf s) hx hb hX hbl (Nat.not_le.mpr hbl) hS hin d5 kk
end LWC
