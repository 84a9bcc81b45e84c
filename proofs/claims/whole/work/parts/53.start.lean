/-! The two new objects. -/
def pr0 : Nat → Int32 := upd (upd (upd (fun _ => 0) (Int32.toNatClampNeg 0) 20) (Int32.toNatClampNeg 1) 10) (Int32.toNatClampNeg 2) 5
def c00 : ST := (fun k => if k = 0 then 1950 else 0, fun k => if k = 11 then pr0 else fun _ => 0)
def m00 : ST := (fun k => if k = 11 then 1950 else 0, fun k => if k = 7 then pr0 else fun _ => 0)
theorem rel0 : Rel c00 m00 := by
  have n0 : ∀ r : Nat, ¬ r < ([] : List (List Nat)).length := fun r => Nat.not_lt_zero r
  have p0 : ∀ k, k < 3 → pr0 k = nI ((fun k => if k = 0 then 20 else if k = 1 then 10 else 5) k) := by
    intro k hk
    rcases (show k = 0 ∨ k = 1 ∨ k = 2 by omega) with rfl | rfl | rfl <;> decide
  refine ⟨[], [], [], fun _ => 0, fun k => if k = 0 then 20 else if k = 1 then 10 else 5, 1950, ⟨⟨by decide, fun b h => nomatch h⟩, ⟨by decide, fun r hr => absurd hr (n0 r)⟩, fun r hr => absurd hr (n0 r), ⟨by decide, fun r hr => absurd hr (n0 r)⟩, fun _ => Nat.zero_le _, fun k => ?_, by decide, by decide⟩,
    ⟨⟨⟨rfl, fun i hi => absurd hi (Nat.not_lt_zero i)⟩, rfl, fun r hr => absurd hr (n0 r), rfl, fun r hr => absurd hr (n0 r), fun s _ => rfl, p0, rfl⟩, fun r hr => absurd hr (n0 r), Or.inl rfl⟩,
    ⟨⟨rfl, fun i hi => absurd hi (Nat.not_lt_zero i)⟩, rfl, fun r hr => absurd hr (n0 r), rfl, fun r hr => absurd hr (n0 r), fun s _ => rfl, p0, rfl⟩⟩
  show (if k = 0 then 20 else if k = 1 then 10 else 5) ≤ 1000
  split
  · decide
  · split <;> decide
def wX8 (cI : ClassId) (h0 : Nat) (u : Nat → Nat) : va_W := [(h0, .inr (6, [.ref (u 0), .ref (u 2), .ref (u 5), .ref (u 8), .ref (u 15), .ref (u 21), .int 1950, .int 0])), ((u 0), .inr (3, [.ref (u 1), .int 0])), ((u 1), .inl (cI, 24, .inl (fun _ => 0))), ((u 2), .inr (4, [.ref (u 3), .ref (u 4), .int 0])), ((u 3), .inl (cI, 192, .inl (fun _ => 0))), ((u 4), .inl (cI, 8, .inl (fun _ => 0))), ((u 5), .inr (4, [.ref (u 6), .ref (u 7), .int 0])), ((u 6), .inl (cI, 720, .inl (fun _ => 0))), ((u 7), .inl (cI, 30, .inl (fun _ => 0))), ((u 8), .inr (2, [.ref (u 2), .ref (u 5), .ref (u 9), .ref (u 11), .ref (u 12), .ref (u 13), .ref (u 14)])), ((u 9), .inr (1, [.ref (u 10), .int 0, .int 0, .int 0, .int 0, .int 0, .int 0, .int 0, .int 0])), ((u 10), .inl (cI, 24, .inl (fun _ => 0))), ((u 11), .inl (cI, 240, .inl (fun _ => 0))), ((u 12), .inl (cI, 240, .inl (fun _ => 0))), ((u 13), .inl (cI, 30, .inl (fun _ => 0))), ((u 14), .inl (cI, 30, .inl (fun _ => 0))), ((u 15), .inr (5, [.ref (u 8), .ref (u 16), .ref (u 17), .ref (u 18), .ref (u 19), .ref (u 20), .int 0, .int 0])), ((u 16), .inl (cI, 8, .inl (fun _ => 0))), ((u 17), .inl (cI, 3, .inl (upd (upd (upd (fun _ => 0) (Int32.toNatClampNeg 0) 20) (Int32.toNatClampNeg 1) 10) (Int32.toNatClampNeg 2) 5))), ((u 18), .inl (cI, 240, .inl (fun _ => 0))), ((u 19), .inl (cI, 240, .inl (fun _ => 0))), ((u 20), .inl (cI, 30, .inl (fun _ => 0))), ((u 21), .inr (0, [.ref (u 22), .int 0])), ((u 22), .inl (cI, 32, .inl (fun _ => 0)))]
def wX9 (cI cB : ClassId) (h0 : Nat) (u : Nat → Nat) : va_W := [(h0, .inr (7, [.int 0, .ref (u 0), .ref (u 1), .ref (u 2), .ref (u 3), .ref (u 4), .ref (u 5), .ref (u 6), .int 0, .int 0, .int 0, .int 1950, .int 0, .int 0, .int 0, .int 0, .int 0, .int 0, .int 0, .ref (u 7), .ref (u 8), .ref (u 9), .ref (u 10), .ref (u 11), .int 0, .ref (u 12), .int 0])), ((u 0), .inl (cB, 24, .inl (fun _ => 0))), ((u 1), .inl (cB, 192, .inl (fun _ => 0))), ((u 2), .inl (cB, 720, .inl (fun _ => 0))), ((u 3), .inl (cI, 8, .inl (fun _ => 0))), ((u 4), .inl (cI, 8, .inl (fun _ => 0))), ((u 5), .inl (cI, 30, .inl (fun _ => 0))), ((u 6), .inl (cI, 3, .inl (upd (upd (upd (fun _ => 0) (Int32.toNatClampNeg 0) 20) (Int32.toNatClampNeg 1) 10) (Int32.toNatClampNeg 2) 5))), ((u 7), .inl (cI, 240, .inl (fun _ => 0))), ((u 8), .inl (cI, 240, .inl (fun _ => 0))), ((u 9), .inl (cI, 240, .inl (fun _ => 0))), ((u 10), .inl (cI, 240, .inl (fun _ => 0))), ((u 11), .inl (cI, 30, .inl (fun _ => 0))), ((u 12), .inl (cB, 200, .inl (fun _ => 0)))]
def aX8 (h0 : Nat) (u : Nat → Nat) (i : Nat) : Nat := ([h0, u 0, u 2, u 5, u 8, u 9, u 15, u 21, u 1, u 3, u 4, u 6, u 7, u 10, u 11, u 12, u 13, u 14, u 16, u 17, u 18, u 19, u 20, u 22] : List Nat).getD i 0
def aX9 (h0 : Nat) (u : Nat → Nat) (i : Nat) : Nat := ([h0, u 0, u 1, u 2, u 3, u 4, u 5, u 6, u 7, u 8, u 9, u 10, u 11, u 12] : List Nat).getD i 0
theorem cw_0 {D : va_G} {cI : ClassId} {h0 : Nat} {u : Nat → Nat} {H : Heap} (h : va_P D vwCl (wX8 cI h0 u) H) : va_P D vwCl (cw cI (aX8 h0 u) c00) H := h.sub [0, 1, 3, 6, 9, 10, 16, 22, 2, 4, 5, 7, 8, 11, 12, 13, 14, 15, 17, 18, 19, 20, 21, 23] rfl
theorem cwD_0 {A : Nat → Prop} {cI : ClassId} {h0 : Nat} {u : Nat → Nat} (h : va_D A (wX8 cI h0 u)) : va_D A (cw cI (aX8 h0 u) c00) := h.sub [0, 1, 3, 6, 9, 10, 16, 22, 2, 4, 5, 7, 8, 11, 12, 13, 14, 15, 17, 18, 19, 20, 21, 23] (by decide) rfl
theorem mw_0 {D : va_G} {cI cB : ClassId} {h0 : Nat} {u : Nat → Nat} {H : Heap} (h : va_P D vwCl (wX9 cI cB h0 u) H) : va_P D vwCl (mw cI cB (aX9 h0 u) m00) H := h.sub [0, 1, 2, 3, 4, 5, 6, 7, 8, 9, 10, 11, 12, 13] rfl
theorem mwD_0 {A : Nat → Prop} {cI cB : ClassId} {h0 : Nat} {u : Nat → Nat} (h : va_D A (wX9 cI cB h0 u)) : va_D A (mw cI cB (aX9 h0 u) m00) := h.sub [0, 1, 2, 3, 4, 5, 6, 7, 8, 9, 10, 11, 12, 13] (by decide) rfl
theorem w_inv {N : Nat} {a : Nat → Nat} {w : va_W} {A : Nat → Prop} (hl : w.map Prod.fst = (List.range N).map a) (h : va_D A w) : (∀ i j : Nat, i < N → j < N → a i = a j → i = j) ∧ ∀ i : Nat, i < N → A (a i) := by
  have key : ∀ i : Nat, i < N → ∃ e, w[i]? = some (a i, e) := by
    intro i hi
    have h1 : (w.map Prod.fst)[i]? = some (a i) := by rw [hl, List.getElem?_map, List.getElem?_range hi]; rfl
    rw [List.getElem?_map] at h1
    cases hw : w[i]? with
    | none => rw [hw] at h1; cases h1
    | some q =>
      rw [hw] at h1
      obtain ⟨q1, q2⟩ := q
      cases h1
      exact ⟨q2, rfl⟩
  refine ⟨fun i j hi hj e => ?_, fun i hi => ?_⟩
  · obtain ⟨e1, h1⟩ := key i hi
    obtain ⟨e2, h2⟩ := key j hj
    exact h.1 i j _ _ h1 h2 e
  · obtain ⟨e1, h1⟩ := key i hi
    exact h.2 i _ h1
theorem w_mem {N : Nat} {a : Nat → Nat} {w : va_W} (hl : w.map Prod.fst = (List.range N).map a) {k : Nat} {q : Nat × va_E} (h : w[k]? = some q) : k < N ∧ q.1 = a k := by
  have h1 : (w.map Prod.fst)[k]? = some q.1 := by rw [List.getElem?_map, h]; rfl
  rw [hl, List.getElem?_map] at h1
  by_cases hk : k < N
  · rw [List.getElem?_range hk] at h1
    exact ⟨hk, (Option.some.inj h1).symm⟩
  · rw [List.getElem?_eq_none (by simpa using hk)] at h1
    cases h1
