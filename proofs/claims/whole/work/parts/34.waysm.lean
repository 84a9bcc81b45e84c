/-! The model's ways. -/
def wM (W : WD) (st : ST) : Prop := (∀ r s, r < wn W → s < wS W → st.2 8 (8 * r + s) = sp1 (wF W r s) ∧ st.2 9 (8 * r + s) = sp2 (wF W r s)) ∧ st.1 10 = nI (wn W) ∧ st.1 9 = nI (wS W) ∧ (∀ s, s < 8 → st.2 5 s = nI (wc W s)) ∧ (∀ k, k < 3 → st.2 7 k = nI (wp W k))
theorem wM_fk {W : WD} {K : Nat} {st st' : ST} (h : wM W st) (f : fk K st st') (k6 : 8 ≠ K) (k7 : 9 ≠ K) (k10 : 5 ≠ K) (k11 : 7 ≠ K) : wM W st' := by
  unfold wM
  rw [f.1, f.2 8 k6, f.2 9 k7, f.2 5 k10, f.2 7 k11]
  exact h
theorem X9_miss_s {W : WD} {st : ST} {r s : Nat} (ok : okW W) (hC : wM W st) (hr : r < wn W) (hs : s < wS W) : fX9_miss st (nI r) (nI s) = some (nI (ms W r s)) := by
  obtain ⟨o1, o2, o3, o4, o5, o6, o7⟩ := ok
  unfold fX9_miss ms
  rw [show (8 : Int32) * nI r = nI (8 * r) from pk_mul 8 r, nI_add, bnd_s, ix_n _ (by omega) (by omega), nI_clamp (by omega), (hC.1 r s hr hs).1]
  have e0 := sp1_n (o7 r s)
  cases e : wF W r s with
  | none =>
    rw [if_pos (show sp1 none = -1 from rfl), show (1 : Int32) = nI 1 from rfl, ix_n _ (by omega) (by omega), nI_clamp (by omega), hC.2.2.2.2 1 (by omega)]
  | some x =>
    rw [e] at e0
    rw [if_neg (fun z => by rw [e0] at z; cases z)]; rfl
theorem X9_step_s {W : WD} {st : ST} {r s t : Nat} (ok : okW W) (hC : wM W st) (hr : r + 1 < wn W) (hs : s < wS W) (ht : t < wS W) : fX9_step st (nI r) (nI s) (nI t) = some (nI (stp W (r + 1) s t)) := by
  have ok' := ok
  obtain ⟨o1, o2, o3, o4, o5, o6, o7⟩ := ok
  unfold fX9_step
  have fin : ∀ x : Nat, (ix (nI (8 * r + s)) 240 <| if st.2 8 (Int32.toNatClampNeg (nI (8 * r + s))) = -1 then some (nI x) else ix (nI (8 * (r + 1) + t)) 240 <| if st.2 8 (Int32.toNatClampNeg (nI (8 * (r + 1) + t))) = -1 then some (nI x) else ix (nI (8 * r + s)) 240 <| ix (nI (8 * (r + 1) + t)) 240 <| if st.2 8 (Int32.toNatClampNeg (nI (8 * r + s))) ≤ st.2 9 (Int32.toNatClampNeg (nI (8 * (r + 1) + t))) then some (nI x) else ix 2 3 <| some (nI x + st.2 7 (Int32.toNatClampNeg 2))) = some (nI (x + if bb W (r + 1) s t = true then wp W 2 else 0)) := by
    intro x
    rw [ix_n _ (by omega) (by omega), ix_n _ (by omega) (by omega), ix_n _ (by omega) (by omega), ix_n _ (by omega) (by omega), nI_clamp (by omega), nI_clamp (by omega), (hC.1 r s (by omega) hs).1, (hC.1 (r + 1) t hr ht).1, (hC.1 (r + 1) t hr ht).2]
    have e1 := sp1_n (o7 r s)
    have e2 := sp1_n (o7 (r + 1) t)
    unfold bb
    rw [show r + 1 - 1 = r from rfl]
    cases f1 : wF W r s with
    | none => rw [if_pos (show sp1 none = -1 from rfl)]; rfl
    | some u =>
      rw [f1] at e1
      rw [if_neg (fun z => by rw [e1] at z; cases z)]
      cases f2 : wF W (r + 1) t with
      | none => rw [if_pos (show sp1 none = -1 from rfl)]; rfl
      | some v =>
        rw [f2] at e2
        rw [if_neg (fun z => by rw [e2] at z; cases z)]
        obtain ⟨a, b⟩ := u
        obtain ⟨c, d⟩ := v
        have h1 := o7 r s a b f1
        have h2 := o7 (r + 1) t c d f2
        show (if nI a ≤ nI d then some (nI x) else ix 2 3 <| some (nI x + st.2 7 (Int32.toNatClampNeg 2))) = some (nI (x + if decide (d < a) = true then wp W 2 else 0))
        by_cases q : d < a
        · rw [if_neg (nI_ge q (by omega)), if_pos (by simpa using q), show (2 : Int32) = nI 2 from rfl, ix_n _ (by omega) (by omega), nI_clamp (by omega), hC.2.2.2.2 2 (by omega), nI_add]
        · rw [if_pos (nI_le (by omega) (by omega)), if_neg (by simpa using q)]; rfl
  rw [nI_1, show (8 : Int32) * nI r = nI (8 * r) from pk_mul 8 r, show (8 : Int32) * nI (r + 1) = nI (8 * (r + 1)) from pk_mul 8 (r + 1), nI_add, nI_add]
  simp only [bnd_s]
  unfold stp
  by_cases q : s = t
  · subst q
    rw [if_pos rfl, if_pos rfl]
    exact fin 0
  · rw [if_neg (fun z => q ((nI_eq (by omega) (by omega)).mp z)), if_neg q]
    rw [show ∀ k : Option Int32, ix 0 3 k = k from fun k => ix_n (j := 0) k (by omega) (by omega), ix_n _ (by omega) (by omega), show Int32.toNatClampNeg 0 = 0 from nI_clamp (n := 0) (by omega), nI_clamp (n := t) (by omega), hC.2.2.2.2 0 (by omega), hC.2.2.2.1 t (by omega), nI_add]
    exact fin _
theorem mf_step {m : Option Nat} {v : Nat} (hv : v < 100000000) (hm : ∀ x, m = some x → x < 2 ^ 31) : (if nI v < nI (m.getD 100000000) then nI v else nI (m.getD 100000000)) = nI ((some (mm m v)).getD 100000000) := by
  cases m with
  | none => exact if_pos (nI_lt hv (by decide))
  | some x =>
    show (if nI v < nI x then nI v else nI x) = nI (if v < x then v else x)
    by_cases q : v < x
    · rw [if_pos q, if_pos (nI_lt q (hm x rfl))]
    · rw [if_neg q, if_neg (nI_nlt (by omega) (by omega))]
theorem X9_ahead_i {W : WD} {st : ST} {r s : Nat} (ok : okW W) (hC : wM W st) (hr : r + 1 < wn W) (hs : s < wS W) (hA : fl 10 (ah W) (fun r' s' => r' = r ∧ s' < wS W) st) : ∀ n k : Nat, wS W - k < n → k ≤ wS W →
    fX9_finds_64 n st (nI (r + 1)) (nI s) (nI ((mi (fun o => ah W r o + stp W (r + 1) o s) k).getD 100000000)) (nI k) = some (nI ((mi (fun o => ah W r o + stp W (r + 1) o s) (wS W)).getD 100000000)) := by
  have ok' := ok
  obtain ⟨o1, o2, o3, o4, o5, o6, o7⟩ := ok
  have bd : ∀ o, ah W r o + stp W (r + 1) o s < 100000000 := fun o => by
    have := ah_l3 ok' (show r < wn W by omega) o
    have := stp_le ok' (r + 1) o s
    omega
  intro n
  induction n with
  | zero => intro k h; omega
  | succ n ih =>
    intro k h hk
    unfold fX9_finds_64
    rw [hC.2.2.1]
    by_cases q : k = wS W
    · subst q
      rw [if_pos (nI_le (Nat.le_refl _) (by omega))]
    · have hlt : k < wS W := by omega
      rw [if_neg (nI_ge hlt (by omega)), if_neg (show ¬ nI (r + 1) ≤ 0 from nI_ge (a := 0) (by omega) (by omega)), bnd_s, show nI (r + 1) - 1 = nI r from pk_sub (a := r + 1) (b := 1) (by omega), show (8 : Int32) * nI r = nI (8 * r) from pk_mul 8 r, nI_add, ix_n _ (by omega) (by omega), nI_clamp (by omega), X9_step_s ok' hC hr hlt hs, ob_s, hA r k ⟨rfl, hlt⟩, nI_add, mf_step (bd k) (mi_lt (fun i _ => Nat.lt_trans (bd i) (by decide))), bnd_s, bnd_s, nI_1]
      exact ih (k + 1) (by omega) (by omega)
theorem X9_ahead_z {W : WD} {st : ST} {x_2 x_3 : Int32} (ok : okW W) (hC : wM W st) : fX9_finds_64 1000 st (nI 0) x_2 x_3 0 = some x_3 := by
  obtain ⟨o1, o2, o3, o4, o5, o6, o7⟩ := ok
  unfold fX9_finds_64
  rw [hC.2.2.1, if_neg (show ¬ nI (wS W) ≤ 0 from nI_ge (a := 0) (by omega) (by omega)), if_pos (by decide)]
theorem X9_ahead_l {W : WD} {r : Nat} (ok : okW W) (hr : r < wn W) : ∀ (n s : Nat) (st : ST), wS W - s < n → s ≤ wS W → wM W st → fl 10 (ah W) (fun r' s' => s' < wS W ∧ (r' < r ∨ (r' = r ∧ s' < s))) st →
    ∃ st', fX9_finds_37 n st (nI r) (nI s) = some st' ∧ fk 10 st st' ∧ fl 10 (ah W) (fun r' s' => s' < wS W ∧ r' < r + 1) st' := by
  have ok' := ok
  obtain ⟨o1, o2, o3, o4, o5, o6, o7⟩ := ok
  intro n
  induction n with
  | zero => intro k st h; omega
  | succ n ih =>
    intro s st h hs hC hA
    unfold fX9_finds_37
    rw [hC.2.2.1]
    by_cases q : s = wS W
    · subst q
      rw [if_pos (nI_le (Nat.le_refl _) (by omega))]
      exact ⟨st, rfl, fk_r _ _, fl_at hA rfl (fun r' s' z => ⟨z.1, by omega⟩)⟩
    · have hlt : s < wS W := by omega
      rw [if_neg (nI_ge hlt (by omega))]
      have next : ∃ st', fX9_finds_37 n (setA st 10 (8 * r + s) (nI (ah W r s))) (nI r) (nI (s + 1)) = some st' ∧ fk 10 st st' ∧ fl 10 (ah W) (fun r' s' => s' < wS W ∧ r' < r + 1) st' := by
        obtain ⟨st', a1, a2, a3⟩ := ih (s + 1) (setA st 10 (8 * r + s) (nI (ah W r s))) (by omega) (by omega) (wM_fk hC (fk_A st) (by decide) (by decide) (by decide) (by decide)) (fl_set hA (by omega) (fun r' s' z => ⟨by omega, by omega⟩))
        exact ⟨st', a1, fk_t (fk_A st) a2, a3⟩
      cases r with
      | zero =>
        rw [if_pos (show nI 0 = 0 from rfl), ix_n _ (by omega) (by omega), bnd_s, X9_ahead_z ok' hC, ob_s, X9_miss_s ok' hC hr hlt, ob_s, nI_clamp (by omega), hC.2.2.2.1 s (by omega), nI_add, bnd_s, show (8 : Int32) * nI 0 = nI (8 * 0) from pk_mul 8 0, nI_add, bnd_s, ix_n _ (by omega) (by omega), nI_clamp (by omega), bnd_s, bnd_s, nI_1]
        exact next
      | succ r =>
        rw [if_neg (fun z => by have := (nI_eq (a := r + 1) (b := 0) (by omega) (by omega)).mp z; omega)]
        have e := X9_ahead_i ok' hC hr hlt (fl_at hA rfl (fun r' s' z => ⟨z.2, by omega⟩)) 1000 0 (by omega) (by omega)
        rw [show fX9_finds_64 1000 st (nI (r + 1)) (nI s) 100000000 0 = _ from e, ob_s, X9_miss_s ok' hC hr hlt, ob_s, nI_add, mi_v (by omega), show (8 : Int32) * nI (r + 1) = nI (8 * (r + 1)) from pk_mul 8 (r + 1), nI_add, bnd_s, bnd_s, ix_n _ (by omega) (by omega), nI_clamp (by omega), bnd_s, bnd_s, nI_1]
        exact next
theorem X9_behind_i {W : WD} {st : ST} {r s : Nat} (ok : okW W) (hC : wM W st) (hr : r + 1 < wn W) (hs : s < wS W) (hB : fl 11 (bm W) (fun r' s' => r' = r + 1 ∧ s' < wS W) st) : ∀ n k : Nat, wS W - k < n → k ≤ wS W →
    fX9_finds_185 n st (nI r) (nI s) (nI ((mi (fun t => stp W (r + 1) s t + bm W (r + 1) t) k).getD 100000000)) (nI k) = some (nI ((mi (fun t => stp W (r + 1) s t + bm W (r + 1) t) (wS W)).getD 100000000)) := by
  have ok' := ok
  obtain ⟨o1, o2, o3, o4, o5, o6, o7⟩ := ok
  have bd : ∀ t, stp W (r + 1) s t + bm W (r + 1) t < 100000000 := fun t => by
    have := bm_le ok' (r + 1) t
    have := stp_le ok' (r + 1) s t
    omega
  intro n
  induction n with
  | zero => intro k h; omega
  | succ n ih =>
    intro k h hk
    unfold fX9_finds_185
    rw [hC.2.2.1, hC.2.1]
    by_cases q : k = wS W
    · subst q
      rw [if_pos (nI_le (Nat.le_refl _) (by omega))]
    · have hlt : k < wS W := by omega
      rw [if_neg (nI_ge hlt (by omega)), show nI (wn W) - 1 = nI (wn W - 1) from pk_sub (a := wn W) (b := 1) (by omega), if_neg (nI_ge (by omega) (by omega)), X9_step_s ok' hC hr hs hlt, ob_s, nI_1, show (8 : Int32) * nI (r + 1) = nI (8 * (r + 1)) from pk_mul 8 (r + 1), nI_add, bnd_s, ix_n _ (by omega) (by omega), nI_clamp (by omega), hB (r + 1) k ⟨rfl, hlt⟩, nI_add, mf_step (bd k) (mi_lt (fun i _ => Nat.lt_trans (bd i) (by decide))), bnd_s, bnd_s, nI_1]
      exact ih (k + 1) (by omega) (by omega)
theorem X9_behind_z {W : WD} {st : ST} {r : Nat} {x_2 x_3 : Int32} (ok : okW W) (hC : wM W st) (hr : r + 1 = wn W) : fX9_finds_185 1000 st (nI r) x_2 x_3 0 = some x_3 := by
  obtain ⟨o1, o2, o3, o4, o5, o6, o7⟩ := ok
  unfold fX9_finds_185
  rw [hC.2.2.1, hC.2.1, if_neg (show ¬ nI (wS W) ≤ 0 from nI_ge (a := 0) (by omega) (by omega)), show nI (wn W) - 1 = nI (wn W - 1) from pk_sub (a := wn W) (b := 1) (by omega), if_pos (nI_le (by omega) (by omega))]
theorem X9_behind_l {W : WD} {r : Nat} (ok : okW W) (hr : r < wn W) : ∀ (n s : Nat) (st : ST), wS W - s < n → s ≤ wS W → wM W st → fl 11 (bm W) (fun r' s' => s' < wS W ∧ r' < wn W ∧ (r < r' ∨ (r' = r ∧ s' < s))) st →
    ∃ st', fX9_finds_157 n st (nI r) (nI s) = some st' ∧ fk 11 st st' ∧ fl 11 (bm W) (fun r' s' => s' < wS W ∧ r' < wn W ∧ r ≤ r') st' := by
  have ok' := ok
  obtain ⟨o1, o2, o3, o4, o5, o6, o7⟩ := ok
  intro n
  induction n with
  | zero => intro k st h; omega
  | succ n ih =>
    intro s st h hs hC hA
    unfold fX9_finds_157
    rw [hC.2.2.1, hC.2.1]
    by_cases q : s = wS W
    · subst q
      rw [if_pos (nI_le (Nat.le_refl _) (by omega))]
      exact ⟨st, rfl, fk_r _ _, fl_at hA rfl (fun r' s' z => ⟨z.1, by omega⟩)⟩
    · have hlt : s < wS W := by omega
      rw [if_neg (nI_ge hlt (by omega)), show nI (wn W) - 1 = nI (wn W - 1) from pk_sub (a := wn W) (b := 1) (by omega)]
      have next : ∃ st', fX9_finds_157 n (setA st 11 (8 * r + s) (nI (bm W r s))) (nI r) (nI (s + 1)) = some st' ∧ fk 11 st st' ∧ fl 11 (bm W) (fun r' s' => s' < wS W ∧ r' < wn W ∧ r ≤ r') st' := by
        obtain ⟨st', a1, a2, a3⟩ := ih (s + 1) (setA st 11 (8 * r + s) (nI (bm W r s))) (by omega) (by omega) (wM_fk hC (fk_A st) (by decide) (by decide) (by decide) (by decide)) (fl_set hA (by omega) (fun r' s' z => ⟨by omega, by omega⟩))
        exact ⟨st', a1, fk_t (fk_A st) a2, a3⟩
      by_cases e : r + 1 = wn W
      · rw [if_pos (by rw [← e]; rfl), X9_behind_z ok' hC e, ob_s, X9_miss_s ok' hC hr hlt, ob_s, show (0 : Int32) + nI (ms W r s) = nI (bm W r s) from by rw [show (0 : Int32) = nI 0 from rfl, nI_add]; unfold bm; rw [bh_last s (by omega)], bnd_s, show (8 : Int32) * nI r = nI (8 * r) from pk_mul 8 r, nI_add, bnd_s, ix_n _ (by omega) (by omega), nI_clamp (by omega), bnd_s, bnd_s, nI_1]
        exact next
      · rw [if_neg (fun z => by have := (nI_eq (by omega) (by omega)).mp z; omega)]
        have e := X9_behind_i (r := r) ok' hC (by omega) hlt (fl_at hA rfl (fun r' s' z => ⟨z.2, by omega⟩)) 1000 0 (by omega) (by omega)
        rw [show fX9_finds_185 1000 st (nI r) (nI s) 100000000 0 = _ from e, ob_s, X9_miss_s ok' hC hr hlt, ob_s, nI_add, mi_v (by omega), ← bh_s s (by omega), show (8 : Int32) * nI r = nI (8 * r) from pk_mul 8 r, nI_add, bnd_s, bnd_s, ix_n _ (by omega) (by omega), nI_clamp (by omega), bnd_s, bnd_s, nI_1]
        exact next
theorem X9_best_0 {W : WD} {st : ST} {x : Int32} (ok : okW W) (hC : wM W st) (hB : fl 11 (bm W) (fun r' s' => s' < wS W ∧ r' < wn W) st) (h24 : st.1 24 = nI (mv (g0 W) (wS W))) : ∀ n k : Nat, wS W - k < n → k ≤ am (g0 W) (wS W) → fX9_finds_331 n st x (nI k) = some (nI (am (g0 W) (wS W))) := by
  have ok' := ok
  obtain ⟨o1, o2, o3, o4, o5, o6, o7⟩ := ok
  obtain ⟨m1, m2, m3⟩ := am_s (f := g0 W) (k := wS W) (by omega)
  have bd : ∀ s, g0 W s < 2 ^ 31 := fun s => by
    have := bm_le ok' 0 s
    have := o5 s
    unfold g0
    omega
  intro n
  induction n with
  | zero => intro k h h2; omega
  | succ n ih =>
    intro k h hk
    unfold fX9_finds_331
    rw [ix_n _ (by omega) (by omega), ix_n _ (by omega) (by omega), nI_clamp (by omega), hC.2.2.2.1 k (by omega), show st.2 11 k = nI (bm W 0 k) from by have := hB 0 k ⟨by omega, by omega⟩; rwa [show 8 * 0 + k = k by omega] at this, nI_add, h24]
    by_cases q : k = am (g0 W) (wS W)
    · rw [if_pos (by rw [← m2, ← q]; rfl), q]
    · rw [if_neg (fun z => by
        have z1 := (nI_eq (a := g0 W k) (bd k) (by rw [← m2]; exact bd _)).mp z
        have := m3 k (by omega)
        omega), bnd_s, nI_1]
      exact ih (k + 1) (by omega) (by omega)
theorem X9_best_r {W : WD} {st : ST} {r p : Nat} (ok : okW W) (hC : wM W st) (hr : r + 1 < wn W) (hp : p < wS W) (hB : fl 11 (bm W) (fun r' s' => s' < wS W ∧ r' < wn W) st) : ∀ n k : Nat, wS W - k < n → k ≤ am (g1 W (r + 1) p) (wS W) → fX9_finds_366 n st (nI (r + 1)) (nI k) (nI p) = some (nI (am (g1 W (r + 1) p) (wS W))) := by
  have ok' := ok
  obtain ⟨o1, o2, o3, o4, o5, o6, o7⟩ := ok
  obtain ⟨m1, m2, m3⟩ := am_s (f := g1 W (r + 1) p) (k := wS W) (by omega)
  have bd : ∀ s, g1 W (r + 1) p s < 1000000 := fun s => by
    have := bm_le ok' (r + 1) s
    have := stp_le ok' (r + 1) p s
    unfold g1
    omega
  have ebm : bm W r p = ms W r p + mv (g1 W (r + 1) p) (wS W) := by
    unfold bm
    rw [bh_s p hr]
    exact Nat.add_comm _ _
  have hms := ms_le ok' r p
  intro n
  induction n with
  | zero => intro k h h2; omega
  | succ n ih =>
    intro k h hk
    unfold fX9_finds_366
    rw [show nI (r + 1) - 1 = nI r from pk_sub (a := r + 1) (b := 1) (by omega), X9_miss_s ok' hC (by omega) hp, ob_s, X9_step_s ok' hC hr hp (by omega), ob_s, show (8 : Int32) * nI (r + 1) = nI (8 * (r + 1)) from pk_mul 8 (r + 1), show (8 : Int32) * nI r = nI (8 * r) from pk_mul 8 r, nI_add, nI_add, nI_add, bnd_s, ix_n _ (by omega) (by omega), bnd_s, ix_n _ (by omega) (by omega), nI_clamp (by omega), nI_clamp (by omega), hB (r + 1) k ⟨by omega, by omega⟩, hB r p ⟨hp, by omega⟩, nI_add, show ms W r p + stp W (r + 1) p k + bm W (r + 1) k = ms W r p + g1 W (r + 1) p k by unfold g1; omega, ebm]
    by_cases q : k = am (g1 W (r + 1) p) (wS W)
    · rw [if_pos (by rw [← m2, ← q]), q]
    · rw [if_neg (fun z => by
        have b1 := bd k
        have b2 := bd (am (g1 W (r + 1) p) (wS W))
        have z1 := (nI_eq (a := ms W r p + g1 W (r + 1) p k) (by omega) (by rw [← m2]; omega)).mp z
        have := m3 k (by omega)
        omega), bnd_s, nI_1]
      exact ih (k + 1) (by omega) (by omega)
theorem X9_best_l {W : WD} (ok : okW W) : ∀ (n r : Nat) (st : ST), wn W - r < n → r ≤ wn W → wM W st → fl 11 (bm W) (fun r' s' => s' < wS W ∧ r' < wn W) st → st.1 24 = nI (mv (g0 W) (wS W)) → (∀ q, q < r → st.2 12 q = nI (bs W q)) →
    ∃ st', fX9_finds_317 n st (nI r) = some (1, st') ∧ fk 12 st st' ∧ (∀ q, q < wn W → st'.2 12 q = nI (bs W q)) := by
  have ok' := ok
  obtain ⟨o1, o2, o3, o4, o5, o6, o7⟩ := ok
  intro n
  induction n with
  | zero => intro k st h; omega
  | succ n ih =>
    intro r st h hr hC hB h24 h12
    unfold fX9_finds_317
    rw [hC.2.1]
    by_cases q : r = wn W
    · subst q
      rw [if_pos (nI_le (Nat.le_refl _) (by omega))]
      exact ⟨st, rfl, fk_r _ _, h12⟩
    · have hlt : r < wn W := by omega
      have next : ∃ st', fX9_finds_317 n (setA st 12 r (nI (bs W r))) (nI (r + 1)) = some (1, st') ∧ fk 12 st st' ∧ (∀ q, q < wn W → st'.2 12 q = nI (bs W q)) := by
        obtain ⟨st', a1, a2, a3⟩ := ih (r + 1) (setA st 12 r (nI (bs W r))) (by omega) (by omega) (wM_fk hC (fk_A st) (by decide) (by decide) (by decide) (by decide)) (fl_at hB ((fk_A st).2 11 (by decide)) (fun _ _ z => z)) h24 (fun q hq => by
          by_cases e : q = r
          · subst e; rw [sA_ss]
          · rw [sA_sn _ _ _ e]; exact h12 q (by omega))
        exact ⟨st', a1, fk_t (fk_A st) a2, a3⟩
      rw [if_neg (nI_ge hlt (by omega))]
      cases r with
      | zero =>
        rw [if_pos (show nI 0 = 0 from rfl), show fX9_finds_331 1000 st (nI 0) 0 = _ from X9_best_0 ok' hC hB h24 1000 0 (by omega) (by omega), ob_s, ix_n _ (by omega) (by omega), nI_clamp (by omega), bnd_s, bnd_s, nI_1]
        exact next
      | succ r =>
        rw [if_neg (fun z => by have := (nI_eq (a := r + 1) (b := 0) (by omega) (by omega)).mp z; omega), show nI (r + 1) - 1 = nI r from pk_sub (a := r + 1) (b := 1) (by omega), bnd_s, ix_n _ (by omega) (by omega), nI_clamp (by omega), bnd_s, h12 r (by omega), show fX9_finds_366 1000 st (nI (r + 1)) 0 (nI (bs W r)) = _ from X9_best_r ok' hC hlt (bs_lt ok' r) hB 1000 0 (by omega) (by omega), ob_s, ix_n _ (by omega) (by omega), nI_clamp (by omega), bnd_s, bnd_s, nI_1]
        exact next
def wE (W : WD) (st : ST) : Prop := fl 10 (ah W) (fun r' s' => s' < wS W ∧ r' < wn W) st ∧ fl 11 (bm W) (fun r' s' => s' < wS W ∧ r' < wn W) st ∧ (∀ q, q < wn W → st.2 12 q = nI (bs W q)) ∧ st.1 24 = nI (mv (g0 W) (wS W))
def fM (st st' : ST) : Prop := (∀ k, k ≠ 24 → st'.1 k = st.1 k) ∧ ∀ k, k ≠ 10 → k ≠ 11 → k ≠ 12 → st'.2 k = st.2 k
theorem X9_least_l {W : WD} (ok : okW W) : ∀ (n k : Nat) (st : ST), wS W - k < n → k ≤ wS W → wM W st → fl 10 (ah W) (fun r' s' => s' < wS W ∧ r' < wn W) st → fl 11 (bm W) (fun r' s' => s' < wS W ∧ r' < wn W) st → st.1 24 = nI ((mi (g0 W) k).getD 100000000) →
    ∃ st', fX9_finds_277 n st (nI k) = some (1, st') ∧ fM st st' ∧ wE W st' := by
  have ok' := ok
  obtain ⟨o1, o2, o3, o4, o5, o6, o7⟩ := ok
  have bd : ∀ s, g0 W s < 100000000 := fun s => by
    have := bm_le ok' 0 s
    have := o5 s
    unfold g0
    omega
  intro n
  induction n with
  | zero => intro k st h; omega
  | succ n ih =>
    intro k st h hk hC hA hB h24
    unfold fX9_finds_277
    rw [hC.2.2.1]
    by_cases q : k = wS W
    · subst q
      rw [if_pos (nI_le (Nat.le_refl _) (by omega))]
      rw [mi_v (by omega)] at h24
      obtain ⟨st', a1, a2, a3⟩ := X9_best_l ok' 1000 0 st (by omega) (by omega) hC hB h24 (fun q hq => absurd hq (Nat.not_lt_zero q))
      exact ⟨st', a1, ⟨fun k _ => by rw [a2.1], fun k _ _ k12 => a2.2 k k12⟩, fl_at hA (a2.2 10 (by decide)) (fun _ _ z => z), fl_at hB (a2.2 11 (by decide)) (fun _ _ z => z), a3, by rw [a2.1]; exact h24⟩
    · have hlt : k < wS W := by omega
      rw [if_neg (nI_ge hlt (by omega)), ix_n _ (by omega) (by omega), ix_n _ (by omega) (by omega), nI_clamp (by omega), hC.2.2.2.1 k (by omega), show st.2 11 k = nI (bm W 0 k) from by have := hB 0 k ⟨by omega, by omega⟩; rwa [show 8 * 0 + k = k by omega] at this, nI_add, h24, show wc W k + bm W 0 k = g0 W k from rfl, mf_step (bd k) (mi_lt (fun i _ => Nat.lt_trans (bd i) (by decide))), bnd_s, bnd_s, bnd_s, nI_1]
      obtain ⟨st', a1, a2, a3⟩ := ih (k + 1) (setS st 24 (nI ((some (mm (mi (g0 W) k) (g0 W k))).getD 100000000))) (by omega) (by omega) ⟨hC.1, by rw [sS_n _ _ (by decide)]; exact hC.2.1, by rw [sS_n _ _ (by decide)]; exact hC.2.2.1, hC.2.2.2.1, hC.2.2.2.2⟩ hA hB (sS_s _ _ _)
      exact ⟨st', a1, ⟨fun j hj => by rw [a2.1 j hj, sS_n _ _ hj], fun j k10 k11 k12 => by rw [a2.2 j k10 k11 k12]; rfl⟩, a3⟩
theorem X9_finds_c {W : WD} (ok : okW W) : ∀ (n r : Nat) (st : ST), r < n → r ≤ wn W → wM W st → fl 10 (ah W) (fun r' s' => s' < wS W ∧ r' < wn W) st → fl 11 (bm W) (fun r' s' => s' < wS W ∧ r' < wn W ∧ r ≤ r') st →
    ∃ st', fX9_finds_151 n st (nI r - 1) = some (1, st') ∧ fM st st' ∧ wE W st' := by
  have ok' := ok
  obtain ⟨o1, o2, o3, o4, o5, o6, o7⟩ := ok
  intro n
  induction n with
  | zero => intro k st h; omega
  | succ n ih =>
    intro r st h hr hC hA hB
    unfold fX9_finds_151
    cases r with
    | zero =>
      rw [if_pos (by decide), bnd_s]
      obtain ⟨st', a1, a2, a3⟩ := X9_least_l ok' 1000 0 (setS st 24 100000000) (by omega) (by omega) ⟨hC.1, by rw [sS_n _ _ (by decide)]; exact hC.2.1, by rw [sS_n _ _ (by decide)]; exact hC.2.2.1, hC.2.2.2.1, hC.2.2.2.2⟩ hA (fl_at (st := st) hB rfl (fun _ _ z => ⟨z.1, z.2, by omega⟩)) (sS_s _ _ _)
      exact ⟨st', a1, ⟨fun j hj => by rw [a2.1 j hj, sS_n _ _ hj], fun j k10 k11 k12 => by rw [a2.2 j k10 k11 k12]; rfl⟩, a3⟩
    | succ r =>
      rw [show nI (r + 1) - 1 = nI r from pk_sub (a := r + 1) (b := 1) (by omega), if_neg (nI_pos (by omega))]
      obtain ⟨s1, g1, g2, g3⟩ := X9_behind_l ok' (show r < wn W by omega) 1000 0 st (by omega) (by omega) hC (fl_at hB rfl (fun _ _ z => ⟨z.1, z.2.1, by omega⟩))
      rw [show fX9_finds_157 1000 st (nI r) 0 = _ from g1, ob_s, bnd_s]
      obtain ⟨st', a1, a2, a3⟩ := ih r s1 (by omega) (by omega) (wM_fk hC g2 (by decide) (by decide) (by decide) (by decide)) (fl_at hA (g2.2 10 (by decide)) (fun _ _ z => z)) g3
      rw [show nI r + -1 = nI r - 1 from (Int32.sub_eq_add_neg _ _).symm]
      exact ⟨st', a1, ⟨fun k k24 => by rw [a2.1 k k24, g2.1], fun k k10 k11 k12 => by rw [a2.2 k k10 k11 k12, g2.2 k k11]⟩, a3⟩
theorem X9_finds_a {W : WD} (ok : okW W) : ∀ (n r : Nat) (st : ST), wn W - r < n → r ≤ wn W → wM W st → fl 10 (ah W) (fun r' s' => s' < wS W ∧ r' < r) st →
    ∃ st', fX9_finds_27 n st (nI r) = some (1, st') ∧ fM st st' ∧ wE W st' := by
  have ok' := ok
  obtain ⟨o1, o2, o3, o4, o5, o6, o7⟩ := ok
  intro n
  induction n with
  | zero => intro k st h; omega
  | succ n ih =>
    intro r st h hr hC hA
    unfold fX9_finds_27
    rw [hC.2.1]
    by_cases q : r = wn W
    · subst q
      rw [if_pos (nI_le (Nat.le_refl _) (by omega)), bnd_s]
      exact X9_finds_c ok' 1000 (wn W) st (by omega) (by omega) hC hA (fun r s z => absurd z (by omega))
    · have hlt : r < wn W := by omega
      obtain ⟨s1, g1, g2, g3⟩ := X9_ahead_l ok' hlt 1000 0 st (by omega) (by omega) hC (fl_at hA rfl (fun _ _ z => ⟨z.1, by omega⟩))
      rw [if_neg (nI_ge hlt (by omega)), show fX9_finds_37 1000 st (nI r) 0 = _ from g1, ob_s, bnd_s, nI_1]
      obtain ⟨st', a1, a2, a3⟩ := ih (r + 1) s1 (by omega) (by omega) (wM_fk hC g2 (by decide) (by decide) (by decide) (by decide)) g3
      exact ⟨st', a1, ⟨fun k k24 => by rw [a2.1 k k24, g2.1], fun k k10 k11 k12 => by rw [a2.2 k k10 k11 k12, g2.2 k k10]⟩, a3⟩
