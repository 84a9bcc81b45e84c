/-! The class's ways. -/
def wC (W : WD) (st : ST) : Prop := (∀ r s, r < wn W → s < wS W → st.2 6 (8 * r + s) = sp1 (wF W r s) ∧ st.2 7 (8 * r + s) = sp2 (wF W r s)) ∧ st.1 13 = nI (wn W) ∧ st.1 14 = nI (wS W) ∧ (∀ s, s < 8 → st.2 10 s = nI (wc W s)) ∧ (∀ k, k < 3 → st.2 11 k = nI (wp W k))
def fl (K : Nat) (g : Nat → Nat → Nat) (R : Nat → Nat → Prop) (st : ST) : Prop := ∀ r s, R r s → st.2 K (8 * r + s) = nI (g r s)
theorem fl_set {K r0 s0 : Nat} {g : Nat → Nat → Nat} {R R' : Nat → Nat → Prop} {st : ST} (h : fl K g R st) (hs : s0 < 8) (hR : ∀ r s, R' r s → s < 8 ∧ (R r s ∨ (r = r0 ∧ s = s0))) : fl K g R' (setA st K (8 * r0 + s0) (nI (g r0 s0))) := by
  intro r s q
  obtain ⟨q1, q2⟩ := hR r s q
  by_cases e : 8 * r + s = 8 * r0 + s0
  · have e1 : r = r0 := by omega
    have e2 : s = s0 := by omega
    subst e1; subst e2
    rw [sA_ss]
  · rw [sA_sn _ _ _ e]
    rcases q2 with q2 | ⟨e1, e2⟩
    · exact h r s q2
    · subst e1; subst e2; exact absurd rfl e
theorem fl_at {K : Nat} {g : Nat → Nat → Nat} {R R' : Nat → Nat → Prop} {st st' : ST} (h : fl K g R st) (e : st'.2 K = st.2 K) (hR : ∀ r s, R' r s → R r s) : fl K g R' st' := by
  intro r s q
  rw [e]; exact h r s (hR r s q)
/-- row K alone has changed -/
def fk (K : Nat) (st st' : ST) : Prop := st'.1 = st.1 ∧ ∀ k, k ≠ K → st'.2 k = st.2 k
theorem fk_r (K : Nat) (st : ST) : fk K st st := ⟨rfl, fun _ _ => rfl⟩
theorem fk_t {K : Nat} {a b c : ST} (h1 : fk K a b) (h2 : fk K b c) : fk K a c := ⟨by rw [h2.1, h1.1], fun k hk => by rw [h2.2 k hk, h1.2 k hk]⟩
theorem fk_A {K i : Nat} {v : Int32} (st : ST) : fk K st (setA st K i v) := ⟨rfl, fun _ hk => sA_n _ _ _ hk⟩
theorem wC_fk {W : WD} {K : Nat} {st st' : ST} (h : wC W st) (f : fk K st st') (k6 : 6 ≠ K) (k7 : 7 ≠ K) (k10 : 10 ≠ K) (k11 : 11 ≠ K) : wC W st' := by
  unfold wC
  rw [f.1, f.2 6 k6, f.2 7 k7, f.2 10 k10, f.2 11 k11]
  exact h
theorem X3_edge_0 {r s : Nat} (st : ST) (hr : r < 30) (hs : s < 8) : fX3_edge st (nI r) (nI s) 0 = some (st.2 6 (8 * r + s)) := by
  unfold fX3_edge
  rw [if_neg (nI_pos (by omega)), if_neg (show ¬ (30 : Int32) ≤ nI r from nI_ge (b := 30) hr (by omega)), if_neg (nI_pos (by omega)), if_neg (show ¬ (8 : Int32) ≤ nI s from nI_ge (b := 8) hs (by omega)), if_neg (show ¬ (0 : Int32) < 0 by decide), if_pos (show (0 : Int32) ≤ 1 by decide), bnd_s, if_pos rfl, show (8 : Int32) = nI 8 from rfl, pk_mul, nI_add, ix_n _ (by omega) (by omega), nI_clamp (by omega), Nat.mul_comm r 8]
theorem X3_edge_1 {r s : Nat} (st : ST) (hr : r < 30) (hs : s < 8) : fX3_edge st (nI r) (nI s) 1 = some (st.2 7 (8 * r + s)) := by
  unfold fX3_edge
  rw [if_neg (nI_pos (by omega)), if_neg (show ¬ (30 : Int32) ≤ nI r from nI_ge (b := 30) hr (by omega)), if_neg (nI_pos (by omega)), if_neg (show ¬ (8 : Int32) ≤ nI s from nI_ge (b := 8) hs (by omega)), if_neg (show ¬ (1 : Int32) < 0 by decide), if_pos (show (1 : Int32) ≤ 1 by decide), bnd_s, if_neg (show ¬ (1 : Int32) = 0 by decide), show (8 : Int32) = nI 8 from rfl, pk_mul, nI_add, ix_n _ (by omega) (by omega), nI_clamp (by omega), Nat.mul_comm r 8]
theorem sp1_n {f : Option (Nat × Nat)} (h : ∀ a b, f = some (a, b) → a < 200000 ∧ b < 200000) : (sp1 f = -1) = (f = none) := by
  cases f with
  | none => exact propext ⟨fun _ => rfl, fun _ => rfl⟩
  | some x =>
    obtain ⟨a, b⟩ := x
    have := h a b rfl
    show (nI a = -1) = _
    rw [nI_m1 (by omega)]
    exact propext ⟨fun z => z.elim, fun z => by cases z⟩
theorem sp2_n {f : Option (Nat × Nat)} (h : ∀ a b, f = some (a, b) → a < 200000 ∧ b < 200000) : (sp2 f = -1) = (f = none) := by
  cases f with
  | none => exact propext ⟨fun _ => rfl, fun _ => rfl⟩
  | some x =>
    obtain ⟨a, b⟩ := x
    have := h a b rfl
    show (nI b = -1) = _
    rw [nI_m1 (by omega)]
    exact propext ⟨fun z => z.elim, fun z => by cases z⟩
theorem X6_missOf_s {W : WD} {st : ST} {r s : Nat} (ok : okW W) (hC : wC W st) (hr : r < wn W) (hs : s < wS W) : fX6_missOf st (nI r) (nI s) = some (nI (ms W r s)) := by
  obtain ⟨o1, o2, o3, o4, o5, o6, o7⟩ := ok
  unfold fX6_missOf ms
  rw [X3_edge_0 _ (by omega) (by omega), ob_s, (hC.1 r s hr hs).1]
  have e0 := sp1_n (o7 r s)
  cases e : wF W r s with
  | none =>
    rw [if_pos (show sp1 none = -1 from rfl), show (1 : Int32) = nI 1 from rfl, ix_n _ (by omega) (by omega), nI_clamp (by omega), hC.2.2.2.2 1 (by omega)]
  | some x =>
    rw [e] at e0
    rw [if_neg (fun z => by rw [e0] at z; cases z)]; rfl
theorem X6_breaks_s {W : WD} {st : ST} {r s t : Nat} (ok : okW W) (hC : wC W st) (h1 : 1 ≤ r) (hr : r < wn W) (hs : s < wS W) (ht : t < wS W) : fX6_breaksOrder st (nI r) (nI s) (nI t) = some (if bb W r s t = true then 1 else 0) := by
  obtain ⟨o1, o2, o3, o4, o5, o6, o7⟩ := ok
  unfold fX6_breaksOrder bb
  rw [X3_edge_1 _ (by omega) (by omega), ob_s, (hC.1 r t hr ht).2, show nI r - 1 = nI (r - 1) from pk_sub (a := r) (b := 1) (by omega), X3_edge_0 _ (by omega) (by omega), ob_s, (hC.1 (r - 1) s (by omega) hs).1]
  have e0 := sp2_n (o7 r t)
  cases e : wF W r t with
  | none =>
    rw [if_pos (show sp2 none = -1 from rfl)]
    cases wF W (r - 1) s <;> rfl
  | some x =>
    obtain ⟨a, b⟩ := x
    have hb := o7 r t a b e
    rw [e] at e0
    rw [if_neg (fun z => by rw [e0] at z; cases z)]
    cases e2 : wF W (r - 1) s with
    | none =>
      rw [if_pos (show sp1 none ≤ sp2 (some (a, b)) from Int32.le_of_lt (of_eq_true (m1_lt (by omega))))]; rfl
    | some y =>
      obtain ⟨c, d⟩ := y
      have hc := o7 (r - 1) s c d e2
      show (if nI c ≤ nI b then some 0 else some 1) = some (if decide (b < c) = true then 1 else 0)
      by_cases q : b < c
      · rw [if_neg (nI_ge q (by omega)), if_pos (by simpa using q)]
      · rw [if_pos (nI_le (by omega) (by omega)), if_neg (by simpa using q)]
theorem X6_step_s {W : WD} {st : ST} {r s t : Nat} (ok : okW W) (hC : wC W st) (h1 : 1 ≤ r) (hr : r < wn W) (hs : s < wS W) (ht : t < wS W) : fX6_step st (nI r) (nI s) (nI t) = some (nI (ms W r t + stp W r s t)) := by
  have ok' := ok
  obtain ⟨o1, o2, o3, o4, o5, o6, o7⟩ := ok
  unfold fX6_step stp
  rw [X6_missOf_s ok' hC hr ht, ob_s, X6_breaks_s ok' hC h1 hr hs ht, ob_s, bnd_s]
  have e1 : (0 : Int32) = nI 0 := rfl
  have e2 : (2 : Int32) = nI 2 := rfl
  have fin : ∀ x : Nat, (if (if bb W r s t = true then (1 : Int32) else 0) = 0 then some (nI x) else ix 2 3 (some (nI x + st.2 11 (Int32.toNatClampNeg 2)))) = some (nI (x + if bb W r s t = true then wp W 2 else 0)) := by
    intro x
    cases bb W r s t with
    | false => rfl
    | true =>
      rw [if_neg (by decide), e2, ix_n _ (by omega) (by omega), nI_clamp (by omega), hC.2.2.2.2 2 (by omega), nI_add]; rfl
  by_cases q : s = t
  · subst q
    rw [if_pos rfl, fin, if_pos rfl]
    exact sn (by omega)
  · rw [if_neg (fun z => q ((nI_eq (by omega) (by omega)).mp z)), if_neg q]
    rw [e1, ix_n _ (by omega) (by omega), ix_n _ (by omega) (by omega), nI_clamp (by omega), nI_clamp (by omega), hC.2.2.2.2 0 (by omega), hC.2.2.2.1 t (by omega), nI_add, nI_add]
    refine (fin _).trans (sn (by omega))
/-- the class's least: NONE at first -/
theorem oI_step {m : Option Nat} {v : Nat} (hv : v < 2 ^ 31) (hm : ∀ x, m = some x → x < 2 ^ 31) {β : Type} (A B : Int32 → β) (hAB : A = B) : (if oI m = -1 then A (nI v) else B (if nI v < oI m then nI v else oI m)) = A (nI (mm m v)) := by
  subst hAB
  cases m with
  | none => rfl
  | some x =>
    show (if nI x = -1 then A (nI v) else A (if nI v < nI x then nI v else nI x)) = A (nI (if v < x then v else x))
    rw [if_neg (fun z => by rw [nI_m1 (hm x rfl)] at z; exact z)]
    by_cases q : v < x
    · rw [if_pos q, if_pos (nI_lt q (hm x rfl))]
    · rw [if_neg q, if_neg (nI_nlt (by omega) hv)]
theorem mi_lt {f : Nat → Nat} {k B : Nat} (h : ∀ i, i < k → f i < B) : ∀ x, mi f k = some x → x < B := by
  intro x e
  rcases Nat.eq_zero_or_pos k with rfl | hk
  · cases e
  · obtain ⟨i, h1, h2⟩ := mv_mem (f := f) hk
    rw [mi_v hk] at e
    cases e
    rw [h2]; exact h i h1
theorem X6_ahead_i {W : WD} {st : ST} {r s : Nat} (ok : okW W) (hC : wC W st) (hr : r + 1 < wn W) (hs : s < wS W) (hA : fl 12 (ah W) (fun r' s' => r' = r ∧ s' < wS W) st) : ∀ n k : Nat, wS W - k < n → k ≤ wS W →
    fX6_addUpAhead_35 n st (nI (r + 1)) (nI s) (oI (mi (fun o => ah W r o + (ms W (r + 1) s + stp W (r + 1) o s)) k)) (nI k) = some (oI (mi (fun o => ah W r o + (ms W (r + 1) s + stp W (r + 1) o s)) (wS W))) := by
  have ok' := ok
  obtain ⟨o1, o2, o3, o4, o5, o6, o7⟩ := ok
  have bd : ∀ o, ah W r o + (ms W (r + 1) s + stp W (r + 1) o s) < 2 ^ 31 := fun o => by
    have := ah_l3 ok' (show r < wn W by omega) o
    have := ms_le ok' (r + 1) s
    have := stp_le ok' (r + 1) o s
    omega
  intro n
  induction n with
  | zero => intro k h; omega
  | succ n ih =>
    intro k h hk
    unfold fX6_addUpAhead_35
    rw [hC.2.2.1]
    by_cases q : k = wS W
    · subst q
      rw [if_pos (nI_le (Nat.le_refl _) (by omega))]
    · have hlt : k < wS W := by omega
      rw [if_neg (nI_ge hlt (by omega)), if_neg (show ¬ nI (r + 1) ≤ 0 from nI_ge (a := 0) (by omega) (by omega)), bnd_s, show nI (r + 1) - 1 = nI r from pk_sub (a := r + 1) (b := 1) (by omega), show (8 : Int32) = nI 8 from rfl, pk_mul, nI_add, ix_n _ (by omega) (by omega), nI_clamp (by omega), X6_step_s ok' hC (by omega) hr hlt hs, ob_s, bnd_s, Nat.mul_comm r 8, hA r k ⟨rfl, hlt⟩, nI_add]
      simp only [bnd_s]
      rw [oI_step (bd k) (mi_lt (fun i _ => bd i)) (fun x => fX6_addUpAhead_35 n st (nI (r + 1)) (nI s) x (nI k + 1)) (fun x => fX6_addUpAhead_35 n st (nI (r + 1)) (nI s) x (nI k + 1)) rfl, nI_1]
      exact ih (k + 1) (by omega) (by omega)
theorem X6_ahead_z {W : WD} {st : ST} {x_2 x_3 : Int32} (ok : okW W) (hC : wC W st) : fX6_addUpAhead_35 1000 st (nI 0) x_2 x_3 0 = some x_3 := by
  obtain ⟨o1, o2, o3, o4, o5, o6, o7⟩ := ok
  unfold fX6_addUpAhead_35
  rw [hC.2.2.1, if_neg (show ¬ nI (wS W) ≤ 0 from nI_ge (a := 0) (by omega) (by omega)), if_pos (by decide)]
theorem X6_ahead_l {W : WD} {r : Nat} (ok : okW W) (hr : r < wn W) : ∀ (n s : Nat) (st : ST), wS W - s < n → s ≤ wS W → wC W st → fl 12 (ah W) (fun r' s' => s' < wS W ∧ (r' < r ∨ (r' = r ∧ s' < s))) st →
    ∃ st', fX6_addUpAhead_2 n st (nI r) (nI s) = some st' ∧ fk 12 st st' ∧ fl 12 (ah W) (fun r' s' => s' < wS W ∧ r' < r + 1) st' := by
  have ok' := ok
  obtain ⟨o1, o2, o3, o4, o5, o6, o7⟩ := ok
  intro n
  induction n with
  | zero => intro k st h; omega
  | succ n ih =>
    intro s st h hs hC hA
    unfold fX6_addUpAhead_2
    rw [hC.2.2.1]
    by_cases q : s = wS W
    · subst q
      rw [if_pos (nI_le (Nat.le_refl _) (by omega))]
      exact ⟨st, rfl, fk_r _ _, fl_at hA rfl (fun r' s' z => ⟨z.1, by omega⟩)⟩
    · have hlt : s < wS W := by omega
      rw [if_neg (nI_ge hlt (by omega))]
      have next : ∃ st', fX6_addUpAhead_2 n (setA st 12 (8 * r + s) (nI (ah W r s))) (nI r) (nI (s + 1)) = some st' ∧ fk 12 st st' ∧ fl 12 (ah W) (fun r' s' => s' < wS W ∧ r' < r + 1) st' := by
        obtain ⟨st', a1, a2, a3⟩ := ih (s + 1) (setA st 12 (8 * r + s) (nI (ah W r s))) (by omega) (by omega) (wC_fk hC (fk_A st) (by decide) (by decide) (by decide) (by decide)) (fl_set hA (by omega) (fun r' s' z => ⟨by omega, by omega⟩))
        exact ⟨st', a1, fk_t (fk_A st) a2, a3⟩
      cases r with
      | zero =>
        rw [if_pos (show nI 0 = 0 from rfl), ix_n _ (by omega) (by omega), X6_missOf_s ok' hC hr hlt, ob_s, nI_clamp (by omega), hC.2.2.2.1 s (by omega), nI_add, bnd_s, X6_ahead_z ok' hC, ob_s, show (8 : Int32) = nI 8 from rfl, pk_mul, nI_add, bnd_s, ix_n _ (by omega) (by omega), nI_clamp (by omega), bnd_s, bnd_s, nI_1, Nat.mul_comm 0 8]
        exact next
      | succ r =>
        rw [if_neg (fun z => by have := (nI_eq (a := r + 1) (b := 0) (by omega) (by omega)).mp z; omega)]
        have e := X6_ahead_i ok' hC hr hlt (fl_at hA rfl (fun r' s' z => ⟨z.2, by omega⟩)) 1000 0 (by omega) (by omega)
        rw [show fX6_addUpAhead_35 1000 st (nI (r + 1)) (nI s) (-1) 0 = _ from e, ob_s, mi_v (by omega)]
        have ev : mv (fun o => ah W r o + (ms W (r + 1) s + stp W (r + 1) o s)) (wS W) = ah W (r + 1) s := by
          show _ = mv (fun o => ah W r o + stp W (r + 1) o s) (wS W) + ms W (r + 1) s
          rw [← mv_add (by omega)]
          exact mv_c (fun i _ => by show _ = ah W r i + stp W (r + 1) i s + ms W (r + 1) s; omega)
        rw [ev, show (8 : Int32) = nI 8 from rfl, pk_mul, nI_add, bnd_s, ix_n _ (by omega) (by omega), nI_clamp (by omega), bnd_s, bnd_s, nI_1, Nat.mul_comm (r + 1) 8]
        exact next
