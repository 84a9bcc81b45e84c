theorem X6_behind_i {W : WD} {st : ST} {r s : Nat} (ok : okW W) (hC : wC W st) (hr : r + 1 < wn W) (hs : s < wS W) (hB : fl 13 (bh W) (fun r' s' => r' = r + 1 ∧ s' < wS W) st) : ∀ n k : Nat, wS W - k < n → k ≤ wS W →
    fX6_addUpBehind_29 n st (nI r) (nI s) (oI (mi (fun t => stp W (r + 1) s t + bm W (r + 1) t) k)) (nI k) = some (oI (mi (fun t => stp W (r + 1) s t + bm W (r + 1) t) (wS W))) := by
  have ok' := ok
  obtain ⟨o1, o2, o3, o4, o5, o6, o7⟩ := ok
  have bd : ∀ t, stp W (r + 1) s t + bm W (r + 1) t < 2 ^ 31 := fun t => by
    have := bm_le ok' (r + 1) t
    have := stp_le ok' (r + 1) s t
    omega
  intro n
  induction n with
  | zero => intro k h; omega
  | succ n ih =>
    intro k h hk
    unfold fX6_addUpBehind_29
    rw [hC.2.2.1, hC.2.1]
    by_cases q : k = wS W
    · subst q
      rw [if_pos (nI_le (Nat.le_refl _) (by omega))]
    · have hlt : k < wS W := by omega
      have ev : ms W (r + 1) k + stp W (r + 1) s k + bh W (r + 1) k = stp W (r + 1) s k + bm W (r + 1) k := by unfold bm; omega
      rw [if_neg (nI_ge hlt (by omega)), show nI (wn W) - 1 = nI (wn W - 1) from pk_sub (a := wn W) (b := 1) (by omega), if_neg (nI_ge (by omega) (by omega)), nI_1, X6_step_s ok' hC (by omega) hr hs hlt, ob_s, show (8 : Int32) = nI 8 from rfl, pk_mul, nI_add, bnd_s, ix_n _ (by omega) (by omega), nI_clamp (by omega), Nat.mul_comm (r + 1) 8, hB (r + 1) k ⟨rfl, hlt⟩, nI_add, bnd_s, ev]
      simp only [bnd_s]
      rw [oI_step (bd k) (mi_lt (fun i _ => bd i)) (fun x => fX6_addUpBehind_29 n st (nI r) (nI s) x (nI k + 1)) (fun x => fX6_addUpBehind_29 n st (nI r) (nI s) x (nI k + 1)) rfl, nI_1]
      exact ih (k + 1) (by omega) (by omega)
theorem X6_behind_z {W : WD} {st : ST} {r : Nat} {x_2 x_3 : Int32} (ok : okW W) (hC : wC W st) (hr : r + 1 = wn W) : fX6_addUpBehind_29 1000 st (nI r) x_2 x_3 0 = some x_3 := by
  obtain ⟨o1, o2, o3, o4, o5, o6, o7⟩ := ok
  unfold fX6_addUpBehind_29
  rw [hC.2.2.1, hC.2.1, if_neg (show ¬ nI (wS W) ≤ 0 from nI_ge (a := 0) (by omega) (by omega)), show nI (wn W) - 1 = nI (wn W - 1) from pk_sub (a := wn W) (b := 1) (by omega), if_pos (nI_le (by omega) (by omega))]
theorem X6_behind_l {W : WD} {r : Nat} (ok : okW W) (hr : r < wn W) : ∀ (n s : Nat) (st : ST), wS W - s < n → s ≤ wS W → wC W st → fl 13 (bh W) (fun r' s' => s' < wS W ∧ r' < wn W ∧ (r < r' ∨ (r' = r ∧ s' < s))) st →
    ∃ st', fX6_addUpBehind_2 n st (nI r) (nI s) = some st' ∧ fk 13 st st' ∧ fl 13 (bh W) (fun r' s' => s' < wS W ∧ r' < wn W ∧ r ≤ r') st' := by
  have ok' := ok
  obtain ⟨o1, o2, o3, o4, o5, o6, o7⟩ := ok
  intro n
  induction n with
  | zero => intro k st h; omega
  | succ n ih =>
    intro s st h hs hC hA
    unfold fX6_addUpBehind_2
    rw [hC.2.2.1, hC.2.1]
    by_cases q : s = wS W
    · subst q
      rw [if_pos (nI_le (Nat.le_refl _) (by omega))]
      exact ⟨st, rfl, fk_r _ _, fl_at hA rfl (fun r' s' z => ⟨z.1, by omega⟩)⟩
    · have hlt : s < wS W := by omega
      rw [if_neg (nI_ge hlt (by omega)), show nI (wn W) - 1 = nI (wn W - 1) from pk_sub (a := wn W) (b := 1) (by omega)]
      have next : ∃ st', fX6_addUpBehind_2 n (setA st 13 (8 * r + s) (nI (bh W r s))) (nI r) (nI (s + 1)) = some st' ∧ fk 13 st st' ∧ fl 13 (bh W) (fun r' s' => s' < wS W ∧ r' < wn W ∧ r ≤ r') st' := by
        obtain ⟨st', a1, a2, a3⟩ := ih (s + 1) (setA st 13 (8 * r + s) (nI (bh W r s))) (by omega) (by omega) (wC_fk hC (fk_A st) (by decide) (by decide) (by decide) (by decide)) (fl_set hA (by omega) (fun r' s' z => ⟨by omega, by omega⟩))
        exact ⟨st', a1, fk_t (fk_A st) a2, a3⟩
      by_cases e : r + 1 = wn W
      · rw [if_pos (by rw [← e]; rfl), X6_behind_z ok' hC e, ob_s, show (8 : Int32) = nI 8 from rfl, pk_mul, nI_add, bnd_s, ix_n _ (by omega) (by omega), nI_clamp (by omega), bnd_s, bnd_s, nI_1, Nat.mul_comm r 8]
        rw [bh_last s (by omega)] at next
        exact next
      · rw [if_neg (fun z => by have := (nI_eq (by omega) (by omega)).mp z; omega)]
        have e := X6_behind_i (r := r) ok' hC (by omega) hlt (fl_at hA rfl (fun r' s' z => ⟨z.2, by omega⟩)) 1000 0 (by omega) (by omega)
        rw [show fX6_addUpBehind_29 1000 st (nI r) (nI s) (-1) 0 = _ from e, ob_s, mi_v (by omega), ← bh_s s (by omega), show (8 : Int32) = nI 8 from rfl, pk_mul, nI_add, bnd_s, ix_n _ (by omega) (by omega), nI_clamp (by omega), bnd_s, bnd_s, nI_1, Nat.mul_comm r 8]
        exact next
/-- the lowest of the cheapest -/
theorem am_step {f : Nat → Nat} {k : Nat} (hv : f k < 2 ^ 31) (hm : ∀ x, mi f k = some x → x < 2 ^ 31) {β : Type} (A : Int32 → Int32 → β) :
    (if oI (mi f k) = -1 then A (nI k) (nI (f k)) else if oI (mi f k) ≤ nI (f k) then A (nI (am f k)) (oI (mi f k)) else A (nI k) (nI (f k))) = A (nI (am f (k + 1))) (oI (mi f (k + 1))) := by
  show _ = A (nI (match mi f k with | none => k | some x => if x ≤ f k then am f k else k)) (nI (mm (mi f k) (f k)))
  cases e : mi f k with
  | none => rfl
  | some x =>
    have hx := hm x e
    show (if nI x = -1 then A (nI k) (nI (f k)) else if nI x ≤ nI (f k) then A (nI (am f k)) (nI x) else A (nI k) (nI (f k))) = A (nI (if x ≤ f k then am f k else k)) (nI (if f k < x then f k else x))
    rw [if_neg (fun z => by rw [nI_m1 hx] at z; exact z)]
    by_cases q : x ≤ f k
    · rw [if_pos (nI_le q hv), if_pos q, if_neg (by omega)]
    · rw [if_neg (nI_ge (by omega) hx), if_neg q, if_pos (by omega)]
theorem X6_cheap_0 {W : WD} {st : ST} (ok : okW W) (hC : wC W st) (hB : fl 13 (bh W) (fun r' s' => s' < wS W ∧ r' < wn W) st) : ∀ n k : Nat, wS W - k < n → k ≤ wS W →
    fX6_cheapestStyle_7 n st (nI 0) (nI (am (g0 W) k)) (oI (mi (g0 W) k)) (nI k) = some (nI (am (g0 W) (wS W))) := by
  have ok' := ok
  obtain ⟨o1, o2, o3, o4, o5, o6, o7⟩ := ok
  have bd : ∀ s, g0 W s < 2 ^ 31 := fun s => by
    have := bm_le ok' 0 s
    have := o5 s
    unfold g0
    omega
  intro n
  induction n with
  | zero => intro k h; omega
  | succ n ih =>
    intro k h hk
    unfold fX6_cheapestStyle_7
    rw [hC.2.2.1]
    by_cases q : k = wS W
    · subst q
      rw [if_pos (nI_le (Nat.le_refl _) (by omega))]
    · have hlt : k < wS W := by omega
      have ev : wc W k + ms W 0 k + bh W 0 k = g0 W k := by unfold g0 bm; omega
      rw [if_neg (nI_ge hlt (by omega)), if_pos (show nI 0 = 0 from rfl), ix_n _ (by omega) (by omega), X6_missOf_s ok' hC (by omega) hlt, ob_s, nI_clamp (by omega), hC.2.2.2.1 k (by omega), nI_add, bnd_s, show (8 : Int32) = nI 8 from rfl, pk_mul, nI_add, bnd_s, ix_n _ (by omega) (by omega), nI_clamp (by omega), Nat.mul_comm 0 8, hB 0 k ⟨hlt, by omega⟩, nI_add, bnd_s, ev]
      simp only [bnd_s]
      rw [am_step (bd k) (mi_lt (fun i _ => bd i)) (fun x y => fX6_cheapestStyle_7 n st (nI 0) x y (nI k + 1)), nI_1]
      exact ih (k + 1) (by omega) (by omega)
theorem X6_cheap_r {W : WD} {st : ST} {r p : Nat} (ok : okW W) (hC : wC W st) (hr : r + 1 < wn W) (hp : p < wS W) (h14 : st.2 14 r = nI p) (hB : fl 13 (bh W) (fun r' s' => s' < wS W ∧ r' < wn W) st) : ∀ n k : Nat, wS W - k < n → k ≤ wS W →
    fX6_cheapestStyle_7 n st (nI (r + 1)) (nI (am (g1 W (r + 1) p) k)) (oI (mi (g1 W (r + 1) p) k)) (nI k) = some (nI (am (g1 W (r + 1) p) (wS W))) := by
  have ok' := ok
  obtain ⟨o1, o2, o3, o4, o5, o6, o7⟩ := ok
  have bd : ∀ s, g1 W (r + 1) p s < 2 ^ 31 := fun s => by
    have := bm_le ok' (r + 1) s
    have := stp_le ok' (r + 1) p s
    unfold g1
    omega
  intro n
  induction n with
  | zero => intro k h; omega
  | succ n ih =>
    intro k h hk
    unfold fX6_cheapestStyle_7
    rw [hC.2.2.1]
    by_cases q : k = wS W
    · subst q
      rw [if_pos (nI_le (Nat.le_refl _) (by omega))]
    · have hlt : k < wS W := by omega
      have ev : ms W (r + 1) k + stp W (r + 1) p k + bh W (r + 1) k = g1 W (r + 1) p k := by unfold g1 bm; omega
      rw [if_neg (nI_ge hlt (by omega)), if_neg (fun z => by have := (nI_eq (a := r + 1) (b := 0) (by omega) (by omega)).mp z; omega), bnd_s, show nI (r + 1) - 1 = nI r from pk_sub (a := r + 1) (b := 1) (by omega), ix_n _ (by omega) (by omega), nI_clamp (by omega), h14, X6_step_s ok' hC (by omega) hr hp hlt, ob_s, show (8 : Int32) = nI 8 from rfl, pk_mul, nI_add, bnd_s, ix_n _ (by omega) (by omega), nI_clamp (by omega), Nat.mul_comm (r + 1) 8, hB (r + 1) k ⟨hlt, by omega⟩, nI_add, bnd_s, ev]
      simp only [bnd_s]
      rw [am_step (bd k) (mi_lt (fun i _ => bd i)) (fun x y => fX6_cheapestStyle_7 n st (nI (r + 1)) x y (nI k + 1)), nI_1]
      exact ih (k + 1) (by omega) (by omega)
theorem X6_cheap_s {W : WD} {st : ST} {r : Nat} (ok : okW W) (hC : wC W st) (hr : r < wn W) (h14 : ∀ q, q < r → st.2 14 q = nI (bs W q)) (hB : fl 13 (bh W) (fun r' s' => s' < wS W ∧ r' < wn W) st) : fX6_cheapestStyle st (nI r) = some (nI (bs W r)) := by
  unfold fX6_cheapestStyle
  cases r with
  | zero => exact X6_cheap_0 ok hC hB 1000 0 (by have := ok.2.2.2.1; omega) (by omega)
  | succ r => exact X6_cheap_r ok hC hr (bs_lt ok r) (h14 r (by omega)) hB 1000 0 (by have := ok.2.2.2.1; omega) (by omega)
theorem X6_settle_b {W : WD} (ok : okW W) : ∀ (n r : Nat) (st : ST), wn W - r < n → r ≤ wn W → wC W st → fl 13 (bh W) (fun r' s' => s' < wS W ∧ r' < wn W) st → (∀ q, q < r → st.2 14 q = nI (bs W q)) →
    ∃ st', fX6_settle_73 n st (nI r) = some st' ∧ fk 14 st st' ∧ (∀ q, q < wn W → st'.2 14 q = nI (bs W q)) := by
  have ok' := ok
  obtain ⟨o1, o2, o3, o4, o5, o6, o7⟩ := ok
  intro n
  induction n with
  | zero => intro k st h; omega
  | succ n ih =>
    intro r st h hr hC hB h14
    unfold fX6_settle_73
    rw [hC.2.1]
    by_cases q : r = wn W
    · subst q
      rw [if_pos (nI_le (Nat.le_refl _) (by omega))]
      exact ⟨st, rfl, fk_r _ _, h14⟩
    · have hlt : r < wn W := by omega
      rw [if_neg (nI_ge hlt (by omega)), X6_cheap_s ok' hC hlt h14 hB, ob_s, ix_n _ (by omega) (by omega), nI_clamp (by omega), bnd_s, bnd_s, nI_1]
      obtain ⟨st', a1, a2, a3⟩ := ih (r + 1) (setA st 14 r (nI (bs W r))) (by omega) (by omega) (wC_fk hC (fk_A st) (by decide) (by decide) (by decide) (by decide)) (fl_at hB ((fk_A st).2 13 (by decide)) (fun _ _ z => z)) (fun q hq => by
        by_cases e : q = r
        · subst e; rw [sA_ss]
        · rw [sA_sn _ _ _ e]; exact h14 q (by omega))
      exact ⟨st', a1, fk_t (fk_A st) a2, a3⟩
/-- what settle leaves alone -/
def fS (st st' : ST) : Prop := st'.1 = st.1 ∧ ∀ k, k ≠ 12 → k ≠ 13 → k ≠ 14 → st'.2 k = st.2 k
def wD (W : WD) (st : ST) : Prop := fl 12 (ah W) (fun r' s' => s' < wS W ∧ r' < wn W) st ∧ fl 13 (bh W) (fun r' s' => s' < wS W ∧ r' < wn W) st ∧ ∀ q, q < wn W → st.2 14 q = nI (bs W q)
theorem X6_settle_c {W : WD} (ok : okW W) : ∀ (n r : Nat) (st : ST), r < n → r ≤ wn W → wC W st → fl 12 (ah W) (fun r' s' => s' < wS W ∧ r' < wn W) st → fl 13 (bh W) (fun r' s' => s' < wS W ∧ r' < wn W ∧ r ≤ r') st →
    ∃ st', fX6_settle_56 n st (nI r - 1) = some st' ∧ fS st st' ∧ wD W st' := by
  have ok' := ok
  obtain ⟨o1, o2, o3, o4, o5, o6, o7⟩ := ok
  intro n
  induction n with
  | zero => intro k st h; omega
  | succ n ih =>
    intro r st h hr hC hA hB
    unfold fX6_settle_56
    cases r with
    | zero =>
      rw [if_pos (by decide)]
      obtain ⟨st', a1, a2, a3⟩ := X6_settle_b ok' 1000 0 st (by omega) (by omega) hC (fl_at hB rfl (fun _ _ z => ⟨z.1, z.2, by omega⟩)) (fun q hq => absurd hq (Nat.not_lt_zero q))
      exact ⟨st', a1, ⟨a2.1, fun k _ _ k14 => a2.2 k k14⟩, fl_at hA (a2.2 12 (by decide)) (fun _ _ z => z), fl_at hB (a2.2 13 (by decide)) (fun _ _ z => ⟨z.1, z.2, by omega⟩), a3⟩
    | succ r =>
      rw [show nI (r + 1) - 1 = nI r from pk_sub (a := r + 1) (b := 1) (by omega), if_neg (nI_pos (by omega))]
      obtain ⟨s1, g1, g2, g3⟩ := X6_behind_l ok' (show r < wn W by omega) 1000 0 st (by omega) (by omega) hC (fl_at hB rfl (fun _ _ z => ⟨z.1, z.2.1, by omega⟩))
      rw [show fX6_addUpBehind st (nI r) = _ from g1, ob_s, bnd_s]
      obtain ⟨st', a1, a2, a3⟩ := ih r s1 (by omega) (by omega) (wC_fk hC g2 (by decide) (by decide) (by decide) (by decide)) (fl_at hA (g2.2 12 (by decide)) (fun _ _ z => z)) g3
      rw [show nI r + -1 = nI r - 1 from (Int32.sub_eq_add_neg _ _).symm]
      exact ⟨st', a1, ⟨by rw [a2.1, g2.1], fun k k12 k13 k14 => by rw [a2.2 k k12 k13 k14, g2.2 k k13]⟩, a3⟩
theorem X6_settle_a {W : WD} (ok : okW W) : ∀ (n r : Nat) (st : ST), wn W - r < n → r ≤ wn W → wC W st → fl 12 (ah W) (fun r' s' => s' < wS W ∧ r' < r) st →
    ∃ st', fX6_settle_30 n st (nI r) = some st' ∧ fS st st' ∧ wD W st' := by
  have ok' := ok
  obtain ⟨o1, o2, o3, o4, o5, o6, o7⟩ := ok
  intro n
  induction n with
  | zero => intro k st h; omega
  | succ n ih =>
    intro r st h hr hC hA
    unfold fX6_settle_30
    rw [hC.2.1]
    by_cases q : r = wn W
    · subst q
      rw [if_pos (nI_le (Nat.le_refl _) (by omega)), bnd_s]
      exact X6_settle_c ok' 1000 (wn W) st (by omega) (by omega) hC hA (fun r s z => absurd z (by omega))
    · have hlt : r < wn W := by omega
      obtain ⟨s1, g1, g2, g3⟩ := X6_ahead_l ok' hlt 1000 0 st (by omega) (by omega) hC (fl_at hA rfl (fun _ _ z => ⟨z.1, by omega⟩))
      rw [if_neg (nI_ge hlt (by omega)), show fX6_addUpAhead st (nI r) = _ from g1, ob_s, bnd_s, nI_1]
      obtain ⟨st', a1, a2, a3⟩ := ih (r + 1) s1 (by omega) (by omega) (wC_fk hC g2 (by decide) (by decide) (by decide) (by decide)) g3
      exact ⟨st', a1, ⟨by rw [a2.1, g2.1], fun k k12 k13 k14 => by rw [a2.2 k k12 k13 k14, g2.2 k k12]⟩, a3⟩
theorem X6_settle_s {W : WD} {st : ST} (ok : okW W) (hT : ∀ r s, r < wn W → s < wS W → st.2 6 (8 * r + s) = sp1 (wF W r s) ∧ st.2 7 (8 * r + s) = sp2 (wF W r s)) (h10 : ∀ s, s < 8 → st.2 10 s = nI (wc W s)) (h11 : ∀ k, k < 3 → st.2 11 k = nI (wp W k)) :
    ∃ st', fX6_settle st (nI (wn W)) (nI (wS W)) = some st' ∧ (∀ k, k ≠ 13 → k ≠ 14 → st'.1 k = st.1 k) ∧ (∀ k, k ≠ 12 → k ≠ 13 → k ≠ 14 → st'.2 k = st.2 k) ∧ wC W st' ∧ wD W st' := by
  have ok' := ok
  obtain ⟨o1, o2, o3, o4, o5, o6, o7⟩ := ok
  unfold fX6_settle
  rw [if_neg (show ¬ (30 : Int32) < nI (wn W) from nI_nlt (a := 30) (by omega) (by omega)), if_pos (show (0 : Int32) < nI (wn W) from nI_lt (a := 0) (by omega) (by omega)), if_neg (show ¬ (8 : Int32) < nI (wS W) from nI_nlt (a := 8) (by omega) (by omega)), if_pos (show (0 : Int32) < nI (wS W) from nI_lt (a := 0) (by omega) (by omega)), bnd_s, bnd_s, bnd_s, bnd_s]
  have hC : wC W (setS (setS st 13 (nI (wn W))) 14 (nI (wS W))) := ⟨hT, by rw [sS_n _ _ (by decide), sS_s], sS_s _ _ _, h10, h11⟩
  obtain ⟨st', a1, a2, a3⟩ := X6_settle_a ok' 1000 0 (setS (setS st 13 (nI (wn W))) 14 (nI (wS W))) (by omega) (by omega) hC (fun r s z => absurd z.2 (Nat.not_lt_zero r))
  refine ⟨st', a1, fun k k13 k14 => by rw [a2.1, sS_n _ _ k14, sS_n _ _ k13], fun k k12 k13 k14 => by rw [a2.2 k k12 k13 k14]; rfl, ?_, a3⟩
  unfold wC
  rw [a2.1, a2.2 6 (by decide) (by decide) (by decide), a2.2 7 (by decide) (by decide) (by decide), a2.2 10 (by decide) (by decide) (by decide), a2.2 11 (by decide) (by decide) (by decide)]
  exact hC
