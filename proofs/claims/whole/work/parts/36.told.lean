/-! What is told, over the ways. -/
def ot (W : WD) (r : Nat) : Option Nat := mp (fun s => decide (¬ wF W r (bs W r) = wF W r s)) (fun s => ah W r s + bh W r s) (wS W)
def le (W : WD) : Nat := mv (g0 W) (wS W)
def kd (W : WD) (r : Nat) : Nat := if wF W r (bs W r) = none then 3 else if un (wF W r) (wS W) = 1 then 0 else if ot W r = some (le W) then 2 else 1
theorem mp_lt {P : Nat → Bool} {f : Nat → Nat} {B : Nat} : ∀ {k : Nat}, (∀ i, i < k → f i < B) → ∀ x, mp P f k = some x → x < B := by
  intro k
  induction k with
  | zero => intro _ x e; cases e
  | succ k ih =>
    intro h x e
    have ih := ih (fun i hi => h i (by omega))
    unfold mp at e
    split at e
    · cases e
      cases q : mp P f k with
      | none => exact h k (by omega)
      | some y =>
        have := ih y q
        have := h k (by omega)
        show (if f k < y then f k else y) < B
        split <;> omega
    · exact ih x e
theorem le_lt {W : WD} (ok : okW W) : le W < 1000000 := by
  have h := mv_le (f := g0 W) (show 0 < wS W from ok.2.2.1)
  have h1 := bm_le ok 0 0
  have h2 := ok.2.2.2.2.1 0
  unfold g0 at h
  unfold le g0
  omega
theorem wF_bd {W : WD} (ok : okW W) (r : Nat) : bdF (wF W r) := fun s => ok.2.2.2.2.2.2 r s
theorem X6_styleOf_s {W : WD} {st : ST} {r : Nat} (ok : okW W) (hC : wC W st) (hD : wD W st) (hr : r < wn W) : fX6_styleOf st (nI r) = some (nI (bs W r)) := by
  obtain ⟨o1, o2, o3, o4, o5, o6, o7⟩ := ok
  unfold fX6_styleOf
  rw [if_neg (nI_pos (by omega)), hC.2.1, if_pos (nI_lt hr (by omega)), ix_n _ (by omega) (by omega), nI_clamp (by omega), hD.2.2 r hr]
theorem X6_through_s {W : WD} {st : ST} {r s : Nat} (ok : okW W) (hC : wC W st) (hD : wD W st) (hr : r < wn W) (hs : s < wS W) : fX6_through st (nI r) (nI s) = some (nI (ah W r s + bh W r s)) := by
  obtain ⟨o1, o2, o3, o4, o5, o6, o7⟩ := ok
  unfold fX6_through
  rw [if_neg (nI_pos (by omega)), hC.2.1, if_neg (nI_ge hr (by omega)), if_neg (nI_pos (by omega)), hC.2.2.1, if_pos (nI_lt hs (by omega)), show (8 : Int32) = nI 8 from rfl, pk_mul, nI_add, bnd_s, bnd_s, ix_n _ (by omega) (by omega), ix_n _ (by omega) (by omega), nI_clamp (by omega), Nat.mul_comm r 8, hD.1 r s ⟨hs, hr⟩, hD.2.1 r s ⟨hs, hr⟩, nI_add]
theorem X6_leastCost_s {W : WD} {st : ST} (ok : okW W) (hC : wC W st) (hD : wD W st) : fX6_leastCost st = some (nI (le W)) := by
  have ok' := ok
  obtain ⟨o1, o2, o3, o4, o5, o6, o7⟩ := ok
  unfold fX6_leastCost
  rw [show fX6_styleOf st 0 = _ from X6_styleOf_s ok' hC hD (r := 0) (by omega), ob_s, show fX6_through st 0 (nI (bs W 0)) = _ from X6_through_s ok' hC hD (r := 0) (by omega) (bs_lt ok' 0), ob_s]
  refine sn ?_
  unfold le
  rw [← (am_s (f := g0 W) (k := wS W) (by omega)).2.1]
  show wc W (bs W 0) + ms W 0 (bs W 0) + bh W 0 (bs W 0) = g0 W (bs W 0)
  unfold g0 bm
  omega
theorem wC_q {W : WD} {st : ST} {r : Nat} (hC : wC W st) (hr : r < wn W) : qC (wF W r) r (wS W) st := fun s hs => hC.1 r s hr hs
theorem wM_q {W : WD} {st : ST} {r : Nat} (hC : wM W st) (hr : r < wn W) : qM (wF W r) r (wS W) st := fun s hs => hC.1 r s hr hs
theorem th_lt {W : WD} (ok : okW W) {r : Nat} (hr : r < wn W) (s : Nat) : ah W r s + bh W r s < 1000000 := by
  have := ah_l3 ok hr s
  have := bh_le ok r s
  omega
theorem X6_other_l {W : WD} {st : ST} {r : Nat} (ok : okW W) (hC : wC W st) (hD : wD W st) (hr : r < wn W) : ∀ n k : Nat, wS W - k < n → k ≤ wS W →
    fX6_leastOtherwise_11 n st (nI r) (nI (bs W r)) (oI (mp (fun s => decide (¬ wF W r (bs W r) = wF W r s)) (fun s => ah W r s + bh W r s) k)) (nI k) = some (oI (ot W r)) := by
  have ok' := ok
  obtain ⟨o1, o2, o3, o4, o5, o6, o7⟩ := ok
  have bd := th_lt ok' hr
  intro n
  induction n with
  | zero => intro k h; omega
  | succ n ih =>
    intro k h hk
    unfold fX6_leastOtherwise_11
    rw [hC.2.2.1]
    by_cases q : k = wS W
    · subst q
      rw [if_pos (nI_le (Nat.le_refl _) (by omega))]; rfl
    · have hlt : k < wS W := by omega
      have ih' := ih (k + 1) (by omega) (by omega)
      have eu : mp (fun s => decide (¬ wF W r (bs W r) = wF W r s)) (fun s => ah W r s + bh W r s) (k + 1) = if decide (¬ wF W r (bs W r) = wF W r k) = true then some (mm (mp (fun s => decide (¬ wF W r (bs W r) = wF W r s)) (fun s => ah W r s + bh W r s) k) (ah W r k + bh W r k)) else mp (fun s => decide (¬ wF W r (bs W r) = wF W r s)) (fun s => ah W r s + bh W r s) k := rfl
      rw [eu] at ih'
      rw [if_neg (nI_ge hlt (by omega)), X3_isAlike_s (wF_bd ok' r) (by omega) o4 (wC_q hC hr) (bs_lt ok' r) hlt, ob_s, X6_through_s ok' hC hD hr hlt, ob_s]
      simp only [bnd_s]
      rw [oI_step (Nat.lt_trans (bd k) (by decide)) (mp_lt (fun i _ => Nat.lt_trans (bd i) (by decide))) (fun x => fX6_leastOtherwise_11 n st (nI r) (nI (bs W r)) x (nI k + 1)) (fun x => fX6_leastOtherwise_11 n st (nI r) (nI (bs W r)) x (nI k + 1)) rfl, nI_1]
      by_cases e : wF W r (bs W r) = wF W r k
      · rw [if_neg (by simpa using e)] at ih'
        rw [if_pos e, if_neg (by decide)]
        exact ih'
      · rw [if_pos (by simpa using e)] at ih'
        rw [if_neg e, if_pos rfl]
        exact ih'
theorem X6_other_s {W : WD} {st : ST} {r : Nat} (ok : okW W) (hC : wC W st) (hD : wD W st) (hr : r < wn W) : fX6_leastOtherwise st (nI r) = some (oI (ot W r)) := by
  unfold fX6_leastOtherwise
  rw [X6_styleOf_s ok hC hD hr, ob_s]
  exact X6_other_l ok hC hD hr 1000 0 (by have := ok.2.2.2.1; omega) (by omega)
theorem X8_best_s {W : WD} {st : ST} {r : Nat} (ok : okW W) (hC : wC W st) (hD : wD W st) (hr : r < wn W) : fX8_isReadByBest st (nI r) = some (if wF W r (bs W r) = none then 0 else 1) := by
  unfold fX8_isReadByBest
  rw [X6_styleOf_s ok hC hD hr, ob_s, X3_isRead_s (wF_bd ok r) (by have := ok.2.1; omega) ok.2.2.2.1 (wC_q hC hr) (bs_lt ok r), ob_s]
  split <;> rfl
theorem ot_lt {W : WD} (ok : okW W) {r : Nat} (hr : r < wn W) : ∀ x, ot W r = some x → x < 1000000 := fun x e => mp_lt (fun i _ => th_lt ok hr i) x e
theorem X8_kindOf_s {W : WD} {st : ST} {r : Nat} (ok : okW W) (hC : wC W st) (hD : wD W st) (h3 : st.1 3 = nI (wS W)) (hr : r < wn W) : fX8_kindOf st (nI r) = some (nI (kd W r)) := by
  have ok' := ok
  obtain ⟨o1, o2, o3, o4, o5, o6, o7⟩ := ok
  have l1 := le_lt ok'
  have l2 := ot_lt ok' hr
  unfold fX8_kindOf kd
  rw [X8_best_s ok' hC hD hr, ob_s, X3_unlike_s (wF_bd ok' r) (by omega) o4 (wC_q hC hr) h3, ob_s, X6_other_s ok' hC hD hr, ob_s, X6_leastCost_s ok' hC hD, ob_s]
  by_cases e : wF W r (bs W r) = none
  · rw [if_pos e, if_pos e, if_pos rfl]; rfl
  · rw [if_neg e, if_neg e, if_neg (by decide)]
    have un_b : ∀ (f : Nat → Option (Nat × Nat)) (k : Nat), un f k ≤ k := by
      intro f k
      induction k with
      | zero => exact Nat.le_refl _
      | succ k ih => unfold un; split <;> omega
    have ub := un_b (wF W r) (wS W)
    by_cases e1 : un (wF W r) (wS W) = 1
    · rw [if_pos (by rw [e1]; rfl), if_pos e1]; rfl
    · rw [if_neg (show ¬ nI (un (wF W r) (wS W)) = 1 from fun z => e1 ((nI_eq (b := 1) (by omega) (by omega)).mp z)), if_neg e1]
      cases e2 : ot W r with
      | none =>
        rw [if_neg (show ¬ oI none = nI (le W) from fun z => by
          have z1 : (-1 : Int32) = nI (le W) := z
          rw [m1_nI (by omega)] at z1; exact z1), if_neg (fun z => by cases z)]; rfl
      | some x =>
        have := l2 x e2
        by_cases e3 : x = le W
        · rw [e3, if_pos (show oI (some (le W)) = nI (le W) from rfl), if_pos rfl]; rfl
        · rw [if_neg (show ¬ oI (some x) = nI (le W) from fun z => e3 ((nI_eq (by omega) (by omega)).mp z)), if_neg (fun z => e3 (Option.some.inj z))]; rfl
/-! The model's. -/
theorem X9_through_s {W : WD} {st : ST} {r s : Nat} (ok : okW W) (hC : wM W st) (hE : wE W st) (hr : r < wn W) (hs : s < wS W) : fX9_through st (nI r) (nI s) = some (nI (ah W r s + bh W r s)) := by
  have ok' := ok
  obtain ⟨o1, o2, o3, o4, o5, o6, o7⟩ := ok
  unfold fX9_through
  rw [show (8 : Int32) * nI r = nI (8 * r) from pk_mul 8 r, nI_add, bnd_s, bnd_s, ix_n _ (by omega) (by omega), ix_n _ (by omega) (by omega), nI_clamp (by omega), X9_miss_s ok' hC hr hs, ob_s, hE.1 r s ⟨hs, hr⟩, hE.2.1 r s ⟨hs, hr⟩, nI_add, pk_sub (by unfold bm; omega)]
  refine sn ?_
  unfold bm
  omega
theorem X9_other_l {W : WD} {st : ST} {r : Nat} (ok : okW W) (hC : wM W st) (hE : wE W st) (hr : r < wn W) : ∀ n k : Nat, wS W - k < n → k ≤ wS W →
    fX9_other_5 n st (nI r) (nI ((mp (fun s => decide (¬ wF W r (bs W r) = wF W r s)) (fun s => ah W r s + bh W r s) k).getD 100000000)) (nI k) = some (nI ((ot W r).getD 100000000)) := by
  have ok' := ok
  obtain ⟨o1, o2, o3, o4, o5, o6, o7⟩ := ok
  have bd := th_lt ok' hr
  intro n
  induction n with
  | zero => intro k h; omega
  | succ n ih =>
    intro k h hk
    unfold fX9_other_5
    rw [hC.2.2.1]
    by_cases q : k = wS W
    · subst q
      rw [if_pos (nI_le (Nat.le_refl _) (by omega))]; rfl
    · have hlt : k < wS W := by omega
      have ih' := ih (k + 1) (by omega) (by omega)
      have eu : mp (fun s => decide (¬ wF W r (bs W r) = wF W r s)) (fun s => ah W r s + bh W r s) (k + 1) = if decide (¬ wF W r (bs W r) = wF W r k) = true then some (mm (mp (fun s => decide (¬ wF W r (bs W r) = wF W r s)) (fun s => ah W r s + bh W r s) k) (ah W r k + bh W r k)) else mp (fun s => decide (¬ wF W r (bs W r) = wF W r s)) (fun s => ah W r s + bh W r s) k := rfl
      rw [eu] at ih'
      rw [if_neg (nI_ge hlt (by omega)), ix_n _ (by omega) (by omega), nI_clamp (by omega), hE.2.2.1 r hr, X9_isSame_s (wF_bd ok' r) (by omega) o4 (wM_q hC hr) hlt (bs_lt ok' r), ob_s, X9_through_s ok' hC hE hr hlt, ob_s, mf_step (Nat.lt_trans (bd k) (by decide)) (mp_lt (fun i _ => Nat.lt_trans (bd i) (by decide)))]
      simp only [bnd_s]
      rw [nI_1]
      by_cases e : wF W r (bs W r) = wF W r k
      · rw [if_neg (by simpa using e)] at ih'
        rw [if_pos e.symm, if_neg (by decide)]
        exact ih'
      · rw [if_pos (by simpa using e)] at ih'
        rw [if_neg (show ¬ wF W r k = wF W r (bs W r) from fun z => e z.symm), if_pos rfl]
        exact ih'
theorem X9_other_s {W : WD} {st : ST} {r : Nat} (ok : okW W) (hC : wM W st) (hE : wE W st) (hr : r < wn W) : fX9_other st (nI r) = some (nI ((ot W r).getD 100000000)) :=
  X9_other_l ok hC hE hr 1000 0 (by have := ok.2.2.2.1; omega) (by omega)
theorem X9_kind_l {W : WD} {st : ST} {r : Nat} (ok : okW W) (hC : wM W st) (hE : wE W st) (hr : r < wn W) (hb : wF W r (bs W r) ≠ none) : ∀ (n k : Nat) (b : Bool), wS W - k < n → k ≤ wS W → (b = true ↔ ∀ s, s < k → wF W r s = none ∨ wF W r s = wF W r (bs W r)) →
    fX9_kindOf_26 n st (nI r) (if b = true then 1 else 0) (nI k) = some (nI (kd W r)) := by
  have ok' := ok
  obtain ⟨o1, o2, o3, o4, o5, o6, o7⟩ := ok
  have l1 := le_lt ok'
  have l2 := ot_lt ok' hr
  have ui := un_iff (bs_lt ok' r) hb
  intro n
  induction n with
  | zero => intro k b h; omega
  | succ n ih =>
    intro k b h hk hbk
    unfold fX9_kindOf_26
    rw [hC.2.2.1]
    by_cases q : k = wS W
    · subst q
      rw [if_pos (nI_le (Nat.le_refl _) (by omega)), X9_other_s ok' hC hE hr, ob_s, hE.2.2.2]
      unfold kd
      rw [if_neg hb]
      cases b with
      | true =>
        rw [if_pos rfl, if_neg (by decide), if_pos (ui.mpr (hbk.mp rfl))]; rfl
      | false =>
        rw [if_neg (show ¬ false = true by decide), if_pos rfl, if_neg (show ¬ un (wF W r) (wS W) = 1 from fun z => by have := hbk.mpr (ui.mp z); cases this)]
        show (if nI ((ot W r).getD 100000000) = nI (le W) then some 2 else some 1) = _
        cases e2 : ot W r with
        | none =>
          rw [if_neg (show ¬ nI ((none : Option Nat).getD 100000000) = nI (le W) from fun z => by have := (nI_eq (a := 100000000) (by omega) (by omega)).mp z; omega), if_neg (fun z => by cases z)]; rfl
        | some x =>
          have := l2 x e2
          by_cases e3 : x = le W
          · rw [e3, if_pos (show nI ((some (le W)).getD 100000000) = nI (le W) from rfl), if_pos rfl]; rfl
          · rw [if_neg (show ¬ nI ((some x).getD 100000000) = nI (le W) from fun z => e3 ((nI_eq (by omega) (by omega)).mp z)), if_neg (fun z => e3 (Option.some.inj z))]; rfl
    · have hlt : k < wS W := by omega
      rw [if_neg (nI_ge hlt (by omega))]
      simp only [bnd_s]
      rw [nI_1]
      cases b with
      | false =>
        have ih' := ih (k + 1) false (by omega) (by omega) ⟨fun z => absurd z (by decide), fun z => hbk.mpr (fun s hs => z s (by omega))⟩
        rw [if_neg (show ¬ false = true by decide), if_pos rfl]
        exact ih'
      | true =>
        have hall := hbk.mp rfl
        have e0 := sp1_n (o7 r k)
        rw [if_pos (show true = true from rfl), if_neg (show ¬ (1 : Int32) = 0 by decide), show (8 : Int32) * nI r = nI (8 * r) from pk_mul 8 r, nI_add, ix_n _ (by omega) (by omega), nI_clamp (by omega), (hC.1 r k hr hlt).1, ix_n _ (by omega) (by omega), nI_clamp (by omega), hE.2.2.1 r hr, X9_isSame_s (wF_bd ok' r) (by omega) o4 (wM_q hC hr) hlt (bs_lt ok' r), ob_s]
        by_cases e : wF W r k = none
        · have ih' := ih (k + 1) true (by omega) (by omega) ⟨fun _ s hs => by
            by_cases z : s = k
            · subst z; exact Or.inl e
            · exact hall s (by omega), fun _ => rfl⟩
          rw [if_pos (by rw [e0]; exact e)]
          exact ih'
        · rw [if_neg (by rw [e0]; exact e)]
          by_cases e2 : wF W r k = wF W r (bs W r)
          · have ih' := ih (k + 1) true (by omega) (by omega) ⟨fun _ s hs => by
              by_cases z : s = k
              · subst z; exact Or.inr e2
              · exact hall s (by omega), fun _ => rfl⟩
            rw [if_pos e2, if_neg (show ¬ (1 : Int32) = 0 by decide)]
            exact ih'
          · have ih' := ih (k + 1) false (by omega) (by omega) ⟨fun z => absurd z (by decide), fun z => by
              rcases z k (by omega) with z | z
              · exact absurd z e
              · exact absurd z e2⟩
            rw [if_neg e2, if_pos rfl]
            exact ih'
theorem X9_kindOf_s {W : WD} {st : ST} {r : Nat} (ok : okW W) (hC : wM W st) (hE : wE W st) (hr : r < wn W) : fX9_kindOf st (nI r) = some (nI (kd W r)) := by
  have ok' := ok
  obtain ⟨o1, o2, o3, o4, o5, o6, o7⟩ := ok
  have hb := bs_lt ok' r
  unfold fX9_kindOf
  rw [ix_n _ (by omega) (by omega), nI_clamp (by omega), hE.2.2.1 r hr, show (8 : Int32) * nI r = nI (8 * r) from pk_mul 8 r, nI_add, bnd_s, ix_n _ (by omega) (by omega), nI_clamp (by omega), (hC.1 r _ hr hb).1]
  have e0 := sp1_n (o7 r (bs W r))
  by_cases e : wF W r (bs W r) = none
  · rw [if_pos (by rw [e0]; exact e)]
    unfold kd
    rw [if_pos e]; rfl
  · rw [if_neg (by rw [e0]; exact e)]
    exact X9_kind_l ok' hC hE hr e 1000 0 true (by omega) (by omega) ⟨fun _ s hs => absurd hs (Nat.not_lt_zero s), fun _ => rfl⟩
