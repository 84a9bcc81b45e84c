theorem X3_edge_n {r s : Nat} {z : Int32} (st : ST) (hr : r < 30) (hs : s < 8) (h : z < 0 ∨ 1 < z) : fX3_edge st (nI r) (nI s) z = some (-1) := by
  unfold fX3_edge
  rw [if_neg (nI_pos (by omega)), if_neg (show ¬ (30 : Int32) ≤ nI r from nI_ge (b := 30) hr (by omega)), if_neg (nI_pos (by omega)), if_neg (show ¬ (8 : Int32) ≤ nI s from nI_ge (b := 8) hs (by omega))]
  by_cases q : z < 0
  · rw [if_pos q]
  · rw [if_neg q, if_neg (Int32.not_le.mpr (h.resolve_left q))]
theorem i01 (z : Int32) : z = 0 ∨ z = 1 ∨ (z < 0 ∨ 1 < z) := by
  rcases i_cases z with q | ⟨j, hj, rfl⟩
  · exact Or.inr (Or.inr (Or.inl q))
  · rcases (show j = 0 ∨ j = 1 ∨ 1 < j by omega) with rfl | rfl | e
    · exact Or.inl rfl
    · exact Or.inr (Or.inl rfl)
    · exact Or.inr (Or.inr (Or.inr (nI_lt (a := 1) e hj)))
theorem rd_bd (w : Nat) (ps : List (List Nat)) (c : List Nat) : bdF (fun s => rd w (ps.getD s []) c) := fun s a b e => by have := rd_lt e; omega
theorem k_read {c m : ST} (h : Rel c m) (x y z : Int32) : Same (fX8_read c x y z) (fX9_read m x y z) := by
  obtain ⟨t, ps, cs, co, pr, w, ok, hC, hM⟩ := h
  have hM0 := RM_0 hM 0
  have hRel : ∀ v, Same (some (v, c)) (some (v, setS m 0 0)) := fun v => ⟨v, c, setS m 0 0, rfl, rfl, t, ps, cs, co, pr, w, ok, hC, hM0⟩
  obtain ⟨k1, k2, k3, k4, k5, k6, k7, k8⟩ := id ok
  have lc := k4.1
  have lp := k2.1
  unfold fX8_read fX9_read
  simp only [bnd_s]
  rcases row_cm ok hC.1 hM0 x with ⟨r, hr, rfl, e1, e2⟩ | ⟨e1, e2⟩
  · rw [e1, e2, ob_s, ob_s, if_neg (show ¬ (1 : Int32) = 0 by decide), if_neg (show ¬ (1 : Int32) = 0 by decide)]
    rcases sty_cm ok hC.1 hM0 y with ⟨s, hs, rfl, e3, e4⟩ | ⟨e3, e4⟩
    · obtain ⟨c', a1, a2, a3, a4⟩ := X3_bring_c ok hC hr
      rw [e3, e4, ob_s, ob_s, if_neg (show ¬ (1 : Int32) = 0 by decide), if_neg (show ¬ (1 : Int32) = 0 by decide), hC.1.2.2.2.2.2.2.2, a1, ob_s, X9_isIn_s, ob_s]
      obtain ⟨m1, b, f1, g1, g2⟩ := X9_reads_s (st := setS m 0 0) k7 k8 (k4.2 r hr).1 (k4.2 r hr).2 k2 hs (k3 s hs) (show r < 30 by omega) (hM0.2.2.2.2.1 r hr).1 (hM0.2.2.2.2.1 r hr).2 hM0.2.2.2.2.2.2.2 hM0.2.2.1
      have hM1 : RM t ps cs co pr w m1 := RM_f hM0 (fun k z1 z2 => f1.1 k (by omega) (by omega) (by omega) (by omega)) (fun k _ _ => by rw [f1.2])
      have fin : ∀ v, Same (some (v, c')) (some (v, m1)) := fun v => ⟨v, c', m1, rfl, rfl, t, ps, cs, co, pr, w, ok, a2, hM1⟩
      rcases i01 z with rfl | rfl | q
      · rw [X3_edge_0 _ (by omega) (by omega), ob_s, (a3 s hs).1, if_neg (show ¬ ((0 : Int32) < 0 ∨ (1 : Int32) < 0) by decide), if_neg (show ¬ (1 : Int32) = 0 by decide), g1, ob_s]
        rcases g2 with ⟨q1, rfl⟩ | ⟨u, v, q1, rfl, q3, q4⟩
        · rw [q1, if_pos rfl]; exact fin _
        · rw [q1, if_neg (show ¬ (1 : Int32) = 0 by decide), if_pos rfl, q3]; exact fin _
      · rw [X3_edge_1 _ (by omega) (by omega), ob_s, (a3 s hs).2, if_neg (show ¬ ((1 : Int32) < 0 ∨ (1 : Int32) < 1) by decide), if_neg (show ¬ (1 : Int32) = 0 by decide), g1, ob_s]
        rcases g2 with ⟨q1, rfl⟩ | ⟨u, v, q1, rfl, q3, q4⟩
        · rw [q1, if_pos rfl]; exact fin _
        · rw [q1, if_neg (show ¬ (1 : Int32) = 0 by decide), if_neg (show ¬ (1 : Int32) = 0 by decide), q4]; exact fin _
      · rw [X3_edge_n _ (by omega) (by omega) q, ob_s, if_pos q, if_pos rfl]
        exact ⟨_, c', _, rfl, rfl, t, ps, cs, co, pr, w, ok, a2, hM0⟩
    · rw [e3, e4, ob_s, ob_s, if_pos rfl, if_pos rfl]; exact hRel _
  · rw [e1, e2, ob_s, ob_s, if_pos rfl, if_pos rfl]; exact hRel _
theorem k_readings {c m : ST} (h : Rel c m) (x : Int32) : Same (fX8_readings c x) (fX9_readings m x) := by
  obtain ⟨t, ps, cs, co, pr, w, ok, hC, hM⟩ := h
  have hM0 := RM_0 hM 0
  have hRel : ∀ v, Same (some (v, c)) (some (v, setS m 0 0)) := fun v => ⟨v, c, setS m 0 0, rfl, rfl, t, ps, cs, co, pr, w, ok, hC, hM0⟩
  obtain ⟨k1, k2, k3, k4, k5, k6, k7, k8⟩ := id ok
  have lc := k4.1
  have lp := k2.1
  unfold fX8_readings fX9_readings
  simp only [bnd_s]
  rcases row_cm ok hC.1 hM0 x with ⟨r, hr, rfl, e1, e2⟩ | ⟨e1, e2⟩
  · rw [e1, e2, ob_s, ob_s, if_neg (show ¬ (1 : Int32) = 0 by decide), if_neg (show ¬ (1 : Int32) = 0 by decide)]
    obtain ⟨c', a1, a2, a3, a4⟩ := X3_bring_c ok hC hr
    obtain ⟨m1, g1, g2, g3⟩ := X9_readAll_s k7 k8 k2 k3 k4 hM0.2.1 hM0.2.2.2.1 hM0.2.2.1 hM0.2.2.2.2.1 hM0.2.2.2.2.2.2.2
    have hM1 : RM t ps cs co pr w m1 := RM_f hM0 (fun k z1 z2 => g2.1 k (by omega) (by omega) (by omega) (by omega)) (fun k z1 z2 => g2.2 k (by omega) (by omega))
    have bd := rd_bd w ps (cs.getD r [])
    rw [hC.1.2.2.2.2.2.2.2, a1, ob_s, g1, ob_s, X3_unlike_s (S := ps.length) bd (by omega) lp a3 a2.1.2.1, ob_s, show fX9_readings_23 1000 m1 (nI r) 0 0 = _ from X9_readings_l (S := ps.length) bd (by omega) lp (g3 r hr) hM1.2.1 1000 0 (by omega) (by omega)]
    exact ⟨_, c', m1, rfl, rfl, t, ps, cs, co, pr, w, ok, a2, hM1⟩
  · rw [e1, e2, ob_s, ob_s, if_pos rfl, if_pos rfl]; exact hRel _
theorem k_cost {c m : ST} (h : Rel c m) : Same (fX8_cost c) (fX9_cost m) := by
  unfold fX8_cost fX9_cost
  rcases st_fi h with ⟨g, m', f, hR⟩ | ⟨t, ps, cs, co, pr, w, c', m', ok, okw, g, f, hC, hM, wc, wd, wm, we⟩
  · rw [g, f, ob_s, ob_s, if_pos rfl, if_pos rfl]; exact ⟨_, c, m', rfl, rfl, hR⟩
  · rw [g, f, ob_s, ob_s, if_neg (show ¬ (1 : Int32) = 0 by decide), if_neg (show ¬ (1 : Int32) = 0 by decide), X6_leastCost_s okw wc wd, ob_s]
    exact ⟨_, c', m', rfl, by rw [we.2.2.2]; rfl, t, ps, cs, co, pr, w, ok, hC, hM⟩
theorem k_told {c m : ST} (h : Rel c m) (x : Int32) : Same (fX8_told c x) (fX9_told m x) := by
  unfold fX8_told fX9_told
  rcases st_fi h with ⟨g, m', f, hR⟩ | ⟨t, ps, cs, co, pr, w, c', m', ok, okw, g, f, hC, hM, wc, wd, wm, we⟩
  · rw [g, f, ob_s, ob_s, if_pos rfl, if_pos rfl]; exact ⟨_, c, m', rfl, rfl, hR⟩
  · have lc := ok.2.2.2.1.1
    have fin : ∀ v, Same (some (v, c')) (some (v, m')) := fun v => ⟨v, c', m', rfl, rfl, t, ps, cs, co, pr, w, ok, hC, hM⟩
    rw [g, f, ob_s, ob_s, if_neg (show ¬ (1 : Int32) = 0 by decide), if_neg (show ¬ (1 : Int32) = 0 by decide)]
    rcases row_cm ok hC.1 hM x with ⟨r, hr, rfl, e1, e2⟩ | ⟨e1, e2⟩
    · rw [e1, e2, ob_s, ob_s, if_neg (show ¬ (1 : Int32) = 0 by decide), if_neg (show ¬ (1 : Int32) = 0 by decide), X6_styleOf_s okw wc wd hr, ob_s, ix_n _ (by omega) (by omega), nI_clamp (by omega)]
      rw [show m'.2 12 r = _ from we.2.2.1 r hr]; exact fin _
    · rw [e1, e2, ob_s, ob_s, if_pos rfl, if_pos rfl]; exact fin _
theorem k_day {c m : ST} (h : Rel c m) (x z : Int32) : Same (fX8_day c x z) (fX9_day m x z) := by
  unfold fX8_day fX9_day
  rcases st_fi h with ⟨g, m', f, hR⟩ | ⟨t, ps, cs, co, pr, w, c', m', ok, okw, g, f, hC, hM, wc, wd, wm, we⟩
  · rw [g, f, ob_s, ob_s, if_pos rfl, if_pos rfl]; exact ⟨_, c, m', rfl, rfl, hR⟩
  · have lc := ok.2.2.2.1.1
    have lp := ok.2.1.1
    have fin : ∀ v, Same (some (v, c')) (some (v, m')) := fun v => ⟨v, c', m', rfl, rfl, t, ps, cs, co, pr, w, ok, hC, hM⟩
    rw [g, f, ob_s, ob_s, if_neg (show ¬ (1 : Int32) = 0 by decide), if_neg (show ¬ (1 : Int32) = 0 by decide)]
    rcases row_cm ok hC.1 hM x with ⟨r, hr, rfl, e1, e2⟩ | ⟨e1, e2⟩
    · have hb : bs (wA ps cs co pr w) r < ps.length := bs_lt okw r
      rw [e1, e2, ob_s, ob_s, if_neg (show ¬ (1 : Int32) = 0 by decide), if_neg (show ¬ (1 : Int32) = 0 by decide), X6_styleOf_s okw wc wd hr, ob_s, X9_isIn_s, ob_s]
      rcases i01 z with rfl | rfl | q
      · rw [X3_edge_0 _ (by omega) (by omega), ob_s, if_neg (show ¬ ((0 : Int32) < 0 ∨ (1 : Int32) < 0) by decide), if_neg (show ¬ (1 : Int32) = 0 by decide), if_pos rfl, ix_n _ (by omega) (by omega), nI_clamp (by omega), show m'.2 12 r = _ from we.2.2.1 r hr, show (8 : Int32) * nI r = nI (8 * r) from pk_mul 8 r, nI_add, bnd_s, ix_n _ (by omega) (by omega), nI_clamp (by omega), (wc.1 r _ hr hb).1, (wm.1 r _ hr hb).1]
        exact fin _
      · rw [X3_edge_1 _ (by omega) (by omega), ob_s, if_neg (show ¬ ((1 : Int32) < 0 ∨ (1 : Int32) < 1) by decide), if_neg (show ¬ (1 : Int32) = 0 by decide), if_neg (show ¬ (1 : Int32) = 0 by decide), ix_n _ (by omega) (by omega), nI_clamp (by omega), show m'.2 12 r = _ from we.2.2.1 r hr, show (8 : Int32) * nI r = nI (8 * r) from pk_mul 8 r, nI_add, bnd_s, ix_n _ (by omega) (by omega), nI_clamp (by omega), (wc.1 r _ hr hb).2, (wm.1 r _ hr hb).2]
        exact fin _
      · rw [X3_edge_n _ (by omega) (by omega) q, ob_s, if_pos q, if_pos rfl]; exact fin _
    · rw [e1, e2, ob_s, ob_s, if_pos rfl, if_pos rfl]; exact fin _
theorem k_kind {c m : ST} (h : Rel c m) (x : Int32) : Same (fX8_kind c x) (fX9_kind m x) := by
  unfold fX8_kind fX9_kind
  rcases st_fi h with ⟨g, m', f, hR⟩ | ⟨t, ps, cs, co, pr, w, c', m', ok, okw, g, f, hC, hM, wc, wd, wm, we⟩
  · rw [g, f, ob_s, ob_s, if_pos rfl, if_pos rfl]; exact ⟨_, c, m', rfl, rfl, hR⟩
  · have fin : ∀ v, Same (some (v, c')) (some (v, m')) := fun v => ⟨v, c', m', rfl, rfl, t, ps, cs, co, pr, w, ok, hC, hM⟩
    rw [g, f, ob_s, ob_s, if_neg (show ¬ (1 : Int32) = 0 by decide), if_neg (show ¬ (1 : Int32) = 0 by decide)]
    rcases row_cm ok hC.1 hM x with ⟨r, hr, rfl, e1, e2⟩ | ⟨e1, e2⟩
    · rw [e1, e2, ob_s, ob_s, if_neg (show ¬ (1 : Int32) = 0 by decide), if_neg (show ¬ (1 : Int32) = 0 by decide), X8_kindOf_s okw wc wd hC.1.2.1 hr, ob_s, X9_kindOf_s okw wm we hr, ob_s]; exact fin _
    · rw [e1, e2, ob_s, ob_s, if_pos rfl, if_pos rfl]; exact fin _
theorem k_second {c m : ST} (h : Rel c m) (x : Int32) : Same (fX8_second c x) (fX9_second m x) := by
  unfold fX8_second fX9_second
  rcases st_fi h with ⟨g, m', f, hR⟩ | ⟨t, ps, cs, co, pr, w, c', m', ok, okw, g, f, hC, hM, wc, wd, wm, we⟩
  · rw [g, f, ob_s, ob_s, if_pos rfl, if_pos rfl]; exact ⟨_, c, m', rfl, rfl, hR⟩
  · have fin : ∀ v, Same (some (v, c')) (some (v, m')) := fun v => ⟨v, c', m', rfl, rfl, t, ps, cs, co, pr, w, ok, hC, hM⟩
    rw [g, f, ob_s, ob_s, if_neg (show ¬ (1 : Int32) = 0 by decide), if_neg (show ¬ (1 : Int32) = 0 by decide)]
    rcases row_cm ok hC.1 hM x with ⟨r, hr, rfl, e1, e2⟩ | ⟨e1, e2⟩
    · rw [e1, e2, ob_s, ob_s, if_neg (show ¬ (1 : Int32) = 0 by decide), if_neg (show ¬ (1 : Int32) = 0 by decide), X8_best_s okw wc wd hr, ob_s, X9_kindOf_s okw wm we hr, ob_s, X6_other_s okw wc wd hr, ob_s, X9_other_s okw wm we hr, ob_s]
      by_cases e : wF (wA ps cs co pr w) r (bs (wA ps cs co pr w) r) = none
      · rw [if_pos e, if_pos rfl, if_pos (show nI (kd (wA ps cs co pr w) r) = 3 by unfold kd; rw [if_pos e]; rfl)]; exact fin _
      · have kb : kd (wA ps cs co pr w) r < 3 := by unfold kd; rw [if_neg e]; split; decide; split <;> decide
        rw [if_neg e, if_neg (by decide), if_neg (show ¬ nI (kd (wA ps cs co pr w) r) = 3 from fun z => by have := (nI_eq (b := 3) (by omega) (by decide)).mp z; omega)]
        cases eo : ot (wA ps cs co pr w) r with
        | none => rw [if_pos (show nI ((none : Option Nat).getD 100000000) = 100000000 from rfl)]; exact fin _
        | some v =>
          have := ot_lt okw hr v eo
          rw [if_neg (show ¬ nI ((some v).getD 100000000) = 100000000 from fun z => by have := (nI_eq (a := v) (b := 100000000) (by omega) (by decide)).mp z; omega)]; exact fin _
    · rw [e1, e2, ob_s, ob_s, if_pos rfl, if_pos rfl]; exact fin _
def ck (W : WD) (x : Int32) : Nat → Nat
  | 0 => 0
  | k + 1 => ck W x k + if nI (kd W k) = x then 1 else 0
theorem X8_many_l {W : WD} {c : ST} {x : Int32} (ok : okW W) (hC : wC W c) (hD : wD W c) (h3 : c.1 3 = nI (wS W)) (h4 : c.1 4 = nI (wn W)) : ∀ N k : Nat, wn W - k < N → k ≤ wn W → fX8_many_22 N c x (nI (ck W x k)) (nI k) = some (nI (ck W x (wn W)), c) := by
  have l := ok.2.1
  intro N
  induction N with
  | zero => intro k h; omega
  | succ N ih =>
    intro k hN hk
    unfold fX8_many_22 fX5_size_c
    rw [ob_s, h4]
    by_cases q : k = wn W
    · subst q; rw [if_pos (nI_le (Nat.le_refl _) (by omega))]
    · have hlt : k < wn W := by omega
      have ih' := ih (k + 1) (by omega) (by omega)
      rw [show ck W x (k + 1) = ck W x k + if nI (kd W k) = x then 1 else 0 from rfl] at ih'
      rw [if_neg (nI_ge hlt (by omega)), X8_kindOf_s ok hC hD h3 hlt, ob_s]
      simp only [bnd_s]
      rw [nI_1, nI_1]
      by_cases e : nI (kd W k) = x
      · rw [if_pos e] at ih' ⊢; exact ih'
      · rw [if_neg e] at ih' ⊢; exact ih'
theorem X9_many_l {W : WD} {m : ST} {x : Int32} (ok : okW W) (hC : wM W m) (hE : wE W m) : ∀ N k : Nat, wn W - k < N → k ≤ wn W → fX9_many_22 N m x (nI (ck W x k)) (nI k) = some (nI (ck W x (wn W)), m) := by
  have l := ok.2.1
  intro N
  induction N with
  | zero => intro k h; omega
  | succ N ih =>
    intro k hN hk
    unfold fX9_many_22
    rw [hC.2.1]
    by_cases q : k = wn W
    · subst q; rw [if_pos (nI_le (Nat.le_refl _) (by omega))]
    · have hlt : k < wn W := by omega
      have ih' := ih (k + 1) (by omega) (by omega)
      rw [show ck W x (k + 1) = ck W x k + if nI (kd W k) = x then 1 else 0 from rfl] at ih'
      rw [if_neg (nI_ge hlt (by omega)), X9_kindOf_s ok hC hE hlt, ob_s]
      simp only [bnd_s]
      rw [nI_1, nI_1, show nI (ck W x k) + 0 = nI (ck W x k) from nI_add _ 0]
      by_cases e : nI (kd W k) = x
      · rw [if_pos e] at ih' ⊢; exact ih'
      · rw [if_neg e] at ih' ⊢; exact ih'
theorem k_many {c m : ST} (h : Rel c m) (x : Int32) : Same (fX8_many c x) (fX9_many m x) := by
  unfold fX8_many fX9_many
  have fi : ∃ b m', fX9_finds m = some (b, m') ∧ (b = 0 ∨ b = 1) ∧ Rel c m' := by
    obtain ⟨t, ps, cs, co, pr, w, ok, hC, hM⟩ := h
    obtain ⟨f0, f1⟩ := X9_finds_s ok hM
    by_cases e : ps.length = 0 ∨ cs.length = 0
    · obtain ⟨m', a1, a2⟩ := f0 e
      exact ⟨0, m', a1, Or.inl rfl, t, ps, cs, co, pr, w, ok, hC, a2⟩
    · obtain ⟨m', a1, a2, a3, a4⟩ := f1 (by omega) (by omega)
      exact ⟨1, m', a1, Or.inr rfl, t, ps, cs, co, pr, w, ok, hC, a2⟩
  have bad : (x < 0 ∨ 3 < x) → Same (some (-1, c)) (ob (fX9_finds m) fun o8 => if o8.1 = 0 then some (-1, o8.2) else ob (fX9_isIn x 0 3) fun o10 => if o10 = 0 then some (-1, o8.2) else fX9_many_22 1000 o8.2 x 0 0) := by
    intro q
    obtain ⟨b, m', f1, f2, f3⟩ := fi
    rw [f1, ob_s, X9_isIn_s, if_pos q, ob_s]
    rcases f2 with rfl | rfl
    · rw [if_pos rfl]; exact ⟨_, c, m', rfl, rfl, f3⟩
    · rw [if_neg (show ¬ (1 : Int32) = 0 by decide), if_pos rfl]; exact ⟨_, c, m', rfl, rfl, f3⟩
  by_cases q1 : x < 0
  · rw [if_pos q1]; exact bad (Or.inl q1)
  · rw [if_neg q1]
    by_cases q2 : 3 < x
    · rw [if_pos q2]; exact bad (Or.inr q2)
    · rw [if_neg q2]
      rcases st_fi h with ⟨g, m', f, hR⟩ | ⟨t, ps, cs, co, pr, w, c', m', ok, okw, g, f, hC, hM, wc, wd, wm, we⟩
      · rw [g, f, ob_s, ob_s, if_pos rfl, if_pos rfl]; exact ⟨_, c, m', rfl, rfl, hR⟩
      · have lc : wn (wA ps cs co pr w) ≤ 30 := okw.2.1
        rw [g, f, ob_s, ob_s, if_neg (show ¬ (1 : Int32) = 0 by decide), if_neg (show ¬ (1 : Int32) = 0 by decide), X9_isIn_s, if_neg (fun z => z.elim q1 q2), ob_s, if_neg (show ¬ (1 : Int32) = 0 by decide)]
        rw [show fX8_many_22 1000 c' x 0 0 = _ from X8_many_l okw wc wd hC.1.2.1 hC.1.2.2.2.1 1000 0 (by omega) (by omega), show fX9_many_22 1000 m' x 0 0 = _ from X9_many_l okw wm we 1000 0 (by omega) (by omega)]
        exact ⟨_, c', m', rfl, rfl, t, ps, cs, co, pr, w, ok, hC, hM⟩
def sc (W : WD) : Nat → Nat
  | 0 => 1
  | k + 1 => sc W k + if bs W (k + 1) = bs W k then 0 else 1
theorem X8_spans_l {W : WD} {c : ST} (ok : okW W) (hC : wC W c) (hD : wD W c) (h4 : c.1 4 = nI (wn W)) : ∀ N k : Nat, wn W - k < N → k + 1 ≤ wn W → fX8_spans_13 N c (nI (sc W k)) (nI (k + 1)) = some (nI (sc W (wn W - 1)), c) := by
  have l := ok.2.1
  have l2 := ok.2.2.2.1
  intro N
  induction N with
  | zero => intro k h; omega
  | succ N ih =>
    intro k hN hk
    unfold fX8_spans_13 fX5_size_c
    rw [ob_s, h4]
    by_cases q : k + 1 = wn W
    · rw [if_pos (nI_le (by omega) (by omega)), show wn W - 1 = k by omega]
    · have hlt : k + 1 < wn W := by omega
      have ih' := ih (k + 1) (by omega) (by omega)
      rw [show sc W (k + 1) = sc W k + if bs W (k + 1) = bs W k then 0 else 1 from rfl] at ih'
      have b1 := bs_lt ok k
      have b2 := bs_lt ok (k + 1)
      rw [if_neg (nI_ge hlt (by omega)), X6_styleOf_s ok hC hD hlt, ob_s, show nI (k + 1) - 1 = nI k from pk_sub (a := k + 1) (b := 1) (by omega), X6_styleOf_s ok hC hD (show k < wn W by omega), ob_s, eqI (by omega) (by omega)]
      simp only [bnd_s]
      rw [nI_1, nI_1]
      by_cases e : bs W (k + 1) = bs W k
      · rw [if_pos e] at ih' ⊢; exact ih'
      · rw [if_neg e] at ih' ⊢; exact ih'
theorem X9_spans_l {W : WD} {m : ST} (ok : okW W) (hC : wM W m) (hE : wE W m) : ∀ N k : Nat, wn W - k < N → k + 1 ≤ wn W → fX9_spans_13 N m (nI (sc W k)) (nI (k + 1)) = some (nI (sc W (wn W - 1)), m) := by
  have l := ok.2.1
  have l2 := ok.2.2.2.1
  intro N
  induction N with
  | zero => intro k h; omega
  | succ N ih =>
    intro k hN hk
    unfold fX9_spans_13
    rw [hC.2.1]
    by_cases q : k + 1 = wn W
    · rw [if_pos (nI_le (by omega) (by omega)), show wn W - 1 = k by omega]
    · have hlt : k + 1 < wn W := by omega
      have ih' := ih (k + 1) (by omega) (by omega)
      rw [show sc W (k + 1) = sc W k + if bs W (k + 1) = bs W k then 0 else 1 from rfl] at ih'
      have b1 := bs_lt ok k
      have b2 := bs_lt ok (k + 1)
      rw [if_neg (nI_ge hlt (by omega)), ix_n _ (by omega) (by omega), show nI (k + 1) - 1 = nI k from pk_sub (a := k + 1) (b := 1) (by omega), bnd_s, ix_n _ (by omega) (by omega), nI_clamp (by omega), nI_clamp (by omega), hE.2.2.1 (k + 1) hlt, hE.2.2.1 k (by omega), eqI (by omega) (by omega)]
      simp only [bnd_s]
      rw [nI_1, nI_1, show nI (sc W k) + 0 = nI (sc W k) from nI_add _ 0]
      by_cases e : bs W (k + 1) = bs W k
      · rw [if_pos e] at ih' ⊢; exact ih'
      · rw [if_neg e] at ih' ⊢; exact ih'
theorem k_spans {c m : ST} (h : Rel c m) : Same (fX8_spans c) (fX9_spans m) := by
  unfold fX8_spans fX9_spans
  rcases st_fi h with ⟨g, m', f, hR⟩ | ⟨t, ps, cs, co, pr, w, c', m', ok, okw, g, f, hC, hM, wc, wd, wm, we⟩
  · rw [g, f, ob_s, ob_s, if_pos rfl, if_pos rfl]; exact ⟨_, c, m', rfl, rfl, hR⟩
  · have lc : wn (wA ps cs co pr w) ≤ 30 := okw.2.1
    rw [g, f, ob_s, ob_s, if_neg (show ¬ (1 : Int32) = 0 by decide), if_neg (show ¬ (1 : Int32) = 0 by decide)]
    rw [show fX8_spans_13 1000 c' 1 1 = _ from X8_spans_l okw wc wd hC.1.2.2.2.1 1000 0 (by omega) okw.1, show fX9_spans_13 1000 m' 1 1 = _ from X9_spans_l okw wm we 1000 0 (by omega) okw.1]
    exact ⟨_, c', m', rfl, rfl, t, ps, cs, co, pr, w, ok, hC, hM⟩
theorem k_number {c m : ST} (h : Rel c m) (x y z : Int32) : ∃ v m', fX8_number c x y z = some v ∧ fX9_number m x y z = some (v, m') ∧ Rel c m' := by
  obtain ⟨t, ps, cs, co, pr, w, ok, hC, hM⟩ := h
  have hM0 := RM_0 hM 0
  have hR : Rel c (setS m 0 0) := ⟨t, ps, cs, co, pr, w, ok, hC, hM0⟩
  unfold fX8_number fX9_number
  simp only [bnd_s]
  rcases X9_isDate_s x y z with ⟨⟨a, b, e, rfl, rfl, rfl, h1, h2, h3, h4, h5, h6⟩, q⟩ | ⟨n, q⟩
  · have := ml_in b e
    rw [q, ob_s, if_neg (show ¬ (1 : Int32) = 0 by decide), X0_dayNumber_s h1 h2 h3 h4 h5 h6, ob_s, X9_numberOf_s h1 h2 h3 h4 h5 (by omega), ob_s]
    exact ⟨_, _, rfl, rfl, hR⟩
  · rw [q, ob_s, if_pos rfl, X0_dayNumber_n n, ob_s]
    exact ⟨_, _, rfl, rfl, hR⟩
theorem CC_p {t : List Nat} {ps cs : List (List Nat)} {co pr : Nat → Nat} {w : Nat} {st st' : ST} (h : CC t ps cs co pr w st) (f : fP 15 15 st st') : CC t ps cs co pr w st' :=
  ⟨RC_f h.1 (fun k h1 _ => f.1 k (by omega)) (fun k h1 => f.2 k (by omega)), RK_f h.2.1 (fun k h1 h2 => f.2 k (by omega)), RS_f h.2.2 (f.1 1 (by decide)) (f.1 13 (by decide)) (f.1 14 (by decide)) (fun k hk => f.2 k (by omega))⟩
theorem k_write {c m : ST} (h : Rel c m) (x y z : Int32) : Same (fX8_write c x y z) (fX9_write m x y z) := by
  obtain ⟨t, ps, cs, co, pr, w, ok, hC, hM⟩ := h
  have hM0 := RM_0 hM 0
  have hRel : ∀ v, Same (some (v, c)) (some (v, setS m 0 0)) := fun v => ⟨v, c, setS m 0 0, rfl, rfl, t, ps, cs, co, pr, w, ok, hC, hM0⟩
  obtain ⟨k1, k2, k3, k4, k5, k6, k7, k8⟩ := id ok
  unfold fX8_write fX9_write
  simp only [bnd_s]
  rcases X0_isDay_s x with ⟨n, hn, rfl, e1, e2⟩ | ⟨-, e1, e2⟩
  · rw [e1, e2, ob_s, ob_s, if_neg (show ¬ (1 : Int32) = 0 by decide), if_neg (show ¬ (1 : Int32) = 0 by decide)]
    rcases sty_cm ok hC.1 hM0 y with ⟨s, hs, rfl, e3, e4⟩ | ⟨e3, e4⟩
    · rw [e3, e4, ob_s, ob_s, if_neg (show ¬ (1 : Int32) = 0 by decide), if_neg (show ¬ (1 : Int32) = 0 by decide)]
      obtain ⟨d, mo, ye, hd⟩ := day_ex hn
      obtain ⟨c', a1, a2, a3⟩ := X1_setDown_s hd k2 hs (k3 s hs) hC.1.2.1 hC.1.2.2.1
      obtain ⟨m', b1, b2, b3, b4⟩ := X9_writes_s hd k2 hs (k3 s hs) hM0.2.2.1
      have hL := wrk_32 (n := n) (d := d) (m := mo) (y := ye) (k3 s hs) (k2.2 s hs).1 (Nat.le_refl _)
      have hM1 : RM t ps cs co pr w m' := RM_f hM0 (fun k z1 z2 => b2 k (by omega) (by omega) (by omega) (by omega)) (fun k z1 z2 => b3 k (by omega))
      have fin : ∀ v, Same (some (v, c')) (some (v, m')) := fun v => ⟨v, c', m', rfl, rfl, t, ps, cs, co, pr, w, ok, CC_p hC a2, hM1⟩
      rw [a1, b1, ob_s, ob_s, X1_byteAt_s a3 hL, ob_s, b4.1]
      by_cases q1 : z < 0
      · rw [if_pos q1, if_pos (Or.inl q1)]; exact fin _
      · rw [if_neg q1]
        by_cases q2 : nI (wrk n d mo ye (ps.getD s []) (ps.getD s []).length).length ≤ z
        · rw [if_pos q2, if_pos (Or.inr q2)]; exact fin _
        · obtain ⟨j, hj, rfl⟩ := nI_of q1
          have q3 : j < (wrk n d mo ye (ps.getD s []) (ps.getD s []).length).length := by
            rcases Nat.lt_or_ge j (wrk n d mo ye (ps.getD s []) (ps.getD s []).length).length with z | z
            · exact z
            · exact absurd (nI_le z hj) q2
          rw [if_neg q2, if_neg (fun z => z.elim q1 q2), ix_n _ (by omega) (by omega), nI_clamp hj, b4.2 j q3]; exact fin _
    · rw [e3, e4, ob_s, ob_s, if_pos rfl, if_pos rfl]; exact hRel _
  · rw [e1, e2, ob_s, ob_s, if_pos rfl, if_pos rfl]; exact hRel _
theorem k_same {c m : ST} (h : Rel c m) (x : Int32) : Same (fX8_same c x) (fX9_same m x) := by
  unfold fX8_same fX9_same
  rcases st_fi h with ⟨g, m', f, hR⟩ | ⟨t, ps, cs, co, pr, w, c', m', ok, okw, g, f, hC, hM, wc, wd, wm, we⟩
  · rw [g, f, ob_s, ob_s, if_pos rfl, if_pos rfl]; exact ⟨_, c, m', rfl, rfl, hR⟩
  · obtain ⟨k1, k2, k3, k4, k5, k6, k7, k8⟩ := id ok
    have lc := k4.1
    have lp := k2.1
    have fin : ∀ v, Same (some (v, c')) (some (v, m')) := fun v => ⟨v, c', m', rfl, rfl, t, ps, cs, co, pr, w, ok, hC, hM⟩
    rw [g, f, ob_s, ob_s, if_neg (show ¬ (1 : Int32) = 0 by decide), if_neg (show ¬ (1 : Int32) = 0 by decide)]
    rcases row_cm ok hC.1 hM x with ⟨r, hr, rfl, e1, e2⟩ | ⟨e1, e2⟩
    · have hb : bs (wA ps cs co pr w) r < ps.length := bs_lt okw r
      have e0 := sp1_n (okw.2.2.2.2.2.2 r (bs (wA ps cs co pr w) r))
      rw [e1, e2, ob_s, ob_s, if_neg (show ¬ (1 : Int32) = 0 by decide), if_neg (show ¬ (1 : Int32) = 0 by decide), X8_best_s okw wc wd hr, ob_s, X6_styleOf_s okw wc wd hr, ob_s, X3_edge_0 _ (by omega) (by omega), ob_s, (wc.1 r _ hr hb).1]
      simp only [bnd_s]
      rw [nI_clamp (show r < 2 ^ 31 by omega), show m'.2 12 r = _ from we.2.2.1 r hr, show (8 : Int32) * nI r = nI (8 * r) from pk_mul 8 r, nI_add, ix_n _ (show r < 30 by omega) (by omega), ix_n _ (show 8 * r + bs (wA ps cs co pr w) r < 240 by omega) (by omega), nI_clamp (show 8 * r + bs (wA ps cs co pr w) r < 2 ^ 31 by omega), (wm.1 r _ hr hb).1]
      cases e : wF (wA ps cs co pr w) r (bs (wA ps cs co pr w) r) with
      | none => rw [if_pos rfl, if_pos rfl, if_pos (show sp1 none = -1 from rfl)]; exact fin _
      | some ab =>
        obtain ⟨a, b⟩ := ab
        rw [e] at e0
        have ha : a ≤ 109572 := (rd_lt e).1
        obtain ⟨d, mo, ye, hd⟩ := day_ex ha
        obtain ⟨c1, a1, a2, a3⟩ := X1_setDown_s hd k2 hb (k3 _ hb) hC.1.2.1 hC.1.2.2.1
        obtain ⟨m1, b1, b2, b3, b4⟩ := X9_writes_s hd k2 hb (k3 _ hb) hM.2.2.1
        have hL := wrk_32 (n := a) (d := d) (m := mo) (y := ye) (k3 _ hb) (k2.2 _ hb).1 (Nat.le_refl _)
        have hB := wrk_lt hd (k2.2 _ hb).2 (Nat.le_refl _)
        have hC1 := CC_p hC a2
        have hM1 : RM t ps cs co pr w m1 := RM_f hM (fun k z1 z2 => b2 k (by omega) (by omega) (by omega) (by omega)) (fun k z1 z2 => b3 k (by omega))
        have fin1 : ∀ v, Same (some (v, c1)) (some (v, m1)) := fun v => ⟨v, c1, m1, rfl, rfl, t, ps, cs, co, pr, w, ok, hC1, hM1⟩
        have lr := (k4.2 r hr).1
        rw [if_neg (show ¬ some (a, b) = none from fun z => by cases z), if_neg (show ¬ (1 : Int32) = 0 by decide), if_neg (fun z => by rw [e0] at z; cases z), show sp1 (some (a, b)) = nI a from rfl, a1, ob_s, X1_equals_s a3 hL hB k4 hr hC1.1.2.2.2.1 hC1.1.2.2.2.2.1, ob_s, ix_n _ (show r < 30 by omega) (by omega), ix_n _ (show 8 * r + bs (wA ps cs co pr w) r < 240 by omega) (by omega), ix_n _ (show r < 30 by omega) (by omega), b1, ob_s, ix_n _ (show r < 30 by omega) (by omega), b4.1, show m1.2 6 r = _ from (hM1.2.2.2.2.1 r hr).1]
        by_cases el : (wrk a d mo ye (ps.getD (bs (wA ps cs co pr w) r) []) (ps.getD (bs (wA ps cs co pr w) r) []).length).length = (cs.getD r []).length
        · rw [if_pos (show nI _ = nI _ by rw [el]), show fX9_same_84 1000 m1 (nI r) 1 0 = _ from X9_same_l b4 hL hB k4 hr hM1.2.2.2.2.1 el 1000 0 (by omega) (by omega) (fun i hi => absurd hi (Nat.not_lt_zero i))]
          by_cases eq : wrk a d mo ye (ps.getD (bs (wA ps cs co pr w) r) []) (ps.getD (bs (wA ps cs co pr w) r) []).length = cs.getD r []
          · rw [if_pos eq, if_neg (show ¬ (1 : Int32) = 0 by decide)]; exact fin1 _
          · rw [if_neg eq, if_pos rfl]; exact fin1 _
        · rw [if_neg (fun z => el ((nI_eq (by omega) (by omega)).mp z)), show fX9_same_84 1000 m1 (nI r) 0 0 = _ from X9_same_f 999 0, if_neg (show ¬ wrk a d mo ye (ps.getD (bs (wA ps cs co pr w) r) []) (ps.getD (bs (wA ps cs co pr w) r) []).length = cs.getD r [] from fun z => el (by rw [z])), if_pos rfl]; exact fin1 _
    · rw [e1, e2, ob_s, ob_s, if_pos rfl, if_pos rfl]; exact fin _
theorem k_count {c m : ST} (h : Rel c m) (x : Int32) : ∃ v m', fX8_count c x = some v ∧ fX9_count m x = some (v, m') ∧ Rel c m' := by
  obtain ⟨t, ps, cs, co, pr, w, ok, hC, hM⟩ := h
  have hM0 := RM_0 hM 0
  have hR : Rel c (setS m 0 0) := ⟨t, ps, cs, co, pr, w, ok, hC, hM0⟩
  unfold fX8_count fX9_count fX5_size_p fX5_size_c fX4_length
  simp only [bnd_s, ob_s]
  rw [hC.1.2.1, hC.1.2.2.2.1, hC.1.1.1, hC.1.2.2.2.2.2.2.2, hM0.2.1, hM0.2.2.2.1, hM0.1.1, hM0.2.2.2.2.2.2.2]
  by_cases a0 : x = 0
  · rw [if_pos a0, if_pos a0]; exact ⟨_, _, rfl, rfl, hR⟩
  · rw [if_neg a0, if_neg a0]
    by_cases a1 : x = 1
    · rw [if_pos a1, if_pos a1]; exact ⟨_, _, rfl, rfl, hR⟩
    · rw [if_neg a1, if_neg a1]
      by_cases a2 : x = 2
      · rw [if_pos a2, if_pos a2]; exact ⟨_, _, rfl, rfl, hR⟩
      · rw [if_neg a2, if_neg a2]
        by_cases a3 : x = 3
        · rw [if_pos a3, if_pos a3]; exact ⟨_, _, rfl, rfl, hR⟩
        · rw [if_neg a3, if_neg a3]; exact ⟨_, _, rfl, rfl, hR⟩
/-- what part answers; none where it throws -/
def pV (x y : Int32) : Option Int32 := match fX0_isDay x with
  | none => none
  | some b => if b = 0 then none else if y = 0 then fX0_dayOfMonth x else if y = 1 then fX0_monthOf x else if y = 2 then fX0_yearOf x else if y = 3 then fX0_weekdayOf x else none
theorem i03 (z : Int32) : z = 0 ∨ z = 1 ∨ z = 2 ∨ z = 3 ∨ (z < 0 ∨ 3 < z) := by
  rcases i_cases z with q | ⟨j, hj, rfl⟩
  · exact Or.inr (Or.inr (Or.inr (Or.inr (Or.inl q))))
  · rcases (show j = 0 ∨ j = 1 ∨ j = 2 ∨ j = 3 ∨ 3 < j by omega) with rfl | rfl | rfl | rfl | e
    · exact Or.inl rfl
    · exact Or.inr (Or.inl rfl)
    · exact Or.inr (Or.inr (Or.inl rfl))
    · exact Or.inr (Or.inr (Or.inr (Or.inl rfl)))
    · exact Or.inr (Or.inr (Or.inr (Or.inr (Or.inr (nI_lt (a := 3) e hj)))))
theorem k_part {c m : ST} (h : Rel c m) (x y : Int32) : (∃ v m', pV x y = some v ∧ fX9_part m x y = some (v, m') ∧ m'.1 0 = 0 ∧ Rel c m') ∨ (∃ m', (fX0_isDay x = some 0 ∨ (fX0_isDay x = some 1 ∧ y ≠ 0 ∧ y ≠ 1 ∧ y ≠ 2 ∧ y ≠ 3)) ∧ fX9_part m x y = some (0, m') ∧ m'.1 0 = 1 ∧ Rel c m') := by
  obtain ⟨t, ps, cs, co, pr, w, ok, hC, hM⟩ := h
  have hR1 : Rel c (setS m 0 1) := ⟨t, ps, cs, co, pr, w, ok, hC, RM_0 hM 1⟩
  unfold fX9_part pV
  simp only [bnd_s]
  rcases X0_isDay_s x with ⟨n, hn, rfl, e1, e2⟩ | ⟨-, e1, e2⟩
  · obtain ⟨d, mo, ye, hd⟩ := day_ex hn
    obtain ⟨m', b1, b2, b3, b4, b5, b6⟩ := X9_split_s hd (setS m 0 0)
    have hM1 : RM t ps cs co pr w m' := RM_f (RM_0 hM 0) (fun k z1 z2 => b3 k (by omega) (by omega) (by omega)) (fun k _ _ => by rw [b2])
    have hR : Rel c m' := ⟨t, ps, cs, co, pr, w, ok, hC, hM1⟩
    have h0 : m'.1 0 = 0 := by rw [b3 0 (by decide) (by decide) (by decide), sS_s]
    rw [e1, e2, ob_s, if_neg (show ¬ (1 : Int32) = 0 by decide), X9_isIn_s, ob_s, sS_s, sS_s, if_neg (show ¬ (1 : Int32) ≤ 0 by decide), if_pos (show (0 : Int32) ≤ 0 by decide), b1, ob_s, b4, b5, b6, X0_dayOfMonth_s hd, X0_monthOf_s hd, X0_yearOf_s hd, X0_weekdayOf_s (by omega), show nI n - nI n / 7 * 7 = nI (n % 7) from pk_rem (by omega) (by decide) (by decide)]
    rcases i03 y with rfl | rfl | rfl | rfl | q
    · exact Or.inl ⟨_, m', rfl, rfl, h0, hR⟩
    · exact Or.inl ⟨_, m', rfl, rfl, h0, hR⟩
    · exact Or.inl ⟨_, m', rfl, rfl, h0, hR⟩
    · exact Or.inl ⟨_, m', rfl, rfl, h0, hR⟩
    · rw [if_pos q, if_pos rfl]
      refine Or.inr ⟨_, Or.inr ⟨rfl, ?_, ?_, ?_, ?_⟩, rfl, sS_s _ _ _, hR1⟩ <;> (rintro rfl; exact absurd q (by decide))
  · rw [e2, ob_s, if_pos rfl, sS_s, if_neg (show ¬ (1 : Int32) ≤ 0 by decide)]
    exact Or.inr ⟨_, Or.inl e1, rfl, sS_s _ _ _, hR1⟩
