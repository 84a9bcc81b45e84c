/-! The calls: both answer, the same, and stay alike. -/
theorem CC_t {t t' : List Nat} {ps cs : List (List Nat)} {co pr : Nat → Nat} {w : Nat} {st st' : ST} (h : CC t ps cs co pr w st) (hT : tapC t' st') (f1 : ∀ k, k ≠ 2 → st'.1 k = st.1 k) (f2 : ∀ k, k ≠ 0 → st'.2 k = st.2 k) : CC t' ps cs co pr w st' := by
  obtain ⟨hC, hK, hS⟩ := h
  refine ⟨⟨hT, ?_⟩, RK_f hK (fun k h1 _ => f2 k (by omega)), RS_f hS (f1 1 (by decide)) (f1 13 (by decide)) (f1 14 (by decide)) (fun k hk => f2 k (by omega))⟩
  unfold txt
  rw [f1 3 (by decide), f1 4 (by decide), f1 0 (by decide), f2 1 (by decide), f2 2 (by decide), f2 3 (by decide), f2 4 (by decide), f2 10 (by decide), f2 11 (by decide)]
  exact hC.2
theorem RM_t {t t' : List Nat} {ps cs : List (List Nat)} {co pr : Nat → Nat} {w : Nat} {st st' : ST} (h : RM t ps cs co pr w st) (hT : tapM t' st') (f1 : ∀ k, k ≠ 8 → k ≠ 0 → st'.1 k = st.1 k) (f2 : ∀ k, k ≠ 1 → st'.2 k = st.2 k) : RM t' ps cs co pr w st' := by
  refine ⟨hT, ?_⟩
  unfold txt
  rw [f1 9 (by decide) (by decide), f1 10 (by decide) (by decide), f1 11 (by decide) (by decide), f2 2 (by decide), f2 3 (by decide), f2 4 (by decide), f2 5 (by decide), f2 6 (by decide), f2 7 (by decide)]
  exact h.2
theorem RM_0 {t : List Nat} {ps cs : List (List Nat)} {co pr : Nat → Nat} {w : Nat} {st : ST} (h : RM t ps cs co pr w st) (v : Int32) : RM t ps cs co pr w (setS st 0 v) := RM_f h (fun _ h1 _ => sS_n _ _ (by omega)) (fun _ _ _ => rfl)
theorem k_feed {c m : ST} (h : Rel c m) (x y : Int32) : Same (fX8_feed c x y) (fX9_feed m x y) := by
  obtain ⟨t, ps, cs, co, pr, w, ok, hC, hM⟩ := h
  obtain ⟨c', a1, a2, a3, a4⟩ := X8_feed_s hC.1.1 ok.1 x y
  obtain ⟨m', b1, b2, b3, b4⟩ := X9_feed_s hM.1 ok.1 x y
  exact ⟨_, c', m', a1, b1, fedT t x y, ps, cs, co, pr, w, ⟨okT_fed ok.1 x y, ok.2⟩, CC_t hC a2 a3 a4, RM_t hM b2 b3 b4⟩
theorem k_end {c m : ST} (h : Rel c m) (x : Int32) : Same (fX8_end c x) (fX9_end m x) := by
  obtain ⟨t, ps, cs, co, pr, w, ok, hC, hM⟩ := h
  obtain ⟨c', a1, a2, a3, a4⟩ := X8_end_s hC.1.1 ok.1.1 x
  obtain ⟨m', b1, b2, b3, b4⟩ := X9_end_s hM.1 ok.1.1 x
  exact ⟨_, c', m', a1, b1, cutT t x, ps, cs, co, pr, w, ⟨okT_cut ok.1 x, ok.2⟩, CC_t hC a2 a3 (fun _ _ => by rw [a4]), RM_t hM b2 b3 (fun _ _ => by rw [b4])⟩
theorem price_cm (x : Int32) : (∃ v : Nat, v ≤ 1000 ∧ x = nI v ∧ fX8_isPrice x = some 1 ∧ fX9_isIn x 0 1000 = some 1) ∨ (fX8_isPrice x = some 0 ∧ fX9_isIn x 0 1000 = some 0) := by
  rw [X9_isIn_s]
  unfold fX8_isPrice
  rcases i_cases x with q | ⟨j, hj, rfl⟩
  · exact Or.inr ⟨if_pos q, by rw [if_pos (Or.inl q)]⟩
  · rw [if_neg (nI_pos hj)]
    by_cases e : j ≤ 1000
    · have e' : ¬ (1000 : Int32) < nI j := nI_nlt (a := 1000) e (by omega)
      exact Or.inl ⟨j, e, rfl, if_neg e', by rw [if_neg (fun z => z.elim (nI_pos hj) e')]⟩
    · have e' : (1000 : Int32) < nI j := nI_lt (a := 1000) (by omega) hj
      exact Or.inr ⟨if_pos e', by rw [if_pos (Or.inr e')]⟩
theorem cnt_nil (c : Nat) : cnt c [] = 0 := rfl
theorem k_style {c m : ST} (h : Rel c m) (x : Int32) : Same (fX8_style c x) (fX9_style m x) := by
  obtain ⟨t, ps, cs, co, pr, w, ok, hC, hM⟩ := h
  have hM0 := RM_0 hM 0
  have hRel : ∀ v, Same (some (v, c)) (some (v, setS m 0 0)) := fun v => ⟨v, c, setS m 0 0, rfl, rfl, t, ps, cs, co, pr, w, ok, hC, hM0⟩
  obtain ⟨k1, k2, k3, k4, k5, k6, k7, k8⟩ := id ok
  have lp := k2.1
  obtain ⟨pP, pN⟩ := X4_isPattern_s hC.1.1 k1
  obtain ⟨lT, lN⟩ := X9_isPlain_s hM0.1 k1
  have mo : ∀ q, q < 128 → fX9_manyOf (setS m 0 0) (nI q) = some (nI (cnt q t)) := fun q hq => X9_manyOf_s hM0.1 k1 hq
  have c1 := cnt_le 68 t
  have c2 := cnt_le 77 t
  have c3 := cnt_le 78 t
  have c4 := cnt_le 89 t
  have c5 := cnt_le 121 t
  have c6 := cnt_le 87 t
  have ho := k1.1
  unfold fX8_style fX9_style fX5_isFull_p
  rw [hC.1.2.1, bnd_s, hM0.2.1, hM0.1.1]
  rw [show fX9_manyOf (setS m 0 0) 68 = _ from mo 68 (by decide), show fX9_manyOf (setS m 0 0) 87 = _ from mo 87 (by decide), show fX9_manyOf (setS m 0 0) 77 = _ from mo 77 (by decide), show fX9_manyOf (setS m 0 0) 78 = _ from mo 78 (by decide), show fX9_manyOf (setS m 0 0) 89 = _ from mo 89 (by decide), show fX9_manyOf (setS m 0 0) 121 = _ from mo 121 (by decide)]
  simp only [ob_s]
  rw [nI_add, nI_add]
  by_cases f : ps.length = 8
  · -- full
    rw [if_pos (show nI ps.length = 8 by rw [f]; rfl), if_neg (show ¬ nI ps.length < 8 by rw [f]; decide), ob_s, if_neg (show ¬ (1 : Int32) = 0 by decide)]
    rcases price_cm x with ⟨v, v1, v2, v3, v4⟩ | ⟨v3, v4⟩
    · rw [v3, ob_s, if_neg (by decide)]; exact hRel _
    · rw [v3, ob_s, if_pos rfl]; exact hRel _
  · rw [if_neg (show ¬ nI ps.length = 8 from fun z => f ((nI_eq (b := 8) (by omega) (by omega)).mp z)), if_pos (show nI ps.length < 8 from nI_lt (b := 8) (by omega) (by omega)), ob_s, if_pos rfl]
    rcases price_cm x with ⟨v, v1, rfl, v3, v4⟩ | ⟨v3, v4⟩
    · rw [v3, v4, ob_s, ob_s, if_neg (show ¬ (1 : Int32) = 0 by decide), if_neg (show ¬ (1 : Int32) = 0 by decide)]
      by_cases g : isPat t
      · obtain ⟨g0, g1, g2, g3, g4⟩ := id g
        have ht : t.length ≠ 0 := fun z => by
          have : t = [] := List.eq_nil_of_length_eq_zero z
          subst this
          rw [cnt_nil, cnt_nil] at g2
          cases g2
        rw [pP g, ob_s, if_neg (show ¬ (1 : Int32) = 0 by decide), if_neg (show ¬ nI t.length = 0 from fun z => ht ((nI_eq (b := 0) (by omega) (by omega)).mp z)), lT g0, ob_s, if_neg (show ¬ (1 : Int32) = 0 by decide), if_neg (show ¬ (1 : Int32) < nI (cnt 68 t) from nI_nlt (a := 1) g1 (by omega)), if_neg (show ¬ (1 : Int32) < nI (cnt 87 t) from nI_nlt (a := 1) g4 (by omega)), if_pos (show nI (cnt 77 t + cnt 78 t) = 1 by rw [g2]; rfl), if_pos (show nI (cnt 89 t + cnt 121 t) = 1 by rw [g3]; rfl)]
        obtain ⟨s1, a1, a2, a3, a4, a5, a6⟩ := X5_add_p_s hC.1.1 ho (show ps.length < 8 by omega) hC.1.2.1 k2 hC.1.2.2.1
        obtain ⟨m1, b1, b2, b3, b4, b5, b6, b7, b8⟩ := X9_style_l hM0.1 ho g0 (nI v) (show ps.length < 8 by omega) hM0.2.1 1000 0 (setS m 0 0) (by omega) (by omega) rfl (fun _ _ => rfl) (fun j => by rw [if_neg (by omega)])
        rw [a1, ob_s, show fX9_style_99 1000 (setS m 0 0) (nI v) 0 = _ from b1]
        unfold fX6_setCost
        rw [if_neg (nI_pos (by omega)), if_neg (show ¬ (8 : Int32) ≤ nI ps.length from nI_ge (b := 8) (by omega) (by omega)), ix_n _ (by omega) (by omega), nI_clamp (by omega), bnd_s, ob_s, bnd_s]
        refine ⟨_, _, m1, rfl, rfl, [], ps ++ [t], cs, (fun s => if s = ps.length then v else co s), pr, w, ⟨⟨by decide, fun b hb => by cases hb⟩, okX_add k2 (by omega) ho g0, fun s hs => ?_, k4, fun s => ?_, k6, k7, k8⟩, ⟨⟨⟨by rw [sS_n _ _ (by decide), sA_1]; exact a3.1, fun i hi => absurd hi (Nat.not_lt_zero i)⟩, by rw [sS_n _ _ (by decide), sA_1]; exact a2, txt_same a4 (by rw [sS_2, sA_n _ _ _ (by decide)]) (by rw [sS_2, sA_n _ _ _ (by decide)]), ?_, txt_same hC.1.2.2.2.2.1 (by rw [sS_2, sA_n _ _ _ (by decide), a6 4 (by decide) (by decide)]) (by rw [sS_2, sA_n _ _ _ (by decide), a6 3 (by decide) (by decide)]), fun s hs => ?_, fun k hk => ?_, ?_⟩, fun r hr => ?_, Or.inl (sS_s _ _ _)⟩, ⟨b3, by rw [List.length_append]; exact b2, txt_add hM0.2.2.1 k2 b6 b7, ?_, txt_same hM0.2.2.2.2.1 (b5 6 (by decide) (by decide) (by decide)) (b5 3 (by decide) (by decide) (by decide)), fun s hs => ?_, fun k hk => ?_, ?_⟩⟩
        · rw [List.length_append, List.length_singleton] at hs
          by_cases e : s = ps.length
          · subst e; rw [gL_r]; exact g
          · rw [gL_l (by omega)]; exact k3 s (by omega)
        · show (if s = ps.length then v else co s) ≤ 1000
          split
          · exact v1
          · exact k5 s
        · rw [sS_n _ _ (by decide), sA_1, a5 4 (by decide) (by decide)]; exact hC.1.2.2.2.1
        · show (setA s1 10 ps.length (nI v)).2 10 s = nI (if s = ps.length then v else co s)
          by_cases e : s = ps.length
          · rw [if_pos e, e, sA_ss]
          · rw [if_neg e, sA_sn _ _ _ e, a6 10 (by decide) (by decide)]; exact hC.1.2.2.2.2.2.1 s hs
        · rw [sS_2, sA_n _ _ _ (by decide), a6 11 (by decide) (by decide)]; exact hC.1.2.2.2.2.2.2.1 k hk
        · rw [sS_n _ _ (by decide), sA_1, a5 0 (by decide) (by decide)]; exact hC.1.2.2.2.2.2.2.2
        · obtain ⟨k, q1, q2, q3⟩ := hC.2.1 r hr
          refine ⟨k, by rw [List.length_append]; omega, by rw [sS_2, sA_n _ _ _ (by decide), a6 8 (by decide) (by decide)]; exact q2, ?_⟩
          rcases q3 with q3 | ⟨v, v1, v2, v3, v4⟩
          · exact Or.inl q3
          · refine Or.inr ⟨v, v1, v2, by rw [sS_2, sA_n _ _ _ (by decide), a6 9 (by decide) (by decide)]; exact v3, fun s hs => ?_⟩
            rw [sS_2, sA_n _ _ _ (by decide), sA_n _ _ _ (by decide), a6 6 (by decide) (by decide), a6 7 (by decide) (by decide), gL_l (by omega)]
            exact v4 s hs
        · rw [b4 10 (by decide) (by decide)]; exact hM0.2.2.2.1
        · rw [b8]
          show upd (m.2 5) ps.length (nI v) s = nI (if s = ps.length then v else co s)
          by_cases e : s = ps.length
          · rw [if_pos e, e]; exact pk_us
          · rw [if_neg e, pk_un e]; exact hM0.2.2.2.2.2.1 s hs
        · rw [b5 7 (by decide) (by decide) (by decide)]; exact hM0.2.2.2.2.2.2.1 k hk
        · rw [b4 11 (by decide) (by decide)]; exact hM0.2.2.2.2.2.2.2
      · rw [pN g, ob_s, if_pos rfl]
        by_cases ht : t.length = 0
        · rw [ht, if_pos (show nI 0 = 0 from rfl)]; exact hRel _
        · rw [if_neg (show ¬ nI t.length = 0 from fun z => ht ((nI_eq (b := 0) (by omega) (by omega)).mp z))]
          by_cases g0 : plain t
          · rw [lT g0, ob_s, if_neg (show ¬ (1 : Int32) = 0 by decide)]
            by_cases g1 : cnt 68 t ≤ 1
            · rw [if_neg (show ¬ (1 : Int32) < nI (cnt 68 t) from nI_nlt (a := 1) g1 (by omega))]
              by_cases g4 : cnt 87 t ≤ 1
              · rw [if_neg (show ¬ (1 : Int32) < nI (cnt 87 t) from nI_nlt (a := 1) g4 (by omega))]
                by_cases g2 : cnt 77 t + cnt 78 t = 1
                · rw [if_pos (show nI (cnt 77 t + cnt 78 t) = 1 by rw [g2]; rfl)]
                  by_cases g3 : cnt 89 t + cnt 121 t = 1
                  · exact absurd ⟨g0, g1, g2, g3, g4⟩ g
                  · rw [if_neg (show ¬ nI (cnt 89 t + cnt 121 t) = 1 from fun z => g3 ((nI_eq (b := 1) (by omega) (by omega)).mp z))]; exact hRel _
                · rw [if_neg (show ¬ nI (cnt 77 t + cnt 78 t) = 1 from fun z => g2 ((nI_eq (b := 1) (by omega) (by omega)).mp z))]; exact hRel _
              · rw [if_pos (show (1 : Int32) < nI (cnt 87 t) from nI_lt (a := 1) (by omega) (by omega))]; exact hRel _
            · rw [if_pos (show (1 : Int32) < nI (cnt 68 t) from nI_lt (a := 1) (by omega) (by omega))]; exact hRel _
          · rw [lN g0, ob_s, if_pos rfl]; exact hRel _
    · rw [v3, v4, ob_s, ob_s, if_pos rfl, if_pos rfl]; exact hRel _
theorem k_row {c m : ST} (h : Rel c m) : Same (fX8_row c) (fX9_row m) := by
  obtain ⟨t, ps, cs, co, pr, w, ok, hC, hM⟩ := h
  have hM0 := RM_0 hM 0
  have hRel : ∀ v, Same (some (v, c)) (some (v, setS m 0 0)) := fun v => ⟨v, c, setS m 0 0, rfl, rfl, t, ps, cs, co, pr, w, ok, hC, hM0⟩
  obtain ⟨k1, k2, k3, k4, k5, k6, k7, k8⟩ := id ok
  have lc := k4.1
  have ho := k1.1
  obtain ⟨pP, pN⟩ := X4_isText_s hC.1.1 k1
  obtain ⟨lT, lN⟩ := X9_isPlain_s hM0.1 k1
  unfold fX8_row fX9_row fX5_isFull_c
  rw [hC.1.2.2.2.1, bnd_s, hM0.2.2.2.1]
  by_cases f : cs.length = 30
  · rw [if_pos (show nI cs.length = 30 by rw [f]; rfl), if_neg (show ¬ nI cs.length < 30 by rw [f]; decide), ob_s, if_neg (show ¬ (1 : Int32) = 0 by decide)]; exact hRel _
  · rw [if_neg (show ¬ nI cs.length = 30 from fun z => f ((nI_eq (b := 30) (by omega) (by omega)).mp z)), if_pos (show nI cs.length < 30 from nI_lt (b := 30) (by omega) (by omega)), ob_s, if_pos rfl]
    by_cases g : plain t
    · rw [pP g, lT g, ob_s, ob_s, if_neg (show ¬ (1 : Int32) = 0 by decide), if_neg (show ¬ (1 : Int32) = 0 by decide)]
      obtain ⟨s1, a1, a2, a3, a4, a5, a6⟩ := X5_add_c_s hC.1.1 ho (show cs.length < 30 by omega) hC.1.2.2.2.1 k4 hC.1.2.2.2.2.1
      obtain ⟨m1, b1, b2, b3, b4, b5, b6, b7⟩ := X9_row_l hM0.1 ho g (show cs.length < 30 by omega) hM0.2.2.2.1 1000 0 (setS m 0 0) (by omega) (by omega) rfl (fun _ _ => rfl) (fun j => by rw [if_neg (by omega)])
      rw [a1, ob_s, show fX9_row_25 1000 (setS m 0 0) 0 = _ from b1]
      unfold fX3_forget
      rw [if_neg (nI_pos (by omega)), if_neg (show ¬ (30 : Int32) ≤ nI cs.length from nI_ge (b := 30) (by omega) (by omega)), ix_n _ (by omega) (by omega), nI_clamp (by omega), bnd_s, ob_s, bnd_s]
      refine ⟨_, _, m1, rfl, rfl, [], ps, cs ++ [t], co, pr, w, ⟨⟨by decide, fun b hb => by cases hb⟩, k2, k3, okX_add k4 (by omega) ho g, k5, k6, k7, k8⟩, ⟨⟨⟨by rw [sS_n _ _ (by decide), sA_1]; exact a3.1, fun i hi => absurd hi (Nat.not_lt_zero i)⟩, ?_, txt_same hC.1.2.2.1 (by rw [sS_2, sA_n _ _ _ (by decide), a6 2 (by decide) (by decide)]) (by rw [sS_2, sA_n _ _ _ (by decide), a6 1 (by decide) (by decide)]), by rw [sS_n _ _ (by decide), sA_1]; exact a2, txt_same a4 (by rw [sS_2, sA_n _ _ _ (by decide)]) (by rw [sS_2, sA_n _ _ _ (by decide)]), fun s hs => ?_, fun k hk => ?_, ?_⟩, fun r hr => ?_, Or.inl (sS_s _ _ _)⟩, ⟨b3, ?_, txt_same hM0.2.2.1 (b5 4 (by decide) (by decide)) (b5 2 (by decide) (by decide)), by rw [List.length_append]; exact b2, txt_add hM0.2.2.2.2.1 k4 b6 b7, fun s hs => ?_, fun k hk => ?_, ?_⟩⟩
      · rw [sS_n _ _ (by decide), sA_1, a5 3 (by decide) (by decide)]; exact hC.1.2.1
      · rw [sS_2, sA_n _ _ _ (by decide), a6 10 (by decide) (by decide)]; exact hC.1.2.2.2.2.2.1 s hs
      · rw [sS_2, sA_n _ _ _ (by decide), a6 11 (by decide) (by decide)]; exact hC.1.2.2.2.2.2.2.1 k hk
      · rw [sS_n _ _ (by decide), sA_1, a5 0 (by decide) (by decide)]; exact hC.1.2.2.2.2.2.2.2
      · rw [List.length_append, List.length_singleton] at hr
        by_cases e : r = cs.length
        · exact ⟨0, Nat.zero_le _, by rw [sS_2, e, sA_ss]; rfl, Or.inl rfl⟩
        · obtain ⟨k, q1, q2, q3⟩ := hC.2.1 r (by omega)
          refine ⟨k, q1, by rw [sS_2, sA_sn _ _ _ e, a6 8 (by decide) (by decide)]; exact q2, ?_⟩
          rcases q3 with q3 | ⟨v, v1, v2, v3, v4⟩
          · exact Or.inl q3
          · refine Or.inr ⟨v, v1, v2, by rw [sS_2, sA_n _ _ _ (by decide), a6 9 (by decide) (by decide)]; exact v3, fun s hs => ?_⟩
            rw [sS_2, sA_n _ _ _ (by decide), sA_n _ _ _ (by decide), a6 6 (by decide) (by decide), a6 7 (by decide) (by decide), gL_l (by omega)]
            exact v4 s hs
      · rw [b4 9 (by decide) (by decide)]; exact hM0.2.1
      · rw [b5 5 (by decide) (by decide)]; exact hM0.2.2.2.2.2.1 s hs
      · rw [b5 7 (by decide) (by decide)]; exact hM0.2.2.2.2.2.2.1 k hk
      · rw [b4 11 (by decide) (by decide)]; exact hM0.2.2.2.2.2.2.2
    · rw [pN g, lN g, ob_s, ob_s, if_pos rfl, if_pos rfl]; exact hRel _
theorem k_clear {c m : ST} (h : Rel c m) : ∃ c' m', fX8_clear c = some c' ∧ fX9_clear m = some m' ∧ Rel c' m' := by
  obtain ⟨t, ps, cs, co, pr, w, ok, hC, hM⟩ := h
  obtain ⟨k1, k2, k3, k4, k5, k6, k7, k8⟩ := id ok
  have n0 : ∀ r : Nat, ¬ r < ([] : List (List Nat)).length := fun r => Nat.not_lt_zero r
  unfold fX8_clear fX9_clear fX5_removeAll_c
  rw [bnd_s, ob_s, bnd_s, bnd_s, bnd_s]
  refine ⟨_, _, rfl, rfl, t, ps, [], co, pr, w, ⟨k1, k2, k3, ⟨by decide, fun r hr => absurd hr (n0 r)⟩, k5, k6, k7, k8⟩, ⟨⟨?_, ?_, hC.1.2.2.1, ?_, fun r hr => absurd hr (n0 r), hC.1.2.2.2.2.2.1, hC.1.2.2.2.2.2.2.1, ?_⟩, fun r hr => absurd hr (n0 r), Or.inl (sS_s _ _ _)⟩, ⟨?_, ?_, hM.2.2.1, sS_s _ _ _, fun r hr => absurd hr (n0 r), hM.2.2.2.2.2.1, hM.2.2.2.2.2.2.1, ?_⟩⟩
  · exact ⟨by rw [sS_n _ _ (by decide), sS_n _ _ (by decide)]; exact hC.1.1.1, hC.1.1.2⟩
  · rw [sS_n _ _ (by decide), sS_n _ _ (by decide)]; exact hC.1.2.1
  · rw [sS_n _ _ (by decide), sS_s]; rfl
  · rw [sS_n _ _ (by decide), sS_n _ _ (by decide)]; exact hC.1.2.2.2.2.2.2.2
  · exact ⟨by rw [sS_n _ _ (by decide), sS_n _ _ (by decide)]; exact hM.1.1, hM.1.2⟩
  · rw [sS_n _ _ (by decide), sS_n _ _ (by decide)]; exact hM.2.1
  · rw [sS_n _ _ (by decide), sS_n _ _ (by decide)]; exact hM.2.2.2.2.2.2.2
theorem k_window {c m : ST} (h : Rel c m) (x : Int32) : Same (fX8_window c x) (fX9_window m x) := by
  obtain ⟨t, ps, cs, co, pr, w, ok, hC, hM⟩ := h
  have hM0 := RM_0 hM 0
  have hRel : ∀ v, Same (some (v, c)) (some (v, setS m 0 0)) := fun v => ⟨v, c, setS m 0 0, rfl, rfl, t, ps, cs, co, pr, w, ok, hC, hM0⟩
  obtain ⟨k1, k2, k3, k4, k5, k6, k7, k8⟩ := id ok
  unfold fX8_window fX9_window
  simp only [bnd_s]
  rw [X9_isIn_s, ob_s]
  by_cases e1 : x < 1900
  · rw [if_pos e1, if_pos (Or.inl e1), if_pos rfl]; exact hRel _
  · rw [if_neg e1]
    obtain ⟨j, hj, rfl⟩ : ∃ j : Nat, j < 2 ^ 31 ∧ x = nI j := by
      rcases i_cases x with q | q
      · exact absurd (neg_lt q 1900 (by decide)) e1
      · exact q
    have j1 : 1900 ≤ j := by
      rcases Nat.lt_or_ge j 1900 with z | z
      · exact absurd (show nI j < 1900 from nI_lt (b := 1900) z (by decide)) e1
      · exact z
    by_cases e2 : j ≤ 2100
    · rw [if_pos (show nI j ≤ 2100 from nI_le (b := 2100) e2 (by decide)), if_neg (show ¬ (nI j < 1900 ∨ 2100 < nI j) from fun z => z.elim e1 (nI_nlt (a := 2100) e2 (by decide))), if_neg (show ¬ (1 : Int32) = 0 by decide)]
      refine ⟨_, _, _, rfl, rfl, t, ps, cs, co, pr, j, ⟨k1, k2, k3, k4, k5, k6, j1, e2⟩, ⟨⟨?_, ?_, hC.1.2.2.1, ?_, hC.1.2.2.2.2.1, hC.1.2.2.2.2.2.1, hC.1.2.2.2.2.2.2.1, ?_⟩, hC.2.1, Or.inl (sS_s _ _ _)⟩, ⟨?_, ?_, hM.2.2.1, ?_, hM.2.2.2.2.1, hM.2.2.2.2.2.1, hM.2.2.2.2.2.2.1, sS_s _ _ _⟩⟩
      · exact ⟨by rw [sS_n _ _ (by decide), sS_n _ _ (by decide)]; exact hC.1.1.1, hC.1.1.2⟩
      · rw [sS_n _ _ (by decide), sS_n _ _ (by decide)]; exact hC.1.2.1
      · rw [sS_n _ _ (by decide), sS_n _ _ (by decide)]; exact hC.1.2.2.2.1
      · rw [sS_n _ _ (by decide), sS_s]
      · exact ⟨by rw [sS_n _ _ (by decide), sS_n _ _ (by decide)]; exact hM.1.1, hM.1.2⟩
      · rw [sS_n _ _ (by decide), sS_n _ _ (by decide)]; exact hM.2.1
      · rw [sS_n _ _ (by decide), sS_n _ _ (by decide)]; exact hM.2.2.2.1
    · have e3 : (2100 : Int32) < nI j := nI_lt (a := 2100) (by omega) hj
      rw [if_neg (show ¬ nI j ≤ 2100 from nI_ge (a := 2100) (by omega) hj), if_pos (Or.inr e3), if_pos rfl]; exact hRel _
theorem X6_setPrice_s (c : ST) (x y : Int32) : ((x < 0 ∨ 2 < x) ∧ fX6_setPrice c x y = some (0, c)) ∨ ∃ j : Nat, j ≤ 2 ∧ x = nI j ∧ fX6_setPrice c x y = some (1, setA c 11 j y) := by
  unfold fX6_setPrice
  rcases i_cases x with q | ⟨j, hj, rfl⟩
  · exact Or.inl ⟨Or.inl q, if_pos q⟩
  · rw [if_neg (nI_pos hj)]
    rcases Nat.lt_or_ge 2 j with e | e
    · exact Or.inl ⟨Or.inr (nI_lt (a := 2) e hj), if_neg (show ¬ nI j < 3 from nI_nlt (b := 3) (by omega) hj)⟩
    · refine Or.inr ⟨j, e, rfl, ?_⟩
      rw [if_pos (show nI j < 3 from nI_lt (b := 3) (by omega) (by decide)), ix_n _ (by omega) (by omega), nI_clamp hj, bnd_s]
theorem k_price {c m : ST} (h : Rel c m) (x y : Int32) : Same (fX8_price c x y) (fX9_price m x y) := by
  obtain ⟨t, ps, cs, co, pr, w, ok, hC, hM⟩ := h
  have hM0 := RM_0 hM 0
  have hRel : ∀ v, Same (some (v, c)) (some (v, setS m 0 0)) := fun v => ⟨v, c, setS m 0 0, rfl, rfl, t, ps, cs, co, pr, w, ok, hC, hM0⟩
  obtain ⟨k1, k2, k3, k4, k5, k6, k7, k8⟩ := id ok
  unfold fX8_price fX9_price
  simp only [bnd_s]
  rcases X6_setPrice_s c x y with ⟨q, e⟩ | ⟨j, hj, rfl, e⟩
  · rw [e, X9_isIn_s, if_pos q, ob_s, ob_s, if_pos rfl, if_pos rfl]
    rcases price_cm y with ⟨v, v1, rfl, v3, v4⟩ | ⟨v3, v4⟩
    · rw [v3, ob_s, if_neg (by decide)]; exact hRel _
    · rw [v3, ob_s, if_pos rfl]; exact hRel _
  · rw [e, X9_isIn_s (nI j), if_neg (show ¬ (nI j < 0 ∨ 2 < nI j) from fun z => z.elim (nI_pos (by omega)) (nI_nlt (a := 2) hj (by decide))), ob_s, ob_s, if_neg (show ¬ (1 : Int32) = 0 by decide), if_neg (show ¬ (1 : Int32) = 0 by decide), ix_n _ (by omega) (by omega), nI_clamp (by omega)]
    rcases price_cm y with ⟨v, v1, rfl, v3, v4⟩ | ⟨v3, v4⟩
    · rw [v3, v4, ob_s, ob_s, if_neg (show ¬ (1 : Int32) = 0 by decide), if_neg (show ¬ (1 : Int32) = 0 by decide)]
      refine ⟨_, _, _, rfl, rfl, t, ps, cs, co, (fun k => if k = j then v else pr k), w, ⟨k1, k2, k3, k4, k5, fun k => ?_, k7, k8⟩, ⟨⟨?_, ?_, hC.1.2.2.1, ?_, hC.1.2.2.2.2.1, hC.1.2.2.2.2.2.1, fun k hk => ?_, ?_⟩, hC.2.1, Or.inl (sS_s _ _ _)⟩, ⟨?_, ?_, hM.2.2.1, ?_, hM.2.2.2.2.1, hM.2.2.2.2.2.1, fun k hk => ?_, ?_⟩⟩
      · show (if k = j then v else pr k) ≤ 1000
        split
        · exact v1
        · exact k6 k
      · exact ⟨by rw [sS_n _ _ (by decide)]; exact hC.1.1.1, hC.1.1.2⟩
      · rw [sS_n _ _ (by decide)]; exact hC.1.2.1
      · rw [sS_n _ _ (by decide)]; exact hC.1.2.2.2.1
      · show (setA c 11 j (nI v)).2 11 k = nI (if k = j then v else pr k)
        by_cases z : k = j
        · rw [if_pos z, z, sA_ss]
        · rw [if_neg z, sA_sn _ _ _ z]; exact hC.1.2.2.2.2.2.2.1 k hk
      · rw [sS_n _ _ (by decide)]; exact hC.1.2.2.2.2.2.2.2
      · exact hM0.1
      · exact hM0.2.1
      · exact hM0.2.2.2.1
      · show (setA (setS m 0 0) 7 j (nI v)).2 7 k = nI (if k = j then v else pr k)
        by_cases z : k = j
        · rw [if_pos z, z, sA_ss]
        · rw [if_neg z, sA_sn _ _ _ z]; exact hM0.2.2.2.2.2.2.1 k hk
      · exact hM0.2.2.2.2.2.2.2
    · rw [v3, v4, ob_s, ob_s, if_pos rfl, if_pos rfl]; exact hRel _
