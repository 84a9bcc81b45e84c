/-! What class and model hold in common. -/
def okA (t : List Nat) (ps cs : List (List Nat)) (co pr : Nat → Nat) (w : Nat) : Prop := okT t ∧ okX 8 ps ∧ (∀ s, s < ps.length → isPat (ps.getD s [])) ∧ okX 30 cs ∧ (∀ s, co s ≤ 1000) ∧ (∀ k, pr k ≤ 1000) ∧ 1900 ≤ w ∧ w ≤ 2100
def wA (ps cs : List (List Nat)) (co pr : Nat → Nat) (w : Nat) : WD := (fun r s => rd w (ps.getD s []) (cs.getD r []), co, pr, cs.length, ps.length)
theorem okW_A {t : List Nat} {ps cs : List (List Nat)} {co pr : Nat → Nat} {w : Nat} (h : okA t ps cs co pr w) (hp : 0 < ps.length) (hc : 0 < cs.length) : okW (wA ps cs co pr w) :=
  ⟨hc, h.2.2.2.1.1, hp, h.2.1.1, h.2.2.2.2.1, h.2.2.2.2.2.1, fun r s a b e => by have := rd_lt e; omega⟩
def RC (t : List Nat) (ps cs : List (List Nat)) (co pr : Nat → Nat) (w : Nat) (st : ST) : Prop := tapC t st ∧ st.1 3 = nI ps.length ∧ txt ps 2 1 st ∧ st.1 4 = nI cs.length ∧ txt cs 4 3 st ∧ (∀ s, s < 8 → st.2 10 s = nI (co s)) ∧ (∀ k, k < 3 → st.2 11 k = nI (pr k)) ∧ st.1 0 = nI w
def RK (ps cs : List (List Nat)) (st : ST) : Prop := ∀ r, r < cs.length → chR ps cs r st
def RS (ps cs : List (List Nat)) (co pr : Nat → Nat) (w : Nat) (st : ST) : Prop := st.1 1 = 0 ∨ (st.1 1 = 1 ∧ 0 < ps.length ∧ 0 < cs.length ∧ wC (wA ps cs co pr w) st ∧ wD (wA ps cs co pr w) st)
def CC (t : List Nat) (ps cs : List (List Nat)) (co pr : Nat → Nat) (w : Nat) (st : ST) : Prop := RC t ps cs co pr w st ∧ RK ps cs st ∧ RS ps cs co pr w st
def RM (t : List Nat) (ps cs : List (List Nat)) (co pr : Nat → Nat) (w : Nat) (st : ST) : Prop := tapM t st ∧ st.1 9 = nI ps.length ∧ txt ps 4 2 st ∧ st.1 10 = nI cs.length ∧ txt cs 6 3 st ∧ (∀ s, s < 8 → st.2 5 s = nI (co s)) ∧ (∀ k, k < 3 → st.2 7 k = nI (pr k)) ∧ st.1 11 = nI w
def Rel (c m : ST) : Prop := ∃ t ps cs co pr w, okA t ps cs co pr w ∧ CC t ps cs co pr w c ∧ RM t ps cs co pr w m
def Same (a b : Option (Int32 × ST)) : Prop := ∃ v c m, a = some (v, c) ∧ b = some (v, m) ∧ Rel c m
theorem RC_f {t : List Nat} {ps cs : List (List Nat)} {co pr : Nat → Nat} {w : Nat} {st st' : ST} (h : RC t ps cs co pr w st) (f1 : ∀ k, k ≤ 4 → k ≠ 1 → st'.1 k = st.1 k) (f2 : ∀ k, (k ≤ 4 ∨ k = 10 ∨ k = 11) → st'.2 k = st.2 k) : RC t ps cs co pr w st' := by
  unfold RC tapC txt
  rw [f1 0 (by decide) (by decide), f1 2 (by decide) (by decide), f1 3 (by decide) (by decide), f1 4 (by decide) (by decide), f2 0 (by decide), f2 1 (by decide), f2 2 (by decide), f2 3 (by decide), f2 4 (by decide), f2 10 (by decide), f2 11 (by decide)]
  exact h
theorem RK_f {ps cs : List (List Nat)} {st st' : ST} (h : RK ps cs st) (f : ∀ k, 6 ≤ k → k ≤ 9 → st'.2 k = st.2 k) : RK ps cs st' := by
  unfold RK chR tb1
  rw [f 6 (by decide) (by decide), f 7 (by decide) (by decide), f 8 (by decide) (by decide), f 9 (by decide) (by decide)]
  exact h
theorem wD_f {W : WD} {st st' : ST} (h : wD W st) (f : ∀ k, 12 ≤ k → k ≤ 14 → st'.2 k = st.2 k) : wD W st' := by
  unfold wD fl
  rw [f 12 (by decide) (by decide), f 13 (by decide) (by decide), f 14 (by decide) (by decide)]
  exact h
theorem RS_f {ps cs : List (List Nat)} {co pr : Nat → Nat} {w : Nat} {st st' : ST} (h : RS ps cs co pr w st) (f1 : st'.1 1 = st.1 1) (f13 : st'.1 13 = st.1 13) (f14 : st'.1 14 = st.1 14) (f : ∀ k, (k = 6 ∨ k = 7 ∨ (10 ≤ k ∧ k ≤ 14)) → st'.2 k = st.2 k) : RS ps cs co pr w st' := by
  unfold RS wC wD fl
  rw [f1, f13, f14, f 6 (by decide), f 7 (by decide), f 10 (by decide), f 11 (by decide), f 12 (by decide), f 13 (by decide), f 14 (by decide)]
  exact h
theorem RM_f {t : List Nat} {ps cs : List (List Nat)} {co pr : Nat → Nat} {w : Nat} {st st' : ST} (h : RM t ps cs co pr w st) (f1 : ∀ k, 8 ≤ k → k ≤ 11 → st'.1 k = st.1 k) (f2 : ∀ k, 1 ≤ k → k ≤ 7 → st'.2 k = st.2 k) : RM t ps cs co pr w st' := by
  unfold RM tapM txt
  rw [f1 8 (by decide) (by decide), f1 9 (by decide) (by decide), f1 10 (by decide) (by decide), f1 11 (by decide) (by decide), f2 1 (by decide) (by decide), f2 2 (by decide) (by decide), f2 3 (by decide) (by decide), f2 4 (by decide) (by decide), f2 5 (by decide) (by decide), f2 6 (by decide) (by decide), f2 7 (by decide) (by decide)]
  exact h
theorem X3_bring_c {t : List Nat} {ps cs : List (List Nat)} {co pr : Nat → Nat} {w r : Nat} {st : ST} (ok : okA t ps cs co pr w) (h : CC t ps cs co pr w st) (hr : r < cs.length) : ∃ st', fX3_bring st (nI r) (nI w) = some st' ∧ CC t ps cs co pr w st' ∧ tb1 w ps cs r ps.length st' ∧ fB r st st' := by
  obtain ⟨k1, k2, k3, k4, k5, k6, k7, k8⟩ := ok
  obtain ⟨hC, hK, hS⟩ := h
  have lp := k2.1
  obtain ⟨st', a1, a2, a3, a4, a5⟩ := X3_bring_s k7 k8 k2 k4 hr hC.2.1 hC.2.2.1 hC.2.2.2.1 hC.2.2.2.2.1 (hK r hr)
  refine ⟨st', a1, ⟨RC_f hC (fun k hk _ => a2.1 k (by omega)) (fun k hk => a2.2.1 k (by omega) (by omega) (by omega) (by omega) (by omega)), fun q hq => ?_, ?_⟩, a3, a2⟩
  · by_cases e : q = r
    · subst e
      exact ⟨ps.length, Nat.le_refl _, a4, Or.inr ⟨w, k7, k8, a5, a3⟩⟩
    · obtain ⟨k, q1, q2, q3⟩ := hK q hq
      refine ⟨k, q1, by rw [(a2.2.2.2 q e).1]; exact q2, ?_⟩
      rcases q3 with q3 | ⟨v, v1, v2, v3, v4⟩
      · exact Or.inl q3
      · refine Or.inr ⟨v, v1, v2, by rw [(a2.2.2.2 q e).2]; exact v3, fun s hs => ?_⟩
        rw [(a2.2.2.1 (8 * q + s) (by omega)).1, (a2.2.2.1 (8 * q + s) (by omega)).2]
        exact v4 s hs
  · rcases hS with e | ⟨e, p1, p2, p3, p4⟩
    · exact Or.inl (by rw [a2.1 1 (by omega)]; exact e)
    · refine Or.inr ⟨by rw [a2.1 1 (by omega)]; exact e, p1, p2, ⟨fun q s hq hs => ?_, by rw [a2.1 13 (by omega)]; exact p3.2.1, by rw [a2.1 14 (by omega)]; exact p3.2.2.1, by rw [a2.2.1 10 (by decide) (by decide) (by decide) (by decide) (by decide)]; exact p3.2.2.2.1, by rw [a2.2.1 11 (by decide) (by decide) (by decide) (by decide) (by decide)]; exact p3.2.2.2.2⟩, wD_f p4 (fun k h1 h2 => a2.2.1 k (by omega) (by omega) (by omega) (by omega) (by omega))⟩
      have hs' : s < ps.length := hs
      by_cases e2 : q = r
      · subst e2; exact a3 s hs
      · rw [(a2.2.2.1 (8 * q + s) (by omega)).1, (a2.2.2.1 (8 * q + s) (by omega)).2]
        exact p3.1 q s hq hs
theorem X8_settle_l {t : List Nat} {ps cs : List (List Nat)} {co pr : Nat → Nat} {w : Nat} (ok : okA t ps cs co pr w) (hp : 0 < ps.length) (hc : 0 < cs.length) : ∀ (N r : Nat) (st : ST), cs.length - r < N → r ≤ cs.length → CC t ps cs co pr w st → (∀ q, q < r → tb1 w ps cs q ps.length st) →
    ∃ st', fX8_settle_31 N st (nI r) = some (1, st') ∧ CC t ps cs co pr w st' ∧ wC (wA ps cs co pr w) st' ∧ wD (wA ps cs co pr w) st' := by
  have lc := ok.2.2.2.1.1
  have lp := ok.2.1.1
  intro N
  induction N with
  | zero => intro r st h; omega
  | succ N ih =>
    intro r st hN hr h ht
    unfold fX8_settle_31 fX5_size_c fX5_size_p
    obtain ⟨hC, hK, hS⟩ := id h
    rw [ob_s, ob_s, ob_s, hC.2.2.2.1, hC.2.1]
    by_cases q : r = cs.length
    · subst q
      obtain ⟨st', a1, a2, a3, a4, a5⟩ := X6_settle_s (okW_A ok hp hc) (st := st) (fun r s hr hs => ht r hr s hs) hC.2.2.2.2.2.1 hC.2.2.2.2.2.2.1
      rw [if_pos (nI_le (Nat.le_refl _) (by omega)), show fX6_settle st (nI cs.length) (nI ps.length) = _ from a1, ob_s, bnd_s]
      have b4 : wC (wA ps cs co pr w) (setS st' 1 1) := ⟨a4.1, by rw [sS_n _ _ (by decide)]; exact a4.2.1, by rw [sS_n _ _ (by decide)]; exact a4.2.2.1, a4.2.2.2.1, a4.2.2.2.2⟩
      exact ⟨_, rfl, ⟨RC_f hC (fun k h1 h2 => by rw [sS_n _ _ h2, a2 k (by omega) (by omega)]) (fun k hk => by rw [sS_2, a3 k (by omega) (by omega) (by omega)]), RK_f hK (fun k h1 h2 => by rw [sS_2, a3 k (by omega) (by omega) (by omega)]), Or.inr ⟨sS_s _ _ _, hp, hc, b4, a5⟩⟩, b4, a5⟩
    · have hlt : r < cs.length := by omega
      obtain ⟨s1, g1, g2, g3, g4⟩ := X3_bring_c ok h hlt
      rw [if_neg (nI_ge hlt (by omega)), hC.2.2.2.2.2.2.2, g1, ob_s, bnd_s, nI_1]
      exact ih (r + 1) s1 (by omega) (by omega) g2 (fun q hq => by
        by_cases e : q = r
        · subst e; exact g3
        · intro s hs
          rw [(g4.2.2.1 (8 * q + s) (by omega)).1, (g4.2.2.1 (8 * q + s) (by omega)).2]
          exact ht q (by omega) s hs)
theorem X8_settle_s {t : List Nat} {ps cs : List (List Nat)} {co pr : Nat → Nat} {w : Nat} {st : ST} (ok : okA t ps cs co pr w) (h : CC t ps cs co pr w st) : ((ps.length = 0 ∨ cs.length = 0) ∧ fX8_settle st = some (0, st)) ∨ (0 < ps.length ∧ 0 < cs.length ∧ ∃ st', fX8_settle st = some (1, st') ∧ CC t ps cs co pr w st' ∧ wC (wA ps cs co pr w) st' ∧ wD (wA ps cs co pr w) st') := by
  have lc := ok.2.2.2.1.1
  have lp := ok.2.1.1
  obtain ⟨hC, hK, hS⟩ := id h
  unfold fX8_settle fX5_size_c fX5_size_p
  rw [ob_s, ob_s, hC.2.1, hC.2.2.2.1]
  by_cases e1 : ps.length = 0
  · exact Or.inl ⟨Or.inl e1, by rw [e1, if_pos (show nI 0 = 0 from rfl)]⟩
  · rw [if_neg (show ¬ nI ps.length = 0 from fun z => e1 ((nI_eq (b := 0) (by omega) (by omega)).mp z))]
    by_cases e2 : cs.length = 0
    · exact Or.inl ⟨Or.inr e2, by rw [e2, if_pos (show nI 0 = 0 from rfl)]⟩
    · rw [if_neg (show ¬ nI cs.length = 0 from fun z => e2 ((nI_eq (b := 0) (by omega) (by omega)).mp z))]
      refine Or.inr ⟨by omega, by omega, ?_⟩
      rcases hS with e | ⟨e, p1, p2, p3, p4⟩
      · rw [if_pos e]
        exact X8_settle_l ok (by omega) (by omega) 1000 0 st (by omega) (by omega) h (fun q hq => absurd hq (Nat.not_lt_zero q))
      · rw [if_neg (by rw [e]; decide)]
        exact ⟨st, rfl, h, p3, p4⟩
theorem X9_finds_s {t : List Nat} {ps cs : List (List Nat)} {co pr : Nat → Nat} {w : Nat} {st : ST} (ok : okA t ps cs co pr w) (h : RM t ps cs co pr w st) : ((ps.length = 0 ∨ cs.length = 0) → ∃ st', fX9_finds st = some (0, st') ∧ RM t ps cs co pr w st') ∧ (0 < ps.length → 0 < cs.length → ∃ st', fX9_finds st = some (1, st') ∧ RM t ps cs co pr w st' ∧ wM (wA ps cs co pr w) st' ∧ wE (wA ps cs co pr w) st') := by
  have lc := ok.2.2.2.1.1
  have lp := ok.2.1.1
  have h0 : RM t ps cs co pr w (setS st 0 0) := RM_f h (fun k h1 _ => sS_n _ _ (by omega)) (fun _ _ _ => rfl)
  obtain ⟨k1, k2, k3, k4, k5, k6, k7, k8⟩ := id ok
  unfold fX9_finds
  rw [bnd_s, h0.2.1, h0.2.2.2.1]
  constructor
  · intro e
    by_cases e1 : ps.length = 0
    · rw [e1, if_pos (show nI 0 = 0 from rfl)]; exact ⟨_, rfl, h0⟩
    · have e2 : cs.length = 0 := by omega
      rw [if_neg (show ¬ nI ps.length = 0 from fun z => e1 ((nI_eq (b := 0) (by omega) (by omega)).mp z)), e2, if_pos (show nI 0 = 0 from rfl)]
      exact ⟨_, rfl, h0⟩
  · intro hp hc
    rw [if_neg (show ¬ nI ps.length = 0 from fun z => by have := (nI_eq (b := 0) (by omega) (by omega)).mp z; omega), if_neg (show ¬ nI cs.length = 0 from fun z => by have := (nI_eq (b := 0) (by omega) (by omega)).mp z; omega)]
    obtain ⟨s1, g1, g2, g3⟩ := X9_readAll_s k7 k8 k2 k3 k4 h0.2.1 h0.2.2.2.1 h0.2.2.1 h0.2.2.2.2.1 h0.2.2.2.2.2.2.2
    rw [g1, ob_s]
    have h1 : RM t ps cs co pr w s1 := RM_f h0 (fun k z1 z2 => g2.1 k (by omega) (by omega) (by omega) (by omega)) (fun k z1 z2 => g2.2 k (by omega) (by omega))
    have hM : wM (wA ps cs co pr w) s1 := ⟨fun r s hr hs => g3 r hr s hs, h1.2.2.2.1, h1.2.1, h1.2.2.2.2.2.1, h1.2.2.2.2.2.2.1⟩
    obtain ⟨st', a1, a2, a3⟩ := X9_finds_a (okW_A ok hp hc) 1000 0 s1 (by show cs.length - 0 < 1000; omega) (by omega) hM (fun r s z => absurd z.2 (Nat.not_lt_zero r))
    refine ⟨st', a1, RM_f h1 (fun k z1 z2 => a2.1 k (by omega)) (fun k z1 z2 => a2.2 k (by omega) (by omega) (by omega)), ?_, a3⟩
    unfold wM
    rw [a2.1 10 (by decide), a2.1 9 (by decide), a2.2 8 (by decide) (by decide) (by decide), a2.2 9 (by decide) (by decide) (by decide), a2.2 5 (by decide) (by decide) (by decide), a2.2 7 (by decide) (by decide) (by decide)]
    exact hM
/-- settle and finds: there is none, or both have all -/
theorem st_fi {c m : ST} (h : Rel c m) : (fX8_settle c = some (0, c) ∧ ∃ m', fX9_finds m = some (0, m') ∧ Rel c m') ∨ ∃ t ps cs co pr w c' m', okA t ps cs co pr w ∧ okW (wA ps cs co pr w) ∧ fX8_settle c = some (1, c') ∧ fX9_finds m = some (1, m') ∧ CC t ps cs co pr w c' ∧ RM t ps cs co pr w m' ∧ wC (wA ps cs co pr w) c' ∧ wD (wA ps cs co pr w) c' ∧ wM (wA ps cs co pr w) m' ∧ wE (wA ps cs co pr w) m' := by
  obtain ⟨t, ps, cs, co, pr, w, ok, hC, hM⟩ := h
  obtain ⟨f0, f1⟩ := X9_finds_s ok hM
  rcases X8_settle_s ok hC with ⟨e, g⟩ | ⟨hp, hc, c', g1, g2, g3, g4⟩
  · obtain ⟨m', a1, a2⟩ := f0 e
    exact Or.inl ⟨g, m', a1, t, ps, cs, co, pr, w, ok, hC, a2⟩
  · obtain ⟨m', a1, a2, a3, a4⟩ := f1 hp hc
    exact Or.inr ⟨t, ps, cs, co, pr, w, c', m', ok, okW_A ok hp hc, g1, a1, g2, a2, g3, g4, a3, a4⟩
theorem row_cm {t : List Nat} {ps cs : List (List Nat)} {co pr : Nat → Nat} {w : Nat} {c m : ST} (ok : okA t ps cs co pr w) (hC : RC t ps cs co pr w c) (hM : RM t ps cs co pr w m) (x : Int32) : (∃ r, r < cs.length ∧ x = nI r ∧ fX5_has_c c x = some 1 ∧ fX9_isRow m x = some 1) ∨ (fX5_has_c c x = some 0 ∧ fX9_isRow m x = some 0) := by
  have lc := ok.2.2.2.1.1
  unfold fX9_isRow
  rw [hM.2.2.2.1]
  rcases X5_has_c_s hC.2.2.2.1 lc x with ⟨r, h1, rfl, h3⟩ | ⟨h1, h3⟩
  · exact Or.inl ⟨r, h1, rfl, h3, by rw [if_neg (nI_pos (by omega)), if_neg (nI_ge h1 (by omega))]⟩
  · refine Or.inr ⟨h3, ?_⟩
    by_cases q : x < 0
    · rw [if_pos q]
    · rw [if_neg q, if_pos (h1.resolve_left q)]
theorem sty_cm {t : List Nat} {ps cs : List (List Nat)} {co pr : Nat → Nat} {w : Nat} {c m : ST} (ok : okA t ps cs co pr w) (hC : RC t ps cs co pr w c) (hM : RM t ps cs co pr w m) (x : Int32) : (∃ s, s < ps.length ∧ x = nI s ∧ fX5_has_p c x = some 1 ∧ fX9_isIn x 0 (m.1 9 - 1) = some 1) ∨ (fX5_has_p c x = some 0 ∧ fX9_isIn x 0 (m.1 9 - 1) = some 0) := by
  have lp := ok.2.1.1
  rw [X9_isIn_s, hM.2.1]
  rcases X5_has_p_s hC.2.1 lp x with ⟨s, h1, rfl, h3⟩ | ⟨h1, h3⟩
  · refine Or.inl ⟨s, h1, rfl, h3, ?_⟩
    rw [show nI ps.length - 1 = nI (ps.length - 1) from pk_sub (a := ps.length) (b := 1) (by omega), if_neg (fun z => by
      rcases z with z | z
      · exact nI_pos (by omega) z
      · exact nI_nlt (a := ps.length - 1) (b := s) (by omega) (by omega) z)]
  · refine Or.inr ⟨h3, ?_⟩
    rcases i_cases x with q | ⟨j, hj, rfl⟩
    · rw [if_pos (Or.inl q)]
    · rcases h1 with h1 | h1
      · exact absurd h1 (nI_pos hj)
      · rw [if_pos (Or.inr ?_)]
        rw [nI_leI (by omega) hj] at h1
        by_cases e : ps.length = 0
        · rw [e]; exact of_eq_true (m1_lt hj)
        · rw [show nI ps.length - 1 = nI (ps.length - 1) from pk_sub (a := ps.length) (b := 1) (by omega)]
          exact nI_lt (by omega) hj
