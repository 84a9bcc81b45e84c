/-! The model's reads. -/
def fR (st st' : ST) : Prop := (∀ j, j ≠ 15 → j ≠ 16 → j ≠ 17 → j ≠ 18 → st'.1 j = st.1 j) ∧ st'.2 = st.2
theorem fR_fm {a b : ST} (h : fm a b) : fR a b := ⟨fun j _ _ h3 _ => h.1 j h3, h.2⟩
theorem fR_tr {a b c : ST} (h1 : fR a b) (h2 : fR b c) : fR a c := ⟨fun j k1 k2 k3 k4 => by rw [h2.1 j k1 k2 k3 k4, h1.1 j k1 k2 k3 k4], by rw [h2.2, h1.2]⟩
theorem fR_rf (a : ST) : fR a a := ⟨fun _ _ _ _ _ => rfl, rfl⟩
theorem k2_in (c : List Nat) (i : Nat) : 1 ≤ k2 c i ∧ k2 c i ≤ 2 := by unfold k2; split <;> omega
/-- digits of a day or a month: two if there are two -/
theorem X9_dm {row : Nat} {c : List Nat} (hc : c.length ≤ 24) (hp : plain c) {i : Nat} {st : ST} (hi : i ≤ c.length) (hm : mC row c st) (ha : st.1 17 = nI i) : ∃ (r : Int32) (st1 : ST), fm st st1 ∧
    (∀ K : Int32 × ST → Option (Int32 × ST), (ob (fX9_isDigit st (st.1 17)) fun o => if o = 0 then ob (fX9_digits st 1) K else ob (fX9_isDigit st (st.1 17 + 1)) fun o' => if o' = 0 then ob (fX9_digits st 1) K else ob (fX9_digits st 2) K) = K (r, st1)) ∧
    ((tD c (k2 c i) i 0 = none ∧ r = -1) ∨ ∃ v, tD c (k2 c i) i 0 = some v ∧ r = nI v ∧ st1.1 17 = nI (i + k2 c i)) := by
  have d1 := X9_isDigit_s hc hp hm (j := i) (by omega)
  have d2 := X9_isDigit_s hc hp hm (j := i + 1) (by omega)
  by_cases q1 : dig (c.getD i 0) = true
  · rw [if_pos q1] at d1
    by_cases q2 : dig (c.getD (i + 1) 0) = true
    · rw [if_pos q2] at d2
      have ek : k2 c i = 2 := by unfold k2; rw [if_pos q2]
      obtain ⟨st1, f1, g⟩ := X9_digits_s hc hp (k := 2) (by omega) hi hm ha
      rw [ek]
      rcases g with ⟨g1, g2⟩ | ⟨v, g1, g2, g3⟩
      · refine ⟨-1, st1, f1, fun K => ?_, Or.inl ⟨g1, rfl⟩⟩
        rw [ha, d1, ob_s, if_neg (by decide), nI_1, d2, ob_s, if_neg (by decide), show fX9_digits st 2 = _ from g2, ob_s]
      · refine ⟨nI v, st1, f1, fun K => ?_, Or.inr ⟨v, g1, rfl, g3⟩⟩
        rw [ha, d1, ob_s, if_neg (by decide), nI_1, d2, ob_s, if_neg (by decide), show fX9_digits st 2 = _ from g2, ob_s]
    · rw [if_neg q2] at d2
      have ek : k2 c i = 1 := by unfold k2; rw [if_neg q2]
      obtain ⟨st1, f1, g⟩ := X9_digits_s hc hp (k := 1) (by omega) hi hm ha
      rw [ek]
      rcases g with ⟨g1, g2⟩ | ⟨v, g1, g2, g3⟩
      · refine ⟨-1, st1, f1, fun K => ?_, Or.inl ⟨g1, rfl⟩⟩
        rw [ha, d1, ob_s, if_neg (by decide), nI_1, d2, ob_s, if_pos rfl, show fX9_digits st 1 = _ from g2, ob_s]
      · refine ⟨nI v, st1, f1, fun K => ?_, Or.inr ⟨v, g1, rfl, g3⟩⟩
        rw [ha, d1, ob_s, if_neg (by decide), nI_1, d2, ob_s, if_pos rfl, show fX9_digits st 1 = _ from g2, ob_s]
  · rw [if_neg q1] at d1
    obtain ⟨st1, f1, g⟩ := X9_digits_s hc hp (k := 1) (by omega) hi hm ha
    have e1 : tD c 1 i 0 = none := by unfold tD; rw [if_neg q1]
    have e2 : tD c (k2 c i) i 0 = none := by
      obtain ⟨z, hz⟩ : ∃ z, k2 c i = z + 1 := ⟨k2 c i - 1, by have := k2_in c i; omega⟩
      rw [hz]; unfold tD; rw [if_neg q1]
    rcases g with ⟨g1, g2⟩ | ⟨v, g1, g2, g3⟩
    · refine ⟨-1, st1, f1, fun K => ?_, Or.inl ⟨e2, rfl⟩⟩
      rw [ha, d1, ob_s, if_pos rfl, show fX9_digits st 1 = _ from g2, ob_s]
    · rw [e1] at g1; cases g1
/-- the end of a pattern -/
theorem X9_fin_s {win row : Nat} {c : List Nat} {st : ST} {i : Nat} {d m y w : Option Nat} (hc : c.length ≤ 24) (hm0 : mC row c st) (ha : st.1 17 = nI i) (hi : i ≤ c.length) (hd : o5 d) (hm : o5 m) (hy : o5 y) (hw : ∀ v, w = some v → v < 7) (d0 : d ≠ some 0) (x7 : Int32) (F : Option (Int32 × ST)) (hF : F = (ix (nI row) 30 <| if (st.1 17) = (st.2 6 (Int32.toNatClampNeg (nI row))) then (
        ob (fX9_isDate (if 1 < nI (d.getD 0) then nI (d.getD 0) else 1) (nI (m.getD 0)) (nI (y.getD 0))) fun o10 =>
        if o10 = 0 then some (0, st) else
          ob (fX9_numberOf (if 1 < nI (d.getD 0) then nI (d.getD 0) else 1) (nI (m.getD 0)) (nI (y.getD 0))) fun o12 =>
          bnd (setS st 15 o12) fun s13 =>
          if nI (d.getD 0) = 0 then (
            ob (fX9_daysOf (nI (m.getD 0)) (nI (y.getD 0))) fun o19 =>
            bnd ((((s13.1 15) + o19) - 1) : Int32) fun x20 =>
            bnd (setS s13 16 x20) fun s21 =>
            if nI (w.getD 7) = 7 then some (1, s21) else
              if ((s21.1 15) - (s21.1 15) / 7 * 7) = nI (w.getD 7) then some (1, s21) else some (0, s21)) else (
            bnd ((s13.1 15) : Int32) fun x15 =>
            bnd (setS s13 16 x15) fun s16 =>
            if nI (w.getD 7) = 7 then some (1, s16) else
              if ((s16.1 15) - (s16.1 15) / 7 * 7) = nI (w.getD 7) then some (1, s16) else some (0, s16))) else some (0, st))) :
    ∃ st' r, fR st st' ∧ F = some (r, st') ∧ ((rdl win c [] i d m y w = none ∧ r = 0) ∨ ∃ a b, rdl win c [] i d m y w = some (a, b) ∧ r = 1 ∧ st'.1 15 = nI a ∧ st'.1 16 = nI b) := by
  subst hF
  have er : rdl win c [] i d m y w = if i = c.length then fin d m y w else none := rfl
  rw [er, ix_n _ hm0.1 (by omega), nI_clamp (by have := hm0.1; omega), hm0.2.2.1, ha]
  by_cases e : i = c.length
  · rw [if_pos (congrArg nI e), if_pos e]
    have hdv : d.getD 0 < 100000 := by
      cases d with
      | none => decide
      | some v => exact hd v rfl
    have hmv : m.getD 0 < 100000 := by
      cases m with
      | none => decide
      | some v => exact hm v rfl
    have hyv : y.getD 0 < 100000 := by
      cases y with
      | none => decide
      | some v => exact hy v rfl
    have hd1 : (if 1 < nI (d.getD 0) then nI (d.getD 0) else 1) = nI (d.getD 1) := by
      cases d with
      | none => rfl
      | some v =>
        show (if 1 < nI v then nI v else 1) = nI v
        have : v ≠ 0 := fun z => d0 (by rw [z])
        have hv := hd v rfl
        by_cases q : 1 < v
        · rw [if_pos (show (1 : Int32) < nI v from nI_lt (a := 1) q (by omega))]
        · rw [if_neg (show ¬ (1 : Int32) < nI v from nI_nlt (a := 1) (by omega) (by omega))]
          have : v = 1 := by omega
          rw [this]; rfl
    have hd1v : d.getD 1 < 100000 := by
      cases d with
      | none => decide
      | some v => exact hd v rfl
    rw [hd1]
    have bad : ¬ vd (d.getD 1) (m.getD 0) (y.getD 0) = true → fin d m y w = none := by
      intro hv
      cases m with
      | none => rfl
      | some m =>
        cases y with
        | none => rfl
        | some y =>
          show (if vd (d.getD 1) m y = true ∧ _ then _ else none) = none
          rw [if_neg (fun z => hv z.1)]
    rcases X9_isDate_s (nI (d.getD 1)) (nI (m.getD 0)) (nI (y.getD 0)) with ⟨h1, h2⟩ | ⟨h1, h2⟩
    · rw [isD_vd (by omega) (by omega) (by omega)] at h1
      have em : ∃ b, m = some b := by
        cases m with
        | none => exact absurd h1 vd_m0
        | some b => exact ⟨b, rfl⟩
      have ey : ∃ b, y = some b := by
        cases y with
        | none => exact absurd h1 vd_y0
        | some b => exact ⟨b, rfl⟩
      obtain ⟨b, rfl⟩ := em
      obtain ⟨z, rfl⟩ := ey
      simp only [Option.getD_some] at h1 h2 hmv hyv ⊢
      rw [h2, ob_s, if_neg (by decide)]
      have hv := h1
      unfold vd at hv
      rw [decide_eq_true_iff] at hv
      obtain ⟨v1, v2, v3, v4, v5, v6⟩ := hv
      have hn := num_le v1 v2 v3 v4 v5 v6
      have hl := ml_in b z
      rw [X9_numberOf_s v1 v2 v3 v4 v5 (by omega), ob_s, bnd_s]
      have ef : fin d (some b) (some z) w = if vd (d.getD 1) b z = true ∧ (w = none ∨ w = some (num (d.getD 1) b z % 7)) then some (num (d.getD 1) b z, if d = none then num (d.getD 1) b z + ml b z - 1 else num (d.getD 1) b z) else none := rfl
      have w7 : (nI (w.getD 7) = 7) = (w = none) := by
        cases w with
        | none => exact propext ⟨fun _ => rfl, fun _ => rfl⟩
        | some v =>
          have := hw v rfl
          refine propext ⟨fun q => ?_, fun q => by cases q⟩
          rw [show (7 : Int32) = nI 7 from rfl, show (some v : Option Nat).getD 7 = v from rfl, nI_eq (by omega) (by omega)] at q
          omega
      have wq : ∀ n : Nat, n < 2 ^ 31 → w ≠ none → ((nI n - nI n / 7 * 7 = nI (w.getD 7)) = (w = some (n % 7))) := by
        intro n hn hw0
        rw [show (7 : Int32) = nI 7 from rfl, pk_rem hn (by decide) (by decide)]
        cases w with
        | none => exact absurd rfl hw0
        | some v =>
          have := hw v rfl
          rw [show (some v : Option Nat).getD 7 = v from rfl]
          refine propext ⟨fun q => ?_, fun q => by cases q; rfl⟩
          rw [nI_eq (by omega) (by omega)] at q
          rw [q]
      have fin2 : ∀ L : Nat, (if d = none then num (d.getD 1) b z + ml b z - 1 else num (d.getD 1) b z) = L → ∃ st' r, fR st st' ∧ (if nI (w.getD 7) = 7 then some ((1 : Int32), setS (setS st 15 (nI (num (d.getD 1) b z))) 16 (nI L)) else if (((setS (setS st 15 (nI (num (d.getD 1) b z))) 16 (nI L)).1 15) - ((setS (setS st 15 (nI (num (d.getD 1) b z))) 16 (nI L)).1 15) / 7 * 7) = nI (w.getD 7) then some (1, setS (setS st 15 (nI (num (d.getD 1) b z))) 16 (nI L)) else some (0, setS (setS st 15 (nI (num (d.getD 1) b z))) 16 (nI L))) = some (r, st') ∧ ((fin d (some b) (some z) w = none ∧ r = 0) ∨ ∃ a q, fin d (some b) (some z) w = some (a, q) ∧ r = 1 ∧ st'.1 15 = nI a ∧ st'.1 16 = nI q) := by
        intro L hL
        have f2 : fR st (setS (setS st 15 (nI (num (d.getD 1) b z))) 16 (nI L)) := ⟨fun j k1 k2 _ _ => by rw [sS_n _ _ k2, sS_n _ _ k1], rfl⟩
        have e15 : (setS (setS st 15 (nI (num (d.getD 1) b z))) 16 (nI L)).1 15 = nI (num (d.getD 1) b z) := by rw [sS_n _ _ (by decide), sS_s]
        have e16 : (setS (setS st 15 (nI (num (d.getD 1) b z))) 16 (nI L)).1 16 = nI L := sS_s _ _ _
        rw [e15]
        by_cases w0 : w = none
        · rw [if_pos (by rw [w7]; exact w0)]
          exact ⟨_, 1, f2, rfl, Or.inr ⟨_, L, by rw [ef, if_pos ⟨h1, Or.inl w0⟩, hL], rfl, e15, e16⟩⟩
        · rw [if_neg (by rw [w7]; exact w0)]
          by_cases w1 : w = some (num (d.getD 1) b z % 7)
          · rw [if_pos (by rw [wq _ (by omega) w0]; exact w1)]
            exact ⟨_, 1, f2, rfl, Or.inr ⟨_, L, by rw [ef, if_pos ⟨h1, Or.inr w1⟩, hL], rfl, e15, e16⟩⟩
          · rw [if_neg (by rw [wq _ (by omega) w0]; exact w1)]
            exact ⟨_, 0, f2, rfl, Or.inl ⟨by rw [ef, if_neg (fun q => q.2.elim w0 w1)], rfl⟩⟩
      by_cases dn : d = none
      · subst dn
        rw [if_pos (show nI ((none : Option Nat).getD 0) = 0 from rfl), X9_daysOf_s v3 v4 (by omega), ob_s, bnd_s, bnd_s, sS_s, nI_add, show nI (num ((none : Option Nat).getD 1) b z + ml b z) - 1 = nI (num ((none : Option Nat).getD 1) b z + ml b z - 1) from pk_sub (b := 1) (by omega)]
        exact fin2 _ (if_pos rfl)
      · have : ¬ nI (d.getD 0) = 0 := by
          cases d with
          | none => exact absurd rfl dn
          | some v =>
            have hv := hd v rfl
            rw [show (some v : Option Nat).getD 0 = v from rfl, show (0 : Int32) = nI 0 from rfl, nI_eq (by omega) (by omega)]
            intro q
            exact d0 (by rw [q])
        rw [if_neg this, bnd_s, bnd_s, sS_s]
        exact fin2 _ (if_neg dn)
    · rw [isD_vd (by omega) (by omega) (by omega)] at h1
      rw [h2, ob_s, if_pos rfl]
      exact ⟨st, 0, fR_rf st, rfl, Or.inl ⟨bad h1, rfl⟩⟩
  · rw [if_neg (by rw [nI_eq (by omega) (by omega)]; exact e), if_neg e]
    exact ⟨st, 0, fR_rf st, rfl, Or.inl ⟨rfl, rfl⟩⟩
