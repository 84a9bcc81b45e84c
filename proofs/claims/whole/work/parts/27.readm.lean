/-! The model's reader. -/
def mC (row : Nat) (c : List Nat) (st : ST) : Prop := row < 30 ∧ st.1 18 = nI row ∧ st.2 6 row = nI c.length ∧ ∀ j, j < c.length → st.2 3 (24 * row + j) = nI (c.getD j 0)
def fm (st st' : ST) : Prop := (∀ j, j ≠ 17 → st'.1 j = st.1 j) ∧ st'.2 = st.2
theorem fm_rf (st : ST) : fm st st := ⟨fun _ _ => rfl, rfl⟩
theorem fm_tr {a b c : ST} (h1 : fm a b) (h2 : fm b c) : fm a c := ⟨fun j hj => by rw [h2.1 j hj, h1.1 j hj], by rw [h2.2, h1.2]⟩
theorem fm_S (st : ST) (v : Int32) : fm st (setS st 17 v) := ⟨fun j hj => sS_n _ _ hj, rfl⟩
theorem mC_fm {row : Nat} {c : List Nat} {st st' : ST} (h : mC row c st) (hf : fm st st') : mC row c st' := ⟨h.1, by rw [hf.1 18 (by decide)]; exact h.2.1, by rw [hf.2]; exact h.2.2.1, fun j hj => by rw [hf.2]; exact h.2.2.2 j hj⟩
theorem X9_byteAt_s {row : Nat} {c : List Nat} {st : ST} (hc : c.length ≤ 24) (h : mC row c st) {j : Nat} (hj : j < 1000) : fX9_byteAt st (nI j) = some (nI (c.getD j 0)) := by
  obtain ⟨h0, h1, h2, h3⟩ := h
  unfold fX9_byteAt
  rw [h1, bnd_s, ix_n _ h0 (by omega), nI_clamp (by omega), h2]
  by_cases q : c.length ≤ j
  · rw [if_pos (nI_le q (by omega)), gD_0 q]; rfl
  · rw [if_neg (nI_ge (by omega) (by omega)), show (24 : Int32) = nI 24 from rfl, pk_mul, nI_add, bnd_s, ix_n _ (by omega) (by omega), nI_clamp (by omega), h3 j (by omega)]
theorem X9_isDigit_s {row : Nat} {c : List Nat} {st : ST} (hc : c.length ≤ 24) (hp : plain c) (h : mC row c st) {j : Nat} (hj : j < 1000) : fX9_isDigit st (nI j) = some (if dig (c.getD j 0) then 1 else 0) := by
  have hb := hb_small hp j
  unfold fX9_isDigit
  rw [X9_byteAt_s hc h hj, ob_s, X9_isIn_s, ob_s]
  by_cases q : dig (c.getD j 0) = true
  · have := dig_iff.mp q
    rw [if_pos q, if_neg (by
      rintro (z | z)
      · exact nI_nlt (b := 48) (by omega) (by omega) z
      · exact nI_nlt (a := 57) (by omega) (by omega) z)]
    exact tv_1 _
  · rw [if_neg q, if_pos (by
      by_cases z : c.getD j 0 < 48
      · exact Or.inl (nI_lt (b := 48) z (by omega))
      · refine Or.inr (nI_lt (a := 57) ?_ (by omega))
        rcases Nat.lt_or_ge 57 (c.getD j 0) with y | y
        · exact y
        · exact absurd (dig_iff.mpr ⟨by omega, by omega⟩) q)]
    exact tv_0 _
theorem X9_digits_l {row : Nat} {c : List Nat} (hc : c.length ≤ 24) (hp : plain c) {k : Nat} (hk : k ≤ 4) : ∀ (n j x i : Nat) (st : ST), k - j < n → j ≤ k → i ≤ c.length → mC row c st → st.1 17 = nI i →
    ∃ st', fm st st' ∧ ((tD c (k - j) i x = none ∧ fX9_digits_4 n st (nI k) (nI x) (nI j) = some (-1, st')) ∨ ∃ v, tD c (k - j) i x = some v ∧ fX9_digits_4 n st (nI k) (nI x) (nI j) = some (nI v, st') ∧ st'.1 17 = nI (i + (k - j))) := by
  intro n
  induction n with
  | zero => intro j x i st h; omega
  | succ n ih =>
    intro j x i st h hj hi hm ha
    unfold fX9_digits_4
    by_cases q : j = k
    · subst q
      rw [if_pos (nI_le (Nat.le_refl _) (by omega)), Nat.sub_self]
      exact ⟨st, fm_rf st, Or.inr ⟨x, rfl, rfl, by rw [Nat.add_zero]; exact ha⟩⟩
    · obtain ⟨r, hr⟩ : ∃ r, k - j = r + 1 := ⟨k - j - 1, by omega⟩
      rw [if_neg (nI_ge (by omega) (by omega)), ha, X9_isDigit_s hc hp hm (by omega), ob_s, hr]
      unfold tD
      by_cases q1 : dig (c.getD i 0) = true
      · have hb := dig_iff.mp q1
        have hlt := dig_lt q1
        rw [show (if dig (c.getD i 0) = true then (1 : Int32) else 0) = 1 from if_pos q1, if_neg (show ¬ (1 : Int32) = 0 by decide), X9_byteAt_s hc hm (by omega), ob_s, bnd_s, bnd_s, bnd_s, bnd_s, show (10 : Int32) = nI 10 from rfl, pk_mul, nI_add, show (48 : Int32) = nI 48 from rfl, pk_sub (by omega), nI_1, nI_1, if_pos q1, show 10 * x + c.getD i 0 - 48 = x * 10 + c.getD i 0 - 48 by omega]
        obtain ⟨st', f1, g⟩ := ih (j + 1) (x * 10 + c.getD i 0 - 48) (i + 1) (setS st 17 (nI (i + 1))) (by omega) (by omega) (by omega) (mC_fm hm (fm_S st _)) (sS_s _ _ _)
        rw [show k - (j + 1) = r by omega] at g
        refine ⟨st', fm_tr (fm_S st _) f1, ?_⟩
        rcases g with ⟨g1, g2⟩ | ⟨v, g1, g2, g3⟩
        · exact Or.inl ⟨g1, g2⟩
        · exact Or.inr ⟨v, g1, g2, by rw [g3]; exact congrArg nI (by omega)⟩
      · rw [show (if dig (c.getD i 0) = true then (1 : Int32) else 0) = 0 from if_neg q1, if_pos rfl, if_neg q1]
        exact ⟨st, fm_rf st, Or.inl ⟨rfl, rfl⟩⟩
theorem X9_digits_s {row : Nat} {c : List Nat} (hc : c.length ≤ 24) (hp : plain c) {k i : Nat} (hk : k ≤ 4) {st : ST} (hi : i ≤ c.length) (hm : mC row c st) (ha : st.1 17 = nI i) :
    ∃ st', fm st st' ∧ ((tD c k i 0 = none ∧ fX9_digits st (nI k) = some (-1, st')) ∨ ∃ v, tD c k i 0 = some v ∧ fX9_digits st (nI k) = some (nI v, st') ∧ st'.1 17 = nI (i + k)) := by
  have := X9_digits_l hc hp hk 1000 0 0 i st (by omega) (by omega) hi hm ha
  rw [Nat.sub_zero] at this
  exact this
theorem X9_word_3_1 {row : Nat} {c : List Nat} {i w k n : Nat} {st : ST} {f : Int32} (hc : c.length ≤ 24) (hp : plain c) (h : mC row c st) (ha : st.1 17 = nI i) (hi : i ≤ c.length) (hw : w < 12) (hk : k < 3) :
    fX9_word_3_17 (n + 1) st (nI w) f (nI k) = fX9_word_3_17 n st (nI w) (if f = 0 then 0 else if low (c.getD (i + k) 0) = nMO.getD (3 * w + k) 0 then 1 else 0) (nI (k + 1)) := by
  have hb := hb_small hp (i + k)
  obtain ⟨t1, t2⟩ := tMO_n (3 * w + k) (by omega)
  have hch : fJ0_charAt_5068e_3 (nI (3 * w + k)) = some (nI (nMO.getD (3 * w + k) 0)) := by
    unfold fJ0_charAt_5068e_3
    rw [ix_n _ (by omega) (by omega), nI_clamp (by omega), t1]
  generalize hR : fX9_word_3_17 n st (nI w) (if f = 0 then 0 else if low (c.getD (i + k) 0) = nMO.getD (3 * w + k) 0 then 1 else 0) (nI (k + 1)) = RR
  unfold fX9_word_3_17
  rw [if_neg (show ¬ (3 : Int32) ≤ nI k from nI_ge (b := 3) hk (by omega)), ha, nI_add, X9_byteAt_s hc h (by omega), ob_s, X9_isIn_s, ob_s]
  simp only [bnd_s]
  rw [show (3 : Int32) * nI w = nI (3 * w) from pk_mul 3 w, nI_add, hch, ob_s, nI_1]
  by_cases q : 65 ≤ c.getD (i + k) 0 ∧ c.getD (i + k) 0 ≤ 90
  · have hl : low (c.getD (i + k) 0) = c.getD (i + k) 0 + 32 := by unfold low; rw [if_pos q]
    rw [if_neg (show ¬ (nI (c.getD (i + k) 0) < 65 ∨ 90 < nI (c.getD (i + k) 0)) by
      rintro (z | z)
      · exact nI_nlt (b := 65) (by omega) (by omega) z
      · exact nI_nlt (a := 90) (by omega) (by omega) z), if_neg (by decide), ob_s, show nI (c.getD (i + k) 0) + 32 = nI (c.getD (i + k) 0 + 32) from nI_add _ 32]
    rw [hl] at hR
    by_cases f0 : f = 0
    · rw [if_pos f0] at hR ⊢; exact hR
    · rw [if_neg f0] at hR ⊢
      by_cases e : c.getD (i + k) 0 + 32 = nMO.getD (3 * w + k) 0
      · rw [if_pos e] at hR; rw [if_pos (congrArg nI e)]; exact hR
      · rw [if_neg e] at hR; rw [if_neg (by rw [nI_eq (by omega) (by omega)]; exact e)]; exact hR
  · have hl : low (c.getD (i + k) 0) = c.getD (i + k) 0 := by unfold low; rw [if_neg q]
    rw [if_pos (show nI (c.getD (i + k) 0) < 65 ∨ 90 < nI (c.getD (i + k) 0) by
      by_cases z : c.getD (i + k) 0 < 65
      · exact Or.inl (nI_lt (b := 65) z (by omega))
      · exact Or.inr (nI_lt (a := 90) (by omega) (by omega))), if_pos rfl]
    rw [hl] at hR
    by_cases f0 : f = 0
    · rw [if_pos f0] at hR ⊢; exact hR
    · rw [if_neg f0] at hR ⊢
      by_cases e : c.getD (i + k) 0 = nMO.getD (3 * w + k) 0
      · rw [if_pos e] at hR; rw [if_pos (congrArg nI e)]; exact hR
      · rw [if_neg e] at hR; rw [if_neg (by rw [nI_eq (by omega) (by omega)]; exact e)]; exact hR
theorem X9_word_3_i {row : Nat} {c : List Nat} {i w : Nat} {st : ST} (hc : c.length ≤ 24) (hp : plain c) (h : mC row c st) (ha : st.1 17 = nI i) (hi : i ≤ c.length) (hw : w < 12) : fX9_word_3_17 1000 st (nI w) 1 0 = some (if stW nMO c i w then 1 else 0) := by
  have s0 := X9_word_3_1 (k := 0) (n := 999) (f := 1) hc hp h ha hi hw (by omega)
  refine Eq.trans s0 ?_
  rw [X9_word_3_1 (k := 1) (n := 998) hc hp h ha hi hw (by omega), X9_word_3_1 (k := 2) (n := 997) hc hp h ha hi hw (by omega)]
  have e3 : ∀ f, fX9_word_3_17 997 st (nI w) f (nI (2 + 1)) = some f := by
    intro f
    unfold fX9_word_3_17
    rw [if_pos (by decide)]
  rw [e3]
  unfold stW
  rw [if_neg (show ¬ (1 : Int32) = 0 by decide)]
  by_cases a0 : low (c.getD i 0) = nMO.getD (3 * w) 0
  · rw [if_pos (show low (c.getD (i + 0) 0) = nMO.getD (3 * w + 0) 0 from a0), if_neg (show ¬ (1 : Int32) = 0 by decide)]
    by_cases a1 : low (c.getD (i + 1) 0) = nMO.getD (3 * w + 1) 0
    · rw [if_pos a1, if_neg (show ¬ (1 : Int32) = 0 by decide)]
      by_cases a2 : low (c.getD (i + 2) 0) = nMO.getD (3 * w + 2) 0
      · rw [if_pos a2, if_pos (by rw [a0, a1, a2]; simp)]
      · rw [if_neg a2, if_neg (by simp only [Bool.and_eq_true, beq_iff_eq]; exact fun z => a2 z.2)]
    · rw [if_neg a1, if_pos rfl, if_neg (by simp only [Bool.and_eq_true, beq_iff_eq]; exact fun z => a1 z.1.2)]
  · rw [if_neg (show ¬ low (c.getD (i + 0) 0) = nMO.getD (3 * w + 0) 0 from a0), if_pos rfl, if_pos rfl, if_neg (by simp only [Bool.and_eq_true, beq_iff_eq]; exact fun z => a0 z.1.1)]
theorem X9_word_3_l {row : Nat} {c : List Nat} {i : Nat} {st : ST} (hc : c.length ≤ 24) (hp : plain c) (h : mC row c st) (ha : st.1 17 = nI i) (hi : i ≤ c.length) : ∀ (f n w : Nat), f < n → w + f = 12 →
    ∃ st', fm st st' ∧ ((tW nMO c i f w = none ∧ fX9_word_3_2 n st (nI w) = some (-1, st')) ∨ ∃ v, tW nMO c i f w = some v ∧ fX9_word_3_2 n st (nI w) = some (nI v, st') ∧ st'.1 17 = nI (i + 3)) := by
  intro f
  induction f with
  | zero =>
    intro n w h1 h2
    obtain ⟨n, rfl⟩ : ∃ z, n = z + 1 := ⟨n - 1, by omega⟩
    unfold fX9_word_3_2 fJ0_length_8abf5_3
    rw [ob_s, show (3 : Int32) * nI w = nI (3 * w) from pk_mul 3 w, if_pos (show (36 : Int32) ≤ nI (3 * w) from nI_le (a := 36) (by omega) (by omega))]
    exact ⟨st, fm_rf st, Or.inl ⟨rfl, rfl⟩⟩
  | succ f ih =>
    intro n w h1 h2
    obtain ⟨n, rfl⟩ : ∃ z, n = z + 1 := ⟨n - 1, by omega⟩
    unfold fX9_word_3_2 tW
    rw [show fJ0_length_8abf5_3 = some (36 : Int32) from rfl, ob_s, show (3 : Int32) * nI w = nI (3 * w) from pk_mul 3 w, if_neg (show ¬ (36 : Int32) ≤ nI (3 * w) from nI_ge (b := 36) (by omega) (by omega)), X9_word_3_i hc hp h ha hi (by omega), ob_s]
    by_cases z : stW nMO c i w = true
    · rw [show (if stW nMO c i w = true then (1 : Int32) else 0) = 1 from if_pos z, if_neg (show ¬ (1 : Int32) = 0 by decide), bnd_s, bnd_s, ha, show nI i + 3 = nI (i + 3) from nI_add i 3, if_pos z]
      exact ⟨_, fm_S st _, Or.inr ⟨w, rfl, rfl, sS_s _ _ _⟩⟩
    · rw [show (if stW nMO c i w = true then (1 : Int32) else 0) = 0 from if_neg z, if_pos rfl, bnd_s, nI_1, if_neg z]
      exact ih n (w + 1) (by omega) (by omega)
theorem X9_word_4_1 {row : Nat} {c : List Nat} {i w k n : Nat} {st : ST} {f : Int32} (hc : c.length ≤ 24) (hp : plain c) (h : mC row c st) (ha : st.1 17 = nI i) (hi : i ≤ c.length) (hw : w < 7) (hk : k < 3) :
    fX9_word_4_17 (n + 1) st (nI w) f (nI k) = fX9_word_4_17 n st (nI w) (if f = 0 then 0 else if low (c.getD (i + k) 0) = nWD.getD (3 * w + k) 0 then 1 else 0) (nI (k + 1)) := by
  have hb := hb_small hp (i + k)
  obtain ⟨t1, t2⟩ := tWD_n (3 * w + k) (by omega)
  have hch : fJ0_charAt_5068e_4 (nI (3 * w + k)) = some (nI (nWD.getD (3 * w + k) 0)) := by
    unfold fJ0_charAt_5068e_4
    rw [ix_n _ (by omega) (by omega), nI_clamp (by omega), t1]
  generalize hR : fX9_word_4_17 n st (nI w) (if f = 0 then 0 else if low (c.getD (i + k) 0) = nWD.getD (3 * w + k) 0 then 1 else 0) (nI (k + 1)) = RR
  unfold fX9_word_4_17
  rw [if_neg (show ¬ (3 : Int32) ≤ nI k from nI_ge (b := 3) hk (by omega)), ha, nI_add, X9_byteAt_s hc h (by omega), ob_s, X9_isIn_s, ob_s]
  simp only [bnd_s]
  rw [show (3 : Int32) * nI w = nI (3 * w) from pk_mul 3 w, nI_add, hch, ob_s, nI_1]
  by_cases q : 65 ≤ c.getD (i + k) 0 ∧ c.getD (i + k) 0 ≤ 90
  · have hl : low (c.getD (i + k) 0) = c.getD (i + k) 0 + 32 := by unfold low; rw [if_pos q]
    rw [if_neg (show ¬ (nI (c.getD (i + k) 0) < 65 ∨ 90 < nI (c.getD (i + k) 0)) by
      rintro (z | z)
      · exact nI_nlt (b := 65) (by omega) (by omega) z
      · exact nI_nlt (a := 90) (by omega) (by omega) z), if_neg (by decide), ob_s, show nI (c.getD (i + k) 0) + 32 = nI (c.getD (i + k) 0 + 32) from nI_add _ 32]
    rw [hl] at hR
    by_cases f0 : f = 0
    · rw [if_pos f0] at hR ⊢; exact hR
    · rw [if_neg f0] at hR ⊢
      by_cases e : c.getD (i + k) 0 + 32 = nWD.getD (3 * w + k) 0
      · rw [if_pos e] at hR; rw [if_pos (congrArg nI e)]; exact hR
      · rw [if_neg e] at hR; rw [if_neg (by rw [nI_eq (by omega) (by omega)]; exact e)]; exact hR
  · have hl : low (c.getD (i + k) 0) = c.getD (i + k) 0 := by unfold low; rw [if_neg q]
    rw [if_pos (show nI (c.getD (i + k) 0) < 65 ∨ 90 < nI (c.getD (i + k) 0) by
      by_cases z : c.getD (i + k) 0 < 65
      · exact Or.inl (nI_lt (b := 65) z (by omega))
      · exact Or.inr (nI_lt (a := 90) (by omega) (by omega))), if_pos rfl]
    rw [hl] at hR
    by_cases f0 : f = 0
    · rw [if_pos f0] at hR ⊢; exact hR
    · rw [if_neg f0] at hR ⊢
      by_cases e : c.getD (i + k) 0 = nWD.getD (3 * w + k) 0
      · rw [if_pos e] at hR; rw [if_pos (congrArg nI e)]; exact hR
      · rw [if_neg e] at hR; rw [if_neg (by rw [nI_eq (by omega) (by omega)]; exact e)]; exact hR
theorem X9_word_4_i {row : Nat} {c : List Nat} {i w : Nat} {st : ST} (hc : c.length ≤ 24) (hp : plain c) (h : mC row c st) (ha : st.1 17 = nI i) (hi : i ≤ c.length) (hw : w < 7) : fX9_word_4_17 1000 st (nI w) 1 0 = some (if stW nWD c i w then 1 else 0) := by
  have s0 := X9_word_4_1 (k := 0) (n := 999) (f := 1) hc hp h ha hi hw (by omega)
  refine Eq.trans s0 ?_
  rw [X9_word_4_1 (k := 1) (n := 998) hc hp h ha hi hw (by omega), X9_word_4_1 (k := 2) (n := 997) hc hp h ha hi hw (by omega)]
  have e3 : ∀ f, fX9_word_4_17 997 st (nI w) f (nI (2 + 1)) = some f := by
    intro f
    unfold fX9_word_4_17
    rw [if_pos (by decide)]
  rw [e3]
  unfold stW
  rw [if_neg (show ¬ (1 : Int32) = 0 by decide)]
  by_cases a0 : low (c.getD i 0) = nWD.getD (3 * w) 0
  · rw [if_pos (show low (c.getD (i + 0) 0) = nWD.getD (3 * w + 0) 0 from a0), if_neg (show ¬ (1 : Int32) = 0 by decide)]
    by_cases a1 : low (c.getD (i + 1) 0) = nWD.getD (3 * w + 1) 0
    · rw [if_pos a1, if_neg (show ¬ (1 : Int32) = 0 by decide)]
      by_cases a2 : low (c.getD (i + 2) 0) = nWD.getD (3 * w + 2) 0
      · rw [if_pos a2, if_pos (by rw [a0, a1, a2]; simp)]
      · rw [if_neg a2, if_neg (by simp only [Bool.and_eq_true, beq_iff_eq]; exact fun z => a2 z.2)]
    · rw [if_neg a1, if_pos rfl, if_neg (by simp only [Bool.and_eq_true, beq_iff_eq]; exact fun z => a1 z.1.2)]
  · rw [if_neg (show ¬ low (c.getD (i + 0) 0) = nWD.getD (3 * w + 0) 0 from a0), if_pos rfl, if_pos rfl, if_neg (by simp only [Bool.and_eq_true, beq_iff_eq]; exact fun z => a0 z.1.1)]
theorem X9_word_4_l {row : Nat} {c : List Nat} {i : Nat} {st : ST} (hc : c.length ≤ 24) (hp : plain c) (h : mC row c st) (ha : st.1 17 = nI i) (hi : i ≤ c.length) : ∀ (f n w : Nat), f < n → w + f = 7 →
    ∃ st', fm st st' ∧ ((tW nWD c i f w = none ∧ fX9_word_4_2 n st (nI w) = some (-1, st')) ∨ ∃ v, tW nWD c i f w = some v ∧ fX9_word_4_2 n st (nI w) = some (nI v, st') ∧ st'.1 17 = nI (i + 3)) := by
  intro f
  induction f with
  | zero =>
    intro n w h1 h2
    obtain ⟨n, rfl⟩ : ∃ z, n = z + 1 := ⟨n - 1, by omega⟩
    unfold fX9_word_4_2 fJ0_length_8abf5_4
    rw [ob_s, show (3 : Int32) * nI w = nI (3 * w) from pk_mul 3 w, if_pos (show (21 : Int32) ≤ nI (3 * w) from nI_le (a := 21) (by omega) (by omega))]
    exact ⟨st, fm_rf st, Or.inl ⟨rfl, rfl⟩⟩
  | succ f ih =>
    intro n w h1 h2
    obtain ⟨n, rfl⟩ : ∃ z, n = z + 1 := ⟨n - 1, by omega⟩
    unfold fX9_word_4_2 tW
    rw [show fJ0_length_8abf5_4 = some (21 : Int32) from rfl, ob_s, show (3 : Int32) * nI w = nI (3 * w) from pk_mul 3 w, if_neg (show ¬ (21 : Int32) ≤ nI (3 * w) from nI_ge (b := 21) (by omega) (by omega)), X9_word_4_i hc hp h ha hi (by omega), ob_s]
    by_cases z : stW nWD c i w = true
    · rw [show (if stW nWD c i w = true then (1 : Int32) else 0) = 1 from if_pos z, if_neg (show ¬ (1 : Int32) = 0 by decide), bnd_s, bnd_s, ha, show nI i + 3 = nI (i + 3) from nI_add i 3, if_pos z]
      exact ⟨_, fm_S st _, Or.inr ⟨w, rfl, rfl, sS_s _ _ _⟩⟩
    · rw [show (if stW nWD c i w = true then (1 : Int32) else 0) = 0 from if_neg z, if_pos rfl, bnd_s, nI_1, if_neg z]
      exact ih n (w + 1) (by omega) (by omega)
/-! blanks -/
theorem X9_blanks_l {row : Nat} {c : List Nat} (hc : c.length ≤ 24) (hp : plain c) (x1 x2 x3 x4 x5 x6 x7 : Int32) : ∀ (f n j : Nat) (st : ST), f < n → mC row c st → st.1 17 = nI j → j ≤ c.length → c.length < j + f →
    ∃ st', fX9_reads_268 n st x1 x2 x3 x4 x5 x6 x7 32 = some st' ∧ st'.1 17 = nI (sk c f j) ∧ fm st st' := by
  intro f
  induction f with
  | zero => intro n j st h1 h2 h3 h4 h5; omega
  | succ f ih =>
    intro n j st h1 h2 h3 h4 h5
    obtain ⟨n, rfl⟩ : ∃ z, n = z + 1 := ⟨n - 1, by omega⟩
    have hb := hb_small hp j
    unfold fX9_reads_268 sk
    rw [if_pos rfl, h3, X9_byteAt_s hc h2 (by omega), ob_s]
    by_cases q1 : c.getD j 0 = 32
    · have hl : j < c.length := by
        rcases Nat.lt_or_ge j c.length with z | z
        · exact z
        · rw [gD_0 z] at q1; omega
      rw [if_pos (show nI (c.getD j 0) = 32 by rw [q1]; rfl), if_pos q1, bnd_s, bnd_s, nI_1]
      obtain ⟨st', g1, g2, g3⟩ := ih n (j + 1) (setS st 17 (nI (j + 1))) (by omega) (mC_fm h2 (fm_S st _)) (sS_s _ _ _) (by omega) (by omega)
      exact ⟨st', g1, g2, fm_tr (fm_S st _) g3⟩
    · rw [if_neg (show ¬ nI (c.getD j 0) = 32 from fun z => q1 (by rw [show (32 : Int32) = nI 32 from rfl, nI_eq (by omega) (by omega)] at z; exact z)), if_neg q1]
      exact ⟨st, rfl, h3, fm_rf st⟩
theorem cnt_drop (c : Nat) (t : List Nat) : ∀ k, cnt c (t.drop k) ≤ cnt c t := by
  induction t with
  | nil => intro k; rw [List.drop_nil]; exact Nat.le_refl _
  | cons b t ih =>
    intro k
    cases k with
    | zero => exact Nat.le_refl _
    | succ k =>
      have := ih k
      show cnt c (t.drop k) ≤ (if b = c then 1 else 0) + cnt c t
      split <;> omega
theorem vd_0 {m y : Nat} : ¬ vd 0 m y = true := by unfold vd; rw [decide_eq_true_iff]; omega
theorem vd_m0 {d y : Nat} : ¬ vd d 0 y = true := by unfold vd; rw [decide_eq_true_iff]; omega
theorem vd_y0 {d m : Nat} : ¬ vd d m 0 = true := by unfold vd; rw [decide_eq_true_iff]; omega
/-- a day 0 is none, whatever follows -/
theorem rdl_d0 {win : Nat} {c : List Nat} : ∀ (ps : List Nat) (i : Nat) (m y w : Option Nat), cnt 68 ps = 0 → rdl win c ps i (some 0) m y w = none := by
  intro ps
  induction ps with
  | nil =>
    intro i m y w _
    unfold rdl
    split
    · cases m with
      | none => rfl
      | some m =>
        cases y with
        | none => rfl
        | some y =>
          show (if vd 0 m y = true ∧ _ then _ else none) = none
          rw [if_neg (fun z => vd_0 z.1)]
    · rfl
  | cons p ps ih =>
    intro i m y w h
    unfold cnt at h
    have hp : ¬ p = 68 := fun e => by rw [if_pos e] at h; omega
    rw [if_neg hp, Nat.zero_add] at h
    unfold rdl
    rw [if_neg hp]
    repeat' split
    all_goals first | rfl | exact ih _ _ _ _ h
theorem rdl_m0 {win : Nat} {c : List Nat} : ∀ (ps : List Nat) (i : Nat) (d y w : Option Nat), cnt 77 ps = 0 → cnt 78 ps = 0 → rdl win c ps i d (some 0) y w = none := by
  intro ps
  induction ps with
  | nil =>
    intro i d y w _ _
    unfold rdl
    split
    · cases y with
      | none => rfl
      | some y =>
        show (if vd (d.getD 1) 0 y = true ∧ _ then _ else none) = none
        rw [if_neg (fun z => vd_m0 z.1)]
    · rfl
  | cons p ps ih =>
    intro i d y w h h'
    unfold cnt at h h'
    have hp : ¬ p = 77 := fun e => by rw [if_pos e] at h; omega
    have hp' : ¬ p = 78 := fun e => by rw [if_pos e] at h'; omega
    rw [if_neg hp, Nat.zero_add] at h
    rw [if_neg hp', Nat.zero_add] at h'
    unfold rdl
    rw [if_neg hp, if_neg hp']
    repeat' split
    all_goals first | rfl | exact ih _ _ _ _ h h'
