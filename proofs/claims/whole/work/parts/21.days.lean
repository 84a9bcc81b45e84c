/-! States that were written. -/
theorem sS_s (st : ST) (k : Nat) (v : Int32) : (setS st k v).1 k = v := by simp [setS, upd]
theorem sS_n (st : ST) {k j : Nat} (v : Int32) (h : j ≠ k) : (setS st k v).1 j = st.1 j := by simp [setS, upd, h]
theorem sS_2 (st : ST) (k : Nat) (v : Int32) : (setS st k v).2 = st.2 := rfl
theorem sA_1 (st : ST) (k i : Nat) (v : Int32) : (setA st k i v).1 = st.1 := rfl
theorem sA_s (st : ST) (k i : Nat) (v : Int32) : (setA st k i v).2 k = upd (st.2 k) i v := by simp [setA, va_up]
theorem sA_n (st : ST) {k j : Nat} (i : Nat) (v : Int32) (h : j ≠ k) : (setA st k i v).2 j = st.2 j := by simp [setA, va_up, h]
theorem sA_ss (st : ST) (k i : Nat) (v : Int32) : (setA st k i v).2 k i = v := by simp [setA, va_up, upd]
theorem sA_sn (st : ST) (k : Nat) {i j : Nat} (v : Int32) (h : j ≠ i) : (setA st k i v).2 k j = st.2 k j := by simp [setA, va_up, upd, h]
/-! A day's parts. -/
def dec (n d m y : Nat) : Prop := n = num d m y ∧ 1900 ≤ y ∧ y ≤ 2199 ∧ 1 ≤ m ∧ m ≤ 12 ∧ 1 ≤ d ∧ d ≤ ml m y
theorem yr_ex (n : Nat) : ∀ k, k ≤ 300 → n < ys (1900 + k) → ∃ y, 1900 ≤ y ∧ y < 1900 + k ∧ ys y ≤ n ∧ n < ys (y + 1) := by
  intro k
  induction k with
  | zero => intro _ h; rw [show 1900 + 0 = 1900 from rfl, ys_0] at h; omega
  | succ k ih =>
    intro hk h
    rcases Nat.lt_or_ge n (ys (1900 + k)) with q | q
    · obtain ⟨y, h1, h2, h3⟩ := ih (by omega) q
      exact ⟨y, h1, by omega, h3⟩
    · exact ⟨1900 + k, by omega, by omega, q, h⟩
theorem mo_ex (y x : Nat) : ∀ k, x < mst y (k + 1) → ∃ m, 1 ≤ m ∧ m ≤ k ∧ mst y m ≤ x ∧ x < mst y (m + 1) := by
  intro k
  induction k with
  | zero => intro h; exact absurd h (Nat.not_lt_zero _)
  | succ k ih =>
    intro h
    rcases Nat.lt_or_ge x (mst y (k + 1)) with q | q
    · obtain ⟨m, h1, h2, h3⟩ := ih q
      exact ⟨m, h1, by omega, h3⟩
    · exact ⟨k + 1, by omega, Nat.le_refl _, q, h⟩
theorem ys_2200 : ys 2200 = 109573 := by decide +kernel
theorem day_ex {n : Nat} (h : n ≤ 109572) : ∃ d m y, dec n d m y := by
  obtain ⟨y, h1, h2, h3, h4⟩ := yr_ex n 300 (by omega) (by rw [show 1900 + 300 = 2200 from rfl, ys_2200]; omega)
  rw [ys_s h1 (by omega)] at h4
  obtain ⟨m, g1, g2, g3, g4⟩ := mo_ex y (n - ys y) 12 (by rw [mst_13]; omega)
  rw [mst_s g1] at g4
  refine ⟨n - ys y - mst y m + 1, m, y, ?_, h1, by omega, g1, g2, by omega, by omega⟩
  unfold num
  omega
theorem ys_mono {y z : Nat} (h1 : 1900 ≤ y) (h2 : y ≤ z) (h3 : z ≤ 2200) : ys y ≤ ys z := by
  obtain ⟨k, rfl⟩ : ∃ k, z = y + k := ⟨z - y, by omega⟩
  clear h2
  induction k with
  | zero => exact Nat.le_refl _
  | succ k ih =>
    have a := ih (by omega)
    have b := ys_s (y := y + k) (by omega) (by omega)
    rw [show y + (k + 1) = y + k + 1 by omega, b]
    omega
theorem dec_in {n d m y : Nat} (h : dec n d m y) : ys y ≤ n ∧ n < ys (y + 1) ∧ n ≤ 109572 ∧ n - ys y = mst y m + d - 1 ∧ ml m y ≤ 31 := by
  obtain ⟨e, h1, h2, h3, h4, h5, h6⟩ := h
  have q := num_le h1 h2 h3 h4 h5 h6
  have z := ml_in m y
  rw [← e] at q
  refine ⟨q.1, q.2.1, q.2.2, ?_, z.2⟩
  rw [e]
  unfold num
  omega
theorem X0_yearOf_l {n y : Nat} (hy1 : 1900 ≤ y) (hy2 : y ≤ 2199) (h1 : ys y ≤ n) (h2 : n < ys (y + 1)) (hn : n ≤ 109572) : ∀ (f x : Nat), y - x < f → 1900 ≤ x → x ≤ y → fX0_yearOf_10 f (nI n) (nI x) = some (nI y) := by
  intro f
  induction f with
  | zero => intro x h; omega
  | succ f ih =>
    intro x h g1 g2
    unfold fX0_yearOf_10
    by_cases q : 2199 ≤ x
    · rw [if_pos (show (2199 : Int32) ≤ nI x from nI_le q (by omega))]
      exact sn (by omega)
    · have := ys_le (y := x + 1) (by omega) (by omega)
      rw [if_neg (show ¬ (2199 : Int32) ≤ nI x from nI_ge (b := 2199) (by omega) (by omega)), nI_1, X0_yearStart_s (by omega) (by omega), ob_s]
      by_cases q2 : n < ys (x + 1)
      · rw [if_pos (nI_lt q2 (by omega))]
        refine sn ?_
        rcases Nat.lt_or_ge x y with z | z
        · have := ys_mono (y := x + 1) (z := y) (by omega) (by omega) (by omega)
          omega
        · omega
      · rw [if_neg (nI_nlt (by omega) (by omega)), bnd_s]
        have hlt : x < y := by
          rcases Nat.lt_or_ge x y with z | z
          · exact z
          · have e : x = y := by omega
            subst e; omega
        exact ih (x + 1) (by omega) (by omega) (by omega)
theorem ys_366 {y : Nat} (h1 : 1900 ≤ y) (h2 : y ≤ 2200) : ys y ≤ (y - 1900) * 366 := by
  have h : ∀ k, k < 301 → ys (1900 + k) ≤ k * 366 := by decide +kernel
  have := h (y - 1900) (by omega)
  rw [show 1900 + (y - 1900) = y by omega] at this
  exact this
theorem X0_yearOf_s {n d m y : Nat} (h : dec n d m y) : fX0_yearOf (nI n) = some (nI y) := by
  obtain ⟨a1, a2, a3, a4, a5⟩ := dec_in h
  obtain ⟨e, h1, h2, h3, h4, h5, h6⟩ := h
  unfold fX0_yearOf
  rw [bnd_s, show nI n / 366 = nI (n / 366) from pk_div (by omega) (by decide) (by decide), show (1900 : Int32) = nI 1900 from rfl, nI_add]
  have := ys_366 (y := y + 1) (by omega) (by omega)
  exact X0_yearOf_l h1 h2 a1 a2 a3 1000 (1900 + n / 366) (by omega) (by omega) (by omega)
theorem X0_monthOf_l {y M d : Nat} (hy : y ≤ 2199) (hM : M ≤ 12) (hd1 : 1 ≤ d) (hd2 : d ≤ ml M y) : ∀ (f m : Nat), M - m < f → 1 ≤ m → m ≤ M → fX0_monthOf_14 f (nI y) (nI (mst y M - mst y m + d - 1)) (nI m) = some (nI M) := by
  intro f
  induction f with
  | zero => intro m h; omega
  | succ f ih =>
    intro m h g1 g2
    have hyl := yl_in y
    have b1 : mst y M ≤ mst y 13 := mst_le (by omega)
    have b2 := ml_in M y
    rw [mst_13] at b1
    unfold fX0_monthOf_14
    by_cases q : 12 ≤ m
    · rw [if_pos (show (12 : Int32) ≤ nI m from nI_le q (by omega))]
      exact sn (by omega)
    · rw [if_neg (show ¬ (12 : Int32) ≤ nI m from nI_ge (b := 12) (by omega) (by omega)), X0_monthLength_s g1 (by omega) (by omega), ob_s]
      by_cases q2 : m = M
      · subst q2
        rw [Nat.sub_self, if_pos (nI_lt (by omega) (by omega))]
      · have e := mst_s (y := y) g1
        have e2 : mst y (m + 1) ≤ mst y M := mst_le (by omega)
        have b3 := ml_in m y
        rw [if_neg (nI_nlt (by omega) (by omega)), ob_s, bnd_s, bnd_s, pk_sub (by omega), nI_1]
        rw [show mst y M - mst y m + d - 1 - ml m y = mst y M - mst y (m + 1) + d - 1 by omega]
        exact ih (m + 1) (by omega) (by omega) (by omega)
theorem X0_monthOf_s {n d m y : Nat} (h : dec n d m y) : fX0_monthOf (nI n) = some (nI m) := by
  obtain ⟨a1, a2, a3, a4, a5⟩ := dec_in h
  have hy := X0_yearOf_s h
  obtain ⟨e, h1, h2, h3, h4, h5, h6⟩ := h
  unfold fX0_monthOf
  rw [hy, ob_s, X0_yearStart_s (by omega) (by omega), ob_s, bnd_s, pk_sub (by omega), a4]
  have := X0_monthOf_l h2 h4 h5 h6 1000 1 (by omega) (by omega) h3
  rw [show mst y 1 = 0 from rfl, Nat.sub_zero] at this
  exact this
theorem X0_dayOfMonth_s {n d m y : Nat} (h : dec n d m y) : fX0_dayOfMonth (nI n) = some (nI d) := by
  obtain ⟨a1, a2, a3, a4, a5⟩ := dec_in h
  have hy := X0_yearOf_s h
  have hm := X0_monthOf_s h
  obtain ⟨e, h1, h2, h3, h4, h5, h6⟩ := h
  unfold fX0_dayOfMonth
  rw [hm, ob_s, hy, ob_s, show (1 : Int32) = nI 1 from rfl, X0_dayNumber_s h1 h2 h3 h4 (by omega) (by omega), ob_s]
  have : num 1 m y ≤ n := by rw [e]; unfold num; omega
  rw [pk_sub this, nI_add]
  refine sn ?_
  rw [e]
  unfold num
  omega
theorem X0_weekdayOf_s {n : Nat} (h : n < 2 ^ 31) : fX0_weekdayOf (nI n) = some (nI (n % 7)) := by
  unfold fX0_weekdayOf
  rw [show (7 : Int32) = nI 7 from rfl, pk_rem h (by decide) (by decide)]
theorem X0_isDay_s (x : Int32) : (∃ n : Nat, n ≤ 109572 ∧ x = nI n ∧ fX0_isDay x = some 1 ∧ fX9_isDay x = some 1) ∨ ((x < 0 ∨ 109572 < x) ∧ fX0_isDay x = some 0 ∧ fX9_isDay x = some 0) := by
  unfold fX0_isDay fX9_isDay
  rw [X9_isIn_s, ob_s]
  by_cases h1 : x < 0
  · exact Or.inr ⟨Or.inl h1, by rw [if_pos h1], by rw [if_pos (Or.inl h1)]; rfl⟩
  · by_cases h2 : 109572 < x
    · exact Or.inr ⟨Or.inr h2, by rw [if_neg h1, if_pos h2], by rw [if_pos (Or.inr h2)]; rfl⟩
    · obtain ⟨n, rfl, -, hn⟩ := nat_of (lo := 0) (hi := 109572) h1 h2 (by decide) (by decide)
      refine Or.inl ⟨n, hn, rfl, by rw [if_neg h1, if_neg h2], ?_⟩
      rw [if_neg (fun q => q.elim h1 h2)]; rfl
/-! The model's split. -/
theorem X9_split_m {y M d : Nat} (hy : y ≤ 2199) (hM : M ≤ 12) (hd1 : 1 ≤ d) (hd2 : d ≤ ml M y) : ∀ (f m : Nat) (st : ST), M - m < f → 1 ≤ m → m ≤ M → st.1 13 = nI m → st.1 14 = nI y →
    ∃ st', fX9_split_72 f st (nI (mst y M - mst y m + d - 1)) = some st' ∧ st'.2 = st.2 ∧ (∀ k, k ≠ 12 → k ≠ 13 → st'.1 k = st.1 k) ∧ st'.1 12 = nI d ∧ st'.1 13 = nI M := by
  intro f
  induction f with
  | zero => intro m st h; omega
  | succ f ih =>
    intro m st h g1 g2 e1 e2
    have hyl := yl_in y
    have b1 : mst y M ≤ mst y 13 := mst_le (by omega)
    have b2 := ml_in M y
    rw [mst_13] at b1
    unfold fX9_split_72
    rw [e1, e2, X9_daysOf_s g1 (by omega) (by omega), ob_s]
    by_cases q2 : m = M
    · subst q2
      rw [Nat.sub_self, if_pos (nI_lt (by omega) (by omega)), bnd_s, bnd_s, nI_1]
      refine ⟨_, rfl, rfl, fun k h1 h2 => sS_n _ _ h1, ?_, ?_⟩
      · rw [sS_s, show 0 + d - 1 + 1 = d by omega]
      · rw [sS_n _ _ (by decide)]; exact e1
    · have e := mst_s (y := y) g1
      have e3 : mst y (m + 1) ≤ mst y M := mst_le (by omega)
      have b3 := ml_in m y
      rw [if_neg (nI_nlt (by omega) (by omega)), ob_s, bnd_s, bnd_s, bnd_s, pk_sub (by omega), nI_1]
      rw [show mst y M - mst y m + d - 1 - ml m y = mst y M - mst y (m + 1) + d - 1 by omega]
      obtain ⟨st', h1, h2, h3, h4, h5⟩ := ih (m + 1) (setS st 13 (nI (m + 1))) (by omega) (by omega) (by omega) (sS_s _ _ _) (by rw [sS_n _ _ (by decide)]; exact e2)
      exact ⟨st', h1, h2, fun k k1 k2 => by rw [h3 k k1 k2, sS_n _ _ k2], h4, h5⟩
theorem X9_split_y {Y M d : Nat} (hY : Y ≤ 2199) (hM1 : 1 ≤ M) (hM : M ≤ 12) (hd1 : 1 ≤ d) (hd2 : d ≤ ml M Y) : ∀ (f y : Nat) (st : ST), Y - y < f → 1900 ≤ y → y ≤ Y → st.1 14 = nI y →
    ∃ st', fX9_split_9 f st (nI (ys Y - ys y + (mst Y M + d - 1))) = some st' ∧ st'.2 = st.2 ∧ (∀ k, k ≠ 12 → k ≠ 13 → k ≠ 14 → st'.1 k = st.1 k) ∧ st'.1 12 = nI d ∧ st'.1 13 = nI M ∧ st'.1 14 = nI Y := by
  intro f
  induction f with
  | zero => intro y st h; omega
  | succ f ih =>
    intro y st h g1 g2 e1
    have hyl := yl_in y
    have hyl2 := yl_in Y
    have b1 : mst Y (M + 1) ≤ mst Y 13 := mst_le (by omega)
    have b2 := ml_in M Y
    rw [mst_13, mst_s hM1] at b1
    have b3 := ys_le (y := Y) (by omega) (by omega)
    unfold fX9_split_9
    rw [e1, X9_isLeap_s (by omega), ob_s]
    by_cases q2 : y = Y
    · subst q2
      rw [Nat.sub_self, Nat.zero_add]
      obtain ⟨st', h1, h2, h3, h4, h5⟩ := X9_split_m hY hM hd1 hd2 1000 1 (setS st 13 1) (by omega) (by omega) hM1 (sS_s _ _ _) (by rw [sS_n _ _ (by decide)]; exact e1)
      rw [show mst y 1 = 0 from rfl, Nat.sub_zero] at h1
      refine ⟨st', ?_, h2, fun k k1 k2 k3 => by rw [h3 k k1 k2, sS_n _ _ k2], h4, h5, by rw [h3 14 (by decide) (by decide), sS_n _ _ (by decide)]; exact e1⟩
      cases q3 : lp y
      · have e3 : yl y = 365 := by simp [yl, q3]
        rw [if_pos (by simp), if_pos (show nI (mst y M + d - 1) < 365 from nI_lt (b := 365) (by omega) (by omega)), bnd_s]; exact h1
      · have e3 : yl y = 366 := by simp [yl, q3]
        rw [if_neg (by simp), if_pos (show nI (mst y M + d - 1) < 366 from nI_lt (b := 366) (by omega) (by omega)), bnd_s]; exact h1
    · have e := ys_s (y := y) g1 (by omega)
      have e2 := ys_mono (y := y + 1) (z := Y) (by omega) (by omega) (by omega)
      obtain ⟨st', h1, h2, h3, h4⟩ := ih (y + 1) (setS st 14 (nI (y + 1))) (by omega) (by omega) (by omega) (sS_s _ _ _)
      refine ⟨st', ?_, h2, fun k k1 k2 k3 => by rw [h3 k k1 k2 k3, sS_n _ _ k3], h4⟩
      cases q3 : lp y
      · have e3 : yl y = 365 := by simp [yl, q3]
        rw [if_pos (by simp), if_neg (show ¬ nI (ys Y - ys y + (mst Y M + d - 1)) < 365 from nI_nlt (b := 365) (by omega) (by omega)), ob_s, if_pos (by simp), bnd_s, bnd_s, bnd_s, show (365 : Int32) = nI 365 from rfl, pk_sub (by omega), nI_1, show ys Y - ys y + (mst Y M + d - 1) - 365 = ys Y - ys (y + 1) + (mst Y M + d - 1) by omega]
        exact h1
      · have e3 : yl y = 366 := by simp [yl, q3]
        rw [if_neg (by simp), if_neg (show ¬ nI (ys Y - ys y + (mst Y M + d - 1)) < 366 from nI_nlt (b := 366) (by omega) (by omega)), ob_s, if_neg (by simp), bnd_s, bnd_s, bnd_s, show (366 : Int32) = nI 366 from rfl, pk_sub (by omega), nI_1, show ys Y - ys y + (mst Y M + d - 1) - 366 = ys Y - ys (y + 1) + (mst Y M + d - 1) by omega]
        exact h1
theorem X9_split_s {n d m y : Nat} (h : dec n d m y) (st : ST) : ∃ st', fX9_split st (nI n) = some st' ∧ st'.2 = st.2 ∧ (∀ k, k ≠ 12 → k ≠ 13 → k ≠ 14 → st'.1 k = st.1 k) ∧ st'.1 12 = nI d ∧ st'.1 13 = nI m ∧ st'.1 14 = nI y := by
  obtain ⟨a1, a2, a3, a4, a5⟩ := dec_in h
  obtain ⟨e, h1, h2, h3, h4, h5, h6⟩ := h
  obtain ⟨st', g1, g2, g3, g4⟩ := X9_split_y h2 h3 h4 h5 h6 1000 1900 (setS st 14 1900) (by omega) (by omega) (by omega) (sS_s _ _ _)
  rw [ys_0, Nat.sub_zero, show ys y + (mst y m + d - 1) = n by omega] at g1
  refine ⟨st', ?_, g2, fun k k1 k2 k3 => by rw [g3 k k1 k2 k3, sS_n _ _ k3], g4⟩
  unfold fX9_split
  rw [bnd_s]
  exact g1
