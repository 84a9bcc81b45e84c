/-! Texts, 24 places each. -/
def txt (ls : List (List Nat)) (la ba : Nat) (st : ST) : Prop := ∀ r, r < ls.length → st.2 la r = nI (ls.getD r []).length ∧ ∀ i, i < (ls.getD r []).length → st.2 ba (24 * r + i) = nI ((ls.getD r []).getD i 0)
def okX (N : Nat) (ls : List (List Nat)) : Prop := ls.length ≤ N ∧ ∀ r, r < ls.length → (ls.getD r []).length ≤ 24 ∧ plain (ls.getD r [])
theorem gL_l {ls : List (List Nat)} {t : List Nat} {i : Nat} (h : i < ls.length) : (ls ++ [t]).getD i [] = ls.getD i [] := by
  rw [List.getD_eq_getElem?_getD, List.getD_eq_getElem?_getD, List.getElem?_append_left h]
theorem gL_r {ls : List (List Nat)} {t : List Nat} : (ls ++ [t]).getD ls.length [] = t := by
  rw [List.getD_eq_getElem?_getD]; simp
theorem okX_add {N : Nat} {ls : List (List Nat)} {t : List Nat} (h : okX N ls) (hN : ls.length < N) (hl : t.length ≤ 24) (hp : plain t) : okX N (ls ++ [t]) := by
  refine ⟨by rw [List.length_append]; exact hN, fun r hr => ?_⟩
  rw [List.length_append, List.length_singleton] at hr
  by_cases e : r = ls.length
  · subst e; rw [gL_r]; exact ⟨hl, hp⟩
  · rw [gL_l (by omega)]; exact h.2 r (by omega)
theorem txt_same {ls : List (List Nat)} {la ba : Nat} {st st' : ST} (h : txt ls la ba st) (h1 : st'.2 la = st.2 la) (h2 : st'.2 ba = st.2 ba) : txt ls la ba st' := by
  intro r hr
  rw [h1, h2]
  exact h r hr
/-- the rows behind a text that was laid down -/
theorem txt_add {ls : List (List Nat)} {la ba : Nat} {st st' : ST} {t : List Nat} {N : Nat} (h : txt ls la ba st) (ho : okX N ls) (h1 : st'.2 la = upd (st.2 la) ls.length (nI t.length)) (h2 : ∀ j, st'.2 ba j = if 24 * ls.length ≤ j ∧ j < 24 * ls.length + t.length then nI (t.getD (j - 24 * ls.length) 0) else st.2 ba j) : txt (ls ++ [t]) la ba st' := by
  intro r hr
  rw [List.length_append, List.length_singleton] at hr
  by_cases e : r = ls.length
  · subst e
    rw [gL_r, h1, pk_us]
    refine ⟨rfl, fun i hi => ?_⟩
    rw [h2, if_pos ⟨by omega, by omega⟩, show 24 * ls.length + i - 24 * ls.length = i by omega]
  · rw [gL_l (by omega), h1, pk_un e]
    have h3 := h r (by omega)
    have h4 := (ho.2 r (by omega)).1
    refine ⟨h3.1, fun i hi => ?_⟩
    rw [h2, if_neg (by omega)]
    exact h3.2 i hi
theorem X4_byteAt_s {t : List Nat} {st : ST} (hT : tapC t st) (ho : t.length ≤ 24) {i : Nat} (h : i < t.length) : fX4_byteAt st (nI i) = some (nI (t.getD i 0)) := by
  unfold fX4_byteAt
  rw [if_neg (nI_pos (by omega)), hT.1, if_pos (nI_lt h (by omega)), ix_n _ (by omega) (by omega), nI_clamp (by omega), hT.2 i h]
theorem X5_add_p_l {t : List Nat} {st : ST} (hT : tapC t st) (ho : t.length ≤ 24) {k : Nat} (hk : k < 8) (hs : st.1 3 = nI k) : ∀ (n i : Nat) (st1 : ST), t.length - i < n → i ≤ t.length → st1.1 = st.1 → (∀ j, j ≠ 1 → st1.2 j = st.2 j) → (∀ j, st1.2 1 j = if 24 * k ≤ j ∧ j < 24 * k + i then nI (t.getD (j - 24 * k) 0) else st.2 1 j) →
    ∃ st', fX5_add_p_22 n st1 (nI k) (nI t.length) (nI i) = some (nI k, st') ∧ st'.1 3 = nI (k + 1) ∧ tapC [] st' ∧ (∀ j, j ≠ 2 → j ≠ 3 → st'.1 j = st.1 j) ∧ (∀ j, j ≠ 1 → j ≠ 2 → st'.2 j = st.2 j) ∧ st'.2 2 = upd (st.2 2) k (nI t.length) ∧ (∀ j, st'.2 1 j = if 24 * k ≤ j ∧ j < 24 * k + t.length then nI (t.getD (j - 24 * k) 0) else st.2 1 j) := by
  intro n
  induction n with
  | zero => intro i st1 h; omega
  | succ n ih =>
    intro i st1 h hi e1 e2 e3
    unfold fX5_add_p_22
    by_cases q : i = t.length
    · subst q
      rw [if_pos (nI_le (Nat.le_refl _) (by omega)), ix_n _ hk (by omega), nI_clamp (by omega), bnd_s, bnd_s, bnd_s, sA_1, e1, hs, nI_1]
      unfold fX4_cut
      rw [if_neg (by decide), sS_n _ _ (by decide), sA_1, e1, hT.1, if_pos (show (0 : Int32) ≤ nI t.length from nI_pos' (by omega)), bnd_s, ob_s]
      refine ⟨_, rfl, ?_, ⟨sS_s _ _ _, fun i hi => absurd hi (Nat.not_lt_zero i)⟩, fun j h1 h2 => ?_, fun j h1 h2 => ?_, ?_, fun j => ?_⟩
      · rw [sS_n _ _ (by decide), sS_s]
      · rw [sS_n _ _ h1, sS_n _ _ h2, sA_1, e1]
      · rw [sS_2, sS_2, sA_n _ _ _ h2, e2 j h1]
      · rw [sS_2, sS_2, sA_s, e2 _ (by decide)]
      · rw [sS_2, sS_2, sA_n _ _ _ (by decide), e3]
    · have hlt : i < t.length := by omega
      have hT1 : tapC t st1 := ⟨by rw [e1]; exact hT.1, fun j hj => by rw [e2 0 (by decide)]; exact hT.2 j hj⟩
      rw [if_neg (nI_ge hlt (by omega)), if_neg (show ¬ (24 : Int32) ≤ nI i from nI_ge (b := 24) (by omega) (by omega)), X4_byteAt_s hT1 ho hlt, ob_s, show (24 : Int32) = nI 24 from rfl, pk_mul, nI_add, bnd_s, ix_n _ (by omega) (by omega), nI_clamp (by omega), bnd_s, bnd_s, nI_1]
      refine ih (i + 1) _ (by omega) (by omega) (by rw [sA_1, e1]) (fun j hj => by rw [sA_n _ _ _ hj, e2 j hj]) (fun j => ?_)
      by_cases ej : j = k * 24 + i
      · subst ej
        rw [sA_ss, if_pos ⟨by omega, by omega⟩, show k * 24 + i - 24 * k = i by omega]
      · rw [sA_sn _ _ _ ej, e3 j]
        by_cases z : 24 * k ≤ j ∧ j < 24 * k + i
        · rw [if_pos z, if_pos ⟨by omega, by omega⟩]
        · rw [if_neg z, if_neg (by omega)]
theorem X5_add_p_s {t : List Nat} {ls : List (List Nat)} {st : ST} (hT : tapC t st) (ho : t.length ≤ 24) (hk : ls.length < 8) (hs : st.1 3 = nI ls.length) (hx : okX 8 ls) (hX : txt ls 2 1 st) :
    ∃ st', fX5_add_p st = some (nI ls.length, st') ∧ st'.1 3 = nI (ls ++ [t]).length ∧ tapC [] st' ∧ txt (ls ++ [t]) 2 1 st' ∧ (∀ j, j ≠ 2 → j ≠ 3 → st'.1 j = st.1 j) ∧ (∀ j, j ≠ 1 → j ≠ 2 → st'.2 j = st.2 j) := by
  unfold fX5_add_p fX5_isFull_p fX4_length
  rw [hs, if_pos (show nI ls.length < 8 from nI_lt (b := 8) hk (by omega)), ob_s, if_pos rfl, bnd_s, ob_s, hT.1]
  obtain ⟨st', h1, h2, h3, h4, h5, h6, h7⟩ := X5_add_p_l hT ho hk hs 1000 0 st (by omega) (by omega) rfl (fun _ _ => rfl) (fun j => by rw [if_neg (by omega)])
  exact ⟨st', h1, by rw [List.length_append]; exact h2, h3, txt_add hX hx h6 h7, h4, h5⟩
theorem X5_add_c_l {t : List Nat} {st : ST} (hT : tapC t st) (ho : t.length ≤ 24) {k : Nat} (hk : k < 30) (hs : st.1 4 = nI k) : ∀ (n i : Nat) (st1 : ST), t.length - i < n → i ≤ t.length → st1.1 = st.1 → (∀ j, j ≠ 3 → st1.2 j = st.2 j) → (∀ j, st1.2 3 j = if 24 * k ≤ j ∧ j < 24 * k + i then nI (t.getD (j - 24 * k) 0) else st.2 3 j) →
    ∃ st', fX5_add_c_22 n st1 (nI k) (nI t.length) (nI i) = some (nI k, st') ∧ st'.1 4 = nI (k + 1) ∧ tapC [] st' ∧ (∀ j, j ≠ 2 → j ≠ 4 → st'.1 j = st.1 j) ∧ (∀ j, j ≠ 3 → j ≠ 4 → st'.2 j = st.2 j) ∧ st'.2 4 = upd (st.2 4) k (nI t.length) ∧ (∀ j, st'.2 3 j = if 24 * k ≤ j ∧ j < 24 * k + t.length then nI (t.getD (j - 24 * k) 0) else st.2 3 j) := by
  intro n
  induction n with
  | zero => intro i st1 h; omega
  | succ n ih =>
    intro i st1 h hi e1 e2 e3
    unfold fX5_add_c_22
    by_cases q : i = t.length
    · subst q
      rw [if_pos (nI_le (Nat.le_refl _) (by omega)), ix_n _ hk (by omega), nI_clamp (by omega), bnd_s, bnd_s, bnd_s, sA_1, e1, hs, nI_1]
      unfold fX4_cut
      rw [if_neg (by decide), sS_n _ _ (by decide), sA_1, e1, hT.1, if_pos (show (0 : Int32) ≤ nI t.length from nI_pos' (by omega)), bnd_s, ob_s]
      refine ⟨_, rfl, ?_, ⟨sS_s _ _ _, fun i hi => absurd hi (Nat.not_lt_zero i)⟩, fun j h1 h2 => ?_, fun j h1 h2 => ?_, ?_, fun j => ?_⟩
      · rw [sS_n _ _ (by decide), sS_s]
      · rw [sS_n _ _ h1, sS_n _ _ h2, sA_1, e1]
      · rw [sS_2, sS_2, sA_n _ _ _ h2, e2 j h1]
      · rw [sS_2, sS_2, sA_s, e2 _ (by decide)]
      · rw [sS_2, sS_2, sA_n _ _ _ (by decide), e3]
    · have hlt : i < t.length := by omega
      have hT1 : tapC t st1 := ⟨by rw [e1]; exact hT.1, fun j hj => by rw [e2 0 (by decide)]; exact hT.2 j hj⟩
      rw [if_neg (nI_ge hlt (by omega)), if_neg (show ¬ (24 : Int32) ≤ nI i from nI_ge (b := 24) (by omega) (by omega)), X4_byteAt_s hT1 ho hlt, ob_s, show (24 : Int32) = nI 24 from rfl, pk_mul, nI_add, bnd_s, ix_n _ (by omega) (by omega), nI_clamp (by omega), bnd_s, bnd_s, nI_1]
      refine ih (i + 1) _ (by omega) (by omega) (by rw [sA_1, e1]) (fun j hj => by rw [sA_n _ _ _ hj, e2 j hj]) (fun j => ?_)
      by_cases ej : j = k * 24 + i
      · subst ej
        rw [sA_ss, if_pos ⟨by omega, by omega⟩, show k * 24 + i - 24 * k = i by omega]
      · rw [sA_sn _ _ _ ej, e3 j]
        by_cases z : 24 * k ≤ j ∧ j < 24 * k + i
        · rw [if_pos z, if_pos ⟨by omega, by omega⟩]
        · rw [if_neg z, if_neg (by omega)]
theorem X5_add_c_s {t : List Nat} {ls : List (List Nat)} {st : ST} (hT : tapC t st) (ho : t.length ≤ 24) (hk : ls.length < 30) (hs : st.1 4 = nI ls.length) (hx : okX 30 ls) (hX : txt ls 4 3 st) :
    ∃ st', fX5_add_c st = some (nI ls.length, st') ∧ st'.1 4 = nI (ls ++ [t]).length ∧ tapC [] st' ∧ txt (ls ++ [t]) 4 3 st' ∧ (∀ j, j ≠ 2 → j ≠ 4 → st'.1 j = st.1 j) ∧ (∀ j, j ≠ 3 → j ≠ 4 → st'.2 j = st.2 j) := by
  unfold fX5_add_c fX5_isFull_c fX4_length
  rw [hs, if_pos (show nI ls.length < 30 from nI_lt (b := 30) hk (by omega)), ob_s, if_pos rfl, bnd_s, ob_s, hT.1]
  obtain ⟨st', h1, h2, h3, h4, h5, h6, h7⟩ := X5_add_c_l hT ho hk hs 1000 0 st (by omega) (by omega) rfl (fun _ _ => rfl) (fun j => by rw [if_neg (by omega)])
  exact ⟨st', h1, by rw [List.length_append]; exact h2, h3, txt_add hX hx h6 h7, h4, h5⟩
theorem X9_style_l {t : List Nat} {st : ST} (hT : tapM t st) (ho : t.length ≤ 24) (hp : plain t) (x : Int32) {k : Nat} (hk : k < 8) (hs : st.1 9 = nI k) : ∀ (n i : Nat) (st1 : ST), t.length - i < n → i ≤ t.length → st1.1 = st.1 → (∀ j, j ≠ 2 → st1.2 j = st.2 j) → (∀ j, st1.2 2 j = if 24 * k ≤ j ∧ j < 24 * k + i then nI (t.getD (j - 24 * k) 0) else st.2 2 j) →
    ∃ st', fX9_style_99 n st1 x (nI i) = some (nI k, st') ∧ st'.1 9 = nI (k + 1) ∧ tapM [] st' ∧ (∀ j, j ≠ 8 → j ≠ 9 → st'.1 j = st.1 j) ∧ (∀ j, j ≠ 2 → j ≠ 4 → j ≠ 5 → st'.2 j = st.2 j) ∧ st'.2 4 = upd (st.2 4) k (nI t.length) ∧ (∀ j, st'.2 2 j = if 24 * k ≤ j ∧ j < 24 * k + t.length then nI (t.getD (j - 24 * k) 0) else st.2 2 j) ∧ st'.2 5 = upd (st.2 5) k x := by
  intro n
  induction n with
  | zero => intro i st1 h; omega
  | succ n ih =>
    intro i st1 h hi e1 e2 e3
    unfold fX9_style_99
    rw [e1, hT.1]
    by_cases q : i = t.length
    · subst q
      rw [if_pos (nI_le (Nat.le_refl _) (by omega)), bnd_s, bnd_s, hs, ix_n _ hk (by omega), nI_clamp (by omega), bnd_s, sA_1, e1, hs, bnd_s, ix_n _ hk (by omega), nI_clamp (by omega), bnd_s, bnd_s, bnd_s, bnd_s, sA_1, sA_1, e1, hs, nI_1, sS_n _ _ (by decide), sS_s, show nI (k + 1) - 1 = nI k from pk_sub (a := k + 1) (b := 1) (by omega)]
      refine ⟨_, rfl, ?_, ⟨sS_s _ _ _, fun i hi => absurd hi (Nat.not_lt_zero i)⟩, fun j h1 h2 => ?_, fun j h1 h2 h3 => ?_, ?_, fun j => ?_, ?_⟩
      · rw [sS_n _ _ (by decide), sS_s]
      · rw [sS_n _ _ h1, sS_n _ _ h2, sA_1, sA_1, e1]
      · rw [sS_2, sS_2, sA_n _ _ _ h3, sA_n _ _ _ h2, e2 j h1]
      · rw [sS_2, sS_2, sA_n _ _ _ (by decide), sA_s, e2 _ (by decide)]
      · rw [sS_2, sS_2, sA_n _ _ _ (by decide), sA_n _ _ _ (by decide), e3]
      · rw [sS_2, sS_2, sA_s, sA_n _ _ _ (by decide), e2 _ (by decide)]
    · have hlt : i < t.length := by omega
      have hb := hp _ (gD_m hlt)
      rw [if_neg (nI_ge hlt (by omega)), ix_n _ (by omega) (by omega), nI_clamp (by omega), e2 1 (by decide), hT.2 i hlt, bnd_s, hs, show (24 : Int32) = nI 24 from rfl, pk_mul, nI_add, bnd_s, ix_n _ (by omega) (by omega), nI_clamp (by omega), bnd_s, bnd_s, nI_1, sg_nar (by omega)]
      refine ih (i + 1) _ (by omega) (by omega) (by rw [sA_1, e1]) (fun j hj => by rw [sA_n _ _ _ hj, e2 j hj]) (fun j => ?_)
      by_cases ej : j = 24 * k + i
      · subst ej
        rw [sA_ss, if_pos ⟨by omega, by omega⟩, show 24 * k + i - 24 * k = i by omega]
      · rw [sA_sn _ _ _ ej, e3 j]
        by_cases z : 24 * k ≤ j ∧ j < 24 * k + i
        · rw [if_pos z, if_pos ⟨by omega, by omega⟩]
        · rw [if_neg z, if_neg (by omega)]
theorem X9_row_l {t : List Nat} {st : ST} (hT : tapM t st) (ho : t.length ≤ 24) (hp : plain t) {k : Nat} (hk : k < 30) (hs : st.1 10 = nI k) : ∀ (n i : Nat) (st1 : ST), t.length - i < n → i ≤ t.length → st1.1 = st.1 → (∀ j, j ≠ 3 → st1.2 j = st.2 j) → (∀ j, st1.2 3 j = if 24 * k ≤ j ∧ j < 24 * k + i then nI (t.getD (j - 24 * k) 0) else st.2 3 j) →
    ∃ st', fX9_row_25 n st1 (nI i) = some (nI k, st') ∧ st'.1 10 = nI (k + 1) ∧ tapM [] st' ∧ (∀ j, j ≠ 8 → j ≠ 10 → st'.1 j = st.1 j) ∧ (∀ j, j ≠ 3 → j ≠ 6 → st'.2 j = st.2 j) ∧ st'.2 6 = upd (st.2 6) k (nI t.length) ∧ (∀ j, st'.2 3 j = if 24 * k ≤ j ∧ j < 24 * k + t.length then nI (t.getD (j - 24 * k) 0) else st.2 3 j) := by
  intro n
  induction n with
  | zero => intro i st1 h; omega
  | succ n ih =>
    intro i st1 h hi e1 e2 e3
    unfold fX9_row_25
    rw [e1, hT.1]
    by_cases q : i = t.length
    · subst q
      rw [if_pos (nI_le (Nat.le_refl _) (by omega)), bnd_s, bnd_s, hs, ix_n _ hk (by omega), nI_clamp (by omega), bnd_s, bnd_s, bnd_s, bnd_s, sA_1, e1, hs, nI_1, sS_n _ _ (by decide), sS_s, show nI (k + 1) - 1 = nI k from pk_sub (a := k + 1) (b := 1) (by omega)]
      refine ⟨_, rfl, ?_, ⟨sS_s _ _ _, fun i hi => absurd hi (Nat.not_lt_zero i)⟩, fun j h1 h2 => ?_, fun j h1 h2 => ?_, ?_, fun j => ?_⟩
      · rw [sS_n _ _ (by decide), sS_s]
      · rw [sS_n _ _ h1, sS_n _ _ h2, sA_1, e1]
      · rw [sS_2, sS_2, sA_n _ _ _ h2, e2 j h1]
      · rw [sS_2, sS_2, sA_s, e2 _ (by decide)]
      · rw [sS_2, sS_2, sA_n _ _ _ (by decide), e3]
    · have hlt : i < t.length := by omega
      have hb := hp _ (gD_m hlt)
      rw [if_neg (nI_ge hlt (by omega)), ix_n _ (by omega) (by omega), nI_clamp (by omega), e2 1 (by decide), hT.2 i hlt, bnd_s, hs, show (24 : Int32) = nI 24 from rfl, pk_mul, nI_add, bnd_s, ix_n _ (by omega) (by omega), nI_clamp (by omega), bnd_s, bnd_s, nI_1, sg_nar (by omega)]
      refine ih (i + 1) _ (by omega) (by omega) (by rw [sA_1, e1]) (fun j hj => by rw [sA_n _ _ _ hj, e2 j hj]) (fun j => ?_)
      by_cases ej : j = 24 * k + i
      · subst ej
        rw [sA_ss, if_pos ⟨by omega, by omega⟩, show 24 * k + i - 24 * k = i by omega]
      · rw [sA_sn _ _ _ ej, e3 j]
        by_cases z : 24 * k ≤ j ∧ j < 24 * k + i
        · rw [if_pos z, if_pos ⟨by omega, by omega⟩]
        · rw [if_neg z, if_neg (by omega)]
