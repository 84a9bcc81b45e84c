/-! Writing by a pattern, and comparing with a cell. -/
theorem wrk_32 {n d m y : Nat} {p : List Nat} (hp : isPat p) (hl : p.length ≤ 24) {k : Nat} (h : k ≤ p.length) : (wrk n d m y p k).length ≤ 32 := by
  have h1 := wrk_len (n := n) (d := d) (m := m) (y := y) h
  have h2 := wl_pat hp hl
  omega
theorem plain_at {p : List Nat} (h : plain p) {k : Nat} (hk : k < p.length) : 32 ≤ p.getD k 0 ∧ p.getD k 0 ≤ 126 := by
  rw [List.getD_eq_getElem?_getD, List.getElem?_eq_getElem hk]
  exact h _ (List.getElem_mem hk)
theorem pb_lt {n d m y p : Nat} (h : dec n d m y) (hp : p < 128) : ∀ b ∈ pb n d m y p, b < 128 := by
  have hi := dec_in h
  obtain ⟨h0, h1, h2, h3, h4, h5, h6⟩ := h
  have htw : ∀ v, v < 100 → ∀ b ∈ tw v, b < 128 := by
    intro v hv b hb
    unfold tw at hb
    simp only [List.mem_cons, List.not_mem_nil, or_false] at hb
    omega
  have hsv : ∀ v, v < 100 → ∀ b ∈ sv v, b < 128 := by
    intro v hv b hb
    unfold sv at hb
    split at hb
    · simp only [List.mem_cons, List.not_mem_nil, or_false] at hb
      omega
    · exact htw v hv b hb
  have hM : ∀ w, w < 12 → ∀ b ∈ wd nMO w, b < 128 := by
    intro w hw b hb
    unfold wd at hb
    simp only [List.mem_cons, List.not_mem_nil, or_false] at hb
    have t0 := (tMO_n (w * 3) (by omega)).2
    have t1 := (tMO_n (w * 3 + 1) (by omega)).2
    have t2 := (tMO_n (w * 3 + 2) (by omega)).2
    rcases hb with rfl | rfl | rfl <;> assumption
  have hW : ∀ w, w < 7 → ∀ b ∈ wd nWD w, b < 128 := by
    intro w hw b hb
    unfold wd at hb
    simp only [List.mem_cons, List.not_mem_nil, or_false] at hb
    have t0 := (tWD_n (w * 3) (by omega)).2
    have t1 := (tWD_n (w * 3 + 1) (by omega)).2
    have t2 := (tWD_n (w * 3 + 2) (by omega)).2
    rcases hb with rfl | rfl | rfl <;> assumption
  unfold pb
  by_cases a1 : p = 68
  · rw [if_pos a1]; exact hsv d (by omega)
  · rw [if_neg a1]
    by_cases a2 : p = 77
    · rw [if_pos a2]; exact hsv m (by omega)
    · rw [if_neg a2]
      by_cases a3 : p = 78
      · rw [if_pos a3]; exact hM _ (by omega)
      · rw [if_neg a3]
        by_cases a4 : p = 87
        · rw [if_pos a4]; exact hW _ (by omega)
        · rw [if_neg a4]
          by_cases a5 : p = 89
          · rw [if_pos a5]
            intro b hb
            rcases List.mem_append.mp hb with q | q
            · exact htw _ (by omega) b q
            · exact htw _ (by omega) b q
          · rw [if_neg a5]
            by_cases a6 : p = 121
            · rw [if_pos a6]; exact htw _ (by omega)
            · rw [if_neg a6]
              intro b hb
              simp only [List.mem_cons, List.not_mem_nil, or_false] at hb
              omega
theorem wrk_lt {n d m y : Nat} {p : List Nat} (h : dec n d m y) (hp : plain p) : ∀ {k : Nat}, k ≤ p.length → ∀ b ∈ wrk n d m y p k, b < 128 := by
  intro k
  induction k with
  | zero => intro _ b hb; cases hb
  | succ k ih =>
    intro hk b hb
    have := plain_at hp (show k < p.length by omega)
    rcases List.mem_append.mp hb with q | q
    · exact ih (by omega) b q
    · exact pb_lt h (by omega) b q
theorem X1_setDown_l {n d m y s : Nat} {ps : List (List Nat)} {p : List Nat} (h : dec n d m y) (hx : okX 8 ps) (hs : s < ps.length) (ep : ps.getD s [] = p) (hp : isPat p) : ∀ (N k : Nat) (st : ST), p.length - k < N → k ≤ p.length → st.1 3 = nI ps.length → txt ps 2 1 st → pen 15 15 (wrk n d m y p k) st →
    ∃ st', fX1_setDown_15 N st (nI n) (nI s) (nI p.length) (nI k) = some st' ∧ fP 15 15 st st' ∧ pen 15 15 (wrk n d m y p p.length) st' := by
  have hl : p.length ≤ 24 := by rw [← ep]; exact (hx.2 s hs).1
  intro N
  induction N with
  | zero => intro k st h; omega
  | succ N ih =>
    intro k st hN hk h3 hX hP
    unfold fX1_setDown_15
    by_cases q : k = p.length
    · subst q
      rw [if_pos (nI_le (Nat.le_refl _) (by omega))]
      exact ⟨st, rfl, fP_r _ _ _, hP⟩
    · have hlt : k < p.length := by omega
      have hb := plain_at hp.1 hlt
      have hB := X5_byteAt_p_s h3 hx hX hs (k := k) (by rw [ep]; exact hlt)
      rw [ep] at hB
      have hlen := wrk_32 (n := n) (d := d) (m := m) (y := y) hp hl (show k + 1 ≤ p.length by omega)
      have hlen' : (wrk n d m y p k).length + (pb n d m y (p.getD k 0)).length ≤ 32 := by
        unfold wrk at hlen; rw [List.length_append] at hlen; exact hlen
      obtain ⟨s1, g1, g2, g3⟩ := X1_part_s h (show p.getD k 0 < 128 by omega) _ st hP hlen'
      rw [if_neg (nI_ge hlt (by omega)), hB, ob_s, show fX1_putPart st (nI (p.getD k 0)) (nI n) = _ from g1, ob_s, bnd_s, nI_1]
      obtain ⟨st', a1, a2, a3⟩ := ih (k + 1) s1 (by omega) (by omega) (by rw [g2.1 3 (by decide)]; exact h3) (txt_same hX (g2.2 2 (by decide)) (g2.2 1 (by decide))) g3
      exact ⟨st', a1, fP_t g2 a2, a3⟩
theorem pen_0 {na ra : Nat} (st : ST) : pen na ra [] (setS st na 0) := ⟨sS_s _ _ _, fun i hi => absurd hi (Nat.not_lt_zero i)⟩
theorem X1_setDown_s {n d m y s : Nat} {ps : List (List Nat)} {st : ST} (h : dec n d m y) (hx : okX 8 ps) (hs : s < ps.length) (hp : isPat (ps.getD s [])) (h3 : st.1 3 = nI ps.length) (hX : txt ps 2 1 st) :
    ∃ st', fX1_setDown st (nI n) (nI s) = some st' ∧ fP 15 15 st st' ∧ pen 15 15 (wrk n d m y (ps.getD s []) (ps.getD s []).length) st' := by
  have hl := (hx.2 s hs).1
  unfold fX1_setDown
  have h3' : (setS st 15 0).1 3 = nI ps.length := by rw [sS_n _ _ (by decide)]; exact h3
  rw [bnd_s, X5_lengthOf_p_s h3' hx (txt_same hX rfl rfl) hs, ob_s]
  obtain ⟨st', a1, a2, a3⟩ := X1_setDown_l h hx hs rfl hp 1000 0 (setS st 15 0) (by omega) (by omega) h3' (txt_same hX rfl rfl) (pen_0 st)
  exact ⟨st', a1, ⟨fun k hk => by rw [a2.1 k hk, sS_n _ _ hk], fun k hk => by rw [a2.2 k hk]; rfl⟩, a3⟩
theorem X1_byteAt_s {L : List Nat} {st : ST} (hP : pen 15 15 L st) (hl : L.length ≤ 32) (x : Int32) : fX1_byteAt st x = some (if x < 0 ∨ nI L.length ≤ x then -1 else nI (L.getD x.toNatClampNeg 0)) := by
  unfold fX1_byteAt
  rw [hP.1]
  rcases i_cases x with hx | ⟨j, hj, rfl⟩
  · rw [if_pos hx, if_pos (Or.inl hx)]
  · rw [if_neg (nI_pos hj)]
    by_cases q : j < L.length
    · rw [if_pos (nI_lt q (by omega)), ix_n _ (by omega) (by omega), nI_clamp hj, hP.2 j q, if_neg (fun z => by
        rcases z with z | z
        · exact nI_pos hj z
        · exact nI_ge q (by omega) z)]
    · rw [if_neg (nI_nlt (by omega) hj), if_pos (Or.inr (nI_le (by omega) hj))]
theorem l_ext {L c : List Nat} (h : L.length = c.length) (h2 : ∀ i, i < L.length → L.getD i 0 = c.getD i 0) : L = c := by
  refine List.ext_getElem h (fun i h3 h4 => ?_)
  have := h2 i h3
  rw [List.getD_eq_getElem?_getD, List.getD_eq_getElem?_getD, List.getElem?_eq_getElem h3, List.getElem?_eq_getElem h4] at this
  exact this
theorem l_at {L : List Nat} {B : Nat} (h : ∀ b ∈ L, b < B) {i : Nat} (hi : i < L.length) : L.getD i 0 < B := by
  rw [List.getD_eq_getElem?_getD, List.getElem?_eq_getElem hi]
  exact h _ (List.getElem_mem hi)
theorem X1_equals_l {L : List Nat} {cs : List (List Nat)} {r : Nat} {st : ST} (hP : pen 15 15 L st) (hl : L.length ≤ 32) (hb : ∀ b ∈ L, b < 128) (hx : okX 30 cs) (hr : r < cs.length) (h4 : st.1 4 = nI cs.length) (hX : txt cs 4 3 st) (he : L.length = (cs.getD r []).length) : ∀ N k : Nat, L.length - k < N → k ≤ L.length → (∀ i, i < k → L.getD i 0 = (cs.getD r []).getD i 0) → fX1_equalsText_16 N st (nI r) (nI k) = some (if L = cs.getD r [] then 1 else 0) := by
  intro N
  induction N with
  | zero => intro k h; omega
  | succ N ih =>
    intro k hN hk h
    unfold fX1_equalsText_16
    rw [hP.1]
    by_cases q : k = L.length
    · subst q
      rw [if_pos (nI_le (Nat.le_refl _) (by omega)), if_pos (l_ext he h)]
    · have hlt : k < L.length := by omega
      have b1 := l_at hb hlt
      have b2 := plain_at (hx.2 r hr).2 (show k < (cs.getD r []).length by omega)
      rw [if_neg (nI_ge hlt (by omega)), X1_byteAt_s hP hl, ob_s, X5_byteAt_c_s h4 hx hX hr (by omega), ob_s, nI_clamp (by omega), if_neg (show ¬ (nI k < 0 ∨ nI L.length ≤ nI k) from fun z => by
        rcases z with z | z
        · exact nI_pos (by omega) z
        · exact nI_ge hlt (by omega) z)]
      by_cases e : L.getD k 0 = (cs.getD r []).getD k 0
      · rw [if_pos (by rw [e]), bnd_s, nI_1]
        exact ih (k + 1) (by omega) (by omega) (fun i hi => by
          by_cases z : i = k
          · subst z; exact e
          · exact h i (by omega))
      · rw [if_neg (fun z => e ((nI_eq (by omega) (by omega)).mp z)), if_neg (fun z => e (by rw [z]))]
theorem X1_equals_s {L : List Nat} {cs : List (List Nat)} {r : Nat} {st : ST} (hP : pen 15 15 L st) (hl : L.length ≤ 32) (hb : ∀ b ∈ L, b < 128) (hx : okX 30 cs) (hr : r < cs.length) (h4 : st.1 4 = nI cs.length) (hX : txt cs 4 3 st) : fX1_equalsText st (nI r) = some (if L = cs.getD r [] then 1 else 0) := by
  have := (hx.2 r hr).1
  unfold fX1_equalsText
  rw [X5_lengthOf_c_s h4 hx hX hr, ob_s, hP.1]
  by_cases e : L.length = (cs.getD r []).length
  · rw [if_pos (by rw [e])]
    exact X1_equals_l hP hl hb hx hr h4 hX e 1000 0 (by omega) (by omega) (fun i hi => absurd hi (Nat.not_lt_zero i))
  · rw [if_neg (fun z => e ((nI_eq (by omega) (by omega)).mp z)), if_neg (fun z => e (by rw [z]))]
/-! The model's. -/
theorem nz_n {β : Type} {k : Nat} (K : Option β) (h : 0 < k) (hk : k < 2 ^ 31) : nz (nI k) K = K := by
  unfold nz
  rw [if_neg (fun z => by have := (nI_eq (b := 0) hk (by decide)).mp z; omega)]
theorem fig_e (n : Nat) (x : Int32) : Pu 26 13 200 (fun st => fX9_figures_37 (n + 1) st x (nI 0)) [] := by
  refine Pu_e Pu_0 (fun st => ?_)
  show fX9_figures_37 (n + 1) st x (nI 0) = _
  rw [fX9_figures_37, if_pos (by decide)]
theorem fig_s {v k n : Nat} {bs : List Nat} (hk : 0 < k) (hk' : k < 2 ^ 31) (hv : v < 2 ^ 31) (h : Pu 26 13 200 (fun st => fX9_figures_37 n st (nI v) (nI (k / 10))) bs) : Pu 26 13 200 (fun st => fX9_figures_37 (n + 1) st (nI v) (nI k)) ((48 + v / k % 10) :: bs) := by
  refine Pu_e (Pu_t (X9_puts_s (b := 48 + v / k % 10) (by omega)) h) (fun st => ?_)
  have hd : v / k < 2 ^ 31 := Nat.lt_of_le_of_lt (Nat.div_le_self v k) hv
  show fX9_figures_37 (n + 1) st (nI v) (nI k) = _
  rw [fX9_figures_37, if_neg (show ¬ nI k ≤ 0 from nI_ge (a := 0) hk hk'), nz_n _ hk hk', pk_div hv hk hk', show (10 : Int32) = nI 10 from rfl, pk_rem hd (by decide) (by decide), pk_div hk' (by decide) (by decide), show (48 : Int32) = nI 48 from rfl, nI_add]
  simp only [bnd_s]
theorem f6_m {n v l c t : Nat} {st : ST} (hv : v < 2 ^ 31) (hl : l < 2 ^ 31) (hc : c < 2 ^ 31) (ht : t < 2 ^ 31) (h : c < l ∨ t ≤ v) : fX9_figures_6 (n + 1) st (nI v) (nI l) (nI c) (nI t) = fX9_figures_6 n st (nI v) (nI l) (nI (c + 1)) (nI (t * 10)) := by
  rw [fX9_figures_6]
  simp only [bnd_s]
  rw [nI_1, show (10 : Int32) = nI 10 from rfl, pk_mul]
  by_cases q : c < l
  · rw [if_pos (nI_lt q hl)]
  · rw [if_neg (nI_nlt (by omega) hc), if_neg (nI_nlt (by omega) hv)]
theorem f6_d {n v l c t : Nat} {st : ST} (hv : v < 2 ^ 31) (hc : c < 2 ^ 31) (ht : t < 2 ^ 31) (h : l ≤ c) (h2 : v < t) : fX9_figures_6 (n + 1) st (nI v) (nI l) (nI c) (nI t) = fX9_figures_37 1000 st (nI v) (nI (t / 10)) := by
  rw [fX9_figures_6, if_neg (nI_nlt h hc), if_pos (nI_lt h2 ht), bnd_s, show (10 : Int32) = nI 10 from rfl, pk_div ht (by decide) (by decide)]
theorem X9_fig_1 {v : Nat} (hv : v < 100) : Pu 26 13 200 (fun st => fX9_figures st (nI v) 1) (sv v) := by
  unfold sv
  by_cases q : v < 10
  · rw [if_pos q]
    have h := fig_s (v := v) (k := 1) (by decide) (by decide) (by omega) (fig_e 998 (nI v))
    rw [show 48 + v / 1 % 10 = 48 + v by omega] at h
    exact Pu_e h (fun st => f6_d (n := 999) (v := v) (l := 1) (c := 1) (t := 10) (by omega) (by decide) (by decide) (by decide) q)
  · rw [if_neg q]
    have h := fig_s (v := v) (k := 10) (by decide) (by decide) (by omega) (fig_s (v := v) (k := 1) (n := 998) (by decide) (by decide) (by omega) (fig_e 997 (nI v)))
    rw [show 48 + v / 1 % 10 = 48 + v % 10 by omega, show 48 + v / 10 % 10 = 48 + v / 10 by omega] at h
    exact Pu_e h (fun st => (f6_m (n := 999) (v := v) (l := 1) (c := 1) (t := 10) (by omega) (by decide) (by decide) (by decide) (by omega)).trans (f6_d (n := 998) (by omega) (by decide) (by decide) (by decide) (by omega)))
theorem X9_fig_2 {v : Nat} (hv : v < 100) : Pu 26 13 200 (fun st => fX9_figures st (nI v) 2) (tw v) := by
  have h := fig_s (v := v) (k := 10) (by decide) (by decide) (by omega) (fig_s (v := v) (k := 1) (n := 998) (by decide) (by decide) (by omega) (fig_e 997 (nI v)))
  rw [show 48 + v / 1 % 10 = 48 + v % 10 by omega, show 48 + v / 10 % 10 = 48 + v / 10 by omega] at h
  exact Pu_e h (fun st => (f6_m (n := 999) (v := v) (l := 2) (c := 1) (t := 10) (by omega) (by decide) (by decide) (by decide) (by omega)).trans (f6_d (n := 998) (by omega) (by decide) (by decide) (by decide) (by omega)))
theorem X9_fig_4 {v : Nat} (hv : v < 10000) : Pu 26 13 200 (fun st => fX9_figures st (nI v) 4) (tw (v / 100) ++ tw (v % 100)) := by
  have h := fig_s (v := v) (k := 1000) (n := 999) (by decide) (by decide) (by omega) (fig_s (v := v) (k := 100) (n := 998) (by decide) (by decide) (by omega) (fig_s (v := v) (k := 10) (n := 997) (by decide) (by decide) (by omega) (fig_s (v := v) (k := 1) (n := 996) (by decide) (by decide) (by omega) (fig_e 995 (nI v)))))
  rw [show 48 + v / 1 % 10 = 48 + v % 100 % 10 by omega, show 48 + v / 10 % 10 = 48 + v % 100 / 10 by omega, show 48 + v / 100 % 10 = 48 + v / 100 % 10 from rfl, show 48 + v / 1000 % 10 = 48 + v / 100 / 10 by omega] at h
  exact Pu_e h (fun st => (f6_m (n := 999) (v := v) (l := 4) (c := 1) (t := 10) (by omega) (by decide) (by decide) (by decide) (by omega)).trans ((f6_m (n := 998) (v := v) (l := 4) (c := 2) (t := 100) (by omega) (by decide) (by decide) (by decide) (by omega)).trans ((f6_m (n := 997) (v := v) (l := 4) (c := 3) (t := 1000) (by omega) (by decide) (by decide) (by decide) (by omega)).trans (f6_d (n := 996) (v := v) (l := 4) (c := 4) (t := 10000) (by omega) (by decide) (by decide) (by decide) (by omega)))))
theorem wd_d {T : List Nat} {w i : Nat} (h : i < 3) : (wd T w).drop i = T.getD (w * 3 + i) 0 :: (wd T w).drop (i + 1) := by
  rcases (show i = 0 ∨ i = 1 ∨ i = 2 by omega) with rfl | rfl | rfl <;> rfl
theorem X9_w150 {m : Nat} {a b c : Int32} (h1 : 1 ≤ m) (h2 : m ≤ 12) : ∀ (j i N : Nat) (L : List Nat) (st : ST), i + j = 3 → j < N → pen 26 13 L st → st.1 13 = nI m → L.length + j ≤ 200 → ∃ st', fX9_writes_150 N st a b c (nI i) = some st' ∧ fP 26 13 st st' ∧ pen 26 13 (L ++ (wd nMO (m - 1)).drop i) st' := by
  intro j
  induction j with
  | zero =>
    intro i N L st hi hN hP h13 hl
    obtain ⟨N, rfl⟩ : ∃ k, N = k + 1 := ⟨N - 1, by omega⟩
    have : i = 3 := by omega
    subst this
    rw [fX9_writes_150, if_pos (by decide)]
    exact ⟨st, rfl, fP_r _ _ _, by rw [show (wd nMO (m - 1)).drop 3 = [] from rfl, List.append_nil]; exact hP⟩
  | succ j ih =>
    intro i N L st hi hN hP h13 hl
    obtain ⟨N, rfl⟩ : ∃ k, N = k + 1 := ⟨N - 1, by omega⟩
    obtain ⟨t1, t2⟩ := tMO_n ((m - 1) * 3 + i) (by omega)
    obtain ⟨s1, g1, g2, g3⟩ := X9_puts_s t2 L st hP (show L.length + 1 ≤ 200 by omega)
    rw [fX9_writes_150, if_neg (show ¬ (3 : Int32) ≤ nI i from nI_ge (b := 3) (by omega) (by omega))]
    unfold fJ0_charAt_5068e_3
    rw [h13, show (3 : Int32) = nI 3 from rfl, pk_mul, pk_sub (by omega), nI_add, show 3 * m - 3 + i = (m - 1) * 3 + i by omega, ix_n _ (by omega) (by omega), nI_clamp (by omega), ob_s, t1, show fX9_puts st (nI (nMO.getD ((m - 1) * 3 + i) 0)) = _ from g1, ob_s, bnd_s, nI_1]
    obtain ⟨st', a1, a2, a3⟩ := ih (i + 1) N _ s1 (by omega) (by omega) g3 (by rw [g2.1 13 (by decide)]; exact h13) (by rw [List.length_append]; show L.length + 1 + j ≤ 200; omega)
    refine ⟨st', a1, fP_t g2 a2, ?_⟩
    rw [wd_d (by omega), show L ++ nMO.getD ((m - 1) * 3 + i) 0 :: (wd nMO (m - 1)).drop (i + 1) = L ++ [nMO.getD ((m - 1) * 3 + i) 0] ++ (wd nMO (m - 1)).drop (i + 1) by rw [List.append_assoc]; rfl]
    exact a3
theorem X9_w188 {n : Nat} {b c : Int32} (hn : n < 2 ^ 31) : ∀ (j i N : Nat) (L : List Nat) (st : ST), i + j = 3 → j < N → pen 26 13 L st → L.length + j ≤ 200 → ∃ st', fX9_writes_188 N st (nI n) b c (nI i) = some st' ∧ fP 26 13 st st' ∧ pen 26 13 (L ++ (wd nWD (n % 7)).drop i) st' := by
  intro j
  induction j with
  | zero =>
    intro i N L st hi hN hP hl
    obtain ⟨N, rfl⟩ : ∃ k, N = k + 1 := ⟨N - 1, by omega⟩
    have : i = 3 := by omega
    subst this
    rw [fX9_writes_188, if_pos (by decide)]
    exact ⟨st, rfl, fP_r _ _ _, by rw [show (wd nWD (n % 7)).drop 3 = [] from rfl, List.append_nil]; exact hP⟩
  | succ j ih =>
    intro i N L st hi hN hP hl
    obtain ⟨N, rfl⟩ : ∃ k, N = k + 1 := ⟨N - 1, by omega⟩
    obtain ⟨t1, t2⟩ := tWD_n (n % 7 * 3 + i) (by omega)
    obtain ⟨s1, g1, g2, g3⟩ := X9_puts_s t2 L st hP (show L.length + 1 ≤ 200 by omega)
    rw [fX9_writes_188, if_neg (show ¬ (3 : Int32) ≤ nI i from nI_ge (b := 3) (by omega) (by omega))]
    unfold fJ0_charAt_5068e_4
    rw [show (7 : Int32) = nI 7 from rfl, pk_rem hn (by decide) (by decide), show (3 : Int32) = nI 3 from rfl, pk_mul, nI_add, show 3 * (n % 7) + i = n % 7 * 3 + i by omega, ix_n _ (by omega) (by omega), nI_clamp (by omega), ob_s, t1, show fX9_puts st (nI (nWD.getD (n % 7 * 3 + i) 0)) = _ from g1, ob_s, bnd_s, nI_1]
    obtain ⟨st', a1, a2, a3⟩ := ih (i + 1) N _ s1 (by omega) (by omega) g3 (by rw [List.length_append]; show L.length + 1 + j ≤ 200; omega)
    refine ⟨st', a1, fP_t g2 a2, ?_⟩
    rw [wd_d (by omega), show L ++ nWD.getD (n % 7 * 3 + i) 0 :: (wd nWD (n % 7)).drop (i + 1) = L ++ [nWD.getD (n % 7 * 3 + i) 0] ++ (wd nWD (n % 7)).drop (i + 1) by rw [List.append_assoc]; rfl]
    exact a3
theorem X9_writes_l {n d m y s : Nat} {ps : List (List Nat)} {p : List Nat} (h : dec n d m y) (hx : okX 8 ps) (hs : s < ps.length) (ep : ps.getD s [] = p) (hp : isPat p) : ∀ (N k : Nat) (st : ST), p.length - k < N → k ≤ p.length → txt ps 4 2 st → st.1 12 = nI d → st.1 13 = nI m → st.1 14 = nI y → pen 26 13 (wrk n d m y p k) st →
    ∃ st', fX9_writes_12 N st (nI n) (nI s) (nI k) = some st' ∧ fP 26 13 st st' ∧ pen 26 13 (wrk n d m y p p.length) st' := by
  have hl : p.length ≤ 24 := by rw [← ep]; exact (hx.2 s hs).1
  have hls := hx.1
  have hi := dec_in h
  obtain ⟨h0, h1, h2, h3, h4, h5, h6⟩ := id h
  intro N
  induction N with
  | zero => intro k st h; omega
  | succ N ih =>
    intro k st hN hk hX h12 h13 h14 hP
    obtain ⟨x1, x2⟩ := hX s hs
    rw [ep] at x1 x2
    rw [fX9_writes_12, ix_n _ (by omega) (by omega), nI_clamp (by omega), x1]
    by_cases q : k = p.length
    · subst q
      rw [if_pos (nI_le (Nat.le_refl _) (by omega))]
      exact ⟨st, rfl, fP_r _ _ _, hP⟩
    · have hlt : k < p.length := by omega
      have hb := plain_at hp.1 hlt
      have hlen := wrk_32 (n := n) (d := d) (m := m) (y := y) hp hl (show k + 1 ≤ p.length by omega)
      have hlen' : (wrk n d m y p k).length + (pb n d m y (p.getD k 0)).length ≤ 32 := by
        unfold wrk at hlen; rw [List.length_append] at hlen; exact hlen
      have next : ∀ s1, fP 26 13 st s1 → pen 26 13 (wrk n d m y p (k + 1)) s1 → ∃ st', fX9_writes_12 N s1 (nI n) (nI s) (nI (k + 1)) = some st' ∧ fP 26 13 st st' ∧ pen 26 13 (wrk n d m y p p.length) st' := by
        intro s1 f1 p1
        obtain ⟨st', a1, a2, a3⟩ := ih (k + 1) s1 (by omega) (by omega) (txt_same hX (f1.2 4 (by decide)) (f1.2 2 (by decide))) (by rw [f1.1 12 (by decide)]; exact h12) (by rw [f1.1 13 (by decide)]; exact h13) (by rw [f1.1 14 (by decide)]; exact h14) p1
        exact ⟨st', a1, fP_t f1 a2, a3⟩
      have go : ∀ (f : ST → Option ST) (bs : List Nat), Pu 26 13 200 f bs → pb n d m y (p.getD k 0) = bs → ∃ st', (ob (f st) fun o => fX9_writes_12 N o (nI n) (nI s) (nI (k + 1))) = some st' ∧ fP 26 13 st st' ∧ pen 26 13 (wrk n d m y p p.length) st' := by
        intro f bs hf e
        rw [e] at hlen'
        obtain ⟨s1, g1, g2, g3⟩ := hf _ st hP (by omega)
        rw [g1, ob_s]
        exact next s1 g2 (by unfold wrk; rw [e]; exact g3)
      rw [if_neg (nI_ge hlt (by omega)), show (24 : Int32) * nI s = nI (24 * s) from pk_mul 24 s, nI_add, bnd_s, ix_n _ (by omega) (by omega), nI_clamp (by omega), bnd_s, x2 k hlt, h12, h13, h14]
      simp only [bnd_s]
      rw [nI_1, show (100 : Int32) = nI 100 from rfl, pk_rem (by omega) (by decide) (by decide)]
      rw [show (68 : Int32) = nI 68 from rfl, show (77 : Int32) = nI 77 from rfl, show (78 : Int32) = nI 78 from rfl, show (87 : Int32) = nI 87 from rfl, show (89 : Int32) = nI 89 from rfl, show (121 : Int32) = nI 121 from rfl]
      rw [eqI (by omega) (by omega), eqI (by omega) (by omega), eqI (by omega) (by omega), eqI (by omega) (by omega), eqI (by omega) (by omega), eqI (by omega) (by omega)]
      have epb : pb n d m y (p.getD k 0) = if p.getD k 0 = 68 then sv d else if p.getD k 0 = 77 then sv m else if p.getD k 0 = 78 then wd nMO (m - 1) else if p.getD k 0 = 87 then wd nWD (n % 7) else if p.getD k 0 = 89 then tw (y / 100) ++ tw (y % 100) else if p.getD k 0 = 121 then tw (y % 100) else [p.getD k 0] := rfl
      by_cases a1 : p.getD k 0 = 68
      · rw [if_pos a1] at epb ⊢; exact go (fun st => fX9_figures st (nI d) 1) _ (X9_fig_1 (by omega)) epb
      · rw [if_neg a1] at epb ⊢
        by_cases a2 : p.getD k 0 = 77
        · rw [if_pos a2] at epb ⊢; exact go (fun st => fX9_figures st (nI m) 1) _ (X9_fig_1 (by omega)) epb
        · rw [if_neg a2] at epb ⊢
          by_cases a3 : p.getD k 0 = 78
          · rw [if_pos a3] at epb ⊢
            rw [epb] at hlen'
            have hlen3 : (wrk n d m y p k).length + 3 ≤ 32 := hlen'
            obtain ⟨s1, g1, g2, g3⟩ := X9_w150 (a := nI n) (b := nI s) (c := nI k) h3 h4 3 0 1000 _ st rfl (by omega) hP h13 (by omega)
            rw [show fX9_writes_150 1000 st (nI n) (nI s) (nI k) 0 = _ from g1, ob_s]
            exact next s1 g2 (by unfold wrk; rw [epb]; exact g3)
          · rw [if_neg a3] at epb ⊢
            by_cases a4 : p.getD k 0 = 87
            · rw [if_pos a4] at epb ⊢
              rw [epb] at hlen'
              have hlen3 : (wrk n d m y p k).length + 3 ≤ 32 := hlen'
              obtain ⟨s1, g1, g2, g3⟩ := X9_w188 (n := n) (b := nI s) (c := nI k) (by omega) 3 0 1000 _ st rfl (by omega) hP (by omega)
              rw [show fX9_writes_188 1000 st (nI n) (nI s) (nI k) 0 = _ from g1, ob_s]
              exact next s1 g2 (by unfold wrk; rw [epb]; exact g3)
            · rw [if_neg a4] at epb ⊢
              by_cases a5 : p.getD k 0 = 89
              · rw [if_pos a5] at epb ⊢; exact go (fun st => fX9_figures st (nI y) 4) _ (X9_fig_4 (by omega)) epb
              · rw [if_neg a5] at epb ⊢
                by_cases a6 : p.getD k 0 = 121
                · rw [if_pos a6] at epb ⊢; exact go (fun st => fX9_figures st (nI (y % 100)) 2) _ (X9_fig_2 (by omega)) epb
                · rw [if_neg a6] at epb ⊢; exact go (fun st => fX9_puts st (nI (p.getD k 0))) _ (X9_puts_s (by omega)) epb
theorem X9_writes_s {n d m y s : Nat} {ps : List (List Nat)} {st : ST} (h : dec n d m y) (hx : okX 8 ps) (hs : s < ps.length) (hp : isPat (ps.getD s [])) (hX : txt ps 4 2 st) :
    ∃ st', fX9_writes st (nI n) (nI s) = some st' ∧ (∀ k, k ≠ 12 → k ≠ 13 → k ≠ 14 → k ≠ 26 → st'.1 k = st.1 k) ∧ (∀ k, k ≠ 13 → st'.2 k = st.2 k) ∧ pen 26 13 (wrk n d m y (ps.getD s []) (ps.getD s []).length) st' := by
  have hl := (hx.2 s hs).1
  unfold fX9_writes
  obtain ⟨s1, g1, g2, g3, g4, g5, g6⟩ := X9_split_s h st
  rw [g1, ob_s, bnd_s]
  obtain ⟨st', a1, a2, a3⟩ := X9_writes_l h hx hs rfl hp 1000 0 (setS s1 26 0) (by omega) (by omega) (txt_same hX (by rw [sS_2, g2]) (by rw [sS_2, g2])) (by rw [sS_n _ _ (by decide)]; exact g4) (by rw [sS_n _ _ (by decide)]; exact g5) (by rw [sS_n _ _ (by decide)]; exact g6) (pen_0 s1)
  exact ⟨st', a1, fun k k12 k13 k14 k26 => by rw [a2.1 k k26, sS_n _ _ k26, g3 k k12 k13 k14], fun k hk => by rw [a2.2 k hk, sS_2, g2], a3⟩
theorem X9_same_f {st : ST} {x_1 : Int32} (n k : Nat) : fX9_same_84 (n + 1) st x_1 0 (nI k) = some (0, st) := by
  rw [fX9_same_84]
  split
  · rfl
  · rfl
theorem X9_same_l {L : List Nat} {cs : List (List Nat)} {r : Nat} {st : ST} (hP : pen 26 13 L st) (hl : L.length ≤ 32) (hb : ∀ b ∈ L, b < 128) (hx : okX 30 cs) (hr : r < cs.length) (hX : txt cs 6 3 st) (he : L.length = (cs.getD r []).length) : ∀ N k : Nat, L.length + 1 - k < N → k ≤ L.length → (∀ i, i < k → L.getD i 0 = (cs.getD r []).getD i 0) → fX9_same_84 N st (nI r) 1 (nI k) = some (if L = cs.getD r [] then 1 else 0, st) := by
  have hlc := hx.1
  intro N
  induction N with
  | zero => intro k h; omega
  | succ N ih =>
    intro k hN hk h
    rw [fX9_same_84, hP.1]
    by_cases q : k = L.length
    · subst q
      rw [if_pos (nI_le (Nat.le_refl _) (by omega)), if_neg (show ¬ (1 : Int32) = 0 by decide), if_pos (l_ext he h)]
    · have hlt : k < L.length := by omega
      have b0 := (hx.2 r hr).1
      have b1 := l_at hb hlt
      have b2 := plain_at (hx.2 r hr).2 (show k < (cs.getD r []).length by omega)
      rw [if_neg (nI_ge hlt (by omega)), if_neg (show ¬ (1 : Int32) = 0 by decide), ix_n _ (by omega) (by omega), show (24 : Int32) * nI r = nI (24 * r) from pk_mul 24 r, nI_add, bnd_s, ix_n _ (by omega) (by omega), nI_clamp (by omega), nI_clamp (by omega), hP.2 k hlt, (hX r hr).2 k (by omega)]
      simp only [bnd_s]
      rw [nI_1]
      by_cases e : L.getD k 0 = (cs.getD r []).getD k 0
      · rw [if_pos (by rw [e])]
        exact ih (k + 1) (by omega) (by omega) (fun i hi => by
          by_cases z : i = k
          · subst z; exact e
          · exact h i (by omega))
      · obtain ⟨N, rfl⟩ : ∃ j, N = j + 1 := ⟨N - 1, by omega⟩
        rw [if_neg (fun z => e ((nI_eq (by omega) (by omega)).mp z)), X9_same_f, if_neg (fun z => e (by rw [z]))]
