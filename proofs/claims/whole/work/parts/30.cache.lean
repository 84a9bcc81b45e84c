/-! What the rows say, held by the class and by the model. -/
theorem X2_hold_l {c : List Nat} {cs : List (List Nat)} {r : Nat} (hx : okX 30 cs) (hr : r < cs.length) (ec : cs.getD r [] = c) : ∀ (n i : Nat) (st : ST), c.length - i < n → i ≤ c.length → st.1 5 = nI c.length → st.1 4 = nI cs.length → txt cs 4 3 st → (∀ j, j < i → st.2 5 j = nI (c.getD j 0)) →
    ∃ st', fX2_hold_16 n st (nI r) (nI i) = some st' ∧ hC c st' ∧ st'.1 = st.1 ∧ (∀ k, k ≠ 5 → st'.2 k = st.2 k) := by
  subst ec
  have hl := (hx.2 r hr).1
  intro n
  induction n with
  | zero => intro i st h; omega
  | succ n ih =>
    intro i st h hi h5 h4 hX hj
    unfold fX2_hold_16
    rw [h5]
    by_cases q : i = (cs.getD r []).length
    · rw [if_pos (nI_le (by omega) (by omega))]
      exact ⟨st, rfl, ⟨h5, fun j hlt => hj j (by omega)⟩, rfl, fun _ _ => rfl⟩
    · have hlt : i < (cs.getD r []).length := by omega
      rw [if_neg (nI_ge hlt (by omega)), X5_byteAt_c_s h4 hx hX hr hlt, ob_s, ix_n _ (by omega) (by omega), nI_clamp (by omega), bnd_s, bnd_s, nI_1]
      obtain ⟨st', g1, g2, g3, g4⟩ := ih (i + 1) (setA st 5 i (nI ((cs.getD r []).getD i 0))) (by omega) (by omega) h5 h4 (txt_same hX (sA_n _ _ _ (by decide)) (sA_n _ _ _ (by decide))) (fun j h1 => by
        by_cases e : j = i
        · subst e; rw [sA_ss]
        · rw [sA_sn _ _ _ e]; exact hj j (by omega))
      exact ⟨st', g1, g2, g3, fun k hk => by rw [g4 k hk, sA_n _ _ _ hk]⟩
theorem X2_hold_s {cs : List (List Nat)} {r : Nat} {st : ST} (hx : okX 30 cs) (hr : r < cs.length) (h4 : st.1 4 = nI cs.length) (hX : txt cs 4 3 st) : ∃ st', fX2_hold st (nI r) = some st' ∧ hC (cs.getD r []) st' ∧ (∀ k, k ≠ 5 → st'.1 k = st.1 k) ∧ (∀ k, k ≠ 5 → st'.2 k = st.2 k) := by
  have hl := (hx.2 r hr).1
  unfold fX2_hold
  rw [X5_lengthOf_c_s h4 hx hX hr, ob_s, if_neg (show ¬ (24 : Int32) < nI (cs.getD r []).length from nI_nlt (a := 24) (by omega) (by omega)), bnd_s, bnd_s]
  obtain ⟨st', g1, g2, g3, g4⟩ := X2_hold_l hx hr rfl 1000 0 (setS st 5 (nI (cs.getD r []).length)) (by omega) (by omega) (sS_s _ _ _) (by rw [sS_n _ _ (by decide)]; exact h4) (txt_same hX rfl rfl) (fun j h => absurd h (Nat.not_lt_zero j))
  exact ⟨st', g1, g2, fun k hk => by rw [g3, sS_n _ _ hk], fun k hk => g4 k hk⟩
/-- the spans of row r by the first k styles stand in the table -/
def tb1 (w : Nat) (ps cs : List (List Nat)) (r k : Nat) (st : ST) : Prop := ∀ s, s < k → st.2 6 (8 * r + s) = sp1 (rd w (ps.getD s []) (cs.getD r [])) ∧ st.2 7 (8 * r + s) = sp2 (rd w (ps.getD s []) (cs.getD r []))
/-- what bring leaves alone: the reader's numbers and cell, the row's own places in the table, and no more -/
def fB (r : Nat) (st st' : ST) : Prop := (∀ j, (j < 5 ∨ 12 < j) → st'.1 j = st.1 j) ∧ (∀ k, k ≠ 5 → k ≠ 6 → k ≠ 7 → k ≠ 8 → k ≠ 9 → st'.2 k = st.2 k) ∧ (∀ j, (j < 8 * r ∨ 8 * r + 8 ≤ j) → st'.2 6 j = st.2 6 j ∧ st'.2 7 j = st.2 7 j) ∧ (∀ j, j ≠ r → st'.2 8 j = st.2 8 j ∧ st'.2 9 j = st.2 9 j)
theorem X3_bring_l {w r : Nat} {ps cs : List (List Nat)} (hw1 : 1900 ≤ w) (hw2 : w ≤ 2100) (hxp : okX 8 ps) (hxc : okX 30 cs) (hr : r < cs.length) : ∀ (n k : Nat) (st : ST), ps.length - k < n → k ≤ ps.length → (k < ps.length → hC (cs.getD r []) st) → st.1 3 = nI ps.length → txt ps 2 1 st → tb1 w ps cs r k st →
    ∃ st', fX3_bring_68 n st (nI r) (nI w) (nI ps.length) (nI k) = some st' ∧ fB r st st' ∧ tb1 w ps cs r ps.length st' ∧ st'.2 8 r = nI ps.length ∧ st'.2 9 r = nI w := by
  have hlp := hxp.1
  have hlc := hxc.1
  obtain ⟨hl, hpl⟩ := hxc.2 r hr
  intro n
  induction n with
  | zero => intro k st h; omega
  | succ n ih =>
    intro k st h hk hh h3 hX ht
    unfold fX3_bring_68
    by_cases q : k = ps.length
    · subst q
      rw [if_pos (nI_le (Nat.le_refl _) (by omega)), ix_n _ (by omega) (by omega), nI_clamp (by omega), bnd_s, ix_n _ (by omega) (by omega), bnd_s]
      refine ⟨_, rfl, ⟨fun _ _ => rfl, fun k _ _ _ k8 k9 => by rw [sA_n _ _ _ k9, sA_n _ _ _ k8], fun j _ => ⟨by rw [sA_n _ _ _ (by decide), sA_n _ _ _ (by decide)], by rw [sA_n _ _ _ (by decide), sA_n _ _ _ (by decide)]⟩, fun j hj => ⟨by rw [sA_n _ _ _ (by decide), sA_sn _ _ _ hj], by rw [sA_sn _ _ _ hj, sA_n _ _ _ (by decide)]⟩⟩, fun s hs => ?_, ?_, sA_ss _ _ _ _⟩
      · rw [sA_n _ _ _ (by decide), sA_n _ _ _ (by decide), sA_n _ _ _ (by decide), sA_n _ _ _ (by decide)]; exact ht s hs
      · rw [sA_n _ _ _ (by decide), sA_ss]
    · have hlt : k < ps.length := by omega
      obtain ⟨s1, g1, g2, g3, g4⟩ := X2_scan_s hw1 hw2 hl hpl hxp hlt (hh hlt) h3 hX
      unfold fX2_first fX2_last
      rw [if_neg (nI_ge hlt (by omega)), g1, ob_s, ob_s, bnd_s, show (8 : Int32) = nI 8 from rfl, pk_mul, nI_add, ix_n _ (by omega) (by omega), nI_clamp (by omega), bnd_s, ob_s, bnd_s, ix_n _ (by omega) (by omega), bnd_s, bnd_s, nI_1, sA_1, g3, g4, show r * 8 + k = 8 * r + k by omega]
      obtain ⟨s2, e2⟩ : ∃ z, z = setA (setA s1 6 (8 * r + k) (sp1 (rd w (ps.getD k []) (cs.getD r [])))) 7 (8 * r + k) (sp2 (rd w (ps.getD k []) (cs.getD r []))) := ⟨_, rfl⟩
      rw [nI_clamp (by omega), ← e2]
      have f1 : s2.1 = s1.1 := by rw [e2]; rfl
      have f2 : ∀ j, j ≠ 6 → j ≠ 7 → s2.2 j = st.2 j := fun j h6 h7 => by rw [e2, sA_n _ _ _ h7, sA_n _ _ _ h6, g2.2]
      have f3 : ∀ j, j ≠ 8 * r + k → s2.2 6 j = st.2 6 j ∧ s2.2 7 j = st.2 7 j := fun j hj => ⟨by rw [e2, sA_n _ _ _ (by decide), sA_sn _ _ _ hj, g2.2], by rw [e2, sA_sn _ _ _ hj, sA_n _ _ _ (by decide), g2.2]⟩
      obtain ⟨st', a1, a2, a3⟩ := ih (k + 1) s2 (by omega) (by omega) (fun _ => ⟨by rw [f1, g2.1 5 (by omega)]; exact (hh hlt).1, fun j hj => by rw [f2 5 (by decide) (by decide)]; exact (hh hlt).2 j hj⟩) (by rw [f1, g2.1 3 (by omega)]; exact h3) (txt_same hX (f2 2 (by decide) (by decide)) (f2 1 (by decide) (by decide))) (fun s hs => by
        by_cases e : s = k
        · subst e
          rw [e2, sA_n _ _ _ (by decide), sA_ss, sA_ss]
          exact ⟨rfl, rfl⟩
        · rw [(f3 _ (by omega)).1, (f3 _ (by omega)).2]
          exact ht s (by omega))
      refine ⟨st', a1, ⟨fun j hj => by rw [a2.1 j hj, f1, g2.1 j (by omega)], fun j k5 k6 k7 k8 k9 => by rw [a2.2.1 j k5 k6 k7 k8 k9, f2 j k6 k7], fun j hj => ?_, fun j hj => ?_⟩, a3⟩
      · rw [(a2.2.2.1 j hj).1, (a2.2.2.1 j hj).2]; exact f3 j (by omega)
      · rw [(a2.2.2.2 j hj).1, (a2.2.2.2 j hj).2, f2 8 (by decide) (by decide), f2 9 (by decide) (by decide)]; exact ⟨rfl, rfl⟩
/-- what stands in the table of row r is of some window and of the first styles -/
def chR (ps cs : List (List Nat)) (r : Nat) (st : ST) : Prop := ∃ k, k ≤ ps.length ∧ st.2 8 r = nI k ∧ (k = 0 ∨ ∃ v, 1900 ≤ v ∧ v ≤ 2100 ∧ st.2 9 r = nI v ∧ tb1 v ps cs r k st)
theorem X3_bring_s {w r : Nat} {ps cs : List (List Nat)} {st : ST} (hw1 : 1900 ≤ w) (hw2 : w ≤ 2100) (hxp : okX 8 ps) (hxc : okX 30 cs) (hr : r < cs.length) (h3 : st.1 3 = nI ps.length) (hX : txt ps 2 1 st) (h4 : st.1 4 = nI cs.length) (hXc : txt cs 4 3 st) (hc : chR ps cs r st) :
    ∃ st', fX3_bring st (nI r) (nI w) = some st' ∧ fB r st st' ∧ tb1 w ps cs r ps.length st' ∧ st'.2 8 r = nI ps.length ∧ st'.2 9 r = nI w := by
  have hlp := hxp.1
  have hlc := hxc.1
  -- from a place k up to which the table is right
  have key : ∀ k, k ≤ ps.length → tb1 w ps cs r k st → ∃ st', (if nI ps.length ≤ nI k then fX3_bring_68 1000 st (nI r) (nI w) (nI ps.length) (nI k) else ob (fX2_hold st (nI r)) fun o => fX3_bring_68 1000 o (nI r) (nI w) (nI ps.length) (nI k)) = some st' ∧ fB r st st' ∧ tb1 w ps cs r ps.length st' ∧ st'.2 8 r = nI ps.length ∧ st'.2 9 r = nI w := by
    intro k hk ht
    by_cases q : ps.length ≤ k
    · rw [if_pos (nI_le q (by omega))]
      exact X3_bring_l hw1 hw2 hxp hxc hr 1000 k st (by omega) hk (fun z => by omega) h3 hX ht
    · obtain ⟨s1, g1, g2, g3, g4⟩ := X2_hold_s hxc hr h4 hXc
      rw [if_neg (nI_ge (by omega) (by omega)), g1, ob_s]
      obtain ⟨st', a1, a2, a3⟩ := X3_bring_l hw1 hw2 hxp hxc hr 1000 k s1 (by omega) hk (fun _ => g2) (by rw [g3 3 (by decide)]; exact h3) (txt_same hX (g4 2 (by decide)) (g4 1 (by decide))) (fun s hs => by rw [g4 6 (by decide), g4 7 (by decide)]; exact ht s hs)
      refine ⟨st', a1, ⟨fun j hj => by rw [a2.1 j hj, g3 j (by omega)], fun j k5 k6 k7 k8 k9 => by rw [a2.2.1 j k5 k6 k7 k8 k9, g4 j k5], fun j hj => ?_, fun j hj => ?_⟩, a3⟩
      · rw [(a2.2.2.1 j hj).1, (a2.2.2.1 j hj).2, g4 6 (by decide), g4 7 (by decide)]; exact ⟨rfl, rfl⟩
      · rw [(a2.2.2.2 j hj).1, (a2.2.2.2 j hj).2, g4 8 (by decide), g4 9 (by decide)]; exact ⟨rfl, rfl⟩
  unfold fX3_bring fX5_size_p
  rw [if_neg (nI_pos (by omega)), if_pos (show nI r < 30 from nI_lt (b := 30) (by omega) (by omega)), ob_s, h3, if_neg (show ¬ (8 : Int32) < nI ps.length from nI_nlt (a := 8) (by omega) (by omega)), bnd_s, ix_n _ (by omega) (by omega), nI_clamp (by omega)]
  obtain ⟨k, hk, e8, hc⟩ := hc
  by_cases e : st.2 9 r = nI w
  · rw [if_pos e, ix_n _ (by omega) (by omega), bnd_s, e8]
    refine key k hk ?_
    rcases hc with rfl | ⟨v, v1, v2, v3, v4⟩
    · intro s hs; exact absurd hs (Nat.not_lt_zero s)
    · rw [v3, nI_eq (by omega) (by omega)] at e
      rw [← e]; exact v4
  · rw [if_neg e]
    exact key 0 (by omega) (fun s hs => absurd hs (Nat.not_lt_zero s))
/-! The model's table. -/
def fA (st st' : ST) : Prop := (∀ j, j ≠ 15 → j ≠ 16 → j ≠ 17 → j ≠ 18 → st'.1 j = st.1 j) ∧ (∀ k, k ≠ 8 → k ≠ 9 → st'.2 k = st.2 k)
def tbm (w : Nat) (ps cs : List (List Nat)) (r k : Nat) (st : ST) : Prop := ∀ s, s < k → st.2 8 (8 * r + s) = sp1 (rd w (ps.getD s []) (cs.getD r [])) ∧ st.2 9 (8 * r + s) = sp2 (rd w (ps.getD s []) (cs.getD r []))
theorem X9_readAll_i {w r : Nat} {ps cs : List (List Nat)} (hw1 : 1900 ≤ w) (hw2 : w ≤ 2100) (hxp : okX 8 ps) (hpat : ∀ s, s < ps.length → isPat (ps.getD s [])) (hxc : okX 30 cs) (hr : r < cs.length) : ∀ (n k : Nat) (st : ST), ps.length - k < n → k ≤ ps.length → st.1 9 = nI ps.length → txt ps 4 2 st → txt cs 6 3 st → st.1 11 = nI w → tbm w ps cs r k st →
    ∃ st', fX9_readAll_12 n st (nI r) (nI k) = some st' ∧ fA st st' ∧ (∀ j, (j < 8 * r ∨ 8 * r + 8 ≤ j) → st'.2 8 j = st.2 8 j ∧ st'.2 9 j = st.2 9 j) ∧ tbm w ps cs r ps.length st' := by
  have hlp := hxp.1
  have hlc := hxc.1
  obtain ⟨hl, hpl⟩ := hxc.2 r hr
  intro n
  induction n with
  | zero => intro k st h; omega
  | succ n ih =>
    intro k st h hk h9 hX hXc h11 ht
    unfold fX9_readAll_12
    rw [h9]
    by_cases q : k = ps.length
    · subst q
      rw [if_pos (nI_le (Nat.le_refl _) (by omega))]
      exact ⟨st, rfl, ⟨fun _ _ _ _ _ => rfl, fun _ _ _ => rfl⟩, fun _ _ => ⟨rfl, rfl⟩, ht⟩
    · have hlt : k < ps.length := by omega
      obtain ⟨s1, r1, f1, g1, g2⟩ := X9_reads_s hw1 hw2 hl hpl hxp hlt (hpat k hlt) (show r < 30 by omega) (hXc r hr).1 (hXc r hr).2 h11 hX
      rw [if_neg (nI_ge hlt (by omega)), g1, ob_s]
      have next : ∀ a b : Int32, a = sp1 (rd w (ps.getD k []) (cs.getD r [])) → b = sp2 (rd w (ps.getD k []) (cs.getD r [])) → ∃ st', fX9_readAll_12 n (setA (setA s1 8 (8 * r + k) a) 9 (8 * r + k) b) (nI r) (nI (k + 1)) = some st' ∧ fA st st' ∧ (∀ j, (j < 8 * r ∨ 8 * r + 8 ≤ j) → st'.2 8 j = st.2 8 j ∧ st'.2 9 j = st.2 9 j) ∧ tbm w ps cs r ps.length st' := by
        intro a b ea eb
        obtain ⟨s2, e2⟩ : ∃ z, z = setA (setA s1 8 (8 * r + k) a) 9 (8 * r + k) b := ⟨_, rfl⟩
        rw [← e2]
        have k1 : s2.1 = s1.1 := by rw [e2]; rfl
        have k2 : ∀ j, j ≠ 8 → j ≠ 9 → s2.2 j = st.2 j := fun j h8 h9 => by rw [e2, sA_n _ _ _ h9, sA_n _ _ _ h8, f1.2]
        have k3 : ∀ j, j ≠ 8 * r + k → s2.2 8 j = st.2 8 j ∧ s2.2 9 j = st.2 9 j := fun j hj => ⟨by rw [e2, sA_n _ _ _ (by decide), sA_sn _ _ _ hj, f1.2], by rw [e2, sA_sn _ _ _ hj, sA_n _ _ _ (by decide), f1.2]⟩
        obtain ⟨st', a1, a2, a3, a4⟩ := ih (k + 1) s2 (by omega) (by omega) (by rw [k1, f1.1 9 (by decide) (by decide) (by decide) (by decide)]; exact h9) (txt_same hX (k2 4 (by decide) (by decide)) (k2 2 (by decide) (by decide))) (txt_same hXc (k2 6 (by decide) (by decide)) (k2 3 (by decide) (by decide))) (by rw [k1, f1.1 11 (by decide) (by decide) (by decide) (by decide)]; exact h11) (fun s hs => by
          by_cases e : s = k
          · subst e
            rw [e2, sA_n _ _ _ (by decide), sA_ss, sA_ss]
            exact ⟨ea, eb⟩
          · rw [(k3 _ (by omega)).1, (k3 _ (by omega)).2]
            exact ht s (by omega))
        refine ⟨st', a1, ⟨fun j k15 k16 k17 k18 => by rw [a2.1 j k15 k16 k17 k18, k1, f1.1 j k15 k16 k17 k18], fun j k8 k9 => by rw [a2.2 j k8 k9, k2 j k8 k9]⟩, fun j hj => ?_, a4⟩
        rw [(a3 j hj).1, (a3 j hj).2]; exact k3 j (by omega)
      rcases g2 with ⟨g2, rfl⟩ | ⟨a, b, g2, rfl, g3, g4⟩
      · rw [if_pos rfl, bnd_s, show (8 : Int32) * nI r = nI (8 * r) from pk_mul 8 r, nI_add, ix_n _ (by omega) (by omega), nI_clamp (by omega), bnd_s, if_pos rfl, bnd_s, ix_n _ (by omega) (by omega), nI_clamp (by omega), bnd_s, bnd_s, nI_1]
        exact next _ _ (by rw [g2]; rfl) (by rw [g2]; rfl)
      · rw [if_neg (show ¬ (1 : Int32) = 0 by decide), bnd_s, bnd_s, show (8 : Int32) * nI r = nI (8 * r) from pk_mul 8 r, nI_add, ix_n _ (by omega) (by omega), nI_clamp (by omega), bnd_s, if_neg (show ¬ (1 : Int32) = 0 by decide), bnd_s, bnd_s, ix_n _ (by omega) (by omega), nI_clamp (by omega), bnd_s, bnd_s, nI_1, sA_1]
        exact next _ _ (by rw [g2]; exact g3) (by rw [g2]; exact g4)
theorem X9_readAll_l {w : Nat} {ps cs : List (List Nat)} (hw1 : 1900 ≤ w) (hw2 : w ≤ 2100) (hxp : okX 8 ps) (hpat : ∀ s, s < ps.length → isPat (ps.getD s [])) (hxc : okX 30 cs) : ∀ (n r : Nat) (st : ST), cs.length - r < n → r ≤ cs.length → st.1 9 = nI ps.length → st.1 10 = nI cs.length → txt ps 4 2 st → txt cs 6 3 st → st.1 11 = nI w → (∀ q, q < r → tbm w ps cs q ps.length st) →
    ∃ st', fX9_readAll_2 n st (nI r) = some st' ∧ fA st st' ∧ (∀ q, q < cs.length → tbm w ps cs q ps.length st') := by
  have hlp := hxp.1
  have hlc := hxc.1
  intro n
  induction n with
  | zero => intro r st h; omega
  | succ n ih =>
    intro r st h hr h9 h10 hX hXc h11 ht
    unfold fX9_readAll_2
    rw [h10]
    by_cases q : r = cs.length
    · subst q
      rw [if_pos (nI_le (Nat.le_refl _) (by omega))]
      exact ⟨st, rfl, ⟨fun _ _ _ _ _ => rfl, fun _ _ _ => rfl⟩, ht⟩
    · have hlt : r < cs.length := by omega
      obtain ⟨s1, g1, g2, g3, g4⟩ := X9_readAll_i hw1 hw2 hxp hpat hxc hlt 1000 0 st (by omega) (by omega) h9 hX hXc h11 (fun s hs => absurd hs (Nat.not_lt_zero s))
      rw [if_neg (nI_ge hlt (by omega)), show fX9_readAll_12 1000 st (nI r) 0 = _ from g1, ob_s, bnd_s, nI_1]
      obtain ⟨st', a1, a2, a3⟩ := ih (r + 1) s1 (by omega) (by omega) (by rw [g2.1 9 (by decide) (by decide) (by decide) (by decide)]; exact h9) (by rw [g2.1 10 (by decide) (by decide) (by decide) (by decide)]; exact h10) (txt_same hX (g2.2 4 (by decide) (by decide)) (g2.2 2 (by decide) (by decide))) (txt_same hXc (g2.2 6 (by decide) (by decide)) (g2.2 3 (by decide) (by decide))) (by rw [g2.1 11 (by decide) (by decide) (by decide) (by decide)]; exact h11) (fun z hz => by
        by_cases e : z = r
        · subst e; exact g4
        · intro s hs
          rw [(g3 _ (by omega)).1, (g3 _ (by omega)).2]
          exact ht z (by omega) s hs)
      exact ⟨st', a1, ⟨fun j k15 k16 k17 k18 => by rw [a2.1 j k15 k16 k17 k18, g2.1 j k15 k16 k17 k18], fun j k8 k9 => by rw [a2.2 j k8 k9, g2.2 j k8 k9]⟩, a3⟩
theorem X9_readAll_s {w : Nat} {ps cs : List (List Nat)} {st : ST} (hw1 : 1900 ≤ w) (hw2 : w ≤ 2100) (hxp : okX 8 ps) (hpat : ∀ s, s < ps.length → isPat (ps.getD s [])) (hxc : okX 30 cs) (h9 : st.1 9 = nI ps.length) (h10 : st.1 10 = nI cs.length) (hX : txt ps 4 2 st) (hXc : txt cs 6 3 st) (h11 : st.1 11 = nI w) :
    ∃ st', fX9_readAll st = some st' ∧ fA st st' ∧ (∀ q, q < cs.length → tbm w ps cs q ps.length st') := by
  have hlc := hxc.1
  exact X9_readAll_l hw1 hw2 hxp hpat hxc 1000 0 st (by omega) (by omega) h9 h10 hX hXc h11 (fun q hq => absurd hq (Nat.not_lt_zero q))
