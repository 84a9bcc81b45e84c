/-! Texts, asked. -/
theorem X5_lengthOf_p_s {ls : List (List Nat)} {st : ST} (hs : st.1 3 = nI ls.length) (hx : okX 8 ls) (hX : txt ls 2 1 st) {r : Nat} (hr : r < ls.length) : fX5_lengthOf_p st (nI r) = some (nI (ls.getD r []).length) := by
  have h1 := hx.1
  unfold fX5_lengthOf_p fX5_has_p
  rw [if_neg (nI_pos (by omega)), hs, if_neg (nI_ge hr (by omega)), ob_s, if_neg (by decide), ix_n _ (by omega) (by omega), nI_clamp (by omega), (hX r hr).1]
theorem X5_byteAt_p_s {ls : List (List Nat)} {st : ST} (hs : st.1 3 = nI ls.length) (hx : okX 8 ls) (hX : txt ls 2 1 st) {r k : Nat} (hr : r < ls.length) (hk : k < (ls.getD r []).length) : fX5_byteAt_p st (nI r) (nI k) = some (nI ((ls.getD r []).getD k 0)) := by
  have h1 := hx.1
  have h2 := (hx.2 r hr).1
  unfold fX5_byteAt_p
  rw [if_neg (nI_pos (by omega)), X5_lengthOf_p_s hs hx hX hr, ob_s, if_pos (nI_lt hk (by omega)), show (24 : Int32) = nI 24 from rfl, pk_mul, nI_add, bnd_s, ix_n _ (by omega) (by omega), nI_clamp (by omega), show r * 24 + k = 24 * r + k by omega, (hX r hr).2 k hk]
theorem X5_has_p_s {ls : List (List Nat)} {st : ST} (hs : st.1 3 = nI ls.length) (hx : ls.length ≤ 8) (x : Int32) : (∃ r : Nat, r < ls.length ∧ x = nI r ∧ fX5_has_p st x = some 1) ∨ ((x < 0 ∨ nI ls.length ≤ x) ∧ fX5_has_p st x = some 0) := by
  unfold fX5_has_p
  rw [hs]
  by_cases q : x < 0
  · exact Or.inr ⟨Or.inl q, by rw [if_pos q]⟩
  · by_cases q2 : nI ls.length ≤ x
    · exact Or.inr ⟨Or.inr q2, by rw [if_neg q, if_pos q2]⟩
    · obtain ⟨j, hj, rfl⟩ := nI_of q
      rw [nI_leI (by omega) hj] at q2
      exact Or.inl ⟨j, by omega, rfl, by rw [if_neg q, if_neg (by rw [nI_leI (by omega) hj]; exact q2)]⟩
theorem X5_lengthOf_c_s {ls : List (List Nat)} {st : ST} (hs : st.1 4 = nI ls.length) (hx : okX 30 ls) (hX : txt ls 4 3 st) {r : Nat} (hr : r < ls.length) : fX5_lengthOf_c st (nI r) = some (nI (ls.getD r []).length) := by
  have h1 := hx.1
  unfold fX5_lengthOf_c fX5_has_c
  rw [if_neg (nI_pos (by omega)), hs, if_neg (nI_ge hr (by omega)), ob_s, if_neg (by decide), ix_n _ (by omega) (by omega), nI_clamp (by omega), (hX r hr).1]
theorem X5_byteAt_c_s {ls : List (List Nat)} {st : ST} (hs : st.1 4 = nI ls.length) (hx : okX 30 ls) (hX : txt ls 4 3 st) {r k : Nat} (hr : r < ls.length) (hk : k < (ls.getD r []).length) : fX5_byteAt_c st (nI r) (nI k) = some (nI ((ls.getD r []).getD k 0)) := by
  have h1 := hx.1
  have h2 := (hx.2 r hr).1
  unfold fX5_byteAt_c
  rw [if_neg (nI_pos (by omega)), X5_lengthOf_c_s hs hx hX hr, ob_s, if_pos (nI_lt hk (by omega)), show (24 : Int32) = nI 24 from rfl, pk_mul, nI_add, bnd_s, ix_n _ (by omega) (by omega), nI_clamp (by omega), show r * 24 + k = 24 * r + k by omega, (hX r hr).2 k hk]
theorem X5_has_c_s {ls : List (List Nat)} {st : ST} (hs : st.1 4 = nI ls.length) (hx : ls.length ≤ 30) (x : Int32) : (∃ r : Nat, r < ls.length ∧ x = nI r ∧ fX5_has_c st x = some 1) ∨ ((x < 0 ∨ nI ls.length ≤ x) ∧ fX5_has_c st x = some 0) := by
  unfold fX5_has_c
  rw [hs]
  by_cases q : x < 0
  · exact Or.inr ⟨Or.inl q, by rw [if_pos q]⟩
  · by_cases q2 : nI ls.length ≤ x
    · exact Or.inr ⟨Or.inr q2, by rw [if_neg q, if_pos q2]⟩
    · obtain ⟨j, hj, rfl⟩ := nI_of q
      rw [nI_leI (by omega) hj] at q2
      exact Or.inl ⟨j, by omega, rfl, by rw [if_neg q, if_neg (by rw [nI_leI (by omega) hj]; exact q2)]⟩
/-! One part of a pattern. -/
def o5 (o : Option Nat) : Prop := ∀ v, o = some v → v < 100000
theorem oI_m1 {o : Option Nat} (h : o5 o) : (oI o = -1) = (o = none) := by
  cases o with
  | none => exact propext ⟨fun _ => rfl, fun _ => rfl⟩
  | some v =>
    show (nI v = -1) = _
    rw [nI_m1 (by have := h v rfl; omega)]
    exact propext ⟨fun z => z.elim, fun z => by cases z⟩
/-- what 'take' does: it fails, and nothing that begins so is read; or it goes on -/
def tk (win : Nat) (c : List Nat) (p i : Nat) (d m y w : Option Nat) (st : ST) (r : Option (Int32 × ST)) : Prop :=
  ∃ st', fr st st' ∧ ((r = some (0, st') ∧ ∀ ps, rdl win c (p :: ps) i d m y w = none) ∨ (∃ i' d' m' y' w', r = some (1, st') ∧ i' ≤ c.length ∧ rC c i' d' m' y' w' st' ∧ o5 d' ∧ o5 m' ∧ o5 y' ∧ o5 w' ∧ ∀ ps, rdl win c (p :: ps) i d m y w = rdl win c ps i' d' m' y' w'))
theorem X2_take_s {win : Nat} {c : List Nat} {p i : Nat} {d m y w : Option Nat} {st : ST} (hw1 : 1900 ≤ win) (hw2 : win ≤ 2100) (hc : c.length ≤ 24) (hp : plain c) (hi : i ≤ c.length) (hr : rC c i d m y w st) (hd : o5 d) (hm : o5 m) (hy : o5 y) (hw : o5 w) (hp1 : 32 ≤ p) (hp2 : p ≤ 126) : tk win c p i d m y w st (fX2_take st (nI p) (nI win)) := by
  obtain ⟨hh, ha, h7, h8, h9, h10⟩ := hr
  have n5 : o5 none := fun v h => by cases h
  have eqp : ∀ k : Nat, k < 128 → (nI p = nI k ↔ p = k) := fun k hk => nI_eq (by omega) (by omega)
  unfold fX2_take
  by_cases c32 : p = 32
  · subst c32
    rw [if_pos (show nI 32 = (32 : Int32) from rfl)]
    unfold fX2_takeBlanks
    rw [bnd_s, ha]
    obtain ⟨st', g1, g2, g3, g4⟩ := X2_takeBlanks_l (i := i) hc hp 30 1000 i st (by omega) hh ha (Nat.le_refl _) hi (by omega)
    have hf : fr st st' := ⟨fun j hj => g3 j (by omega), g4⟩
    rw [g1, ob_s]
    refine ⟨st', hf, ?_⟩
    by_cases z : i < sk c 30 i
    · rw [if_pos z]
      refine Or.inr ⟨sk c 30 i, d, m, y, w, tv_1 _, sk_le.2 hi, ⟨hC_fr hh hf, g2, by rw [g3 7 (by decide)]; exact h7, by rw [g3 8 (by decide)]; exact h8, by rw [g3 9 (by decide)]; exact h9, by rw [g3 10 (by decide)]; exact h10⟩, hd, hm, hy, hw, fun ps => ?_⟩
      show (if 32 = 32 then (if i < sk c 30 i then rdl win c ps (sk c 30 i) d m y w else none) else _) = _
      rw [if_pos rfl, if_pos z]
    · rw [if_neg z]
      refine Or.inl ⟨tv_0 _, fun ps => ?_⟩
      show (if 32 = 32 then (if i < sk c 30 i then rdl win c ps (sk c 30 i) d m y w else none) else _) = _
      rw [if_pos rfl, if_neg z]
  rw [if_neg (show ¬ nI p = 32 from fun z => c32 ((eqp 32 (by decide)).mp z))]
  have hk2 : 1 ≤ k2 c i ∧ k2 c i ≤ 2 := by unfold k2; split <;> omega
  by_cases c68 : p = 68
  · subst c68
    have er : ∀ ps, rdl win c (68 :: ps) i d m y w = (match tD c (k2 c i) i 0 with | none => none | some v => rdl win c ps (i + k2 c i) (some v) m y w) := fun ps => rfl
    rw [if_pos (show nI 68 = (68 : Int32) from rfl), X2_digitsHere_s hc hp hh ha hi, ob_s, X2_takeDigits_s hc hp hh ha hi (by omega) (by omega)]
    cases e : tD c (k2 c i) i 0 with
    | none =>
      rw [ob_s, bnd_s, if_pos (sS_s _ _ _)]
      exact ⟨_, fr_S (fr_rf st) (by decide) (by decide) _, Or.inl ⟨rfl, fun ps => by rw [er, e]⟩⟩
    | some v =>
      have hv := tD_in e
      have hv2 : v < 100 := Nat.lt_of_lt_of_le hv (by rcases (show k2 c i = 1 ∨ k2 c i = 2 by omega) with q | q <;> rw [q] <;> decide)
      rw [ob_s, bnd_s, if_neg (by rw [sS_s]; show ¬ nI v = -1; rw [nI_m1 (by omega)]; exact id)]
      have hf : fr st (setS (setS st 6 (nI (i + k2 c i))) 7 (nI v)) := fr_S (fr_S (fr_rf st) (by decide) (by decide) _) (by decide) (by decide) _
      refine ⟨_, hf, Or.inr ⟨i + k2 c i, some v, m, y, w, rfl, tD_le e hi, ⟨hC_fr hh hf, ?_, sS_s _ _ _, ?_, ?_, ?_⟩, fun z hz => by cases hz; omega, hm, hy, hw, fun ps => by rw [er, e]⟩⟩
      · rw [sS_n _ _ (by decide), sS_s]
      · rw [sS_n _ _ (by decide), sS_n _ _ (by decide)]; exact h8
      · rw [sS_n _ _ (by decide), sS_n _ _ (by decide)]; exact h9
      · rw [sS_n _ _ (by decide), sS_n _ _ (by decide)]; exact h10
  rw [if_neg (show ¬ nI p = 68 from fun z => c68 ((eqp 68 (by decide)).mp z))]
  by_cases c77 : p = 77
  · subst c77
    have er : ∀ ps, rdl win c (77 :: ps) i d m y w = (match tD c (k2 c i) i 0 with | none => none | some v => rdl win c ps (i + k2 c i) d (some v) y w) := fun ps => rfl
    rw [if_pos (show nI 77 = (77 : Int32) from rfl), X2_digitsHere_s hc hp hh ha hi, ob_s, X2_takeDigits_s hc hp hh ha hi (by omega) (by omega)]
    cases e : tD c (k2 c i) i 0 with
    | none =>
      rw [ob_s, bnd_s, if_pos (sS_s _ _ _)]
      exact ⟨_, fr_S (fr_rf st) (by decide) (by decide) _, Or.inl ⟨rfl, fun ps => by rw [er, e]⟩⟩
    | some v =>
      have hv := tD_in e
      have hv2 : v < 100 := Nat.lt_of_lt_of_le hv (by rcases (show k2 c i = 1 ∨ k2 c i = 2 by omega) with q | q <;> rw [q] <;> decide)
      rw [ob_s, bnd_s, if_neg (by rw [sS_s]; show ¬ nI v = -1; rw [nI_m1 (by omega)]; exact id)]
      have hf : fr st (setS (setS st 6 (nI (i + k2 c i))) 8 (nI v)) := fr_S (fr_S (fr_rf st) (by decide) (by decide) _) (by decide) (by decide) _
      refine ⟨_, hf, Or.inr ⟨i + k2 c i, d, some v, y, w, rfl, tD_le e hi, ⟨hC_fr hh hf, ?_, ?_, sS_s _ _ _, ?_, ?_⟩, hd, fun z hz => by cases hz; omega, hy, hw, fun ps => by rw [er, e]⟩⟩
      · rw [sS_n _ _ (by decide), sS_s]
      · rw [sS_n _ _ (by decide), sS_n _ _ (by decide)]; exact h7
      · rw [sS_n _ _ (by decide), sS_n _ _ (by decide)]; exact h9
      · rw [sS_n _ _ (by decide), sS_n _ _ (by decide)]; exact h10
  rw [if_neg (show ¬ nI p = 77 from fun z => c77 ((eqp 77 (by decide)).mp z))]
  by_cases c78 : p = 78
  · subst c78
    have er : ∀ ps, rdl win c (78 :: ps) i d m y w = (match tW nMO c i 12 0 with | none => none | some v => rdl win c ps (i + 3) d (some (1 + v)) y w) := fun ps => rfl
    rw [if_pos (show nI 78 = (78 : Int32) from rfl), X2_takeWord_M_s hc hp hh ha hi]
    cases e : tW nMO c i 12 0 with
    | none =>
      rw [ob_s, bnd_s, bnd_s, if_pos (by rw [sS_s]; show (1 : Int32) + -1 < 1; decide)]
      exact ⟨_, fr_S (fr_rf st) (by decide) (by decide) _, Or.inl ⟨rfl, fun ps => by rw [er, e]⟩⟩
    | some v =>
      have hv := tW_M_lt 12 0 (by omega) e
      rw [ob_s, bnd_s, bnd_s, show (1 : Int32) + nI v = nI (1 + v) from nI_add 1 v, if_neg (by rw [sS_s]; exact nI_nlt (b := 1) (by omega) (by omega))]
      have hf : fr st (setS (setS st 6 (nI (i + 3))) 8 (nI (1 + v))) := fr_S (fr_S (fr_rf st) (by decide) (by decide) _) (by decide) (by decide) _
      refine ⟨_, hf, Or.inr ⟨i + 3, d, some (1 + v), y, w, rfl, hv.2, ⟨hC_fr hh hf, ?_, ?_, sS_s _ _ _, ?_, ?_⟩, hd, fun z hz => by cases hz; omega, hy, hw, fun ps => by rw [er, e]⟩⟩
      · rw [sS_n _ _ (by decide), sS_s]
      · rw [sS_n _ _ (by decide), sS_n _ _ (by decide)]; exact h7
      · rw [sS_n _ _ (by decide), sS_n _ _ (by decide)]; exact h9
      · rw [sS_n _ _ (by decide), sS_n _ _ (by decide)]; exact h10
  rw [if_neg (show ¬ nI p = 78 from fun z => c78 ((eqp 78 (by decide)).mp z))]
  by_cases c87 : p = 87
  · subst c87
    have er : ∀ ps, rdl win c (87 :: ps) i d m y w = (match tW nWD c i 7 0 with | none => none | some v => rdl win c ps (i + 3) d m y (some v)) := fun ps => rfl
    rw [if_pos (show nI 87 = (87 : Int32) from rfl), X2_takeWord_W_s hc hp hh ha hi]
    cases e : tW nWD c i 7 0 with
    | none =>
      rw [ob_s, bnd_s, if_pos (sS_s _ _ _)]
      exact ⟨_, fr_S (fr_rf st) (by decide) (by decide) _, Or.inl ⟨rfl, fun ps => by rw [er, e]⟩⟩
    | some v =>
      have hv := tW_W_lt 7 0 (by omega) e
      rw [ob_s, bnd_s, if_neg (by rw [sS_s]; show ¬ nI v = -1; rw [nI_m1 (by omega)]; exact id)]
      have hf : fr st (setS (setS st 6 (nI (i + 3))) 10 (nI v)) := fr_S (fr_S (fr_rf st) (by decide) (by decide) _) (by decide) (by decide) _
      refine ⟨_, hf, Or.inr ⟨i + 3, d, m, y, some v, rfl, hv.2, ⟨hC_fr hh hf, ?_, ?_, ?_, ?_, sS_s _ _ _⟩, hd, hm, hy, fun z hz => by cases hz; omega, fun ps => by rw [er, e]⟩⟩
      · rw [sS_n _ _ (by decide), sS_s]
      · rw [sS_n _ _ (by decide), sS_n _ _ (by decide)]; exact h7
      · rw [sS_n _ _ (by decide), sS_n _ _ (by decide)]; exact h8
      · rw [sS_n _ _ (by decide), sS_n _ _ (by decide)]; exact h9
  rw [if_neg (show ¬ nI p = 87 from fun z => c87 ((eqp 87 (by decide)).mp z))]
  by_cases c89 : p = 89
  · subst c89
    have er : ∀ ps, rdl win c (89 :: ps) i d m y w = (match tD c 4 i 0 with | none => none | some v => rdl win c ps (i + 4) d m (some v) w) := fun ps => rfl
    rw [if_pos (show nI 89 = (89 : Int32) from rfl), show (4 : Int32) = nI 4 from rfl, X2_takeDigits_s hc hp hh ha hi (by omega) (by omega)]
    cases e : tD c 4 i 0 with
    | none =>
      rw [ob_s, bnd_s, if_pos (sS_s _ _ _)]
      exact ⟨_, fr_S (fr_rf st) (by decide) (by decide) _, Or.inl ⟨rfl, fun ps => by rw [er, e]⟩⟩
    | some v =>
      have hv := tD_in e
      rw [ob_s, bnd_s, if_neg (by rw [sS_s]; show ¬ nI v = -1; rw [nI_m1 (by omega)]; exact id)]
      have hf : fr st (setS (setS st 6 (nI (i + 4))) 9 (nI v)) := fr_S (fr_S (fr_rf st) (by decide) (by decide) _) (by decide) (by decide) _
      refine ⟨_, hf, Or.inr ⟨i + 4, d, m, some v, w, rfl, tD_le e hi, ⟨hC_fr hh hf, ?_, ?_, ?_, sS_s _ _ _, ?_⟩, hd, hm, fun z hz => by cases hz; omega, hw, fun ps => by rw [er, e]⟩⟩
      · rw [sS_n _ _ (by decide), sS_s]
      · rw [sS_n _ _ (by decide), sS_n _ _ (by decide)]; exact h7
      · rw [sS_n _ _ (by decide), sS_n _ _ (by decide)]; exact h8
      · rw [sS_n _ _ (by decide), sS_n _ _ (by decide)]; exact h10
  rw [if_neg (show ¬ nI p = 89 from fun z => c89 ((eqp 89 (by decide)).mp z))]
  by_cases c121 : p = 121
  · subst c121
    have er : ∀ ps, rdl win c (121 :: ps) i d m y w = (match tD c 2 i 0 with | none => none | some v => rdl win c ps (i + 2) d m (some (sy win v)) w) := fun ps => rfl
    rw [if_pos (show nI 121 = (121 : Int32) from rfl), X2_takeShortYear_s hc hp hh ha hi hw1 hw2]
    cases e : tD c 2 i 0 with
    | none =>
      rw [ob_s, bnd_s, if_pos (sS_s _ _ _)]
      exact ⟨_, fr_S (fr_rf st) (by decide) (by decide) _, Or.inl ⟨rfl, fun ps => by rw [er, e]⟩⟩
    | some v =>
      have hs : sy win v < 100000 := by unfold sy; omega
      rw [ob_s, bnd_s, if_neg (by rw [sS_s]; show ¬ nI (sy win v) = -1; rw [nI_m1 (by omega)]; exact id)]
      have hf : fr st (setS (setS st 6 (nI (i + 2))) 9 (nI (sy win v))) := fr_S (fr_S (fr_rf st) (by decide) (by decide) _) (by decide) (by decide) _
      refine ⟨_, hf, Or.inr ⟨i + 2, d, m, some (sy win v), w, rfl, tD_le e hi, ⟨hC_fr hh hf, ?_, ?_, ?_, sS_s _ _ _, ?_⟩, hd, hm, fun z hz => by cases hz; omega, hw, fun ps => by rw [er, e]⟩⟩
      · rw [sS_n _ _ (by decide), sS_s]
      · rw [sS_n _ _ (by decide), sS_n _ _ (by decide)]; exact h7
      · rw [sS_n _ _ (by decide), sS_n _ _ (by decide)]; exact h8
      · rw [sS_n _ _ (by decide), sS_n _ _ (by decide)]; exact h10
  rw [if_neg (show ¬ nI p = 121 from fun z => c121 ((eqp 121 (by decide)).mp z))]
  have er : ∀ ps, rdl win c (p :: ps) i d m y w = if c.getD i 0 = p then rdl win c ps (i + 1) d m y w else none := fun ps => by
    show (if p = 32 then _ else if p = 68 then _ else if p = 77 then _ else if p = 78 then _ else if p = 87 then _ else if p = 89 then _ else if p = 121 then _ else if c.getD i 0 = p then rdl win c ps (i + 1) d m y w else none) = _
    rw [if_neg c32, if_neg c68, if_neg c77, if_neg c78, if_neg c87, if_neg c89, if_neg c121]
  unfold fX2_takeByte
  rw [hh.1, ha]
  by_cases q : c.length ≤ i
  · rw [if_pos (nI_le q (by omega)), ob_s]
    exact ⟨st, fr_rf st, Or.inl ⟨tv_0 _, fun ps => by rw [er, gD_0 q, if_neg (by omega)]⟩⟩
  · have hb := hb_small hp i
    rw [if_neg (nI_ge (by omega) (by omega)), bnd_s, ix_n _ (by omega) (by omega), nI_clamp (by omega), hh.2 i (by omega)]
    by_cases q1 : c.getD i 0 = p
    · rw [if_pos (congrArg nI q1), bnd_s, bnd_s, nI_1, ob_s]
      have hf : fr st (setS st 6 (nI (i + 1))) := fr_S (fr_rf st) (by decide) (by decide) _
      refine ⟨_, hf, Or.inr ⟨i + 1, d, m, y, w, tv_1 _, by omega, ⟨hC_fr hh hf, sS_s _ _ _, ?_, ?_, ?_, ?_⟩, hd, hm, hy, hw, fun ps => by rw [er, if_pos q1]⟩⟩
      · rw [sS_n _ _ (by decide)]; exact h7
      · rw [sS_n _ _ (by decide)]; exact h8
      · rw [sS_n _ _ (by decide)]; exact h9
      · rw [sS_n _ _ (by decide)]; exact h10
    · rw [if_neg (by rw [nI_eq (by omega) (by omega)]; exact q1), ob_s]
      exact ⟨st, fr_rf st, Or.inl ⟨tv_0 _, fun ps => by rw [er, if_neg q1]⟩⟩
theorem isD_vd {a b c : Nat} (ha : a < 2 ^ 31) (hb : b < 2 ^ 31) (hc : c < 2 ^ 31) : isD (nI a) (nI b) (nI c) ↔ vd a b c = true := by
  unfold isD vd
  rw [decide_eq_true_iff]
  constructor
  · rintro ⟨x, z, u, e1, e2, e3, h1, h2, h3, h4, h5, h6⟩
    have hl := ml_in z u
    rw [nI_eq ha (by omega)] at e1
    rw [nI_eq hb (by omega)] at e2
    rw [nI_eq hc (by omega)] at e3
    subst e1; subst e2; subst e3
    exact ⟨h1, h2, h3, h4, h5, h6⟩
  · rintro ⟨h1, h2, h3, h4, h5, h6⟩
    exact ⟨a, b, c, rfl, rfl, rfl, h1, h2, h3, h4, h5, h6⟩
/-- the number of a day, or -1 -/
theorem X0_dayNumber_v {a b c : Nat} (ha : a < 2 ^ 31) (hb : b < 2 ^ 31) (hc : c < 2 ^ 31) : fX0_dayNumber (nI a) (nI b) (nI c) = some (if vd a b c then nI (num a b c) else -1) := by
  by_cases h : vd a b c = true
  · rw [if_pos h]
    unfold vd at h
    rw [decide_eq_true_iff] at h
    obtain ⟨h1, h2, h3, h4, h5, h6⟩ := h
    exact X0_dayNumber_s h1 h2 h3 h4 h5 h6
  · rw [if_neg h, X0_dayNumber_n (fun z => h ((isD_vd ha hb hc).mp z))]
theorem isD_m1 {a c : Int32} : ¬ isD a (-1) c := by
  rintro ⟨_, b, _, -, e, -, -, -, h3, h4, -⟩
  have := m1_nI (a := b) (by omega)
  rw [this] at e; exact e
theorem isD_y1 {a b : Int32} : ¬ isD a b (-1) := by
  rintro ⟨_, _, c, -, -, e, h3, h4, -⟩
  have := m1_nI (a := c) (by omega)
  rw [this] at e; exact e
def sp1 (r : Option (Nat × Nat)) : Int32 := oI (r.map Prod.fst)
def sp2 (r : Option (Nat × Nat)) : Int32 := oI (r.map Prod.snd)
def fr2 (st st' : ST) : Prop := (∀ j, (j < 6 ∨ 12 < j) → st'.1 j = st.1 j) ∧ st'.2 = st.2
theorem X2_findSpan_s {d m y w : Option Nat} {st : ST} (h7 : st.1 7 = oI d) (h8 : st.1 8 = oI m) (h9 : st.1 9 = oI y) (h10 : st.1 10 = oI w) (h11 : st.1 11 = -1) (h12 : st.1 12 = -1) (hd : o5 d) (hm : o5 m) (hy : o5 y) (hw : o5 w) :
    ∃ st', fX2_findSpan st = some st' ∧ fr2 st st' ∧ st'.1 11 = sp1 (fin d m y w) ∧ st'.1 12 = sp2 (fin d m y w) := by
  have same : fin d m y w = none → ∃ st', some st = some st' ∧ fr2 st st' ∧ st'.1 11 = sp1 (fin d m y w) ∧ st'.1 12 = sp2 (fin d m y w) := fun e => ⟨st, rfl, ⟨fun _ _ => rfl, rfl⟩, by rw [e]; exact h11, by rw [e]; exact h12⟩
  have set2 : ∀ x z : Nat, fin d m y w = some (x, z) → ∃ st', some (setS (setS st 11 (nI x)) 12 (nI z)) = some st' ∧ fr2 st st' ∧ st'.1 11 = sp1 (fin d m y w) ∧ st'.1 12 = sp2 (fin d m y w) := fun x z e => ⟨_, rfl, ⟨fun j hj => by rw [sS_n _ _ (by omega), sS_n _ _ (by omega)], rfl⟩, by rw [e, sS_n _ _ (by decide), sS_s]; rfl, by rw [e, sS_s]; rfl⟩
  have wk : ∀ n : Nat, n < 2 ^ 31 → ((oI w = nI (n % 7)) = (w = some (n % 7))) := fun n hn => by
    cases w with
    | none => show ((-1 : Int32) = nI (n % 7)) = _; rw [m1_nI (by omega)]; exact propext ⟨fun z => z.elim, fun z => by cases z⟩
    | some v =>
      show (nI v = nI (n % 7)) = _
      have := hw v rfl
      refine propext ⟨fun z => ?_, fun z => by cases z; rfl⟩
      rw [nI_eq (by omega) (by omega)] at z
      rw [z]
  unfold fX2_findSpan
  rw [h7, h8, h9, h10]
  have mnone : m = none ∨ y = none → fin d m y w = none := by
    rintro (rfl | rfl)
    · rfl
    · cases m <;> rfl
  have dn : ∀ a : Nat, a < 2 ^ 31 → (m = none ∨ y = none) → fX0_dayNumber (nI a) (oI m) (oI y) = some (-1) := by
    rintro a ha (rfl | rfl)
    · exact X0_dayNumber_n isD_m1
    · exact X0_dayNumber_n isD_y1
  by_cases hmy : m = none ∨ y = none
  · cases d with
    | none =>
      rw [if_pos (show oI none = -1 from rfl), show fX0_dayNumber 1 (oI m) (oI y) = some (-1) from dn 1 (by decide) hmy, ob_s, if_pos rfl]
      exact same (mnone hmy)
    | some a =>
      have := hd a rfl
      rw [if_neg (by show ¬ nI a = -1; rw [nI_m1 (by omega)]; exact id), show oI (some a) = nI a from rfl, dn a (by omega) hmy, ob_s, if_pos rfl]
      exact same (mnone hmy)
  · obtain ⟨b, rfl⟩ : ∃ b, m = some b := by
      cases m with
      | none => exact absurd (Or.inl rfl) hmy
      | some b => exact ⟨b, rfl⟩
    obtain ⟨z, rfl⟩ : ∃ z, y = some z := by
      cases y with
      | none => exact absurd (Or.inr rfl) hmy
      | some b => exact ⟨b, rfl⟩
    have hb := hm b rfl
    have hz := hy z rfl
    have ev : ∀ a : Nat, vd a b z = true → 1900 ≤ z ∧ z ≤ 2199 ∧ 1 ≤ b ∧ b ≤ 12 ∧ 1 ≤ a ∧ a ≤ ml b z := fun a h => by unfold vd at h; exact decide_eq_true_iff.mp h
    cases d with
    | none =>
      have ef : fin none (some b) (some z) w = if vd 1 b z = true ∧ (w = none ∨ w = some (num 1 b z % 7)) then some (num 1 b z, num 1 b z + ml b z - 1) else none := rfl
      rw [if_pos (show oI none = -1 from rfl), show oI (some b) = nI b from rfl, show oI (some z) = nI z from rfl, show fX0_dayNumber 1 (nI b) (nI z) = _ from X0_dayNumber_v (a := 1) (by decide) (by omega) (by omega), ob_s]
      by_cases v : vd 1 b z = true
      · obtain ⟨v1, v2, v3, v4, v5, v6⟩ := ev 1 v
        have hn := num_le v1 v2 v3 v4 v5 v6
        have hl := ml_in b z
        rw [if_pos v, if_neg (by rw [nI_m1 (by omega)]; exact id)]
        by_cases w0 : w = none
        · rw [if_pos (show oI w = -1 by rw [oI_m1 hw]; exact w0), bnd_s, sS_n _ _ (by decide), sS_n _ _ (by decide), h8, h9, show oI (some b) = nI b from rfl, show oI (some z) = nI z from rfl, X0_monthLength_s v3 v4 (by omega), ob_s, bnd_s, bnd_s, nI_add, show nI (num 1 b z + ml b z) - 1 = nI (num 1 b z + ml b z - 1) from pk_sub (b := 1) (by omega)]
          exact set2 _ _ (by rw [ef, if_pos ⟨v, Or.inl w0⟩])
        · rw [if_neg (show ¬ oI w = -1 by rw [oI_m1 hw]; exact w0), X0_weekdayOf_s (by omega), ob_s]
          by_cases w1 : w = some (num 1 b z % 7)
          · rw [if_pos (show oI w = nI (num 1 b z % 7) by rw [wk _ (by omega)]; exact w1), bnd_s, sS_n _ _ (by decide), sS_n _ _ (by decide), h8, h9, show oI (some b) = nI b from rfl, show oI (some z) = nI z from rfl, X0_monthLength_s v3 v4 (by omega), ob_s, bnd_s, bnd_s, nI_add, show nI (num 1 b z + ml b z) - 1 = nI (num 1 b z + ml b z - 1) from pk_sub (b := 1) (by omega)]
            exact set2 _ _ (by rw [ef, if_pos ⟨v, Or.inr w1⟩])
          · rw [if_neg (show ¬ oI w = nI (num 1 b z % 7) by rw [wk _ (by omega)]; exact w1)]
            exact same (by rw [ef, if_neg (fun q => q.2.elim w0 w1)])
      · rw [if_neg v, if_pos rfl]
        exact same (by rw [ef, if_neg (fun q => v q.1)])
    | some a =>
      have haa := hd a rfl
      have ef : fin (some a) (some b) (some z) w = if vd a b z = true ∧ (w = none ∨ w = some (num a b z % 7)) then some (num a b z, num a b z) else none := rfl
      rw [if_neg (by show ¬ nI a = -1; rw [nI_m1 (by omega)]; exact id), show oI (some a) = nI a from rfl, show oI (some b) = nI b from rfl, show oI (some z) = nI z from rfl, X0_dayNumber_v (by omega) (by omega) (by omega), ob_s]
      by_cases v : vd a b z = true
      · obtain ⟨v1, v2, v3, v4, v5, v6⟩ := ev a v
        have hn := num_le v1 v2 v3 v4 v5 v6
        rw [if_pos v, if_neg (by rw [nI_m1 (by omega)]; exact id)]
        by_cases w0 : w = none
        · rw [if_pos (show oI w = -1 by rw [oI_m1 hw]; exact w0), bnd_s, bnd_s]
          exact set2 _ _ (by rw [ef, if_pos ⟨v, Or.inl w0⟩])
        · rw [if_neg (show ¬ oI w = -1 by rw [oI_m1 hw]; exact w0), X0_weekdayOf_s (by omega), ob_s]
          by_cases w1 : w = some (num a b z % 7)
          · rw [if_pos (show oI w = nI (num a b z % 7) by rw [wk _ (by omega)]; exact w1), bnd_s, bnd_s]
            exact set2 _ _ (by rw [ef, if_pos ⟨v, Or.inr w1⟩])
          · rw [if_neg (show ¬ oI w = nI (num a b z % 7) by rw [wk _ (by omega)]; exact w1)]
            exact same (by rw [ef, if_neg (fun q => q.2.elim w0 w1)])
      · rw [if_neg v, if_pos rfl]
        exact same (by rw [ef, if_neg (fun q => v q.1)])
theorem X2_scan_l {win : Nat} {c : List Nat} {ps : List (List Nat)} {s : Nat} (hw1 : 1900 ≤ win) (hw2 : win ≤ 2100) (hc : c.length ≤ 24) (hp : plain c) (hx : okX 8 ps) (hs : s < ps.length) : ∀ (n k : Nat) (st : ST) (i : Nat) (d m y w : Option Nat), (ps.getD s []).length - k < n → k ≤ (ps.getD s []).length → i ≤ c.length → rC c i d m y w st → o5 d → o5 m → o5 y → o5 w → st.1 11 = -1 → st.1 12 = -1 → st.1 3 = nI ps.length → txt ps 2 1 st →
    ∃ st', fX2_scan_48 n st (nI s) (nI win) (nI (ps.getD s []).length) 1 (nI k) = some st' ∧ fr2 st st' ∧ st'.1 11 = sp1 (rdl win c ((ps.getD s []).drop k) i d m y w) ∧ st'.1 12 = sp2 (rdl win c ((ps.getD s []).drop k) i d m y w) := by
  have hl := (hx.2 s hs).1
  have hpl := (hx.2 s hs).2
  intro n
  induction n with
  | zero => intro k st i d m y w h; omega
  | succ n ih =>
    intro k st i d m y w h hk hi hr hd hm hy hw h11 h12 h3 hX
    unfold fX2_scan_48
    by_cases q : k = (ps.getD s []).length
    · subst q
      rw [if_pos (nI_le (Nat.le_refl _) (by omega)), if_neg (by decide), List.drop_length, hr.2.1, hr.1.1]
      have er : rdl win c [] i d m y w = if i = c.length then fin d m y w else none := rfl
      rw [er]
      by_cases e : i = c.length
      · obtain ⟨st', g1, g2⟩ := X2_findSpan_s hr.2.2.1 hr.2.2.2.1 hr.2.2.2.2.1 hr.2.2.2.2.2 h11 h12 hd hm hy hw
        rw [if_pos (congrArg nI e), g1, ob_s, if_pos e]
        exact ⟨st', rfl, g2⟩
      · rw [if_neg (by rw [nI_eq (by omega) (by omega)]; exact e), if_neg e]
        exact ⟨st, rfl, ⟨fun _ _ => rfl, rfl⟩, h11, h12⟩
    · have hlt : k < (ps.getD s []).length := by omega
      have hb := hpl _ (gD_m hlt)
      rw [if_neg (nI_ge hlt (by omega)), if_neg (by decide), X5_byteAt_p_s h3 hx hX hs hlt, ob_s, gD_c hlt]
      obtain ⟨st1, f1, ⟨g1, g2⟩ | ⟨i', d', m', y', w', g1, g2, g3, g4, g5, g6, g7, g8⟩⟩ := X2_take_s hw1 hw2 hc hp hi hr hd hm hy hw hb.1 hb.2
      · rw [g1, ob_s, bnd_s, nI_1, g2]
        refine ⟨st1, ?_, ⟨fun j hj => f1.1 j (by omega), f1.2⟩, by rw [f1.1 11 (by omega)]; exact h11, by rw [f1.1 12 (by omega)]; exact h12⟩
        obtain ⟨n, rfl⟩ : ∃ z, n = z + 1 := ⟨n - 1, by omega⟩
        show fX2_scan_48 (n + 1) st1 (nI s) (nI win) (nI (ps.getD s []).length) 0 (nI (k + 1)) = _
        unfold fX2_scan_48
        by_cases z : nI (ps.getD s []).length ≤ nI (k + 1)
        · rw [if_pos z, if_pos rfl]
        · rw [if_neg z, if_pos rfl, if_pos rfl]
      · rw [g1, ob_s, bnd_s, nI_1, g8]
        obtain ⟨st', a1, a2, a3⟩ := ih (k + 1) st1 i' d' m' y' w' (by omega) (by omega) g2 g3 g4 g5 g6 g7 (by rw [f1.1 11 (by omega)]; exact h11) (by rw [f1.1 12 (by omega)]; exact h12) (by rw [f1.1 3 (by omega)]; exact h3) (txt_same hX (by rw [f1.2]) (by rw [f1.2]))
        exact ⟨st', a1, ⟨fun j hj => by rw [a2.1 j hj, f1.1 j (by omega)], by rw [a2.2, f1.2]⟩, a3⟩
theorem X2_scan_s {win : Nat} {c : List Nat} {ps : List (List Nat)} {s : Nat} {st : ST} (hw1 : 1900 ≤ win) (hw2 : win ≤ 2100) (hc : c.length ≤ 24) (hp : plain c) (hx : okX 8 ps) (hs : s < ps.length) (hh : hC c st) (h3 : st.1 3 = nI ps.length) (hX : txt ps 2 1 st) :
    ∃ st', fX2_scan st (nI s) (nI win) = some st' ∧ fr2 st st' ∧ st'.1 11 = sp1 (rd win (ps.getD s []) c) ∧ st'.1 12 = sp2 (rd win (ps.getD s []) c) := by
  have hl := (hx.2 s hs).1
  have n5 : o5 none := fun v h => by cases h
  obtain ⟨s0, e0⟩ : ∃ z, z = setS (setS (setS (setS (setS (setS (setS st 6 0) 7 (-1)) 8 (-1)) 9 (-1)) 10 (-1)) 11 (-1)) 12 (-1) := ⟨_, rfl⟩
  have f0 : fr2 st s0 := by
    rw [e0]
    exact ⟨fun j hj => by rw [sS_n _ _ (by omega), sS_n _ _ (by omega), sS_n _ _ (by omega), sS_n _ _ (by omega), sS_n _ _ (by omega), sS_n _ _ (by omega), sS_n _ _ (by omega)], rfl⟩
  have h30 : s0.1 3 = nI ps.length := by rw [f0.1 3 (by omega)]; exact h3
  have hX0 : txt ps 2 1 s0 := txt_same hX (by rw [f0.2]) (by rw [f0.2])
  have r0 : rC c 0 none none none none s0 := by
    refine ⟨⟨by rw [f0.1 5 (by omega)]; exact hh.1, fun j hj => by rw [f0.2]; exact hh.2 j hj⟩, ?_, ?_, ?_, ?_, ?_⟩ <;> rw [e0]
    · rw [sS_n _ _ (by decide), sS_n _ _ (by decide), sS_n _ _ (by decide), sS_n _ _ (by decide), sS_n _ _ (by decide), sS_n _ _ (by decide), sS_s]; rfl
    · rw [sS_n _ _ (by decide), sS_n _ _ (by decide), sS_n _ _ (by decide), sS_n _ _ (by decide), sS_n _ _ (by decide), sS_s]; rfl
    · rw [sS_n _ _ (by decide), sS_n _ _ (by decide), sS_n _ _ (by decide), sS_n _ _ (by decide), sS_s]; rfl
    · rw [sS_n _ _ (by decide), sS_n _ _ (by decide), sS_n _ _ (by decide), sS_s]; rfl
    · rw [sS_n _ _ (by decide), sS_n _ _ (by decide), sS_s]; rfl
  obtain ⟨st', g1, g2, g3⟩ := X2_scan_l hw1 hw2 hc hp hx hs 1000 0 s0 0 none none none none (by omega) (by omega) (by omega) r0 n5 n5 n5 n5 (by rw [e0, sS_n _ _ (by decide), sS_s]) (by rw [e0, sS_s]) h30 hX0
  rw [List.drop_zero] at g3
  refine ⟨st', ?_, ⟨fun j hj => by rw [g2.1 j hj, f0.1 j hj], by rw [g2.2, f0.2]⟩, g3⟩
  unfold fX2_scan
  simp only [bnd_s]
  rw [← e0, X5_lengthOf_p_s h30 hx hX0 hs, ob_s]
  exact g1
