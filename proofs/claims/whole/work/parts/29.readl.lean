/-! The model's reads: the loop over a pattern. -/
theorem cnt_c (c b : Nat) (t : List Nat) : cnt c (b :: t) = (if b = c then 1 else 0) + cnt c t := rfl
theorem mC_fR {row : Nat} {c : List Nat} {st st' : ST} (h : mC row c st) (hf : fR st st') (h18 : st'.1 18 = st.1 18) : mC row c st' := ⟨h.1, by rw [h18]; exact h.2.1, by rw [hf.2]; exact h.2.2.1, fun j hj => by rw [hf.2]; exact h.2.2.2 j hj⟩
set_option maxHeartbeats 4000000 in
theorem X9_reads_l {win row s : Nat} {c : List Nat} {ps : List (List Nat)} (hw1 : 1900 ≤ win) (hw2 : win ≤ 2100) (hc : c.length ≤ 24) (hp : plain c) (hx : okX 8 ps) (hs : s < ps.length) (hpat : isPat (ps.getD s [])) : ∀ (n k : Nat) (st : ST) (i : Nat) (d m y w : Option Nat), (ps.getD s []).length - k < n → k ≤ (ps.getD s []).length → i ≤ c.length → mC row c st → st.1 17 = nI i → st.1 11 = nI win → txt ps 4 2 st → o5 d → o5 m → o5 y → (∀ v, w = some v → v < 7) → d ≠ some 0 → m ≠ some 0 →
    ∃ st' r, fR st st' ∧ fX9_reads_25 n st (nI row) (nI s) (nI (d.getD 0)) (nI (m.getD 0)) (nI (y.getD 0)) (nI (w.getD 7)) (nI k) = some (r, st') ∧ ((rdl win c ((ps.getD s []).drop k) i d m y w = none ∧ r = 0) ∨ ∃ a b, rdl win c ((ps.getD s []).drop k) i d m y w = some (a, b) ∧ r = 1 ∧ st'.1 15 = nI a ∧ st'.1 16 = nI b) := by
  have hl := (hx.2 s hs).1
  have hpl := (hx.2 s hs).2
  have hsz := hx.1
  intro n
  induction n with
  | zero => intro k st i d m y w h; omega
  | succ n ih =>
    intro k st i d m y w h hk hi hm0 ha h11 hX hd hm hy hw d0 m0
    -- going on behind a part that was found
    have go : ∀ (st1 : ST) (i' : Nat) (d' m' y' w' : Option Nat), fm st st1 → k < (ps.getD s []).length → i' ≤ c.length → st1.1 17 = nI i' → o5 d' → o5 m' → o5 y' → (∀ v, w' = some v → v < 7) → d' ≠ some 0 → m' ≠ some 0 →
        ∃ st' r, fR st st' ∧ fX9_reads_25 n st1 (nI row) (nI s) (nI (d'.getD 0)) (nI (m'.getD 0)) (nI (y'.getD 0)) (nI (w'.getD 7)) (nI (k + 1)) = some (r, st') ∧ ((rdl win c ((ps.getD s []).drop (k + 1)) i' d' m' y' w' = none ∧ r = 0) ∨ ∃ a b, rdl win c ((ps.getD s []).drop (k + 1)) i' d' m' y' w' = some (a, b) ∧ r = 1 ∧ st'.1 15 = nI a ∧ st'.1 16 = nI b) := by
      intro st1 i' d' m' y' w' f1 hlt hi' ha' hd' hm' hy' hw' d0' m0'
      obtain ⟨st', r, g1, g2, g3⟩ := ih (k + 1) st1 i' d' m' y' w' (by omega) (by omega) hi' (mC_fm hm0 f1) ha' (by rw [f1.1 11 (by decide)]; exact h11) (txt_same hX (by rw [f1.2]) (by rw [f1.2])) hd' hm' hy' hw' d0' m0'
      exact ⟨st', r, fR_tr (fR_fm f1) g1, g2, g3⟩
    unfold fX9_reads_25
    rw [ix_n _ (by omega) (by omega), nI_clamp (by omega), (hX s hs).1]
    by_cases q : k = (ps.getD s []).length
    · subst q
      rw [if_pos (nI_le (Nat.le_refl _) (by omega)), List.drop_length]
      exact X9_fin_s hc hm0 ha hi hd hm hy hw d0 0 _ rfl
    · have hlt : k < (ps.getD s []).length := by omega
      have hb := hpl _ (gD_m hlt)
      rw [if_neg (nI_ge hlt (by omega)), show (24 : Int32) * nI s = nI (24 * s) from pk_mul 24 s, nI_add, bnd_s, ix_n _ (by omega) (by omega), nI_clamp (by omega), (hX s hs).2 k hlt, bnd_s, gD_c hlt]
      have hc68 := cnt_drop 68 (ps.getD s []) k
      have hc77 := cnt_drop 77 (ps.getD s []) k
      have hc78 := cnt_drop 78 (ps.getD s []) k
      rw [gD_c hlt] at hc68 hc77 hc78
      have hp1 := hpat.2.1
      have hp2 := hpat.2.2.1
      generalize (ps.getD s []).getD k 0 = p at hb hc68 hc77 hc78 ⊢
      have eqp : ∀ j : Nat, j < 128 → (nI p = nI j ↔ p = j) := fun j hj => nI_eq (by omega) (by omega)
      by_cases c68 : p = 68
      · subst c68
        have er : ∀ rs, rdl win c (68 :: rs) i d m y w = (match tD c (k2 c i) i 0 with | none => none | some v => rdl win c rs (i + k2 c i) (some v) m y w) := fun rs => rfl
        rw [if_pos (show nI 68 = (68 : Int32) from rfl), er]
        obtain ⟨r1, st1, f1, hK, g⟩ := X9_dm hc hp hi hm0 ha
        rw [hK]
        rcases g with ⟨g1, rfl⟩ | ⟨v, g1, rfl, g3⟩
        · rw [if_neg (show ¬ (1 : Int32) ≤ -1 by decide), g1]
          exact ⟨st1, 0, fR_fm f1, rfl, Or.inl ⟨rfl, rfl⟩⟩
        · have hv := tD_in g1
          have hv2 : v < 100 := Nat.lt_of_lt_of_le hv (by have := k2_in c i; rcases (show k2 c i = 1 ∨ k2 c i = 2 by omega) with q | q <;> rw [q] <;> decide)
          rw [g1]
          by_cases v0 : v = 0
          · subst v0
            rw [if_neg (show ¬ (1 : Int32) ≤ nI 0 by decide)]
            refine ⟨st1, 0, fR_fm f1, rfl, Or.inl ⟨rdl_d0 _ _ _ _ _ ?_, rfl⟩⟩
            rw [cnt_c, if_pos rfl] at hc68
            omega
          · rw [if_pos (show (1 : Int32) ≤ nI v from nI_le (a := 1) (by omega) (by omega)), if_pos (show nI 68 = (68 : Int32) from rfl), bnd_s, nI_1]
            exact go st1 (i + k2 c i) (some v) m y w f1 hlt (tD_le g1 hi) g3 (fun z hz => by cases hz; omega) hm hy hw (fun z => by cases z; exact v0 rfl) m0
      rw [if_neg (show ¬ nI p = 68 from fun z => c68 ((eqp 68 (by decide)).mp z))]
      by_cases c77 : p = 77
      · subst c77
        have er : ∀ rs, rdl win c (77 :: rs) i d m y w = (match tD c (k2 c i) i 0 with | none => none | some v => rdl win c rs (i + k2 c i) d (some v) y w) := fun rs => rfl
        rw [if_pos (show nI 77 = (77 : Int32) from rfl), er]
        obtain ⟨r1, st1, f1, hK, g⟩ := X9_dm hc hp hi hm0 ha
        rw [hK]
        rcases g with ⟨g1, rfl⟩ | ⟨v, g1, rfl, g3⟩
        · rw [if_neg (show ¬ (1 : Int32) ≤ -1 by decide), g1]
          exact ⟨st1, 0, fR_fm f1, rfl, Or.inl ⟨rfl, rfl⟩⟩
        · have hv := tD_in g1
          have hv2 : v < 100 := Nat.lt_of_lt_of_le hv (by have := k2_in c i; rcases (show k2 c i = 1 ∨ k2 c i = 2 by omega) with q | q <;> rw [q] <;> decide)
          rw [g1]
          by_cases v0 : v = 0
          · subst v0
            rw [if_neg (show ¬ (1 : Int32) ≤ nI 0 by decide)]
            refine ⟨st1, 0, fR_fm f1, rfl, Or.inl ⟨rdl_m0 _ _ _ _ _ ?_ ?_, rfl⟩⟩ <;>
            · rw [cnt_c, if_pos rfl] at hc77
              rw [cnt_c, if_neg (by decide)] at hc78
              omega
          · rw [if_pos (show (1 : Int32) ≤ nI v from nI_le (a := 1) (by omega) (by omega)), if_neg (show ¬ nI 77 = (68 : Int32) by decide), bnd_s, nI_1]
            exact go st1 (i + k2 c i) d (some v) y w f1 hlt (tD_le g1 hi) g3 hd (fun z hz => by cases hz; omega) hy hw d0 (fun z => by cases z; exact v0 rfl)
      rw [if_neg (show ¬ nI p = 77 from fun z => c77 ((eqp 77 (by decide)).mp z))]
      by_cases c89 : p = 89
      · subst c89
        have er : ∀ rs, rdl win c (89 :: rs) i d m y w = (match tD c 4 i 0 with | none => none | some v => rdl win c rs (i + 4) d m (some v) w) := fun rs => rfl
        rw [if_pos (show nI 89 = (89 : Int32) from rfl), if_pos (show nI 89 = (89 : Int32) from rfl), er]
        obtain ⟨st1, f1, g⟩ := X9_digits_s hc hp (k := 4) (by omega) hi hm0 ha
        rcases g with ⟨g1, g2⟩ | ⟨v, g1, g2, g3⟩
        · rw [show fX9_digits st 4 = _ from g2, ob_s, if_pos rfl, g1]
          exact ⟨st1, 0, fR_fm f1, rfl, Or.inl ⟨rfl, rfl⟩⟩
        · have hv := tD_in g1
          rw [show fX9_digits st 4 = _ from g2, ob_s, if_neg (by show ¬ nI v = -1; rw [nI_m1 (by omega)]; exact id), if_neg (show ¬ nI 89 = (121 : Int32) by decide), bnd_s, nI_1, g1]
          exact go st1 (i + 4) d m (some v) w f1 hlt (tD_le g1 hi) g3 hd hm (fun z hz => by cases hz; omega) hw d0 m0
      rw [if_neg (show ¬ nI p = 89 from fun z => c89 ((eqp 89 (by decide)).mp z))]
      by_cases c121 : p = 121
      · subst c121
        have er : ∀ rs, rdl win c (121 :: rs) i d m y w = (match tD c 2 i 0 with | none => none | some v => rdl win c rs (i + 2) d m (some (sy win v)) w) := fun rs => rfl
        rw [if_pos (show nI 121 = (121 : Int32) from rfl), if_neg (show ¬ nI 121 = (89 : Int32) by decide), er]
        obtain ⟨st1, f1, g⟩ := X9_digits_s hc hp (k := 2) (by omega) hi hm0 ha
        rcases g with ⟨g1, g2⟩ | ⟨v, g1, g2, g3⟩
        · rw [show fX9_digits st 2 = _ from g2, ob_s, if_pos rfl, g1]
          exact ⟨st1, 0, fR_fm f1, rfl, Or.inl ⟨rfl, rfl⟩⟩
        · have hv := tD_in g1
          have hsy : sy win v < 100000 := by unfold sy; omega
          rw [show fX9_digits st 2 = _ from g2, ob_s, if_neg (by show ¬ nI v = -1; rw [nI_m1 (by omega)]; exact id), if_pos (show nI 121 = (121 : Int32) from rfl)]
          show ∃ st' r, fR st st' ∧ (ob (fJ9_floorMod_7cf53 (nI v - st1.1 11) 100) fun o85 => bnd (st1.1 11 + o85 : Int32) fun x86 => bnd (nI k + 1 : Int32) fun x87 => fX9_reads_25 n st1 (nI row) (nI s) (nI (d.getD 0)) (nI (m.getD 0)) x86 (nI (w.getD 7)) x87) = some (r, st') ∧ _
          rw [f1.1 11 (by decide), h11, floor_s hw1 hw2 (by omega), ob_s, bnd_s, bnd_s, nI_add, nI_1, g1]
          exact go st1 (i + 2) d m (some (sy win v)) w f1 hlt (tD_le g1 hi) g3 hd hm (fun z hz => by cases hz; omega) hw d0 m0
      rw [if_neg (show ¬ nI p = 121 from fun z => c121 ((eqp 121 (by decide)).mp z))]
      by_cases c78 : p = 78
      · subst c78
        have er : ∀ rs, rdl win c (78 :: rs) i d m y w = (match tW nMO c i 12 0 with | none => none | some v => rdl win c rs (i + 3) d (some (1 + v)) y w) := fun rs => rfl
        rw [if_pos (show nI 78 = (78 : Int32) from rfl), er]
        obtain ⟨st1, f1, g⟩ := X9_word_3_l hc hp hm0 ha hi 12 1000 0 (by omega) (by omega)
        rcases g with ⟨g1, g2⟩ | ⟨v, g1, g2, g3⟩
        · rw [show fX9_word_3 st = _ from g2, ob_s, bnd_s, if_pos (show (1 : Int32) + -1 = 0 by decide), g1]
          exact ⟨st1, 0, fR_fm f1, rfl, Or.inl ⟨rfl, rfl⟩⟩
        · have hv := tW_M_lt 12 0 (by omega) g1
          rw [show fX9_word_3 st = _ from g2, ob_s, bnd_s, show (1 : Int32) + nI v = nI (1 + v) from nI_add 1 v, if_neg (show ¬ nI (1 + v) = 0 from nI_ne0 (by omega) (by omega)), bnd_s, nI_1, g1]
          exact go st1 (i + 3) d (some (1 + v)) y w f1 hlt hv.2 g3 hd (fun z hz => by cases hz; omega) hy hw d0 (fun z => by have := Option.some.inj z; omega)
      rw [if_neg (show ¬ nI p = 78 from fun z => c78 ((eqp 78 (by decide)).mp z))]
      by_cases c87 : p = 87
      · subst c87
        have er : ∀ rs, rdl win c (87 :: rs) i d m y w = (match tW nWD c i 7 0 with | none => none | some v => rdl win c rs (i + 3) d m y (some v)) := fun rs => rfl
        rw [if_pos (show nI 87 = (87 : Int32) from rfl), er]
        obtain ⟨st1, f1, g⟩ := X9_word_4_l hc hp hm0 ha hi 7 1000 0 (by omega) (by omega)
        rcases g with ⟨g1, g2⟩ | ⟨v, g1, g2, g3⟩
        · rw [show fX9_word_4 st = _ from g2, ob_s, if_pos rfl, g1]
          exact ⟨st1, 0, fR_fm f1, rfl, Or.inl ⟨rfl, rfl⟩⟩
        · have hv := tW_W_lt 7 0 (by omega) g1
          rw [show fX9_word_4 st = _ from g2, ob_s, if_neg (by show ¬ nI v = -1; rw [nI_m1 (by omega)]; exact id), bnd_s, nI_1, g1]
          exact go st1 (i + 3) d m y (some v) f1 hlt hv.2 g3 hd hm hy (fun z hz => by cases hz; omega) d0 m0
      rw [if_neg (show ¬ nI p = 87 from fun z => c87 ((eqp 87 (by decide)).mp z)), ha, X9_byteAt_s hc hm0 (by omega), ob_s]
      have hbi := hb_small hp i
      by_cases c32 : p = 32
      · subst c32
        have er : ∀ rs, rdl win c (32 :: rs) i d m y w = if i < sk c 30 i then rdl win c rs (sk c 30 i) d m y w else none := fun rs => rfl
        rw [er]
        by_cases e : c.getD i 0 = 32
        · have hil : i < c.length := by
            rcases Nat.lt_or_ge i c.length with z | z
            · exact z
            · rw [gD_0 z] at e; omega
          have ek : sk c 30 i = sk c 29 (i + 1) := by
            show (if c.getD i 0 = 32 then sk c 29 (i + 1) else i) = _
            rw [if_pos e]
          have hle := sk_le (c := c) (f := 29) (i := i + 1)
          rw [if_pos (congrArg nI e), bnd_s, bnd_s, nI_1, ek, if_pos (by omega)]
          obtain ⟨st1, g1, g2, g3⟩ := X9_blanks_l hc hp (nI row) (nI s) (nI (d.getD 0)) (nI (m.getD 0)) (nI (y.getD 0)) (nI (w.getD 7)) (nI k) 29 1000 (i + 1) (setS st 17 (nI (i + 1))) (by omega) (mC_fm hm0 (fm_S st _)) (sS_s _ _ _) (by omega) (by omega)
          rw [show fX9_reads_268 1000 (setS st 17 (nI (i + 1))) (nI row) (nI s) (nI (d.getD 0)) (nI (m.getD 0)) (nI (y.getD 0)) (nI (w.getD 7)) (nI k) (nI 32) = _ from g1, ob_s, bnd_s, nI_1]
          exact go st1 (sk c 29 (i + 1)) d m y w (fm_tr (fm_S st _) g3) hlt (hle.2 (by omega)) g2 hd hm hy hw d0 m0
        · have ek : sk c 30 i = i := by
            show (if c.getD i 0 = 32 then sk c 29 (i + 1) else i) = _
            rw [if_neg e]
          rw [if_neg (by rw [nI_eq (by omega) (by omega)]; exact e), ek, if_neg (Nat.lt_irrefl i)]
          exact ⟨st, 0, fR_rf st, rfl, Or.inl ⟨rfl, rfl⟩⟩
      · have er : ∀ rs, rdl win c (p :: rs) i d m y w = if c.getD i 0 = p then rdl win c rs (i + 1) d m y w else none := fun rs => by
          show (if p = 32 then _ else if p = 68 then _ else if p = 77 then _ else if p = 78 then _ else if p = 87 then _ else if p = 89 then _ else if p = 121 then _ else if c.getD i 0 = p then rdl win c rs (i + 1) d m y w else none) = _
          rw [if_neg c32, if_neg c68, if_neg c77, if_neg c78, if_neg c87, if_neg c89, if_neg c121]
        rw [er]
        by_cases e : c.getD i 0 = p
        · have hil : i < c.length := by
            rcases Nat.lt_or_ge i c.length with z | z
            · exact z
            · rw [gD_0 z] at e; omega
          have hbl : fX9_reads_268 1000 (setS st 17 (nI (i + 1))) (nI row) (nI s) (nI (d.getD 0)) (nI (m.getD 0)) (nI (y.getD 0)) (nI (w.getD 7)) (nI k) (nI p) = some (setS st 17 (nI (i + 1))) := by
            unfold fX9_reads_268
            rw [if_neg (show ¬ nI p = 32 from fun z => c32 ((eqp 32 (by decide)).mp z))]
          rw [if_pos (congrArg nI e), bnd_s, bnd_s, nI_1, hbl, ob_s, bnd_s, nI_1, if_pos e]
          exact go (setS st 17 (nI (i + 1))) (i + 1) d m y w (fm_S st _) hlt (by omega) (sS_s _ _ _) hd hm hy hw d0 m0
        · rw [if_neg (by rw [nI_eq (by omega) (by omega)]; exact e), if_neg e]
          exact ⟨st, 0, fR_rf st, rfl, Or.inl ⟨rfl, rfl⟩⟩
/-- reads: whether a row is read by a style, its span in 15 and 16 -/
theorem X9_reads_s {win row s : Nat} {c : List Nat} {ps : List (List Nat)} {st : ST} (hw1 : 1900 ≤ win) (hw2 : win ≤ 2100) (hc : c.length ≤ 24) (hp : plain c) (hx : okX 8 ps) (hs : s < ps.length) (hpat : isPat (ps.getD s [])) (hr : row < 30) (h6 : st.2 6 row = nI c.length) (h3 : ∀ j, j < c.length → st.2 3 (24 * row + j) = nI (c.getD j 0)) (h11 : st.1 11 = nI win) (hX : txt ps 4 2 st) :
    ∃ st' r, fR st st' ∧ fX9_reads st (nI row) (nI s) = some (r, st') ∧ ((rd win (ps.getD s []) c = none ∧ r = 0) ∨ ∃ a b, rd win (ps.getD s []) c = some (a, b) ∧ r = 1 ∧ st'.1 15 = nI a ∧ st'.1 16 = nI b) := by
  have hl := (hx.2 s hs).1
  have n5 : o5 none := fun v h => by cases h
  have f0 : fR st (setS (setS st 18 (nI row)) 17 0) := ⟨fun j _ _ k3 k4 => by rw [sS_n _ _ k3, sS_n _ _ k4], rfl⟩
  have m0 : mC row c (setS (setS st 18 (nI row)) 17 0) := ⟨hr, by rw [sS_n _ _ (by decide), sS_s], h6, h3⟩
  obtain ⟨st', r, g1, g2, g3⟩ := X9_reads_l hw1 hw2 hc hp hx hs hpat 1000 0 (setS (setS st 18 (nI row)) 17 0) 0 none none none none (by omega) (by omega) (by omega) m0 (sS_s _ _ _) (by rw [f0.1 11 (by decide) (by decide) (by decide) (by decide)]; exact h11) (txt_same hX rfl rfl) n5 n5 n5 (fun v h => by cases h) (fun h => by cases h) (fun h => by cases h)
  rw [List.drop_zero] at g3
  refine ⟨st', r, fR_tr f0 g1, ?_, g3⟩
  unfold fX9_reads
  rw [bnd_s, bnd_s]
  exact g2
