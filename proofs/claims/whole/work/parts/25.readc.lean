/-! The class's reader. -/
def hC (c : List Nat) (st : ST) : Prop := st.1 5 = nI c.length ∧ ∀ j, j < c.length → st.2 5 j = nI (c.getD j 0)
def rC (c : List Nat) (i : Nat) (d m y w : Option Nat) (st : ST) : Prop := hC c st ∧ st.1 6 = nI i ∧ st.1 7 = oI d ∧ st.1 8 = oI m ∧ st.1 9 = oI y ∧ st.1 10 = oI w
def fr (st st' : ST) : Prop := (∀ j, (j < 6 ∨ 10 < j) → st'.1 j = st.1 j) ∧ st'.2 = st.2
theorem fr_rf (st : ST) : fr st st := ⟨fun _ _ => rfl, rfl⟩
theorem fr_S {st st' : ST} (h : fr st st') {k : Nat} (h1 : 6 ≤ k) (h2 : k ≤ 10) (v : Int32) : fr st (setS st' k v) := ⟨fun j hj => by rw [sS_n _ _ (by omega)]; exact h.1 j hj, h.2⟩
theorem hC_fr {c : List Nat} {st st' : ST} (h : hC c st) (hf : fr st st') : hC c st' := ⟨by rw [hf.1 5 (by omega)]; exact h.1, fun j hj => by rw [hf.2]; exact h.2 j hj⟩
theorem fr_tr {a b c : ST} (h1 : fr a b) (h2 : fr b c) : fr a c := ⟨fun j hj => by rw [h2.1 j hj, h1.1 j hj], by rw [h2.2, h1.2]⟩
theorem X2_digitsHere_s {c : List Nat} {i : Nat} {st : ST} (hc : c.length ≤ 24) (hp : plain c) (h : hC c st) (ha : st.1 6 = nI i) (hi : i ≤ c.length) : fX2_digitsHere st = some (nI (k2 c i)) := by
  unfold fX2_digitsHere k2
  rw [bnd_s, ha, nI_1, h.1]
  by_cases q : c.length ≤ i + 1
  · rw [if_pos (nI_le q (by omega)), gD_0 q]; rfl
  · have hlt : i + 1 < c.length := by omega
    have hb := hp _ (gD_m hlt)
    rw [if_neg (nI_ge hlt (by omega)), ix_n _ (by omega) (by omega), nI_clamp (by omega), h.2 _ hlt]
    by_cases q1 : c.getD (i + 1) 0 < 48
    · rw [if_pos (show nI (c.getD (i + 1) 0) < 48 from nI_lt (b := 48) q1 (by omega)), if_neg (by rw [dig_iff]; omega)]; rfl
    · rw [if_neg (show ¬ nI (c.getD (i + 1) 0) < 48 from nI_nlt (b := 48) (by omega) (by omega)), ix_n _ (by omega) (by omega)]
      by_cases q2 : 57 < c.getD (i + 1) 0
      · rw [if_pos (show 57 < nI (c.getD (i + 1) 0) from nI_lt (a := 57) q2 (by omega)), if_neg (by rw [dig_iff]; omega)]; rfl
      · rw [if_neg (show ¬ 57 < nI (c.getD (i + 1) 0) from nI_nlt (a := 57) (by omega) (by omega)), if_pos (by rw [dig_iff]; omega)]; rfl
theorem X2_takeDigits_l {c : List Nat} {i k : Nat} {st : ST} (hc : c.length ≤ 24) (hp : plain c) (h : hC c st) (ha : st.1 6 = nI i) (hk : i + k ≤ c.length) : ∀ (n j x : Nat), k - j < n → j ≤ k →
    fX2_takeDigits_22 n st (nI k) (nI x) (nI (i + j)) = (match tD c (k - j) (i + j) x with | none => some (-1, st) | some v => some (nI v, setS st 6 (nI (i + k)))) := by
  intro n
  induction n with
  | zero => intro j x h; omega
  | succ n ih =>
    intro j x h1 hj
    unfold fX2_takeDigits_22
    rw [ha, nI_add]
    by_cases q : j = k
    · subst q
      rw [if_pos (nI_le (Nat.le_refl _) (by omega)), bnd_s, bnd_s, Nat.sub_self]
      rfl
    · have hlt : i + j < c.length := by omega
      have hb := hp _ (gD_m hlt)
      obtain ⟨r, hr⟩ : ∃ r, k - j = r + 1 := ⟨k - j - 1, by omega⟩
      rw [if_neg (nI_ge (by omega) (by omega)), ix_n _ (by omega) (by omega), nI_clamp (by omega), h.2 _ hlt, hr]
      unfold tD
      by_cases q1 : c.getD (i + j) 0 < 48
      · rw [if_pos (show nI (c.getD (i + j) 0) < 48 from nI_lt (b := 48) q1 (by omega)), if_neg (by rw [dig_iff]; omega)]
      · rw [if_neg (show ¬ nI (c.getD (i + j) 0) < 48 from nI_nlt (b := 48) (by omega) (by omega)), ix_n _ (by omega) (by omega)]
        by_cases q2 : c.getD (i + j) 0 ≤ 57
        · rw [if_pos (show nI (c.getD (i + j) 0) ≤ 57 from nI_le (b := 57) q2 (by omega)), ix_n _ (by omega) (by omega), if_pos (by rw [dig_iff]; omega), bnd_s, bnd_s, nI_1, show (10 : Int32) = nI 10 from rfl, pk_mul, nI_add, show (48 : Int32) = nI 48 from rfl, pk_sub (by omega)]
          have := ih (j + 1) (x * 10 + c.getD (i + j) 0 - 48) (by omega) (by omega)
          rw [show k - (j + 1) = r by omega] at this
          exact this
        · rw [if_neg (show ¬ nI (c.getD (i + j) 0) ≤ 57 from nI_ge (a := 57) (by omega) (by omega)), if_neg (by rw [dig_iff]; omega)]
theorem X2_takeDigits_s {c : List Nat} {i k : Nat} {st : ST} (hc : c.length ≤ 24) (hp : plain c) (h : hC c st) (ha : st.1 6 = nI i) (hi : i ≤ c.length) (hk : k ≤ 4) (hk1 : 1 ≤ k) :
    fX2_takeDigits st (nI k) = (match tD c k i 0 with | none => some (-1, st) | some v => some (nI v, setS st 6 (nI (i + k)))) := by
  unfold fX2_takeDigits
  rw [h.1, ha, pk_sub hi]
  by_cases q : k ≤ c.length - i
  · rw [if_pos (nI_le q (by omega)), bnd_s]
    exact X2_takeDigits_l hc hp h ha (by omega) 1000 0 0 (by omega) (by omega)
  · rw [if_neg (nI_ge (by omega) (by omega)), tD_big (by omega) hi]
theorem X2_takeShortYear_s {c : List Nat} {i win : Nat} {st : ST} (hc : c.length ≤ 24) (hp : plain c) (h : hC c st) (ha : st.1 6 = nI i) (hi : i ≤ c.length) (h1 : 1900 ≤ win) (h2 : win ≤ 2100) :
    fX2_takeShortYear st (nI win) = (match tD c 2 i 0 with | none => some (-1, st) | some v => some (nI (sy win v), setS st 6 (nI (i + 2)))) := by
  unfold fX2_takeShortYear
  rw [show (2 : Int32) = nI 2 from rfl, X2_takeDigits_s hc hp h ha hi (by omega) (by omega)]
  cases e : tD c 2 i 0 with
  | none => rw [ob_s, if_pos rfl]
  | some v =>
    have hv := tD_in e
    rw [ob_s, if_neg (by show ¬ nI v = -1; rw [nI_m1 (by omega)]; exact id), floor_s h1 h2 (by omega), ob_s, nI_add]
    rfl
theorem hb_small {c : List Nat} (hp : plain c) (j : Nat) : c.getD j 0 < 127 := by
  rcases Nat.lt_or_ge j c.length with q | q
  · have := hp _ (gD_m q); omega
  · rw [gD_0 q]; omega
theorem X2_takeBlanks_l {c : List Nat} {i : Nat} (hc : c.length ≤ 24) (hp : plain c) : ∀ (f n j : Nat) (st : ST), f < n → hC c st → st.1 6 = nI j → i ≤ j → j ≤ c.length → c.length < j + f →
    ∃ st', fX2_takeBlanks_5 n st (nI i) = some (if i < sk c f j then 1 else 0, st') ∧ st'.1 6 = nI (sk c f j) ∧ (∀ k, k ≠ 6 → st'.1 k = st.1 k) ∧ st'.2 = st.2 := by
  intro f
  induction f with
  | zero => intro n j st h1 h2 h3 h4 h5 h6; omega
  | succ f ih =>
    intro n j st h1 h2 h3 h4 h5 h6
    obtain ⟨n, rfl⟩ : ∃ z, n = z + 1 := ⟨n - 1, by omega⟩
    have done : ∃ st', (if nI j ≤ nI i then some ((0 : Int32), st) else some (1, st)) = some (if i < j then 1 else 0, st') ∧ st'.1 6 = nI j ∧ (∀ k, k ≠ 6 → st'.1 k = st.1 k) ∧ st'.2 = st.2 := by
      refine ⟨st, ?_, h3, fun _ _ => rfl, rfl⟩
      by_cases z : i < j
      · rw [if_neg (nI_ge z (by omega)), if_pos z]
      · rw [if_pos (nI_le (by omega) (by omega)), if_neg z]
    unfold fX2_takeBlanks_5 sk
    rw [h2.1, h3]
    by_cases q : c.length ≤ j
    · rw [if_pos (nI_le q (by omega)), if_neg (show ¬ c.getD j 0 = 32 by rw [gD_0 q]; decide)]
      exact done
    · rw [if_neg (nI_ge (by omega) (by omega)), bnd_s, ix_n _ (by omega) (by omega), nI_clamp (by omega), h2.2 j (by omega)]
      by_cases q1 : c.getD j 0 = 32
      · rw [if_pos (show nI (c.getD j 0) = 32 by rw [q1]; rfl), if_pos q1, bnd_s, bnd_s, nI_1]
        obtain ⟨st', g1, g2, g3, g4⟩ := ih n (j + 1) (setS st 6 (nI (j + 1))) (by omega) ⟨by rw [sS_n _ _ (by decide)]; exact h2.1, h2.2⟩ (sS_s _ _ _) (by omega) (by omega) (by omega)
        exact ⟨st', g1, g2, fun k hk => by rw [g3 k hk, sS_n _ _ hk], g4⟩
      · rw [if_neg (show ¬ nI (c.getD j 0) = 32 from fun z => q1 (by
          rcases Nat.lt_or_ge (c.getD j 0) (2 ^ 31) with b | b
          · rw [show (32 : Int32) = nI 32 from rfl, nI_eq b (by decide)] at z; exact z
          · exfalso; exact absurd (hb_small hp j) (by omega))), if_neg q1]
        exact done
theorem X2_stands_M_1 {c : List Nat} {i w k n : Nat} {st : ST} (hc : c.length ≤ 24) (hp : plain c) (h : hC c st) (ha : st.1 6 = nI i) (hi : i + 3 ≤ c.length) (hw : w < 12) (hk : k < 3) :
    fX2_standsHere_M_29 (n + 1) st (nI (w * 3)) (nI k) = if low (c.getD (i + k) 0) = nMO.getD (3 * w + k) 0 then fX2_standsHere_M_29 n st (nI (w * 3)) (nI (k + 1)) else some 0 := by
  have hlt : i + k < c.length := by omega
  have hb := hp _ (gD_m hlt)
  obtain ⟨t1, t2⟩ := tMO_n (w * 3 + k) (by omega)
  rw [show w * 3 + k = 3 * w + k by omega] at t1 t2
  generalize hR : fX2_standsHere_M_29 n st (nI (w * 3)) (nI (k + 1)) = RR
  unfold fX2_standsHere_M_29
  rw [if_neg (show ¬ (3 : Int32) ≤ nI k from nI_ge (b := 3) hk (by omega)), bnd_s, ha, nI_add, ix_n _ (by omega) (by omega), nI_clamp (by omega), bnd_s, h.2 _ hlt]
  simp only [bnd_s]
  rw [nI_add, ix_n _ (show w * 3 + k < 36 by omega) (by omega), ix_n _ (show w * 3 + k < 36 by omega) (by omega), nI_clamp (show w * 3 + k < 2 ^ 31 by omega), nI_1, hR, show w * 3 + k = 3 * w + k by omega, t1]
  by_cases q1 : c.getD (i + k) 0 < 65
  · have hl : low (c.getD (i + k) 0) = c.getD (i + k) 0 := by unfold low; rw [if_neg (by omega)]
    rw [if_pos (show nI (c.getD (i + k) 0) < 65 from nI_lt (b := 65) q1 (by omega)), hl]
    by_cases e : c.getD (i + k) 0 = nMO.getD (3 * w + k) 0
    · rw [if_pos (congrArg nI e), if_pos e]
    · rw [if_neg (by rw [nI_eq (by omega) (by omega)]; exact e), if_neg e]
  · rw [if_neg (show ¬ nI (c.getD (i + k) 0) < 65 from nI_nlt (b := 65) (by omega) (by omega))]
    by_cases q2 : 90 < c.getD (i + k) 0
    · have hl : low (c.getD (i + k) 0) = c.getD (i + k) 0 := by unfold low; rw [if_neg (by omega)]
      rw [if_pos (show 90 < nI (c.getD (i + k) 0) from nI_lt (a := 90) q2 (by omega)), hl]
      by_cases e : c.getD (i + k) 0 = nMO.getD (3 * w + k) 0
      · rw [if_pos (congrArg nI e), if_pos e]
      · rw [if_neg (by rw [nI_eq (by omega) (by omega)]; exact e), if_neg e]
    · have hl : low (c.getD (i + k) 0) = c.getD (i + k) 0 + 32 := by unfold low; rw [if_pos (by omega)]
      rw [if_neg (show ¬ 90 < nI (c.getD (i + k) 0) from nI_nlt (a := 90) (by omega) (by omega)), hl, show (65 : Int32) = nI 65 from rfl, pk_sub (by omega), show (97 : Int32) = nI 97 from rfl, nI_add, show c.getD (i + k) 0 - 65 + 97 = c.getD (i + k) 0 + 32 by omega]
      by_cases e : c.getD (i + k) 0 + 32 = nMO.getD (3 * w + k) 0
      · rw [if_pos (congrArg nI e), if_pos e]
      · rw [if_neg (by rw [nI_eq (by omega) (by omega)]; exact e), if_neg e]
theorem X2_stands_M_s {c : List Nat} {i w : Nat} {st : ST} (hc : c.length ≤ 24) (hp : plain c) (h : hC c st) (ha : st.1 6 = nI i) (hi : i ≤ c.length) (hw : w < 12) : fX2_standsHere_M st (nI (w * 3)) = some (if stW nMO c i w then 1 else 0) := by
  unfold fX2_standsHere_M
  rw [h.1, ha, pk_sub hi]
  by_cases q : c.length - i < 3
  · rw [if_pos (show nI (c.length - i) < 3 from nI_lt (b := 3) q (by omega))]
    by_cases z : stW nMO c i w = true
    · have := stW_lt z (nMO_w w hw)
      omega
    · rw [if_neg z]
  · rw [if_neg (show ¬ nI (c.length - i) < 3 from nI_nlt (b := 3) (by omega) (by omega)), if_neg (nI_pos (by omega)), show (36 : Int32) = nI 36 from rfl, pk_sub (by omega), if_pos (show (3 : Int32) ≤ nI (36 - w * 3) from nI_le (a := 3) (by omega) (by omega))]
    have s0 := X2_stands_M_1 (k := 0) (n := 999) hc hp h ha (by omega) hw (by omega)
    have s1 := X2_stands_M_1 (k := 1) (n := 998) hc hp h ha (by omega) hw (by omega)
    have s2 := X2_stands_M_1 (k := 2) (n := 997) hc hp h ha (by omega) hw (by omega)
    refine Eq.trans s0 ?_
    rw [s1, s2]
    have e3 : fX2_standsHere_M_29 997 st (nI (w * 3)) (nI 3) = some 1 := by
      unfold fX2_standsHere_M_29
      rw [if_pos (by decide)]
    unfold stW
    by_cases a0 : low (c.getD i 0) = nMO.getD (3 * w) 0
    · rw [if_pos (show low (c.getD (i + 0) 0) = nMO.getD (3 * w + 0) 0 from a0)]
      by_cases a1 : low (c.getD (i + 1) 0) = nMO.getD (3 * w + 1) 0
      · rw [if_pos a1]
        by_cases a2 : low (c.getD (i + 2) 0) = nMO.getD (3 * w + 2) 0
        · rw [if_pos a2, e3, if_pos (by rw [a0, a1, a2]; simp)]
        · rw [if_neg a2, if_neg (by simp only [Bool.and_eq_true, beq_iff_eq]; exact fun z => a2 z.2)]
      · rw [if_neg a1, if_neg (by simp only [Bool.and_eq_true, beq_iff_eq]; exact fun z => a1 z.1.2)]
    · rw [if_neg (show ¬ low (c.getD (i + 0) 0) = nMO.getD (3 * w + 0) 0 from a0), if_neg (by simp only [Bool.and_eq_true, beq_iff_eq]; exact fun z => a0 z.1.1)]
theorem X2_takeWord_M_l {c : List Nat} {i : Nat} {st : ST} (hc : c.length ≤ 24) (hp : plain c) (h : hC c st) (ha : st.1 6 = nI i) (hi : i ≤ c.length) : ∀ (f n w : Nat), f < n → w + f = 12 →
    fX2_takeWord_M_7 n st (nI 12) (nI w) = (match tW nMO c i f w with | none => some (-1, st) | some v => some (nI v, setS st 6 (nI (i + 3)))) := by
  intro f
  induction f with
  | zero =>
    intro n w h1 h2
    obtain ⟨n, rfl⟩ : ∃ z, n = z + 1 := ⟨n - 1, by omega⟩
    unfold fX2_takeWord_M_7
    rw [if_pos (nI_le (by omega) (by omega))]
    rfl
  | succ f ih =>
    intro n w h1 h2
    obtain ⟨n, rfl⟩ : ∃ z, n = z + 1 := ⟨n - 1, by omega⟩
    unfold fX2_takeWord_M_7 tW
    rw [if_neg (nI_ge (by omega) (by omega)), show (3 : Int32) = nI 3 from rfl, pk_mul, X2_stands_M_s hc hp h ha hi (by omega), ob_s]
    by_cases z : stW nMO c i w = true
    · rw [if_pos z, if_neg (by decide), bnd_s, bnd_s, ha, nI_add, if_pos z]
    · rw [if_neg z, if_pos rfl, bnd_s, nI_1, if_neg z]
      exact ih n (w + 1) (by omega) (by omega)
theorem X2_takeWord_M_s {c : List Nat} {i : Nat} {st : ST} (hc : c.length ≤ 24) (hp : plain c) (h : hC c st) (ha : st.1 6 = nI i) (hi : i ≤ c.length) :
    fX2_takeWord_M st = (match tW nMO c i 12 0 with | none => some (-1, st) | some v => some (nI v, setS st 6 (nI (i + 3)))) := by
  unfold fX2_takeWord_M
  rw [bnd_s, show (36 / 3 : Int32) = nI 12 by decide]
  exact X2_takeWord_M_l hc hp h ha hi 12 1000 0 (by omega) (by omega)
theorem tW_M_lt {c : List Nat} {i : Nat} : ∀ (f w : Nat) {v : Nat}, w + f = 12 → tW nMO c i f w = some v → v < 12 ∧ i + 3 ≤ c.length := by
  intro f
  induction f with
  | zero => intro w v _ h; cases h
  | succ f ih =>
    intro w v hw h
    unfold tW at h
    by_cases z : stW nMO c i w = true
    · rw [if_pos z] at h; cases h
      exact ⟨by omega, stW_lt z (nMO_w _ (by omega))⟩
    · rw [if_neg z] at h
      exact ih (w + 1) (by omega) h
theorem X2_stands_W_1 {c : List Nat} {i w k n : Nat} {st : ST} (hc : c.length ≤ 24) (hp : plain c) (h : hC c st) (ha : st.1 6 = nI i) (hi : i + 3 ≤ c.length) (hw : w < 7) (hk : k < 3) :
    fX2_standsHere_W_29 (n + 1) st (nI (w * 3)) (nI k) = if low (c.getD (i + k) 0) = nWD.getD (3 * w + k) 0 then fX2_standsHere_W_29 n st (nI (w * 3)) (nI (k + 1)) else some 0 := by
  have hlt : i + k < c.length := by omega
  have hb := hp _ (gD_m hlt)
  obtain ⟨t1, t2⟩ := tWD_n (w * 3 + k) (by omega)
  rw [show w * 3 + k = 3 * w + k by omega] at t1 t2
  generalize hR : fX2_standsHere_W_29 n st (nI (w * 3)) (nI (k + 1)) = RR
  unfold fX2_standsHere_W_29
  rw [if_neg (show ¬ (3 : Int32) ≤ nI k from nI_ge (b := 3) hk (by omega)), bnd_s, ha, nI_add, ix_n _ (by omega) (by omega), nI_clamp (by omega), bnd_s, h.2 _ hlt]
  simp only [bnd_s]
  rw [nI_add, ix_n _ (show w * 3 + k < 21 by omega) (by omega), ix_n _ (show w * 3 + k < 21 by omega) (by omega), nI_clamp (show w * 3 + k < 2 ^ 31 by omega), nI_1, hR, show w * 3 + k = 3 * w + k by omega, t1]
  by_cases q1 : c.getD (i + k) 0 < 65
  · have hl : low (c.getD (i + k) 0) = c.getD (i + k) 0 := by unfold low; rw [if_neg (by omega)]
    rw [if_pos (show nI (c.getD (i + k) 0) < 65 from nI_lt (b := 65) q1 (by omega)), hl]
    by_cases e : c.getD (i + k) 0 = nWD.getD (3 * w + k) 0
    · rw [if_pos (congrArg nI e), if_pos e]
    · rw [if_neg (by rw [nI_eq (by omega) (by omega)]; exact e), if_neg e]
  · rw [if_neg (show ¬ nI (c.getD (i + k) 0) < 65 from nI_nlt (b := 65) (by omega) (by omega))]
    by_cases q2 : 90 < c.getD (i + k) 0
    · have hl : low (c.getD (i + k) 0) = c.getD (i + k) 0 := by unfold low; rw [if_neg (by omega)]
      rw [if_pos (show 90 < nI (c.getD (i + k) 0) from nI_lt (a := 90) q2 (by omega)), hl]
      by_cases e : c.getD (i + k) 0 = nWD.getD (3 * w + k) 0
      · rw [if_pos (congrArg nI e), if_pos e]
      · rw [if_neg (by rw [nI_eq (by omega) (by omega)]; exact e), if_neg e]
    · have hl : low (c.getD (i + k) 0) = c.getD (i + k) 0 + 32 := by unfold low; rw [if_pos (by omega)]
      rw [if_neg (show ¬ 90 < nI (c.getD (i + k) 0) from nI_nlt (a := 90) (by omega) (by omega)), hl, show (65 : Int32) = nI 65 from rfl, pk_sub (by omega), show (97 : Int32) = nI 97 from rfl, nI_add, show c.getD (i + k) 0 - 65 + 97 = c.getD (i + k) 0 + 32 by omega]
      by_cases e : c.getD (i + k) 0 + 32 = nWD.getD (3 * w + k) 0
      · rw [if_pos (congrArg nI e), if_pos e]
      · rw [if_neg (by rw [nI_eq (by omega) (by omega)]; exact e), if_neg e]
theorem X2_stands_W_s {c : List Nat} {i w : Nat} {st : ST} (hc : c.length ≤ 24) (hp : plain c) (h : hC c st) (ha : st.1 6 = nI i) (hi : i ≤ c.length) (hw : w < 7) : fX2_standsHere_W st (nI (w * 3)) = some (if stW nWD c i w then 1 else 0) := by
  unfold fX2_standsHere_W
  rw [h.1, ha, pk_sub hi]
  by_cases q : c.length - i < 3
  · rw [if_pos (show nI (c.length - i) < 3 from nI_lt (b := 3) q (by omega))]
    by_cases z : stW nWD c i w = true
    · have := stW_lt z (nWD_w w hw)
      omega
    · rw [if_neg z]
  · rw [if_neg (show ¬ nI (c.length - i) < 3 from nI_nlt (b := 3) (by omega) (by omega)), if_neg (nI_pos (by omega)), show (21 : Int32) = nI 21 from rfl, pk_sub (by omega), if_pos (show (3 : Int32) ≤ nI (21 - w * 3) from nI_le (a := 3) (by omega) (by omega))]
    have s0 := X2_stands_W_1 (k := 0) (n := 999) hc hp h ha (by omega) hw (by omega)
    have s1 := X2_stands_W_1 (k := 1) (n := 998) hc hp h ha (by omega) hw (by omega)
    have s2 := X2_stands_W_1 (k := 2) (n := 997) hc hp h ha (by omega) hw (by omega)
    refine Eq.trans s0 ?_
    rw [s1, s2]
    have e3 : fX2_standsHere_W_29 997 st (nI (w * 3)) (nI 3) = some 1 := by
      unfold fX2_standsHere_W_29
      rw [if_pos (by decide)]
    unfold stW
    by_cases a0 : low (c.getD i 0) = nWD.getD (3 * w) 0
    · rw [if_pos (show low (c.getD (i + 0) 0) = nWD.getD (3 * w + 0) 0 from a0)]
      by_cases a1 : low (c.getD (i + 1) 0) = nWD.getD (3 * w + 1) 0
      · rw [if_pos a1]
        by_cases a2 : low (c.getD (i + 2) 0) = nWD.getD (3 * w + 2) 0
        · rw [if_pos a2, e3, if_pos (by rw [a0, a1, a2]; simp)]
        · rw [if_neg a2, if_neg (by simp only [Bool.and_eq_true, beq_iff_eq]; exact fun z => a2 z.2)]
      · rw [if_neg a1, if_neg (by simp only [Bool.and_eq_true, beq_iff_eq]; exact fun z => a1 z.1.2)]
    · rw [if_neg (show ¬ low (c.getD (i + 0) 0) = nWD.getD (3 * w + 0) 0 from a0), if_neg (by simp only [Bool.and_eq_true, beq_iff_eq]; exact fun z => a0 z.1.1)]
theorem X2_takeWord_W_l {c : List Nat} {i : Nat} {st : ST} (hc : c.length ≤ 24) (hp : plain c) (h : hC c st) (ha : st.1 6 = nI i) (hi : i ≤ c.length) : ∀ (f n w : Nat), f < n → w + f = 7 →
    fX2_takeWord_W_7 n st (nI 7) (nI w) = (match tW nWD c i f w with | none => some (-1, st) | some v => some (nI v, setS st 6 (nI (i + 3)))) := by
  intro f
  induction f with
  | zero =>
    intro n w h1 h2
    obtain ⟨n, rfl⟩ : ∃ z, n = z + 1 := ⟨n - 1, by omega⟩
    unfold fX2_takeWord_W_7
    rw [if_pos (nI_le (by omega) (by omega))]
    rfl
  | succ f ih =>
    intro n w h1 h2
    obtain ⟨n, rfl⟩ : ∃ z, n = z + 1 := ⟨n - 1, by omega⟩
    unfold fX2_takeWord_W_7 tW
    rw [if_neg (nI_ge (by omega) (by omega)), show (3 : Int32) = nI 3 from rfl, pk_mul, X2_stands_W_s hc hp h ha hi (by omega), ob_s]
    by_cases z : stW nWD c i w = true
    · rw [if_pos z, if_neg (by decide), bnd_s, bnd_s, ha, nI_add, if_pos z]
    · rw [if_neg z, if_pos rfl, bnd_s, nI_1, if_neg z]
      exact ih n (w + 1) (by omega) (by omega)
theorem X2_takeWord_W_s {c : List Nat} {i : Nat} {st : ST} (hc : c.length ≤ 24) (hp : plain c) (h : hC c st) (ha : st.1 6 = nI i) (hi : i ≤ c.length) :
    fX2_takeWord_W st = (match tW nWD c i 7 0 with | none => some (-1, st) | some v => some (nI v, setS st 6 (nI (i + 3)))) := by
  unfold fX2_takeWord_W
  rw [bnd_s, show (21 / 3 : Int32) = nI 7 by decide]
  exact X2_takeWord_W_l hc hp h ha hi 7 1000 0 (by omega) (by omega)
theorem tW_W_lt {c : List Nat} {i : Nat} : ∀ (f w : Nat) {v : Nat}, w + f = 7 → tW nWD c i f w = some v → v < 7 ∧ i + 3 ≤ c.length := by
  intro f
  induction f with
  | zero => intro w v _ h; cases h
  | succ f ih =>
    intro w v hw h
    unfold tW at h
    by_cases z : stW nWD c i w = true
    · rw [if_pos z] at h; cases h
      exact ⟨by omega, stW_lt z (nWD_w _ (by omega))⟩
    · rw [if_neg z] at h
      exact ih (w + 1) (by omega) h
