/-! rows on bits, pasted from kit/laws (BITS: Int32 by its bits; NUMBERS: a byte's low bits) -/
def bt (x : Int32) (i : Nat) : Bool := x.toBitVec.getLsbD i
theorem b_ext {x y : Int32} (h : ∀ i, i < 32 → bt x i = bt y i) : x = y := Int32.toBitVec_inj.mp (BitVec.eq_of_getLsbD_eq (fun i hi => h i hi))
theorem b_or (x y : Int32) (i : Nat) : bt (x ||| y) i = (bt x i || bt y i) := by unfold bt; rw [Int32.toBitVec_or, BitVec.getLsbD_or]
theorem b_and (x y : Int32) (i : Nat) : bt (x &&& y) i = (bt x i && bt y i) := by unfold bt; rw [Int32.toBitVec_and, BitVec.getLsbD_and]
theorem b_big {x : Int32} {i : Nat} (h : 32 ≤ i) : bt x i = false := BitVec.getLsbD_of_ge _ _ h
theorem b_255 (i : Nat) : bt 255 i = decide (i < 8) := by
  rcases Nat.lt_or_ge i 32 with h | h
  · exact (by decide +kernel : ∀ i, i < 32 → bt 255 i = decide (i < 8)) i h
  · rw [b_big h, decide_eq_false (by omega)]
theorem b_0 (i : Nat) : bt 0 i = false := BitVec.getLsbD_zero
theorem s_l : ∀ n, n < 32 → ((nI n &&& 31).toBitVec.smod 32).toNat = n := by decide +kernel
theorem s_u : ∀ n, n < 32 → (((nI n).toUInt32 &&& Int32.toUInt32 31).toBitVec % 32).toNat = n := by decide +kernel
theorem b_ushr (n : Nat) (hn : n < 32) (x : Int32) (i : Nat) : bt ((x.toUInt32 >>> ((nI n).toUInt32 &&& Int32.toUInt32 31)).toInt32) i = bt x (n + i) := by
  show (x.toUInt32 >>> ((nI n).toUInt32 &&& Int32.toUInt32 31)).toBitVec.getLsbD i = x.toUInt32.toBitVec.getLsbD (n + i)
  rw [UInt32.toBitVec_shiftRight]
  show (x.toUInt32.toBitVec >>> (((nI n).toUInt32 &&& Int32.toUInt32 31).toBitVec % 32).toNat).getLsbD i = _
  rw [s_u n hn, BitVec.getLsbD_ushiftRight]
theorem b_sshr (n : Nat) (hn : n < 32) (x : Int32) {i : Nat} (hi : i < 32) : bt (x >>> (nI n &&& 31)) i = if n + i < 32 then bt x (n + i) else bt x 31 := by
  unfold bt
  rw [Int32.toBitVec_shiftRight]
  show (x.toBitVec.sshiftRight ((nI n &&& 31).toBitVec.smod 32).toNat).getLsbD i = _
  rw [s_l n hn, BitVec.getLsbD_sshiftRight, BitVec.msb_eq_getLsbD_last]
  simp [hi]
theorem fa_byte_low (x : Int32) : (x &&& 255).toInt8 = x.toInt8 := by
  apply Int8.toBitVec_inj.1
  apply BitVec.eq_of_getLsbD_eq
  intro i hi
  have h2 : (255 : Int32).toBitVec.getLsbD i = true := by
    have : ∀ j : Fin 8, (255 : Int32).toBitVec.getLsbD j.val = true := by decide +kernel
    exact this ⟨i, hi⟩
  have h4 : (x &&& 255).toBitVec.getLsbD i = x.toBitVec.getLsbD i := by
    show (x.toBitVec &&& (255 : Int32).toBitVec).getLsbD i = _
    rw [BitVec.getLsbD_and, h2, Bool.and_true]
  have h3 : i < 32 := by omega
  first
    | (show (((x &&& 255).toBitVec).signExtend 8).getLsbD i = (x.toBitVec.signExtend 8).getLsbD i; rw [BitVec.getLsbD_signExtend, BitVec.getLsbD_signExtend, if_pos h3, if_pos h3, h4])
    | (show (((x &&& 255).toBitVec).setWidth 8).getLsbD i = (x.toBitVec.setWidth 8).getLsbD i; rw [BitVec.getLsbD_setWidth, BitVec.getLsbD_setWidth, h4])
    | (simp [hi, h3, h4]; done)
/-! Bytes of a number. -/
def bY (v : Int32) (k : Nat) : Nat := v.toBitVec.toNat / 2 ^ (8 * k) % 256
def fbk (v : Int32) : Nat → List Nat
  | 0 => []
  | k + 1 => (if bY v k = 0 then [] else [bY v k]) ++ fbk v k
def sh (k : Nat) : Int32 := if k = 0 then -8 else nI (8 * (k - 1))
def sg (b : Nat) : Int32 := (nI b).toInt8.toInt32
theorem sh_s (k : Nat) : sh (k + 1) = nI (8 * k) := rfl
theorem sh_p {k : Nat} (h : k < 4) : sh (k + 1) + (-8) = sh k := by
  have : ∀ k, k < 4 → sh (k + 1) + (-8) = sh k := by decide +kernel
  exact this k h
theorem sh_neg {k : Nat} (h : k ≤ 4) : (sh k < 0) = (k = 0) := by
  have : ∀ k, k < 5 → (sh k < 0 ↔ k = 0) := by decide +kernel
  exact propext (this k (by omega))
theorem bY_lt (v : Int32) (k : Nat) : bY v k < 256 := Nat.mod_lt _ (by decide)
theorem bY_u (v : Int32) {k : Nat} (h : k < 4) : (Int32.toUInt32 v >>> (Int32.toUInt32 (nI (8 * k)) &&& Int32.toUInt32 31)).toInt32 &&& 255 = nI (bY v k) := by
  rw [pk_and _ (m := 255) 8 (by decide), pk_ushr v (nI (8 * k)) (8 * k) (s_u (8 * k) (by omega))]
  rfl
theorem bY_s (v : Int32) {k : Nat} (h : k < 4) : (v >>> (nI (8 * k) &&& 31)) &&& 255 = nI (bY v k) := by
  rw [← bY_u v h]
  refine b_ext fun i hi => ?_
  rw [b_and, b_and, b_sshr (8 * k) (by omega) v hi, b_ushr (8 * k) (by omega), b_255]
  by_cases q : i < 8
  · rw [if_pos (by omega)]
  · simp [q]
theorem sg_of (v : Int32) {k : Nat} (h : k < 4) : vp_nar .byte (Int32.toInt8 (v >>> (nI (8 * k) &&& 31))).toInt32 = sg (bY v k) := by
  rw [pk_vb]
  unfold sg
  rw [← bY_s v h, fa_byte_low]
theorem sg_plain : ∀ b, b < 256 → (sg b < 32 ∨ 126 < sg b) = ¬ (32 ≤ b ∧ b ≤ 126) := by
  have : ∀ b, b < 256 → ((sg b < 32 ∨ 126 < sg b) ↔ ¬ (32 ≤ b ∧ b ≤ 126)) := by decide +kernel
  exact fun b hb => propext (this b hb)
theorem sg_small {b : Nat} (h : b < 128) : sg b = nI b := by
  have : ∀ b, b < 128 → sg b = nI b := by decide +kernel
  exact this b h
theorem sg_eq {b c : Nat} (hb : b < 256) (hc : c < 128) : (sg b = nI c) = (b = c) := by
  rcases Nat.lt_or_ge b 128 with h | h
  · rw [sg_small h]; exact propext (nI_eq (by omega) (by omega))
  · have : ∀ b, b < 256 → 128 ≤ b → sg b < 0 := by decide +kernel
    have h1 := this b hb h
    refine propext ⟨fun q => ?_, fun q => by omega⟩
    rw [q] at h1
    exact absurd h1 (nI_pos (by omega))
theorem sg_nar {b : Nat} (h : b < 128) : vp_nar .byte (sg b) = nI b := by
  have : ∀ b, b < 128 → vp_nar .byte (sg b) = nI b := by decide +kernel
  exact this b h
/-! Lists by their places. -/
theorem gD_l {t u : List Nat} {i : Nat} (h : i < t.length) : (t ++ u).getD i 0 = t.getD i 0 := by
  rw [List.getD_eq_getElem?_getD, List.getD_eq_getElem?_getD, List.getElem?_append_left h]
theorem gD_r {t : List Nat} {b : Nat} : (t ++ [b]).getD t.length 0 = b := by
  rw [List.getD_eq_getElem?_getD]; simp
theorem gD_c {t : List Nat} {i : Nat} (h : i < t.length) : t.drop i = t.getD i 0 :: t.drop (i + 1) := by
  rw [List.drop_eq_getElem_cons h, List.getD_eq_getElem?_getD, List.getElem?_eq_getElem h]; rfl
theorem gD_m {t : List Nat} {i : Nat} (h : i < t.length) : t.getD i 0 ∈ t := by
  rw [List.getD_eq_getElem?_getD, List.getElem?_eq_getElem h]; exact List.getElem_mem h
/-- the tape, as the class and as the model hold it -/
def tapC (t : List Nat) (st : ST) : Prop := st.1 2 = nI t.length ∧ ∀ i, i < t.length → st.2 0 i = nI (t.getD i 0)
def tapM (t : List Nat) (st : ST) : Prop := st.1 8 = nI t.length ∧ ∀ i, i < t.length → st.2 1 i = sg (t.getD i 0)
def okT (t : List Nat) : Prop := t.length ≤ 24 ∧ ∀ b ∈ t, 1 ≤ b ∧ b < 256
theorem okT_fbk (v : Int32) (k : Nat) : ∀ b ∈ fbk v k, 1 ≤ b ∧ b < 256 := by
  induction k with
  | zero => intro b h; cases h
  | succ k ih =>
    intro b h
    unfold fbk at h
    rcases List.mem_append.mp h with h | h
    · have := bY_lt v k
      by_cases q : bY v k = 0
      · rw [if_pos q] at h; cases h
      · rw [if_neg q] at h
        rw [List.mem_singleton.mp h]
        omega
    · exact ih b h
theorem okT_app {t u : List Nat} (h : okT t) (hu : ∀ b ∈ u, 1 ≤ b ∧ b < 256) (hl : t.length + u.length ≤ 24) : okT (t ++ u) :=
  ⟨by rw [List.length_append]; exact hl, fun b hb => (List.mem_append.mp hb).elim (h.2 b) (hu b)⟩
theorem X4_bytesIn_l (v : Int32) : ∀ (k n x : Nat), k ≤ 4 → k < n → fX4_bytesIn_5 n v (nI x) (sh k) = some (nI (x + (fbk v k).length)) := by
  intro k
  induction k with
  | zero =>
    intro n x _ h
    obtain ⟨n, rfl⟩ : ∃ j, n = j + 1 := ⟨n - 1, by omega⟩
    unfold fX4_bytesIn_5
    rw [if_pos (by rw [sh_neg (by omega)])]
    rfl
  | succ k ih =>
    intro n x hk h
    obtain ⟨n, rfl⟩ : ∃ j, n = j + 1 := ⟨n - 1, by omega⟩
    unfold fX4_bytesIn_5 fbk
    rw [if_neg (by rw [sh_neg hk]; omega), sh_p (by omega), sh_s, bY_u v (by omega)]
    have := bY_lt v k
    by_cases q : bY v k = 0
    · rw [if_pos (by rw [q]; rfl), bnd_s, ih n x (by omega) (by omega), if_pos q]; rfl
    · rw [if_neg (by rw [show (0 : Int32) = nI 0 from rfl, nI_eq (by omega) (by omega)]; exact q), bnd_s, bnd_s, nI_1, ih n (x + 1) (by omega) (by omega), if_neg q]
      refine sn ?_
      rw [List.length_append, List.length_singleton]; omega
theorem X9_bytesIn_l (v : Int32) : ∀ (k n x : Nat), k ≤ 4 → k < n → fX9_bytesIn_5 n v (nI x) (sh k) = some (nI (x + (fbk v k).length)) := by
  intro k
  induction k with
  | zero =>
    intro n x _ h
    obtain ⟨n, rfl⟩ : ∃ j, n = j + 1 := ⟨n - 1, by omega⟩
    unfold fX9_bytesIn_5
    rw [if_pos (by rw [sh_neg (by omega)])]
    rfl
  | succ k ih =>
    intro n x hk h
    obtain ⟨n, rfl⟩ : ∃ j, n = j + 1 := ⟨n - 1, by omega⟩
    unfold fX9_bytesIn_5 fbk
    rw [if_neg (by rw [sh_neg hk]; omega), sh_p (by omega), sh_s, bY_s v (by omega)]
    have := bY_lt v k
    by_cases q : bY v k = 0
    · rw [if_pos (by rw [q]; rfl), bnd_s, bnd_s, show nI x + 0 = nI x from nI_add x 0, ih n x (by omega) (by omega), if_pos q]; rfl
    · rw [if_neg (by rw [show (0 : Int32) = nI 0 from rfl, nI_eq (by omega) (by omega)]; exact q), bnd_s, bnd_s, nI_1, ih n (x + 1) (by omega) (by omega), if_neg q]
      refine sn ?_
      rw [List.length_append, List.length_singleton]; omega
theorem fbk_len (v : Int32) : (fbk v 4).length ≤ 4 := by
  have : ∀ k, (fbk v k).length ≤ k := by
    intro k
    induction k with
    | zero => exact Nat.le_refl _
    | succ k ih =>
      unfold fbk
      rw [List.length_append]
      split <;> simp <;> omega
  exact this 4
theorem X4_bytesIn_s (v : Int32) : fX4_bytesIn v = some (nI (fbk v 4).length) := by
  unfold fX4_bytesIn
  rw [show (24 : Int32) = sh 4 from rfl, show (0 : Int32) = nI 0 from rfl, X4_bytesIn_l v 4 1000 0 (by omega) (by omega), Nat.zero_add]
theorem X9_bytesIn_s (v : Int32) : fX9_bytesIn v = some (nI (fbk v 4).length) := by
  unfold fX9_bytesIn
  rw [show (24 : Int32) = sh 4 from rfl, show (0 : Int32) = nI 0 from rfl, X9_bytesIn_l v 4 1000 0 (by omega) (by omega), Nat.zero_add]
theorem X4_append_l (v : Int32) : ∀ (k n : Nat) (t : List Nat) (st : ST), k ≤ 4 → k < n → tapC t st → t.length + (fbk v k).length ≤ 24 →
    ∃ st', fX4_append_3 n st v (sh k) = some st' ∧ tapC (t ++ fbk v k) st' ∧ (∀ j, j ≠ 2 → st'.1 j = st.1 j) ∧ (∀ j, j ≠ 0 → st'.2 j = st.2 j) := by
  intro k
  induction k with
  | zero =>
    intro n t st _ h hT _
    obtain ⟨n, rfl⟩ : ∃ j, n = j + 1 := ⟨n - 1, by omega⟩
    unfold fX4_append_3
    rw [if_pos (by rw [sh_neg (by omega)])]
    exact ⟨st, rfl, by rw [show fbk v 0 = [] from rfl, List.append_nil]; exact hT, fun _ _ => rfl, fun _ _ => rfl⟩
  | succ k ih =>
    intro n t st hk h hT hl
    obtain ⟨n, rfl⟩ : ∃ j, n = j + 1 := ⟨n - 1, by omega⟩
    unfold fX4_append_3
    unfold fbk at hl ⊢
    rw [if_neg (by rw [sh_neg hk]; omega), sh_p (by omega), sh_s, bY_u v (by omega), bnd_s]
    have hb := bY_lt v k
    by_cases q : bY v k = 0
    · rw [if_pos q] at hl ⊢
      rw [if_pos (by rw [q]; rfl), bnd_s]
      exact ih n t st (by omega) (by omega) hT (by simpa using hl)
    · rw [if_neg q] at hl ⊢
      rw [List.length_append, List.length_singleton] at hl
      rw [if_neg (by rw [show (0 : Int32) = nI 0 from rfl, nI_eq (by omega) (by omega)]; exact q), hT.1, if_neg (show ¬ (24 : Int32) ≤ nI t.length from nI_ge (b := 24) (by omega) (by omega)), bnd_s, ix_n _ (by omega) (by omega), nI_clamp (by omega), bnd_s, bnd_s, bnd_s, bnd_s, sA_1, hT.1, nI_1]
      have hT' : tapC (t ++ [bY v k]) (setS (setA st 0 t.length (nI (bY v k))) 2 (nI (t.length + 1))) := by
        refine ⟨by rw [sS_s, List.length_append]; rfl, fun i hi => ?_⟩
        rw [List.length_append, List.length_singleton] at hi
        rw [sS_2]
        by_cases e : i = t.length
        · subst e; rw [sA_ss, gD_r]
        · rw [sA_sn _ _ _ e, hT.2 i (by omega), gD_l (by omega)]
      obtain ⟨st', h1, h2, h3, h4⟩ := ih n (t ++ [bY v k]) _ (by omega) (by omega) hT' (by rw [List.length_append, List.length_singleton]; omega)
      refine ⟨st', h1, by rw [← List.append_assoc]; exact h2, fun j hj => by rw [h3 j hj, sS_n _ _ hj, sA_1], fun j hj => by rw [h4 j hj, sS_2, sA_n _ _ _ hj]⟩
theorem X9_put_l (v : Int32) : ∀ (k n : Nat) (t : List Nat) (st : ST), k ≤ 4 → k < n → tapM t st → t.length + (fbk v k).length ≤ 24 →
    ∃ st', fX9_put_3 n st v (sh k) = some st' ∧ tapM (t ++ fbk v k) st' ∧ (∀ j, j ≠ 8 → st'.1 j = st.1 j) ∧ (∀ j, j ≠ 1 → st'.2 j = st.2 j) := by
  intro k
  induction k with
  | zero =>
    intro n t st _ h hT _
    obtain ⟨n, rfl⟩ : ∃ j, n = j + 1 := ⟨n - 1, by omega⟩
    unfold fX9_put_3
    rw [if_pos (by rw [sh_neg (by omega)])]
    exact ⟨st, rfl, by rw [show fbk v 0 = [] from rfl, List.append_nil]; exact hT, fun _ _ => rfl, fun _ _ => rfl⟩
  | succ k ih =>
    intro n t st hk h hT hl
    obtain ⟨n, rfl⟩ : ∃ j, n = j + 1 := ⟨n - 1, by omega⟩
    unfold fX9_put_3
    unfold fbk at hl ⊢
    rw [if_neg (by rw [sh_neg hk]; omega), sh_p (by omega), sh_s, bY_s v (by omega)]
    have hb := bY_lt v k
    by_cases q : bY v k = 0
    · rw [if_pos q] at hl ⊢
      rw [if_pos (by rw [q]; rfl), bnd_s]
      exact ih n t st (by omega) (by omega) hT (by simpa using hl)
    · rw [if_neg q] at hl ⊢
      rw [List.length_append, List.length_singleton] at hl
      rw [if_neg (by rw [show (0 : Int32) = nI 0 from rfl, nI_eq (by omega) (by omega)]; exact q), bnd_s, hT.1, bnd_s, ix_n _ (by omega) (by omega), nI_clamp (by omega), bnd_s, bnd_s, bnd_s, bnd_s, sA_1, hT.1, nI_1, sg_of v (by omega)]
      have hT' : tapM (t ++ [bY v k]) (setS (setA st 1 t.length (sg (bY v k))) 8 (nI (t.length + 1))) := by
        refine ⟨by rw [sS_s, List.length_append]; rfl, fun i hi => ?_⟩
        rw [List.length_append, List.length_singleton] at hi
        rw [sS_2]
        by_cases e : i = t.length
        · subst e; rw [sA_ss, gD_r]
        · rw [sA_sn _ _ _ e, hT.2 i (by omega), gD_l (by omega)]
      obtain ⟨st', h1, h2, h3, h4⟩ := ih n (t ++ [bY v k]) _ (by omega) (by omega) hT' (by rw [List.length_append, List.length_singleton]; omega)
      refine ⟨st', h1, by rw [← List.append_assoc]; exact h2, fun j hj => by rw [h3 j hj, sS_n _ _ hj, sA_1], fun j hj => by rw [h4 j hj, sS_2, sA_n _ _ _ hj]⟩
/-- feed, on both sides -/
def fedT (t : List Nat) (one other : Int32) : List Nat := if t.length + (fbk one 4).length + (fbk other 4).length ≤ 24 then t ++ fbk one 4 ++ fbk other 4 else t
def fedR (t : List Nat) (one other : Int32) : Int32 := if t.length + (fbk one 4).length + (fbk other 4).length ≤ 24 then nI (t ++ fbk one 4 ++ fbk other 4).length else -1
theorem okT_fed {t : List Nat} (h : okT t) (one other : Int32) : okT (fedT t one other) := by
  unfold fedT
  by_cases q : t.length + (fbk one 4).length + (fbk other 4).length ≤ 24
  · rw [if_pos q]
    exact okT_app (okT_app h (okT_fbk one 4) (by omega)) (okT_fbk other 4) (by rw [List.length_append]; omega)
  · rw [if_neg q]; exact h
theorem X8_feed_s {t : List Nat} {st : ST} (hT : tapC t st) (ho : okT t) (one other : Int32) : ∃ st', fX8_feed st one other = some (fedR t one other, st') ∧ tapC (fedT t one other) st' ∧ (∀ j, j ≠ 2 → st'.1 j = st.1 j) ∧ (∀ j, j ≠ 0 → st'.2 j = st.2 j) := by
  have l1 := fbk_len one
  have l2 := fbk_len other
  have l3 := ho.1
  unfold fX8_feed fedR fedT fX4_length
  rw [X4_bytesIn_s, ob_s, X4_bytesIn_s, ob_s, bnd_s, ob_s, hT.1, nI_add, nI_add]
  by_cases q : t.length + (fbk one 4).length + (fbk other 4).length ≤ 24
  · rw [if_pos (show nI (t.length + ((fbk one 4).length + (fbk other 4).length)) ≤ 24 from nI_le (b := 24) (by omega) (by omega)), if_pos q, if_pos q]
    unfold fX4_append
    rw [show (24 : Int32) = sh 4 from rfl]
    obtain ⟨s1, a1, a2, a3, a4⟩ := X4_append_l one 4 1000 t st (by omega) (by omega) hT (by omega)
    obtain ⟨s2, b1, b2, b3, b4⟩ := X4_append_l other 4 1000 _ s1 (by omega) (by omega) a2 (by rw [List.length_append]; omega)
    rw [a1, ob_s, b1, ob_s, ob_s, b2.1]
    exact ⟨s2, rfl, b2, fun j hj => by rw [b3 j hj, a3 j hj], fun j hj => by rw [b4 j hj, a4 j hj]⟩
  · rw [if_neg (show ¬ nI (t.length + ((fbk one 4).length + (fbk other 4).length)) ≤ 24 from nI_ge (a := 24) (by omega) (by omega)), if_neg q, if_neg q]
    exact ⟨st, rfl, hT, fun _ _ => rfl, fun _ _ => rfl⟩
theorem X9_feed_s {t : List Nat} {st : ST} (hT : tapM t st) (ho : okT t) (one other : Int32) : ∃ st', fX9_feed st one other = some (fedR t one other, st') ∧ tapM (fedT t one other) st' ∧ (∀ j, j ≠ 8 → j ≠ 0 → st'.1 j = st.1 j) ∧ (∀ j, j ≠ 1 → st'.2 j = st.2 j) := by
  have l1 := fbk_len one
  have l2 := fbk_len other
  have l3 := ho.1
  have hT0 : tapM t (setS st 0 0) := ⟨by rw [sS_n _ _ (by decide)]; exact hT.1, fun i hi => by rw [sS_2]; exact hT.2 i hi⟩
  unfold fX9_feed fedR fedT
  rw [bnd_s, X9_bytesIn_s, ob_s, X9_bytesIn_s, ob_s, hT0.1, nI_add, nI_add]
  by_cases q : t.length + (fbk one 4).length + (fbk other 4).length ≤ 24
  · rw [if_pos (show nI (t.length + (fbk one 4).length + (fbk other 4).length) ≤ 24 from nI_le (b := 24) (by omega) (by omega)), if_pos q, if_pos q]
    unfold fX9_put
    rw [show (24 : Int32) = sh 4 from rfl]
    obtain ⟨s1, a1, a2, a3, a4⟩ := X9_put_l one 4 1000 t _ (by omega) (by omega) hT0 (by omega)
    obtain ⟨s2, b1, b2, b3, b4⟩ := X9_put_l other 4 1000 _ s1 (by omega) (by omega) a2 (by rw [List.length_append]; omega)
    rw [a1, ob_s, b1, ob_s, b2.1]
    exact ⟨s2, rfl, b2, fun j hj h0 => by rw [b3 j hj, a3 j hj, sS_n _ _ h0], fun j hj => by rw [b4 j hj, a4 j hj, sS_2]⟩
  · rw [if_neg (show ¬ nI (t.length + (fbk one 4).length + (fbk other 4).length) ≤ 24 from nI_ge (a := 24) (by omega) (by omega)), if_neg q, if_neg q]
    exact ⟨_, rfl, hT0, fun j _ h0 => sS_n _ _ h0, fun _ _ => rfl⟩
/-! end -/
def cutT (t : List Nat) (n : Int32) : List Nat := if n < 0 then t else if n ≤ nI t.length then t.take n.toNatClampNeg else t
def cutR (t : List Nat) (n : Int32) : Int32 := if n < 0 then 0 else if n ≤ nI t.length then 1 else 0
theorem okT_cut {t : List Nat} (h : okT t) (n : Int32) : okT (cutT t n) := by
  unfold cutT
  split
  · exact h
  · split
    · exact ⟨by rw [List.length_take]; have := h.1; omega, fun b hb => h.2 b (List.mem_of_mem_take hb)⟩
    · exact h
theorem gD_t {t : List Nat} {n i : Nat} (h : i < n) : (t.take n).getD i 0 = t.getD i 0 := by
  rw [List.getD_eq_getElem?_getD, List.getD_eq_getElem?_getD, List.getElem?_take, if_pos h]
theorem X4_cut_s {t : List Nat} {st : ST} (hT : tapC t st) (ho : t.length ≤ 24) (n : Int32) : ∃ st', fX4_cut st n = some (cutR t n, st') ∧ tapC (cutT t n) st' ∧ (∀ j, j ≠ 2 → st'.1 j = st.1 j) ∧ st'.2 = st.2 := by
  unfold fX4_cut cutR cutT
  by_cases h1 : n < 0
  · simp only [if_pos h1]; exact ⟨st, rfl, hT, fun _ _ => rfl, rfl⟩
  · simp only [if_neg h1, hT.1]
    by_cases h2 : n ≤ nI t.length
    · simp only [if_pos h2, bnd_s]
      obtain ⟨j, hj, rfl⟩ := nI_of h1
      rw [nI_leI hj (by omega)] at h2
      refine ⟨_, rfl, ⟨?_, fun i hi => ?_⟩, fun k hk => sS_n _ _ hk, rfl⟩
      · rw [sS_s, nI_clamp hj, List.length_take, Nat.min_eq_left h2]
      · rw [nI_clamp hj, List.length_take, Nat.min_eq_left h2] at hi
        rw [sS_2, hT.2 i (by omega), nI_clamp hj, gD_t hi]
    · simp only [if_neg h2]; exact ⟨st, rfl, hT, fun _ _ => rfl, rfl⟩
theorem cutR_in (t : List Nat) (n : Int32) : cutR t n = 0 ∨ cutR t n = 1 := by
  unfold cutR
  split
  · exact Or.inl rfl
  · split
    · exact Or.inr rfl
    · exact Or.inl rfl
theorem X8_end_s {t : List Nat} {st : ST} (hT : tapC t st) (ho : t.length ≤ 24) (n : Int32) : ∃ st', fX8_end st n = some (cutR t n, st') ∧ tapC (cutT t n) st' ∧ (∀ j, j ≠ 2 → st'.1 j = st.1 j) ∧ st'.2 = st.2 := by
  obtain ⟨st', h1, h2⟩ := X4_cut_s hT ho n
  refine ⟨st', ?_, h2⟩
  unfold fX8_end
  rw [h1, ob_s]
  rcases cutR_in t n with e | e <;> rw [e]
  · exact tv_0 _
  · exact tv_1 _
theorem X9_end_s {t : List Nat} {st : ST} (hT : tapM t st) (ho : t.length ≤ 24) (n : Int32) : ∃ st', fX9_end st n = some (cutR t n, st') ∧ tapM (cutT t n) st' ∧ (∀ j, j ≠ 8 → j ≠ 0 → st'.1 j = st.1 j) ∧ st'.2 = st.2 := by
  have hT0 : tapM t (setS st 0 0) := ⟨by rw [sS_n _ _ (by decide)]; exact hT.1, fun i hi => by rw [sS_2]; exact hT.2 i hi⟩
  unfold fX9_end cutR cutT
  rw [bnd_s]
  by_cases h1 : n < 0
  · simp only [if_pos h1]; exact ⟨_, rfl, hT0, fun j _ h0 => sS_n _ _ h0, rfl⟩
  · simp only [if_neg h1, hT0.1]
    by_cases h2 : n ≤ nI t.length
    · simp only [if_pos h2, bnd_s]
      obtain ⟨j, hj, rfl⟩ := nI_of h1
      rw [nI_leI hj (by omega)] at h2
      refine ⟨_, rfl, ⟨?_, fun i hi => ?_⟩, fun k hk h0 => by rw [sS_n _ _ hk, sS_n _ _ h0], rfl⟩
      · rw [sS_s, nI_clamp hj, List.length_take, Nat.min_eq_left h2]
      · rw [nI_clamp hj, List.length_take, Nat.min_eq_left h2] at hi
        rw [sS_2, sS_2, hT.2 i (by omega), nI_clamp hj, gD_t hi]
    · simp only [if_neg h2]; exact ⟨_, rfl, hT0, fun j _ h0 => sS_n _ _ h0, rfl⟩
/-! plain texts, and how often a byte stands in one -/
def plain (t : List Nat) : Prop := ∀ b ∈ t, 32 ≤ b ∧ b ≤ 126
def cnt (c : Nat) : List Nat → Nat
  | [] => 0
  | b :: t => (if b = c then 1 else 0) + cnt c t
theorem plain_c {b : Nat} {t : List Nat} : plain (b :: t) ↔ (32 ≤ b ∧ b ≤ 126) ∧ plain t := by
  unfold plain
  simp
theorem cnt_le (c : Nat) (t : List Nat) : cnt c t ≤ t.length := by
  induction t with
  | nil => exact Nat.le_refl _
  | cons b t ih => unfold cnt; rw [List.length_cons]; split <;> omega
theorem X4_isText_l {t : List Nat} {st : ST} (hT : tapC t st) (ho : okT t) : ∀ (n i : Nat), t.length - i < n → i ≤ t.length → (plain (t.drop i) → fX4_isText_2 n st (nI i) = some 1) ∧ (¬ plain (t.drop i) → fX4_isText_2 n st (nI i) = some 0) := by
  intro n
  have hl := ho.1
  induction n with
  | zero => intro i h; omega
  | succ n ih =>
    intro i h hi
    unfold fX4_isText_2
    rw [hT.1]
    by_cases q : i = t.length
    · subst q
      rw [if_pos (nI_le (Nat.le_refl _) (by omega))]
      exact ⟨fun _ => rfl, fun z => absurd (by rw [List.drop_length]; intro b hb; cases hb) z⟩
    · have hlt : i < t.length := by omega
      have hb := ho.2 _ (gD_m hlt)
      rw [if_neg (nI_ge hlt (by omega)), ix_n _ (by omega) (by omega), nI_clamp (by omega), hT.2 i hlt, gD_c hlt, plain_c]
      by_cases q1 : t.getD i 0 < 32
      · rw [if_pos (show nI (t.getD i 0) < 32 from nI_lt (b := 32) q1 (by omega))]
        exact ⟨fun z => absurd z.1.1 (by omega), fun _ => rfl⟩
      · rw [if_neg (show ¬ nI (t.getD i 0) < 32 from nI_nlt (b := 32) (by omega) (by omega)), ix_n _ (by omega) (by omega)]
        by_cases q2 : t.getD i 0 ≤ 126
        · rw [if_pos (show nI (t.getD i 0) ≤ 126 from nI_le (b := 126) q2 (by omega)), bnd_s, nI_1]
          have := ih (i + 1) (by omega) (by omega)
          exact ⟨fun z => this.1 z.2, fun z => this.2 (fun p => z ⟨⟨by omega, q2⟩, p⟩)⟩
        · rw [if_neg (show ¬ nI (t.getD i 0) ≤ 126 from nI_ge (a := 126) (by omega) (by omega))]
          exact ⟨fun z => absurd z.1.2 q2, fun _ => rfl⟩
theorem X4_isText_s {t : List Nat} {st : ST} (hT : tapC t st) (ho : okT t) : (plain t → fX4_isText st = some 1) ∧ (¬ plain t → fX4_isText st = some 0) := by
  have hl := ho.1
  have := X4_isText_l hT ho 1000 0 (by omega) (by omega)
  rw [List.drop_zero] at this
  exact this
theorem X9_isPlain_f {t : List Nat} {st : ST} (hT : tapM t st) (ho : okT t) : ∀ (n i : Nat), t.length - i < n → i ≤ t.length → fX9_isPlain_4 n st 0 (nI i) = some 0 := by
  intro n
  have hl := ho.1
  induction n with
  | zero => intro i h; omega
  | succ n ih =>
    intro i h hi
    unfold fX9_isPlain_4
    rw [hT.1]
    by_cases q : i = t.length
    · subst q
      rw [if_pos (nI_le (Nat.le_refl _) (by omega))]; rfl
    · rw [if_neg (nI_ge (by omega) (by omega)), if_pos rfl, bnd_s, nI_1]
      exact ih (i + 1) (by omega) (by omega)
theorem X9_isPlain_l {t : List Nat} {st : ST} (hT : tapM t st) (ho : okT t) : ∀ (n i : Nat), t.length - i < n → i ≤ t.length → (plain (t.drop i) → fX9_isPlain_4 n st 1 (nI i) = some 1) ∧ (¬ plain (t.drop i) → fX9_isPlain_4 n st 1 (nI i) = some 0) := by
  intro n
  have hl := ho.1
  induction n with
  | zero => intro i h; omega
  | succ n ih =>
    intro i h hi
    unfold fX9_isPlain_4
    rw [hT.1]
    by_cases q : i = t.length
    · subst q
      rw [if_pos (nI_le (Nat.le_refl _) (by omega))]
      exact ⟨fun _ => rfl, fun z => absurd (by rw [List.drop_length]; intro b hb; cases hb) z⟩
    · have hlt : i < t.length := by omega
      have hb := ho.2 _ (gD_m hlt)
      rw [if_neg (nI_ge hlt (by omega)), if_neg (by decide), ix_n _ (by omega) (by omega), nI_clamp (by omega), hT.2 i hlt, gD_c hlt, plain_c, X9_isIn_s, ob_s, bnd_s, bnd_s, nI_1]
      have hs := sg_plain _ hb.2
      by_cases q1 : 32 ≤ t.getD i 0 ∧ t.getD i 0 ≤ 126
      · rw [if_neg (show ¬ (sg (t.getD i 0) < 32 ∨ 126 < sg (t.getD i 0)) by rw [hs]; exact fun z => z q1), if_neg (by decide)]
        have := ih (i + 1) (by omega) (by omega)
        exact ⟨fun z => this.1 z.2, fun z => this.2 (fun p => z ⟨q1, p⟩)⟩
      · rw [if_pos (show sg (t.getD i 0) < 32 ∨ 126 < sg (t.getD i 0) by rw [hs]; exact q1), if_pos rfl]
        exact ⟨fun z => absurd z.1 q1, fun _ => X9_isPlain_f hT ho n (i + 1) (by omega) (by omega)⟩
theorem X9_isPlain_s {t : List Nat} {st : ST} (hT : tapM t st) (ho : okT t) : (plain t → fX9_isPlain st = some 1) ∧ (¬ plain t → fX9_isPlain st = some 0) := by
  have hl := ho.1
  have := X9_isPlain_l hT ho 1000 0 (by omega) (by omega)
  rw [List.drop_zero] at this
  exact this
theorem X4_countOf_l {t : List Nat} {st : ST} (hT : tapC t st) (ho : okT t) {c : Nat} (hc : c < 128) : ∀ (n i x : Nat), t.length - i < n → i ≤ t.length → fX4_countOf_4 n st (nI c) (nI x) (nI i) = some (nI (x + cnt c (t.drop i))) := by
  intro n
  have hl := ho.1
  induction n with
  | zero => intro i x h; omega
  | succ n ih =>
    intro i x h hi
    unfold fX4_countOf_4
    rw [hT.1]
    by_cases q : i = t.length
    · subst q
      rw [if_pos (nI_le (Nat.le_refl _) (by omega)), List.drop_length]; rfl
    · have hlt : i < t.length := by omega
      have hb := ho.2 _ (gD_m hlt)
      rw [if_neg (nI_ge hlt (by omega)), ix_n _ (by omega) (by omega), nI_clamp (by omega), hT.2 i hlt, gD_c hlt]
      unfold cnt
      by_cases q1 : t.getD i 0 = c
      · rw [if_pos (by rw [q1]), if_pos q1, bnd_s, bnd_s, nI_1, nI_1, ih (i + 1) (x + 1) (by omega) (by omega)]
        exact sn (by omega)
      · rw [if_neg (by rw [nI_eq (by omega) (by omega)]; exact q1), if_neg q1, bnd_s, nI_1, ih (i + 1) x (by omega) (by omega)]
        exact sn (by omega)
theorem X4_countOf_s {t : List Nat} {st : ST} (hT : tapC t st) (ho : okT t) {c : Nat} (hc : c < 128) : fX4_countOf st (nI c) = some (nI (cnt c t)) := by
  have hl := ho.1
  have := X4_countOf_l hT ho hc 1000 0 0 (by omega) (by omega)
  rw [List.drop_zero, Nat.zero_add] at this
  exact this
theorem X9_manyOf_l {t : List Nat} {st : ST} (hT : tapM t st) (ho : okT t) {c : Nat} (hc : c < 128) : ∀ (n i x : Nat), t.length - i < n → i ≤ t.length → fX9_manyOf_4 n st (nI c) (nI x) (nI i) = some (nI (x + cnt c (t.drop i))) := by
  intro n
  have hl := ho.1
  induction n with
  | zero => intro i x h; omega
  | succ n ih =>
    intro i x h hi
    unfold fX9_manyOf_4
    rw [hT.1]
    by_cases q : i = t.length
    · subst q
      rw [if_pos (nI_le (Nat.le_refl _) (by omega)), List.drop_length]; rfl
    · have hlt : i < t.length := by omega
      have hb := ho.2 _ (gD_m hlt)
      rw [if_neg (nI_ge hlt (by omega)), ix_n _ (by omega) (by omega), nI_clamp (by omega), hT.2 i hlt, gD_c hlt]
      unfold cnt
      by_cases q1 : t.getD i 0 = c
      · rw [if_pos (show sg (t.getD i 0) = nI c by rw [sg_eq hb.2 hc]; exact q1), if_pos q1, bnd_s, bnd_s, nI_1, nI_1, ih (i + 1) (x + 1) (by omega) (by omega)]
        exact sn (by omega)
      · rw [if_neg (show ¬ sg (t.getD i 0) = nI c by rw [sg_eq hb.2 hc]; exact q1), if_neg q1, bnd_s, bnd_s, nI_1, show nI x + 0 = nI x from nI_add x 0, ih (i + 1) x (by omega) (by omega)]
        exact sn (by omega)
theorem X9_manyOf_s {t : List Nat} {st : ST} (hT : tapM t st) (ho : okT t) {c : Nat} (hc : c < 128) : fX9_manyOf st (nI c) = some (nI (cnt c t)) := by
  have hl := ho.1
  have := X9_manyOf_l hT ho hc 1000 0 0 (by omega) (by omega)
  rw [List.drop_zero, Nat.zero_add] at this
  exact this
/-- a pattern -/
def isPat (t : List Nat) : Prop := plain t ∧ cnt 68 t ≤ 1 ∧ cnt 77 t + cnt 78 t = 1 ∧ cnt 89 t + cnt 121 t = 1 ∧ cnt 87 t ≤ 1
theorem X4_isPattern_s {t : List Nat} {st : ST} (hT : tapC t st) (ho : okT t) : (isPat t → fX4_isPattern st = some 1) ∧ (¬ isPat t → fX4_isPattern st = some 0) := by
  have hl := ho.1
  have hp := X4_isText_s hT ho
  have c1 := cnt_le 68 t
  have c2 := cnt_le 77 t
  have c3 := cnt_le 78 t
  have c4 := cnt_le 89 t
  have c5 := cnt_le 121 t
  have c6 := cnt_le 87 t
  unfold fX4_isPattern isPat
  rw [show (68 : Int32) = nI 68 from rfl, show (77 : Int32) = nI 77 from rfl, show (78 : Int32) = nI 78 from rfl, show (89 : Int32) = nI 89 from rfl, show (121 : Int32) = nI 121 from rfl, show (87 : Int32) = nI 87 from rfl]
  rw [X4_countOf_s hT ho (by decide), ob_s, X4_countOf_s hT ho (by decide), ob_s, X4_countOf_s hT ho (by decide), ob_s, bnd_s, X4_countOf_s hT ho (by decide), ob_s, X4_countOf_s hT ho (by decide), ob_s, bnd_s, X4_countOf_s hT ho (by decide), ob_s, nI_add, nI_add]
  rw [show (1 : Int32) = nI 1 from rfl]
  simp only [nI_ltI (show 1 < 2 ^ 31 by decide) (show cnt 68 t < 2 ^ 31 by omega), nI_ltI (show 1 < 2 ^ 31 by decide) (show cnt 87 t < 2 ^ 31 by omega), nI_eq (show cnt 77 t + cnt 78 t < 2 ^ 31 by omega) (show 1 < 2 ^ 31 by decide), nI_eq (show cnt 89 t + cnt 121 t < 2 ^ 31 by omega) (show 1 < 2 ^ 31 by decide)]
  by_cases p : plain t
  · rw [hp.1 p, ob_s, if_neg (by decide)]
    by_cases a1 : 1 < cnt 68 t
    · rw [if_pos a1]; exact ⟨fun z => by omega, fun _ => rfl⟩
    · rw [if_neg a1]
      by_cases a2 : cnt 77 t + cnt 78 t = 1
      · rw [if_pos a2]
        by_cases a3 : cnt 89 t + cnt 121 t = 1
        · rw [if_pos a3]
          by_cases a4 : 1 < cnt 87 t
          · rw [if_pos a4]; exact ⟨fun z => by omega, fun _ => rfl⟩
          · rw [if_neg a4]; exact ⟨fun _ => rfl, fun z => absurd ⟨p, by omega, a2, a3, by omega⟩ z⟩
        · rw [if_neg a3]; exact ⟨fun z => absurd z.2.2.2.1 a3, fun _ => rfl⟩
      · rw [if_neg a2]; exact ⟨fun z => absurd z.2.2.1 a2, fun _ => rfl⟩
  · rw [hp.2 p, ob_s, if_pos rfl]
    exact ⟨fun z => absurd z.1 p, fun _ => rfl⟩
