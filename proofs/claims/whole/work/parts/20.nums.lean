/-! Numbers: all that isn't negative is nI of a natural. -/
theorem li (k : Nat) : (OfNat.ofNat k : Int32) = nI k := rfl
theorem sn {a b : Nat} (h : a = b) : some (nI a) = some (nI b) := by rw [h]
theorem bnd_s {α β : Type} (x : α) (k : α → β) : bnd x k = k x := rfl
theorem ob_s {α β : Type} (x : α) (k : α → Option β) : ob (some x) k = k x := rfl
theorem ix_n {β : Type} {j n : Nat} (k : Option β) (h : j < n) (hn : n < 2 ^ 31) : ix (nI j) n k = k := by
  unfold ix
  rw [if_neg]
  rw [nI_clamp (Nat.lt_trans h hn)]
  intro q
  rcases q with q | q
  · exact nI_pos (Nat.lt_trans h hn) q
  · omega
theorem tv_0 {β : Type} (k : Option β) : tv 0 k = k := rfl
theorem tv_1 {β : Type} (k : Option β) : tv 1 k = k := rfl
theorem nI_m1 {a : Nat} (h : a < 2 ^ 31) : (nI a = -1) = False := by
  refine eq_false fun q => ?_
  have h1 := nI_pos h
  rw [q] at h1
  exact h1 (by decide)
theorem m1_nI {a : Nat} (h : a < 2 ^ 31) : ((-1 : Int32) = nI a) = False := by
  refine eq_false fun q => ?_
  have h1 := nI_pos h
  rw [← q] at h1
  exact h1 (by decide)
theorem m1_lt {a : Nat} (h : a < 2 ^ 31) : ((-1 : Int32) < nI a) = True := by
  refine eq_true ?_
  rw [Int32.lt_iff_toInt_lt, nI_toInt h]
  have : (-1 : Int32).toInt = -1 := by decide
  omega
theorem nI_ltm {a : Nat} (h : a < 2 ^ 31) : (nI a < (-1 : Int32)) = False := by
  refine eq_false fun q => ?_
  rw [Int32.lt_iff_toInt_lt, nI_toInt h] at q
  have : (-1 : Int32).toInt = -1 := by decide
  omega
theorem nI_lem {a : Nat} (h : a < 2 ^ 31) : (nI a ≤ (-1 : Int32)) = False := by
  refine eq_false fun q => ?_
  rw [Int32.le_iff_toInt_le, nI_toInt h] at q
  have : (-1 : Int32).toInt = -1 := by decide
  omega
theorem nI_lt0 {a : Nat} (h : a < 2 ^ 31) : (nI a < 0) = False := eq_false (nI_pos h)
theorem nI_le0 {a : Nat} (h : a < 2 ^ 31) : (0 ≤ nI a) = True := eq_true (nI_pos' h)
/-- any whole number: below 0, or a natural -/
theorem i_cases (x : Int32) : x < 0 ∨ ∃ j : Nat, j < 2 ^ 31 ∧ x = nI j := by
  by_cases h : x < 0
  · exact Or.inl h
  · exact Or.inr (nI_of h)
theorem neg_lt {x : Int32} (h : x < 0) (k : Nat) (hk : k < 2 ^ 31) : x < nI k := by
  rw [Int32.lt_iff_toInt_lt] at h ⊢
  rw [nI_toInt hk]
  have : (0 : Int32).toInt = 0 := by decide
  omega
theorem neg_nle {x : Int32} (h : x < 0) (k : Nat) (hk : k < 2 ^ 31) : ¬ nI k ≤ x := by
  intro q
  rw [Int32.lt_iff_toInt_lt] at h
  rw [Int32.le_iff_toInt_le, nI_toInt hk] at q
  have : (0 : Int32).toInt = 0 := by decide
  omega
theorem neg_ne {x : Int32} (h : x < 0) (k : Nat) (hk : k < 2 ^ 31) : ¬ x = nI k := by
  intro q
  rw [q] at h
  exact nI_pos hk h
/-! The calendar over naturals. -/
def lp (y : Nat) : Bool := (y % 4 == 0 && y % 100 != 0) || y % 400 == 0
def yl (y : Nat) : Nat := if lp y then 366 else 365
def ml (m y : Nat) : Nat := if m = 2 then (if lp y then 29 else 28) else if m = 4 ∨ m = 6 ∨ m = 9 ∨ m = 11 then 30 else 31
def ys (y : Nat) : Nat := (y - 1900) * 365 + ((y - 1) / 4 - (y - 1) / 100 + (y - 1) / 400 - 460)
def mst (y : Nat) : Nat → Nat
  | 0 => 0
  | 1 => 0
  | m + 2 => mst y (m + 1) + ml (m + 1) y
theorem ys_0 : ys 1900 = 0 := by decide
theorem ys_s {y : Nat} (h1 : 1900 ≤ y) (h2 : y ≤ 2199) : ys (y + 1) = ys y + yl y := by
  have h : ∀ k, k < 300 → ys (1900 + k + 1) = ys (1900 + k) + yl (1900 + k) := by decide +kernel
  have := h (y - 1900) (by omega)
  rw [show 1900 + (y - 1900) = y by omega] at this
  exact this
theorem ys_le {y : Nat} (h1 : 1900 ≤ y) (h2 : y ≤ 2200) : ys y ≤ 109573 := by
  have h : ∀ k, k < 301 → ys (1900 + k) ≤ 109573 := by decide +kernel
  have := h (y - 1900) (by omega)
  rw [show 1900 + (y - 1900) = y by omega] at this
  exact this
theorem ml_in (m y : Nat) : 28 ≤ ml m y ∧ ml m y ≤ 31 := by
  unfold ml
  split
  · split <;> omega
  · split <;> omega
theorem mst_s {m y : Nat} (h : 1 ≤ m) : mst y (m + 1) = mst y m + ml m y := by
  obtain ⟨k, rfl⟩ : ∃ k, m = k + 1 := ⟨m - 1, by omega⟩
  rfl
theorem mst_13 (y : Nat) : mst y 13 = yl y := by
  unfold yl
  cases h : lp y <;> simp [mst, ml, h]
theorem mst_le {y : Nat} : ∀ {a b : Nat}, a ≤ b → mst y a ≤ mst y b := by
  intro a b h
  induction b with
  | zero => have : a = 0 := by omega
            subst this; exact Nat.le_refl _
  | succ b ih =>
    rcases Nat.lt_or_ge b a with q | q
    · have : a = b + 1 := by omega
      subst this; exact Nat.le_refl _
    · have := ih q
      rcases Nat.eq_zero_or_pos b with rfl | hb
      · exact this
      · rw [mst_s hb]; omega
theorem yl_in (y : Nat) : 365 ≤ yl y ∧ yl y ≤ 366 := by
  unfold yl
  split <;> omega
/-! The leap years and the months' lengths, as both classes ask for them. -/
theorem lp_spec {y : Nat} (h : y < 2 ^ 31) {α : Type} (A B : α) : (if nI y - nI y / 4 * 4 = 0 then (if nI y - nI y / 100 * 100 = 0 then (if nI y - nI y / 400 * 400 = 0 then A else B) else A) else (if nI y - nI y / 400 * 400 = 0 then A else B)) = if lp y then A else B := by
  have e4 : nI y - nI y / 4 * 4 = nI (y % 4) := pk_rem h (by decide) (by decide)
  have e100 : nI y - nI y / 100 * 100 = nI (y % 100) := pk_rem h (by decide) (by decide)
  have e400 : nI y - nI y / 400 * 400 = nI (y % 400) := pk_rem h (by decide) (by decide)
  have z : ∀ k : Nat, k < 2 ^ 31 → (nI k = 0 ↔ k = 0) := fun k hk => by rw [show (0 : Int32) = nI 0 from rfl, nI_eq hk (by decide)]
  rw [e4, e100, e400]
  simp only [z (y % 4) (by omega), z (y % 100) (by omega), z (y % 400) (by omega)]
  by_cases a : y % 4 = 0 <;> by_cases b : y % 100 = 0 <;> by_cases c : y % 400 = 0 <;> simp [lp, a, b, c]
theorem X9_isLeap_s {y : Nat} (h : y < 2 ^ 31) : fX9_isLeap (nI y) = some (if lp y then 1 else 0) := by
  unfold fX9_isLeap
  rw [lp_spec h]
  split <;> rfl
theorem X9_isIn_s (x lo hi : Int32) : fX9_isIn x lo hi = some (if x < lo ∨ hi < x then 0 else 1) := by
  unfold fX9_isIn
  by_cases a : x < lo <;> by_cases b : hi < x <;> simp [a, b]
theorem nI_in12 {m : Nat} (h1 : 1 ≤ m) (h2 : m ≤ 12) : m = 1 ∨ m = 2 ∨ m = 3 ∨ m = 4 ∨ m = 5 ∨ m = 6 ∨ m = 7 ∨ m = 8 ∨ m = 9 ∨ m = 10 ∨ m = 11 ∨ m = 12 := by omega
theorem X9_daysOf_s {m y : Nat} (h1 : 1 ≤ m) (h2 : m ≤ 12) (h : y < 2 ^ 31) : fX9_daysOf (nI m) (nI y) = some (nI (ml m y)) := by
  unfold fX9_daysOf
  rw [X9_isLeap_s h, ob_s]
  rcases nI_in12 h1 h2 with rfl | rfl | rfl | rfl | rfl | rfl | rfl | rfl | rfl | rfl | rfl | rfl <;> first | rfl | (cases q : lp y <;> simp [ml, q] <;> rfl)
theorem X0_monthLength_s {m y : Nat} (h1 : 1 ≤ m) (h2 : m ≤ 12) (h : y < 2 ^ 31) : fX0_monthLength (nI m) (nI y) = some (nI (ml m y)) := by
  unfold fX0_monthLength
  rw [if_neg (by rw [show (1 : Int32) = nI 1 from rfl, nI_ltI (by omega) (by omega)]; omega), if_pos (by rw [show (12 : Int32) = nI 12 from rfl, nI_leI (by omega) (by omega)]; omega)]
  rw [lp_spec h]
  rcases nI_in12 h1 h2 with rfl | rfl | rfl | rfl | rfl | rfl | rfl | rfl | rfl | rfl | rfl | rfl <;> cases q : lp y <;> simp [ml, q] <;> rfl
theorem X0_monthLength_n {m y : Int32} (h : m < 1 ∨ 12 < m) : fX0_monthLength m y = some 0 := by
  unfold fX0_monthLength
  rcases h with h | h
  · rw [if_pos h]
  · by_cases a : m < 1
    · rw [if_pos a]
    · rw [if_neg a, if_neg (by rw [Int32.le_iff_toInt_le]; rw [Int32.lt_iff_toInt_lt] at h; omega)]
theorem X0_yearStart_s {y : Nat} (h1 : 1900 ≤ y) (h2 : y ≤ 2200) : fX0_yearStart (nI y) = some (nI (ys y)) := by
  unfold fX0_yearStart
  simp only [bnd_s]
  have e1 : nI y - 1 = nI (y - 1) := pk_sub (a := y) (b := 1) (by omega)
  have e4 : nI (y - 1) / 4 = nI ((y - 1) / 4) := pk_div (by omega) (by decide) (by decide)
  have e100 : nI (y - 1) / 100 = nI ((y - 1) / 100) := pk_div (by omega) (by decide) (by decide)
  have e400 : nI (y - 1) / 400 = nI ((y - 1) / 400) := pk_div (by omega) (by decide) (by decide)
  have e19 : nI y - 1900 = nI (y - 1900) := pk_sub (a := y) (b := 1900) (by omega)
  rw [e1, e4, e100, e400, e19, pk_sub (by omega), nI_add, show (460 : Int32) = nI 460 from rfl, pk_sub (by omega), show (365 : Int32) = nI 365 from rfl, pk_mul, nI_add]
  rfl
/-! Numbers of days. -/
def num (d m y : Nat) : Nat := ys y + mst y m + d - 1
theorem num_le {d m y : Nat} (hy1 : 1900 ≤ y) (hy2 : y ≤ 2199) (hm1 : 1 ≤ m) (hm2 : m ≤ 12) (hd1 : 1 ≤ d) (hd2 : d ≤ ml m y) : ys y ≤ num d m y ∧ num d m y < ys (y + 1) ∧ num d m y ≤ 109572 := by
  have h1 : mst y (m + 1) ≤ mst y 13 := mst_le (by omega)
  rw [mst_s hm1, mst_13] at h1
  have h2 := ys_s hy1 hy2
  have h3 := ys_le (y := y + 1) (by omega) (by omega)
  unfold num
  omega
theorem X0_dayNumber_l {y : Nat} (hy : y < 2200) {M : Nat} (hM : M ≤ 12) : ∀ (n m x : Nat), M - m < n → 1 ≤ m → m ≤ M → x + mst y M ≤ 2 ^ 30 + mst y m → fX0_dayNumber_42 n (nI M) (nI y) (nI x) (nI m) = some (nI (x + (mst y M - mst y m))) := by
  intro n
  induction n with
  | zero => intro m x h; omega
  | succ n ih =>
    intro m x h h1 h2 hx
    unfold fX0_dayNumber_42
    by_cases q : m = M
    · subst q
      rw [if_pos (nI_le (Nat.le_refl _) (by omega)), Nat.sub_self, Nat.add_zero]
    · rw [if_neg (nI_ge (by omega) (by omega)), X0_monthLength_s h1 (by omega) (by omega), ob_s, bnd_s, bnd_s, nI_add, nI_1]
      have e := mst_s (y := y) h1
      have e2 : mst y (m + 1) ≤ mst y M := mst_le (by omega)
      rw [ih (m + 1) (x + ml m y) (by omega) (by omega) (by omega) (by omega)]
      exact sn (by omega)
theorem X0_dayNumber_s {d m y : Nat} (hy1 : 1900 ≤ y) (hy2 : y ≤ 2199) (hm1 : 1 ≤ m) (hm2 : m ≤ 12) (hd1 : 1 ≤ d) (hd2 : d ≤ ml m y) : fX0_dayNumber (nI d) (nI m) (nI y) = some (nI (num d m y)) := by
  have hml := ml_in m y
  have hb := ys_le (y := y) (by omega) (by omega)
  unfold fX0_dayNumber
  rw [if_neg (show ¬ nI y < 1900 from nI_nlt (b := 1900) (by omega) (by omega)), if_neg (show ¬ 2199 < nI y from nI_nlt (a := 2199) (by omega) (by omega)), if_neg (show ¬ nI d < 1 from nI_nlt (b := 1) (by omega) (by omega)), X0_monthLength_s hm1 hm2 (by omega), ob_s, if_pos (nI_le (by omega) (by omega)), X0_yearStart_s (by omega) (by omega), ob_s, bnd_s, nI_add]
  rw [show nI (ys y + d) - 1 = nI (ys y + d - 1) from pk_sub (a := ys y + d) (b := 1) (by omega)]
  have hm : mst y m ≤ mst y 13 := mst_le (by omega)
  have := yl_in y
  rw [mst_13] at hm
  have h0 : mst y 1 = 0 := rfl
  rw [show (1 : Int32) = nI 1 from rfl, X0_dayNumber_l (by omega) hm2 1000 1 (ys y + d - 1) (by omega) (by omega) (by omega) (by omega)]
  unfold num
  exact sn (by omega)
theorem X9_numberOf_l {y : Nat} (hy : y < 2200) {M : Nat} (hM : M ≤ 12) : ∀ (n m x : Nat), M - m < n → 1 ≤ m → m ≤ M → fX9_numberOf_44 n (nI M) (nI y) (nI x) (nI m) = some (nI (x + (mst y M - mst y m))) := by
  intro n
  induction n with
  | zero => intro m x h; omega
  | succ n ih =>
    intro m x h h1 h2
    unfold fX9_numberOf_44
    by_cases q : m = M
    · subst q
      rw [if_pos (nI_le (Nat.le_refl _) (by omega)), Nat.sub_self, Nat.add_zero]
    · rw [if_neg (nI_ge (by omega) (by omega)), X9_daysOf_s h1 (by omega) (by omega), ob_s, bnd_s, bnd_s, nI_add, nI_1]
      have e := mst_s (y := y) h1
      have e2 : mst y (m + 1) ≤ mst y M := mst_le (by omega)
      rw [ih (m + 1) (x + ml m y) (by omega) (by omega) (by omega)]
      exact sn (by omega)
theorem X9_numberOf_y {m Y : Nat} (hY : Y ≤ 2199) (hm1 : 1 ≤ m) (hm2 : m ≤ 12) : ∀ (n y x : Nat), Y - y < n → 1900 ≤ y → y ≤ Y → fX9_numberOf_9 n (nI m) (nI Y) (nI x) (nI y) = some (nI (x + (ys Y - ys y) + mst Y m)) := by
  intro n
  induction n with
  | zero => intro y x h; omega
  | succ n ih =>
    intro y x h h1 h2
    unfold fX9_numberOf_9
    by_cases q : y = Y
    · subst q
      rw [if_pos (nI_le (Nat.le_refl _) (by omega)), show (1 : Int32) = nI 1 from rfl, X9_numberOf_l (by omega) hm2 1000 1 x (by omega) (by omega) hm1]
      have h0 : mst y 1 = 0 := rfl
      exact sn (by omega)
    · have mono : ys (y + 1) ≤ ys Y := by
        have : ∀ k, y + 1 + k ≤ 2199 → ys (y + 1) ≤ ys (y + 1 + k) := by
          intro k
          induction k with
          | zero => intro _; exact Nat.le_refl _
          | succ k ihk =>
            intro hk
            have a := ihk (by omega)
            have b := ys_s (y := y + 1 + k) (by omega) (by omega)
            have c : y + 1 + (k + 1) = y + 1 + k + 1 := by omega
            rw [c, b]
            omega
        have := this (Y - (y + 1)) (by omega)
        rw [show y + 1 + (Y - (y + 1)) = Y by omega] at this
        exact this
      rw [if_neg (nI_ge (by omega) (by omega)), X9_isLeap_s (by omega), ob_s]
      have e := ys_s (y := y) h1 (by omega)
      cases q2 : lp y
      · have e3 : yl y = 365 := by simp [yl, q2]
        rw [if_pos (by simp), bnd_s, bnd_s, show (365 : Int32) = nI 365 from rfl, nI_add, nI_1, ih (y + 1) (x + 365) (by omega) (by omega) (by omega)]
        exact sn (by omega)
      · have e3 : yl y = 366 := by simp [yl, q2]
        rw [if_neg (by simp), bnd_s, bnd_s, show (366 : Int32) = nI 366 from rfl, nI_add, nI_1, ih (y + 1) (x + 366) (by omega) (by omega) (by omega)]
        exact sn (by omega)
theorem X9_numberOf_s {d m y : Nat} (hy1 : 1900 ≤ y) (hy2 : y ≤ 2199) (hm1 : 1 ≤ m) (hm2 : m ≤ 12) (hd1 : 1 ≤ d) (hd2 : d < 2 ^ 30) : fX9_numberOf (nI d) (nI m) (nI y) = some (nI (num d m y)) := by
  unfold fX9_numberOf
  rw [bnd_s, show nI d - 1 = nI (d - 1) from pk_sub (a := d) (b := 1) (by omega), show (1900 : Int32) = nI 1900 from rfl, X9_numberOf_y hy2 hm1 hm2 1000 1900 (d - 1) (by omega) (by omega) (by omega), ys_0]
  unfold num
  exact sn (by omega)
/-- a day that there is, by three whole numbers -/
def isD (d m y : Int32) : Prop := ∃ a b c : Nat, d = nI a ∧ m = nI b ∧ y = nI c ∧ 1900 ≤ c ∧ c ≤ 2199 ∧ 1 ≤ b ∧ b ≤ 12 ∧ 1 ≤ a ∧ a ≤ ml b c
theorem nat_of {x : Int32} {lo hi : Nat} (h1 : ¬ x < nI lo) (h2 : ¬ nI hi < x) (hh : hi < 2 ^ 31) (hl : lo < 2 ^ 31) : ∃ k : Nat, x = nI k ∧ lo ≤ k ∧ k ≤ hi := by
  have h0 : ¬ x < 0 := fun q => h1 (neg_lt q lo hl)
  obtain ⟨j, hj, rfl⟩ := nI_of h0
  rw [nI_ltI hj hl] at h1
  rw [nI_ltI hh hj] at h2
  exact ⟨j, rfl, by omega, by omega⟩
theorem X9_isDate_s (d m y : Int32) : (isD d m y ∧ fX9_isDate d m y = some 1) ∨ (¬ isD d m y ∧ fX9_isDate d m y = some 0) := by
  unfold fX9_isDate
  simp only [X9_isIn_s, ob_s]
  by_cases hy : y < 1900 ∨ 2199 < y
  · refine Or.inr ⟨?_, by rw [if_pos hy, if_pos rfl]⟩
    rintro ⟨a, b, c, -, -, rfl, h1, h2, -⟩
    rcases hy with q | q
    · exact nI_nlt (b := 1900) h1 (by omega) q
    · exact nI_nlt (a := 2199) h2 (by omega) q
  · rw [if_neg hy, if_neg (by decide)]
    by_cases hm : m < 1 ∨ 12 < m
    · refine Or.inr ⟨?_, by rw [if_pos hm, if_pos rfl]⟩
      rintro ⟨a, b, c, -, rfl, -, -, -, h1, h2, -⟩
      rcases hm with q | q
      · exact nI_nlt (b := 1) h1 (by omega) q
      · exact nI_nlt (a := 12) h2 (by omega) q
    · rw [if_neg hm, if_neg (by decide)]
      obtain ⟨c, rfl, hc1, hc2⟩ := nat_of (lo := 1900) (hi := 2199) (fun q => hy (Or.inl q)) (fun q => hy (Or.inr q)) (by decide) (by decide)
      obtain ⟨b, rfl, hb1, hb2⟩ := nat_of (lo := 1) (hi := 12) (fun q => hm (Or.inl q)) (fun q => hm (Or.inr q)) (by decide) (by decide)
      rw [X9_daysOf_s hb1 hb2 (by omega), ob_s]
      have hl := ml_in b c
      by_cases hd : d < 1 ∨ nI (ml b c) < d
      · refine Or.inr ⟨?_, by rw [if_pos hd, if_pos rfl]⟩
        rintro ⟨a, b', c', rfl, e1, e2, h5, h6, h3, h4, h1, h2⟩
        rw [nI_eq (by omega) (by omega)] at e1 e2
        subst e1; subst e2
        rcases hd with q | q
        · exact nI_nlt (b := 1) h1 (by omega) q
        · exact nI_nlt h2 (by omega) q
      · obtain ⟨a, rfl, ha1, ha2⟩ := nat_of (lo := 1) (hi := ml b c) (fun q => hd (Or.inl q)) (fun q => hd (Or.inr q)) (by omega) (by decide)
        exact Or.inl ⟨⟨a, b, c, rfl, rfl, rfl, hc1, hc2, hb1, hb2, ha1, ha2⟩, by rw [if_neg hd, if_neg (by decide)]⟩
theorem X0_dayNumber_n {d m y : Int32} (h : ¬ isD d m y) : fX0_dayNumber d m y = some (-1) := by
  unfold fX0_dayNumber
  by_cases hy1 : y < 1900
  · rw [if_pos hy1]
  · by_cases hy2 : 2199 < y
    · rw [if_neg hy1, if_pos hy2]
    · by_cases hd : d < 1
      · rw [if_neg hy1, if_neg hy2, if_pos hd]
      · rw [if_neg hy1, if_neg hy2, if_neg hd]
        by_cases hm : m < 1 ∨ 12 < m
        · rw [X0_monthLength_n hm, ob_s, if_neg]
          intro q
          refine hd ?_
          rw [Int32.lt_iff_toInt_lt]
          rw [Int32.le_iff_toInt_le] at q
          have e0 : (0 : Int32).toInt = 0 := by decide
          have e1 : (1 : Int32).toInt = 1 := by decide
          omega
        · obtain ⟨c, rfl, hc1, hc2⟩ := nat_of (lo := 1900) (hi := 2199) hy1 hy2 (by decide) (by decide)
          obtain ⟨b, rfl, hb1, hb2⟩ := nat_of (lo := 1) (hi := 12) (fun q => hm (Or.inl q)) (fun q => hm (Or.inr q)) (by decide) (by decide)
          rw [X0_monthLength_s hb1 hb2 (by omega), ob_s]
          have hl := ml_in b c
          by_cases q : d ≤ nI (ml b c)
          · exfalso
            have hn : ¬ nI (ml b c) < d := fun z => by
              rw [Int32.lt_iff_toInt_lt] at z; rw [Int32.le_iff_toInt_le] at q; omega
            obtain ⟨a, rfl, ha1, ha2⟩ := nat_of (lo := 1) (hi := ml b c) hd hn (by omega) (by decide)
            exact h ⟨a, b, c, rfl, rfl, rfl, hc1, hc2, hb1, hb2, ha1, ha2⟩
          · rw [if_neg q]
