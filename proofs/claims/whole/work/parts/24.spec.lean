/-! What a cell says by a pattern, over naturals. -/
def oI : Option Nat → Int32
  | none => -1
  | some n => nI n
def dig (b : Nat) : Bool := 48 ≤ b && b ≤ 57
def k2 (c : List Nat) (i : Nat) : Nat := if dig (c.getD (i + 1) 0) then 2 else 1
def tD (c : List Nat) : Nat → Nat → Nat → Option Nat
  | 0, _, x => some x
  | k + 1, i, x => if dig (c.getD i 0) then tD c k (i + 1) (x * 10 + c.getD i 0 - 48) else none
def low (b : Nat) : Nat := if 65 ≤ b ∧ b ≤ 90 then b + 32 else b
def stW (W : List Nat) (c : List Nat) (i w : Nat) : Bool := low (c.getD i 0) == W.getD (3 * w) 0 && low (c.getD (i + 1) 0) == W.getD (3 * w + 1) 0 && low (c.getD (i + 2) 0) == W.getD (3 * w + 2) 0
def tW (W : List Nat) (c : List Nat) (i : Nat) : Nat → Nat → Option Nat
  | 0, _ => none
  | f + 1, w => if stW W c i w then some w else tW W c i f (w + 1)
def sk (c : List Nat) : Nat → Nat → Nat
  | 0, i => i
  | f + 1, i => if c.getD i 0 = 32 then sk c f (i + 1) else i
def sy (win v : Nat) : Nat := win + (v + 2100 - win) % 100
def vd (d m y : Nat) : Bool := decide (1900 ≤ y ∧ y ≤ 2199 ∧ 1 ≤ m ∧ m ≤ 12 ∧ 1 ≤ d ∧ d ≤ ml m y)
def fin (d m y w : Option Nat) : Option (Nat × Nat) := match m, y with
  | some m, some y => if vd (d.getD 1) m y = true ∧ (w = none ∨ w = some (num (d.getD 1) m y % 7)) then some (num (d.getD 1) m y, if d = none then num (d.getD 1) m y + ml m y - 1 else num (d.getD 1) m y) else none
  | _, _ => none
def nMO : List Nat := [106, 97, 110, 102, 101, 98, 109, 97, 114, 97, 112, 114, 109, 97, 121, 106, 117, 110, 106, 117, 108, 97, 117, 103, 115, 101, 112, 111, 99, 116, 110, 111, 118, 100, 101, 99]
def nWD : List Nat := [109, 111, 110, 116, 117, 101, 119, 101, 100, 116, 104, 117, 102, 114, 105, 115, 97, 116, 115, 117, 110]
def rdl (win : Nat) (c : List Nat) : List Nat → Nat → Option Nat → Option Nat → Option Nat → Option Nat → Option (Nat × Nat)
  | [], i, d, m, y, w => if i = c.length then fin d m y w else none
  | p :: ps, i, d, m, y, w =>
    if p = 32 then (if i < sk c 30 i then rdl win c ps (sk c 30 i) d m y w else none)
    else if p = 68 then (match tD c (k2 c i) i 0 with | none => none | some v => rdl win c ps (i + k2 c i) (some v) m y w)
    else if p = 77 then (match tD c (k2 c i) i 0 with | none => none | some v => rdl win c ps (i + k2 c i) d (some v) y w)
    else if p = 78 then (match tW nMO c i 12 0 with | none => none | some v => rdl win c ps (i + 3) d (some (1 + v)) y w)
    else if p = 87 then (match tW nWD c i 7 0 with | none => none | some v => rdl win c ps (i + 3) d m y (some v))
    else if p = 89 then (match tD c 4 i 0 with | none => none | some v => rdl win c ps (i + 4) d m (some v) w)
    else if p = 121 then (match tD c 2 i 0 with | none => none | some v => rdl win c ps (i + 2) d m (some (sy win v)) w)
    else if c.getD i 0 = p then rdl win c ps (i + 1) d m y w else none
/-- what a cell says by a pattern: its span -/
def rd (win : Nat) (p c : List Nat) : Option (Nat × Nat) := rdl win c p 0 none none none none
theorem gD_0 {c : List Nat} {i : Nat} (h : c.length ≤ i) : c.getD i 0 = 0 := by
  rw [List.getD_eq_getElem?_getD, List.getElem?_eq_none h]; rfl
theorem dig_iff {b : Nat} : dig b = true ↔ 48 ≤ b ∧ b ≤ 57 := by simp [dig]
theorem dig_lt {c : List Nat} {i : Nat} (h : dig (c.getD i 0) = true) : i < c.length := by
  rcases Nat.lt_or_ge i c.length with q | q
  · exact q
  · rw [gD_0 q] at h; exact absurd h (by decide)
theorem tD_big {c : List Nat} : ∀ {k i x : Nat}, c.length < i + k → i ≤ c.length → tD c k i x = none := by
  intro k
  induction k with
  | zero => intro i x h h2; omega
  | succ k ih =>
    intro i x h h2
    unfold tD
    by_cases q : dig (c.getD i 0) = true
    · have := dig_lt q
      rw [if_pos q]
      exact ih (by omega) (by omega)
    · rw [if_neg q]
theorem tD_le {c : List Nat} : ∀ {k i x v : Nat}, tD c k i x = some v → i ≤ c.length → i + k ≤ c.length := by
  intro k i x v h h2
  rcases Nat.lt_or_ge c.length (i + k) with q | q
  · rw [tD_big q h2] at h; cases h
  · exact q
theorem sk_le {c : List Nat} : ∀ {f i : Nat}, i ≤ sk c f i ∧ (i ≤ c.length → sk c f i ≤ c.length) := by
  intro f
  induction f with
  | zero => intro i; exact ⟨Nat.le_refl _, fun h => h⟩
  | succ f ih =>
    intro i
    unfold sk
    by_cases q : c.getD i 0 = 32
    · rw [if_pos q]
      have hl : i < c.length := by
        rcases Nat.lt_or_ge i c.length with z | z
        · exact z
        · rw [gD_0 z] at q; omega
      have := ih (i := i + 1)
      exact ⟨by omega, fun _ => this.2 (by omega)⟩
    · rw [if_neg q]; exact ⟨Nat.le_refl _, fun h => h⟩
/-- more steps find the same place -/
theorem sk_more {c : List Nat} : ∀ {f i : Nat}, c.length < i + f → sk c f i = sk c (f + 1) i := by
  intro f
  induction f with
  | zero => intro i h; unfold sk; rw [if_neg (by rw [gD_0 (by omega)]; decide)]
  | succ f ih =>
    intro i h
    unfold sk
    by_cases q : c.getD i 0 = 32
    · rw [if_pos q, if_pos q]
      exact ih (by omega)
    · rw [if_neg q, if_neg q]
theorem sk_any {c : List Nat} {i f g : Nat} (hf : c.length < i + f) (hg : f ≤ g) : sk c f i = sk c g i := by
  obtain ⟨e, rfl⟩ : ∃ e, g = f + e := ⟨g - f, by omega⟩
  clear hg
  induction e with
  | zero => rfl
  | succ e ih => rw [ih]; exact sk_more (by omega)
theorem stW_lt {W c : List Nat} {i w : Nat} (h : stW W c i w = true) (hw : W.getD (3 * w + 2) 0 ≠ 0) : i + 3 ≤ c.length := by
  rcases Nat.lt_or_ge c.length (i + 3) with q | q
  · exfalso
    simp only [stW, Bool.and_eq_true, beq_iff_eq] at h
    have e := h.2
    rw [gD_0 (by omega)] at e
    exact hw e.symm
  · exact q
theorem nMO_w : ∀ w, w < 12 → nMO.getD (3 * w + 2) 0 ≠ 0 := by decide
theorem nWD_w : ∀ w, w < 7 → nWD.getD (3 * w + 2) 0 ≠ 0 := by decide
theorem tMO_n : ∀ j, j < 36 → tMO j = nI (nMO.getD j 0) ∧ nMO.getD j 0 < 128 := by decide +kernel
theorem tWD_n : ∀ j, j < 21 → tWD j = nI (nWD.getD j 0) ∧ nWD.getD j 0 < 128 := by decide +kernel
/-- a pattern that stands in a style: plain, D and W once at most, one month, one year -/
theorem floor_s {v win : Nat} (h1 : 1900 ≤ win) (h2 : win ≤ 2100) (h3 : v ≤ 99) : fJ9_floorMod_7cf53 (nI v - nI win) 100 = some (nI ((v + 2100 - win) % 100)) := by
  have h : ∀ t, t < 300 → fJ9_floorMod_7cf53 (-(nI (1801 + t))) 100 = some (nI ((2100 - (1801 + t)) % 100)) := by decide +kernel
  have := h (win - v - 1801) (by omega)
  rw [show 1801 + (win - v - 1801) = win - v by omega] at this
  have e : nI v - nI win = -(nI (win - v)) := by
    have e1 : nI win = nI v + nI (win - v) := by rw [nI_add]; exact congrArg nI (by omega)
    rw [e1]
    grind
  rw [e, this]
  exact sn (by omega)
theorem tD_in {c : List Nat} : ∀ {k i x v : Nat}, tD c k i x = some v → v < (x + 1) * 10 ^ k := by
  intro k
  induction k with
  | zero => intro i x v h; unfold tD at h; cases h; omega
  | succ k ih =>
    intro i x v h
    unfold tD at h
    by_cases q : dig (c.getD i 0) = true
    · rw [if_pos q] at h
      have h1 := ih h
      have h2 := dig_iff.mp q
      have h3 : (x * 10 + c.getD i 0 - 48 + 1) * 10 ^ k ≤ ((x + 1) * 10) * 10 ^ k := Nat.mul_le_mul_right _ (by omega)
      rw [Nat.pow_succ, Nat.mul_comm (10 ^ k) 10, ← Nat.mul_assoc]
      omega
    · rw [if_neg q] at h; cases h
