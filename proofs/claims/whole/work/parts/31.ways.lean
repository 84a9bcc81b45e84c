/-! Least costs over naturals. -/
def mm : Option Nat → Nat → Nat
  | none, v => v
  | some x, v => if v < x then v else x
def mp (P : Nat → Bool) (f : Nat → Nat) : Nat → Option Nat
  | 0 => none
  | k + 1 => if P k = true then some (mm (mp P f k) (f k)) else mp P f k
def mi (f : Nat → Nat) : Nat → Option Nat
  | 0 => none
  | k + 1 => some (mm (mi f k) (f k))
def mv (f : Nat → Nat) (k : Nat) : Nat := (mi f k).getD 0
def am (f : Nat → Nat) : Nat → Nat
  | 0 => 0
  | k + 1 => match mi f k with
    | none => k
    | some x => if x ≤ f k then am f k else k
theorem mi_v {f : Nat → Nat} {k : Nat} (h : 0 < k) : mi f k = some (mv f k) := by
  cases k with
  | zero => omega
  | succ k => rfl
theorem mi_c {f g : Nat → Nat} : ∀ {k : Nat}, (∀ i, i < k → f i = g i) → mi f k = mi g k := by
  intro k
  induction k with
  | zero => intro _; rfl
  | succ k ih =>
    intro h
    unfold mi
    rw [ih (fun i hi => h i (by omega)), h k (by omega)]
theorem mv_c {f g : Nat → Nat} {k : Nat} (h : ∀ i, i < k → f i = g i) : mv f k = mv g k := by
  unfold mv; rw [mi_c h]
theorem mv_le {f : Nat → Nat} : ∀ {k i : Nat}, i < k → mv f k ≤ f i := by
  intro k
  induction k with
  | zero => intro i h; omega
  | succ k ih =>
    intro i h
    show mm (mi f k) (f k) ≤ f i
    rcases Nat.eq_zero_or_pos k with rfl | hk
    · have : i = 0 := by omega
      subst this; exact Nat.le_refl _
    · rw [mi_v hk]
      show (if f k < mv f k then f k else mv f k) ≤ f i
      by_cases e : i = k
      · subst e; split <;> omega
      · have := @ih i (by omega)
        split <;> omega
theorem mv_mem {f : Nat → Nat} : ∀ {k : Nat}, 0 < k → ∃ i, i < k ∧ mv f k = f i := by
  intro k
  induction k with
  | zero => intro h; omega
  | succ k ih =>
    intro _
    show ∃ i, i < k + 1 ∧ mm (mi f k) (f k) = f i
    rcases Nat.eq_zero_or_pos k with rfl | hk
    · exact ⟨0, by omega, rfl⟩
    · rw [mi_v hk]
      obtain ⟨i, h1, h2⟩ := ih hk
      by_cases e : f k < mv f k
      · exact ⟨k, by omega, by show (if f k < mv f k then f k else mv f k) = _; rw [if_pos e]⟩
      · exact ⟨i, by omega, by show (if f k < mv f k then f k else mv f k) = _; rw [if_neg e, h2]⟩
theorem mv_add {f : Nat → Nat} {c k : Nat} (h : 0 < k) : mv (fun i => f i + c) k = mv f k + c := by
  obtain ⟨i, h1, h2⟩ := mv_mem (f := f) h
  obtain ⟨j, h3, h4⟩ := mv_mem (f := fun i => f i + c) h
  have a1 := mv_le (f := f) h3
  have a2 := mv_le (f := fun i => f i + c) h1
  omega
theorem am_s {f : Nat → Nat} : ∀ {k : Nat}, 0 < k → am f k < k ∧ f (am f k) = mv f k ∧ ∀ i, i < am f k → mv f k < f i := by
  intro k
  induction k with
  | zero => intro h; omega
  | succ k ih =>
    intro _
    rcases Nat.eq_zero_or_pos k with rfl | hk
    · exact ⟨by show (0 : Nat) < 1; omega, rfl, fun i hi => absurd hi (Nat.not_lt_zero i)⟩
    · obtain ⟨h1, h2, h3⟩ := ih hk
      have ea : am f (k + 1) = if mv f k ≤ f k then am f k else k := by
        show (match mi f k with | none => k | some x => if x ≤ f k then am f k else k) = _
        rw [mi_v hk]
      have ev : mv f (k + 1) = if f k < mv f k then f k else mv f k := by
        show mm (mi f k) (f k) = _
        rw [mi_v hk]; rfl
      by_cases e : mv f k ≤ f k
      · rw [ea, ev, if_pos e, if_neg (by omega)]
        exact ⟨by omega, h2, h3⟩
      · rw [ea, ev, if_neg e, if_pos (by omega)]
        refine ⟨by omega, rfl, fun i hi => ?_⟩
        have := mv_le (f := f) hi
        omega
/-! The ways: what is read (row, style), the styles' costs, the prices, how many rows, how many styles. -/
abbrev WD : Type := (Nat → Nat → Option (Nat × Nat)) × (Nat → Nat) × (Nat → Nat) × Nat × Nat
def wF (W : WD) : Nat → Nat → Option (Nat × Nat) := W.1
def wc (W : WD) : Nat → Nat := W.2.1
def wp (W : WD) : Nat → Nat := W.2.2.1
def wn (W : WD) : Nat := W.2.2.2.1
def wS (W : WD) : Nat := W.2.2.2.2
def okW (W : WD) : Prop := 1 ≤ wn W ∧ wn W ≤ 30 ∧ 1 ≤ wS W ∧ wS W ≤ 8 ∧ (∀ s, wc W s ≤ 1000) ∧ (∀ k, wp W k ≤ 1000) ∧ ∀ r s a b, wF W r s = some (a, b) → a < 200000 ∧ b < 200000
def ms (W : WD) (r s : Nat) : Nat := match wF W r s with
  | none => wp W 1
  | some _ => 0
def bb (W : WD) (r s t : Nat) : Bool := match wF W (r - 1) s, wF W r t with
  | some (a, _), some (_, b) => decide (b < a)
  | _, _ => false
/-- from row r - 1 told s to row r told t, without the miss -/
def stp (W : WD) (r s t : Nat) : Nat := (if s = t then 0 else wp W 0 + wc W t) + (if bb W r s t = true then wp W 2 else 0)
def ah (W : WD) : Nat → Nat → Nat
  | 0, s => wc W s + ms W 0 s
  | r + 1, s => mv (fun o => ah W r o + stp W (r + 1) o s) (wS W) + ms W (r + 1) s
def bk (W : WD) : Nat → Nat → Nat
  | 0, _ => 0
  | d + 1, s => mv (fun t => stp W (wn W - 1 - d) s t + (bk W d t + ms W (wn W - 1 - d) t)) (wS W)
def bh (W : WD) (r s : Nat) : Nat := bk W (wn W - 1 - r) s
def bm (W : WD) (r s : Nat) : Nat := bh W r s + ms W r s
/-- what is least for row 0, for row r behind a row told p -/
def g0 (W : WD) (s : Nat) : Nat := wc W s + bm W 0 s
def g1 (W : WD) (r p s : Nat) : Nat := stp W r p s + bm W r s
def bs (W : WD) : Nat → Nat
  | 0 => am (g0 W) (wS W)
  | r + 1 => am (g1 W (r + 1) (bs W r)) (wS W)
theorem ms_le {W : WD} (h : okW W) (r s : Nat) : ms W r s ≤ 1000 := by
  have := h.2.2.2.2.2.1 1
  unfold ms
  split <;> omega
theorem stp_le {W : WD} (h : okW W) (r s t : Nat) : stp W r s t ≤ 3000 := by
  have h0 := h.2.2.2.2.2.1 0
  have h2 := h.2.2.2.2.2.1 2
  have h3 := h.2.2.2.2.1 t
  unfold stp
  split <;> split <;> omega
theorem ah_le {W : WD} (h : okW W) : ∀ r s, ah W r s ≤ 4000 * (r + 1) := by
  intro r
  induction r with
  | zero => intro s; have := h.2.2.2.2.1 s; have := ms_le h 0 s; show wc W s + ms W 0 s ≤ _; omega
  | succ r ih =>
    intro s
    have a1 := ih 0
    have a2 := ms_le h (r + 1) s
    have a3 := stp_le h (r + 1) 0 s
    have a4 := mv_le (f := fun o => ah W r o + stp W (r + 1) o s) (show 0 < wS W from h.2.2.1)
    show mv (fun o => ah W r o + stp W (r + 1) o s) (wS W) + ms W (r + 1) s ≤ _
    omega
theorem bk_le {W : WD} (h : okW W) : ∀ d s, bk W d s ≤ 4000 * d := by
  intro d
  induction d with
  | zero => intro s; exact Nat.le_refl _
  | succ d ih =>
    intro s
    have a1 := ih 0
    have a2 := ms_le h (wn W - 1 - d) 0
    have a3 := stp_le h (wn W - 1 - d) s 0
    have a4 := mv_le (f := fun t => stp W (wn W - 1 - d) s t + (bk W d t + ms W (wn W - 1 - d) t)) (show 0 < wS W from h.2.2.1)
    show mv (fun t => stp W (wn W - 1 - d) s t + (bk W d t + ms W (wn W - 1 - d) t)) (wS W) ≤ _
    omega
theorem bh_le {W : WD} (h : okW W) (r s : Nat) : bh W r s ≤ 120000 := by
  have := bk_le h (wn W - 1 - r) s
  have := h.2.1
  unfold bh
  omega
theorem bm_le {W : WD} (h : okW W) (r s : Nat) : bm W r s ≤ 121000 := by
  have := bh_le h r s
  have := ms_le h r s
  unfold bm
  omega
theorem ah_l3 {W : WD} (h : okW W) {r : Nat} (hr : r < wn W) (s : Nat) : ah W r s ≤ 120000 := by
  have := ah_le h r s
  have := h.2.1
  omega
theorem bh_last {W : WD} {r : Nat} (s : Nat) (hr : r = wn W - 1) : bh W r s = 0 := by
  unfold bh; rw [hr, Nat.sub_self]; rfl
theorem bh_s {W : WD} {r : Nat} (s : Nat) (hr : r + 1 < wn W) : bh W r s = mv (fun t => stp W (r + 1) s t + bm W (r + 1) t) (wS W) := by
  unfold bm bh
  rw [show wn W - 1 - r = (wn W - 1 - (r + 1)) + 1 by omega]
  show mv (fun t => stp W (wn W - 1 - (wn W - 1 - (r + 1))) s t + (bk W (wn W - 1 - (r + 1)) t + ms W (wn W - 1 - (wn W - 1 - (r + 1))) t)) (wS W) = _
  rw [show wn W - 1 - (wn W - 1 - (r + 1)) = r + 1 by omega]
theorem bs_lt {W : WD} (h : okW W) (r : Nat) : bs W r < wS W := by
  cases r with
  | zero => exact (am_s h.2.2.1).1
  | succ r => exact (am_s h.2.2.1).1
theorem rd_fin {w : Nat} {c : List Nat} : ∀ {p : List Nat} {i : Nat} {d m y k : Option Nat} {a b : Nat}, rdl w c p i d m y k = some (a, b) → ∃ d m y k, fin d m y k = some (a, b) := by
  intro p
  induction p with
  | nil =>
    intro i d m y k a b h
    unfold rdl at h
    split at h
    · exact ⟨d, m, y, k, h⟩
    · cases h
  | cons p ps ih =>
    intro i d m y k a b h
    unfold rdl at h
    repeat' split at h
    all_goals first | (cases h; done) | exact ih h
theorem fin_lt {d m y k : Option Nat} {a b : Nat} (h : fin d m y k = some (a, b)) : a ≤ 109572 ∧ b < 200000 := by
  unfold fin at h
  split at h
  · rename_i m y
    split at h
    · rename_i q
      have v := q.1
      unfold vd at v
      obtain ⟨v1, v2, v3, v4, v5, v6⟩ := of_decide_eq_true v
      have := (num_le v1 v2 v3 v4 v5 v6).2.2
      have := ml_in m y
      cases h
      refine ⟨by assumption, ?_⟩
      split <;> omega
    · cases h
  · cases h
theorem rd_lt {w : Nat} {p c : List Nat} {a b : Nat} (h : rd w p c = some (a, b)) : a ≤ 109572 ∧ b < 200000 := by
  obtain ⟨d, m, y, k, e⟩ := rd_fin h
  exact fin_lt e
