/-! Alike and unlike spans. -/
def bdF (f : Nat → Option (Nat × Nat)) : Prop := ∀ s a b, f s = some (a, b) → a < 200000 ∧ b < 200000
theorem sp_eq {f g : Option (Nat × Nat)} (hf : ∀ a b, f = some (a, b) → a < 200000 ∧ b < 200000) (hg : ∀ a b, g = some (a, b) → a < 200000 ∧ b < 200000) {β : Type} (x y : β) : (if sp1 f = sp1 g then (if sp2 f = sp2 g then x else y) else y) = if f = g then x else y := by
  cases f with
  | none =>
    cases g with
    | none => rfl
    | some v =>
      obtain ⟨c, d⟩ := v
      have := hg c d rfl
      rw [if_neg (show ¬ sp1 none = sp1 (some (c, d)) from fun z => by
        have z1 : (-1 : Int32) = nI c := z
        rw [m1_nI (by omega)] at z1; exact z1), if_neg (fun z => by cases z)]
  | some u =>
    obtain ⟨a, b⟩ := u
    have h1 := hf a b rfl
    cases g with
    | none =>
      rw [if_neg (show ¬ sp1 (some (a, b)) = sp1 none from fun z => by
        have z1 : nI a = -1 := z
        rw [nI_m1 (by omega)] at z1; exact z1), if_neg (fun z => by cases z)]
    | some v =>
      obtain ⟨c, d⟩ := v
      have h2 := hg c d rfl
      show (if nI a = nI c then (if nI b = nI d then x else y) else y) = _
      by_cases e1 : a = c
      · subst e1
        rw [if_pos rfl]
        by_cases e2 : b = d
        · subst e2; rw [if_pos rfl, if_pos rfl]
        · rw [if_neg (fun z => e2 ((nI_eq (by omega) (by omega)).mp z)), if_neg (fun z => e2 (by cases z; rfl))]
      · rw [if_neg (fun z => e1 ((nI_eq (by omega) (by omega)).mp z)), if_neg (fun z => e1 (by cases z; rfl))]
/-- the style's span was said by one of the first k -/
def sa (f : Nat → Option (Nat × Nat)) (s : Nat) : Nat → Bool
  | 0 => false
  | k + 1 => sa f s k || decide (f k = f s)
def un (f : Nat → Option (Nat × Nat)) : Nat → Nat
  | 0 => 0
  | k + 1 => un f k + (if (f k).isSome && !sa f k k then 1 else 0)
theorem sa_mono {f : Nat → Option (Nat × Nat)} {s k : Nat} : ∀ {m : Nat}, sa f s k = true → k ≤ m → sa f s m = true := by
  intro m h
  induction m with
  | zero => intro q; have : k = 0 := by omega
            subst this; exact h
  | succ m ih =>
    intro q
    by_cases e : k = m + 1
    · subst e; exact h
    · unfold sa; rw [ih (by omega)]; rfl
theorem sa_ex {f : Nat → Option (Nat × Nat)} {s : Nat} : ∀ {k : Nat}, sa f s k = true → ∃ o, o < k ∧ f o = f s := by
  intro k
  induction k with
  | zero => intro h; cases h
  | succ k ih =>
    intro h
    unfold sa at h
    rcases Bool.or_eq_true_iff.mp h with q | q
    · obtain ⟨o, h1, h2⟩ := ih q; exact ⟨o, by omega, h2⟩
    · exact ⟨k, by omega, of_decide_eq_true q⟩
theorem sa_of {f : Nat → Option (Nat × Nat)} {s k o : Nat} (h : o < k) (e : f o = f s) : sa f s k = true := by
  refine sa_mono (k := o + 1) ?_ h
  unfold sa
  rw [decide_eq_true e, Bool.or_true]
theorem un_0 {f : Nat → Option (Nat × Nat)} : ∀ {k : Nat}, (∀ s, s < k → f s = none) → un f k = 0 := by
  intro k
  induction k with
  | zero => intro _; rfl
  | succ k ih =>
    intro h
    unfold un
    rw [ih (fun s hs => h s (by omega)), h k (by omega)]; rfl
theorem un_1 {f : Nat → Option (Nat × Nat)} : ∀ {k s : Nat}, s < k → f s ≠ none → 1 ≤ un f k := by
  intro k
  induction k with
  | zero => intro s h; omega
  | succ k ih =>
    intro s h hs
    unfold un
    by_cases e : s < k
    · have := ih e hs; omega
    · have : s = k := by omega
      subst this
      cases q : sa f s s with
      | true =>
        obtain ⟨o, h1, h2⟩ := sa_ex q
        have := ih h1 (by rw [h2]; exact hs)
        omega
      | false =>
        have : (f s).isSome = true := by cases z : f s with
          | none => exact absurd z hs
          | some _ => rfl
        rw [this]
        show 1 ≤ un f s + 1
        omega
theorem un_le {f : Nat → Option (Nat × Nat)} {v : Option (Nat × Nat)} : ∀ {k : Nat}, (∀ s, s < k → f s = none ∨ f s = v) → un f k ≤ 1 ∧ (un f k = 0 ∨ ∃ o, o < k ∧ f o = v) := by
  intro k
  induction k with
  | zero => intro _; exact ⟨Nat.zero_le _, Or.inl rfl⟩
  | succ k ih =>
    intro h
    obtain ⟨h1, h2⟩ := ih (fun s hs => h s (by omega))
    unfold un
    rcases h k (by omega) with e | e
    · rw [e]
      show un f k + 0 ≤ 1 ∧ (un f k + 0 = 0 ∨ _)
      refine ⟨h1, ?_⟩
      rcases h2 with q | ⟨o, q1, q2⟩
      · exact Or.inl q
      · exact Or.inr ⟨o, by omega, q2⟩
    · refine ⟨?_, Or.inr ⟨k, by omega, e⟩⟩
      rcases h2 with q | ⟨o, q1, q2⟩
      · rw [q]; split <;> omega
      · rw [sa_of q1 (by rw [q2, e])]
        simp only [Bool.not_true, Bool.and_false]
        exact h1
theorem un_2 {f : Nat → Option (Nat × Nat)} : ∀ {k s t : Nat}, s < k → t < k → f s ≠ none → f t ≠ none → f s ≠ f t → 2 ≤ un f k := by
  intro k
  induction k with
  | zero => intro s t h; omega
  | succ k ih =>
    have half : ∀ s, s < k → f s ≠ none → f k ≠ none → f s ≠ f k → 2 ≤ un f (k + 1) := by
      intro s h1 h2 h3 h4
      unfold un
      cases q : sa f k k with
      | true =>
        obtain ⟨o, q1, q2⟩ := sa_ex q
        have := ih h1 q1 h2 (by rw [q2]; exact h3) (by rw [q2]; exact h4)
        omega
      | false =>
        have : (f k).isSome = true := by cases z : f k with
          | none => exact absurd z h3
          | some _ => rfl
        have h5 := un_1 h1 h2
        rw [this]
        show 2 ≤ un f k + 1
        omega
    intro s t hs ht h1 h2 h3
    by_cases e1 : s = k
    · subst e1
      exact half t (by have : t ≠ s := fun z => h3 (by rw [z]); omega) h2 h1 (fun z => h3 z.symm)
    · by_cases e2 : t = k
      · subst e2
        exact half s (by omega) h1 h2 h3
      · have := ih (show s < k by omega) (show t < k by omega) h1 h2 h3
        unfold un
        omega
theorem un_iff {f : Nat → Option (Nat × Nat)} {k b : Nat} (hb : b < k) (h : f b ≠ none) : un f k = 1 ↔ ∀ s, s < k → f s = none ∨ f s = f b := by
  constructor
  · intro e s hs
    by_cases h1 : f s = none
    · exact Or.inl h1
    · by_cases h2 : f s = f b
      · exact Or.inr h2
      · have := un_2 hs hb h1 h h2; omega
  · intro q
    have h1 := un_le q
    have h2 := un_1 hb h
    omega
/-! The class's unlike spans of a row. -/
def qC (f : Nat → Option (Nat × Nat)) (r S : Nat) (st : ST) : Prop := ∀ s, s < S → st.2 6 (8 * r + s) = sp1 (f s) ∧ st.2 7 (8 * r + s) = sp2 (f s)
theorem X3_isRead_s {f : Nat → Option (Nat × Nat)} {r S s : Nat} {st : ST} (hf : bdF f) (hr : r < 30) (hS : S ≤ 8) (h : qC f r S st) (hs : s < S) : fX3_isRead st (nI r) (nI s) = some (if f s = none then 0 else 1) := by
  unfold fX3_isRead
  rw [X3_edge_0 _ hr (by omega), ob_s, (h s hs).1]
  have e0 := sp1_n (hf s)
  by_cases e : f s = none
  · rw [if_pos (by rw [e0]; exact e), if_pos e]
  · rw [if_neg (by rw [e0]; exact e), if_neg e]
theorem X3_isAlike_s {f : Nat → Option (Nat × Nat)} {r S s t : Nat} {st : ST} (hf : bdF f) (hr : r < 30) (hS : S ≤ 8) (h : qC f r S st) (hs : s < S) (ht : t < S) : fX3_isAlike st (nI r) (nI s) (nI t) = some (if f s = f t then 1 else 0) := by
  unfold fX3_isAlike
  rw [X3_edge_0 _ hr (by omega), ob_s, (h s hs).1, X3_edge_0 _ hr (by omega), ob_s, (h t ht).1, X3_edge_1 _ hr (by omega), ob_s, (h s hs).2, X3_edge_1 _ hr (by omega), ob_s, (h t ht).2, sp_eq (hf s) (hf t)]
  split <;> rfl
theorem X3_said_l {f : Nat → Option (Nat × Nat)} {r S s : Nat} {st : ST} (hf : bdF f) (hr : r < 30) (hS : S ≤ 8) (h : qC f r S st) (hs : s < S) : ∀ n k : Nat, s - k < n → k ≤ s → sa f s k = false → fX3_isSaidAhead_2 n st (nI r) (nI s) (nI k) = some (if sa f s s = true then 1 else 0) := by
  intro n
  induction n with
  | zero => intro k h; omega
  | succ n ih =>
    intro k hn hk h0
    unfold fX3_isSaidAhead_2
    by_cases q : k = s
    · subst q
      rw [if_pos (nI_le (Nat.le_refl _) (by omega)), h0]; rfl
    · rw [if_neg (nI_ge (by omega) (by omega)), X3_isAlike_s hf hr hS h (by omega) hs, ob_s]
      by_cases e : f k = f s
      · rw [if_pos e, if_neg (by decide), sa_of (show k < s by omega) e, if_pos rfl]
      · rw [if_neg e, if_pos rfl, bnd_s, nI_1]
        exact ih (k + 1) (by omega) (by omega) (by unfold sa; rw [h0, decide_eq_false e]; rfl)
theorem X3_unlike_l {f : Nat → Option (Nat × Nat)} {r S : Nat} {st : ST} (hf : bdF f) (hr : r < 30) (hS : S ≤ 8) (h : qC f r S st) (h3 : st.1 3 = nI S) : ∀ n k : Nat, S - k < n → k ≤ S → fX3_unlike_4 n st (nI r) (nI (un f k)) (nI k) = some (nI (un f S)) := by
  intro n
  induction n with
  | zero => intro k h; omega
  | succ n ih =>
    intro k hn hk
    unfold fX3_unlike_4 fX5_size_p
    rw [ob_s, h3]
    by_cases q : k = S
    · subst q
      rw [if_pos (nI_le (Nat.le_refl _) (by omega))]
    · have hlt : k < S := by omega
      have eu : un f (k + 1) = un f k + (if (f k).isSome && !sa f k k then 1 else 0) := rfl
      rw [if_neg (nI_ge hlt (by omega)), X3_isRead_s hf hr hS h hlt, ob_s, show fX3_isSaidAhead st (nI r) (nI k) = _ from X3_said_l hf hr hS h hlt 1000 0 (by omega) (by omega) rfl, ob_s, bnd_s, bnd_s, bnd_s, nI_1, nI_1]
      have := ih (k + 1) (by omega) (by omega)
      rw [eu] at this
      cases e : f k with
      | none =>
        rw [e] at this
        rw [if_pos rfl, if_pos rfl]
        exact this
      | some v =>
        rw [e] at this
        rw [if_neg (show ¬ some v = none from fun z => by cases z), if_neg (by decide)]
        cases e2 : sa f k k with
        | true => rw [e2] at this; rw [if_pos rfl, if_neg (by decide)]; exact this
        | false => rw [e2] at this; rw [if_pos (show (if false = true then (1 : Int32) else 0) = 0 from rfl)]; exact this
theorem X3_unlike_s {f : Nat → Option (Nat × Nat)} {r S : Nat} {st : ST} (hf : bdF f) (hr : r < 30) (hS : S ≤ 8) (h : qC f r S st) (h3 : st.1 3 = nI S) : fX3_unlike st (nI r) = some (nI (un f S)) :=
  X3_unlike_l hf hr hS h h3 1000 0 (by omega) (by omega)
/-! The model's. -/
def qM (f : Nat → Option (Nat × Nat)) (r S : Nat) (st : ST) : Prop := ∀ s, s < S → st.2 8 (8 * r + s) = sp1 (f s) ∧ st.2 9 (8 * r + s) = sp2 (f s)
theorem X9_isSame_s {f : Nat → Option (Nat × Nat)} {r S s t : Nat} {st : ST} (hf : bdF f) (hr : r < 30) (hS : S ≤ 8) (h : qM f r S st) (hs : s < S) (ht : t < S) : fX9_isSame st (nI r) (nI s) (nI t) = some (if f s = f t then 1 else 0) := by
  unfold fX9_isSame
  rw [show (8 : Int32) * nI r = nI (8 * r) from pk_mul 8 r, nI_add, nI_add]
  simp only [bnd_s]
  rw [ix_n _ (by omega) (by omega), ix_n _ (by omega) (by omega), ix_n _ (by omega) (by omega), ix_n _ (by omega) (by omega), nI_clamp (by omega), nI_clamp (by omega), (h s hs).1, (h t ht).1, (h s hs).2, (h t ht).2, sp_eq (hf s) (hf t)]
  split <;> rfl
theorem X9_new_l {f : Nat → Option (Nat × Nat)} {r S s : Nat} {x : Int32} {st : ST} {b : Bool} (hf : bdF f) (hr : r < 30) (hS : S ≤ 8) (h : qM f r S st) (hs : s < S) : ∀ n k : Nat, s - k < n → k ≤ s → fX9_readings_56 n st (nI r) x (nI s) (if (b && !sa f s k) = true then 1 else 0) (nI k) = some (if (b && !sa f s s) = true then 1 else 0) := by
  intro n
  induction n with
  | zero => intro k h; omega
  | succ n ih =>
    intro k hn hk
    unfold fX9_readings_56
    by_cases q : k = s
    · subst q
      rw [if_pos (nI_le (Nat.le_refl _) (by omega))]
    · have ih' := ih (k + 1) (by omega) (by omega)
      rw [if_neg (nI_ge (by omega) (by omega)), X9_isSame_s hf hr hS h hs (show k < S by omega), ob_s]
      simp only [bnd_s]
      rw [nI_1]
      have es : sa f s (k + 1) = (sa f s k || decide (f k = f s)) := rfl
      rw [es] at ih'
      cases e1 : b && !sa f s k with
      | false =>
        have e2 : (b && !(sa f s k || decide (f k = f s))) = false := by
          cases b with
          | false => rfl
          | true => cases z : sa f s k with
            | true => rfl
            | false => rw [z] at e1; cases e1
        rw [e2] at ih'
        rw [if_neg (show ¬ (false = true) by decide), if_pos rfl]
        exact ih'
      | true =>
        have e3 : b = true ∧ sa f s k = false := by
          cases b with
          | false => cases e1
          | true => cases z : sa f s k with
            | true => rw [z] at e1; cases e1
            | false => exact ⟨rfl, rfl⟩
        rw [e3.1, e3.2] at ih'
        rw [if_pos (show (true = true) from rfl), if_neg (show ¬ (1 : Int32) = 0 by decide)]
        by_cases e : f s = f k
        · rw [if_pos e, if_neg (show ¬ (1 : Int32) = 0 by decide)]
          rw [decide_eq_true e.symm] at ih'
          rw [e3.1]
          exact ih'
        · rw [if_neg e, if_pos rfl]
          rw [decide_eq_false (fun z => e z.symm)] at ih'
          rw [e3.1]
          exact ih'
theorem X9_readings_l {f : Nat → Option (Nat × Nat)} {r S : Nat} {st : ST} (hf : bdF f) (hr : r < 30) (hS : S ≤ 8) (h : qM f r S st) (h9 : st.1 9 = nI S) : ∀ n k : Nat, S - k < n → k ≤ S → fX9_readings_23 n st (nI r) (nI (un f k)) (nI k) = some (nI (un f S), st) := by
  intro n
  induction n with
  | zero => intro k h; omega
  | succ n ih =>
    intro k hn hk
    unfold fX9_readings_23
    rw [h9]
    by_cases q : k = S
    · subst q
      rw [if_pos (nI_le (Nat.le_refl _) (by omega))]
    · have hlt : k < S := by omega
      have eu : un f (k + 1) = un f k + (if (f k).isSome && !sa f k k then 1 else 0) := rfl
      have := ih (k + 1) (by omega) (by omega)
      rw [eu] at this
      have l1 := X9_new_l (x := nI (un f k)) (b := true) hf hr hS h hlt 1000 0 (by omega) (by omega)
      have l0 := X9_new_l (x := nI (un f k)) (b := false) hf hr hS h hlt 1000 0 (by omega) (by omega)
      have e0 := sp1_n (hf k)
      rw [if_neg (nI_ge hlt (by omega)), show (8 : Int32) * nI r = nI (8 * r) from pk_mul 8 r, nI_add, bnd_s, ix_n _ (by omega) (by omega), nI_clamp (by omega), (h k hlt).1]
      rw [show fX9_readings_56 1000 st (nI r) (nI (un f k)) (nI k) 0 0 = _ from l0, show fX9_readings_56 1000 st (nI r) (nI (un f k)) (nI k) 1 0 = _ from l1, ob_s, ob_s]
      simp only [bnd_s]
      rw [nI_1, nI_1, show nI (un f k) + 0 = nI (un f k) from nI_add _ 0]
      cases e : f k with
      | none =>
        rw [e] at this
        rw [if_pos (show sp1 none = -1 from rfl)]
        exact this
      | some v =>
        rw [e] at this e0
        rw [if_neg (fun z => by rw [e0] at z; cases z)]
        cases e2 : sa f k k with
        | true => rw [e2] at this; exact this
        | false => rw [e2] at this; exact this
