/-! Writing a day. -/
def pen (na ra : Nat) (L : List Nat) (st : ST) : Prop := st.1 na = nI L.length ∧ ∀ i, i < L.length → st.2 ra i = nI (L.getD i 0)
def fP (na ra : Nat) (st st' : ST) : Prop := (∀ k, k ≠ na → st'.1 k = st.1 k) ∧ ∀ k, k ≠ ra → st'.2 k = st.2 k
theorem fP_r (na ra : Nat) (st : ST) : fP na ra st st := ⟨fun _ _ => rfl, fun _ _ => rfl⟩
theorem fP_t {na ra : Nat} {a b c : ST} (h1 : fP na ra a b) (h2 : fP na ra b c) : fP na ra a c := ⟨fun k hk => by rw [h2.1 k hk, h1.1 k hk], fun k hk => by rw [h2.2 k hk, h1.2 k hk]⟩
theorem gD_app {L : List Nat} {b i : Nat} (h : i < L.length) : (L ++ [b]).getD i 0 = L.getD i 0 := by
  rw [List.getD_eq_getElem?_getD, List.getD_eq_getElem?_getD, List.getElem?_append_left h]
theorem gD_end {L : List Nat} {b : Nat} : (L ++ [b]).getD L.length 0 = b := by
  rw [List.getD_eq_getElem?_getD, List.getElem?_append_right (Nat.le_refl _), Nat.sub_self]; rfl
theorem pen_add {na ra : Nat} {L : List Nat} {b : Nat} {st : ST} (h : pen na ra L st) : pen na ra (L ++ [b]) (setS (setA st ra L.length (nI b)) na (nI (L.length + 1))) := by
  refine ⟨by rw [sS_s, List.length_append]; rfl, fun i hi => ?_⟩
  rw [List.length_append] at hi
  have hi' : i < L.length + 1 := hi
  show (setA st ra L.length (nI b)).2 ra i = _
  by_cases e : i = L.length
  · subst e; rw [sA_ss, gD_end]
  · rw [sA_sn _ _ _ e, gD_app (by omega)]; exact h.2 i (by omega)
/-- f writes the bytes bs behind what is written, where N is not passed -/
def Pu (na ra N : Nat) (f : ST → Option ST) (bs : List Nat) : Prop := ∀ (L : List Nat) (st : ST), pen na ra L st → L.length + bs.length ≤ N → ∃ st', f st = some st' ∧ fP na ra st st' ∧ pen na ra (L ++ bs) st'
theorem Pu_t {na ra N : Nat} {f g : ST → Option ST} {bs cs : List Nat} (hf : Pu na ra N f bs) (hg : Pu na ra N g cs) : Pu na ra N (fun st => ob (f st) g) (bs ++ cs) := by
  intro L st h hl
  rw [List.length_append] at hl
  obtain ⟨s1, a1, a2, a3⟩ := hf L st h (by omega)
  obtain ⟨s2, b1, b2, b3⟩ := hg (L ++ bs) s1 a3 (by rw [List.length_append]; omega)
  exact ⟨s2, by show ob (f st) g = _; rw [a1, ob_s, b1], fP_t a2 b2, by rw [← List.append_assoc]; exact b3⟩
theorem Pu_0 {na ra N : Nat} : Pu na ra N some [] := fun L st h _ => ⟨st, rfl, fP_r _ _ _, by rw [List.append_nil]; exact h⟩
theorem Pu_e {na ra N : Nat} {f g : ST → Option ST} {bs : List Nat} (h : Pu na ra N f bs) (e : ∀ st, g st = f st) : Pu na ra N g bs := by
  rw [show g = f from funext e]; exact h
theorem X1_putByte_s {b : Nat} : Pu 15 15 32 (fun st => fX1_putByte st (nI b)) [b] := by
  intro L st h hl
  have hl' : L.length + 1 ≤ 32 := hl
  show ∃ st', fX1_putByte st (nI b) = some st' ∧ _
  unfold fX1_putByte
  rw [h.1, if_neg (show ¬ (32 : Int32) ≤ nI L.length from nI_ge (b := 32) (by omega) (by omega)), bnd_s, ix_n _ (by omega) (by omega), nI_clamp (by omega), bnd_s, sA_1, h.1, nI_1, bnd_s, bnd_s]
  exact ⟨_, rfl, ⟨fun k hk => sS_n _ _ hk, fun k hk => by rw [sS_2, sA_n _ _ _ hk]⟩, pen_add h⟩
theorem X9_puts_s {b : Nat} (hb : b < 128) : Pu 26 13 200 (fun st => fX9_puts st (nI b)) [b] := by
  intro L st h hl
  have hl' : L.length + 1 ≤ 200 := hl
  show ∃ st', fX9_puts st (nI b) = some st' ∧ _
  unfold fX9_puts
  rw [bnd_s, h.1, bnd_s, ix_n _ (by omega) (by omega), nI_clamp (by omega), show vp_nar .byte (Int32.toInt8 (nI b)).toInt32 = nI b from sg_nar hb, bnd_s, sA_1, h.1, nI_1, bnd_s, bnd_s]
  exact ⟨_, rfl, ⟨fun k hk => sS_n _ _ hk, fun k hk => by rw [sS_2, sA_n _ _ _ hk]⟩, pen_add h⟩
def tw (v : Nat) : List Nat := [48 + v / 10, 48 + v % 10]
def sv (v : Nat) : List Nat := if v < 10 then [48 + v] else tw v
def wd (T : List Nat) (w : Nat) : List Nat := [T.getD (w * 3) 0, T.getD (w * 3 + 1) 0, T.getD (w * 3 + 2) 0]
theorem X1_putTwo_s {v : Nat} (hv : v < 100) : Pu 15 15 32 (fun st => fX1_putTwo st (nI v)) (tw v) := by
  refine Pu_e (Pu_t (X1_putByte_s (b := 48 + v / 10)) (Pu_t (X1_putByte_s (b := 48 + v % 10)) Pu_0)) (fun st => ?_)
  show fX1_putTwo st (nI v) = _
  unfold fX1_putTwo
  rw [show (48 : Int32) = nI 48 from rfl, show (10 : Int32) = nI 10 from rfl, pk_rem (by omega) (by decide) (by decide), pk_div (by omega) (by decide) (by decide), nI_add, nI_add]
theorem X1_putShort_s {v : Nat} (hv : v < 100) : Pu 15 15 32 (fun st => fX1_putShort st (nI v)) (sv v) := by
  unfold sv
  by_cases q : v < 10
  · rw [if_pos q]
    refine Pu_e (Pu_t (X1_putByte_s (b := 48 + v)) Pu_0) (fun st => ?_)
    unfold fX1_putShort
    rw [if_pos (show nI v < 10 from nI_lt (b := 10) q (by omega)), show (48 : Int32) = nI 48 from rfl, nI_add]
  · rw [if_neg q]
    refine Pu_e (bs := tw v) (f := fun st => ob (fX1_putTwo st (nI v)) some) ?_ (fun st => ?_)
    · have := Pu_t (X1_putTwo_s hv) (Pu_0 (na := 15) (ra := 15) (N := 32))
      rw [List.append_nil] at this
      exact this
    · unfold fX1_putShort
      rw [if_neg (show ¬ nI v < 10 from nI_nlt (b := 10) (by omega) (by omega))]
theorem X1_word_M {w : Nat} (hw : w < 12) : Pu 15 15 32 (fun st => fX1_putWord_M st (nI w)) (wd nMO w) := by
  have step : ∀ (n i : Nat) (bs : List Nat), i < 3 → Pu 15 15 32 (fun st => fX1_putWord_M_7 n st (nI (w * 3)) (nI (w * 3 + i + 1))) bs → Pu 15 15 32 (fun st => fX1_putWord_M_7 (n + 1) st (nI (w * 3)) (nI (w * 3 + i))) (nMO.getD (w * 3 + i) 0 :: bs) := by
    intro n i bs hi h
    refine Pu_e (Pu_t (X1_putByte_s (b := nMO.getD (w * 3 + i) 0)) h) (fun st => ?_)
    show fX1_putWord_M_7 (n + 1) st (nI (w * 3)) (nI (w * 3 + i)) = _
    rw [fX1_putWord_M_7]
    rw [show (3 : Int32) = nI 3 from rfl, nI_add, if_neg (nI_ge (by omega) (by omega)), if_neg (nI_pos (by omega)), if_neg (show ¬ (36 : Int32) ≤ nI (w * 3 + i) from nI_ge (b := 36) (by omega) (by omega)), ix_n _ (by omega) (by omega), nI_clamp (by omega), (tMO_n (w * 3 + i) (by omega)).1]
    simp only [bnd_s, nI_1]
  have last : ∀ n : Nat, Pu 15 15 32 (fun st => fX1_putWord_M_7 (n + 1) st (nI (w * 3)) (nI (w * 3 + 2 + 1))) [] := by
    intro n
    refine Pu_e Pu_0 (fun st => ?_)
    show fX1_putWord_M_7 (n + 1) st (nI (w * 3)) (nI (w * 3 + 2 + 1)) = _
    rw [fX1_putWord_M_7]
    rw [show (3 : Int32) = nI 3 from rfl, nI_add, if_pos (nI_le (by omega) (by omega))]
  refine Pu_e (step 999 0 _ (by omega) (step 998 1 _ (by omega) (step 997 2 _ (by omega) (last 996)))) (fun st => ?_)
  unfold fX1_putWord_M
  rw [show (3 : Int32) = nI 3 from rfl, pk_mul, bnd_s]; rfl
theorem X1_word_W {w : Nat} (hw : w < 7) : Pu 15 15 32 (fun st => fX1_putWord_W st (nI w)) (wd nWD w) := by
  have step : ∀ (n i : Nat) (bs : List Nat), i < 3 → Pu 15 15 32 (fun st => fX1_putWord_W_7 n st (nI (w * 3)) (nI (w * 3 + i + 1))) bs → Pu 15 15 32 (fun st => fX1_putWord_W_7 (n + 1) st (nI (w * 3)) (nI (w * 3 + i))) (nWD.getD (w * 3 + i) 0 :: bs) := by
    intro n i bs hi h
    refine Pu_e (Pu_t (X1_putByte_s (b := nWD.getD (w * 3 + i) 0)) h) (fun st => ?_)
    show fX1_putWord_W_7 (n + 1) st (nI (w * 3)) (nI (w * 3 + i)) = _
    rw [fX1_putWord_W_7]
    rw [show (3 : Int32) = nI 3 from rfl, nI_add, if_neg (nI_ge (by omega) (by omega)), if_neg (nI_pos (by omega)), if_neg (show ¬ (21 : Int32) ≤ nI (w * 3 + i) from nI_ge (b := 21) (by omega) (by omega)), ix_n _ (by omega) (by omega), nI_clamp (by omega), (tWD_n (w * 3 + i) (by omega)).1]
    simp only [bnd_s, nI_1]
  have last : ∀ n : Nat, Pu 15 15 32 (fun st => fX1_putWord_W_7 (n + 1) st (nI (w * 3)) (nI (w * 3 + 2 + 1))) [] := by
    intro n
    refine Pu_e Pu_0 (fun st => ?_)
    show fX1_putWord_W_7 (n + 1) st (nI (w * 3)) (nI (w * 3 + 2 + 1)) = _
    rw [fX1_putWord_W_7]
    rw [show (3 : Int32) = nI 3 from rfl, nI_add, if_pos (nI_le (by omega) (by omega))]
  refine Pu_e (step 999 0 _ (by omega) (step 998 1 _ (by omega) (step 997 2 _ (by omega) (last 996)))) (fun st => ?_)
  unfold fX1_putWord_W
  rw [show (3 : Int32) = nI 3 from rfl, pk_mul, bnd_s]; rfl
/-- what a part of a pattern writes of a day -/
def pb (n d m y p : Nat) : List Nat := if p = 68 then sv d else if p = 77 then sv m else if p = 78 then wd nMO (m - 1) else if p = 87 then wd nWD (n % 7) else if p = 89 then tw (y / 100) ++ tw (y % 100) else if p = 121 then tw (y % 100) else [p]
theorem eqI {a b : Nat} (ha : a < 2 ^ 31) (hb : b < 2 ^ 31) {β : Type} (x y : β) : (if nI a = nI b then x else y) = if a = b then x else y := by
  by_cases e : a = b
  · rw [if_pos e, if_pos (by rw [e])]
  · rw [if_neg e, if_neg (fun z => e ((nI_eq ha hb).mp z))]
theorem Pu_x {na ra N : Nat} {f : ST → Option ST} {bs : List Nat} (h : Pu na ra N f bs) : Pu na ra N (fun st => ob (f st) some) bs := by
  have := Pu_t h (Pu_0 (na := na) (ra := ra) (N := N))
  rw [List.append_nil] at this
  exact this
theorem X1_part_s {n d m y p : Nat} (h : dec n d m y) (hp : p < 128) : Pu 15 15 32 (fun st => fX1_putPart st (nI p) (nI n)) (pb n d m y p) := by
  have hi := dec_in h
  obtain ⟨h0, h1, h2, h3, h4, h5, h6⟩ := h
  have h : dec n d m y := ⟨h0, h1, h2, h3, h4, h5, h6⟩
  unfold pb
  have eq : ∀ st, fX1_putPart st (nI p) (nI n) = if p = 68 then ob (fX1_putShort st (nI d)) some else if p = 77 then ob (fX1_putShort st (nI m)) some else if p = 78 then ob (fX1_putWord_M st (nI (m - 1))) some else if p = 87 then ob (fX1_putWord_W st (nI (n % 7))) some else if p = 89 then ob (fX1_putTwo st (nI (y / 100))) (fun o => ob (fX1_putTwo o (nI (y % 100))) some) else if p = 121 then ob (fX1_putTwo st (nI (y % 100))) some else ob (fX1_putByte st (nI p)) some := by
    intro st
    unfold fX1_putPart
    rw [X0_dayOfMonth_s h, X0_monthOf_s h, X0_weekdayOf_s (by omega), X0_yearOf_s h]
    simp only [ob_s]
    rw [show (100 : Int32) = nI 100 from rfl, pk_rem (by omega) (by decide) (by decide), pk_div (by omega) (by decide) (by decide), show nI m - 1 = nI (m - 1) from pk_sub (a := m) (b := 1) (by omega)]
    rw [show (68 : Int32) = nI 68 from rfl, show (77 : Int32) = nI 77 from rfl, show (78 : Int32) = nI 78 from rfl, show (87 : Int32) = nI 87 from rfl, show (89 : Int32) = nI 89 from rfl, show (121 : Int32) = nI 121 from rfl]
    rw [eqI (by omega) (by omega), eqI (by omega) (by omega), eqI (by omega) (by omega), eqI (by omega) (by omega), eqI (by omega) (by omega), eqI (by omega) (by omega)]
  rw [show (fun st => fX1_putPart st (nI p) (nI n)) = _ from funext eq]
  have hy : y / 100 < 100 := by omega
  by_cases a1 : p = 68
  · simp only [if_pos a1]; exact Pu_x (X1_putShort_s (by omega))
  · simp only [if_neg a1]
    by_cases a2 : p = 77
    · simp only [if_pos a2]; exact Pu_x (X1_putShort_s (by omega))
    · simp only [if_neg a2]
      by_cases a3 : p = 78
      · simp only [if_pos a3]; exact Pu_x (X1_word_M (by omega))
      · simp only [if_neg a3]
        by_cases a4 : p = 87
        · simp only [if_pos a4]; exact Pu_x (X1_word_W (by omega))
        · simp only [if_neg a4]
          by_cases a5 : p = 89
          · simp only [if_pos a5]; exact Pu_t (X1_putTwo_s hy) (Pu_x (X1_putTwo_s (by omega)))
          · simp only [if_neg a5]
            by_cases a6 : p = 121
            · simp only [if_pos a6]; exact Pu_x (X1_putTwo_s (by omega))
            · simp only [if_neg a6]; exact Pu_x X1_putByte_s
/-- what the first k parts of a pattern write -/
def wrk (n d m y : Nat) (p : List Nat) : Nat → List Nat
  | 0 => []
  | k + 1 => wrk n d m y p k ++ pb n d m y (p.getD k 0)
def wt (p : Nat) : Nat := if p = 68 then 2 else if p = 77 then 2 else if p = 78 then 3 else if p = 87 then 3 else if p = 89 then 4 else if p = 121 then 2 else 1
def wl : List Nat → Nat
  | [] => 0
  | p :: ps => wt p + wl ps
theorem pb_len (n d m y p : Nat) : (pb n d m y p).length ≤ wt p := by
  have hs : ∀ v, (sv v).length ≤ 2 := fun v => by unfold sv; split; exact (show 1 ≤ 2 by decide); exact (show 2 ≤ 2 by decide)
  unfold pb wt
  repeat' split
  all_goals first | exact hs _ | exact Nat.le_refl _ | exact (by decide)
theorem wl_cnt : ∀ t : List Nat, wl t ≤ t.length + cnt 68 t + cnt 77 t + 2 * cnt 78 t + 2 * cnt 87 t + 3 * cnt 89 t + cnt 121 t := by
  intro t
  induction t with
  | nil => exact Nat.le_refl _
  | cons b t ih =>
    unfold wl wt cnt
    rw [List.length_cons]
    by_cases a1 : b = 68
    · subst a1; simp; omega
    · by_cases a2 : b = 77
      · subst a2; simp; omega
      · by_cases a3 : b = 78
        · subst a3; simp; omega
        · by_cases a4 : b = 87
          · subst a4; simp; omega
          · by_cases a5 : b = 89
            · subst a5; simp; omega
            · by_cases a6 : b = 121
              · subst a6; simp; omega
              · simp [a1, a2, a3, a4, a5, a6]; omega
theorem wl_pat {t : List Nat} (h : isPat t) (hl : t.length ≤ 24) : wl t ≤ 32 := by
  have := wl_cnt t
  obtain ⟨-, h1, h2, h3, h4⟩ := h
  omega
theorem wl_drop : ∀ {t : List Nat} {k : Nat}, k < t.length → wl (t.drop k) = wt (t.getD k 0) + wl (t.drop (k + 1)) := by
  intro t
  induction t with
  | nil => intro k h; cases h
  | cons b t ih =>
    intro k h
    cases k with
    | zero => rfl
    | succ k => exact ih (Nat.lt_of_succ_lt_succ h)
theorem wrk_len {n d m y : Nat} {p : List Nat} : ∀ {k : Nat}, k ≤ p.length → (wrk n d m y p k).length + wl (p.drop k) ≤ wl p := by
  intro k
  induction k with
  | zero => intro _; exact Nat.le_of_eq (Nat.zero_add _)
  | succ k ih =>
    intro h
    have := ih (by omega)
    have h2 := wl_drop (show k < p.length by omega)
    have h3 := pb_len n d m y (p.getD k 0)
    unfold wrk
    rw [List.length_append]
    omega
