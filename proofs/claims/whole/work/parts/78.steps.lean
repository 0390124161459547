/-! steps: how many, and that they tell one value -/
section X4
theorem sq_1 {r : PR} {k : Nat → PR} : (sq r k).1 = true ↔ r.1 = true ∧ (k r.2.2).1 = true := by
  unfold sq
  by_cases h : r.1 = true
  · rw [if_pos h]; exact ⟨fun q => ⟨h, q⟩, fun q => q.2⟩
  · rw [if_neg h]; exact ⟨fun q => absurd q h, fun q => absurd q.1 h⟩
theorem sq_t {r : PR} {k : Nat → PR} (h : r.1 = true) : sq r k = ((k r.2.2).1, (r.2.1 ++ (k r.2.2).2.1, (k r.2.2).2.2)) := by unfold sq; rw [if_pos h]
theorem sq_f {r : PR} {k : Nat → PR} (h : r.1 = false) : sq r k = r := by unfold sq; rw [h]; rfl
def Gd (T : Nat → Int32) (i : Nat) (r : PR) : Prop := r.1 = true → (i ≤ r.2.2 ∧ r.2.1.length ≤ r.2.2 - i) ∧ ∀ j, i ≤ j → j < r.2.2 → T j ≠ 0
theorem gd_sq {T : Nat → Int32} {i : Nat} {r : PR} {k : Nat → PR} (h : Gd T i r) (hk : ∀ j, Gd T j (k j)) : Gd T i (sq r k) := by
  intro q
  have q1 := sq_1.mp q
  obtain ⟨⟨a1, a2⟩, a3⟩ := h q1.1
  obtain ⟨⟨b1, b2⟩, b3⟩ := hk _ q1.2
  rw [sq_t q1.1]
  refine ⟨⟨by show i ≤ (k r.2.2).2.2; omega, ?_⟩, fun j h1 h2 => ?_⟩
  · show (r.2.1 ++ (k r.2.2).2.1).length ≤ (k r.2.2).2.2 - i
    rw [List.length_append]
    omega
  · by_cases hj : j < r.2.2
    · exact a3 j h1 hj
    · exact b3 j (by omega) h2
theorem gd_op {T : Nat → Int32} {i : Nat} {x : Int32} {r : PR} {k : Nat → PR} (h0 : T i ≠ 0) (h : Gd T (i + 1) r) (hk : ∀ j, Gd T j (k j)) : Gd T i (sq r (em x k)) := by
  intro q
  have q1 := sq_1.mp q
  obtain ⟨⟨a1, a2⟩, a3⟩ := h q1.1
  obtain ⟨⟨b1, b2⟩, b3⟩ := hk _ q1.2
  rw [sq_t q1.1]
  refine ⟨⟨by show i ≤ (k r.2.2).2.2; omega, ?_⟩, fun j h1 h2 => ?_⟩
  · show (r.2.1 ++ (x :: (k r.2.2).2.1)).length ≤ (k r.2.2).2.2 - i
    rw [List.length_append, List.length_cons]
    omega
  · by_cases hj : j < r.2.2
    · by_cases e : j = i
      · rw [e]; exact h0
      · exact a3 j (by omega) hj
    · exact b3 j (by omega) h2
theorem gd_ok {T : Nat → Int32} {i : Nat} : Gd T i (oK i) := fun _ => ⟨⟨Nat.le_refl _, Nat.zero_le _⟩, fun j h1 h2 => absurd h2 (by show ¬ j < i; omega)⟩
theorem gd_no {T : Nat → Int32} {i : Nat} : Gd T i (nO i) := fun q => absurd q (by show ¬ (false = true); decide)
theorem ne0 {x y : Int32} (h : x = y) (hy : y ≠ 0) : x ≠ 0 := by rw [h]; exact hy
theorem prs_gd {T M : Nat → Int32} : ∀ f lv o i, Gd T i (prs T M f lv o i)
  | 0, _, _, _ => gd_no
  | f + 1, 0, o, i => gd_sq (prs_gd f 1 o i) (fun j => prs_gd f 7 o j)
  | f + 1, 1, o, i => gd_sq (prs_gd f 2 o i) (fun j => prs_gd f 8 o j)
  | f + 1, 2, o, i => by
    show Gd T i (if T i = 1011 then (if 5 ≤ o then nO i else sq (prs T M f 2 (o + 1) (i + 1)) (em (-11) oK)) else prs T M f 3 o i)
    split
    · rename_i h
      split
      · exact gd_no
      · exact gd_op (ne0 h (by decide)) (prs_gd f 2 (o + 1) (i + 1)) (fun j => gd_ok)
    · exact prs_gd f 3 o i
  | f + 1, 3, o, i => by
    refine gd_sq (prs_gd f 4 o i) (fun j => ?_)
    show Gd T j (if T j = 60 then sq (prs T M f 4 o (j + 1)) (em (-23) oK) else if T j = 61 then sq (prs T M f 4 o (j + 1)) (em (-24) oK) else oK j)
    split
    · rename_i h
      exact gd_op (ne0 h (by decide)) (prs_gd f 4 o (j + 1)) (fun j => gd_ok)
    · split
      · rename_i h
        exact gd_op (ne0 h (by decide)) (prs_gd f 4 o (j + 1)) (fun j => gd_ok)
      · exact gd_ok
  | f + 1, 4, o, i => gd_sq (prs_gd f 5 o i) (fun j => prs_gd f 9 o j)
  | f + 1, 5, o, i => gd_sq (prs_gd f 6 o i) (fun j => prs_gd f 10 o j)
  | f + 1, 6, o, i => by
    show Gd T i (if T i = 2 ∨ T i = 3 then (true, ([M i], i + 1)) else if T i = 40 then (if 5 ≤ o then nO i else sq (prs T M f 0 (o + 1) (i + 1)) (fun j => if T j = 41 then oK (j + 1) else nO j)) else if T i = 45 then (if 5 ≤ o then nO i else sq (prs T M f 6 (o + 1) (i + 1)) (em (-10) oK)) else nO i)
    split
    · rename_i h
      intro _
      refine ⟨⟨by show i ≤ i + 1; omega, by show 1 ≤ i + 1 - i; omega⟩, fun j h1 h2 => ?_⟩
      have : j = i := by have h2 : j < i + 1 := h2; omega
      rw [this]
      rcases h with h | h
      · exact ne0 h (by decide)
      · exact ne0 h (by decide)
    · split
      · rename_i h
        split
        · exact gd_no
        · intro q
          have q1 := sq_1.mp q
          obtain ⟨⟨a1, a2⟩, a3⟩ := prs_gd f 0 (o + 1) (i + 1) q1.1
          rw [sq_t q1.1]
          have q2 := q1.2
          by_cases h41 : T (prs T M f 0 (o + 1) (i + 1)).2.2 = 41
          · simp only [if_pos h41]
            refine ⟨⟨by show i ≤ _ + 1; omega, ?_⟩, fun j h1 h2 => ?_⟩
            · show ((prs T M f 0 (o + 1) (i + 1)).2.1 ++ []).length ≤ _ + 1 - i
              rw [List.append_nil]
              omega
            · have h2 : j < (prs T M f 0 (o + 1) (i + 1)).2.2 + 1 := h2
              by_cases e : j = i
              · rw [e]; exact ne0 h (by decide)
              · by_cases e2 : j = (prs T M f 0 (o + 1) (i + 1)).2.2
                · rw [e2]; exact ne0 h41 (by decide)
                · exact a3 j (by omega) (by omega)
          · simp only [if_neg h41] at q2
            exact absurd q2 (by show ¬ (false = true); decide)
      · split
        · rename_i h
          split
          · exact gd_no
          · exact gd_op (ne0 h (by decide)) (prs_gd f 6 (o + 1) (i + 1)) (fun j => gd_ok)
        · exact gd_no
  | f + 1, 7, o, i => by
    show Gd T i (if T i = 1009 then sq (prs T M f 1 o (i + 1)) (em (-26) (prs T M f 7 o)) else oK i)
    split
    · rename_i h
      exact gd_op (ne0 h (by decide)) (prs_gd f 1 o (i + 1)) (fun j => prs_gd f 7 o j)
    · exact gd_ok
  | f + 1, 8, o, i => by
    show Gd T i (if T i = 1010 then sq (prs T M f 2 o (i + 1)) (em (-25) (prs T M f 8 o)) else oK i)
    split
    · rename_i h
      exact gd_op (ne0 h (by decide)) (prs_gd f 2 o (i + 1)) (fun j => prs_gd f 8 o j)
    · exact gd_ok
  | f + 1, 9, o, i => by
    show Gd T i (if T i = 43 then sq (prs T M f 5 o (i + 1)) (em (-20) (prs T M f 9 o)) else if T i = 45 then sq (prs T M f 5 o (i + 1)) (em (-21) (prs T M f 9 o)) else oK i)
    split
    · rename_i h
      exact gd_op (ne0 h (by decide)) (prs_gd f 5 o (i + 1)) (fun j => prs_gd f 9 o j)
    · split
      · rename_i h
        exact gd_op (ne0 h (by decide)) (prs_gd f 5 o (i + 1)) (fun j => prs_gd f 9 o j)
      · exact gd_ok
  | f + 1, lv + 10, o, i => by
    show Gd T i (if T i = 42 then sq (prs T M f 6 o (i + 1)) (em (-22) (prs T M f 10 o)) else oK i)
    split
    · rename_i h
      exact gd_op (ne0 h (by decide)) (prs_gd f 6 o (i + 1)) (fun j => prs_gd f 10 o j)
    · exact gd_ok
/-- what is read takes a token at least -/
def Gs (i : Nat) (r : PR) : Prop := r.1 = true → i < r.2.2
theorem gs_sq {T : Nat → Int32} {i : Nat} {r : PR} {k : Nat → PR} (h : Gs i r) (hk : ∀ j, Gd T j (k j)) : Gs i (sq r k) := by
  intro q
  have q1 := sq_1.mp q
  have a := h q1.1
  have b := (hk _ q1.2).1.1
  rw [sq_t q1.1]
  show i < (k r.2.2).2.2
  omega
theorem gs_op {T : Nat → Int32} {i : Nat} {r : PR} {k : Nat → PR} (h : Gd T (i + 1) r) (hk : ∀ j, (k j).1 = true → j ≤ (k j).2.2) : Gs i (sq r k) := by
  intro q
  have q1 := sq_1.mp q
  have a := (h q1.1).1.1
  have b := hk _ q1.2
  rw [sq_t q1.1]
  show i < (k r.2.2).2.2
  omega
theorem gs_no {i : Nat} : Gs i (nO i) := fun q => absurd q (by show ¬ (false = true); decide)
theorem prs_gs {T M : Nat → Int32} : ∀ f lv o i, lv < 7 → Gs i (prs T M f lv o i)
  | 0, _, _, _, _ => gs_no
  | f + 1, 0, o, i, _ => gs_sq (prs_gs f 1 o i (by decide)) (fun j => prs_gd f 7 o j)
  | f + 1, 1, o, i, _ => gs_sq (prs_gs f 2 o i (by decide)) (fun j => prs_gd f 8 o j)
  | f + 1, 2, o, i, _ => by
    show Gs i (if T i = 1011 then (if 5 ≤ o then nO i else sq (prs T M f 2 (o + 1) (i + 1)) (em (-11) oK)) else prs T M f 3 o i)
    split
    · split
      · exact gs_no
      · exact gs_op (prs_gd f 2 (o + 1) (i + 1)) (fun j _ => Nat.le_refl _)
    · exact prs_gs f 3 o i (by decide)
  | f + 1, 3, o, i, _ => by
    refine gs_sq (T := T) (prs_gs f 4 o i (by decide)) (fun j => ?_)
    show Gd T j (if T j = 60 then sq (prs T M f 4 o (j + 1)) (em (-23) oK) else if T j = 61 then sq (prs T M f 4 o (j + 1)) (em (-24) oK) else oK j)
    split
    · rename_i h
      exact gd_op (ne0 h (by decide)) (prs_gd f 4 o (j + 1)) (fun j => gd_ok)
    · split
      · rename_i h
        exact gd_op (ne0 h (by decide)) (prs_gd f 4 o (j + 1)) (fun j => gd_ok)
      · exact gd_ok
  | f + 1, 4, o, i, _ => gs_sq (prs_gs f 5 o i (by decide)) (fun j => prs_gd f 9 o j)
  | f + 1, 5, o, i, _ => gs_sq (prs_gs f 6 o i (by decide)) (fun j => prs_gd f 10 o j)
  | f + 1, 6, o, i, _ => by
    show Gs i (if T i = 2 ∨ T i = 3 then (true, ([M i], i + 1)) else if T i = 40 then (if 5 ≤ o then nO i else sq (prs T M f 0 (o + 1) (i + 1)) (fun j => if T j = 41 then oK (j + 1) else nO j)) else if T i = 45 then (if 5 ≤ o then nO i else sq (prs T M f 6 (o + 1) (i + 1)) (em (-10) oK)) else nO i)
    split
    · intro _
      show i < i + 1
      omega
    · split
      · split
        · exact gs_no
        · refine gs_op (prs_gd f 0 (o + 1) (i + 1)) (fun j q => ?_)
          by_cases h41 : T j = 41
          · simp only [if_pos h41]
            show j ≤ j + 1
            omega
          · simp only [if_neg h41]
            exact Nat.le_refl _
      · split
        · split
          · exact gs_no
          · exact gs_op (prs_gd f 6 (o + 1) (i + 1)) (fun j _ => Nat.le_refl _)
        · exact gs_no
  | f + 1, lv + 7, o, i, h => absurd h (by omega)
/-! one value -/
theorem rpn_app {E : Nat → Int32} : ∀ (a b st : List Int32), rpn E (a ++ b) st = (match rpn E a st with | some st' => rpn E b st' | none => none)
  | [], _, _ => rfl
  | c :: cs, b, st => by
    show (match stp E c st with | some st => rpn E (cs ++ b) st | none => none) = (match (match stp E c st with | some st => rpn E cs st | none => none) with | some st' => rpn E b st' | none => none)
    cases stp E c st with
    | none => rfl
    | some st' => exact rpn_app cs b st'
def Va (E : Nat → Int32) (L : Nat) (s : List Int32) (v : Int32) : Prop := ∀ st : List Int32, st.length ≤ L → rpn E s st = some (v :: st)
def Vl (E : Nat → Int32) (L : Nat) (s : List Int32) (v v' : Int32) : Prop := ∀ st : List Int32, st.length ≤ L → rpn E s (v :: st) = some (v' :: st)
theorem rpn_bin {E : Nat → Int32} {c a b : Int32} {cs st : List Int32} (h : c ≤ -10) (h2 : ¬ -11 ≤ c) : rpn E (c :: cs) (b :: a :: st) = rpn E cs (jnd c a b :: st) := by
  show (match stp E c (b :: a :: st) with | some st => rpn E cs st | none => none) = _
  unfold stp
  rw [if_pos h, if_neg h2]
theorem rpn_un {E : Nat → Int32} {c a : Int32} {cs st : List Int32} (h : c ≤ -10) (h2 : -11 ≤ c) : rpn E (c :: cs) (a :: st) = rpn E cs (ngt c a :: st) := by
  show (match stp E c (a :: st) with | some st => rpn E cs st | none => none) = _
  unfold stp
  rw [if_pos h, if_pos h2]
theorem va_sq {E : Nat → Int32} {L : Nat} {a b : List Int32} {v v' : Int32} (h : Va E L a v) (h' : Vl E L b v v') : Va E L (a ++ b) v' := by
  intro st hst
  rw [rpn_app, h st hst]
  exact h' st hst
theorem vl_op {E : Nat → Int32} {L : Nat} {a b : List Int32} {c v w v' : Int32} (hc : c ≤ -10) (hc2 : ¬ -11 ≤ c) (h : Va E (L + 1) a w) (h' : Vl E L b (jnd c v w) v') : Vl E L (a ++ c :: b) v v' := by
  intro st hst
  rw [rpn_app, h (v :: st) (by simp only [List.length_cons]; omega)]
  show rpn E (c :: b) (w :: v :: st) = _
  rw [rpn_bin hc hc2]
  exact h' st hst
theorem va_un {E : Nat → Int32} {L : Nat} {a : List Int32} {c v : Int32} (hc : c ≤ -10) (hc2 : -11 ≤ c) (h : Va E L a v) : Va E L (a ++ [c]) (ngt c v) := by
  intro st hst
  rw [rpn_app, h st hst]
  show rpn E [c] (v :: st) = _
  rw [rpn_un hc hc2]
  rfl
theorem vl_nil {E : Nat → Int32} {L : Nat} {v : Int32} : Vl E L [] v v := fun st _ => rfl
theorem va_push {E : Nat → Int32} {L : Nat} {m : Int32} (hm : ¬ m ≤ -10) (hL : L < 48) : Va E L [m] (if 0 ≤ m then m else nmd E m) := by
  intro st hst
  show (match stp E m st with | some st => rpn E [] st | none => none) = _
  unfold stp
  rw [if_neg hm, if_pos (by omega)]
  rfl
theorem va_le {E : Nat → Int32} {L L' : Nat} {a : List Int32} {v : Int32} (h : Va E L a v) (hL : L' ≤ L) : Va E L' a v := fun st hst => h st (by omega)
/-- how many may wait ahead -/
def bdL (lv o : Nat) : Nat := 5 * o + (if lv = 0 then 0 else if lv = 1 then 1 else if lv = 2 then 2 else if lv = 3 then 2 else if lv = 4 then 3 else if lv = 5 then 4 else if lv = 6 then 5 else if lv = 7 then 0 else if lv = 8 then 1 else if lv = 9 then 3 else 4)
def Mok (T M : Nat → Int32) : Prop := ∀ i, (T i = 2 ∨ T i = 3) → ¬ M i ≤ -10
end X4
