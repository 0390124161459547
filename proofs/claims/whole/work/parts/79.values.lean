/-! what stands so tells one value -/
section X5
theorem va_of2 {E : Nat → Int32} {r : PR} {k : Nat → PR} {L L1 L2 : Nat} (h : (sq r k).1 = true) (h1 : r.1 = true → ∃ v, Va E L1 r.2.1 v) (h2 : ∀ j, (k j).1 = true → ∀ v, ∃ v', Vl E L2 (k j).2.1 v v') (hL1 : L ≤ L1) (hL2 : L ≤ L2) : ∃ v, Va E L (sq r k).2.1 v := by
  have q := sq_1.mp h
  rw [sq_t q.1]
  obtain ⟨v, hv⟩ := h1 q.1
  obtain ⟨v', hv'⟩ := h2 _ q.2 v
  exact ⟨v', va_sq (va_le hv hL1) (fun st hst => hv' st (by omega))⟩
theorem vl_of2 {E : Nat → Int32} {r : PR} {k : Nat → PR} {L L1 L2 : Nat} {c : Int32} (hc : c ≤ -10) (hc2 : ¬ -11 ≤ c) (h : (sq r (em c k)).1 = true) (h1 : r.1 = true → ∃ v, Va E L1 r.2.1 v) (h2 : ∀ j, (k j).1 = true → ∀ v, ∃ v', Vl E L2 (k j).2.1 v v') (hL1 : L + 1 ≤ L1) (hL2 : L ≤ L2) : ∀ v, ∃ v', Vl E L (sq r (em c k)).2.1 v v' := by
  intro v
  have q := sq_1.mp h
  rw [sq_t q.1]
  obtain ⟨w, hw⟩ := h1 q.1
  obtain ⟨v', hv'⟩ := h2 _ q.2 (jnd c v w)
  exact ⟨v', vl_op hc hc2 (va_le hw hL1) (fun st hst => hv' st (by omega))⟩
theorem va_of1 {E : Nat → Int32} {r : PR} {L L1 : Nat} {c : Int32} (hc : c ≤ -10) (hc2 : -11 ≤ c) (h : (sq r (em c oK)).1 = true) (h1 : r.1 = true → ∃ v, Va E L1 r.2.1 v) (hL1 : L ≤ L1) : ∃ v, Va E L (sq r (em c oK)).2.1 v := by
  have q := sq_1.mp h
  rw [sq_t q.1]
  obtain ⟨v, hv⟩ := h1 q.1
  exact ⟨ngt c v, va_un hc hc2 (va_le hv hL1)⟩
theorem vl_ok {E : Nat → Int32} {L j : Nat} : ∀ v, ∃ v', Vl E L (oK j).2.1 v v' := fun v => ⟨v, vl_nil⟩
theorem nO_f {i : Nat} {p : Prop} (h : (nO i).1 = true) : p := absurd h (by show ¬ (false = true); decide)
theorem prs_va {T M : Nat → Int32} (hM : Mok T M) {E : Nat → Int32} : ∀ f lv o i, o ≤ 5 → (prs T M f lv o i).1 = true → (lv < 7 → ∃ v, Va E (bdL lv o) (prs T M f lv o i).2.1 v) ∧ (7 ≤ lv → ∀ v, ∃ v', Vl E (bdL lv o) (prs T M f lv o i).2.1 v v')
  | 0, _, _, _, _, h => nO_f h
  | f + 1, 0, o, i, ho, h => ⟨fun _ => va_of2 h (fun q => (prs_va hM f 1 o i ho q).1 (by decide)) (fun j q => (prs_va hM f 7 o j ho q).2 (by decide)) (by unfold bdL; simp) (by unfold bdL; simp), fun q => absurd q (by decide)⟩
  | f + 1, 1, o, i, ho, h => ⟨fun _ => va_of2 h (fun q => (prs_va hM f 2 o i ho q).1 (by decide)) (fun j q => (prs_va hM f 8 o j ho q).2 (by decide)) (by unfold bdL; simp) (by unfold bdL; simp), fun q => absurd q (by decide)⟩
  | f + 1, 2, o, i, ho, h => by
    refine ⟨fun _ => ?_, fun q => absurd q (by decide)⟩
    have e : prs T M (f + 1) 2 o i = (if T i = 1011 then (if 5 ≤ o then nO i else sq (prs T M f 2 (o + 1) (i + 1)) (em (-11) oK)) else prs T M f 3 o i) := rfl
    rw [e] at h ⊢
    by_cases h0 : T i = 1011
    · rw [if_pos h0] at h ⊢
      by_cases h1 : 5 ≤ o
      · rw [if_pos h1] at h
        exact nO_f h
      · rw [if_neg h1] at h ⊢
        exact va_of1 (by decide) (by decide) h (fun q => (prs_va hM f 2 (o + 1) (i + 1) (by omega) q).1 (by decide)) (by unfold bdL; simp; omega)
    · rw [if_neg h0] at h ⊢
      obtain ⟨v, hv⟩ := (prs_va hM f 3 o i ho h).1 (by decide)
      exact ⟨v, va_le hv (by unfold bdL; simp)⟩
  | f + 1, 3, o, i, ho, h => by
    refine ⟨fun _ => ?_, fun q => absurd q (by decide)⟩
    refine va_of2 (L1 := bdL 4 o) (L2 := bdL 3 o) h (fun q => (prs_va hM f 4 o i ho q).1 (by decide)) (fun j q => ?_) (by unfold bdL; simp) (Nat.le_refl _)
    by_cases h0 : T j = 60
    · rw [if_pos h0] at q ⊢
      exact vl_of2 (by decide) (by decide) q (fun q => (prs_va hM f 4 o (j + 1) ho q).1 (by decide)) (fun j _ => vl_ok (L := bdL 3 o)) (by unfold bdL; simp) (Nat.le_refl _)
    · rw [if_neg h0] at q ⊢
      by_cases h1 : T j = 61
      · rw [if_pos h1] at q ⊢
        exact vl_of2 (by decide) (by decide) q (fun q => (prs_va hM f 4 o (j + 1) ho q).1 (by decide)) (fun j _ => vl_ok (L := bdL 3 o)) (by unfold bdL; simp) (Nat.le_refl _)
      · rw [if_neg h1]
        exact vl_ok
  | f + 1, 4, o, i, ho, h => ⟨fun _ => va_of2 h (fun q => (prs_va hM f 5 o i ho q).1 (by decide)) (fun j q => (prs_va hM f 9 o j ho q).2 (by decide)) (by unfold bdL; simp) (by unfold bdL; simp), fun q => absurd q (by decide)⟩
  | f + 1, 5, o, i, ho, h => ⟨fun _ => va_of2 h (fun q => (prs_va hM f 6 o i ho q).1 (by decide)) (fun j q => (prs_va hM f 10 o j ho q).2 (by decide)) (by unfold bdL; simp) (by unfold bdL; simp), fun q => absurd q (by decide)⟩
  | f + 1, 6, o, i, ho, h => by
    refine ⟨fun _ => ?_, fun q => absurd q (by decide)⟩
    have e : prs T M (f + 1) 6 o i = (if T i = 2 ∨ T i = 3 then (true, ([M i], i + 1)) else if T i = 40 then (if 5 ≤ o then nO i else sq (prs T M f 0 (o + 1) (i + 1)) (fun j => if T j = 41 then oK (j + 1) else nO j)) else if T i = 45 then (if 5 ≤ o then nO i else sq (prs T M f 6 (o + 1) (i + 1)) (em (-10) oK)) else nO i) := rfl
    rw [e] at h ⊢
    by_cases h0 : T i = 2 ∨ T i = 3
    · rw [if_pos h0]
      exact ⟨_, va_push (hM i h0) (by unfold bdL; simp; omega)⟩
    · rw [if_neg h0] at h ⊢
      by_cases h1 : T i = 40
      · rw [if_pos h1] at h ⊢
        by_cases h2 : 5 ≤ o
        · rw [if_pos h2] at h
          exact nO_f h
        · rw [if_neg h2] at h ⊢
          refine va_of2 (L1 := bdL 0 (o + 1)) (L2 := bdL 6 o) h (fun q => (prs_va hM f 0 (o + 1) (i + 1) (by omega) q).1 (by decide)) (fun j q => ?_) (by unfold bdL; simp; omega) (Nat.le_refl _)
          by_cases h3 : T j = 41
          · simp only [if_pos h3]
            exact vl_ok
          · simp only [if_neg h3] at q
            exact nO_f q
      · rw [if_neg h1] at h ⊢
        by_cases h3 : T i = 45
        · rw [if_pos h3] at h ⊢
          by_cases h2 : 5 ≤ o
          · rw [if_pos h2] at h
            exact nO_f h
          · rw [if_neg h2] at h ⊢
            exact va_of1 (by decide) (by decide) h (fun q => (prs_va hM f 6 (o + 1) (i + 1) (by omega) q).1 (by decide)) (by unfold bdL; simp; omega)
        · rw [if_neg h3] at h
          exact nO_f h
  | f + 1, 7, o, i, ho, h => by
    refine ⟨fun q => absurd q (by omega), fun _ => ?_⟩
    have e : prs T M (f + 1) (7) o i = (if T i = 1009 then sq (prs T M f 1 o (i + 1)) (em (-26) (prs T M f 7 o)) else oK i) := rfl
    rw [e] at h ⊢
    by_cases h0 : T i = 1009
    · rw [if_pos h0] at h ⊢
      exact vl_of2 (by decide) (by decide) h (fun q => (prs_va hM f 1 o (i + 1) ho q).1 (by decide)) (fun j q => (prs_va hM f 7 o j ho q).2 (by decide)) (by unfold bdL; simp) (by unfold bdL; simp)
    · rw [if_neg h0] at h ⊢
      exact vl_ok
  | f + 1, 8, o, i, ho, h => by
    refine ⟨fun q => absurd q (by omega), fun _ => ?_⟩
    have e : prs T M (f + 1) (8) o i = (if T i = 1010 then sq (prs T M f 2 o (i + 1)) (em (-25) (prs T M f 8 o)) else oK i) := rfl
    rw [e] at h ⊢
    by_cases h0 : T i = 1010
    · rw [if_pos h0] at h ⊢
      exact vl_of2 (by decide) (by decide) h (fun q => (prs_va hM f 2 o (i + 1) ho q).1 (by decide)) (fun j q => (prs_va hM f 8 o j ho q).2 (by decide)) (by unfold bdL; simp) (by unfold bdL; simp)
    · rw [if_neg h0] at h ⊢
      exact vl_ok
  | f + 1, 9, o, i, ho, h => by
    refine ⟨fun q => absurd q (by omega), fun _ => ?_⟩
    have e : prs T M (f + 1) (9) o i = (if T i = 43 then sq (prs T M f 5 o (i + 1)) (em (-20) (prs T M f 9 o)) else if T i = 45 then sq (prs T M f 5 o (i + 1)) (em (-21) (prs T M f 9 o)) else oK i) := rfl
    rw [e] at h ⊢
    by_cases h0 : T i = 43
    · rw [if_pos h0] at h ⊢
      exact vl_of2 (by decide) (by decide) h (fun q => (prs_va hM f 5 o (i + 1) ho q).1 (by decide)) (fun j q => (prs_va hM f 9 o j ho q).2 (by decide)) (by unfold bdL; simp) (by unfold bdL; simp)
    · rw [if_neg h0] at h ⊢
      by_cases h1 : T i = 45
      · rw [if_pos h1] at h ⊢
        exact vl_of2 (by decide) (by decide) h (fun q => (prs_va hM f 5 o (i + 1) ho q).1 (by decide)) (fun j q => (prs_va hM f 9 o j ho q).2 (by decide)) (by unfold bdL; simp) (by unfold bdL; simp)
      · rw [if_neg h1] at h ⊢
        exact vl_ok
  | f + 1, lv + 10, o, i, ho, h => by
    refine ⟨fun q => absurd q (by omega), fun _ => ?_⟩
    have e : prs T M (f + 1) (lv + 10) o i = (if T i = 42 then sq (prs T M f 6 o (i + 1)) (em (-22) (prs T M f 10 o)) else oK i) := rfl
    rw [e] at h ⊢
    by_cases h0 : T i = 42
    · rw [if_pos h0] at h ⊢
      exact vl_of2 (by decide) (by decide) h (fun q => (prs_va hM f 6 o (i + 1) ho q).1 (by decide)) (fun j q => (prs_va hM f 10 o j ho q).2 (by decide)) (by unfold bdL; simp) (by unfold bdL; simp)
    · rw [if_neg h0] at h ⊢
      exact vl_ok
end X5
