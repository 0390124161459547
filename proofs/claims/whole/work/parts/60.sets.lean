/-! sets: the least of the fewest, sought in two ways */ -/
section T36
def pcN (s : Nat) : Nat := s % 2 + s / 2 % 2 + s / 4 % 2 + s / 8 % 2 + s / 16 % 2
def subB (c : Nat → Bool) (s : Nat) : Bool := (!s.testBit 0 || c 0) && ((!s.testBit 1 || c 1) && ((!s.testBit 2 || c 2) && ((!s.testBit 3 || c 3) && (!s.testBit 4 || c 4))))
theorem subB_at {c : Nat → Bool} {s k : Nat} (h : subB c s = true) (hk : k < 5) (hs : s.testBit k = true) : c k = true := by
  unfold subB at h
  simp only [Bool.and_eq_true, Bool.or_eq_true, Bool.not_eq_true'] at h
  obtain ⟨h0, h1, h2, h3, h4⟩ := h
  match k, hk with
  | 0, _ => exact h0.resolve_left (by rw [hs]; decide)
  | 1, _ => exact h1.resolve_left (by rw [hs]; decide)
  | 2, _ => exact h2.resolve_left (by rw [hs]; decide)
  | 3, _ => exact h3.resolve_left (by rw [hs]; decide)
  | 4, _ => exact h4.resolve_left (by rw [hs]; decide)
theorem subB_mk {c : Nat → Bool} {s : Nat} (h : ∀ k, k < 5 → s.testBit k = true → c k = true) : subB c s = true := by
  unfold subB
  simp only [Bool.and_eq_true, Bool.or_eq_true, Bool.not_eq_true']
  have f : ∀ k, k < 5 → s.testBit k = false ∨ c k = true := fun k hk => by
    cases hb : s.testBit k with
    | false => exact Or.inl rfl
    | true => exact Or.inr (h k hk hb)
  exact ⟨f 0 (by decide), f 1 (by decide), f 2 (by decide), f 3 (by decide), f 4 (by decide)⟩
def b5 (c0 c1 c2 c3 c4 : Bool) : Nat := (bif c0 then 1 else 0) + (bif c1 then 2 else 0) + (bif c2 then 4 else 0) + (bif c3 then 8 else 0) + (bif c4 then 16 else 0)
theorem sub_i : ∀ (c0 c1 c2 c3 c4 : Bool), ∀ s, s < 32 → (decide (nI s &&& (nI (b5 c0 c1 c2 c3 c4) ^^^ -1) = 0) = ((!s.testBit 0 || c0) && ((!s.testBit 1 || c1) && ((!s.testBit 2 || c2) && ((!s.testBit 3 || c3) && (!s.testBit 4 || c4)))))) := by decide +kernel
def brN (c : Nat → Bool) : Nat → Nat
  | 0 => 0
  | k + 1 => if c k = true then brN c k + 2 ^ k else brN c k
theorem brN_lt {c : Nat → Bool} : ∀ k, brN c k < 2 ^ k
  | 0 => Nat.zero_lt_one
  | k + 1 => by
    have := brN_lt (c := c) k
    rw [brN]
    split <;> omega
theorem brN_up {c : Nat → Bool} {m : Nat} (h : ∀ k, m ≤ k → c k = false) : ∀ j, brN c (m + j) = brN c m
  | 0 => rfl
  | j + 1 => by rw [show m + (j + 1) = (m + j) + 1 by omega, brN, h (m + j) (by omega), brN_up h j]; rfl
theorem brN_5 {c : Nat → Bool} : brN c 5 = b5 (c 0) (c 1) (c 2) (c 3) (c 4) := by
  simp only [brN, b5]
  cases c 0 <;> cases c 1 <;> cases c 2 <;> cases c 3 <;> cases c 4 <;> rfl
theorem or_bit : ∀ k, k < 5 → ∀ b, b < 2 ^ k → nI b ||| (1 : Int32) <<< (nI k &&& 31) = nI (b + 2 ^ k) := by decide +kernel
theorem bit_at : ∀ s, s < 32 → ∀ k, k < 5 → (nI s >>> (nI k &&& 31)) &&& 1 = if s.testBit k then 1 else 0 := by decide +kernel
theorem two_pow : ∀ m, m ≤ 5 → (1 : Int32) <<< (nI m &&& 31) = nI (2 ^ m) := by decide +kernel
theorem bitC_n : ∀ s, s < 32 → bitC (nI s) = nI (pcN s) := by decide +kernel
theorem pcN_1 : ∀ s, s < 32 → 1 ≤ s → 1 ≤ pcN s := by decide +kernel
theorem pcN_5 : ∀ s, s < 32 → pcN s ≤ 5 := by decide +kernel
theorem sub_m : ∀ m, m ≤ 5 → ∀ p, p < m → ∀ s, s < 32 → subB (fun k => decide (k < m ∧ k ≠ p)) s = true → pcN s ≤ m - 1 ∧ s < 2 ^ m := by decide +kernel
/-- the first from s on of so many that is good -/
def fsN (g : Nat → Bool) (n : Nat) : Nat → Nat → Option Nat
  | 0, _ => none
  | j + 1, s => if pcN s = n ∧ g s = true then some s else fsN g n j (s + 1)
theorem fsN_congr {g g' : Nat → Bool} {n : Nat} (h : ∀ s, pcN s = n → g s = g' s) : ∀ j s, fsN g n j s = fsN g' n j s
  | 0, _ => rfl
  | j + 1, s => by
    rw [fsN, fsN, fsN_congr h j]
    by_cases hs : pcN s = n
    · rw [h s hs]
    · rw [if_neg (fun q => hs q.1), if_neg (fun q => hs q.1)]
def spN (g : Nat → Bool) : Nat → Nat → Option (Nat × Nat)
  | 0, _ => none
  | j + 1, n => match fsN g n 31 1 with
    | some s => some (s, n)
    | none => spN g j (n + 1)
def rfN (g : Nat → Bool) : Nat → Option Nat
  | 0 => none
  | k + 1 => match rfN g k with
    | none => if g (k + 1) = true then some (k + 1) else none
    | some b => if pcN (k + 1) < pcN b ∧ g (k + 1) = true then some (k + 1) else some b
def isBest (g : Nat → Bool) (N : Nat) (o : Option Nat) : Prop := match o with
  | none => ∀ s, 1 ≤ s → s < N → g s = false
  | some b => (1 ≤ b ∧ b < N ∧ g b = true) ∧ ∀ s, 1 ≤ s → s < N → g s = true → pcN b < pcN s ∨ (pcN b = pcN s ∧ b ≤ s)
theorem best_rf {g : Nat → Bool} : ∀ k, isBest g (k + 1) (rfN g k)
  | 0 => fun s h1 h2 => absurd h1 (by omega)
  | k + 1 => by
    have ih := best_rf (g := g) k
    rw [rfN]
    cases hr : rfN g k with
    | none =>
      rw [hr] at ih
      have ih : ∀ s, 1 ≤ s → s < k + 1 → g s = false := ih
      show isBest g (k + 1 + 1) (if g (k + 1) = true then some (k + 1) else none)
      by_cases h : g (k + 1) = true
      · rw [if_pos h]
        refine ⟨⟨by omega, by omega, h⟩, fun s h1 h2 h3 => ?_⟩
        by_cases hs : s = k + 1
        · exact Or.inr ⟨by rw [hs], by omega⟩
        · rw [ih s h1 (by omega)] at h3
          cases h3
      · rw [if_neg h]
        intro s h1 h2
        by_cases hs : s = k + 1
        · rw [hs]; exact Bool.eq_false_iff.mpr h
        · exact ih s h1 (by omega)
    | some b =>
      rw [hr] at ih
      obtain ⟨⟨b1, b2, b3⟩, b4⟩ : (1 ≤ b ∧ b < k + 1 ∧ g b = true) ∧ ∀ s, 1 ≤ s → s < k + 1 → g s = true → pcN b < pcN s ∨ (pcN b = pcN s ∧ b ≤ s) := ih
      show isBest g (k + 1 + 1) (if pcN (k + 1) < pcN b ∧ g (k + 1) = true then some (k + 1) else some b)
      by_cases h : pcN (k + 1) < pcN b ∧ g (k + 1) = true
      · rw [if_pos h]
        refine ⟨⟨by omega, by omega, h.2⟩, fun s h1 h2 h3 => ?_⟩
        by_cases hs : s = k + 1
        · exact Or.inr ⟨by rw [hs], by omega⟩
        · rcases b4 s h1 (by omega) h3 with q | q
          · exact Or.inl (by omega)
          · exact Or.inl (by omega)
      · rw [if_neg h]
        refine ⟨⟨b1, by omega, b3⟩, fun s h1 h2 h3 => ?_⟩
        by_cases hs : s = k + 1
        · subst hs
          have : ¬ pcN (k + 1) < pcN b := fun q => h ⟨q, h3⟩
          by_cases e : pcN b = pcN (k + 1)
          · exact Or.inr ⟨e, by omega⟩
          · exact Or.inl (by omega)
        · exact b4 s h1 (by omega) h3
theorem best_up {g : Nat → Bool} {N : Nat} {o : Option Nat} (hN : N ≤ 32) (h : isBest g N o) (hg : ∀ s, 1 ≤ s → s < 32 → g s = true → s < N) : isBest g 32 o := by
  cases o with
  | none =>
    intro s h1 h2
    by_cases e : g s = true
    · have := h s h1 (hg s h1 h2 e)
      exact this
    · exact Bool.eq_false_iff.mpr e
  | some b =>
    obtain ⟨⟨b1, b2, b3⟩, b4⟩ := h
    exact ⟨⟨b1, by omega, b3⟩, fun s h1 h2 h3 => b4 s h1 (hg s h1 h2 h3) h3⟩
theorem best_eq {g : Nat → Bool} {o o' : Option Nat} (h : isBest g 32 o) (h' : isBest g 32 o') : o = o' := by
  cases o with
  | none =>
    cases o' with
    | none => rfl
    | some b =>
      obtain ⟨⟨b1, b2, b3⟩, b4⟩ := h'
      have := h b b1 b2
      rw [b3] at this
      cases this
  | some a =>
    obtain ⟨⟨a1, a2, a3⟩, a4⟩ := h
    cases o' with
    | none =>
      have := h' a a1 a2
      rw [a3] at this
      cases this
    | some b =>
      obtain ⟨⟨b1, b2, b3⟩, b4⟩ := h'
      have e1 := a4 b b1 b2 b3
      have e2 := b4 a a1 a2 a3
      have : a = b := by omega
      rw [this]
theorem fsN_some {g : Nat → Bool} {n b : Nat} : ∀ j s, 1 ≤ s → s + j = 32 → fsN g n j s = some b → (s ≤ b ∧ b < 32 ∧ pcN b = n ∧ g b = true) ∧ ∀ t, s ≤ t → t < b → ¬ (pcN t = n ∧ g t = true)
  | 0, _, _, _, h => by cases h
  | j + 1, s, h1, h2, h => by
    rw [fsN] at h
    by_cases hs : pcN s = n ∧ g s = true
    · rw [if_pos hs] at h
      injection h with h
      subst h
      exact ⟨⟨Nat.le_refl _, by omega, hs⟩, fun t a b => absurd a (by omega)⟩
    · rw [if_neg hs] at h
      obtain ⟨⟨a1, a2, a3⟩, a4⟩ := fsN_some j (s + 1) (by omega) (by omega) h
      refine ⟨⟨by omega, a2, a3⟩, fun t ht hb => ?_⟩
      by_cases e : t = s
      · rw [e]; exact hs
      · exact a4 t (by omega) hb
theorem fsN_none {g : Nat → Bool} {n : Nat} : ∀ j s, s + j = 32 → fsN g n j s = none → ∀ t, s ≤ t → t < 32 → ¬ (pcN t = n ∧ g t = true)
  | 0, _, h2, _ => fun t a b => absurd a (by omega)
  | j + 1, s, h2, h => by
    rw [fsN] at h
    by_cases hs : pcN s = n ∧ g s = true
    · rw [if_pos hs] at h
      cases h
    · rw [if_neg hs] at h
      intro t ht hb
      by_cases e : t = s
      · rw [e]; exact hs
      · exact fsN_none j (s + 1) (by omega) h t (by omega) hb
theorem best_sp {g : Nat → Bool} : ∀ j n, (∀ s, 1 ≤ s → s < 32 → g s = true → n ≤ pcN s ∧ pcN s < n + j) → isBest g 32 ((spN g j n).map Prod.fst) ∧ (spN g j n).map Prod.snd = ((spN g j n).map Prod.fst).map pcN
  | 0, n, h => by
    refine ⟨fun s h1 h2 => ?_, rfl⟩
    by_cases e : g s = true
    · have := h s h1 h2 e
      omega
    · exact Bool.eq_false_iff.mpr e
  | j + 1, n, h => by
    rw [spN]
    cases hf : fsN g n 31 1 with
    | some s =>
      obtain ⟨⟨a1, a2, a3, a4⟩, a5⟩ := fsN_some 31 1 (by omega) (by omega) hf
      refine ⟨⟨⟨a1, a2, a4⟩, fun t h1 h2 h3 => ?_⟩, ?_⟩
      · have := (h t h1 h2 h3).1
        by_cases e : pcN t = n
        · refine Or.inr ⟨by rw [a3, e], ?_⟩
          refine Classical.byContradiction fun q => a5 t h1 (by omega) ⟨e, h3⟩
        · exact Or.inl (by show pcN s < pcN t; omega)
      · show some n = some (pcN s)
        rw [a3]
    | none =>
      have hn := fsN_none 31 1 (by omega) hf
      refine best_sp j (n + 1) (fun s h1 h2 h3 => ?_)
      have := h s h1 h2 h3
      have e : pcN s ≠ n := fun q => hn s h1 h2 ⟨q, h3⟩
      omega
/-- both ways find the same -/
theorem sp_rf {g : Nat → Bool} {m : Nat} (hm : m ≤ 5) (hm0 : 0 < m) (hg : ∀ s, 1 ≤ s → s < 32 → g s = true → pcN s ≤ m - 1 ∧ s < 2 ^ m) : (spN g (m - 1) 1).map Prod.fst = rfN g (2 ^ m - 1) ∧ (spN g (m - 1) 1).map Prod.snd = (rfN g (2 ^ m - 1)).map pcN := by
  have h2 : ∀ m, m ≤ 5 → 2 ^ m ≤ 32 ∧ 2 ^ m - 1 + 1 = 2 ^ m := by decide
  have b1 := best_sp (g := g) (m - 1) 1 (fun s a b c => ⟨pcN_1 s b a, by have := (hg s a b c).1; omega⟩)
  have b2 := best_rf (g := g) (2 ^ m - 1)
  rw [(h2 m hm).2] at b2
  have b3 := best_up (h2 m hm).1 b2 (fun s a b c => (hg s a b c).2)
  have e := best_eq b1.1 b3
  exact ⟨e, by rw [b1.2, e]⟩
end T36
