/-! the reference's tokens, words, signs, faults -/
section X2
variable {G : GT} {l : Launch} {I : HI} {J : HJ} {rd : Option AO} {rr : Nat → Nat}
theorem en_p {b : Nat → Nat} {n a : Nat} (h : a < n) : a < enA b n a ∧ enA b n a ≤ n := by
  unfold enA
  split
  · rename_i hl
    rw [skA_t ⟨h, hl⟩]
    have := skA_p (p := isLe) (b := b) (n := n) (a := a + 1) (by omega)
    omega
  · split
    · rename_i hl
      rw [skA_t ⟨h, hl⟩]
      have := skA_p (p := isDi) (b := b) (n := n) (a := a + 1) (by omega)
      omega
    · omega
theorem ps_le {b : Nat → Nat} {n : Nat} : ∀ i, psA b n i ≤ n
  | 0 => (skA_p (Nat.zero_le n)).2.1
  | i + 1 => by
    rw [psA]
    split
    · rename_i h
      exact (skA_p (en_p h).2).2.1
    · exact ps_le i
theorem ps_up {b : Nat → Nat} {n i : Nat} (h : psA b n i < n) : psA b n i < psA b n (i + 1) := by
  rw [psA, if_pos h]
  have h1 := en_p (b := b) h
  have h2 := (skA_p (p := isBl) (b := b) h1.2).1
  omega
theorem ps_ge {b : Nat → Nat} {n : Nat} : ∀ i, psA b n i < n → i ≤ psA b n i
  | 0, _ => Nat.zero_le _
  | i + 1, h => by
    by_cases hi : psA b n i < n
    · have := ps_ge i hi
      have := ps_up hi
      omega
    · rw [psA, if_neg hi] at h
      exact absurd h hi
theorem wdF_lt {b : Nat → Nat} {a e i : Nat} : ∀ k, wdF b a e k = some i → i < k ∧ wdM b a e i = true
  | 0, h => by cases h
  | k + 1, h => by
    rw [wdF] at h
    by_cases hm : wdM b a e k = true
    · rw [if_pos hm] at h
      injection h with h
      subst h
      exact ⟨by omega, hm⟩
    · rw [if_neg hm] at h
      have := wdF_lt k h
      exact ⟨by omega, this.2⟩
theorem wdF_none {b : Nat → Nat} {a e i : Nat} : ∀ k, wdF b a e k = none → i < k → wdM b a e i = false
  | 0, _, h => absurd h (by omega)
  | k + 1, h, hi => by
    rw [wdF] at h
    by_cases hm : wdM b a e k = true
    · rw [if_pos hm] at h; cases h
    · rw [if_neg hm] at h
      by_cases e : i = k
      · rw [e]; exact Bool.eq_false_iff.mpr hm
      · exact wdF_none k h (by omega)
theorem eqW_at {b : Nat → Nat} : ∀ (ls : List Nat) (a : Nat), eqW b a ls = true ↔ ∀ j, j < ls.length → b (a + j) = ls.getD j 0
  | [], a => ⟨fun _ j hj => absurd hj (Nat.not_lt_zero _), fun _ => rfl⟩
  | c :: cs, a => by
    rw [eqW, Bool.and_eq_true, decide_eq_true_iff, eqW_at cs]
    constructor
    · rintro ⟨h1, h2⟩ j hj
      cases j with
      | zero => exact h1
      | succ j =>
        have := h2 j (by simp only [List.length_cons] at hj; omega)
        rw [show a + (j + 1) = a + 1 + j by omega, this]
        rfl
    · intro h
      refine ⟨h 0 (by simp), fun j hj => ?_⟩
      have := h (j + 1) (by simp only [List.length_cons]; omega)
      rw [show a + 1 + j = a + (j + 1) by omega, this]
      rfl
theorem wd_facts : ∀ k, k < 12 → ((wdL k).length ≤ 6 ∧ 1 ≤ (wdL k).length) ∧ ∀ j, j < 8 → (j < (wdL k).length → (wdL k).getD j 0 ≠ 0 ∧ (wdL k).getD j 0 < 256) ∧ ((wdL k).length ≤ j → (wdL k).getD j 0 = 0) := by decide +kernel
theorem wd_inj : ∀ i, i < 12 → ∀ k, k < 12 → ((wdL i).length = (wdL k).length ∧ ∀ j, j < 6 → (wdL i).getD j 0 = (wdL k).getD j 0) → i = k := by decide +kernel
theorem wdM_at {b : Nat → Nat} {a e k : Nat} : wdM b a e k = true ↔ e - a = (wdL k).length ∧ ∀ j, j < (wdL k).length → b (a + j) = (wdL k).getD j 0 := by
  unfold wdM
  rw [Bool.and_eq_true, decide_eq_true_iff, eqW_at]
theorem wdM_uniq {b : Nat → Nat} {a e i k : Nat} (hi : i < 12) (hk : k < 12) (h1 : wdM b a e i = true) (h2 : wdM b a e k = true) : i = k := by
  rw [wdM_at] at h1 h2
  have hl : (wdL i).length = (wdL k).length := h1.1.symm.trans h2.1
  refine wd_inj i hi k hk ⟨hl, fun j hj => ?_⟩
  by_cases hjl : j < (wdL i).length
  · rw [← h1.2 j hjl, ← h2.2 j (by omega)]
  · rw [((wd_facts i hi).2 j (by omega)).2 (by omega), ((wd_facts k hk).2 j (by omega)).2 (by omega)]
theorem wdF_some {b : Nat → Nat} {a e k : Nat} (hk : k < 12) : wdF b a e 12 = some k ↔ wdM b a e k = true := by
  constructor
  · exact fun h => (wdF_lt 12 h).2
  · intro h
    cases hf : wdF b a e 12 with
    | none => rw [wdF_none 12 hf hk] at h; cases h
    | some i =>
      obtain ⟨g1, g2⟩ := wdF_lt 12 hf
      rw [wdM_uniq g1 hk g2 h]
/-- the i-th token is at hand -/
def TkS (b : Nat → Nat) (n i : Nat) (S : HI) (T : HJ) : Prop := TkA b n (psA b n i) S T
theorem wdC_ne : ∀ i, i < 12 → ∀ s, s < 64 → 4 ≤ s → wdC (some i) ≠ nI s := by decide +kernel
theorem wdC_k : ∀ i, i < 12 → ∀ k, k < 12 → 6 ≤ k → (wdC (some i) = nI (1000 + k) ↔ i = k) := by decide +kernel
theorem wdC_3 : ∀ i, i < 12 → (wdC (some i) = 3 ↔ i < 6) ∧ wdC (some i) ≠ 2 ∧ wdC (some i) ≠ 0 ∧ wdC (some i) ≠ 1 := by decide +kernel
theorem tk_le {b : Nat → Nat} {n i : Nat} (h : psA b n i < n) (hl : isLe (b (psA b n i)) = true) : tkC b n i = wdC (wdF b (psA b n i) (skA isLe b n (psA b n i)) 12) ∧ tkM b n i = wdA (wdF b (psA b n i) (skA isLe b n (psA b n i)) 12) ∧ enA b n (psA b n i) = skA isLe b n (psA b n i) := by
  unfold tkC tkM cdA amA enA
  rw [if_pos h, if_pos h, if_pos hl, if_pos hl, if_pos hl]
  exact ⟨rfl, rfl, rfl⟩
theorem tk_di {b : Nat → Nat} {n i : Nat} (h : psA b n i < n) (hl : isLe (b (psA b n i)) = false) (hd : isDi (b (psA b n i)) = true) : tkC b n i = (if 4 < skA isDi b n (psA b n i) - psA b n i then 1 else 2) ∧ tkM b n i = nbI b (psA b n i) (skA isDi b n (psA b n i) - psA b n i) ∧ enA b n (psA b n i) = skA isDi b n (psA b n i) := by
  unfold tkC tkM cdA amA enA
  rw [if_pos h, if_pos h, hl, hd]
  exact ⟨rfl, rfl, rfl⟩
theorem tk_sg {b : Nat → Nat} {n i : Nat} (h : psA b n i < n) (hl : isLe (b (psA b n i)) = false) (hd : isDi (b (psA b n i)) = false) : tkC b n i = (if isSg (b (psA b n i)) = true then nI (b (psA b n i)) else 1) ∧ enA b n (psA b n i) = psA b n i + 1 := by
  unfold tkC cdA enA
  rw [if_pos h, hl, hd]
  exact ⟨rfl, rfl⟩
theorem tk_end {b : Nat → Nat} {n i : Nat} (h : ¬ psA b n i < n) : tkC b n i = 0 := by
  unfold tkC
  rw [if_neg h]
theorem tk_lt {b : Nat → Nat} {n i : Nat} (h : tkC b n i ≠ 0) : psA b n i < n := Classical.byContradiction fun q => h (tk_end q)
theorem tk_here {b : Nat → Nat} {n i : Nat} {S : HI} {T : HJ} (h : TkS b n i S T) (h0 : tkC b n i ≠ 0) (h1 : tkC b n i ≠ 1) : S 20 0 0 19 = nI (enA b n (psA b n i)) := by
  have hlt := tk_lt h0
  obtain ⟨-, -, h⟩ := h
  obtain ⟨g1, g2, g3, g4⟩ := h hlt
  cases hl : isLe (b (psA b n i)) with
  | true => rw [(tk_le hlt hl).2.2]; exact (g1 hl).2
  | false =>
    cases hd : isDi (b (psA b n i)) with
    | true => rw [(tk_di hlt hl hd).2.2]; exact (g2 hl hd).2.1
    | false =>
      cases hs : isSg (b (psA b n i)) with
      | true => rw [(tk_sg hlt hl hd).2]; exact (g3 hl hd hs).2.1
      | false =>
        rw [(tk_sg hlt hl hd).1, hs, if_neg (by decide)] at h1
        exact absurd rfl h1
theorem c_next {d i base n : Nat} {b : Nat → Nat} {P : PP} {S : HI} {T : HJ} {post : Option AV → AH → Prop} (h : TXh b n base I S) (ht : TkS b n i S T) (h0 : tkC b n i ≠ 0) (h1 : tkC b n i ≠ 1) (hd : 1 < d) (k : ∀ q : HI × HJ, FrX S q.1 T q.2 → TkS b n (i + 1) q.1 q.2 → post none (mf I J rd rr P q.1 q.2)) : CPd G l d 80 0 149 [vR 20 0 0] (mf I J rd rr P S T) post := by
  have hlt := tk_lt h0
  refine CPd_exc (e_next (a := psA b n (i + 1)) h (tk_here ht h0 h1) (en_p hlt).2 ?_) hd rfl (fun q hq => k q hq.1 hq.2)
  rw [psA, if_pos hlt]
theorem tk_sign {b : Nat → Nat} {n i s : Nat} {S : HI} {T : HJ} (h : TkS b n i S T) (hb : ∀ i, i < n → b i < 256) (hs : isSg s = true) : (S 20 0 0 20 = 3 ∧ T 20 0 0 22 = nL s) ↔ tkC b n i = nI s := by
  have hs256 : s < 64 ∧ 40 ≤ s := by
    have := of_decide_eq_true hs
    omega
  have hns : ∀ s, s < 64 → 40 ≤ s → nI s ≠ 0 ∧ nI s ≠ 1 ∧ nI s ≠ 2 := by decide
  obtain ⟨n0, n1, n2⟩ := hns s hs256.1 hs256.2
  obtain ⟨-, g0, h⟩ := h
  by_cases hlt : psA b n i < n
  · obtain ⟨g1, g2, g3, g4⟩ := h hlt
    cases hl : isLe (b (psA b n i)) with
    | true =>
      rw [(tk_le hlt hl).1, (g1 hl).1]
      refine ⟨fun q => absurd q.1 (by decide), fun q => ?_⟩
      cases hw : wdF b (psA b n i) (skA isLe b n (psA b n i)) 12 with
      | none => rw [hw] at q; exact absurd q.symm n1
      | some k => rw [hw] at q; exact absurd q (wdC_ne k (wdF_lt 12 hw).1 s hs256.1 (by omega))
    | false =>
      cases hd : isDi (b (psA b n i)) with
      | true =>
        rw [(tk_di hlt hl hd).1, (g2 hl hd).1]
        refine ⟨fun q => ?_, fun q => ?_⟩
        · have := q.1
          split at this <;> exact absurd this (by decide)
        · split at q
          · exact absurd q.symm n1
          · exact absurd q.symm n2
      | false =>
        have hbs := hb _ hlt
        cases hs' : isSg (b (psA b n i)) with
        | true =>
          rw [(tk_sg hlt hl hd).1, hs', if_pos rfl, (g3 hl hd hs').1, (g3 hl hd hs').2.2]
          refine ⟨fun q => ?_, fun q => ⟨rfl, ?_⟩⟩
          · rw [nL_inj (by omega) (by omega) q.2]
          · rw [nI_ij q (by omega) (by omega)]
        | false =>
          rw [(tk_sg hlt hl hd).1, hs', if_neg (by decide), g4 hl hd hs']
          exact ⟨fun q => absurd q.1 (by decide), fun q => absurd q.symm n1⟩
  · rw [tk_end hlt, g0 (by omega)]
    exact ⟨fun q => absurd q.1 (by decide), fun q => absurd q.symm n0⟩
theorem c_isSign {d i base n s : Nat} {b : Nat → Nat} {x : Int32} {P : PP} {S : HI} {T : HJ} {post : Option AV → AH → Prop} (h : TXh b n base I S) (ht : TkS b n i S T) (h24 : S 20 0 0 24 = 0) (hx : x = nI s) (hs : isSg s = true) (hd : 0 < d) (k : post (some (vI (iN (tkC b n i = nI s)))) (mf I J rd rr P S T)) : CPd G l d 80 0 162 [vR 20 0 0, vI x] (mf I J rd rr P S T) post := by
  subst hx
  have hsg := tk_sign ht (fun i hi => (h.2.2.2.2 i hi).1) hs
  have hs256 : s < 64 := by have := of_decide_eq_true hs; omega
  have E : Ev G l 0 (mt 162) 80 80 [vR 20 0 0, vI (nI s)] (mf I J rd rr P S T) (fun r h' => r = some (vI (iN (tkC b n i = nI s))) ∧ h' = mf I J rd rr P S T) := by
    refine Ev_go iM_isSign rfl rfl rfl ⟨Nat.le_refl _, Nat.le_refl _⟩ (fun K hK => hK.1 [] 120 _ _ _ _ _ ?_)
    intro _
    refine And.intro (fun q => absurd ((mf_ge (by decide)).trans h24) q) (fun _ => And.intro (fun q => ?_) (fun q => And.intro (fun q2 => ?_) (fun q2 => ?_)))
    · rw [mf_ge (by decide)] at q
      refine ⟨Or.inl rfl, rfl, ?_, rfl⟩
      unfold iN
      rw [if_neg (fun z => q (hsg.mpr z).1)]
    · rw [lg_cmp_0, mf_T (Or.inr ⟨rfl, rfl⟩), nL_I (by omega)] at q2
      refine ⟨Or.inl rfl, rfl, ?_, rfl⟩
      unfold iN
      rw [if_neg (fun z => q2 (hsg.mpr z).2)]
    · rw [mf_ge (by decide)] at q
      rw [lg_cmp_0, mf_T (Or.inr ⟨rfl, rfl⟩), nL_I (by omega)] at q2
      refine ⟨Or.inr rfl, rfl, ?_, rfl⟩
      unfold iN
      rw [if_pos (hsg.mp ⟨q, q2⟩)]
  exact CPd_eq E hd rfl k
theorem c_isSign1 {d : Nat} {x : Int32} {P : PP} {S : HI} {T : HJ} {post : Option AV → AH → Prop} (h24 : S 20 0 0 24 = 1) (hd : 0 < d) (k : post (some (vI 0)) (mf I J rd rr P S T)) : CPd G l d 80 0 162 [vR 20 0 0, vI x] (mf I J rd rr P S T) post := by
  have E : Ev G l 0 (mt 162) 80 80 [vR 20 0 0, vI x] (mf I J rd rr P S T) (fun r h' => r = some (vI 0) ∧ h' = mf I J rd rr P S T) := by
    refine Ev_go iM_isSign rfl rfl rfl ⟨Nat.le_refl _, Nat.le_refl _⟩ (fun K hK => hK.1 [] 120 _ _ _ _ _ ?_)
    intro _
    exact And.intro (fun q => ⟨Or.inl rfl, rfl, rfl, rfl⟩) (fun q => absurd (((mf_ge (by decide)).trans h24).symm.trans q) (by decide))
  exact CPd_eq E hd rfl k
theorem c_fail0 {d : Nat} {P : PP} {S : HI} {T : HJ} {post : Option AV → AH → Prop} (h24 : S 20 0 0 24 = 0) (hd : 0 < d) (k : post none (mf I J rd rr P (upI (upI S 20 0 0 24 1) 20 0 0 25 (S 20 0 0 21)) T)) : CPd G l d 80 0 154 [vR 20 0 0] (mf I J rd rr P S T) post := by
  have E : Ev G l 0 (mt 154) 80 80 [vR 20 0 0] (mf I J rd rr P S T) (fun r h' => r = none ∧ h' = mf I J rd rr P (upI (upI S 20 0 0 24 1) 20 0 0 25 (S 20 0 0 21)) T) := by
    refine Ev_go iM_fail rfl rfl rfl ⟨Nat.le_refl _, Nat.le_refl _⟩ (fun K hK => hK.1 [] 120 _ _ _ _ _ ?_)
    intro _
    refine And.intro (fun q => absurd ((mf_ge (by decide)).trans h24) q) (fun _ => ?_)
    refine ⟨Or.inr rfl, rfl, rfl, ?_⟩
    rw [mf_up (by decide), mf_ge (by decide), up20t (by decide), mf_up (by decide)]
  exact CPd_eq E hd rfl k
theorem c_fail1 {d : Nat} {P : PP} {S : HI} {T : HJ} {post : Option AV → AH → Prop} (h24 : S 20 0 0 24 = 1) (hd : 0 < d) (k : post none (mf I J rd rr P S T)) : CPd G l d 80 0 154 [vR 20 0 0] (mf I J rd rr P S T) post := by
  have E : Ev G l 0 (mt 154) 80 80 [vR 20 0 0] (mf I J rd rr P S T) (fun r h' => r = none ∧ h' = mf I J rd rr P S T) := by
    refine Ev_go iM_fail rfl rfl rfl ⟨Nat.le_refl _, Nat.le_refl _⟩ (fun K hK => hK.1 [] 120 _ _ _ _ _ ?_)
    intro _
    exact And.intro (fun q => ⟨rfl, rfl, rfl⟩) (fun q => absurd (((mf_ge (by decide)).trans h24).symm.trans q) (by decide))
  exact CPd_eq E hd rfl k
end X2
