/-! the reference: what is laid aside and laid back -/
section M6
variable {G : GT} {l : Launch} {I : HI} {J : HJ} {rd : Option AO} {rr : Nat → Nat}
def Ag (m : Nat) (P Q : PP) : Prop := ∀ p, p < m → ∀ a, a < 7 → P p a = Q p a
/-- a row's first items anew -/
def wrI (I : HI) (kk : Nat) (f : Nat → Int32) (n : Nat) : HI := fun k i j t => if k = kk ∧ i = 0 ∧ j = 0 ∧ t < n then f t else I k i j t
theorem wrI_0 {kk : Nat} {f : Nat → Int32} : wrI I kk f 0 = I := by funext k i j t; simp [wrI]
theorem wrI_s {kk k : Nat} {f : Nat → Int32} : upI (wrI I kk f k) kk 0 0 k (f k) = wrI I kk f (k + 1) := by
  funext k' i j t
  simp only [upI, wrI]
  by_cases h : k' = kk ∧ i = 0 ∧ j = 0
  · obtain ⟨rfl, rfl, rfl⟩ := h
    simp only [true_and]
    by_cases ht : t = k
    · subst ht; rw [if_pos rfl, if_pos (by omega)]
    · rw [if_neg ht]
      by_cases h2 : t < k
      · rw [if_pos h2, if_pos (by omega)]
      · rw [if_neg h2, if_neg (by omega)]
  · rw [if_neg (fun q => h ⟨q.1, q.2.1, q.2.2.1⟩), if_neg (fun q => h ⟨q.1, q.2.1, q.2.2.1⟩), if_neg (fun q => h ⟨q.1, q.2.1, q.2.2.1⟩)]
theorem wrI_at {kk n t : Nat} {f : Nat → Int32} : wrI I kk f n kk 0 0 t = if t < n then f t else I kk 0 0 t := by simp [wrI]
theorem wrI_k {kk n k : Nat} {f : Nat → Int32} (h : k ≠ kk) : wrI I kk f n k = I k := by funext i j t; simp [wrI, h]
def rowF (P : PP) : Nat → Int32 := fun t => P (t / 6) (t % 6 + 1)
def keepI (I : HI) (P : PP) : HI := upI (wrI I 28 (rowF P) 30) 20 0 0 29 (I 20 0 0 7)
theorem e_keeps {d : Nat} {P : PP} {S : HI} {T : HJ} : Ev G l d (mt 181) 80 80 [vR 20 0 0] (mf I J rd rr P S T) (fun v h' => v = none ∧ h' = mf (keepI I P) J rd rr P S T) := by
  refine Ev_go iM_keeps rfl rfl rfl ⟨Nat.le_refl _, Nat.le_refl _⟩ (fun K hK => ?_)
  have loop : ∀ j k, k + j = 30 → K 80 2 [some (vR 20 0 0), some (vI (nI k))] [] (mf (wrI I 28 (rowF P) k) J rd rr P S T) := by
    intro j
    induction j with
    | zero =>
      intro k hk
      refine hK.1 [] 50 _ _ _ _ _ ?_
      rw [show k = 30 by omega]
      refine And.intro (fun h1 => ⟨rfl, rfl, ?_⟩) (fun h1 => absurd (by decide) h1)
      rw [mf_I (by decide), mf_wI (by decide), wrI_k (by decide)]
      rfl
    | succ j ih =>
      intro k hk
      refine hK.1 [(2, [true, true])] 50 _ _ _ _ _ ?_
      refine And.intro (fun h1 => absurd h1 (nI_ge (a := k) (b := 30) (by omega) (by decide))) (fun h1 => ⟨nI_in (N := 30) (by omega) (by decide), nI_in (N := 30) (by omega) (by decide), ?_⟩)
      show K 80 2 _ _ _
      refine Kc (ih (k + 1) (by omega)) (by rw [nI_succ]; rfl) ?_
      rw [nI_clamp (by omega), mf_r, mf_wI (by simp)]
      rw [← wrI_s]
      rfl
  refine hK.1 [(2, [true, true])] 50 _ _ _ _ _ ?_
  show K 80 2 _ _ _
  refine Kc (loop 30 0 rfl) rfl ?_
  rw [wrI_0]
def bakP (W : Nat → Int32) (P : PP) (k : Nat) : PP := fun p a => if (1 ≤ a ∧ a ≤ 6) ∧ 6 * p + (a - 1) < k then W (6 * p + (a - 1)) else P p a
theorem bak_s {W : Nat → Int32} {P : PP} {k : Nat} : upP (bakP W P k) (k / 6) (k % 6 + 1) (W k) = bakP W P (k + 1) := by
  funext p a
  simp only [upP, bakP]
  by_cases h : p = k / 6 ∧ a = k % 6 + 1
  · obtain ⟨rfl, rfl⟩ := h
    rw [if_pos ⟨rfl, rfl⟩, if_pos (by omega), show 6 * (k / 6) + (k % 6 + 1 - 1) = k by omega]
  · rw [if_neg h]
    by_cases h2 : (1 ≤ a ∧ a ≤ 6) ∧ 6 * p + (a - 1) < k
    · rw [if_pos h2, if_pos ⟨h2.1, by omega⟩]
    · rw [if_neg h2, if_neg]
      intro h3
      apply h2
      refine ⟨h3.1, ?_⟩
      by_cases h4 : 6 * p + (a - 1) = k
      · exact absurd ⟨by omega, by omega⟩ h
      · omega
theorem e_laysBack {d : Nat} {P : PP} {S : HI} {T : HJ} : Ev G l d (mt 183) 80 80 [vR 20 0 0] (mf I J rd rr P S T) (fun v h' => v = none ∧ h' = mf (upI I 20 0 0 7 (I 20 0 0 29)) J rd rr (bakP (I 28 0 0) P 30) S T) := by
  refine Ev_go iM_laysBack rfl rfl rfl ⟨Nat.le_refl _, Nat.le_refl _⟩ (fun K hK => ?_)
  have loop : ∀ j k, k + j = 30 → K 80 2 [some (vR 20 0 0), some (vI (nI k))] [] (mf I J rd rr (bakP (I 28 0 0) P k) S T) := by
    intro j
    induction j with
    | zero =>
      intro k hk
      refine hK.1 [] 50 _ _ _ _ _ ?_
      rw [show k = 30 by omega]
      refine And.intro (fun h1 => ⟨rfl, rfl, ?_⟩) (fun h1 => absurd (by decide) h1)
      rw [mf_I (by decide), mf_wI (by decide)]
    | succ j ih =>
      intro k hk
      refine hK.1 [(2, [true, true])] 50 _ _ _ _ _ ?_
      refine And.intro (fun h1 => absurd h1 (nI_ge (a := k) (b := 30) (by omega) (by decide))) (fun h1 => ⟨nI_in (N := 30) (by omega) (by decide), nI_in (N := 30) (by omega) (by decide), ?_⟩)
      show K 80 2 _ _ _
      refine Kc (ih (k + 1) (by omega)) (by rw [nI_succ]; rfl) ?_
      rw [nI_clamp (by omega), mf_I (by simp), mf_wr (p := k / 6) (a := k % 6) (by omega) (by omega), bak_s]
  refine hK.1 [(2, [true, true])] 50 _ _ _ _ _ ?_
  show K 80 2 _ _ _
  refine Kc (loop 30 0 rfl) rfl ?_
  have : bakP (I 28 0 0) P 0 = P := by funext p a; simp [bakP]
  rw [this]
/-- what was laid aside comes back, where the kinds stayed -/
theorem bak_Ag {P Q : PP} {W : Nat → Int32} (hW : ∀ t, t < 30 → W t = rowF P t) (h0 : ∀ p, Q p 0 = P p 0) : Ag 5 (bakP W Q 30) P := by
  intro p hp a ha
  unfold bakP
  by_cases h : a = 0
  · subst h
    rw [if_neg (by omega), h0]
  · rw [if_pos (by omega), hW _ (by omega)]
    unfold rowF
    rw [show (6 * p + (a - 1)) / 6 = p by omega, show (6 * p + (a - 1)) % 6 + 1 = a by omega]
end M6
