/-! sheets -/
section T14
variable {G : GT} {l : Launch} {I : HI} {J : HJ} {rd : Option AO} {rr : Nat → Nat} {A : ST}
def stS (A : ST) (s : Nat) (f : Nat → Int32) : ST := (A.1, (A.2.1, (A.2.2.1, (A.2.2.2.1, ((fun s' => if s' = s then f else aS A s'), A.2.2.2.2.2)))))
theorem stS_s {s : Nat} {f : Nat → Int32} : aS (stS A s f) s = f := by show (if s = s then f else _) = f; rw [if_pos rfl]
theorem stS_n {s s' : Nat} {f : Nat → Int32} (h : s' ≠ s) : aS (stS A s f) s' = aS A s' := by show (if s' = s then f else _) = _; rw [if_neg h]
theorem OKA.S {s : Nat} {f : Nat → Int32} (ok : OKA A) (h : (f 0 = -1 ∧ f 1 = 0) ∨ ((∃ q, q < 3 ∧ f 0 = nI q) ∧ ∃ q, q ≤ 40 ∧ f 1 = nI q)) : OKA (stS A s f) := by
  refine ⟨ok.1, ok.2.1, ok.2.2.1, fun s' hs' => ?_⟩
  by_cases e : s' = s
  · subst e; rw [stS_s]; exact h
  · rw [stS_n e]; exact ok.2.2.2 s' hs'
/-- what the class must show of a sheet's new row, all else as it was */ -/
theorem CF.S {I' : HI} {s : Nat} {f : Nat → Int32} (h : CF I rr A) (hk : ∀ k, k < 20 → k ≠ 15 → k ≠ 16 → I' k = I k) (hs : ∀ s', s' ≠ s → I' 15 s' = I 15 s' ∧ I' 16 s' = I 16 s') (h1 : I' 15 s 0 1 = f 0) (h2 : I' 15 s 0 2 = f 1) (h3 : ∀ i q, q ≤ 40 → f 1 = nI q → i < q → I' 16 s 0 i = f (2 + i)) : CF I' rr (stS A s f) := by
  unfold CF RuK at *
  rw [hk 17 (by decide) (by decide) (by decide), hk 19 (by decide) (by decide) (by decide), hk 0 (by decide) (by decide) (by decide), hk 13 (by decide) (by decide) (by decide), hk 12 (by decide) (by decide) (by decide), hk 2 (by decide) (by decide) (by decide), hk 3 (by decide) (by decide) (by decide), hk 11 (by decide) (by decide) (by decide)]
  refine ⟨h.1, h.2.1, h.2.2.1, h.2.2.2.1, fun s' hs' => ?_, h.2.2.2.2.2⟩
  by_cases e : s' = s
  · subst e
    rw [stS_s]
    exact ⟨h1, h2, h3⟩
  · rw [stS_n e, (hs s' e).1, (hs s' e).2]
    exact h.2.2.2.2.1 s' hs'
theorem k_isSheet {d : Nat} {a : Int32} {h : AH} {post : Option AV → AH → Prop} (hd : 1 < d) (k : post (some (vI (iN (0 ≤ a ∧ a ≤ 3)))) h) : CPd G l d 80 1 110 [vI a] h post := by
  have E : Ev G l 1 (mt 110) 80 80 [vI a] h (fun r h' => r = some (vI (iN (0 ≤ a ∧ a ≤ 3))) ∧ h' = h) := by
    refine Ev_go iC_isSheet rfl rfl rfl ⟨Nat.le_refl _, Nat.le_refl _⟩ (fun K hK => hK.1 [] 120 _ _ _ _ _ ?_)
    refine k_isWithin (by decide) ⟨?_, rfl, rfl, rfl⟩
    unfold iN; split <;> simp
  exact CPd_eq E hd rfl k
theorem k_isSort {d : Nat} {a : Int32} {h : AH} {post : Option AV → AH → Prop} (hd : 1 < d) (k : post (some (vI (iN (0 ≤ a ∧ a ≤ 2)))) h) : CPd G l d 80 1 129 [vI a] h post := by
  have E : Ev G l 1 (mt 129) 80 80 [vI a] h (fun r h' => r = some (vI (iN (0 ≤ a ∧ a ≤ 2))) ∧ h' = h) := by
    refine Ev_go iC_isSort rfl rfl rfl ⟨Nat.le_refl _, Nat.le_refl _⟩ (fun K hK => hK.1 [] 120 _ _ _ _ _ ?_)
    refine k_isWithin (by decide) ⟨?_, rfl, rfl, rfl⟩
    unfold iN; split <;> simp
  exact CPd_eq E hd rfl k
def fillI (I : HI) (kk s : Nat) (n : Nat) : HI := fun k i j t => if k = kk ∧ i = s ∧ j = 0 ∧ t < n then 0 else I k i j t
theorem fill_s {kk s k : Nat} : upI (fillI I kk s k) kk s 0 k 0 = fillI I kk s (k + 1) := by
  funext k' i j t
  simp only [upI, fillI]
  by_cases h : k' = kk ∧ i = s ∧ j = 0
  · obtain ⟨rfl, rfl, rfl⟩ := h
    simp only [true_and]
    by_cases ht : t = k
    · subst ht; rw [if_pos rfl, if_pos (by omega)]
    · rw [if_neg ht]
      by_cases h2 : t < k
      · rw [if_pos h2, if_pos (by omega)]
      · rw [if_neg h2, if_neg (by omega)]
  · rw [if_neg (fun q => h ⟨q.1, q.2.1, q.2.2.1⟩), if_neg (fun q => h ⟨q.1, q.2.1, q.2.2.1⟩), if_neg (fun q => h ⟨q.1, q.2.1, q.2.2.1⟩)]
theorem fill_k {kk s n k : Nat} (h : k ≠ kk) : fillI I kk s n k = I k := by funext i j t; simp [fillI, h]
theorem fill_0 {kk s : Nat} : fillI I kk s 0 = I := by funext k i j t; simp [fillI]
theorem e_fill16 {s : Nat} : Ev G l 0 (mt 16) 80 80 [vR 16 s 0, vI 0] (mkH I J rd rr) (fun r h' => r = none ∧ h' = mkH (fillI I 16 s 40) J rd rr) := by
  refine Ev_go iJ_fill rfl rfl rfl ⟨Nat.le_refl _, Nat.le_refl _⟩ (fun K hK => ?_)
  have loop : ∀ j k, k + j = 40 → K 80 5 [some (vR 16 s 0), some (vI 0), some (vI (nI k)), some (vI 40)] [] (mkH (fillI I 16 s k) J rd rr) := by
    intro j
    induction j with
    | zero =>
      intro k hk
      refine hK.1 [] 60 _ _ _ _ _ ?_
      rw [show k = 40 by omega]
      exact And.intro (fun _ => ⟨rfl, rfl, rfl⟩) (fun q => absurd (by decide) q)
    | succ j ih =>
      intro k hk
      refine hK.1 [(5, [true, true, true, true])] 60 _ _ _ _ _ ?_
      refine And.intro (fun q => absurd q (nI_ge (a := k) (b := 40) (by omega) (by decide))) (fun _ => ⟨nI_in (N := 40) (by omega) (by decide), ?_⟩)
      show K 80 5 _ _ _
      refine Kc (ih (k + 1) (by omega)) (by rw [nI_succ]; rfl) ?_
      rw [nI_clamp (by omega), setI_mk, fill_s]
  refine hK.1 [(5, [true, true, true, true])] 60 _ _ _ _ _ ?_
  show K 80 5 _ _ _
  refine Kc (loop 40 0 rfl) rfl ?_
  rw [fill_0]
def layS (I : HI) (s : Nat) (so sz : Int32) : HI := fillI (upI (upI I 15 s 0 1 so) 15 s 0 2 (bnd sz 0 40)) 16 s 40
theorem e_slay {s : Nat} {so sz : Int32} : Ev G l 1 (mt 118) 80 80 [vR 15 s 0, vI so, vI sz] (mkH I J rd rr) (fun r h' => r = none ∧ h' = mkH (layS I s so sz) J rd rr) := by
  refine Ev_go iS_lay rfl rfl rfl ⟨Nat.le_refl _, Nat.le_refl _⟩ (fun K hK => hK.1 [] 120 _ _ _ _ _ ?_)
  refine c_bound (by decide) ?_
  refine CPd_eq e_fill16 (by decide) rfl ?_
  exact ⟨rfl, rfl, rfl⟩
def rowS (so sz : Int32) : Nat → Int32 := fun t => if t = 0 then so else if t = 1 then sz else 0
theorem CF.lay {s : Nat} {so sz : Int32} (h : CF I rr A) (hz : ∃ q, q ≤ 40 ∧ sz = nI q) : CF (layS I s so sz) rr (stS A s (rowS so sz)) := by
  obtain ⟨q, hq, rfl⟩ := hz
  have hb : ∀ q, q ≤ 40 → bnd (nI q) 0 40 = nI q := by decide
  refine h.S (fun k hk h1 h2 => ?_) (fun s' hs => ?_) ?_ ?_ (fun i q' h0 h1 h2 => ?_)
  · unfold layS; rw [fill_k h2]; funext i j t; simp [upI, h1]
  · unfold layS
    refine ⟨?_, ?_⟩
    · rw [fill_k (by decide)]; funext j t; simp [upI, hs]
    · funext j t; simp [fillI, upI, hs]
  · unfold layS; rw [fill_k (by decide)]; simp [upI, rowS]
  · unfold layS; rw [fill_k (by decide), upI_s, hb q hq]; rfl
  · have hi : i < 40 := by omega
    have h21 : 2 + i ≠ 1 := by omega
    unfold layS
    simp [fillI, rowS, hi, h21]
theorem frC.lay {s : Nat} {so sz : Int32} : frC I (layS I s so sz) J J := fun k hk => ⟨by unfold layS; rw [fill_k (by omega)]; funext i j t; simp only [upI]; rw [if_neg (by omega), if_neg (by omega)], rfl⟩
end T14
