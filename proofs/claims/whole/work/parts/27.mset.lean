/-! set, the reference -/
section T3
variable {G : GT} {l : Launch} {I : HI} {J : HJ} {rd : Option AO} {rr : Nat → Nat} {A : ST}
theorem MF.P {Q Q' P'' : PP} {S : HI} {T : HJ} (h : MF G l I Q S T A) (hP : Ag (aN A 0) Q' P'') : MF G l I Q' S T (stP A P'') := ⟨⟨h.1.1, h.1.2.1, h.1.2.2.1, hP⟩, h.2⟩
theorem up20 {t : Nat} {x : Int32} {k : Nat} (hk : k ≠ 20) : upI I 20 0 0 t x k = I k := by funext i j t'; simp [upI, hk]
theorem up20t {t t' : Nat} {x : Int32} (hk : t' ≠ t) : upI I 20 0 0 t x 20 0 0 t' = I 20 0 0 t' := by simp [upI, hk]
theorem MF.day {x : Nat} {Q : PP} {S : HI} {T : HJ} (h : MF G l I Q S T A) : MF G l (upI I 20 0 0 7 (nI x)) Q S T (stN A 1 x) := by
  unfold MF at *
  simp only [up20 (k := 31) (by decide), up20 (k := 23) (by decide), up20 (k := 32) (by decide), up20 (k := 33) (by decide), up20 (k := 34) (by decide), up20 (k := 35) (by decide), up20t (t' := 10) (t := 7) (by decide), up20t (t' := 4) (t := 7) (by decide), up20t (t' := 3) (t := 7) (by decide), up20t (t' := 36) (t := 7) (by decide), up20t (t' := 37) (t := 7) (by decide), up20t (t' := 38) (t := 7) (by decide), up20t (t' := 6) (t := 7) (by decide)]
  refine ⟨⟨h.1.1, ?_, h.1.2.2⟩, ⟨h.2.1.1, h.2.1.2.1.same (by rw [up20 (by decide)]) (by rw [up20 (by decide)]), h.2.1.2.2⟩, h.2.2⟩
  simp [upI, stN, aN]
theorem frM.up {k i j t : Nat} {x : Int32} (hk : 20 ≤ k) : frM I (upI I k i j t x) := fun k' hk' => by funext i' j' t'; simp [upI]; intro e; omega
theorem c_laysDay {d : Nat} {z x : Int32} {P : PP} {S : HI} {T : HJ} {post : Option AV → AH → Prop} (hd : 0 < d) (k : post none (mf (upI I 20 0 0 7 z) J rd rr P S T)) : CPd G l d 80 0 166 [vR 20 0 0, vI 0, vI x, vI z] (mf I J rd rr P S T) post := by
  have E : Ev G l 0 (mt 166) 80 80 [vR 20 0 0, vI 0, vI x, vI z] (mf I J rd rr P S T) (fun r h' => r = none ∧ h' = mf (upI I 20 0 0 7 z) J rd rr P S T) := by
    refine Ev_go iM_lays rfl rfl rfl ⟨Nat.le_refl _, Nat.le_refl _⟩ (fun K hK => hK.1 [] 120 _ _ _ _ _ ?_)
    refine And.intro (fun h => absurd rfl h) (fun _ => ?_)
    exact ⟨rfl, rfl, mf_wI (by decide)⟩
  exact CPd_eq E hd rfl k
def mayB (A : ST) (what of v : Int32) : Int32 := if what = 4 then iN (v = -1 ∨ (v ≠ of ∧ 0 ≤ v ∧ v < nI (aN A 0))) else iN (0 ≤ v ∧ v ≤ if what = 0 then 999 else if what = 1 then 9 else if what = 6 then 1 else 99)
theorem k_mayBe {d : Nat} {what of v : Int32} {Q : PP} {S : HI} {T : HJ} {post : Option AV → AH → Prop} (h1 : I 20 0 0 10 = nI (aN A 0)) (h5 : aN A 0 ≤ 5) (hd : 2 < d) (k : post (some (vI (mayB A what of v))) (mf I J rd rr Q S T)) : CPd G l d 80 0 141 [vR 20 0 0, vI what, vI of, vI v] (mf I J rd rr Q S T) post := by
  have E : Ev G l 2 (mt 141) 80 80 [vR 20 0 0, vI what, vI of, vI v] (mf I J rd rr Q S T) (fun r h' => r = some (vI (mayB A what of v)) ∧ h' = mf I J rd rr Q S T) := by
    have hz : ∀ (p : Prop) (_ : Decidable p), iN p = 0 ∨ iN p = 1 := fun p _ => by unfold iN; by_cases h : p <;> simp [h]
    refine Ev_go iM_mayBe rfl rfl rfl ⟨Nat.le_refl _, Nat.le_refl _⟩ (fun K hK => hK.1 [] 120 _ _ _ _ _ ?_)
    unfold mayB
    refine And.intro (fun hw => ?_) (fun hw => ?_)
    · rw [if_neg hw]
      refine And.intro (fun hw0 => And.intro (fun hw1 => And.intro (fun hw6 => ?_) (fun hw6 => ?_)) (fun hw1 => ?_)) (fun hw0 => ?_)
      · refine c_in (b' := 0) (c' := 99) rfl rfl (by decide) ⟨hz _ _, rfl, ?_, rfl⟩
        rw [if_neg hw0, if_neg hw1, if_neg hw6]
      · refine c_in (b' := 0) (c' := 1) rfl rfl (by decide) ⟨hz _ _, rfl, ?_, rfl⟩
        rw [if_neg hw0, if_neg hw1, if_pos hw6]
      · refine c_in (b' := 0) (c' := 9) rfl rfl (by decide) ⟨hz _ _, rfl, ?_, rfl⟩
        rw [if_neg hw0, if_pos hw1]
      · refine c_in (b' := 0) (c' := 999) rfl rfl (by decide) ⟨hz _ _, rfl, ?_, rfl⟩
        rw [if_pos hw0]
    · rw [if_pos hw]
      refine And.intro (fun h2 => ?_) (fun h2 => ?_)
      · exact ⟨Or.inr rfl, rfl, by simp [iN, h2], rfl⟩
      · refine c_isOne h1 h5 (by decide) ?_
        refine And.intro (fun h4 => ?_) (fun h4 => ?_)
        · rw [iN_0] at h4
          exact ⟨Or.inl rfl, rfl, by unfold iN; rw [if_neg (by grind)], rfl⟩
        · rw [iN_0, Classical.not_not] at h4
          refine And.intro (fun h6 => ?_) (fun h6 => ?_)
          · exact ⟨Or.inl rfl, rfl, by unfold iN; rw [if_neg (by grind)], rfl⟩
          · exact ⟨Or.inr rfl, rfl, by unfold iN; rw [if_pos (by grind)], rfl⟩
  exact CPd_eq E hd rfl k
theorem may_IB {what of v : Int32} (h0 : what ≠ 0) (h : 0 ≤ what ∧ what ≤ 6) : mayB A what of v = mayI A what of v := by
  unfold mayB mayI
  obtain ⟨w, hw, rfl⟩ := nI_ex (x := what) (m := 7) h.1 (by show what < 7; grind) (by decide)
  match w, hw, h0 with
  | 0, _, h0 => exact absurd rfl h0
  | 1, _, _ => rfl
  | 2, _, _ => rfl
  | 3, _, _ => rfl
  | 4, _, _ => rfl
  | 5, _, _ => rfl
  | 6, _, _ => rfl
theorem m_set {what of v : Int32} (ok : OKA A) : MC G l 138 101 [vI what, vI of, vI v] A (vI (setRs A what of v)) (setAs A what of v) := by
  intro I J rd rr Q S T hC
  obtain ⟨h1, h2, h3, h4⟩ := hC.1
  have h5 := ok.1.1
  refine Ev_go iM_set rfl rfl rfl ⟨Nat.le_refl _, Nat.le_refl _⟩ (fun K hK => hK.1 [] 120 _ _ _ _ _ ?_)
  unfold setRs setAs
  refine c_in (b' := 0) (c' := 6) rfl rfl (by decide) ?_
  refine And.intro (fun h6 => ?_) (fun h6 => ?_)
  · rw [iN_0] at h6
    have hw : ¬ what = 0 := by rintro rfl; exact h6 (by decide)
    have hm : ¬ ((0 ≤ of ∧ of < nI (aN A 0)) ∧ ¬ mayI A what of v = 0) := by
      intro q
      obtain ⟨w, hw1, hw6, rfl⟩ := may_w q.2
      exact h6 ⟨nI_pos' (by omega), nI_le hw6 (by decide)⟩
    refine ⟨rfl, (I, Q, S, T), ?_, rfl, ?_, frM.r⟩
    · rw [if_neg hw, if_neg hm]
    · rw [if_neg hw, if_neg hm]; exact hC
  · rw [iN_0, Classical.not_not] at h6
    refine And.intro (fun hw => ?_) (fun hw => ?_)
    · rw [if_pos hw, if_pos hw]
      refine k_mayBe h1 h5 (by decide) ?_
      have hmB : mayB A what of v = iN (0 ≤ v ∧ v ≤ 999) := by subst hw; rfl
      rw [hmB]
      refine And.intro (fun h7 => ?_) (fun h7 => ?_)
      · rw [iN_0, Classical.not_not] at h7
        rw [if_pos h7, if_pos h7]
        refine CPd_exc (m_told ok I J rd rr Q S T hC) (by decide) rfl (fun x hx => ?_)
        subst hw
        refine c_laysDay (by decide) ?_
        obtain ⟨z, hz, rfl⟩ := nI_ex (x := v) (m := 1000) h7.1 (by show v < 1000; grind) (by decide)
        refine ⟨rfl, (upI x.1 20 0 0 7 (nI z), x.2.1, x.2.2.1, x.2.2.2), ?_, rfl, ?_, ?_⟩
        · rfl
        · rw [nI_clamp (by omega)]; exact hx.1.day
        · intro k hk
          show upI x.1 20 0 0 7 (nI z) k = I k
          rw [up20 (by omega), hx.2 k hk]
      · rw [iN_0] at h7
        refine ⟨rfl, (I, Q, S, T), ?_, rfl, ?_, frM.r⟩
        · rw [if_neg h7]
        · rw [if_neg h7]; exact hC
    · rw [if_neg hw, if_neg hw]
      refine c_isOne h1 h5 (by decide) ?_
      refine And.intro (fun h8 => ?_) (fun h8 => ?_)
      · rw [iN_0] at h8
        refine ⟨rfl, (I, Q, S, T), ?_, rfl, ?_, frM.r⟩
        · rw [if_neg (fun q => h8 q.1)]
        · rw [if_neg (fun q => h8 q.1)]; exact hC
      · rw [iN_0, Classical.not_not] at h8
        refine k_mayBe h1 h5 (by decide) ?_
        rw [may_IB hw h6]
        refine And.intro (fun h7 => ?_) (fun h7 => ?_)
        · rw [if_pos ⟨h8, h7⟩, if_pos ⟨h8, h7⟩]
          obtain ⟨w, hw1, hw6, rfl⟩ := may_w h7
          obtain ⟨p, hp, rfl⟩ := nI_ex h8.1 h8.2 (by omega)
          refine CPd_exc (m_told ok I J rd rr Q S T hC) (by decide) rfl (fun x hx => ?_)
          refine c_lays rfl rfl (by omega) ⟨hw1, hw6⟩ (by decide) ?_
          refine ⟨rfl, (x.1, upP x.2.1 p w v, x.2.2.1, x.2.2.2), ?_, rfl, ?_, hx.2⟩
          · unfold toldR
            have hv : ∀ c : Nat, c < 10 → w ≠ c → ¬ nI w = nI c := by
              intro c hc hne e
              have := congrArg Int32.toInt e
              rw [nI_toInt (by omega), nI_toInt (by omega)] at this
              omega
            rw [if_neg hw, if_pos ⟨h8, by have := nI_le (a := 1) (b := w) hw1 (by omega); exact this, nI_le (a := w) (b := 9) (by omega) (by decide)⟩, if_neg (show ¬ nI w = 7 from hv 7 (by omega) (by omega)), if_neg (show ¬ nI w = 8 from hv 8 (by omega) (by omega)), if_neg (show ¬ nI w = 9 from hv 9 (by omega) (by omega))]
          · rw [nI_clamp (by omega), nI_clamp (by omega)]
            exact hx.1.P (hx.1.1.2.2.2.up rfl)
        · refine ⟨rfl, (I, Q, S, T), ?_, rfl, ?_, frM.r⟩
          · rw [if_neg (fun q => q.2 h7)]
          · rw [if_neg (fun q => q.2 h7)]; exact hC
theorem iN_ne {p : Prop} [Decidable p] (h : ¬ iN p = 0) : p := by rw [iN_0, Classical.not_not] at h; exact h
theorem WF.up1 {P : PP} {m p : Nat} {x : Int32} (h : WF P m) (hx : rg x 9) : WF (upP P p 1 x) m := by
  intro q hq
  have hq := h q hq
  by_cases hqp : q = p
  · subst hqp
    simp only [upP, true_and, Nat.reduceEqDiff, ↓reduceIte, (by decide : (0:Nat) ≠ 1)]
    exact ⟨hq.1, hx, hq.2.2⟩
  · simp only [upP_p hqp]
    exact hq
theorem WF.up4 {P : PP} {m p : Nat} {x : Int32} (h : WF P m) (hx : x = -1 ∨ ∃ q, q < m ∧ x = nI q) : WF (upP P p 4 x) m := by
  intro q hq
  have hq := h q hq
  by_cases hqp : q = p
  · subst hqp
    simp only [upP, true_and, Nat.reduceEqDiff, ↓reduceIte, (by decide : (0:Nat) ≠ 4), (by decide : (1:Nat) ≠ 4)]
    exact ⟨hq.1, hq.2.1, hq.2.2.1, hq.2.2.2.1, hx, hq.2.2.2.2.2⟩
  · simp only [upP_p hqp]
    exact hq
theorem WF.up6 {P : PP} {m p : Nat} {x : Int32} (h : WF P m) (hx : x = 0 ∨ x = 1) : WF (upP P p 6 x) m := by
  intro q hq
  have hq := h q hq
  by_cases hqp : q = p
  · subst hqp
    simp only [upP, true_and, Nat.reduceEqDiff, ↓reduceIte, (by decide : (0:Nat) ≠ 6), (by decide : (1:Nat) ≠ 6)]
    exact ⟨hq.1, hq.2.1, hq.2.2.1, hq.2.2.2.1, hq.2.2.2.2.1, hq.2.2.2.2.2.1, hx⟩
  · simp only [upP_p hqp]
    exact hq
theorem OKA.P {P' : PP} (ok : OKA A) (hW : WF P' (aN A 0)) (h0 : ∀ p, p < aN A 0 → P' p 0 = aP A p 0) : OKA (stP A P') := by
  refine ⟨⟨ok.1.1, ok.1.2.1, ok.1.2.2.1, ok.1.2.2.2.1, hW⟩, ⟨ok.2.1.1, fun hk => ?_⟩, ok.2.2⟩
  obtain ⟨a1, a2, a3, a4, a5⟩ := ok.2.1.2 hk
  exact ⟨a1, a2, a3, a4, fun p hp => (a5 p hp).trans (h0 p (Nat.lt_of_lt_of_le hp a1)).symm⟩
theorem OKA.day {x : Nat} (ok : OKA A) (hx : x ≤ 999) : OKA (stN A 1 x) := ⟨⟨ok.1.1, hx, ok.1.2.2⟩, ok.2⟩
theorem rg_of {x : Int32} {n : Nat} (h1 : 0 ≤ x) (h2 : x ≤ nI n) (hn : n < 2 ^ 31 - 1) : rg x n := by
  obtain ⟨q, hq, rfl⟩ := nI_ex (x := x) (m := n + 1) h1 (by rw [nI_succ]; have := nI_lt (a := n) (b := n + 1) (by omega) (by omega); rw [nI_succ] at this; grind) (by omega)
  exact ⟨q, by omega, rfl⟩
theorem ok_set {what of v : Int32} (ok : OKA A) : OKA (setAs A what of v) := by
  unfold setAs
  split
  · split
    · rename_i h
      obtain ⟨z, hz, rfl⟩ := nI_ex (x := v) (m := 1000) h.1 (by show v < 1000; grind) (by decide)
      rw [nI_clamp (by omega)]
      exact ok.day (by omega)
    · exact ok
  · split
    · rename_i hw h
      obtain ⟨w, hw1, hw6, rfl⟩ := may_w h.2
      obtain ⟨p, hp, rfl⟩ := nI_ex h.1.1 h.1.2 (by have := ok.1.1; omega)
      have h7 := h.2
      have hm5 := ok.1.1
      rw [nI_clamp (n := w) (by omega), nI_clamp (n := p) (by omega)]
      refine ok.P ?_ (fun q hq => upP_a (by omega))
      have hW := ok.1.2.2.2.2
      match w, hw1, hw6, h7 with
      | 1, _, _, h7 => exact hW.up1 (rg_of (iN_ne (p := 0 ≤ v ∧ v ≤ 9) h7).1 (iN_ne (p := 0 ≤ v ∧ v ≤ 9) h7).2 (by decide))
      | 2, _, _, h7 => exact hW.up (Or.inl rfl) (rg_of (iN_ne (p := 0 ≤ v ∧ v ≤ 99) h7).1 (iN_ne (p := 0 ≤ v ∧ v ≤ 99) h7).2 (by decide))
      | 3, _, _, h7 => exact hW.up (Or.inr (Or.inl rfl)) (rg_of (iN_ne (p := 0 ≤ v ∧ v ≤ 99) h7).1 (iN_ne (p := 0 ≤ v ∧ v ≤ 99) h7).2 (by decide))
      | 4, _, _, h7 =>
        refine hW.up4 ?_
        rcases iN_ne (p := v = -1 ∨ (v ≠ nI p ∧ 0 ≤ v ∧ v < nI (aN A 0))) h7 with e | e
        · exact Or.inl e
        · obtain ⟨q, hq, he⟩ := nI_ex e.2.1 e.2.2 (by have := ok.1.1; omega)
          exact Or.inr ⟨q, hq, he⟩
      | 5, _, _, h7 => exact hW.up (Or.inr (Or.inr rfl)) (rg_of (iN_ne (p := 0 ≤ v ∧ v ≤ 99) h7).1 (iN_ne (p := 0 ≤ v ∧ v ≤ 99) h7).2 (by decide))
      | 6, _, _, h7 =>
        refine hW.up6 ?_
        obtain ⟨z, hz, rfl⟩ := rg_of (n := 1) (iN_ne (p := 0 ≤ v ∧ v ≤ 1) h7).1 (iN_ne (p := 0 ≤ v ∧ v ≤ 1) h7).2 (by decide)
        match z, hz with
        | 0, _ => exact Or.inl rfl
        | 1, _ => exact Or.inr rfl
    · exact ok
end T3
