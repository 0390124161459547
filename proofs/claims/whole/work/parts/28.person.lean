/-! person, tell, day -/
section T4
variable {G : GT} {l : Launch} {I : HI} {J : HJ} {rd : Option AO} {rr : Nat → Nat} {A : ST}
theorem iN_y {p : Prop} [Decidable p] (h : ¬ iN p = 0) : p := by rw [iN_0, Classical.not_not] at h; exact h
theorem iN_n {p : Prop} [Decidable p] (h : iN p = 0) : ¬ p := by rw [iN_0] at h; exact h
def newR (k n : Int32) : Nat → Int32 := fun a => if a = 0 then k else if a = 1 then n else if a = 4 then -1 else 0
theorem come_cop {P : PP} {p : Nat} {k n : Int32} : comeS P p k n = copP P p (newR k n) := rfl
theorem come_Ag {m : Nat} {P Q : PP} {k n : Int32} (h : Ag m P Q) : Ag (m + 1) (comeS P m k n) (comeS Q m k n) := by
  intro p hp a ha
  rw [come_cop, come_cop, cop_Ag ha, cop_Ag ha]
  by_cases e : p = m
  · rw [if_pos e, if_pos e]
  · rw [if_neg e, if_neg e]
    exact h p (by omega) a ha
theorem come_WF {m : Nat} {P : PP} {k n : Int32} (h : WF P m) (hk : rg k 5) (hn : rg n 9) : WF (comeS P m k n) (m + 1) := by
  intro p hp
  rw [come_cop, cop_Ag (by omega), cop_Ag (by omega), cop_Ag (by omega), cop_Ag (by omega), cop_Ag (by omega), cop_Ag (by omega), cop_Ag (by omega)]
  by_cases e : p = m
  · simp only [if_pos e]
    exact ⟨hk, hn, ⟨0, by omega, rfl⟩, ⟨0, by omega, rfl⟩, Or.inl rfl, ⟨0, by omega, rfl⟩, Or.inl rfl⟩
  · simp only [if_neg e]
    have h := h p (by omega)
    refine ⟨h.1, h.2.1, h.2.2.1, h.2.2.2.1, ?_, h.2.2.2.2.2⟩
    rcases h.2.2.2.2.1 with q | ⟨q, hq, he⟩
    · exact Or.inl q
    · exact Or.inr ⟨q, by omega, he⟩
def perA (A : ST) (k n : Int32) : ST := stN (stP A (comeS (aP A) (aN A 0) k n)) 0 (aN A 0 + 1)
def perC (A : ST) (k n : Int32) : Prop := ((0 ≤ k ∧ k ≤ 5) ∧ 0 ≤ n ∧ n ≤ 9) ∧ aN A 0 < 5
def personR (A : ST) (k n : Int32) : Int32 := if (0 ≤ k ∧ k ≤ 5) ∧ 0 ≤ n ∧ n ≤ 9 then (if aN A 0 < 5 then nI (aN A 0) else -4) else -2
def personA (A : ST) (k n : Int32) : ST := if (0 ≤ k ∧ k ≤ 5) ∧ 0 ≤ n ∧ n ≤ 9 then (if aN A 0 < 5 then perA A k n else A) else A
theorem ok_person {k n : Int32} (ok : OKA A) : OKA (personA A k n) := by
  unfold personA
  split
  · rename_i h
    split
    · rename_i h5
      refine ⟨⟨by show aN A 0 + 1 ≤ 5; omega, ok.1.2.1, ok.1.2.2.1, ok.1.2.2.2.1, come_WF ok.1.2.2.2.2 (rg_of h.1.1 h.1.2 (by decide)) (rg_of h.2.1 h.2.2 (by decide))⟩, ⟨ok.2.1.1, fun hk => ?_⟩, ok.2.2⟩
      obtain ⟨a1, a2, a3, a4, a5⟩ := ok.2.1.2 hk
      have a1 : aN A 6 ≤ aN A 0 := a1
      refine ⟨by show aN A 6 ≤ aN A 0 + 1; omega, a2, a3, a4, fun p hp => (a5 p hp).trans ?_⟩
      have hp : p < aN A 6 := hp
      show aP A p 0 = comeS (aP A) (aN A 0) k n p 0
      rw [come_cop, cop_Ag (by omega), if_neg (by omega)]
    · exact ok
  · exact ok
theorem up17 {j t : Nat} {x : Int32} {k : Nat} (hk : k ≠ 17) : upI I 17 j 0 t x k = I k := by funext i j' t'; simp [upI, hk]
theorem e_comesOne {k n : Int32} (ok : OKA A) : CC G l 60 2 [vI k, vI n] A (vI (personR A k n)) (personA A k n) := by
  intro I J rd rr hC
  obtain ⟨h1, h2, h3, h4⟩ := hC.1
  have h5 := ok.1.1
  refine Ev_go iC_comesOne rfl rfl rfl ⟨Nat.le_refl _, Nat.le_refl _⟩ (fun K hK => hK.1 [] 120 _ _ _ _ _ ?_)
  unfold personR personA
  refine k_isWithin (by decide) ?_
  refine And.intro (fun h6 => ?_) (fun h6 => ?_)
  · refine ⟨rfl, (I, J, rd, rr), ?_, rfl, ?_, fun k hk => ⟨rfl, rfl⟩⟩
    · rw [if_neg (fun q => iN_n h6 q.1)]
    · rw [if_neg (fun q => iN_n h6 q.1)]; exact hC
  · refine k_isWithin (by decide) ?_
    refine And.intro (fun h7 => ?_) (fun h7 => ?_)
    · have hc := And.intro (iN_y h6) (iN_y h7)
      rw [if_pos hc, if_pos hc]
      refine And.intro (fun h8 => ?_) (fun h8 => ?_)
      · rw [getI_mk, h1] at h8
        have hm : aN A 0 < 5 := by
          have := Int32.lt_iff_toInt_lt.mp h8
          rw [nI_toInt (by omega)] at this
          have h5' : (5 : Int32).toInt = 5 := by decide
          omega
        rw [if_pos hm, if_pos hm]
        show vp_in _ _ ∧ _
        rw [getI_mk, h1, nI_clamp (by omega)]
        refine ⟨nI_in (N := 5) (by omega) (by decide), ?_⟩
        refine CPd_eq e_comeAs (by decide) rfl ?_
        have hx : (setP I 0 (comeS (I 19 0) (aN A 0) k n)) 17 0 0 1 = nI (aN A 0) := by rw [setP_k (by decide)]; exact h1
        refine ⟨rfl, (upI (setP I 0 (comeS (I 19 0) (aN A 0) k n)) 17 0 0 1 (nI (aN A 0 + 1)), J, rd, rr), ?_, ?_, ?_, ?_⟩
        · rw [getI_mk, setI_mk, getI_mk, upI_s, hx]
          refine congrArg (fun z => some (vI z)) ?_
          grind
        · rw [getI_mk, setI_mk, hx, nI_succ]
        · unfold CF RuK
          simp only [up17 (k := 0) (by decide), up17 (k := 13) (by decide), up17 (k := 12) (by decide), up17 (k := 2) (by decide), up17 (k := 3) (by decide), up17 (k := 15) (by decide), up17 (k := 16) (by decide), up17 (k := 11) (by decide), up17 (k := 19) (by decide), setP_k (k := 0) (by decide), setP_k (k := 13) (by decide), setP_k (k := 12) (by decide), setP_k (k := 2) (by decide), setP_k (k := 3) (by decide), setP_k (k := 15) (by decide), setP_k (k := 16) (by decide), setP_k (k := 11) (by decide), setP_19, setP_19' (show (2 : Nat) ≠ 0 by decide)]
          refine ⟨⟨upI_s, ?_, h3, come_Ag h4⟩, hC.2.1, ⟨hC.2.2.1.1, fun hk => ?_⟩, hC.2.2.2⟩
          · rw [upI_at, if_neg (by simp), setP_k (by decide)]; exact h2
          · rw [upI_at, if_neg (by simp), upI_at, if_neg (by simp), setP_k (by decide)]; exact hC.2.2.1.2 hk
        · intro k hk
          refine ⟨?_, rfl⟩
          show upI (setP I 0 _) 17 0 0 1 _ k = I k
          rw [up17 (by omega), setP_k (by omega)]
      · rw [getI_mk, h1] at h8
        have hm : ¬ aN A 0 < 5 := fun q => h8 (nI_lt q (by decide))
        rw [if_neg hm, if_neg hm]
        exact ⟨rfl, (I, J, rd, rr), rfl, rfl, hC, fun k hk => ⟨rfl, rfl⟩⟩
    · refine ⟨rfl, (I, J, rd, rr), ?_, rfl, ?_, fun k hk => ⟨rfl, rfl⟩⟩
      · rw [if_neg (fun q => iN_n h7 q.2)]
      · rw [if_neg (fun q => iN_n h7 q.2)]; exact hC
theorem c_person {k n : Int32} (ok : OKA A) : CC G l 59 5 [vI k, vI n] A (vI (personR A k n)) (personA A k n) := by
  intro I J rd rr hC
  refine Ev_go iC_person rfl rfl rfl ⟨Nat.le_refl _, Nat.le_refl _⟩ (fun K hK => hK.1 [] 120 _ _ _ _ _ ?_)
  refine CPd_exc (e_comesOne ok I J rd rr hC) (by decide) rfl (fun x hx => ?_)
  exact ⟨rfl, x, rfl, rfl, hx⟩
theorem m_person {k n : Int32} (ok : OKA A) : MC G l 167 100 [vI k, vI n] A (vI (personR A k n)) (personA A k n) := by
  intro I J rd rr Q S T hC
  obtain ⟨h1, h2, h3, h4⟩ := hC.1
  have h5 := ok.1.1
  refine Ev_go iM_person rfl rfl rfl ⟨Nat.le_refl _, Nat.le_refl _⟩ (fun K hK => hK.1 [] 220 _ _ _ _ _ ?_)
  unfold personR personA
  refine c_in (b' := 0) (c' := 5) rfl rfl (by decide) ?_
  refine And.intro (fun h6 => ?_) (fun h6 => ?_)
  · refine ⟨rfl, (I, Q, S, T), ?_, rfl, ?_, frM.r⟩
    · rw [if_neg (fun q => iN_n h6 q.1)]
    · rw [if_neg (fun q => iN_n h6 q.1)]; exact hC
  · refine c_in (b' := 0) (c' := 9) rfl rfl (by decide) ?_
    refine And.intro (fun h7 => ?_) (fun h7 => ?_)
    · have hc := And.intro (iN_y h6) (iN_y h7)
      rw [if_pos hc, if_pos hc]
      refine And.intro (fun h8 => ?_) (fun h8 => ?_)
      · rw [mf_I (by decide), h1] at h8
        have hm : aN A 0 < 5 := by
          have : aN A 0 ≠ 5 := fun e => h8 (by rw [e]; rfl)
          omega
        rw [if_pos hm, if_pos hm]
        show vp_in _ _ ∧ _
        rw [mf_I (by decide), h1, nI_clamp (by omega)]
        refine ⟨nI_in (N := 5) (by omega) (by decide), ?_⟩
        rw [mf_wk]
        have e1 : ∀ (Q : PP), getI (mf I J rd rr Q S T) 20 0 0 10 = nI (aN A 0) := fun Q => by rw [mf_I (by decide), h1]
        refine And.intro (fun h => absurd h (by decide)) (fun _ => And.intro (fun h => absurd rfl h) (fun _ => ?_))
        refine c_lays (p := aN A 0) (w := 1) (e1 _) rfl hm (by decide) (by decide) ?_
        refine And.intro (fun h => absurd h (by decide)) (fun _ => And.intro (fun _ => And.intro (fun _ => ?_) (fun h => absurd h (by decide))) (fun h => absurd h (by decide)))
        refine c_lays (p := aN A 0) (w := 2) (e1 _) (by decide) hm (by decide) (by decide) ?_
        refine And.intro (fun h => absurd h (by decide)) (fun _ => And.intro (fun _ => And.intro (fun _ => ?_) (fun h => absurd h (by decide))) (fun h => absurd h (by decide)))
        refine c_lays (p := aN A 0) (w := 3) (e1 _) (by decide) hm (by decide) (by decide) ?_
        refine And.intro (fun h => absurd h (by decide)) (fun _ => And.intro (fun _ => And.intro (fun h => absurd (by decide) h) (fun _ => ?_)) (fun h => absurd h (by decide)))
        refine c_lays (p := aN A 0) (w := 4) (e1 _) (by decide) hm (by decide) (by decide) ?_
        refine And.intro (fun h => absurd h (by decide)) (fun _ => And.intro (fun _ => And.intro (fun _ => ?_) (fun h => absurd h (by decide))) (fun h => absurd h (by decide)))
        refine c_lays (p := aN A 0) (w := 5) (e1 _) (by decide) hm (by decide) (by decide) ?_
        refine And.intro (fun h => absurd h (by decide)) (fun _ => And.intro (fun _ => And.intro (fun _ => ?_) (fun h => absurd h (by decide))) (fun h => absurd h (by decide)))
        refine c_lays (p := aN A 0) (w := 6) (e1 _) (by decide) hm (by decide) (by decide) ?_
        refine And.intro (fun _ => ?_) (fun h => absurd (by decide) h)
        refine ⟨rfl, (upI I 20 0 0 10 (nI (aN A 0 + 1)), comeS Q (aN A 0) k n, S, T), ?_, ?_, ?_, frM.up (by decide)⟩
        · rw [e1, mf_wI (by decide), mf_I (by decide), upI_s]
          refine congrArg (fun z => some (vI z)) ?_
          grind
        · rw [e1, mf_wI (by decide), nI_succ]
          rfl
        · unfold MF
          simp only [up20 (k := 31) (by decide), up20 (k := 23) (by decide), up20 (k := 32) (by decide), up20 (k := 33) (by decide), up20 (k := 34) (by decide), up20 (k := 35) (by decide), up20t (t' := 7) (t := 10) (by decide), up20t (t' := 4) (t := 10) (by decide), up20t (t' := 3) (t := 10) (by decide), up20t (t' := 36) (t := 10) (by decide), up20t (t' := 37) (t := 10) (by decide), up20t (t' := 38) (t := 10) (by decide), up20t (t' := 6) (t := 10) (by decide)]
          exact ⟨⟨upI_s, h2, h3, come_Ag h4⟩, ⟨hC.2.1.1, hC.2.1.2.1.same (by rw [up20 (by decide)]) (by rw [up20 (by decide)]), hC.2.1.2.2⟩, hC.2.2⟩
      · rw [mf_I (by decide), h1] at h8
        have hm : ¬ aN A 0 < 5 := by
          intro q
          have := congrArg Int32.toInt h8
          rw [nI_toInt (by omega)] at this
          have h5' : (5 : Int32).toInt = 5 := by decide
          omega
        rw [if_neg hm, if_neg hm]
        exact ⟨rfl, (I, Q, S, T), rfl, rfl, hC, frM.r⟩
    · refine ⟨rfl, (I, Q, S, T), ?_, rfl, ?_, frM.r⟩
      · rw [if_neg (fun q => iN_n h7 q.2)]
      · rw [if_neg (fun q => iN_n h7 q.2)]; exact hC
end T4
