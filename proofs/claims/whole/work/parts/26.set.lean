/-! set -/
section T2
variable {G : GT} {l : Launch} {I : HI} {J : HJ} {rd : Option AO} {rr : Nat → Nat} {A : ST}
theorem attr_w {P : PP} {p : Nat} : ∀ w, 1 ≤ w → w ≤ 6 → attr P p (nI w) = P p w
  | 0, h, _ => absurd h (by omega)
  | 1, _, _ => rfl
  | 2, _, _ => rfl
  | 3, _, _ => rfl
  | 4, _, _ => rfl
  | 5, _, _ => rfl
  | 6, _, _ => rfl
  | w + 7, _, h => absurd h (by omega)
theorem m_told {of what : Int32} (ok : OKA A) : MC G l 142 100 [vI of, vI what] A (vI (toldR A of what)) A := by
  intro I J rd rr Q S T hC
  obtain ⟨h1, h2, h3, h4⟩ := hC.1
  have h5 := ok.1.1
  refine Ev_go iM_told rfl rfl rfl ⟨Nat.le_refl _, Nat.le_refl _⟩ (fun K hK => hK.1 [] 120 _ _ _ _ _ ?_)
  unfold toldR
  have hfin : ∀ (hin : 0 ≤ what ∧ what ≤ 9) (hp : what = 0 ∨ (0 ≤ of ∧ of < nI (aN A 0))) (hw0 : ¬ what = 0 → (0 ≤ of ∧ of < nI (aN A 0)) ∧ 1 ≤ what ∧ what ≤ 9), True := fun _ _ _ => True.intro
  refine c_in (b' := 0) (c' := 9) rfl rfl (by decide) ?_
  refine And.intro (fun h6 => ?_) (fun h6 => ?_)
  · rw [iN_0] at h6
    refine ⟨rfl, (I, Q, S, T), ?_, rfl, hC, frM.r⟩
    rw [if_neg (by rintro rfl; exact h6 (by decide)), if_neg (by grind)]
  · rw [iN_0, Classical.not_not] at h6
    refine And.intro (fun h7 => ?_) (fun h7 => ?_)
    · refine And.intro (fun h8 => absurd h8 (by rw [h7]; decide)) (fun h8 => ?_)
      refine And.intro (fun h9 => absurd h7 h9) (fun h9 => ?_)
      refine ⟨rfl, (I, Q, S, T), ?_, rfl, hC, frM.r⟩
      rw [if_pos h7, mf_I (by decide), h2]
      rfl
    · rw [if_neg h7]
      refine c_isOne h1 h5 (by decide) ?_
      refine And.intro (fun h8 => ?_) (fun h8 => ?_)
      · rw [iN_0, Classical.not_not] at h8
        rw [if_pos ⟨h8, by grind, h6.2⟩]
        obtain ⟨p, hp, rfl⟩ := nI_ex h8.1 h8.2 (by omega)
        rw [nI_clamp (by omega)]
        obtain ⟨w, hw, rfl⟩ := nI_ex (x := what) (m := 10) h6.1 (by show what < 10; grind) (by decide)
        have hw0 : w ≠ 0 := by rintro rfl; exact h7 rfl
        have hv : ∀ c : Nat, c < 10 → (nI w = nI c ↔ w = c) := by
          intro c hc
          refine ⟨fun e => ?_, fun e => by rw [e]⟩
          have := congrArg Int32.toInt e
          rw [nI_toInt (by omega), nI_toInt (by omega)] at this
          omega
        refine And.intro (fun h9 => ?_) (fun h9 => ?_)
        · refine And.intro (fun h10 => And.intro (fun h11 => ?_) (fun h11 => ?_)) (fun h10 => ?_)
          · refine CPd_exc (e_mweighsOf (hC.E ok) hC.2.1.2.2 (hC.W ok) hp) (by decide) rfl (fun q hq => ?_)
            refine ⟨rfl, (I, Q, q.1, q.2), ?_, rfl, hC.M hq, frM.r⟩
            have h9' : 7 ≤ w := by
              have := Int32.le_iff_toInt_le.mp h9
              rw [nI_toInt (by omega)] at this
              have h7' : (7 : Int32).toInt = 7 := by decide
              omega
            have h10' : w ≠ 7 := fun e => h10 ((hv 7 (by omega)).mpr e)
            have h11' : w ≠ 8 := fun e => h11 ((hv 8 (by omega)).mpr e)
            rw [if_neg h10, if_neg h11, if_pos (show nI w = 9 from (hv 9 (by omega)).mpr (by omega)), weighs_Ag h4 hp, asl_Ag _ _ h4 (Nat.le_refl _)]
            rfl
          · refine CPd_exc (e_mdoesOf (hC.E ok) hC.2.1.2.2 (hC.W ok) hp) (by decide) rfl (fun q hq => ?_)
            refine ⟨rfl, (I, Q, q.1, q.2), ?_, rfl, hC.M hq, frM.r⟩
            rw [if_neg h10, if_pos h11, does_Ag h4 hp, asl_Ag _ _ h4 (Nat.le_refl _)]
            rfl
          · show vp_in _ _ ∧ _
            refine ⟨nI_in (N := 5) (by omega) (by decide), ?_⟩
            refine ⟨rfl, (I, Q, S, T), ?_, rfl, hC, frM.r⟩
            rw [if_pos h10, nI_clamp (by omega), mf_k, h4 p hp 0 (by omega)]
        · refine And.intro (fun h10 => ?_) (fun h10 => absurd h10 h7)
          have h9' : w < 7 := by
            have this : ¬ (7 : Int32).toInt ≤ (nI w).toInt := fun q => h9 (Int32.le_iff_toInt_le.mpr q)
            rw [nI_toInt (by omega)] at this
            have h7' : (7 : Int32).toInt = 7 := by decide
            omega
          refine c_its rfl rfl (by omega) (by omega) (by decide) ?_
          refine ⟨rfl, (I, Q, S, T), ?_, rfl, hC, frM.r⟩
          rw [if_neg (fun e => by have := (hv 7 (by omega)).mp e; omega), if_neg (fun e => by have := (hv 8 (by omega)).mp e; omega), if_neg (fun e => by have := (hv 9 (by omega)).mp e; omega), attr_w w (by omega) (by omega), h4 p hp w (by omega)]
      · rw [iN_0] at h8
        refine ⟨rfl, (I, Q, S, T), ?_, rfl, hC, frM.r⟩
        rw [if_neg (fun q => h8 q.1)]
def mayI (A : ST) (what of v : Int32) : Int32 := if what = 1 then iN (0 ≤ v ∧ v ≤ 9) else if what = 2 then iN (0 ≤ v ∧ v ≤ 99) else if what = 3 then iN (0 ≤ v ∧ v ≤ 99) else if what = 4 then iN (v = -1 ∨ (v ≠ of ∧ 0 ≤ v ∧ v < nI (aN A 0))) else if what = 5 then iN (0 ≤ v ∧ v ≤ 99) else if what = 6 then iN (0 ≤ v ∧ v ≤ 1) else 0
theorem k_maySet {d : Nat} {what of v : Int32} {post : Option AV → AH → Prop} (h1 : I 17 0 0 1 = nI (aN A 0)) (hd : 1 < d) (k : post (some (vI (mayI A what of v))) (mkH I J rd rr)) : CPd G l d 80 0 55 [vR 0 0 0, vI what, vI of, vI v] (mkH I J rd rr) post := by
  have E : Ev G l 1 (mt 55) 80 80 [vR 0 0 0, vI what, vI of, vI v] (mkH I J rd rr) (fun r h' => r = some (vI (mayI A what of v)) ∧ h' = mkH I J rd rr) := by
    have hz : ∀ (p : Prop) (_ : Decidable p), iN p = 0 ∨ iN p = 1 := fun p _ => by unfold iN; by_cases h : p <;> simp [h]
    refine Ev_go iC_maySet rfl rfl rfl ⟨Nat.le_refl _, Nat.le_refl _⟩ (fun K hK => hK.1 [] 120 _ _ _ _ _ ?_)
    refine And.intro ⟨fun h => ?_, fun h => ?_, fun h => ?_, fun h => ?_, fun h => ?_, fun h => ?_, True.intro⟩ (fun h => ?_)
    · refine k_isWithin (by decide) ⟨hz _ _, rfl, ?_, rfl⟩
      rw [mayI, if_pos h]
    · refine k_isWithin (by decide) ⟨hz _ _, rfl, ?_, rfl⟩
      simp [mayI, h]
    · refine k_isWithin (by decide) ⟨hz _ _, rfl, ?_, rfl⟩
      simp [mayI, h]
    · have hm : mayI A what of v = iN (v = -1 ∨ (v ≠ of ∧ 0 ≤ v ∧ v < nI (aN A 0))) := by simp [mayI, h]
      rw [hm]
      refine And.intro (fun h2 => ?_) (fun h2 => And.intro (fun h3 => ?_) (fun h3 => ?_))
      · exact ⟨Or.inr rfl, rfl, by simp [iN, h2], rfl⟩
      · exact ⟨Or.inl rfl, rfl, by unfold iN; rw [if_neg (by grind)], rfl⟩
      · refine k_isThere h1 (by decide) ?_
        refine And.intro (fun h4 => ?_) (fun h4 => ?_)
        · rw [iN_0] at h4
          exact ⟨Or.inl rfl, rfl, by unfold iN; rw [if_neg (by grind)], rfl⟩
        · rw [iN_0, Classical.not_not] at h4
          exact ⟨Or.inr rfl, rfl, by unfold iN; rw [if_pos (by grind)], rfl⟩
    · refine k_isWithin (by decide) ⟨hz _ _, rfl, ?_, rfl⟩
      simp [mayI, h]
    · refine k_isWithin (by decide) ⟨hz _ _, rfl, ?_, rfl⟩
      simp [mayI, h]
    · refine ⟨Or.inl rfl, rfl, ?_, rfl⟩
      have := h
      simp only [swNo] at this
      simp [mayI, this]
  exact CPd_eq E hd rfl k
theorem upP_self {P : PP} {p a : Nat} : upP P p a (P p a) = P := by
  funext q b
  unfold upP
  by_cases h : q = p ∧ b = a
  · rw [if_pos h, h.1, h.2]
  · rw [if_neg h]
def setOK (A : ST) (what of v : Int32) : Prop := (0 ≤ of ∧ of < nI (aN A 0)) ∧ ¬ mayI A what of v = 0
theorem may_w {what of v : Int32} (h : ¬ mayI A what of v = 0) : ∃ w, 1 ≤ w ∧ w ≤ 6 ∧ what = nI w := by
  unfold mayI at h
  by_cases h1 : what = 1
  · exact ⟨1, by omega, by omega, h1⟩
  by_cases h2 : what = 2
  · exact ⟨2, by omega, by omega, h2⟩
  by_cases h3 : what = 3
  · exact ⟨3, by omega, by omega, h3⟩
  by_cases h4 : what = 4
  · exact ⟨4, by omega, by omega, h4⟩
  by_cases h5 : what = 5
  · exact ⟨5, by omega, by omega, h5⟩
  by_cases h6 : what = 6
  · exact ⟨6, by omega, by omega, h6⟩
  rw [if_neg h1, if_neg h2, if_neg h3, if_neg h4, if_neg h5, if_neg h6] at h
  exact absurd rfl h
noncomputable def setRs (A : ST) (what of v : Int32) : Int32 := if what = 0 then (if 0 ≤ v ∧ v ≤ 999 then dy A else -1000) else if (0 ≤ of ∧ of < nI (aN A 0)) ∧ ¬ mayI A what of v = 0 then attr (aP A) of.toNatClampNeg what else -1000
noncomputable def setAs (A : ST) (what of v : Int32) : ST := if what = 0 then (if 0 ≤ v ∧ v ≤ 999 then stN A 1 v.toNatClampNeg else A) else if (0 ≤ of ∧ of < nI (aN A 0)) ∧ ¬ mayI A what of v = 0 then stP A (upP (aP A) of.toNatClampNeg what.toNatClampNeg v) else A
theorem CF.P {P' P'' : PP} (h : CF I rr A) (hP : Ag (aN A 0) P' P'') : CF (setP I 0 P') rr (stP A P'') := by
  unfold CF RuK at *
  simp only [setP_k (k := 17) (by decide), setP_k (k := 0) (by decide), setP_k (k := 13) (by decide), setP_k (k := 12) (by decide), setP_k (k := 2) (by decide), setP_k (k := 3) (by decide), setP_k (k := 15) (by decide), setP_k (k := 16) (by decide), setP_k (k := 11) (by decide), setP_19, setP_19' (show (2 : Nat) ≠ 0 by decide)]
  exact ⟨⟨h.1.1, h.1.2.1, h.1.2.2.1, hP⟩, h.2⟩
theorem frC.P {v : Nat} {P' : PP} : frC I (setP I v P') J J := fun k hk => ⟨setP_k (by omega), rfl⟩
theorem CF.day {x : Nat} (h : CF I rr A) : CF (upI I 17 0 0 2 (nI x)) rr (stN A 1 x) := by
  have e : ∀ k, k ≠ 17 → upI I 17 0 0 2 (nI x) k = I k := fun k hk => by funext i j t; simp [upI, hk]
  unfold CF RuK at *
  simp only [e 0 (by decide), e 13 (by decide), e 12 (by decide), e 2 (by decide), e 3 (by decide), e 15 (by decide), e 16 (by decide), e 11 (by decide), e 19 (by decide)]
  refine ⟨⟨?_, ?_, h.1.2.2⟩, h.2.1, ⟨h.2.2.1.1, fun hk => ?_⟩, h.2.2.2⟩
  · simp [upI]; exact h.1.1
  · simp [upI, stN, aN]
  · simp [upI]; exact h.2.2.1.2 hk
theorem frC.up {k i j t : Nat} {x : Int32} (hk : k < 20) : frC I (upI I k i j t x) J J := fun k' hk' => ⟨by funext i' j' t'; simp [upI]; intro e; omega, rfl⟩
theorem c_set {what of v : Int32} (ok : OKA A) : CC G l 52 5 [vI what, vI of, vI v] A (vI (setRs A what of v)) (setAs A what of v) := by
  intro I J rd rr hC
  obtain ⟨h1, h2, h3, h4⟩ := hC.1
  have h5 := ok.1.1
  refine Ev_go iC_set rfl rfl rfl ⟨Nat.le_refl _, Nat.le_refl _⟩ (fun K hK => hK.1 [] 120 _ _ _ _ _ ?_)
  unfold setRs setAs
  refine And.intro (fun hw => ?_) (fun hw => ?_)
  · rw [if_neg hw, if_neg hw]
    refine k_isThere h1 (by decide) ?_
    refine And.intro (fun h6 => ?_) (fun h6 => ?_)
    · rw [iN_0] at h6
      refine ⟨rfl, (I, J, rd, rr), ?_, rfl, ?_, fun k hk => ⟨rfl, rfl⟩⟩
      · rw [if_neg (fun q => h6 q.1)]
      · rw [if_neg (fun q => h6 q.1)]; exact hC
    · rw [iN_0, Classical.not_not] at h6
      refine k_maySet h1 (by decide) ?_
      refine And.intro (fun h7 => ?_) (fun h7 => ?_)
      · rw [if_pos ⟨h6, h7⟩, if_pos ⟨h6, h7⟩]
        obtain ⟨w, hw1, hw6, hwe⟩ := may_w h7
        obtain ⟨p, hp, rfl⟩ := nI_ex h6.1 h6.2 (by omega)
        show vp_in _ _ ∧ _
        refine ⟨nI_in (N := 5) (by omega) (by decide), ?_⟩
        rw [nI_clamp (by omega)]
        refine CPd_eq e_attribute (by decide) rfl ?_
        refine CPd_eq e_lay (by decide) rfl ?_
        refine ⟨rfl, (layI I 0 p what v, J, rd, rr), ?_, rfl, ?_, ?_⟩
        · unfold attr
          rw [h4 p hp 1 (by omega), h4 p hp 2 (by omega), h4 p hp 3 (by omega), h4 p hp 4 (by omega), h4 p hp 5 (by omega), h4 p hp 6 (by omega)]
        · have hl : layI I 0 p what v = upI I 19 0 p w v := by
            subst hwe
            match w, hw1, hw6, h7 with
            | 1, _, _, _ => rfl
            | 2, _, _, _ => rfl
            | 3, _, _, _ => rfl
            | 4, _, _, _ => rfl
            | 5, _, _, _ => rfl
            | 6, _, _, h7 =>
              have h8 : 0 ≤ v ∧ v ≤ 1 := by
                have : mayI A (nI 6) (nI p) v = iN (0 ≤ v ∧ v ≤ 1) := rfl
                rw [this, iN_0, Classical.not_not] at h7
                exact h7
              show upI I 19 0 p 6 (if v = 1 then 1 else 0) = _
              rw [show (if v = 1 then (1 : Int32) else 0) = v by grind]
          show CF (layI I 0 p what v) rr _
          rw [hl, upI_P, hwe, nI_clamp (by omega)]
          exact hC.P (h4.up rfl)
        · unfold layI
          split
          · exact frC.up (by decide)
          split
          · exact frC.up (by decide)
          split
          · exact frC.up (by decide)
          split
          · exact frC.up (by decide)
          split
          · exact frC.up (by decide)
          split
          · exact frC.up (by decide)
          · exact fun k hk => ⟨rfl, rfl⟩
      · refine ⟨rfl, (I, J, rd, rr), ?_, rfl, ?_, fun k hk => ⟨rfl, rfl⟩⟩
        · rw [if_neg (fun q => q.2 h7)]
        · rw [if_neg (fun q => q.2 h7)]; exact hC
  · rw [if_pos hw, if_pos hw]
    have E : Ev G l 1 (mt 53) 80 80 [vR 0 0 0, vI v] (mkH I J rd rr) (fun r h' => r = some (vI (if 0 ≤ v ∧ v ≤ 999 then dy A else -1000)) ∧ h' = mkH (if 0 ≤ v ∧ v ≤ 999 then upI I 17 0 0 2 v else I) J rd rr) := by
      refine Ev_go iC_setDay rfl rfl rfl ⟨Nat.le_refl _, Nat.le_refl _⟩ (fun K hK => hK.1 [] 120 _ _ _ _ _ ?_)
      refine And.intro (fun h6 => ?_) (fun h6 => And.intro (fun h7 => ?_) (fun h7 => ?_))
      · refine ⟨rfl, ?_, ?_⟩
        · rw [if_neg (by grind)]
        · rw [if_neg (by grind)]
      · refine ⟨rfl, ?_, ?_⟩
        · rw [if_pos (by grind), getI_mk, h2]; rfl
        · rw [if_pos (by grind)]; rfl
      · refine ⟨rfl, ?_, ?_⟩
        · rw [if_neg (by grind)]
        · rw [if_neg (by grind)]
    refine CPd_eq E (by decide) rfl ?_
    refine ⟨rfl, (if 0 ≤ v ∧ v ≤ 999 then upI I 17 0 0 2 v else I, J, rd, rr), rfl, rfl, ?_, ?_⟩
    · by_cases h6 : 0 ≤ v ∧ v ≤ 999
      · obtain ⟨x, hx, rfl⟩ := nI_ex (x := v) (m := 1000) h6.1 (by show v < 1000; grind) (by decide)
        show CF (if _ then _ else _) _ _
        rw [if_pos h6, if_pos h6, nI_clamp (by omega)]
        exact hC.day
      · show CF (if _ then _ else _) _ _
        rw [if_neg h6, if_neg h6]
        exact hC
    · show frC I (if _ then _ else _) J J
      split
      · exact frC.up (by decide)
      · exact fun k hk => ⟨rfl, rfl⟩
end T2
