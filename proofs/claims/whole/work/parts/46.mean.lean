/-! mean -/
section T22
variable {G : GT} {l : Launch} {I : HI} {J : HJ} {rd : Option AO} {rr : Nat → Nat} {A : ST}
theorem sum_rg {P : PP} : ∀ (m : Nat), (∀ p, p < m → rg (P p 2) 99) → rg (sumT P m) (99 * m)
  | 0, _ => ⟨0, by omega, rfl⟩
  | m + 1, h => by
    obtain ⟨a, ha, ea⟩ := sum_rg m (fun p hp => h p (by omega))
    obtain ⟨b, hb, eb⟩ := h m (by omega)
    exact ⟨a + b, by omega, by rw [sumT, ea, eb, nI_plus]⟩
theorem WF.sum {P : PP} {m : Nat} (h : WF P m) : rg (sumT P m) (99 * m) := sum_rg m (fun p hp => (h p hp).2.2.1)
def meanR (A : ST) (pa : Int32) : Int64 := if (0 ≤ pa ∧ pa ≤ 1) ∧ aN A 0 ≠ 0 then lowR (sumT (aP A) (aN A 0)).toNatClampNeg (aN A 0) pa else -4611686018427387904
theorem c_mean {pa : Int32} (ok : OKA A) : CC G l 106 5 [vI pa] A (vL (meanR A pa)) A := by
  intro I J rd rr hC
  obtain ⟨h1, h2, h3, h4⟩ := hC.1
  have h5 := ok.1.1
  unfold meanR
  refine Ev_go iC_mean rfl rfl rfl ⟨Nat.le_refl _, Nat.le_refl _⟩ (fun K hK => hK.1 [] 120 _ _ _ _ _ ?_)
  refine k_isWithin (by decide) ?_
  refine And.intro (fun h6 => ?_) (fun h6 => ?_)
  · rw [if_neg (fun q => iN_n h6 q.1)]
    exact ⟨rfl, (I, J, rd, rr), rfl, rfl, hC, fun k hk => ⟨rfl, rfl⟩⟩
  · have hc := iN_y h6
    refine And.intro (fun h7 => ?_) (fun h7 => ?_)
    · rw [getI_mk, h1] at h7
      have hm : aN A 0 ≠ 0 := fun e => h7 (by rw [e]; rfl)
      rw [if_pos ⟨hc, hm⟩]
      refine CPd_eq (e_tiredTogether (d := 0) h1 h5) (by decide) rfl ?_
      show CPd _ _ _ _ _ _ _ _ _
      rw [getI_mk, h1, sum_Ag _ _ h4 (Nat.le_refl _)]
      obtain ⟨s, hs, hse⟩ := ok.1.2.2.2.2.sum
      rw [hse, nI_clamp (by omega)]
      refine CPd_eq (e_inLowest (by omega) (by omega) (by omega)) (by decide) rfl ?_
      exact ⟨rfl, (I, J, rd, rr), rfl, rfl, hC, fun k hk => ⟨rfl, rfl⟩⟩
    · rw [getI_mk, h1] at h7
      have hm : ¬ aN A 0 ≠ 0 := fun e => nI_ne0 (by omega) (by omega) h7
      rw [if_neg (fun q => hm q.2)]
      exact ⟨rfl, (I, J, rd, rr), rfl, rfl, hC, fun k hk => ⟨rfl, rfl⟩⟩
theorem m_mean {pa : Int32} (ok : OKA A) : MC G l 194 100 [vI pa] A (vL (meanR A pa)) A := by
  intro I J rd rr Q S T hC
  obtain ⟨h1, h2, h3, h4⟩ := hC.1
  have h5 := ok.1.1
  unfold meanR
  refine Ev_go iM_mean rfl rfl rfl ⟨Nat.le_refl _, Nat.le_refl _⟩ (fun K hK => hK.1 [] 120 _ _ _ _ _ ?_)
  refine c_in (b' := 0) (c' := 1) rfl rfl (by decide) ?_
  refine And.intro (fun h6 => ?_) (fun h6 => ?_)
  · rw [if_neg (fun q => iN_n h6 q.1)]
    exact ⟨rfl, (I, Q, S, T), rfl, rfl, hC, frM.r⟩
  · have hc := iN_y h6
    refine And.intro (fun h7 => ?_) (fun h7 => ?_)
    · rw [mf_I (by decide), h1] at h7
      have hm : ¬ aN A 0 ≠ 0 := fun e => by
        have := nI_lt (a := 0) (b := aN A 0) (by omega) (by omega)
        have h7' : nI (aN A 0) ≤ nI 0 := h7
        grind
      rw [if_neg (fun q => hm q.2)]
      exact ⟨rfl, (I, Q, S, T), rfl, rfl, hC, frM.r⟩
    · rw [mf_I (by decide), h1] at h7
      have hm : aN A 0 ≠ 0 := fun e => h7 (by rw [e]; decide)
      rw [if_pos ⟨hc, hm⟩]
      refine c_tiredAll h1 h5 (by decide) ?_
      show CPd _ _ _ _ _ _ _ _ _
      rw [mf_I (by decide), h1, sum_Ag _ _ h4 (Nat.le_refl _)]
      obtain ⟨s, hs, hse⟩ := ok.1.2.2.2.2.sum
      rw [hse, nI_clamp (by omega), nL_I (by omega), nL_I (by omega)]
      refine CPd_eq (e_lowest (by omega) (by omega) (by omega)) (by decide) rfl ?_
      exact ⟨rfl, (I, Q, S, T), rfl, rfl, hC, frM.r⟩
end T22
