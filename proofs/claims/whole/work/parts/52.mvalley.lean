section T28
variable {G : GT} {l : Launch} {I : HI} {J : HJ} {rd : Option AO} {rr : Nat → Nat} {A : ST}
theorem m_valley {s so a n : Int32} (ok : OKA A) : MC G l 208 101 [vI s, vI so, vI a, vI n] A (vI (valleyR A s so a n)) (valleyA A s so a n) := by
  intro I J rd rr Q S T hC
  refine Ev_go iM_valley rfl rfl rfl ⟨Nat.le_refl _, Nat.le_refl _⟩ (fun K hK => ?_)
  refine hK.1 [(75, [true, true, true, true, true, true, true, false])] 120 _ _ _ _ _ ?_
  unfold valleyR valleyA at hK
  unfold valleyR valleyA
  refine k_misSheet (by decide) ?_
  refine And.intro (fun h6 => ?_) (fun h6 => ?_)
  · rw [if_neg (fun q => iN_n h6 q.1), if_neg (fun q => iN_n h6 q.1)]
    exact ⟨rfl, (I, Q, S, T), rfl, rfl, hC, frM.r⟩
  · refine c_in (b' := 0) (c' := 2) rfl rfl (by decide) ?_
    refine And.intro (fun h7 => ?_) (fun h7 => ?_)
    · rw [if_neg (fun q => iN_n h7 q.2.1), if_neg (fun q => iN_n h7 q.2.1)]
      exact ⟨rfl, (I, Q, S, T), rfl, rfl, hC, frM.r⟩
    · refine c_in (b' := 0) (c' := 5) rfl rfl (by decide) ?_
      refine And.intro (fun h8 => ?_) (fun h8 => ?_)
      · have hc := And.intro (iN_y h6) (And.intro (iN_y h7) (iN_y h8))
        rw [if_pos hc, if_pos hc] at hK ⊢
        obtain ⟨s, hs, rfl⟩ := rg_of (n := 3) hc.1.1 hc.1.2 (by decide)
        obtain ⟨m, hm, rfl⟩ := rg_of (n := 5) hc.2.2.1 hc.2.2.2 (by decide)
        obtain ⟨z, hz, ez⟩ := sz_ex ok (s := s) (by omega)
        have hhs := hC.2.2.2.2 s (by omega)
        rw [nI_clamp (n := s) (by omega), nI_clamp (n := m) (by omega), ez, nI_clamp (n := z) (by omega)] at hK ⊢
        refine ⟨nI_in (N := 4) (by omega) (by decide), fun _ => ?_⟩
        rw [nI_clamp (n := s) (by omega), mf_I (by simp)]
        refine And.intro (fun h9 => ?_) (fun h9 => ?_)
        · have hm1 : aS A s 0 = -1 := by
            refine Classical.byContradiction fun e => ?_
            have := (hhs.2 e).1
            rw [h9] at this
            exact absurd this (by decide)
          refine ⟨nI_in (N := 4) (by omega) (by decide), fun _ => ?_⟩
          rw [nI_clamp (n := s) (by omega), mf_I (by simp)]
          refine And.intro (fun h => absurd h9 h) (fun _ => ?_)
          rw [if_pos hm1, if_pos hm1]
          exact ⟨rfl, (I, Q, S, T), rfl, rfl, hC, frM.r⟩
        · have hs0 : ¬ aS A s 0 = -1 := fun e => h9 (hhs.1 e)
          obtain ⟨g1, g2, g3, g4⟩ := hhs.2 hs0
          rw [if_neg hs0, if_neg hs0] at hK ⊢
          show vp_in _ _ ∧ _
          refine ⟨nI_in (N := 4) (by omega) (by decide), ?_⟩
          rw [nI_clamp (n := s) (by omega), mf_I (by simp), g2]
          refine And.intro (fun h10 => ?_) (fun h10 => ?_)
          · rw [if_pos h10, if_pos h10] at hK
            refine ⟨nI_in (N := 4) (by omega) (by decide), fun _ => ?_⟩
            rw [nI_clamp (n := s) (by omega), mf_I (by simp)]
            refine And.intro (fun _ => ?_) (fun h => absurd h h9)
            have loop : ∀ j k c A1 (x : XM), k + j = m → MF G l x.1 x.2.1 x.2.2.1 x.2.2.2 A1 → OKA A1 → aS A1 = aS A → frM I x.1 → valF (aS A s) z a j k c A1 = valF (aS A s) z a m 0 0 A → K 80 75 [some (vR 20 0 0), some (vI (nI s)), some (vI so), some (vI a), some (vI (nI m)), some (vI c), some (vI (nI k)), none] [] (mf x.1 J rd rr x.2.1 x.2.2.1 x.2.2.2) := by
              intro j
              induction j with
              | zero =>
                intro k c A1 x hk hC1 ok1 hS hf hv
                refine hK.1 [] 100 _ _ _ _ _ ?_
                rw [show k = m by omega]
                refine And.intro (fun _ => ?_) (fun h => absurd (nI_le (Nat.le_refl _) (by omega)) h)
                rw [← hv]
                exact ⟨rfl, x, rfl, rfl, hC1, hf⟩
              | succ j ih =>
                intro k c A1 x hk hC1 ok1 hS hf hv
                refine hK.1 [(75, [true, true, true, true, true, true, true, false])] 100 _ _ _ _ _ ?_
                refine And.intro (fun h => absurd h (nI_ge (by omega) (by omega))) (fun _ => ?_)
                have hhs1 := hC1.2.2.2.2 s (by omega)
                rw [hS] at hhs1
                obtain ⟨g1, g2, g3, g4⟩ := hhs1.2 hs0
                rw [valF] at hv
                have out : ¬ rmP z a (nI (2 * k + 2)) → (valF (aS A s) z a m 0 0 A).1 = -12 ∧ (valF (aS A s) z a m 0 0 A).2 = A1 := by
                  intro hr
                  rw [if_neg hr] at hv
                  rw [← hv]
                  exact ⟨rfl, rfl⟩
                refine And.intro (fun h11 => ?_) (fun h11 => ?_)
                · obtain ⟨o1, o2⟩ := out (fun q => by have := q.1; grind)
                  refine ⟨rfl, x, by rw [o1], rfl, ?_, hf⟩
                  rw [o2]
                  exact hC1
                · have a0 : 0 ≤ a := by grind
                  show vp_in _ _ ∧ _
                  refine ⟨nI_in (N := 4) (by omega) (by decide), ?_⟩
                  rw [nI_clamp (n := s) (by omega), mf_I (by simp), g3, ez]
                  have e2 : nI z - 2 * nI k - 2 = nI z - nI (2 * k + 2) := by rw [← nI_2k2]; grind
                  have b0 : (0 : Int32) ≤ nI (2 * k + 2) := nI_pos' (by omega)
                  refine And.intro (fun h12 => ?_) (fun h12 => ?_)
                  · have h12 : a ≤ nI z - nI (2 * k + 2) := by rw [← e2]; exact h12
                    have hr : rmP z a (nI (2 * k + 2)) := ⟨a0, b0, (rm_m hz b0).mp h12⟩
                    rw [if_pos hr] at hv
                    clear out
                    obtain ⟨a', b, rfl, hb, hab⟩ := rm_ex hr hz
                    have hbb : b = 2 * k + 2 := by
                      have := congrArg Int32.toInt hb
                      rw [nI_toInt (by omega), nI_toInt (by omega)] at this
                      omega
                    subst hbb
                    rw [nI_clamp (n := a') (by omega)] at hv
                    show vp_in _ _ ∧ vp_in _ _ ∧ _
                    rw [nI_40, nI_2k, nI_plus, ← nI_succ]
                    refine ⟨nI_in (N := 160) (by omega) (by decide), nI_in (N := 160) (by omega) (by decide), ?_⟩
                    rw [nI_clamp (n := 40 * s + a' + 2 * k) (by omega), nI_clamp (n := 40 * s + a' + 2 * k + 1) (by omega), mf_I (by simp), mf_I (by simp), show 40 * s + a' + 2 * k + 1 = 40 * s + (a' + 2 * k + 1) by omega, show 40 * s + a' + 2 * k = 40 * s + (a' + 2 * k) by omega, g4 (a' + 2 * k) z hz ez (by omega), g4 (a' + 2 * k + 1) z hz ez (by omega)]
                    refine CPd_exc (m_person ok1 x.1 J rd rr x.2.1 x.2.2.1 x.2.2.2 hC1) (by decide) rfl (fun y hy => ?_)
                    have hf' : frM I y.1 := fun k hk => (hy.2 k hk).trans (hf k hk)
                    refine And.intro (fun h12 => ?_) (fun h12 => ?_)
                    · rw [if_pos h12] at hv
                      show K 80 75 _ _ _
                      refine Kc (ih (k + 1) c _ y (by omega) hy.1 (ok_person ok1) (person_S.trans hS) hf' hv) ?_ rfl
                      rw [nI_succ, Int32.add_zero]
                      rfl
                    · rw [if_neg h12] at hv
                      show K 80 75 _ _ _
                      exact Kc (ih (k + 1) (c + 1) _ y (by omega) hy.1 (ok_person ok1) (person_S.trans hS) hf' hv) (by rw [nI_succ]; rfl) rfl
                  · have h12 : ¬ a ≤ nI z - nI (2 * k + 2) := by rw [← e2]; exact h12
                    obtain ⟨o1, o2⟩ := out (fun q => h12 ((rm_m hz b0).mpr q.2.2))
                    refine ⟨rfl, x, by rw [o1], rfl, ?_, hf⟩
                    rw [o2]
                    exact hC1
            show K 80 75 _ _ _
            exact loop m 0 0 A (I, Q, S, T) (by omega) hC ok rfl frM.r rfl
          · rw [if_neg h10, if_neg h10]
            exact ⟨rfl, (I, Q, S, T), rfl, rfl, hC, frM.r⟩
      · rw [if_neg (fun q => iN_n h8 q.2.2), if_neg (fun q => iN_n h8 q.2.2)]
        exact ⟨rfl, (I, Q, S, T), rfl, rfl, hC, frM.r⟩
end T28
