section T9
variable {G : GT} {l : Launch} {I : HI} {J : HJ} {rd : Option AO} {rr : Nat → Nat} {A : ST}
def up20s (I : HI) (x36 x37 x38 : Int32) : HI := upI (upI (upI I 20 0 0 36 x36) 20 0 0 37 x37) 20 0 0 38 x38
theorem m_image (ok : OKA A) : MC G l 203 100 [] A (vI (nI (aN A 0))) (imageA A) := by
  intro I J rd rr Q S T hC
  obtain ⟨h1, h2, h3, h4⟩ := hC.1
  have h5 := ok.1.1
  refine Ev_go iM_image rfl rfl rfl ⟨Nat.le_refl _, Nat.le_refl _⟩ (fun K hK => ?_)
  have loop : ∀ j k, k + j = 30 → K 80 2 [some (vR 20 0 0), some (vI (nI k))] [] (mf (wrI I 31 (rowF Q) k) J rd rr Q S T) := by
    intro j
    induction j with
    | zero =>
      intro k hk
      refine hK.1 [] 50 _ _ _ _ _ ?_
      rw [show k = 30 by omega]
      refine And.intro (fun _ => ?_) (fun h => absurd (by decide) h)
      have e : ∀ k, k ≠ 31 → wrI I 31 (rowF Q) 30 k = I k := fun k hk => wrI_k hk
      refine ⟨rfl, (up20s (wrI I 31 (rowF Q) 30) (nI (aN A 0)) (nI (aN A 1)) (nI (aN A 2)), Q, S, T), ?_, ?_, ?_, ?_⟩
      · rw [mf_I (by decide), mf_wI (by decide), mf_I (by decide), mf_wI (by decide), mf_I (by decide), mf_wI (by decide), mf_I (by decide)]
        simp only [upI_at]
        simp [e 20 (by decide), h1]
      · rw [mf_I (by decide), mf_wI (by decide), mf_I (by decide), mf_wI (by decide), mf_I (by decide), mf_wI (by decide)]
        unfold up20s
        rw [e 20 (by decide), h1, upI_at, if_neg (by simp), e 20 (by decide), h2, upI_at, if_neg (by simp), upI_at, if_neg (by simp), e 20 (by decide), h3]
      · have e2 : ∀ k, k ≠ 20 → k ≠ 31 → up20s (wrI I 31 (rowF Q) 30) (nI (aN A 0)) (nI (aN A 1)) (nI (aN A 2)) k = I k := by
          intro k hk hk'
          unfold up20s
          rw [up20 hk, up20 hk, up20 hk, e k hk']
        have e3 : ∀ t, t < 36 → up20s (wrI I 31 (rowF Q) 30) (nI (aN A 0)) (nI (aN A 1)) (nI (aN A 2)) 20 0 0 t = I 20 0 0 t := by
          intro t ht
          unfold up20s
          rw [up20t (by omega), up20t (by omega), up20t (by omega), e 20 (by decide)]
        show MF G l (up20s (wrI I 31 (rowF Q) 30) (nI (aN A 0)) (nI (aN A 1)) (nI (aN A 2))) Q S T (imageA A)
        unfold MF
        rw [e2 23 (by decide) (by decide), e2 32 (by decide) (by decide), e2 33 (by decide) (by decide), e2 34 (by decide) (by decide), e2 35 (by decide) (by decide), e3 10 (by decide), e3 7 (by decide), e3 4 (by decide), e3 3 (by decide), e3 6 (by decide)]
        refine ⟨⟨h1, h2, h3, h4⟩, ⟨hC.2.1.1, hC.2.1.2.1.same (by rw [e2 21 (by decide) (by decide)]) (by rw [e2 22 (by decide) (by decide)]), hC.2.1.2.2⟩, ⟨fun h => absurd h (by show ¬ (1 : Nat) = 0; decide), fun _ => ⟨?_, ?_, ?_, fun p hp a ha => ?_⟩⟩, hC.2.2.2⟩
        · unfold up20s; rw [up20t (by decide), up20t (by decide), upI_s]; rfl
        · unfold up20s; rw [up20t (by decide), upI_s]; rfl
        · unfold up20s; rw [upI_s]; rfl
        · have hp : p < aN A 0 := hp
          unfold up20s
          rw [up20 (by decide), up20 (by decide), up20 (by decide), wrI_at, if_pos (by omega)]
          unfold rowF
          rw [show (6 * p + a) / 6 = p by omega, show (6 * p + a) % 6 + 1 = a + 1 by omega]
          exact h4 p hp (a + 1) (by omega)
      · intro k hk
        show up20s _ _ _ _ k = I k
        unfold up20s
        rw [up20 (by omega), up20 (by omega), up20 (by omega), e k (by omega)]
    | succ j ih =>
      intro k hk
      refine hK.1 [(2, [true, true])] 50 _ _ _ _ _ ?_
      refine And.intro (fun h1 => absurd h1 (nI_ge (a := k) (b := 30) (by omega) (by decide))) (fun h1 => ⟨nI_in (N := 30) (by omega) (by decide), nI_in (N := 30) (by omega) (by decide), ?_⟩)
      show K 80 2 _ _ _
      refine Kc (ih (k + 1) (by omega)) (by rw [nI_succ]; rfl) ?_
      rw [nI_clamp (by omega), mf_r, mf_wI (by simp)]
      rw [← wrI_s]
      rfl
  refine hK.1 [(2, [true, true])] 50 _ _ _ _ _ ?_
  show K 80 2 _ _ _
  refine Kc (loop 30 0 rfl) rfl ?_
  rw [wrI_0]
theorem m_back (ok : OKA A) : MC G l 204 100 [] A (vI (backR A)) (backA A) := by
  intro I J rd rr Q S T hC
  obtain ⟨h1, h2, h3, h4⟩ := hC.1
  have h5 := ok.1.1
  unfold backR backA
  by_cases hc : aN A 5 = 1
  · rw [if_pos hc, if_pos hc]
    obtain ⟨g1, g2, g3, g4⟩ := hC.2.2.1.2 hc
    obtain ⟨a1, a2, a3, a4, a5⟩ := ok.2.1.2 hc
    refine Ev_go iM_back rfl rfl rfl ⟨Nat.le_refl _, Nat.le_refl _⟩ (fun K hK => ?_)
    have loop : ∀ j k, k + j = 30 → K 80 13 [some (vR 20 0 0), some (vI (nI k))] [] (mf I J rd rr (bakP (I 31 0 0) Q k) S T) := by
      intro j
      induction j with
      | zero =>
        intro k hk
        refine hK.1 [] 50 _ _ _ _ _ ?_
        rw [show k = 30 by omega]
        refine And.intro (fun _ => ?_) (fun h => absurd (by decide) h)
        refine ⟨rfl, (upI (upI (upI I 20 0 0 10 (nI (aN A 6))) 20 0 0 7 (nI (aN A 7))) 20 0 0 4 (nI (aN A 8)), bakP (I 31 0 0) Q 30, S, T), ?_, ?_, ?_, ?_⟩
        · rw [mf_I (by decide), mf_wI (by decide), mf_I (by decide), mf_wI (by decide), mf_I (by decide), mf_wI (by decide), mf_I (by decide)]
          simp only [upI_at]
          simp [g1]
        · rw [mf_I (by decide), mf_wI (by decide), mf_I (by decide), mf_wI (by decide), mf_I (by decide), mf_wI (by decide)]
          rw [g1, upI_at, if_neg (by simp), g2, upI_at, if_neg (by simp), upI_at, if_neg (by simp), g3]
        · have e2 : ∀ k, k ≠ 20 → upI (upI (upI I 20 0 0 10 (nI (aN A 6))) 20 0 0 7 (nI (aN A 7))) 20 0 0 4 (nI (aN A 8)) k = I k := by
            intro k hk
            rw [up20 hk, up20 hk, up20 hk]
          have e3 : ∀ t, t ≠ 10 → t ≠ 7 → t ≠ 4 → upI (upI (upI I 20 0 0 10 (nI (aN A 6))) 20 0 0 7 (nI (aN A 7))) 20 0 0 4 (nI (aN A 8)) 20 0 0 t = I 20 0 0 t := by
            intro t ht ht' ht''
            rw [up20t ht'', up20t ht', up20t ht]
          show MF G l (upI (upI (upI I 20 0 0 10 (nI (aN A 6))) 20 0 0 7 (nI (aN A 7))) 20 0 0 4 (nI (aN A 8))) (bakP (I 31 0 0) Q 30) S T _
          unfold MF
          rw [e2 23 (by decide), e2 31 (by decide), e2 32 (by decide), e2 33 (by decide), e2 34 (by decide), e2 35 (by decide), e3 3 (by decide) (by decide) (by decide), e3 6 (by decide) (by decide) (by decide), e3 36 (by decide) (by decide) (by decide), e3 37 (by decide) (by decide) (by decide), e3 38 (by decide) (by decide) (by decide)]
          refine ⟨⟨?_, ?_, ?_, fun p hp a ha => ?_⟩, ⟨hC.2.1.1, hC.2.1.2.1.same (by rw [e2 21 (by decide)]) (by rw [e2 22 (by decide)]), hC.2.1.2.2⟩, hC.2.2⟩
          · rw [up20t (by decide), up20t (by decide), upI_s]; rfl
          · rw [up20t (by decide), upI_s]; rfl
          · rw [upI_s]; rfl
          · have hp : p < aN A 6 := hp
            show bakP (I 31 0 0) Q 30 p a = aK A p a
            unfold bakP
            by_cases h0 : a = 0
            · subst h0
              rw [if_neg (by omega), h4 p (by omega) 0 (by omega), a5 p hp]
            · rw [if_pos (by omega), g4 p hp (a - 1) (by omega), show a - 1 + 1 = a by omega]
        · intro k hk
          show upI (upI (upI I 20 0 0 10 _) 20 0 0 7 _) 20 0 0 4 _ k = I k
          rw [up20 (by omega), up20 (by omega), up20 (by omega)]
      | succ j ih =>
        intro k hk
        refine hK.1 [(13, [true, true])] 50 _ _ _ _ _ ?_
        refine And.intro (fun h1 => absurd h1 (nI_ge (a := k) (b := 30) (by omega) (by decide))) (fun h1 => ⟨nI_in (N := 30) (by omega) (by decide), nI_in (N := 30) (by omega) (by decide), ?_⟩)
        show K 80 13 _ _ _
        refine Kc (ih (k + 1) (by omega)) (by rw [nI_succ]; rfl) ?_
        rw [nI_clamp (by omega), mf_I (by simp), mf_wr (p := k / 6) (a := k % 6) (by omega) (by omega), bak_s]
    refine hK.1 [(13, [true, true])] 50 _ _ _ _ _ ?_
    refine And.intro (fun h6 => ?_) (fun h6 => ?_)
    · show K 80 13 _ _ _
      refine Kc (loop 30 0 rfl) rfl ?_
      have : bakP (I 31 0 0) Q 0 = Q := by funext p a; simp [bakP]
      rw [this]
    · rw [mf_I (by decide), g1] at h6
      have := congrArg Int32.toInt h6
      rw [nI_toInt (by omega)] at this
      have h5' : (-1 : Int32).toInt = -1 := by decide
      omega
  · rw [if_neg hc, if_neg hc]
    have h0 : aN A 5 = 0 := by have := ok.2.1.1; omega
    refine Ev_go iM_back rfl rfl rfl ⟨Nat.le_refl _, Nat.le_refl _⟩ (fun K hK => hK.1 [] 120 _ _ _ _ _ ?_)
    refine And.intro (fun h6 => absurd (hC.2.2.1.1 h0) ?_) (fun h6 => ?_)
    · rw [mf_I (by decide)] at h6
      exact h6
    · exact ⟨rfl, (I, Q, S, T), rfl, rfl, hC, frM.r⟩
end T9
