section T30
variable {G : GT} {l : Launch} {I : HI} {J : HJ} {rd : Option AO} {rr : Nat → Nat} {A : ST}
theorem m_drawn {z n : Int32} (ok : OKA A) : MC G l 201 100 [vI z, vI n] A (vI (drawnR A z n)) A := by
  intro I J rd rr Q S T hC
  obtain ⟨h1, h2, h3, h4⟩ := hC.1
  have h5 := ok.1.1
  have hd9 := ok.1.2.1
  refine Ev_go iM_drawn rfl rfl rfl ⟨Nat.le_refl _, Nat.le_refl _⟩ (fun K hK => ?_)
  refine hK.1 [(24, [true, false, true, true, true, false, false])] 100 _ _ _ _ _ ?_
  unfold drawnR at hK
  unfold drawnR
  refine c_in (b' := 0) (c' := 40) rfl rfl (by decide) ?_
  refine And.intro (fun h6 => ?_) (fun h6 => ?_)
  · have hc := iN_y h6
    rw [if_pos hc] at hK
    obtain ⟨m, hm, rfl⟩ := rg_of (n := 40) hc.1 hc.2 (by decide)
    rw [nI_clamp (n := m) (by omega)] at hK
    have hWQ : WF Q (aN A 0) := hC.W ok
    have loop : ∀ j k S' T', k + j = m → MOK (aN A 3) (aB A) S' T' → K 80 24 [some (vR 20 0 0), none, some (vI (nI m)), some (vI (drZ z k)), some (vI (nI k)), none, none] [] (mf (rI I Q (nI (aN A 1 + k))) J rd rr (drP (bO A) (dy A) (aN A 0) Q z k) S' T') := by
      intro j
      induction j with
      | zero =>
        intro k S' T' hk hM
        refine hK.1 [] 100 _ _ _ _ _ ?_
        rw [show k = m by omega]
        refine And.intro (fun _ => ?_) (fun h => absurd (nI_le (Nat.le_refl _) (by omega)) h)
        have hmm : rI I Q (nI (aN A 1 + m)) 20 0 0 10 = nI (aN A 0) := by rw [rI_t (by decide) (by decide)]; exact h1
        refine c_tiredAll hmm h5 (by decide) ?_
        refine r_back hC ok hM (fun p => drP_0 m) (by decide) (fun Q2 hF _ => ?_)
        refine ⟨rfl, (_, Q2, S', T'), ?_, rfl, hF, frM.rI⟩
        rw [sum_Ag _ _ (drP_Ag h4 h5 m) (Nat.le_refl _)]
        rfl
      | succ j ih =>
        intro k S' T' hk hM
        refine hK.1 [(24, [true, false, true, true, true, false, false])] 100 _ _ _ _ _ ?_
        refine And.intro (fun h => absurd h (nI_ge (by omega) (by omega))) (fun _ => ?_)
        refine ⟨by decide, by decide, ?_⟩
        have hmm : rI I Q (nI (aN A 1 + k)) 20 0 0 10 = nI (aN A 0) := by rw [rI_t (by decide) (by decide)]; exact h1
        have hW : WF (earS (aN A 0) (drP (bO A) (dy A) (aN A 0) Q z k) (pkd (drw (drZ z k))) (pkd (drw (drw (drZ z k))))) (aN A 0) := ear_WF (drP_WF hWQ h5 k) h5
        have go : ∀ P', P' = earS (aN A 0) (drP (bO A) (dy A) (aN A 0) Q z k) (pkd (drw (drZ z k))) (pkd (drw (drw (drZ z k)))) → CPd G l 100 80 0 178 [vR 20 0 0] (mf (rI I Q (nI (aN A 1 + k))) J rd rr P' S' T') (fun r h => K 80 24 [some (vR 20 0 0), none, some (vI (nI m)), some (vI (drZ z (k + 1))), some (vI (nI (k + 1))), none, none] (pushR r []) h) := by
          rintro P' rfl
          refine r_passes hC ok (by omega) hM hW (by decide) (fun q hq => ?_)
          refine Kc (ih (k + 1) q.1 q.2 (by omega) hq) rfl ?_
          rw [drP, show aN A 1 + (k + 1) = aN A 1 + k + 1 by omega]
          unfold dy
          rw [nI_plus]
        rw [show nI (k + 1) = nI k + 1 from nI_succ k] at go
        refine c_isOne hmm h5 (by decide) ?_
        refine And.intro (fun h7 => ?_) (fun h7 => ?_)
        · exact go _ (by unfold earS; rw [if_neg (fun q => iN_n h7 q.1)])
        · refine c_isOne hmm h5 (by decide) ?_
          refine And.intro (fun h8 => ?_) (fun h8 => ?_)
          · exact go _ (by unfold earS; rw [if_neg (fun q => iN_n h8 q.2.1)])
          · refine And.intro (fun h9 => ?_) (fun h9 => ?_)
            · exact go _ (by unfold earS; rw [if_neg (fun q => q.2.2 h9)])
            · have hc1 := iN_y h7
              obtain ⟨p, hp, hpe⟩ := nI_ex hc1.1 hc1.2 (by omega)
              refine c_lays (p := p) (w := 4) hpe rfl (by omega) (by decide) (by decide) ?_
              refine go _ ?_
              unfold earS
              rw [if_pos ⟨iN_y h7, iN_y h8, h9⟩]
              have hpe' : pkd (drw (drZ z k)) = nI p := hpe
              rw [hpe', nI_clamp (n := p) (by omega)]
              rfl
    refine r_keeps hC (by decide) ?_
    show K 80 24 _ _ _
    exact loop m 0 S T (by omega) hC.2.1.2.2
  · rw [if_neg (iN_n h6)]
    exact ⟨rfl, (I, Q, S, T), rfl, rfl, hC, frM.r⟩
end T30
