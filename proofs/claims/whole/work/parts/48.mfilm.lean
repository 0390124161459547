section T24
variable {G : GT} {l : Launch} {I : HI} {J : HJ} {rd : Option AO} {rr : Nat → Nat} {A : ST}
theorem rI_w {Q : PP} {x v : Int32} {t : Nat} : upI (rI I Q x) 35 0 0 t v = rI (upI I 35 0 0 t v) Q x := by
  funext k' i' j' t'
  simp only [upI, rI, keepI, wrI]
  grind
theorem m_film {s one n : Int32} (ok : OKA A) : MC G l 199 101 [vI s, vI one, vI n] A (vI (filmR A s one n)) (filmA A s one n) := by
  intro I J rd rr Q S T hC
  obtain ⟨h1, h2, h3, h4⟩ := hC.1
  have h5 := ok.1.1
  have hd9 := ok.1.2.1
  refine Ev_go iM_film rfl rfl rfl ⟨Nat.le_refl _, Nat.le_refl _⟩ (fun K hK => ?_)
  refine hK.1 [(45, [true, true, true, true, true])] 100 _ _ _ _ _ ?_
  unfold filmR filmA at hK
  unfold filmR filmA
  refine k_misSheet (by decide) ?_
  refine And.intro (fun h6 => ?_) (fun h6 => ?_)
  · rw [if_neg (fun q => iN_n h6 q.1), if_neg (fun q => iN_n h6 q.1)]
    exact ⟨rfl, (I, Q, S, T), rfl, rfl, hC, frM.r⟩
  · refine c_isOne h1 h5 (by decide) ?_
    refine And.intro (fun h7 => ?_) (fun h7 => ?_)
    · rw [if_neg (fun q => iN_n h7 q.2.1), if_neg (fun q => iN_n h7 q.2.1)]
      exact ⟨rfl, (I, Q, S, T), rfl, rfl, hC, frM.r⟩
    · refine c_in (b' := 0) (c' := 20) rfl rfl (by decide) ?_
      refine And.intro (fun h8 => ?_) (fun h8 => ?_)
      rotate_left
      · rw [if_neg (fun q => iN_n h8 q.2.2), if_neg (fun q => iN_n h8 q.2.2)]
        exact ⟨rfl, (I, Q, S, T), rfl, rfl, hC, frM.r⟩
      · have hc := And.intro (iN_y h6) (And.intro (iN_y h7) (iN_y h8))
        rw [if_pos hc, if_pos hc] at hK
        clear h6 h7 h8
        obtain ⟨s, hs, rfl⟩ := rg_of (n := 3) hc.1.1 hc.1.2 (by decide)
        obtain ⟨p, hp, rfl⟩ := nI_ex hc.2.1.1 hc.2.1.2 (by omega)
        obtain ⟨z, hz, rfl⟩ := rg_of (n := 20) hc.2.2.1 hc.2.2.2 (by decide)
        rw [nI_clamp (n := s) (by omega), nI_clamp (n := p) (by omega), nI_clamp (n := z) (by omega)] at hK
        have loop : ∀ j k I1 Q1 S1 T1 S' T', k + j = z → MF G l I1 Q1 S1 T1 (stS A s (filF A p (nI z) k)) → frM I I1 → MOK (aN A 3) (aB A) S' T' → K 80 45 [some (vR 20 0 0), some (vI (nI s)), some (vI (nI p)), some (vI (nI z)), some (vI (nI k))] [] (mf (rI I1 Q1 (nI (aN A 1 + k))) J rd rr (dayN (bO A) (dy A) (aN A 0) Q1 k) S' T') := by
          intro j
          induction j with
          | zero =>
            intro k I1 Q1 S1 T1 S' T' hk hC1 hf hM
            refine hK.1 [] 100 _ _ _ _ _ ?_
            rw [show k = z by omega] at hC1 ⊢
            refine And.intro (fun _ => ?_) (fun h => absurd (nI_le (Nat.le_refl _) (by omega)) h)
            refine r_back (A := stS A s (filF A p (nI z) z)) hC1 (ok_fil ok hz) hM (fun p => dayN_a z) (by decide) (fun Q2 hF _ => ?_)
            exact ⟨rfl, (_, Q2, S', T'), rfl, rfl, hF, fun k hk => (frM.rI k hk).trans (hf k hk)⟩
          | succ j ih =>
            intro k I1 Q1 S1 T1 S' T' hk hC1 hf hM
            refine hK.1 [(45, [true, true, true, true, true])] 100 _ _ _ _ _ ?_
            refine And.intro (fun h => absurd h (nI_ge (by omega) (by omega))) (fun _ => ?_)
            have ok1 : OKA (stS A s (filF A p (nI z) k)) := ok_fil ok hz
            have h41 : Ag (aN A 0) Q1 (aP A) := hC1.1.2.2.2
            have hWQ : WF Q1 (aN A 0) := WF.Ag h41.symm ok.1.2.2.2.2
            refine r_passes (A := stS A s (filF A p (nI z) k)) hC1 ok1 (by omega) hM (dayN_WF hWQ k) (by decide) (fun q hq => ?_)
            refine c_its rfl (w := 2) rfl (by omega) (by decide) (by decide) ?_
            show vp_in _ _ ∧ _
            rw [nI_40]
            refine ⟨nI_in (N := 160) (by omega) (by decide), ?_⟩
            rw [nI_clamp (n := 40 * s + k) (by omega), mf_wI (by simp), rI_w]
            show K 80 45 _ _ _
            have hA' : Ag (aN A 0) (dayN (bO A) (dy A) (aN A 0) Q1 (k + 1)) (runP A (k + 1)) := dayN_Ag h41 h5 (k + 1)
            have e1 : dayS (bO A) (nI (aN A 1 + k)) (aN A 0) (dayN (bO A) (dy A) (aN A 0) Q1 k) = dayN (bO A) (dy A) (aN A 0) Q1 (k + 1) := by
              rw [dayN]; unfold dy; rw [nI_plus]
            have hv := hA' p hp 2 (by omega)
            obtain ⟨w, hw, hwe⟩ := (dayN_WF (B := bO A) (day := dy A) hWQ (k + 1) p hp).2.2.1
            have hput : putV 0 (dayN (bO A) (dy A) (aN A 0) Q1 (k + 1) p 2) = dayN (bO A) (dy A) (aN A 0) Q1 (k + 1) p 2 := by rw [hwe]; exact putV_0 w (by omega)
            have hcel := hC1.cel (s := s) (i := k) (z := z) (v := dayN (bO A) (dy A) (aN A 0) Q1 (k + 1) p 2) (by omega) (by rw [stS_s]; show (0 : Int32) ≠ -1; decide) (by rw [stS_s]; rfl) (by omega) (by omega)
            rw [stS_stS, filF_s hput hv, stS_s] at hcel
            have hcel : MF G l (upI I1 35 0 0 (40 * s + k) (putV 0 (dayN (bO A) (dy A) (aN A 0) Q1 (k + 1) p 2))) Q1 S1 T1 (stS A s (filF A p (nI z) (k + 1))) := hcel
            rw [hput] at hcel
            refine Kc (ih (k + 1) _ Q1 S1 T1 q.1 q.2 (by omega) hcel (fun k hk => ((frM.up (by decide)) k hk).trans (hf k hk)) hq) (by rw [nI_succ]; rfl) ?_
            show _ = mf (rI (upI I1 35 0 0 (40 * s + k) (dayS (bO A) (nI (aN A 1 + k)) (aN A 0) (dayN (bO A) (dy A) (aN A 0) Q1 k) p 2)) Q1 (nI (aN A 1 + k + 1))) J rd rr (dayS (bO A) (nI (aN A 1 + k)) (aN A 0) (dayN (bO A) (dy A) (aN A 0) Q1 k)) q.1 q.2
            rw [e1]
            rfl
        refine CPd_exc (m_sheet (s := nI s) (so := 0) (n := nI z) I J rd rr Q S T hC) (by decide) rfl (fun x hx => ?_)
        have hz0 : ¬ (40 : Int32) < nI z := by
          have : ∀ z, z ≤ 20 → ¬ (40 : Int32) < nI z := by decide
          exact this z hz
        have hz1 : ¬ nI z < (0 : Int32) := by
          have : ∀ z, z ≤ 20 → ¬ nI z < (0 : Int32) := by decide
          exact this z hz
        have hC1 : MF G l x.1 x.2.1 x.2.2.1 x.2.2.2 (stS A s (filF A p (nI z) 0)) := by
          rw [filF_0]
          have := hx.1
          unfold sheetA at this
          rw [if_pos hc.1, if_neg (by decide), if_pos (by decide), if_neg hz0, if_neg hz1, nI_clamp (n := s) (by omega)] at this
          exact this
        refine r_keeps (A := stS A s (filF A p (nI z) 0)) hC1 (by decide) ?_
        show K 80 45 _ _ _
        exact loop z 0 x.1 x.2.1 x.2.2.1 x.2.2.2 x.2.2.1 x.2.2.2 (by omega) hC1 hx.2 hC1.2.1.2.2
end T24
