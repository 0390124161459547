section Y6
variable {G : GT} {l : Launch} {I : HI} {J : HJ} {R0 : HR} {n : Nat} {b : Nat → Nat} {z m r : Nat}
theorem d_readEither {f : Nat} (hn : n ≤ 80) (hz : z ≤ 160) (H : ∀ g, g ≤ f → CtD G l J R0 b n z m r 40 1 g) : CtD G l J R0 b n z m r 39 0 (f + 1) := by
  intro I o i s hR hA hsi hi ho hmu
  have hE : prs (tkC b z) (tkM b z) (f + 1) 0 o i = sq (prs (tkC b z) (tkM b z) f 1 o i) (prs (tkC b z) (tkM b z) f 7 o) := rfl
  rw [hE]
  have hd : 3 + 1 ≤ dD 0 o := by unfold dD; omega
  have hds : dD 1 o < dD 0 o := by unfold dD; omega
  refine Ev_go iD_readEither rfl rfl rfl ⟨Nat.le_refl _, hn⟩ (fun K hK => ?_)
  have loop : ∀ g, g ≤ f → ∀ j s' turn I', FrD r I I' → DA b z r j s' I' → s' ≤ j → turn + 1 ≤ j → j ≤ 160 → mu 7 j < g → (∀ u I'', OutD b z r s' (prs (tkC b z) (tkM b z) g 7 o j) u I' I'' → OutD b z r s (sq (prs (tkC b z) (tkM b z) f 1 o i) (prs (tkC b z) (tkM b z) f 7 o)) u I I'') → K n 12 [some (vR 7 0 0), some (vI (nI o)), some (vI (nI turn))] [] (mkX I' J R0 (some (11, r, 0))) := by
    intro g
    induction g with
    | zero => intro _ j s' turn I' _ _ _ _ _ hm; exact absurd hm (by omega)
    | succ g ih =>
      intro hgf j s' turn I' hf hA hs htj hj hm hout
      have hG : prs (tkC b z) (tkM b z) (g + 1) 7 o j = (if tkC b z j = 1009 then sq (prs (tkC b z) (tkM b z) g 1 o (j + 1)) (em (-26) (prs (tkC b z) (tkM b z) g 7 o)) else oK j) := rfl
      rw [hG] at hout
      have hR' := rt_same hR hf.tr6
      refine hK.1 [(12, [true, true, true])] 60 _ _ _ _ _ ?_
      have done : ¬ tkC b z j = 1009 → ∃ q : Int32 × HI, some (vI 1) = some (vI q.1) ∧ mkX I' J R0 (some (11, r, 0)) = mkX q.2 J R0 (some (11, r, 0)) ∧ OutD b z r s (sq (prs (tkC b z) (tkM b z) f 1 o i) (prs (tkC b z) (tkM b z) f 7 o)) q.1 I q.2 := by
        intro hne
        rw [if_neg hne] at hout
        exact ⟨(1, I'), rfl, rfl, hout 1 I' (od_oK frD0 hA (fun _ _ => rfl))⟩
      refine And.intro (fun q => ?_) (fun q => ?_)
      · refine ⟨Or.inr rfl, rfl, done (fun c => ?_)⟩
        have := tk_i hz (ne0 c (by decide))
        exact absurd q (nI_ge (a := turn) (b := 160) (by omega) (by decide))
      · refine x_passes hn hR' hA (by omega) (by omega) (fun c => ?_) (fun c I1 hf1 hA1 h121 => ?_)
        · exact And.intro (fun _ => ⟨Or.inr rfl, rfl, done c⟩) (fun w => absurd rfl w)
        · rw [if_pos c] at hout
          have hj160 := tk_i hz (ne0 c (by decide))
          refine And.intro (fun w => absurd w (by decide)) (fun _ => ?_)
          refine CPd_exc (H g (by omega) I1 o (j + 1) s' (rt_same hR' hf1.tr6) hA1 (by omega) (by omega) ho (by unfold mu at *; omega)) (by omega) rfl (fun y hy => ?_)
          have hff := hf.tr hf1
          cases hr : (prs (tkC b z) (tkM b z) g 1 o (j + 1)).1 with
          | false =>
            obtain ⟨d1, d2⟩ := hy.2.2 hr
            rw [d1]
            refine And.intro (fun w => absurd rfl w) (fun _ => ⟨Or.inl rfl, rfl, (0, y.2), rfl, rfl, ?_⟩)
            exact hout 0 y.2 (od_pre hf1 h121 (od_no hr hy.1 d2))
          | true =>
            obtain ⟨d1, d2, d3, d4⟩ := hy.2.1 hr
            obtain ⟨g1, g2, g3⟩ := gdz hz hr (by decide)
            rw [d1]
            refine And.intro (fun _ => ?_) (fun w => absurd w (by decide))
            refine x_add hn d2 (by omega) (by omega) (fun I3 h1 h2 h3 h4 => ?_)
            show K n 12 _ _ _
            refine Kc (ih (by omega) _ _ (turn + 1) I3 ((hff.tr hy.1).tr h1) h2 (by omega) (by omega) (by omega) (by unfold mu at *; omega) (fun u I'' ho => hout u I'' ?_)) (by rw [nI_succ]; rfl) rfl
            exact od_pre hf1 h121 (od_sq hr hy.1 d3 d4 (od_em h1 h3 h4 ho))
  refine hK.1 [(12, [true, true, true])] 60 _ _ _ _ _ ?_
  refine CPd_exc (H f (Nat.le_refl _) I o i s hR hA hsi hi ho (by unfold mu at *; omega)) (by omega) rfl (fun y hy => ?_)
  cases hr : (prs (tkC b z) (tkM b z) f 1 o i).1 with
  | false =>
    obtain ⟨d1, d2⟩ := hy.2.2 hr
    rw [d1]
    exact And.intro (fun w => absurd rfl w) (fun _ => ⟨Or.inl rfl, rfl, (0, y.2), rfl, rfl, od_no hr hy.1 d2⟩)
  | true =>
    obtain ⟨d1, d2, d3, d4⟩ := hy.2.1 hr
    obtain ⟨g1, g2, g3⟩ := gdz hz hr (by decide)
    rw [d1]
    refine And.intro (fun _ => ?_) (fun w => absurd w (by decide))
    show K n 12 _ _ _
    exact loop f (Nat.le_refl _) _ _ 0 y.2 hy.1 d2 (by omega) (by omega) (by omega) (by unfold mu at *; omega) (fun u I'' ho => od_sq hr hy.1 d3 d4 ho)
theorem d_readBoth {f : Nat} (hn : n ≤ 80) (hz : z ≤ 160) (H : ∀ g, g ≤ f → CtD G l J R0 b n z m r 41 2 g) : CtD G l J R0 b n z m r 40 1 (f + 1) := by
  intro I o i s hR hA hsi hi ho hmu
  have hE : prs (tkC b z) (tkM b z) (f + 1) 1 o i = sq (prs (tkC b z) (tkM b z) f 2 o i) (prs (tkC b z) (tkM b z) f 8 o) := rfl
  rw [hE]
  have hd : 3 + 1 ≤ dD 1 o := by unfold dD; omega
  have hds : dD 2 o < dD 1 o := by unfold dD; omega
  refine Ev_go iD_readBoth rfl rfl rfl ⟨Nat.le_refl _, hn⟩ (fun K hK => ?_)
  have loop : ∀ g, g ≤ f → ∀ j s' turn I', FrD r I I' → DA b z r j s' I' → s' ≤ j → turn + 1 ≤ j → j ≤ 160 → mu 8 j < g → (∀ u I'', OutD b z r s' (prs (tkC b z) (tkM b z) g 8 o j) u I' I'' → OutD b z r s (sq (prs (tkC b z) (tkM b z) f 2 o i) (prs (tkC b z) (tkM b z) f 8 o)) u I I'') → K n 12 [some (vR 7 0 0), some (vI (nI o)), some (vI (nI turn))] [] (mkX I' J R0 (some (11, r, 0))) := by
    intro g
    induction g with
    | zero => intro _ j s' turn I' _ _ _ _ _ hm; exact absurd hm (by omega)
    | succ g ih =>
      intro hgf j s' turn I' hf hA hs htj hj hm hout
      have hG : prs (tkC b z) (tkM b z) (g + 1) 8 o j = (if tkC b z j = 1010 then sq (prs (tkC b z) (tkM b z) g 2 o (j + 1)) (em (-25) (prs (tkC b z) (tkM b z) g 8 o)) else oK j) := rfl
      rw [hG] at hout
      have hR' := rt_same hR hf.tr6
      refine hK.1 [(12, [true, true, true])] 60 _ _ _ _ _ ?_
      have done : ¬ tkC b z j = 1010 → ∃ q : Int32 × HI, some (vI 1) = some (vI q.1) ∧ mkX I' J R0 (some (11, r, 0)) = mkX q.2 J R0 (some (11, r, 0)) ∧ OutD b z r s (sq (prs (tkC b z) (tkM b z) f 2 o i) (prs (tkC b z) (tkM b z) f 8 o)) q.1 I q.2 := by
        intro hne
        rw [if_neg hne] at hout
        exact ⟨(1, I'), rfl, rfl, hout 1 I' (od_oK frD0 hA (fun _ _ => rfl))⟩
      refine And.intro (fun q => ?_) (fun q => ?_)
      · refine ⟨Or.inr rfl, rfl, done (fun c => ?_)⟩
        have := tk_i hz (ne0 c (by decide))
        exact absurd q (nI_ge (a := turn) (b := 160) (by omega) (by decide))
      · refine x_passes hn hR' hA (by omega) (by omega) (fun c => ?_) (fun c I1 hf1 hA1 h121 => ?_)
        · exact And.intro (fun _ => ⟨Or.inr rfl, rfl, done c⟩) (fun w => absurd rfl w)
        · rw [if_pos c] at hout
          have hj160 := tk_i hz (ne0 c (by decide))
          refine And.intro (fun w => absurd w (by decide)) (fun _ => ?_)
          refine CPd_exc (H g (by omega) I1 o (j + 1) s' (rt_same hR' hf1.tr6) hA1 (by omega) (by omega) ho (by unfold mu at *; omega)) (by omega) rfl (fun y hy => ?_)
          have hff := hf.tr hf1
          cases hr : (prs (tkC b z) (tkM b z) g 2 o (j + 1)).1 with
          | false =>
            obtain ⟨d1, d2⟩ := hy.2.2 hr
            rw [d1]
            refine And.intro (fun w => absurd rfl w) (fun _ => ⟨Or.inl rfl, rfl, (0, y.2), rfl, rfl, ?_⟩)
            exact hout 0 y.2 (od_pre hf1 h121 (od_no hr hy.1 d2))
          | true =>
            obtain ⟨d1, d2, d3, d4⟩ := hy.2.1 hr
            obtain ⟨g1, g2, g3⟩ := gdz hz hr (by decide)
            rw [d1]
            refine And.intro (fun _ => ?_) (fun w => absurd w (by decide))
            refine x_add hn d2 (by omega) (by omega) (fun I3 h1 h2 h3 h4 => ?_)
            show K n 12 _ _ _
            refine Kc (ih (by omega) _ _ (turn + 1) I3 ((hff.tr hy.1).tr h1) h2 (by omega) (by omega) (by omega) (by unfold mu at *; omega) (fun u I'' ho => hout u I'' ?_)) (by rw [nI_succ]; rfl) rfl
            exact od_pre hf1 h121 (od_sq hr hy.1 d3 d4 (od_em h1 h3 h4 ho))
  refine hK.1 [(12, [true, true, true])] 60 _ _ _ _ _ ?_
  refine CPd_exc (H f (Nat.le_refl _) I o i s hR hA hsi hi ho (by unfold mu at *; omega)) (by omega) rfl (fun y hy => ?_)
  cases hr : (prs (tkC b z) (tkM b z) f 2 o i).1 with
  | false =>
    obtain ⟨d1, d2⟩ := hy.2.2 hr
    rw [d1]
    exact And.intro (fun w => absurd rfl w) (fun _ => ⟨Or.inl rfl, rfl, (0, y.2), rfl, rfl, od_no hr hy.1 d2⟩)
  | true =>
    obtain ⟨d1, d2, d3, d4⟩ := hy.2.1 hr
    obtain ⟨g1, g2, g3⟩ := gdz hz hr (by decide)
    rw [d1]
    refine And.intro (fun _ => ?_) (fun w => absurd w (by decide))
    show K n 12 _ _ _
    exact loop f (Nat.le_refl _) _ _ 0 y.2 hy.1 d2 (by omega) (by omega) (by omega) (by unfold mu at *; omega) (fun u I'' ho => od_sq hr hy.1 d3 d4 ho)
theorem d_readTerm {f : Nat} (hn : n ≤ 80) (hz : z ≤ 160) (H : ∀ g, g ≤ f → CtD G l J R0 b n z m r 45 6 g) : CtD G l J R0 b n z m r 44 5 (f + 1) := by
  intro I o i s hR hA hsi hi ho hmu
  have hE : prs (tkC b z) (tkM b z) (f + 1) 5 o i = sq (prs (tkC b z) (tkM b z) f 6 o i) (prs (tkC b z) (tkM b z) f 10 o) := rfl
  rw [hE]
  have hd : 3 + 1 ≤ dD 5 o := by unfold dD; omega
  have hds : dD 6 o < dD 5 o := by unfold dD; omega
  refine Ev_go iD_readTerm rfl rfl rfl ⟨Nat.le_refl _, hn⟩ (fun K hK => ?_)
  have loop : ∀ g, g ≤ f → ∀ j s' turn I', FrD r I I' → DA b z r j s' I' → s' ≤ j → turn + 1 ≤ j → j ≤ 160 → mu 10 j < g → (∀ u I'', OutD b z r s' (prs (tkC b z) (tkM b z) g 10 o j) u I' I'' → OutD b z r s (sq (prs (tkC b z) (tkM b z) f 6 o i) (prs (tkC b z) (tkM b z) f 10 o)) u I I'') → K n 12 [some (vR 7 0 0), some (vI (nI o)), some (vI (nI turn))] [] (mkX I' J R0 (some (11, r, 0))) := by
    intro g
    induction g with
    | zero => intro _ j s' turn I' _ _ _ _ _ hm; exact absurd hm (by omega)
    | succ g ih =>
      intro hgf j s' turn I' hf hA hs htj hj hm hout
      have hG : prs (tkC b z) (tkM b z) (g + 1) 10 o j = (if tkC b z j = 42 then sq (prs (tkC b z) (tkM b z) g 6 o (j + 1)) (em (-22) (prs (tkC b z) (tkM b z) g 10 o)) else oK j) := rfl
      rw [hG] at hout
      have hR' := rt_same hR hf.tr6
      refine hK.1 [(12, [true, true, true])] 60 _ _ _ _ _ ?_
      have done : ¬ tkC b z j = 42 → ∃ q : Int32 × HI, some (vI 1) = some (vI q.1) ∧ mkX I' J R0 (some (11, r, 0)) = mkX q.2 J R0 (some (11, r, 0)) ∧ OutD b z r s (sq (prs (tkC b z) (tkM b z) f 6 o i) (prs (tkC b z) (tkM b z) f 10 o)) q.1 I q.2 := by
        intro hne
        rw [if_neg hne] at hout
        exact ⟨(1, I'), rfl, rfl, hout 1 I' (od_oK frD0 hA (fun _ _ => rfl))⟩
      refine And.intro (fun q => ?_) (fun q => ?_)
      · refine ⟨Or.inr rfl, rfl, done (fun c => ?_)⟩
        have := tk_i hz (ne0 c (by decide))
        exact absurd q (nI_ge (a := turn) (b := 160) (by omega) (by decide))
      · refine x_passes hn hR' hA (by omega) (by omega) (fun c => ?_) (fun c I1 hf1 hA1 h121 => ?_)
        · exact And.intro (fun _ => ⟨Or.inr rfl, rfl, done c⟩) (fun w => absurd rfl w)
        · rw [if_pos c] at hout
          have hj160 := tk_i hz (ne0 c (by decide))
          refine And.intro (fun w => absurd w (by decide)) (fun _ => ?_)
          refine CPd_exc (H g (by omega) I1 o (j + 1) s' (rt_same hR' hf1.tr6) hA1 (by omega) (by omega) ho (by unfold mu at *; omega)) (by omega) rfl (fun y hy => ?_)
          have hff := hf.tr hf1
          cases hr : (prs (tkC b z) (tkM b z) g 6 o (j + 1)).1 with
          | false =>
            obtain ⟨d1, d2⟩ := hy.2.2 hr
            rw [d1]
            refine And.intro (fun w => absurd rfl w) (fun _ => ⟨Or.inl rfl, rfl, (0, y.2), rfl, rfl, ?_⟩)
            exact hout 0 y.2 (od_pre hf1 h121 (od_no hr hy.1 d2))
          | true =>
            obtain ⟨d1, d2, d3, d4⟩ := hy.2.1 hr
            obtain ⟨g1, g2, g3⟩ := gdz hz hr (by decide)
            rw [d1]
            refine And.intro (fun _ => ?_) (fun w => absurd w (by decide))
            refine x_add hn d2 (by omega) (by omega) (fun I3 h1 h2 h3 h4 => ?_)
            show K n 12 _ _ _
            refine Kc (ih (by omega) _ _ (turn + 1) I3 ((hff.tr hy.1).tr h1) h2 (by omega) (by omega) (by omega) (by unfold mu at *; omega) (fun u I'' ho => hout u I'' ?_)) (by rw [nI_succ]; rfl) rfl
            exact od_pre hf1 h121 (od_sq hr hy.1 d3 d4 (od_em h1 h3 h4 ho))
  refine hK.1 [(12, [true, true, true])] 60 _ _ _ _ _ ?_
  refine CPd_exc (H f (Nat.le_refl _) I o i s hR hA hsi hi ho (by unfold mu at *; omega)) (by omega) rfl (fun y hy => ?_)
  cases hr : (prs (tkC b z) (tkM b z) f 6 o i).1 with
  | false =>
    obtain ⟨d1, d2⟩ := hy.2.2 hr
    rw [d1]
    exact And.intro (fun w => absurd rfl w) (fun _ => ⟨Or.inl rfl, rfl, (0, y.2), rfl, rfl, od_no hr hy.1 d2⟩)
  | true =>
    obtain ⟨d1, d2, d3, d4⟩ := hy.2.1 hr
    obtain ⟨g1, g2, g3⟩ := gdz hz hr (by decide)
    rw [d1]
    refine And.intro (fun _ => ?_) (fun w => absurd w (by decide))
    show K n 12 _ _ _
    exact loop f (Nat.le_refl _) _ _ 0 y.2 hy.1 d2 (by omega) (by omega) (by omega) (by unfold mu at *; omega) (fun u I'' ho => od_sq hr hy.1 d3 d4 ho)
end Y6
