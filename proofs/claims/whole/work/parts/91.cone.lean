section Y7
variable {G : GT} {l : Launch} {I : HI} {J : HJ} {R0 : HR} {n : Nat} {b : Nat → Nat} {z m r : Nat}
theorem d_readSum {f : Nat} (hn : n ≤ 80) (hz : z ≤ 160) (H : ∀ g, g ≤ f → CtD G l J R0 b n z m r 44 5 g) : CtD G l J R0 b n z m r 43 4 (f + 1) := by
  intro I o i s hR hA hsi hi ho hmu
  have hE : prs (tkC b z) (tkM b z) (f + 1) 4 o i = sq (prs (tkC b z) (tkM b z) f 5 o i) (prs (tkC b z) (tkM b z) f 9 o) := rfl
  rw [hE]
  have hd : 3 + 1 ≤ dD 4 o := by unfold dD; omega
  have hds : dD 5 o < dD 4 o := by unfold dD; omega
  refine Ev_go iD_readSum rfl rfl rfl ⟨Nat.le_refl _, hn⟩ (fun K hK => ?_)
  have loop : ∀ g, g ≤ f → ∀ j s' turn I', FrD r I I' → DA b z r j s' I' → s' ≤ j → turn + 1 ≤ j → j ≤ 160 → mu 9 j < g → (∀ u I'', OutD b z r s' (prs (tkC b z) (tkM b z) g 9 o j) u I' I'' → OutD b z r s (sq (prs (tkC b z) (tkM b z) f 5 o i) (prs (tkC b z) (tkM b z) f 9 o)) u I I'') → K n 12 [some (vR 7 0 0), some (vI (nI o)), some (vI (nI turn)), none] [] (mkX I' J R0 (some (11, r, 0))) := by
    intro g
    induction g with
    | zero => intro _ j s' turn I' _ _ _ _ _ hm; exact absurd hm (by omega)
    | succ g ih =>
      intro hgf j s' turn I' hf hA hs htj hj hm hout
      have hG : prs (tkC b z) (tkM b z) (g + 1) 9 o j = (if tkC b z j = 43 then sq (prs (tkC b z) (tkM b z) g 5 o (j + 1)) (em (-20) (prs (tkC b z) (tkM b z) g 9 o)) else if tkC b z j = 45 then sq (prs (tkC b z) (tkM b z) g 5 o (j + 1)) (em (-21) (prs (tkC b z) (tkM b z) g 9 o)) else oK j) := rfl
      rw [hG] at hout
      have hR' := rt_same hR hf.tr6
      have e3 : getI (mkX I' J R0 (some (11, r, 0))) 7 0 0 3 = tkC b z j := hA.2.1
      refine hK.1 [(12, [true, true, true, false]), (54, [true, true, true, true])] 60 _ _ _ _ _ ?_
      have done : ¬ tkC b z j = 43 → ¬ tkC b z j = 45 → ∃ q : Int32 × HI, some (vI 1) = some (vI q.1) ∧ mkX I' J R0 (some (11, r, 0)) = mkX q.2 J R0 (some (11, r, 0)) ∧ OutD b z r s (sq (prs (tkC b z) (tkM b z) f 5 o i) (prs (tkC b z) (tkM b z) f 9 o)) q.1 I q.2 := by
        intro hne hne2
        rw [if_neg hne, if_neg hne2] at hout
        exact ⟨(1, I'), rfl, rfl, hout 1 I' (od_oK frD0 hA (fun _ _ => rfl))⟩
      have go : ∀ c, tkC b z j ≠ 0 → (∀ u I'', OutD b z r s' (sq (prs (tkC b z) (tkM b z) g 5 o (j + 1)) (em c (prs (tkC b z) (tkM b z) g 9 o))) u I' I'' → OutD b z r s (sq (prs (tkC b z) (tkM b z) f 5 o i) (prs (tkC b z) (tkM b z) f 9 o)) u I I'') → K n 54 [some (vR 7 0 0), some (vI (nI o)), some (vI (nI turn)), some (vI c)] [] (mkX I' J R0 (some (11, r, 0))) := by
        intro c hne hout
        have hj160 := tk_i hz hne
        refine hK.1 [(12, [true, true, true, false])] 60 _ _ _ _ _ ?_
        refine x_look hn hR' hA (i := j + 1) ?_ (by omega) (by omega) (fun I1 hf1 hA1 h121 => ?_)
        · show I' 7 0 0 2 + 1 = _
          rw [hA.1, nI_succ]
        refine CPd_exc (H g (by omega) I1 o (j + 1) s' (rt_same hR' hf1.tr6) hA1 (by omega) (by omega) ho (by unfold mu at *; omega)) (by omega) rfl (fun y hy => ?_)
        have hff := hf.tr hf1
        cases hr : (prs (tkC b z) (tkM b z) g 5 o (j + 1)).1 with
        | false =>
          obtain ⟨d1, d2⟩ := hy.2.2 hr
          rw [d1]
          refine And.intro (fun w => absurd rfl w) (fun _ => ⟨Or.inl rfl, rfl, (0, y.2), rfl, rfl, ?_⟩)
          exact hout 0 y.2 (od_pre hf1 h121 (od_no hr hy.1 d2))
        | true =>
          obtain ⟨d1, d2, d3, d4⟩ := hy.2.1 hr
          obtain ⟨g1, g2, g3⟩ := gdz hz hr (by decide)
          rw [d1]
          refine And.intro (fun _ => ?_) (fun w => absurd w (by decide))
          refine x_add hn d2 (by omega) (by omega) (fun I3 h1 h2 h3 h4 => ?_)
          show K n 12 _ _ _
          refine Kc (ih (by omega) _ _ (turn + 1) I3 ((hff.tr hy.1).tr h1) h2 (by omega) (by omega) (by omega) (by unfold mu at *; omega) (fun u I'' ho => hout u I'' ?_)) (by rw [nI_succ]; rfl) rfl
          exact od_pre hf1 h121 (od_sq hr hy.1 d3 d4 (od_em h1 h3 h4 ho))
      refine And.intro (fun q => ?_) (fun q => ?_)
      · have hzz : tkC b z j = 0 := by
          refine Classical.byContradiction (fun c => ?_)
          have := tk_i hz c
          exact absurd q (nI_ge (a := turn) (b := 160) (by omega) (by decide))
        exact ⟨Or.inr rfl, rfl, done (by rw [hzz]; decide) (by rw [hzz]; decide)⟩
      · refine And.intro (fun q => ?_) (fun q => ?_)
        · rw [e3] at q
          refine And.intro (fun w => absurd (e3.trans q) w) (fun _ => ?_)
          show K n 54 _ _ _
          rw [if_pos q] at hout
          exact go (-20) (by rw [q]; decide) hout
        · rw [e3] at q
          refine And.intro (fun w => ?_) (fun w => ?_)
          · rw [e3] at w
            exact ⟨Or.inr rfl, rfl, done q w⟩
          · rw [e3] at w
            refine And.intro (fun _ => ?_) (fun v => absurd (e3.symm.trans v) q)
            show K n 54 _ _ _
            rw [if_neg q, if_pos w] at hout
            exact go (-21) (by rw [w]; decide) hout
  refine hK.1 [(12, [true, true, true, false])] 60 _ _ _ _ _ ?_
  refine CPd_exc (H f (Nat.le_refl _) I o i s hR hA hsi hi ho (by unfold mu at *; omega)) (by omega) rfl (fun y hy => ?_)
  cases hr : (prs (tkC b z) (tkM b z) f 5 o i).1 with
  | false =>
    obtain ⟨d1, d2⟩ := hy.2.2 hr
    rw [d1]
    exact And.intro (fun w => absurd rfl w) (fun _ => ⟨Or.inl rfl, rfl, (0, y.2), rfl, rfl, od_no hr hy.1 d2⟩)
  | true =>
    obtain ⟨d1, d2, d3, d4⟩ := hy.2.1 hr
    obtain ⟨g1, g2, g3⟩ := gdz hz hr (by decide)
    rw [d1]
    refine And.intro (fun _ => ?_) (fun w => absurd w (by decide))
    show K n 12 _ _ _
    exact loop f (Nat.le_refl _) _ _ 0 y.2 hy.1 d2 (by omega) (by omega) (by omega) (by unfold mu at *; omega) (fun u I'' ho => od_sq hr hy.1 d3 d4 ho)
theorem d_readComparison {f : Nat} (hn : n ≤ 80) (hz : z ≤ 160) (H : ∀ g, g ≤ f → CtD G l J R0 b n z m r 43 4 g) : CtD G l J R0 b n z m r 42 3 (f + 1) := by
  intro I o i s hR hA hsi hi ho hmu
  have hE : prs (tkC b z) (tkM b z) (f + 1) 3 o i = sq (prs (tkC b z) (tkM b z) f 4 o i) (fun j => if tkC b z j = 60 then sq (prs (tkC b z) (tkM b z) f 4 o (j + 1)) (em (-23) oK) else if tkC b z j = 61 then sq (prs (tkC b z) (tkM b z) f 4 o (j + 1)) (em (-24) oK) else oK j) := rfl
  rw [hE]
  have hd : 3 + 1 ≤ dD 3 o := by unfold dD; omega
  have hds : dD 4 o < dD 3 o := by unfold dD; omega
  refine Ev_go iD_readComparison rfl rfl rfl ⟨Nat.le_refl _, hn⟩ (fun K hK => hK.1 [(47, [true, true, true])] 60 _ _ _ _ _ ?_)
  refine CPd_exc (H f (Nat.le_refl _) I o i s hR hA hsi hi ho (by unfold mu at *; omega)) (by omega) rfl (fun y hy => ?_)
  cases hr : (prs (tkC b z) (tkM b z) f 4 o i).1 with
  | false =>
    obtain ⟨d1, d2⟩ := hy.2.2 hr
    rw [d1]
    exact And.intro (fun w => absurd rfl w) (fun _ => ⟨Or.inl rfl, rfl, (0, y.2), rfl, rfl, od_no hr hy.1 d2⟩)
  | true =>
    obtain ⟨d1, d2, d3, d4⟩ := hy.2.1 hr
    obtain ⟨g1, g2, g3⟩ := gdz hz hr (by decide)
    rw [d1]
    have e3 : getI (mkX y.2 J R0 (some (11, r, 0))) 7 0 0 3 = tkC b z (prs (tkC b z) (tkM b z) f 4 o i).2.2 := d2.2.1
    have hout : ∀ u I'', OutD b z r (s + (prs (tkC b z) (tkM b z) f 4 o i).2.1.length) ((fun j => if tkC b z j = 60 then sq (prs (tkC b z) (tkM b z) f 4 o (j + 1)) (em (-23) oK) else if tkC b z j = 61 then sq (prs (tkC b z) (tkM b z) f 4 o (j + 1)) (em (-24) oK) else oK j) (prs (tkC b z) (tkM b z) f 4 o i).2.2) u y.2 I'' → OutD b z r s (sq (prs (tkC b z) (tkM b z) f 4 o i) (fun j => if tkC b z j = 60 then sq (prs (tkC b z) (tkM b z) f 4 o (j + 1)) (em (-23) oK) else if tkC b z j = 61 then sq (prs (tkC b z) (tkM b z) f 4 o (j + 1)) (em (-24) oK) else oK j)) u I I'' := fun u I'' ho => od_sq hr hy.1 d3 d4 ho
    have hR' := rt_same hR hy.1.tr6
    have hs1 : s + (prs (tkC b z) (tkM b z) f 4 o i).2.1.length ≤ (prs (tkC b z) (tkM b z) f 4 o i).2.2 := by omega
    generalize (prs (tkC b z) (tkM b z) f 4 o i).2.2 = j at *
    generalize s + (prs (tkC b z) (tkM b z) f 4 o i).2.1.length = s1 at *
    have go : ∀ c, tkC b z j ≠ 0 → (∀ u I'', OutD b z r s1 (sq (prs (tkC b z) (tkM b z) f 4 o (j + 1)) (em c oK)) u y.2 I'' → OutD b z r s (sq (prs (tkC b z) (tkM b z) f 4 o i) (fun j => if tkC b z j = 60 then sq (prs (tkC b z) (tkM b z) f 4 o (j + 1)) (em (-23) oK) else if tkC b z j = 61 then sq (prs (tkC b z) (tkM b z) f 4 o (j + 1)) (em (-24) oK) else oK j)) u I I'') → K n 47 [some (vR 7 0 0), some (vI (nI o)), some (vI c)] [] (mkX y.2 J R0 (some (11, r, 0))) := by
      intro c hne hout
      have hj160 := tk_i hz hne
      refine hK.1 [] 60 _ _ _ _ _ ?_
      refine x_look hn hR' d2 (i := j + 1) ?_ (by omega) (by omega) (fun I1 hf1 hA1 h121 => ?_)
      · show y.2 7 0 0 2 + 1 = _
        rw [d2.1, nI_succ]
      refine CPd_exc (H f (Nat.le_refl _) I1 o (j + 1) s1 (rt_same hR' hf1.tr6) hA1 (by omega) (by omega) ho (by unfold mu at *; omega)) (by omega) rfl (fun w hw => ?_)
      cases hq : (prs (tkC b z) (tkM b z) f 4 o (j + 1)).1 with
      | false =>
        obtain ⟨b1, b2⟩ := hw.2.2 hq
        rw [b1]
        refine And.intro (fun w => absurd rfl w) (fun _ => ⟨Or.inl rfl, rfl, (0, w.2), rfl, rfl, ?_⟩)
        exact hout 0 w.2 (od_pre hf1 h121 (od_no hq hw.1 b2))
      | true =>
        obtain ⟨b1, b2, b3, b4⟩ := hw.2.1 hq
        obtain ⟨k1, k2, k3⟩ := gdz hz hq (by decide)
        rw [b1]
        refine And.intro (fun _ => ?_) (fun w => absurd w (by decide))
        refine x_add hn b2 (by omega) (by omega) (fun I3 h1 h2 h3 h4 => ?_)
        refine ⟨Or.inr rfl, rfl, (1, I3), rfl, rfl, hout 1 I3 ?_⟩
        exact od_pre hf1 h121 (od_sq hq hw.1 b3 b4 (od_em h1 h3 h4 (od_oK frD0 h2 (fun _ _ => rfl))))
    refine And.intro (fun _ => ?_) (fun w => absurd w (by decide))
    refine And.intro (fun q => ?_) (fun q => ?_)
    · rw [e3] at q
      refine And.intro (fun w => absurd (e3.trans q) w) (fun _ => ?_)
      show K n 47 _ _ _
      refine go (-23) (by rw [q]; decide) (fun u I'' ho => hout u I'' ?_)
      show OutD b z r s1 (if tkC b z j = 60 then _ else _) u y.2 I''
      rw [if_pos q]
      exact ho
    · rw [e3] at q
      refine And.intro (fun w => ?_) (fun w => ?_)
      · rw [e3] at w
        refine And.intro (fun _ => ?_) (fun v => absurd (e3.symm.trans v) q)
        show K n 47 _ _ _
        refine go (-24) (by rw [w]; decide) (fun u I'' ho => hout u I'' ?_)
        show OutD b z r s1 (if tkC b z j = 60 then _ else if tkC b z j = 61 then _ else _) u y.2 I''
        rw [if_neg q, if_pos w]
        exact ho
      · rw [e3] at w
        refine ⟨Or.inr rfl, rfl, (1, y.2), rfl, rfl, hout 1 y.2 ?_⟩
        show OutD b z r s1 (if tkC b z j = 60 then _ else if tkC b z j = 61 then _ else _) 1 y.2 y.2
        rw [if_neg q, if_neg w]
        exact od_oK frD0 d2 (fun _ _ => rfl)
theorem d_readNot {f : Nat} (hn : n ≤ 80) (hz : z ≤ 160) (H3 : ∀ g, g ≤ f → CtD G l J R0 b n z m r 42 3 g) (H2 : ∀ g, g ≤ f → CtD G l J R0 b n z m r 41 2 g) : CtD G l J R0 b n z m r 41 2 (f + 1) := by
  intro I o i s hR hA hsi hi ho hmu
  have hE : prs (tkC b z) (tkM b z) (f + 1) 2 o i = (if tkC b z i = 1011 then (if 5 ≤ o then nO i else sq (prs (tkC b z) (tkM b z) f 2 (o + 1) (i + 1)) (em (-11) oK)) else prs (tkC b z) (tkM b z) f 3 o i) := rfl
  rw [hE]
  have hd : 3 + 1 ≤ dD 2 o := by unfold dD; omega
  have hds : dD 3 o < dD 2 o := by unfold dD; omega
  refine Ev_go iD_readNot rfl rfl rfl ⟨Nat.le_refl _, hn⟩ (fun K hK => hK.1 [] 60 _ _ _ _ _ ?_)
  have e3 : getI (mkX I J R0 (some (11, r, 0))) 7 0 0 3 = tkC b z i := hA.2.1
  refine And.intro (fun q => ?_) (fun q => ?_)
  · rw [e3] at q
    rw [if_pos q]
    have hi160 := tk_i hz (ne0 q (by decide))
    refine And.intro (fun w => ?_) (fun w => ?_)
    · have ho5 : ¬ 5 ≤ o := fun c => absurd w (nI_nlt (a := o) (b := 5) (by omega) (by omega))
      rw [if_neg ho5]
      have hds2 : dD 2 (o + 1) < dD 2 o := by unfold dD; omega
      refine x_look hn hR hA (i := i + 1) ?_ (by omega) (by omega) (fun I1 hf1 hA1 h121 => ?_)
      · show I 7 0 0 2 + 1 = _
        rw [hA.1, nI_succ]
      show CPd _ _ _ _ _ _ _ _ _
      rw [← nI_succ]
      refine CPd_exc (H2 f (Nat.le_refl _) I1 (o + 1) (i + 1) s (rt_same hR hf1.tr6) hA1 (by omega) (by omega) (by omega) (by unfold mu at *; omega)) (by omega) rfl (fun y hy => ?_)
      cases hr : (prs (tkC b z) (tkM b z) f 2 (o + 1) (i + 1)).1 with
      | false =>
        obtain ⟨d1, d2⟩ := hy.2.2 hr
        rw [d1]
        exact And.intro (fun w => absurd rfl w) (fun _ => ⟨Or.inl rfl, rfl, (0, y.2), rfl, rfl, od_pre hf1 h121 (od_no hr hy.1 d2)⟩)
      | true =>
        obtain ⟨d1, d2, d3, d4⟩ := hy.2.1 hr
        obtain ⟨g1, g2, g3⟩ := gdz hz hr (by decide)
        rw [d1]
        refine And.intro (fun _ => ?_) (fun w => absurd w (by decide))
        refine x_add hn d2 (by omega) (by omega) (fun I3 h1 h2 h3 h4 => ?_)
        exact ⟨Or.inr rfl, rfl, (1, I3), rfl, rfl, od_pre hf1 h121 (od_sq hr hy.1 d3 d4 (od_em h1 h3 h4 (od_oK frD0 h2 (fun _ _ => rfl))))⟩
    · have ho5 : 5 ≤ o := Classical.byContradiction fun c => w (nI_lt (a := o) (b := 5) (by omega) (by omega))
      rw [if_pos ho5]
      exact ⟨Or.inl rfl, rfl, (0, I), rfl, rfl, od_nO frD0 hA.1⟩
  · rw [e3] at q
    rw [if_neg q]
    refine CPd_exc (H3 f (Nat.le_refl _) I o i s hR hA hsi hi ho (by unfold mu at *; omega)) (by omega) rfl (fun y hy => ?_)
    refine ⟨?_, rfl, (y.1, y.2), rfl, rfl, hy⟩
    cases hr : (prs (tkC b z) (tkM b z) f 3 o i).1 with
    | false => exact Or.inl (hy.2.2 hr).1
    | true => exact Or.inr (hy.2.1 hr).1
theorem d_readOne {f : Nat} (hn : n ≤ 80) (hz : z ≤ 160) (H0 : ∀ g, g ≤ f → CtD G l J R0 b n z m r 39 0 g) (H6 : ∀ g, g ≤ f → CtD G l J R0 b n z m r 45 6 g) : CtD G l J R0 b n z m r 45 6 (f + 1) := by
  intro I o i s hR hA hsi hi ho hmu
  have hE : prs (tkC b z) (tkM b z) (f + 1) 6 o i = (if tkC b z i = 2 ∨ tkC b z i = 3 then (true, ([tkM b z i], i + 1)) else if tkC b z i = 40 then (if 5 ≤ o then nO i else sq (prs (tkC b z) (tkM b z) f 0 (o + 1) (i + 1)) (fun j => if tkC b z j = 41 then oK (j + 1) else nO j)) else if tkC b z i = 45 then (if 5 ≤ o then nO i else sq (prs (tkC b z) (tkM b z) f 6 (o + 1) (i + 1)) (em (-10) oK)) else nO i) := rfl
  rw [hE]
  have hd : 3 + 1 ≤ dD 6 o := by unfold dD; omega
  have e3 : getI (mkX I J R0 (some (11, r, 0))) 7 0 0 3 = tkC b z i := hA.2.1
  refine Ev_go iD_readOne rfl rfl rfl ⟨Nat.le_refl _, hn⟩ (fun K hK => hK.1 [(16, [true, true, false]), (71, [true, true, false]), (86, [true, true, true])] 60 _ _ _ _ _ ?_)
  have leaf : tkC b z i = 2 ∨ tkC b z i = 3 → K n 16 [some (vR 7 0 0), some (vI (nI o)), none] [] (mkX I J R0 (some (11, r, 0))) := by
    intro q
    have hne : tkC b z i ≠ 0 := by rcases q with q | q <;> rw [q] <;> decide
    have hi160 := tk_i hz hne
    have him : i < m := Classical.byContradiction fun c => hne (tk_out hR.2.2.2 (by omega)).1
    refine hK.1 [] 60 _ _ _ _ _ ?_
    show CPd _ _ _ _ _ _ _ _ _
    rw [show getI (mkX I J R0 (some (11, r, 0))) 7 0 0 2 = nI i from hA.1]
    refine x_amo hn hR him (by omega) ?_
    refine x_add hn hA (by omega) (by omega) (fun I1 h1 h2 h3 h4 => ?_)
    refine x_look hn (rt_same hR h1.tr6) h2 (i := i + 1) ?_ (by omega) (by omega) (fun I2 hf2 hA2 h122 => ?_)
    · show I1 7 0 0 2 + 1 = _
      rw [h2.1, nI_succ]
    refine ⟨Or.inr rfl, rfl, (1, I2), rfl, rfl, ?_⟩
    rw [if_pos q]
    refine ⟨h1.tr hf2, fun _ => ⟨rfl, hA2, ?_, fun t ht => ?_⟩, fun q => absurd q (by show ¬ (true = false); decide)⟩
    · show seg (I2 12 r 0) s 1 = [tkM b z i]
      rw [seg, h122, h3]
      rfl
    · show I2 12 r 0 t = _
      rw [h122]
      exact h4 t (by omega)
  have no : ¬ (tkC b z i = 2 ∨ tkC b z i = 3) → (5 ≤ o ∨ (¬ tkC b z i = 40 ∧ ¬ tkC b z i = 45)) → OutD b z r s (if tkC b z i = 2 ∨ tkC b z i = 3 then (true, ([tkM b z i], i + 1)) else if tkC b z i = 40 then (if 5 ≤ o then nO i else sq (prs (tkC b z) (tkM b z) f 0 (o + 1) (i + 1)) (fun j => if tkC b z j = 41 then oK (j + 1) else nO j)) else if tkC b z i = 45 then (if 5 ≤ o then nO i else sq (prs (tkC b z) (tkM b z) f 6 (o + 1) (i + 1)) (em (-10) oK)) else nO i) 0 I I := by
    intro h1 h2
    rw [if_neg h1]
    rcases h2 with h2 | ⟨h2, h3⟩
    · rw [if_pos h2, if_pos h2]
      by_cases h4 : tkC b z i = 40
      · rw [if_pos h4]
        exact od_nO frD0 hA.1
      · rw [if_neg h4, ite_self]
        exact od_nO frD0 hA.1
    · rw [if_neg h2, if_neg h3]
      exact od_nO frD0 hA.1
  have back : ¬ (tkC b z i = 2 ∨ tkC b z i = 3) → tkC b z i = 40 ∨ tkC b z i = 45 → o < 5 → K n 71 [some (vR 7 0 0), some (vI (nI o)), none] [] (mkX I J R0 (some (11, r, 0))) := by
    intro hl q ho5
    have hne : tkC b z i ≠ 0 := by rcases q with q | q <;> rw [q] <;> decide
    have hi160 := tk_i hz hne
    have hds : dD 6 (o + 1) < dD 6 o := by unfold dD; omega
    have hds0 : dD 0 (o + 1) < dD 6 o := by unfold dD; omega
    have no5 : ¬ 5 ≤ o := by omega
    refine hK.1 [(86, [true, true, true])] 60 _ _ _ _ _ ?_
    by_cases c : tkC b z i = 40
    · refine And.intro (fun w => absurd (e3.trans c) w) (fun _ => ?_)
      show K n 86 _ _ _
      refine hK.1 [] 60 _ _ _ _ _ ?_
      refine x_look hn hR hA (i := i + 1) ?_ (by omega) (by omega) (fun I1 hf1 hA1 h121 => ?_)
      · show I 7 0 0 2 + 1 = _
        rw [hA.1, nI_succ]
      refine And.intro (fun w => absurd w (by decide)) (fun _ => ?_)
      show CPd _ _ _ _ _ _ _ _ _
      rw [← nI_succ]
      refine CPd_exc (H0 f (Nat.le_refl _) I1 (o + 1) (i + 1) s (rt_same hR hf1.tr6) hA1 (by omega) (by omega) (by omega) (by unfold mu at *; omega)) (by omega) rfl (fun y hy => ?_)
      cases hr : (prs (tkC b z) (tkM b z) f 0 (o + 1) (i + 1)).1 with
      | false =>
        obtain ⟨d1, d2⟩ := hy.2.2 hr
        rw [d1]
        exact And.intro (fun _ => ⟨Or.inl rfl, rfl, (0, y.2), rfl, rfl, by rw [if_neg hl, if_neg no5, if_pos c]; exact od_pre hf1 h121 (od_no hr hy.1 d2)⟩) (fun w => absurd rfl w)
      | true =>
        obtain ⟨d1, d2, d3, d4⟩ := hy.2.1 hr
        obtain ⟨g1, g2, g3⟩ := gdz hz hr (by decide)
        rw [d1]
        refine And.intro (fun w => absurd w (by decide)) (fun _ => ?_)
        have hR1 := rt_same hR (hf1.tr hy.1).tr6
        refine x_passes hn hR1 d2 (by omega) (by omega) (fun c2 => ?_) (fun c2 I2 hf2 hA2 h122 => ?_)
        · refine And.intro (fun _ => ⟨Or.inl rfl, rfl, (0, y.2), rfl, rfl, ?_⟩) (fun w => absurd rfl w)
          rw [if_neg hl, if_neg no5, if_pos c]
          refine od_pre hf1 h121 (od_sq hr hy.1 d3 d4 ?_)
          show OutD b z r _ (if tkC b z (prs (tkC b z) (tkM b z) f 0 (o + 1) (i + 1)).2.2 = 41 then _ else _) _ _ _
          rw [if_neg c2]
          exact od_nO frD0 d2.1
        · refine And.intro (fun w => absurd w (by decide)) (fun _ => ⟨Or.inr rfl, rfl, (1, I2), rfl, rfl, ?_⟩)
          rw [if_neg hl, if_neg no5, if_pos c]
          refine od_pre hf1 h121 (od_sq hr hy.1 d3 d4 ?_)
          show OutD b z r _ (if tkC b z (prs (tkC b z) (tkM b z) f 0 (o + 1) (i + 1)).2.2 = 41 then _ else _) _ _ _
          rw [if_pos c2]
          exact od_oK hf2 hA2 (fun t _ => by show I2 12 r 0 t = _; rw [h122])
    · have c' : tkC b z i = 45 := q.resolve_left c
      refine And.intro (fun _ => ?_) (fun w => absurd (e3.symm.trans w) c)
      show K n 86 _ _ _
      refine hK.1 [] 60 _ _ _ _ _ ?_
      refine x_look hn hR hA (i := i + 1) ?_ (by omega) (by omega) (fun I1 hf1 hA1 h121 => ?_)
      · show I 7 0 0 2 + 1 = _
        rw [hA.1, nI_succ]
      refine And.intro (fun _ => ?_) (fun w => absurd rfl w)
      show CPd _ _ _ _ _ _ _ _ _
      rw [← nI_succ]
      refine CPd_exc (H6 f (Nat.le_refl _) I1 (o + 1) (i + 1) s (rt_same hR hf1.tr6) hA1 (by omega) (by omega) (by omega) (by unfold mu at *; omega)) (by omega) rfl (fun y hy => ?_)
      cases hr : (prs (tkC b z) (tkM b z) f 6 (o + 1) (i + 1)).1 with
      | false =>
        obtain ⟨d1, d2⟩ := hy.2.2 hr
        rw [d1]
        exact And.intro (fun w => absurd rfl w) (fun _ => ⟨Or.inl rfl, rfl, (0, y.2), rfl, rfl, by rw [if_neg hl, if_neg no5, if_neg no5, if_neg c, if_pos c']; exact od_pre hf1 h121 (od_no hr hy.1 d2)⟩)
      | true =>
        obtain ⟨d1, d2, d3, d4⟩ := hy.2.1 hr
        obtain ⟨g1, g2, g3⟩ := gdz hz hr (by decide)
        rw [d1]
        refine And.intro (fun _ => ?_) (fun w => absurd w (by decide))
        refine x_add hn d2 (by omega) (by omega) (fun I3 h1 h2 h3 h4 => ?_)
        exact ⟨Or.inr rfl, rfl, (1, I3), rfl, rfl, by rw [if_neg hl, if_neg no5, if_neg no5, if_neg c, if_pos c']; exact od_pre hf1 h121 (od_sq hr hy.1 d3 d4 (od_em h1 h3 h4 (od_oK frD0 h2 (fun _ _ => rfl))))⟩
  refine And.intro (fun q => ?_) (fun q => ?_)
  · rw [e3] at q
    show K n 16 _ _ _
    exact leaf (Or.inl q)
  · rw [e3] at q
    refine And.intro (fun q2 => ?_) (fun q2 => ?_)
    · rw [e3] at q2
      have hl : ¬ (tkC b z i = 2 ∨ tkC b z i = 3) := fun w => w.elim q q2
      have tail : tkC b z i = 40 ∨ tkC b z i = 45 → (nI o < 5 → K n 71 [some (vR 7 0 0), some (vI (nI o)), none] [] (mkX I J R0 (some (11, r, 0)))) ∧ (¬ nI o < 5 → OutD b z r s (if tkC b z i = 2 ∨ tkC b z i = 3 then (true, ([tkM b z i], i + 1)) else if tkC b z i = 40 then (if 5 ≤ o then nO i else sq (prs (tkC b z) (tkM b z) f 0 (o + 1) (i + 1)) (fun j => if tkC b z j = 41 then oK (j + 1) else nO j)) else if tkC b z i = 45 then (if 5 ≤ o then nO i else sq (prs (tkC b z) (tkM b z) f 6 (o + 1) (i + 1)) (em (-10) oK)) else nO i) 0 I I) := by
        intro h
        refine ⟨fun w => back hl h (Classical.byContradiction fun c => absurd w (nI_nlt (a := o) (b := 5) (by omega) (by omega))), fun w => no hl (Or.inl (Classical.byContradiction fun c => w (nI_lt (a := o) (b := 5) (by omega) (by omega))))⟩
      refine And.intro (fun q3 => ?_) (fun q3 => ?_)
      · rw [e3] at q3
        refine And.intro (fun w => ?_) (fun w => ⟨Or.inl rfl, rfl, (0, I), rfl, rfl, (tail (Or.inl q3)).2 w⟩)
        show K n 71 _ _ _
        exact (tail (Or.inl q3)).1 w
      · rw [e3] at q3
        refine And.intro (fun q4 => ?_) (fun q4 => ?_)
        · rw [e3] at q4
          exact ⟨Or.inl rfl, rfl, (0, I), rfl, rfl, no hl (Or.inr ⟨q3, q4⟩)⟩
        · rw [e3] at q4
          refine And.intro (fun w => ?_) (fun w => ⟨Or.inl rfl, rfl, (0, I), rfl, rfl, (tail (Or.inr q4)).2 w⟩)
          show K n 71 _ _ _
          exact (tail (Or.inr q4)).1 w
    · rw [e3] at q2
      show K n 16 _ _ _
      exact leaf (Or.inr q2)
end Y7
