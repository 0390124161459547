section X7
variable {G : GT} {l : Launch} {I : HI} {J : HJ} {rd : Option AO} {rr : Nat → Nat} {P : PP} {b : Nat → Nat} {n base : Nat}
theorem m_term {f : Nat} (H : ∀ g, g ≤ f → CtM G l I J rd rr P b n base 161 6 g) : CtM G l I J rd rr P b n base 160 5 (f + 1) := by
  intro o i S T hX h24 h23 ho ht hmu
  have hE : prs (tkC b n) (tkM b n) (f + 1) 5 o i = sq (prs (tkC b n) (tkM b n) f 6 o i) (prs (tkC b n) (tkM b n) f 10 o) := rfl
  rw [hE]
  have hd : 4 + 1 ≤ dM 5 o := by unfold dM; omega
  have hds : dM 6 o < dM 5 o := by unfold dM; omega
  refine Ev_go iM_term rfl rfl rfl ⟨Nat.le_refl _, Nat.le_refl _⟩ (fun K hK => ?_)
  have stop1 : ∀ v S' T', FrN S S' T T' → S' 20 0 0 24 = 1 → OutM b n o (bdL 5 o) (ofE S) (sq (prs (tkC b n) (tkM b n) f 6 o i) (prs (tkC b n) (tkM b n) f 10 o)) v S' T' → K 80 5 [some (vR 20 0 0), some (vI v)] [] (mf I J rd rr P S' T') := by
    intro v S' T' hf h1 ho
    refine hK.1 [] 60 _ _ _ _ _ ?_
    refine c_isSign1 h1 (by omega) ?_
    exact And.intro (fun _ => ⟨rfl, (v, (S', T')), rfl, rfl, hf, ho⟩) (fun q => absurd rfl q)
  have loop : ∀ g, g ≤ f → ∀ j v S' T', FrN S S' T T' → S' 20 0 0 24 = 0 → S' 20 0 0 23 = nI o → TkS b n j S' T' → mu 10 j < g → (∀ v' S'' T'', LO b n o (bdL 10 o) (ofE S) (prs (tkC b n) (tkM b n) g 10 o j) v v' S'' T'' → OutM b n o (bdL 5 o) (ofE S) (sq (prs (tkC b n) (tkM b n) f 6 o i) (prs (tkC b n) (tkM b n) f 10 o)) v' S'' T'') → K 80 5 [some (vR 20 0 0), some (vI v)] [] (mf I J rd rr P S' T') := by
    intro g
    induction g with
    | zero => intro _ j v S' T' _ _ _ _ hm; exact absurd hm (by omega)
    | succ g ih =>
      intro hgf j v S' T' hf h24 h23 ht hm hout
      have hG : prs (tkC b n) (tkM b n) (g + 1) 10 o j = (if tkC b n j = 42 then sq (prs (tkC b n) (tkM b n) g 6 o (j + 1)) (em (-22) (prs (tkC b n) (tkM b n) g 10 o)) else oK j) := rfl
      rw [hG] at hout
      refine hK.1 [(5, [true, true])] 60 _ _ _ _ _ ?_
      refine c_isSign (s := 42) (hX.fr hf) ht h24 rfl (by decide) (by omega) ?_
      refine And.intro (fun z => ?_) (fun z => ?_)
      · have hne : ¬ tkC b n j = 42 := iN_n z
        rw [if_neg hne] at hout
        exact ⟨rfl, (v, (S', T')), rfl, rfl, hf, hout v S' T' (lo_ok h24 h23 ht)⟩
      · have hey : tkC b n j = 42 := iN_y z
        rw [if_pos hey] at hout
        have hj160 := tk_i hX.1 (ne0 hey (by decide))
        refine c_next (hX.fr hf) ht (ne0 hey (by decide)) (by rw [hey]; decide) (by omega) (fun q hq1 hq2 => ?_)
        have hf1 := hf.tr hq1.1
        have hsub := H g (by omega) o (j + 1) q.1 q.2 (hX.fr hf1) (hq1.2.2.1.trans h24) (hq1.2.1.trans h23) ho hq2 (by unfold mu at *; omega)
        refine CPd_exc hsub (by omega) rfl (fun y hy => ?_)
        have hf2 := hf1.tr hy.1
        have hout2 := hy.2
        rw [fr_E hf1] at hout2
        have go : K 80 5 [some (vR 20 0 0), some (vI (jnd (-22) v y.1))] [] (mf I J rd rr P y.2.1 y.2.2) := by
          cases hr : (prs (tkC b n) (tkM b n) g 6 o (j + 1)).1 with
          | true =>
            obtain ⟨a1, a2, a3, a4⟩ := hout2.1 hr
            have hgs := prs_gs g 6 o (j + 1) (by decide) hr
            refine ih (by omega) _ _ _ _ hf2 a1 a2 a3 (by unfold mu at *; omega) (fun v' S'' T'' hlo => hout v' S'' T'' ?_)
            exact lo_op (by decide) (by decide) hr (va_le a4 (by unfold bdL; simp)) hlo
          | false =>
            obtain ⟨a1, a2⟩ := hout2.2 hr
            exact stop1 _ _ _ hf2 a1 (hout _ _ _ (lo_no hr a1 a2))
        show K 80 5 _ _ _
        exact go
  refine hK.1 [(5, [true, true])] 60 _ _ _ _ _ ?_
  refine CPd_exc (H f (Nat.le_refl _) o i S T hX h24 h23 ho ht (by unfold mu at *; omega)) (by omega) rfl (fun y hy => ?_)
  show K 80 5 _ _ _
  cases hr : (prs (tkC b n) (tkM b n) f 6 o i).1 with
  | true =>
    obtain ⟨a1, a2, a3, a4⟩ := hy.2.1 hr
    have hgs := prs_gs f 6 o i (by decide) hr
    refine loop f (Nat.le_refl _) _ _ _ _ hy.1 a1 a2 a3 (by unfold mu at *; omega) (fun v' S'' T'' hlo => ?_)
    exact om_seq hr a4 (by unfold bdL; simp) hlo
  | false =>
    obtain ⟨a1, a2⟩ := hy.2.2 hr
    exact stop1 _ _ _ hy.1 a1 (om_no hr a1 a2)
theorem m_added {f : Nat} (H : ∀ g, g ≤ f → CtM G l I J rd rr P b n base 160 5 g) : CtM G l I J rd rr P b n base 159 4 (f + 1) := by
  intro o i S T hX h24 h23 ho ht hmu
  have hb : ∀ i, i < n → b i < 256 := fun i hi => (hX.2.2.2.2 i hi).1
  have hE : prs (tkC b n) (tkM b n) (f + 1) 4 o i = sq (prs (tkC b n) (tkM b n) f 5 o i) (prs (tkC b n) (tkM b n) f 9 o) := rfl
  rw [hE]
  have hd : 4 + 1 ≤ dM 4 o := by unfold dM; omega
  have hds : dM 5 o < dM 4 o := by unfold dM; omega
  refine Ev_go iM_added rfl rfl rfl ⟨Nat.le_refl _, Nat.le_refl _⟩ (fun K hK => ?_)
  have stop1 : ∀ v S' T', FrN S S' T T' → S' 20 0 0 24 = 1 → OutM b n o (bdL 4 o) (ofE S) (sq (prs (tkC b n) (tkM b n) f 5 o i) (prs (tkC b n) (tkM b n) f 9 o)) v S' T' → K 80 5 [some (vR 20 0 0), some (vI v), none, none] [] (mf I J rd rr P S' T') := by
    intro v S' T' hf h1 ho
    refine hK.1 [] 60 _ _ _ _ _ ?_
    refine c_isSign1 h1 (by omega) ?_
    refine And.intro (fun q => absurd rfl q) (fun _ => ?_)
    refine c_isSign1 h1 (by omega) ?_
    exact And.intro (fun _ => ⟨rfl, (v, (S', T')), rfl, rfl, hf, ho⟩) (fun q => absurd rfl q)
  have loop : ∀ g, g ≤ f → ∀ j v S' T', FrN S S' T T' → S' 20 0 0 24 = 0 → S' 20 0 0 23 = nI o → TkS b n j S' T' → mu 9 j < g → (∀ v' S'' T'', LO b n o (bdL 9 o) (ofE S) (prs (tkC b n) (tkM b n) g 9 o j) v v' S'' T'' → OutM b n o (bdL 4 o) (ofE S) (sq (prs (tkC b n) (tkM b n) f 5 o i) (prs (tkC b n) (tkM b n) f 9 o)) v' S'' T'') → K 80 5 [some (vR 20 0 0), some (vI v), none, none] [] (mf I J rd rr P S' T') := by
    intro g
    induction g with
    | zero => intro _ j v S' T' _ _ _ _ hm; exact absurd hm (by omega)
    | succ g ih =>
      intro hgf j v S' T' hf h24 h23 ht hm hout
      have hG : prs (tkC b n) (tkM b n) (g + 1) 9 o j = (if tkC b n j = 43 then sq (prs (tkC b n) (tkM b n) g 5 o (j + 1)) (em (-20) (prs (tkC b n) (tkM b n) g 9 o)) else if tkC b n j = 45 then sq (prs (tkC b n) (tkM b n) g 5 o (j + 1)) (em (-21) (prs (tkC b n) (tkM b n) g 9 o)) else oK j) := rfl
      rw [hG] at hout
      refine hK.1 [(5, [true, true, false, false]), (40, [true, true, true, false])] 60 _ _ _ _ _ ?_
      -- the sign is passed
      have pass : ∀ (c u : Int32), tkC b n j ≠ 0 → tkC b n j ≠ 1 → (c = -20 ∧ u = 1 ∨ c = -21 ∧ u = 0) → (∀ v' S'' T'', LO b n o (bdL 9 o) (ofE S) (sq (prs (tkC b n) (tkM b n) g 5 o (j + 1)) (em c (prs (tkC b n) (tkM b n) g 9 o))) v v' S'' T'' → OutM b n o (bdL 4 o) (ofE S) (sq (prs (tkC b n) (tkM b n) f 5 o i) (prs (tkC b n) (tkM b n) f 9 o)) v' S'' T'') → K 80 40 [some (vR 20 0 0), some (vI v), some (vI u), none] [] (mf I J rd rr P S' T') := by
        intro c u hn0 hn1 hcu hout
        have hj160 := tk_i hX.1 hn0
        refine hK.1 [(5, [true, true, false, false])] 60 _ _ _ _ _ ?_
        refine c_next (hX.fr hf) ht hn0 hn1 (by omega) (fun q hq1 hq2 => ?_)
        have hf1 := hf.tr hq1.1
        have hsub := H g (by omega) o (j + 1) q.1 q.2 (hX.fr hf1) (hq1.2.2.1.trans h24) (hq1.2.1.trans h23) ho hq2 (by unfold mu at *; omega)
        refine CPd_exc hsub (by omega) rfl (fun y hy => ?_)
        have hf2 := hf1.tr hy.1
        have hout2 := hy.2
        rw [fr_E hf1] at hout2
        have hc10 : c ≤ -10 ∧ ¬ -11 ≤ c := by rcases hcu with ⟨rfl, _⟩ | ⟨rfl, _⟩ <;> decide
        have go : K 80 5 [some (vR 20 0 0), some (vI (jnd c v y.1)), none, none] [] (mf I J rd rr P y.2.1 y.2.2) := by
          cases hr : (prs (tkC b n) (tkM b n) g 5 o (j + 1)).1 with
          | true =>
            obtain ⟨a1, a2, a3, a4⟩ := hout2.1 hr
            have hgs := prs_gs g 5 o (j + 1) (by decide) hr
            refine ih (by omega) _ _ _ _ hf2 a1 a2 a3 (by unfold mu at *; omega) (fun v' S'' T'' hlo => hout v' S'' T'' ?_)
            exact lo_op hc10.1 hc10.2 hr (va_le a4 (by unfold bdL; simp)) hlo
          | false =>
            obtain ⟨a1, a2⟩ := hout2.2 hr
            exact stop1 _ _ _ hf2 a1 (hout _ _ _ (lo_no hr a1 a2))
        rcases hcu with ⟨rfl, rfl⟩ | ⟨rfl, rfl⟩
        · refine And.intro (fun q => absurd q (by decide)) (fun _ => ?_)
          show K 80 5 _ _ _
          exact go
        · refine And.intro (fun _ => ?_) (fun q => absurd rfl q)
          show K 80 5 _ _ _
          exact go
      refine c_isSign (s := 43) (hX.fr hf) ht h24 rfl (by decide) (by omega) ?_
      refine And.intro (fun z => ?_) (fun z => ?_)
      · have hey : tkC b n j = 43 := iN_y z
        rw [if_pos hey] at hout
        have hT : T' 20 0 0 22 = nL 43 := ((tk_sign (s := 43) ht hb (by decide)).mpr hey).2
        refine And.intro (fun q => ?_) (fun _ => ?_)
        · rw [lg_cmp_0, mf_T (Or.inr ⟨rfl, rfl⟩), hT] at q
          exact absurd rfl q
        · show K 80 40 _ _ _
          exact pass (-20) 1 (ne0 hey (by decide)) (by rw [hey]; decide) (Or.inl ⟨rfl, rfl⟩) hout
      · have hne : ¬ tkC b n j = 43 := iN_n z
        rw [if_neg hne] at hout
        refine c_isSign (s := 45) (hX.fr hf) ht h24 rfl (by decide) (by omega) ?_
        refine And.intro (fun z => ?_) (fun z => ?_)
        · have hne2 : ¬ tkC b n j = 45 := iN_n z
          rw [if_neg hne2] at hout
          exact ⟨rfl, (v, (S', T')), rfl, rfl, hf, hout v S' T' (lo_ok h24 h23 ht)⟩
        · have hey : tkC b n j = 45 := iN_y z
          rw [if_pos hey] at hout
          have hT : T' 20 0 0 22 = nL 45 := ((tk_sign (s := 45) ht hb (by decide)).mpr hey).2
          refine And.intro (fun q => ?_) (fun q => ?_)
          · show K 80 40 _ _ _
            exact pass (-21) 0 (ne0 hey (by decide)) (by rw [hey]; decide) (Or.inr ⟨rfl, rfl⟩) hout
          · rw [lg_cmp_0, mf_T (Or.inr ⟨rfl, rfl⟩), hT] at q
            exact absurd q (by decide)
  refine hK.1 [(5, [true, true, false, false])] 60 _ _ _ _ _ ?_
  refine CPd_exc (H f (Nat.le_refl _) o i S T hX h24 h23 ho ht (by unfold mu at *; omega)) (by omega) rfl (fun y hy => ?_)
  show K 80 5 _ _ _
  cases hr : (prs (tkC b n) (tkM b n) f 5 o i).1 with
  | true =>
    obtain ⟨a1, a2, a3, a4⟩ := hy.2.1 hr
    have hgs := prs_gs f 5 o i (by decide) hr
    refine loop f (Nat.le_refl _) _ _ _ _ hy.1 a1 a2 a3 (by unfold mu at *; omega) (fun v' S'' T'' hlo => ?_)
    exact om_seq hr a4 (by unfold bdL; simp) hlo
  | false =>
    obtain ⟨a1, a2⟩ := hy.2.2 hr
    exact stop1 _ _ _ hy.1 a1 (om_no hr a1 a2)
end X7
