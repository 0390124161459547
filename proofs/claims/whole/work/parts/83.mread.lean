section X9
variable {G : GT} {l : Launch} {I : HI} {J : HJ} {rd : Option AO} {rr : Nat → Nat} {P : PP} {b : Nat → Nat} {n base : Nat}
theorem nbI_ge {b : Nat → Nat} {a k : Nat} (hb : ∀ i, i < k → b (a + i) < 256) (hk : k ≤ 4) (h : ∀ i, i < k → isDi (b (a + i)) = true) : ∃ v, v < 1000000 ∧ nbI b a k = nI v := by
  refine ⟨nbN b a k, ?_, nb_eq k h⟩
  match k, hk with
  | 0, _ => show 0 < 1000000; decide
  | 1, _ => have := hb 0 (by omega); simp only [nbN]; omega
  | 2, _ => have := hb 0 (by omega); have := hb 1 (by omega); simp only [nbN]; omega
  | 3, _ => have := hb 0 (by omega); have := hb 1 (by omega); have := hb 2 (by omega); simp only [nbN]; omega
  | 4, _ => have := hb 0 (by omega); have := hb 1 (by omega); have := hb 2 (by omega); have := hb 3 (by omega); simp only [nbN]; omega
/-- an amount or a name stands there -/
theorem tk_23 {i : Nat} (h : tkC b n i = 2 ∨ tkC b n i = 3) : psA b n i < n ∧ ((tkC b n i = 2 ∧ isLe (b (psA b n i)) = false ∧ isDi (b (psA b n i)) = true ∧ ¬ 4 < skA isDi b n (psA b n i) - psA b n i) ∨ (tkC b n i = 3 ∧ isLe (b (psA b n i)) = true)) := by
  have hlt : psA b n i < n := tk_lt (by rcases h with h | h <;> rw [h] <;> decide)
  refine ⟨hlt, ?_⟩
  cases hl : isLe (b (psA b n i)) with
  | true =>
    have hc := (tk_le hlt hl).1
    rcases h with h | h
    · rw [hc] at h
      cases hw : wdF b (psA b n i) (skA isLe b n (psA b n i)) 12 with
      | none => rw [hw] at h; exact absurd h (by decide)
      | some k => rw [hw] at h; exact absurd h (wdC_3 k (wdF_lt 12 hw).1).2.1
    · exact Or.inr ⟨h, rfl⟩
  | false =>
    cases hd : isDi (b (psA b n i)) with
    | true =>
      have hc := (tk_di hlt hl hd).1
      by_cases h4 : 4 < skA isDi b n (psA b n i) - psA b n i
      · rw [if_pos h4] at hc
        rw [hc] at h
        rcases h with h | h <;> exact absurd h (by decide)
      · rw [if_neg h4] at hc
        exact Or.inl ⟨hc, rfl, rfl, h4⟩
    | false =>
      have hc := (tk_sg hlt hl hd).1
      exfalso
      rw [hc] at h
      by_cases hs : isSg (b (psA b n i)) = true
      · rw [if_pos hs] at h
        have hs' := of_decide_eq_true hs
        have hns : ∀ s, s < 64 → 40 ≤ s → nI s ≠ 2 ∧ nI s ≠ 3 := by decide
        have := hns (b (psA b n i)) (by omega) (by omega)
        exact h.elim this.1 this.2
      · rw [if_neg hs] at h
        rcases h with h | h <;> exact absurd h (by decide)
theorem tk_mok (hb : ∀ i, i < n → b i < 256) : Mok (tkC b n) (tkM b n) := by
  intro i h
  obtain ⟨hlt, h⟩ := tk_23 h
  rcases h with ⟨h, hl, hd, h4⟩ | ⟨h, hl⟩
  · rw [(tk_di hlt hl hd).2.1]
    have hsk := skA_p (p := isDi) (b := b) (n := n) (a := psA b n i) (by omega)
    obtain ⟨v, hv, he⟩ := nbI_ge (b := b) (a := psA b n i) (k := skA isDi b n (psA b n i) - psA b n i) (fun j hj => hb _ (by omega)) (by omega) (fun j hj => hsk.2.2.2 _ (by omega) (by omega))
    rw [he]
    intro q
    have := Int32.le_iff_toInt_le.mp q
    rw [nI_toInt (by omega)] at this
    have h5' : (-10 : Int32).toInt = -10 := by decide
    omega
  · rw [(tk_le hlt hl).2.1]
    rw [(tk_le hlt hl).1] at h
    cases hw : wdF b (psA b n i) (skA isLe b n (psA b n i)) 12 with
    | none => rw [hw] at h; exact absurd h (by decide)
    | some k =>
      rw [hw] at h
      have h6 := ((wdC_3 k (wdF_lt 12 hw).1).1).mp h
      have hd : ∀ k, k < 6 → ¬ wdA (some k) ≤ -10 := by decide
      exact hd k h6
theorem tk_num {i : Nat} {S : HI} {T : HJ} (h : TkS b n i S T) (hlt : psA b n i < n) : (S 20 0 0 20 = 2 ↔ tkC b n i = 2) ∧ (S 20 0 0 20 = 1 ↔ isLe (b (psA b n i)) = true) ∧ (tkC b n i = 2 → (T 20 0 0 22).toInt32 = tkM b n i) := by
  obtain ⟨g1, g2, g3, g4⟩ := h.2.2 hlt
  cases hl : isLe (b (psA b n i)) with
  | true =>
    rw [(g1 hl).1, (tk_le hlt hl).1]
    refine ⟨⟨fun q => absurd q (by decide), fun q => ?_⟩, ⟨fun _ => rfl, fun _ => rfl⟩, fun q => ?_⟩
    all_goals
      cases hw : wdF b (psA b n i) (skA isLe b n (psA b n i)) 12 with
      | none => rw [hw] at q; exact absurd q (by decide)
      | some k => rw [hw] at q; exact absurd q (wdC_3 k (wdF_lt 12 hw).1).2.1
  | false =>
    cases hd : isDi (b (psA b n i)) with
    | true =>
      rw [(g2 hl hd).1, (tk_di hlt hl hd).1, (tk_di hlt hl hd).2.1]
      by_cases h4 : 4 < skA isDi b n (psA b n i) - psA b n i
      · rw [if_pos h4, if_pos h4]
        exact ⟨⟨fun q => absurd q (by decide), fun q => absurd q (by decide)⟩, ⟨fun q => absurd q (by decide), fun q => absurd q (by decide)⟩, fun q => absurd q (by decide)⟩
      · rw [if_neg h4, if_neg h4]
        exact ⟨⟨fun _ => rfl, fun _ => rfl⟩, ⟨fun q => absurd q (by decide), fun q => absurd q (by decide)⟩, fun _ => (g2 hl hd).2.2 h4⟩
    | false =>
      have hc := (tk_sg hlt hl hd).1
      have hne2 : tkC b n i ≠ 2 := fun q => by
        have := tk_23 (Or.inl q)
        rcases this.2 with z | z
        · rw [hd] at z; exact absurd z.2.2.1 (by decide)
        · rw [hl] at z; exact absurd z.2 (by decide)
      have h34 : S 20 0 0 20 = 3 ∨ S 20 0 0 20 = 4 := by
        cases hs : isSg (b (psA b n i)) with
        | true => exact Or.inl (g3 hl hd hs).1
        | false => exact Or.inr (g4 hl hd hs)
      refine ⟨⟨fun q => ?_, fun q => absurd q hne2⟩, ⟨fun q => ?_, fun q => absurd q (by decide)⟩, fun q => absurd q hne2⟩
      · rcases h34 with z | z <;> rw [z] at q <;> exact absurd q (by decide)
      · rcases h34 with z | z <;> rw [z] at q <;> exact absurd q (by decide)
theorem m_atom {f : Nat} (H : ∀ g, g ≤ f → CtM G l I J rd rr P b n base 161 6 g) (H0 : ∀ g, g ≤ f → CtM G l I J rd rr P b n base 155 0 g) : CtM G l I J rd rr P b n base 161 6 (f + 1) := by
  intro o i S T hX h24 h23 ho ht hmu
  have hb : ∀ i, i < n → b i < 256 := fun i hi => (hX.2.2.2.2 i hi).1
  have hE : prs (tkC b n) (tkM b n) (f + 1) 6 o i = (if tkC b n i = 2 ∨ tkC b n i = 3 then (true, ([tkM b n i], i + 1)) else if tkC b n i = 40 then (if 5 ≤ o then nO i else sq (prs (tkC b n) (tkM b n) f 0 (o + 1) (i + 1)) (fun j => if tkC b n j = 41 then oK (j + 1) else nO j)) else if tkC b n i = 45 then (if 5 ≤ o then nO i else sq (prs (tkC b n) (tkM b n) f 6 (o + 1) (i + 1)) (em (-10) oK)) else nO i) := rfl
  rw [hE]
  have hd : 4 + 1 ≤ dM 6 o := by unfold dM; omega
  refine Ev_go iM_atom rfl rfl rfl ⟨Nat.le_refl _, Nat.le_refl _⟩ (fun K hK => ?_)
  refine hK.1 [(71, [true, true])] 100 _ _ _ _ _ ?_
  refine c_isSign (s := 45) hX ht h24 rfl (by decide) (by omega) ?_
  refine And.intro (fun z => ?_) (fun z => ?_)
  · have h45 : ¬ tkC b n i = 45 := iN_n z
    refine c_isSign (s := 40) hX ht h24 rfl (by decide) (by omega) ?_
    refine And.intro (fun z => ?_) (fun z => ?_)
    · have h40 : ¬ tkC b n i = 40 := iN_n z
      -- neither sign
      have nono : tkC b n i ≠ 2 → tkC b n i ≠ 3 → (if tkC b n i = 2 ∨ tkC b n i = 3 then (true, ([tkM b n i], i + 1)) else if tkC b n i = 40 then (if 5 ≤ o then nO i else sq (prs (tkC b n) (tkM b n) f 0 (o + 1) (i + 1)) (fun j => if tkC b n j = 41 then oK (j + 1) else nO j)) else if tkC b n i = 45 then (if 5 ≤ o then nO i else sq (prs (tkC b n) (tkM b n) f 6 (o + 1) (i + 1)) (em (-10) oK)) else nO i) = nO i := by
        intro n2 n3
        rw [if_neg (fun q => q.elim n2 n3), if_neg h40, if_neg h45]
      have bad : ∀ v, OutM b n o (bdL 6 o) (ofE S) (nO i) v (upI (upI S 20 0 0 24 1) 20 0 0 25 (S 20 0 0 21)) T := fun v => by
        refine om_bad ?_ ?_
        · rw [up20t (by decide), upI_s]
        · rw [upI_s]; exact ht.1
      have hfb : FrN S (upI (upI S 20 0 0 24 1) 20 0 0 25 (S 20 0 0 21)) T T := (frn_up (by decide)).tr (frn_up (by decide))
      have e24 : getI (mf I J rd rr P S T) 20 0 0 24 = 0 := (mf_ge (by decide)).trans h24
      have e20 : getI (mf I J rd rr P S T) 20 0 0 20 = S 20 0 0 20 := mf_ge (by decide)
      have hval : (if tkC b n i = 2 ∨ tkC b n i = 3 then ((true, ([tkM b n i], i + 1)) : PR) else if tkC b n i = 40 then (if 5 ≤ o then nO i else sq (prs (tkC b n) (tkM b n) f 0 (o + 1) (i + 1)) (fun j => if tkC b n j = 41 then oK (j + 1) else nO j)) else if tkC b n i = 45 then (if 5 ≤ o then nO i else sq (prs (tkC b n) (tkM b n) f 6 (o + 1) (i + 1)) (em (-10) oK)) else nO i) = (if tkC b n i = 2 ∨ tkC b n i = 3 then (true, ([tkM b n i], i + 1)) else nO i) := by
        rw [if_neg h40, if_neg h45]
      rw [hval]
      have good : ∀ (u : Int32) (q : HI × HJ), (tkC b n i = 2 ∨ tkC b n i = 3) → u = (if 0 ≤ tkM b n i then tkM b n i else nmd (ofE S) (tkM b n i)) → FrX S q.1 T q.2 → TkS b n (i + 1) q.1 q.2 → ∃ z : Int32 × (HI × HJ), some (vI u) = some (vI z.1) ∧ mf I J rd rr P q.1 q.2 = mf I J rd rr P z.2.1 z.2.2 ∧ FrN S z.2.1 T z.2.2 ∧ OutM b n o (bdL 6 o) (ofE S) (if tkC b n i = 2 ∨ tkC b n i = 3 then (true, ([tkM b n i], i + 1)) else nO i) z.1 z.2.1 z.2.2 := by
        intro u q h23' hu hq1 hq2
        refine ⟨(u, q), rfl, rfl, hq1.1, ?_⟩
        rw [if_pos h23', hu]
        refine ⟨fun _ => ⟨hq1.2.2.1.trans h24, hq1.2.1.trans h23, hq2, va_push (tk_mok hb i h23') (by unfold bdL; simp; omega)⟩, fun q => absurd q (by show ¬ (true = false); decide)⟩
      have failing : tkC b n i ≠ 2 → tkC b n i ≠ 3 → ∃ z : Int32 × (HI × HJ), some (vI 0) = some (vI z.1) ∧ mf I J rd rr P (upI (upI S 20 0 0 24 1) 20 0 0 25 (S 20 0 0 21)) T = mf I J rd rr P z.2.1 z.2.2 ∧ FrN S z.2.1 T z.2.2 ∧ OutM b n o (bdL 6 o) (ofE S) (if tkC b n i = 2 ∨ tkC b n i = 3 then (true, ([tkM b n i], i + 1)) else nO i) z.1 z.2.1 z.2.2 := by
        intro n2 n3
        refine ⟨(0, (upI (upI S 20 0 0 24 1) 20 0 0 25 (S 20 0 0 21), T)), rfl, rfl, hfb, ?_⟩
        rw [if_neg (fun q => q.elim n2 n3)]
        exact bad 0
      have word : tkC b n i ≠ 2 → True := fun _ => True.intro
      intro _
      refine And.intro (fun q => absurd e24 q) (fun _ => And.intro (fun q => ?_) (fun q => ?_))
      · rw [e20] at q
        have n2 : tkC b n i ≠ 2 := fun c => by
          have hlt := tk_lt (ne0 c (by decide))
          exact q (((tk_num ht hlt).1).mpr c)
        intro _
        refine And.intro (fun q => absurd e24 q) (fun _ => And.intro (fun q => ?_) (fun q => ?_))
        · rw [e20] at q
          have n3 : tkC b n i ≠ 3 := fun c => by
            have hlt := tk_lt (ne0 c (by decide))
            rcases (tk_23 (Or.inr c)).2 with z | z
            · rw [c] at z; exact absurd z.1 (by decide)
            · exact q (((tk_num ht hlt).2.1).mpr z.2)
          refine c_fail0 h24 (by omega) ?_
          exact ⟨rfl, failing n2 n3⟩
        · rw [e20] at q
          have hlt : psA b n i < n := by
            refine Classical.byContradiction fun z => ?_
            rw [ht.2.1 (by omega)] at q
            exact absurd q (by decide)
          have hl := ((tk_num ht hlt).2.1).mp q
          refine c_name hX ht h24 (by omega) (fun c => ?_) (fun c => ?_) hlt hl
          · intro _
            refine And.intro (fun q => absurd e24 q) (fun _ => ?_)
            refine c_next hX ht (ne0 c (by decide)) (by rw [c]; decide) (by omega) (fun y hy1 hy2 => ?_)
            refine ⟨rfl, good _ y (Or.inr c) ?_ hy1 hy2⟩
            have hneg : ¬ 0 ≤ tkM b n i := by
              rw [(tk_le hlt hl).2.1]
              rw [(tk_le hlt hl).1] at c
              cases hw : wdF b (psA b n i) (skA isLe b n (psA b n i)) 12 with
              | none => rw [hw] at c; exact absurd c (by decide)
              | some k =>
                have hd : ∀ k, k < 12 → ¬ 0 ≤ wdA (some k) := by decide
                exact hd k (wdF_lt 12 hw).1
            rw [if_neg hneg]
          · intro _
            have e24' : getI (mf I J rd rr P (upI (upI S 20 0 0 24 1) 20 0 0 25 (S 20 0 0 21)) T) 20 0 0 24 = 1 := by rw [mf_ge (by decide), up20t (by decide), upI_s]
            refine And.intro (fun _ => ⟨rfl, failing n2 c⟩) (fun q => ?_)
            rw [e24'] at q
            exact absurd q (by decide)
      · rw [e20] at q
        have hlt : psA b n i < n := by
          refine Classical.byContradiction fun z => ?_
          rw [ht.2.1 (by omega)] at q
          exact absurd q (by decide)
        have c := ((tk_num ht hlt).1).mp q
        have hT := (tk_num ht hlt).2.2 c
        refine c_next hX ht (ne0 c (by decide)) (by rw [c]; decide) (by omega) (fun y hy1 hy2 => ?_)
        refine ⟨rfl, good _ y (Or.inl c) ?_ hy1 hy2⟩
        rw [mf_T (Or.inr ⟨rfl, rfl⟩), hT]
        have hpos : 0 ≤ tkM b n i := by
          rcases (tk_23 (Or.inl c)).2 with z | z
          · obtain ⟨_, hl, hdi, h4⟩ := z
            rw [(tk_di hlt hl hdi).2.1]
            have hsk := skA_p (p := isDi) (b := b) (n := n) (a := psA b n i) (by omega)
            obtain ⟨v, hv, he⟩ := nbI_ge (b := b) (a := psA b n i) (k := skA isDi b n (psA b n i) - psA b n i) (fun j hj => hb _ (by omega)) (by omega) (fun j hj => hsk.2.2.2 _ (by omega) (by omega))
            rw [he]
            exact nI_pos' (by omega)
          · rw [c] at z; exact absurd z.1 (by decide)
        rw [if_pos hpos]
    · have hey : tkC b n i = 40 := iN_y z
      have hi160 := tk_i hX.1 (ne0 hey (by decide))
      rw [if_neg (by rw [hey]; decide), if_pos hey] at hK ⊢
      refine c_opens hX ht (ne0 hey (by decide)) (by rw [hey]; decide) h24 h23 ho (by omega) (fun ho5 S' hf' a1 a2 => ?_) (fun ho5 S' T' hf' a1 a2 a3 => ?_)
      · refine And.intro (fun _ => ?_) (fun q => absurd rfl q)
        refine ⟨rfl, (0, (S', T)), rfl, rfl, hf', ?_⟩
        rw [if_pos ho5]
        exact om_bad a1 a2
      · rw [if_neg (by omega)] at hK ⊢
        refine And.intro (fun q => absurd q (by decide)) (fun _ => ?_)
        refine CPd_exc (H0 f (Nat.le_refl _) (o + 1) (i + 1) S' T' (hX.fr hf') a1 a2 (by omega) a3 (by unfold mu at *; omega)) (show dM 0 (o + 1) < dM 6 o by unfold dM; omega) rfl (fun y hy => ?_)
        have hy2 := hy.2
        have hf2 := hf'.tr hy.1
        rw [fr_E hf'] at hy2
        -- the end where it went wrong
        have wrong : ∀ S'' T'', FrN S S'' T T'' → S'' 20 0 0 24 = 1 → OutM b n o (bdL 6 o) (ofE S) (sq (prs (tkC b n) (tkM b n) f 0 (o + 1) (i + 1)) (fun j => if tkC b n j = 41 then oK (j + 1) else nO j)) y.1 (upI S'' 20 0 0 23 (S'' 20 0 0 23 - 1)) T'' → K 80 71 [some (vR 20 0 0), some (vI y.1)] [] (mf I J rd rr P S'' T'') := by
          intro S'' T'' hf h1 hom
          refine hK.1 [] 60 _ _ _ _ _ ?_
          intro _
          have e24' : getI (setI (mf I J rd rr P S'' T'') 20 0 0 23 (getI (mf I J rd rr P S'' T'') 20 0 0 23 - 1)) 20 0 0 24 = 1 := by rw [mf_ge (by decide), mf_up (by decide), mf_ge (by decide), up20t (by decide)]; exact h1
          refine And.intro (fun _ => ⟨rfl, (y.1, (upI S'' 20 0 0 23 (S'' 20 0 0 23 - 1), T'')), rfl, ?_, hf.tr (frn_up (by decide)), hom⟩) (fun q => ?_)
          · rw [mf_ge (by decide), mf_up (by decide)]
          · rw [e24'] at q
            exact absurd q (by decide)
        cases hr : (prs (tkC b n) (tkM b n) f 0 (o + 1) (i + 1)).1 with
        | false =>
          obtain ⟨d1, d2⟩ := hy2.2 hr
          refine c_isSign1 d1 (by omega) ?_
          refine And.intro (fun q => absurd rfl q) (fun _ => ?_)
          refine c_fail1 d1 (by omega) ?_
          show K 80 71 _ _ _
          refine wrong _ _ hf2 d1 (om_no hr ?_ ?_)
          · rw [up20t (by decide)]; exact d1
          · rw [up20t (by decide)]; exact d2
        | true =>
          obtain ⟨d1, d2, d3, d4⟩ := hy2.1 hr
          have hgs := prs_gs f 0 (o + 1) (i + 1) (by decide) hr
          refine c_isSign (s := 41) (hX.fr hf2) d3 d1 rfl (by decide) (by omega) ?_
          refine And.intro (fun z => ?_) (fun z => ?_)
          · have h41 : tkC b n (prs (tkC b n) (tkM b n) f 0 (o + 1) (i + 1)).2.2 = 41 := iN_y z
            have hom : ∀ S'' T'', S'' 20 0 0 24 = 0 → S'' 20 0 0 23 = nI o → TkS b n ((prs (tkC b n) (tkM b n) f 0 (o + 1) (i + 1)).2.2 + 1) S'' T'' → OutM b n o (bdL 6 o) (ofE S) (sq (prs (tkC b n) (tkM b n) f 0 (o + 1) (i + 1)) (fun j => if tkC b n j = 41 then oK (j + 1) else nO j)) y.1 S'' T'' := by
              intro S'' T'' q1 q2 q3
              refine om_seq hr d4 (by unfold bdL; simp; omega) ?_
              simp only [if_pos h41]
              exact lo_ok q1 q2 q3
            show K 80 71 _ _ _
            refine hK.1 [] 60 _ _ _ _ _ ?_
            intro _
            have eo : getI (mf I J rd rr P y.2.1 y.2.2) 20 0 0 23 - 1 = nI o := by rw [mf_ge (by decide), d2, nI_succ]; grind
            have e24' : getI (setI (mf I J rd rr P y.2.1 y.2.2) 20 0 0 23 (getI (mf I J rd rr P y.2.1 y.2.2) 20 0 0 23 - 1)) 20 0 0 24 = 0 := by rw [eo, mf_up (by decide), mf_ge (by decide), up20t (by decide)]; exact d1
            refine And.intro (fun q => absurd e24' q) (fun _ => ?_)
            show CPd _ _ _ _ _ _ _ _ _
            rw [eo, mf_up (by decide)]
            have hf3 : FrN S (upI y.2.1 20 0 0 23 (nI o)) T y.2.2 := hf2.tr (frn_up (by decide))
            refine c_next (hX.fr hf3) (tks_up (by decide) d3) (ne0 h41 (by decide)) (by rw [h41]; decide) (by omega) (fun w hw1 hw2 => ?_)
            refine ⟨rfl, (y.1, w), rfl, rfl, hf3.tr hw1.1, hom _ _ ?_ ?_ hw2⟩
            · rw [hw1.2.2.1, up20t (by decide)]; exact d1
            · rw [hw1.2.1, upI_s]
          · have h41 : ¬ tkC b n (prs (tkC b n) (tkM b n) f 0 (o + 1) (i + 1)).2.2 = 41 := iN_n z
            refine c_fail0 d1 (by omega) ?_
            show K 80 71 _ _ _
            refine wrong _ _ (hf2.tr ((frn_up (by decide)).tr (frn_up (by decide)))) (by rw [up20t (by decide), upI_s]) ?_
            unfold OutM
            rw [sq_t hr]
            simp only [if_neg h41]
            refine ⟨fun q => absurd q (by show ¬ (false = true); decide), fun _ => ⟨?_, ?_⟩⟩
            · rw [up20t (by decide), up20t (by decide), upI_s]
            · rw [up20t (by decide), upI_s]
              exact d3.1
  · have hey : tkC b n i = 45 := iN_y z
    have hi160 := tk_i hX.1 (ne0 hey (by decide))
    rw [if_neg (by rw [hey]; decide), if_neg (by rw [hey]; decide), if_pos hey] at hK ⊢
    refine c_opens hX ht (ne0 hey (by decide)) (by rw [hey]; decide) h24 h23 ho (by omega) (fun ho5 S' hf' a1 a2 => ?_) (fun ho5 S' T' hf' a1 a2 a3 => ?_)
    · refine And.intro (fun _ => ?_) (fun q => absurd rfl q)
      refine ⟨rfl, (0, (S', T)), rfl, rfl, hf', ?_⟩
      rw [if_pos ho5]
      exact om_bad a1 a2
    · rw [if_neg (by omega)] at hK ⊢
      refine And.intro (fun q => absurd q (by decide)) (fun _ => ?_)
      refine CPd_exc (H f (Nat.le_refl _) (o + 1) (i + 1) S' T' (hX.fr hf') a1 a2 (by omega) a3 (by unfold mu at *; omega)) (show dM 6 (o + 1) < dM 6 o by unfold dM; omega) rfl (fun y hy => ?_)
      have hy2 := hy.2
      rw [fr_E hf'] at hy2
      have hun := om_un (c := -10) (L := bdL 6 o) (by decide) (by decide) (by unfold bdL; simp; omega) hy2
      refine ⟨rfl, (-y.1, (upI y.2.1 20 0 0 23 (y.2.1 20 0 0 23 - 1), y.2.2)), rfl, ?_, (hf'.tr hy.1).tr (frn_up (by decide)), hun⟩
      rw [mf_ge (by decide), mf_up (by decide)]
/-- all that reads -/
theorem m_all : ∀ F f, f < F → CtM G l I J rd rr P b n base 155 0 f ∧ CtM G l I J rd rr P b n base 156 1 f ∧ CtM G l I J rd rr P b n base 157 2 f ∧ CtM G l I J rd rr P b n base 159 4 f ∧ CtM G l I J rd rr P b n base 160 5 f ∧ CtM G l I J rd rr P b n base 161 6 f
  | 0, f, h => absurd h (by omega)
  | F + 1, 0, _ => by
    refine ⟨?_, ?_, ?_, ?_, ?_, ?_⟩ <;> exact fun o i S T _ _ _ _ _ h => absurd h (by omega)
  | F + 1, f + 1, h => by
    have ih := fun g (hg : g ≤ f) => m_all F g (by omega)
    exact ⟨m_either (fun g hg => (ih g hg).2.1), m_both (fun g hg => (ih g hg).2.2.1), m_not (fun g hg => (ih g hg).2.2.1) (fun g hg => (ih g hg).2.2.2.1), m_added (fun g hg => (ih g hg).2.2.2.2.1), m_term (fun g hg => (ih g hg).2.2.2.2.2), m_atom (fun g hg => (ih g hg).2.2.2.2.2) (fun g hg => (ih g hg).1)⟩
theorem ct_either : CtM G l I J rd rr P b n base 155 0 pF := (m_all (pF + 1) pF (Nat.lt_succ_self _)).1
end X9
