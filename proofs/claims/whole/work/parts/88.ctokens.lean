section Y4
variable {G : GT} {l : Launch} {I : HI} {J : HJ} {R0 : HR} {rd : Option AO} {n : Nat} {b : Nat → Nat} {z : Nat}
theorem x_token1 {d a m : Nat} {post : Option AV → AH → Prop} (hn : n ≤ 80) (hT : TP b z I) (ha : a < z) (hm : I 2 0 0 5 = nI m) (hm160 : m ≤ 160) (hd : 6 < d) (k : post (some (vI (nI (enA b z a)))) (mkX (tkI I m (cdA b z a) a (amA b z a)) J R0 rd)) : CPd G l d n 0 20 [vR 2 0 0, vI (nI a)] (mkX I J R0 rd) post := by
  have hT0 := hT
  obtain ⟨hz, hz160, hb⟩ := hT
  have hba := (hb a ha).1
  have E : Ev G l 6 (mt 20) n n [vR 2 0 0, vI (nI a)] (mkX I J R0 rd) (fun r h' => r = some (vI (nI (enA b z a))) ∧ h' = mkX (tkI I m (cdA b z a) a (amA b z a)) J R0 rd) := by
    refine Ev_go iT_behindToken rfl rfl rfl ⟨Nat.le_refl _, hn⟩ (fun K hK => hK.1 [] 60 _ _ _ _ _ ?_)
    refine And.intro (fun q => absurd q (nI_pos (by omega))) (fun _ => And.intro (fun _ => ?_) (fun q => absurd (by show nI a < I 2 0 0 1; rw [hz]; exact nI_lt ha (by omega)) q))
    refine ⟨nI_in (N := 160) (by omega) (by decide), ?_⟩
    show CPd _ _ _ _ _ _ _ _ _
    rw [nI_clamp (n := a) (by omega), show getI (mkX I J R0 rd) 3 0 0 a = nI (b a) from (hb a ha).2]
    refine x_isLetter hn (by decide) ?_
    rw [iN_congr (le_iff hba)]
    refine And.intro (fun q => ?_) (fun q => ?_)
    · have hl : isLe (b a) = false := Bool.eq_false_iff.mpr (iN_n q)
      refine x_isDigit hn (by decide) ?_
      rw [iN_congr (di_iff hba)]
      refine And.intro (fun q => ?_) (fun q => ?_)
      · have hdi : isDi (b a) = false := Bool.eq_false_iff.mpr (iN_n q)
        show CPd _ _ _ _ _ _ _ _ _
        rw [ch_id (b a) hba]
        refine x_indexOf hn hba (by decide) (fun u hu => ?_)
        have hc : cdA b z a = (if isSg (b a) = true then nI (b a) else 1) ∧ amA b z a = 0 ∧ enA b z a = a + 1 := by
          unfold cdA amA enA
          rw [hl, hdi]
          exact ⟨rfl, rfl, rfl⟩
        rw [hc.1, hc.2.1, hc.2.2, nI_succ]
        refine And.intro (fun q => ?_) (fun q => ?_)
        · have hs := hu.mp q
          rw [hs, if_neg (by decide)]
          refine x_addToken hn hm hm160 (by decide) ?_
          exact ⟨rfl, rfl, rfl⟩
        · have hs : isSg (b a) = true := by
            cases hs : isSg (b a) with
            | true => rfl
            | false => exact absurd (hu.mpr hs) q
          rw [hs, if_pos rfl]
          refine x_addToken hn hm hm160 (by decide) ?_
          exact ⟨rfl, rfl, rfl⟩
      · have hdi := iN_y q
        have hc : cdA b z a = (if 4 < skA isDi b z a - a then 1 else 2) ∧ amA b z a = nbI b a (skA isDi b z a - a) ∧ enA b z a = skA isDi b z a := by
          unfold cdA amA enA
          rw [hl, hdi]
          exact ⟨rfl, rfl, rfl⟩
        rw [hc.1, hc.2.1, hc.2.2]
        refine x_amount hn hT0 ha hm hm160 (by decide) ?_
        exact ⟨rfl, rfl, rfl⟩
    · have hl := iN_y q
      have hc : cdA b z a = wdC (wdF b a (skA isLe b z a) 12) ∧ amA b z a = wdA (wdF b a (skA isLe b z a) 12) ∧ enA b z a = skA isLe b z a := by
        unfold cdA amA enA
        rw [hl]
        exact ⟨rfl, rfl, rfl⟩
      rw [hc.1, hc.2.1, hc.2.2]
      refine x_word hn hT0 ha hm hm160 (by decide) ?_
      exact ⟨rfl, rfl, rfl⟩
  exact CPd_eq E hd rfl k
/-- the rows of the tokens are filled -/
def TkR (b : Nat → Nat) (z m : Nat) (I : HI) : Prop := I 2 0 0 5 = nI m ∧ m ≤ 160 ∧ (∀ i, i < m → psA b z i < z ∧ I 4 0 0 i = tkC b z i ∧ I 5 0 0 i = nI (psA b z i) ∧ I 6 0 0 i = tkM b z i) ∧ ¬ psA b z m < z
def frT (I I' : HI) : Prop := (∀ k, k ≠ 2 → k ≠ 4 → k ≠ 5 → k ≠ 6 → I' k = I k) ∧ ∀ t, t ≠ 5 → I' 2 0 0 t = I 2 0 0 t
theorem frT.tk {m a : Nat} {c x : Int32} : frT I (tkI I m c a x) := by
  refine ⟨fun k h2 h4 h5 h6 => ?_, fun t ht => ?_⟩
  · unfold tkI
    funext i j t
    simp only [upI]
    rw [if_neg (by omega), if_neg (by omega), if_neg (by omega), if_neg (by omega)]
  · unfold tkI
    simp only [upI]
    rw [if_neg (by omega), if_neg (by omega), if_neg (by omega), if_neg (by omega)]
theorem frT.tr {I' I'' : HI} (h : frT I I') (h' : frT I' I'') : frT I I'' := ⟨fun k a c d e => (h'.1 k a c d e).trans (h.1 k a c d e), fun t ht => (h'.2 t ht).trans (h.2 t ht)⟩
theorem e_findTokens (hn : n ≤ 80) (hT : TP b z I) : Ev G l 7 (mt 17) n n [vR 2 0 0] (mkX I J R0 rd) (fun r h' => ∃ q : HI × Nat, r = none ∧ h' = mkX q.1 J R0 rd ∧ TkR b z q.2 q.1 ∧ frT I q.1) := by
  refine Ev_go iT_findTokens rfl rfl rfl ⟨Nat.le_refl _, hn⟩ (fun K hK => ?_)
  have hz160 := hT.2.1
  have loop : ∀ j t I', t + j = 160 → TP b z I' → I' 2 0 0 5 = nI t → frT I I' → (∀ i, i < t → psA b z i < z ∧ I' 4 0 0 i = tkC b z i ∧ I' 5 0 0 i = nI (psA b z i) ∧ I' 6 0 0 i = tkM b z i) → K n 13 [some (vR 2 0 0), some (vI (nI (psA b z t))), some (vI (nI t))] [] (mkX I' J R0 rd) := by
    intro j
    induction j with
    | zero =>
      intro t I' ht hT' hm hf hall
      refine hK.1 [] 60 _ _ _ _ _ ?_
      rw [show t = 160 by omega] at hall hm ⊢
      refine And.intro (fun _ => ?_) (fun q => absurd (by decide) q)
      refine ⟨rfl, (I', 160), rfl, rfl, ⟨hm, Nat.le_refl _, hall, fun q => ?_⟩, hf⟩
      have q : psA b z 160 < z := q
      have := ps_ge 160 q
      omega
    | succ j ih =>
      intro t I' ht hT' hm hf hall
      refine hK.1 [(13, [true, true, true])] 60 _ _ _ _ _ ?_
      have hple := ps_le (b := b) (n := z) t
      refine And.intro (fun q => absurd q (nI_ge (a := t) (b := 160) (by omega) (by decide))) (fun _ => And.intro (fun q => ?_) (fun q => ?_))
      · have hend : ¬ psA b z t < z := fun w => absurd q (by show ¬ I' 2 0 0 1 ≤ nI _; rw [hT'.1]; exact nI_ge w (by omega))
        exact ⟨rfl, (I', t), rfl, rfl, ⟨hm, by omega, hall, hend⟩, hf⟩
      · have hlt : psA b z t < z := Classical.byContradiction fun w => q (by show I' 2 0 0 1 ≤ nI _; rw [hT'.1]; exact nI_le (by omega) (by omega))
        have hen := en_p (b := b) hlt
        refine x_token1 hn hT' hlt hm (by omega) (by decide) ?_
        refine x_blanks hn hT'.tk hen.2 (by decide) ?_
        have hps : skA isBl b z (enA b z (psA b z t)) = psA b z (t + 1) := by rw [psA, if_pos hlt]
        rw [hps]
        show K n 13 _ _ _
        refine Kc (ih (t + 1) _ (by omega) hT'.tk ?_ (hf.tr frT.tk) (fun i hi => ?_)) (by rw [nI_succ]; rfl) rfl
        · unfold tkI
          rw [upI_s]
        · have h4 : tkI I' t (cdA b z (psA b z t)) (psA b z t) (amA b z (psA b z t)) 4 0 0 i = if i = t then cdA b z (psA b z t) else I' 4 0 0 i := by
            unfold tkI
            rw [upI_at, if_neg (by omega), upI_at, if_neg (by omega), upI_at, if_neg (by omega), upI_at]
            by_cases e : i = t
            · rw [if_pos ⟨rfl, rfl, rfl, e⟩, if_pos e]
            · rw [if_neg (fun q => e q.2.2.2), if_neg e]
          have h5 : tkI I' t (cdA b z (psA b z t)) (psA b z t) (amA b z (psA b z t)) 5 0 0 i = if i = t then nI (psA b z t) else I' 5 0 0 i := by
            unfold tkI
            rw [upI_at, if_neg (by omega), upI_at, if_neg (by omega), upI_at]
            by_cases e : i = t
            · rw [if_pos ⟨rfl, rfl, rfl, e⟩, if_pos e]
            · rw [if_neg (fun q => e q.2.2.2), if_neg e, upI_at, if_neg (by omega)]
          have h6 : tkI I' t (cdA b z (psA b z t)) (psA b z t) (amA b z (psA b z t)) 6 0 0 i = if i = t then amA b z (psA b z t) else I' 6 0 0 i := by
            unfold tkI
            rw [upI_at, if_neg (by omega), upI_at]
            by_cases e : i = t
            · rw [if_pos ⟨rfl, rfl, rfl, e⟩, if_pos e]
            · rw [if_neg (fun q => e q.2.2.2), if_neg e, upI_at, if_neg (by omega), upI_at, if_neg (by omega)]
          rw [h4, h5, h6]
          by_cases e : i = t
          · subst e
            rw [if_pos rfl, if_pos rfl, if_pos rfl]
            unfold tkC tkM
            rw [if_pos hlt, if_pos hlt]
            exact ⟨hlt, rfl, rfl, rfl⟩
          · rw [if_neg e, if_neg e, if_neg e]
            exact hall i (by omega)
  refine hK.1 [(13, [true, true, true])] 60 _ _ _ _ _ ?_
  have hf0 : frT I (upI I 2 0 0 5 0) := ⟨fun k h2 _ _ _ => by funext i j t; simp only [upI]; rw [if_neg (by omega)], fun t ht => by simp only [upI]; rw [if_neg (by omega)]⟩
  have hT0 : TP b z (upI I 2 0 0 5 0) := ⟨(hf0.2 1 (by decide)).trans hT.1, hT.2.1, fun i hi => ⟨(hT.2.2 i hi).1, by rw [hf0.1 3 (by decide) (by decide) (by decide) (by decide)]; exact (hT.2.2 i hi).2⟩⟩
  refine x_blanks (a := 0) (I := upI I 2 0 0 5 0) hn hT0 (Nat.zero_le _) (by decide) ?_
  show K n 13 _ _ _
  exact loop 160 0 _ (by omega) hT0 (by rw [upI_s]; rfl) hf0 (fun i hi => absurd hi (by omega))
theorem ps_const {m : Nat} (h : ¬ psA b z m < z) : ∀ j, psA b z (m + j) = psA b z m
  | 0 => rfl
  | j + 1 => by
    have := ps_const h j
    rw [show m + (j + 1) = (m + j) + 1 by omega, psA, this, if_neg h]
theorem tk_out {m i : Nat} (h : ¬ psA b z m < z) (hi : m ≤ i) : tkC b z i = 0 ∧ psA b z i = z := by
  have e := ps_const h (i - m)
  rw [show m + (i - m) = i by omega] at e
  have := ps_le (b := b) (n := z) m
  refine ⟨tk_end (by rw [e]; exact h), by omega⟩
theorem x_tok {d i m : Nat} {post : Option AV → AH → Prop} (hn : n ≤ 80) (hR : TkR b z m I) (hi : i < 400) (hd : 0 < d) (k : post (some (vI (tkC b z i))) (mkX I J R0 rd)) : CPd G l d n 0 36 [vR 2 0 0, vI (nI i)] (mkX I J R0 rd) post := by
  obtain ⟨h1, h2, h3, h4⟩ := hR
  have E : Ev G l 0 (mt 36) n n [vR 2 0 0, vI (nI i)] (mkX I J R0 rd) (fun r h' => r = some (vI (tkC b z i)) ∧ h' = mkX I J R0 rd) := by
    refine Ev_go iT_token rfl rfl rfl ⟨Nat.le_refl _, hn⟩ (fun K hK => hK.1 [] 50 _ _ _ _ _ ?_)
    refine And.intro (fun q => absurd q (nI_pos (by omega))) (fun _ => And.intro (fun q => ?_) (fun q => ?_))
    · have him : m ≤ i := Classical.byContradiction fun w => absurd q (by show ¬ I 2 0 0 5 ≤ nI i; rw [h1]; exact nI_ge (by omega) (by omega))
      exact ⟨rfl, by rw [(tk_out h4 him).1], rfl⟩
    · have him : i < m := Classical.byContradiction fun w => q (by show I 2 0 0 5 ≤ nI i; rw [h1]; exact nI_le (by omega) (by omega))
      refine ⟨nI_in (N := 161) (by omega) (by decide), rfl, ?_, rfl⟩
      rw [nI_clamp (n := i) (by omega)]
      exact congrArg (fun x => some (vI x)) (h3 i him).2.1
  exact CPd_eq E hd rfl k
theorem x_amo {d i m : Nat} {post : Option AV → AH → Prop} (hn : n ≤ 80) (hR : TkR b z m I) (him : i < m) (hd : 0 < d) (k : post (some (vI (tkM b z i))) (mkX I J R0 rd)) : CPd G l d n 0 46 [vR 2 0 0, vI (nI i)] (mkX I J R0 rd) post := by
  obtain ⟨h1, h2, h3, h4⟩ := hR
  have E : Ev G l 0 (mt 46) n n [vR 2 0 0, vI (nI i)] (mkX I J R0 rd) (fun r h' => r = some (vI (tkM b z i)) ∧ h' = mkX I J R0 rd) := by
    refine Ev_go iT_amount rfl rfl rfl ⟨Nat.le_refl _, hn⟩ (fun K hK => hK.1 [] 50 _ _ _ _ _ ?_)
    refine And.intro (fun q => absurd q (nI_pos (by omega))) (fun _ => And.intro (fun q => ?_) (fun q => ?_))
    · exact absurd q (by show ¬ I 2 0 0 5 ≤ nI i; rw [h1]; exact nI_ge him (by omega))
    · refine ⟨nI_in (N := 161) (by omega) (by decide), rfl, ?_, rfl⟩
      rw [nI_clamp (n := i) (by omega)]
      exact congrArg (fun x => some (vI x)) (h3 i him).2.2.2
  exact CPd_eq E hd rfl k
theorem x_place {d i m : Nat} {post : Option AV → AH → Prop} (hn : n ≤ 80) (hT : TP b z I) (hR : TkR b z m I) (hi : i < 400) (hd : 0 < d) (k : post (some (vI (nI (psA b z i)))) (mkX I J R0 rd)) : CPd G l d n 0 49 [vR 2 0 0, vI (nI i)] (mkX I J R0 rd) post := by
  obtain ⟨h1, h2, h3, h4⟩ := hR
  have E : Ev G l 0 (mt 49) n n [vR 2 0 0, vI (nI i)] (mkX I J R0 rd) (fun r h' => r = some (vI (nI (psA b z i))) ∧ h' = mkX I J R0 rd) := by
    refine Ev_go iT_place rfl rfl rfl ⟨Nat.le_refl _, hn⟩ (fun K hK => hK.1 [] 50 _ _ _ _ _ ?_)
    refine And.intro (fun q => absurd q (nI_pos (by omega))) (fun _ => And.intro (fun q => ?_) (fun q => ?_))
    · have him : m ≤ i := Classical.byContradiction fun w => absurd q (by show ¬ I 2 0 0 5 ≤ nI i; rw [h1]; exact nI_ge (by omega) (by omega))
      refine ⟨rfl, ?_, rfl⟩
      rw [(tk_out h4 him).2]
      exact congrArg (fun x => some (vI x)) hT.1
    · have him : i < m := Classical.byContradiction fun w => q (by show I 2 0 0 5 ≤ nI i; rw [h1]; exact nI_le (by omega) (by omega))
      refine ⟨nI_in (N := 161) (by omega) (by decide), rfl, ?_, rfl⟩
      rw [nI_clamp (n := i) (by omega)]
      exact congrArg (fun x => some (vI x)) (h3 i him).2.2.1
  exact CPd_eq E hd rfl k
end Y4
