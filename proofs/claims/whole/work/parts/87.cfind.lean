section Y3
variable {G : GT} {l : Launch} {I : HI} {J : HJ} {R0 : HR} {rd : Option AO} {n : Nat} {b : Nat → Nat} {z : Nat}
theorem c_min {d n : Nat} {a b : Int32} {h : AH} {post : Option AV → AH → Prop} (hd : 1 ≤ d) (k : post (some (vI (if b < a then b else a))) h) : CPd G l d n 1 33 [vI a, vI b] h post := Or.inr ⟨rfl, hd, Or.inr ⟨rfl, a, b, rfl, k⟩⟩
theorem sg_str : ∀ c, c < 256 → (isSg c = true ↔ ∃ j, j < 8 ∧ strB 1 j = (nI c).toInt8.toInt32) := by
  intro c hc
  have h1 : ∀ c, c < 256 → (isSg c = decide (strB 1 0 = (nI c).toInt8.toInt32 ∨ strB 1 1 = (nI c).toInt8.toInt32 ∨ strB 1 2 = (nI c).toInt8.toInt32 ∨ strB 1 3 = (nI c).toInt8.toInt32 ∨ strB 1 4 = (nI c).toInt8.toInt32 ∨ strB 1 5 = (nI c).toInt8.toInt32 ∨ strB 1 6 = (nI c).toInt8.toInt32 ∨ strB 1 7 = (nI c).toInt8.toInt32)) := by decide +kernel
  rw [h1 c hc, decide_eq_true_iff]
  constructor
  · rintro (q | q | q | q | q | q | q | q)
    · exact ⟨0, by decide, q⟩
    · exact ⟨1, by decide, q⟩
    · exact ⟨2, by decide, q⟩
    · exact ⟨3, by decide, q⟩
    · exact ⟨4, by decide, q⟩
    · exact ⟨5, by decide, q⟩
    · exact ⟨6, by decide, q⟩
    · exact ⟨7, by decide, q⟩
  · rintro ⟨j, hj, q⟩
    match j, hj with
    | 0, _ => exact Or.inl q
    | 1, _ => exact Or.inr (Or.inl q)
    | 2, _ => exact Or.inr (Or.inr (Or.inl q))
    | 3, _ => exact Or.inr (Or.inr (Or.inr (Or.inl q)))
    | 4, _ => exact Or.inr (Or.inr (Or.inr (Or.inr (Or.inl q))))
    | 5, _ => exact Or.inr (Or.inr (Or.inr (Or.inr (Or.inr (Or.inl q)))))
    | 6, _ => exact Or.inr (Or.inr (Or.inr (Or.inr (Or.inr (Or.inr (Or.inl q))))))
    | 7, _ => exact Or.inr (Or.inr (Or.inr (Or.inr (Or.inr (Or.inr (Or.inr q))))))
theorem ch_id : ∀ c, c < 256 → ((nI c).toUInt32 % 65536).toInt32 = nI c := by decide +kernel
theorem x_indexOf {d c : Nat} {h : AH} {post : Option AV → AH → Prop} (hn : n ≤ 80) (hc : c < 256) (hd : 4 < d) (k : ∀ u : Int32, (u < 0 ↔ isSg c = false) → post (some (vI u)) h) : CPd G l d n 0 28 [vR 41 1 0, vI (nI c)] h post := by
  have E0 : Ev G l 0 (mt 34) n n [vR 42 1 0, vI (nI c), vI 0, vI 8] h (fun r h' => ∃ u : Int32, r = some (vI u) ∧ h' = h ∧ (u < 0 ↔ isSg c = false)) := by
    refine Ev_go iJ_indexOfChar rfl rfl rfl ⟨Nat.le_refl _, hn⟩ (fun K hK => ?_)
    have loop : ∀ f j, j + f = 8 → (∀ t, t < j → strB 1 t ≠ (nI c).toInt8.toInt32) → K n 7 [some (vR 42 1 0), some (vI (nI c)), some (vI 0), some (vI 8), some (vI (nI c).toInt8.toInt32), some (vI (nI j))] [] h := by
      intro f
      induction f with
      | zero =>
        intro j hj hall
        refine hK.1 [] 60 _ _ _ _ _ ?_
        rw [show j = 8 by omega] at hall ⊢
        refine And.intro (fun _ => ?_) (fun q => absurd (by decide) q)
        refine ⟨rfl, -1, rfl, rfl, fun _ => ?_, fun _ => by decide⟩
        refine Bool.eq_false_iff.mpr (fun q => ?_)
        obtain ⟨j, hj, q⟩ := (sg_str c hc).mp q
        exact hall j hj q
      | succ f ih =>
        intro j hj hall
        refine hK.1 [(7, [true, true, true, true, true, true])] 60 _ _ _ _ _ ?_
        refine And.intro (fun q => absurd q (nI_ge (a := j) (b := 8) (by omega) (by decide))) (fun _ => ?_)
        refine ⟨nI_in (N := 8) (by omega) (by decide), ?_⟩
        rw [nI_clamp (n := j) (by omega)]
        refine And.intro (fun q => ?_) (fun q => ?_)
        · show K n 7 _ _ _
          refine Kc (ih (j + 1) (by omega) (fun t ht => ?_)) (by rw [nI_succ]; rfl) rfl
          by_cases e : t = j
          · rw [e]; exact q
          · exact hall t (by omega)
        · refine ⟨rfl, nI j, rfl, rfl, fun q => absurd q (nI_pos (by omega)), fun w => ?_⟩
          rw [(sg_str c hc).mpr ⟨j, by omega, q⟩] at w
          cases w
    refine hK.1 [(7, [true, true, true, true, true, true])] 60 _ _ _ _ _ ?_
    show K n 7 _ _ _
    exact loop 8 0 (by omega) (fun t ht => absurd ht (by omega))
  have E1 : Ev G l 0 (mt 31) n n [vI (nI c)] h (fun r h' => r = some (vI 1) ∧ h' = h) := by
    refine Ev_go iJ_canEncode rfl rfl rfl ⟨Nat.le_refl _, hn⟩ (fun K hK => hK.1 [] 50 _ _ _ _ _ ?_)
    refine And.intro (fun q => absurd q (nI_pos (by omega))) (fun _ => And.intro (fun q => ?_) (fun _ => ⟨Or.inr rfl, rfl, rfl, rfl⟩))
    have q : nI 255 < nI c := q
    rw [nI_lt' (by omega) (by omega)] at q
    exact absurd q (by omega)
  have E2 : Ev G l 2 (mt 30) n n [vR 42 1 0, vI (nI c), vI 0, vI 8] h (fun r h' => ∃ u : Int32, r = some (vI u) ∧ h' = h ∧ (u < 0 ↔ isSg c = false)) := by
    refine Ev_go iJ_indexOfL rfl rfl rfl ⟨Nat.le_refl _, hn⟩ (fun K hK => hK.1 [] 50 _ _ _ _ _ ?_)
    refine CPd_eq E1 (by decide) rfl ?_
    refine And.intro (fun _ => ?_) (fun q => absurd q (by decide))
    refine c_max (by decide) ?_
    refine c_min (by decide) ?_
    refine And.intro (fun _ => ?_) (fun q => absurd (by decide) q)
    exact CPd_of E0 (by decide) rfl (fun r h' q => by obtain ⟨u, rfl, rfl, hu⟩ := q; exact ⟨rfl, u, rfl, rfl, hu⟩)
  have E3 : Ev G l 3 (mt 29) n n [vR 41 1 0, vI (nI c), vI 0] h (fun r h' => ∃ u : Int32, r = some (vI u) ∧ h' = h ∧ (u < 0 ↔ isSg c = false)) := by
    refine Ev_go iJ_indexOf2 rfl rfl rfl ⟨Nat.le_refl _, hn⟩ (fun K hK => hK.1 [] 50 _ _ _ _ _ ?_)
    refine x_isLatin1 hn (by decide) ?_
    refine And.intro (fun q => absurd q (by decide)) (fun _ => ?_)
    refine x_length hn (by decide) (by decide) ?_
    exact CPd_of E2 (by decide) rfl (fun r h' q => by obtain ⟨u, rfl, rfl, hu⟩ := q; exact ⟨rfl, u, rfl, rfl, hu⟩)
  have E : Ev G l 4 (mt 28) n n [vR 41 1 0, vI (nI c)] h (fun r h' => ∃ u : Int32, r = some (vI u) ∧ h' = h ∧ (u < 0 ↔ isSg c = false)) := by
    refine Ev_go iJ_indexOf rfl rfl rfl ⟨Nat.le_refl _, hn⟩ (fun K hK => hK.1 [] 50 _ _ _ _ _ ?_)
    exact CPd_of E3 (by decide) rfl (fun r h' q => by obtain ⟨u, rfl, rfl, hu⟩ := q; exact ⟨rfl, u, rfl, rfl, hu⟩)
  refine CPd_of E hd rfl (fun r h' q => ?_)
  obtain ⟨u, rfl, rfl, hu⟩ := q
  exact k u hu
theorem TP.tk {m a : Nat} {c x : Int32} (h : TP b z I) : TP b z (tkI I m c a x) := by
  obtain ⟨h1, h2, h3⟩ := h
  refine ⟨?_, h2, fun i hi => ⟨(h3 i hi).1, ?_⟩⟩
  · unfold tkI
    rw [upI_at, if_neg (by omega), upI_at, if_neg (by omega), upI_at, if_neg (by omega), upI_at, if_neg (by omega)]
    exact h1
  · unfold tkI
    rw [upI_at, if_neg (by omega), upI_at, if_neg (by omega), upI_at, if_neg (by omega), upI_at, if_neg (by omega)]
    exact (h3 i hi).2
theorem x_word {d a m : Nat} {post : Option AV → AH → Prop} (hn : n ≤ 80) (hT : TP b z I) (ha : a < z) (hm : I 2 0 0 5 = nI m) (hm160 : m ≤ 160) (hd : 5 < d) (k : post (some (vI (nI (skA isLe b z a)))) (mkX (tkI I m (wdC (wdF b a (skA isLe b z a) 12)) a (wdA (wdF b a (skA isLe b z a) 12))) J R0 rd)) : CPd G l d n 0 22 [vR 2 0 0, vI (nI a)] (mkX I J R0 rd) post := by
  have hT0 := hT
  obtain ⟨hz, hz160, hb⟩ := hT
  have hsk := skA_p (p := isLe) (b := b) (n := z) (a := a) (by omega)
  have E : Ev G l 5 (mt 22) n n [vR 2 0 0, vI (nI a)] (mkX I J R0 rd) (fun r h' => r = some (vI (nI (skA isLe b z a))) ∧ h' = mkX (tkI I m (wdC (wdF b a (skA isLe b z a) 12)) a (wdA (wdF b a (skA isLe b z a) 12))) J R0 rd) := by
    refine Ev_go iT_behindWord rfl rfl rfl ⟨Nat.le_refl _, hn⟩ (fun K hK => ?_)
    have words : ∀ j i, i + j = 12 → K n 36 [some (vR 2 0 0), some (vI (nI a)), some (vI (nI (skA isLe b z a))), some (vI (wdC (wdF b a (skA isLe b z a) i))), some (vI (wdA (wdF b a (skA isLe b z a) i))), some (vI (nI i))] [] (mkX I J R0 rd) := by
      intro j
      induction j with
      | zero =>
        intro i hi
        refine hK.1 [] 60 _ _ _ _ _ ?_
        rw [show i = 12 by omega]
        refine And.intro (fun _ => ?_) (fun q => absurd (by decide) q)
        refine x_addToken hn hm hm160 (by decide) ?_
        exact ⟨rfl, rfl, rfl⟩
      | succ j ih =>
        intro i hi
        refine hK.1 [(36, [true, true, true, true, true, true])] 60 _ _ _ _ _ ?_
        have e := ih (i + 1) (by omega)
        rw [wdF, nI_succ] at e
        refine And.intro (fun q => absurd q (nI_ge (a := i) (b := 12) (by omega) (by decide))) (fun _ => ?_)
        refine x_wordOf hn (by omega) (by decide) ?_
        refine x_spells hn hT0 hsk.1 hsk.2.1 (show i < 12 by omega) (by decide) ?_
        refine And.intro (fun q => ?_) (fun q => And.intro (fun q2 => ?_) (fun q2 => ?_))
        · rw [if_neg (iN_n q)] at e
          show K n 36 _ _ _
          exact e
        · rw [if_pos (iN_y q)] at e
          have q2 : nI 6 ≤ nI i := q2
          have h6 : 6 ≤ i := Classical.byContradiction fun w => absurd q2 (nI_ge (by omega) (by omega))
          show K n 36 _ _ _
          refine Kc e ?_ rfl
          have hw : wdC (some i) = 1000 + nI i := by
            show (if i < 6 then 3 else nI (1000 + i)) = _
            rw [if_neg (by omega), show (1000 : Int32) = nI 1000 from rfl, nI_plus]
          rw [hw]
          rfl
        · rw [if_pos (iN_y q)] at e
          have h6 : i < 6 := Classical.byContradiction fun w => q2 (nI_le (a := 6) (b := i) (by omega) (by omega))
          show K n 36 _ _ _
          refine Kc e ?_ rfl
          have hw : wdC (some i) = 3 := by
            show (if i < 6 then 3 else nI (1000 + i)) = _
            rw [if_pos h6]
          rw [hw]
          rfl
    have loop : ∀ f i, z - i < f → i ≤ z → skA isLe b z i = skA isLe b z a → K n 2 [some (vR 2 0 0), some (vI (nI a)), some (vI (nI i)), none, none, none] [] (mkX I J R0 rd) := by
      intro f
      induction f with
      | zero => intro i h; exact absurd h (by omega)
      | succ f ih =>
        intro i hf hi hsk
        refine hK.1 [(2, [true, true, true, false, false, false]), (36, [true, true, true, true, true, true])] 60 _ _ _ _ _ ?_
        refine And.intro (fun q => ?_) (fun q => ?_)
        · have hiz : ¬ i < z := fun w => absurd q (by show ¬ I 2 0 0 1 ≤ nI i; rw [hz]; exact nI_ge w (by omega))
          show K n 36 _ _ _
          refine Kc (words 12 0 (by omega)) ?_ rfl
          rw [← hsk, skA_f (fun q => hiz q.1)]
          rfl
        · have hiz : i < z := Classical.byContradiction fun w => q (by show I 2 0 0 1 ≤ nI i; rw [hz]; exact nI_le (by omega) (by omega))
          refine ⟨nI_in (N := 160) (by omega) (by decide), ?_⟩
          rw [nI_clamp (n := i) (by omega)]
          refine x_isLetter hn (by decide) ?_
          show _ ∧ _
          rw [show getI (mkX I J R0 rd) 3 0 0 i = nI (b i) from (hb i hiz).2, iN_congr (le_iff (hb i hiz).1)]
          refine And.intro (fun q => ?_) (fun q => ?_)
          · show K n 36 _ _ _
            refine Kc (words 12 0 (by omega)) ?_ rfl
            rw [← hsk, skA_f (fun w => iN_n q w.2)]
            rfl
          · show K n 2 _ _ _
            refine Kc (ih (i + 1) (by omega) (by omega) ?_) (by rw [nI_succ]; rfl) rfl
            rw [← hsk]
            exact (skA_t ⟨hiz, iN_y q⟩).symm
    refine hK.1 [(2, [true, true, true, false, false, false])] 60 _ _ _ _ _ ?_
    show K n 2 _ _ _
    exact loop (z + 1) a (by omega) (by omega) rfl
  exact CPd_eq E hd rfl k
theorem x_amount {d a m : Nat} {post : Option AV → AH → Prop} (hn : n ≤ 80) (hT : TP b z I) (ha : a < z) (hm : I 2 0 0 5 = nI m) (hm160 : m ≤ 160) (hd : 2 < d) (k : post (some (vI (nI (skA isDi b z a)))) (mkX (tkI I m (if 4 < skA isDi b z a - a then 1 else 2) a (nbI b a (skA isDi b z a - a))) J R0 rd)) : CPd G l d n 0 27 [vR 2 0 0, vI (nI a)] (mkX I J R0 rd) post := by
  obtain ⟨hz, hz160, hb⟩ := hT
  have hsk := skA_p (p := isDi) (b := b) (n := z) (a := a) (by omega)
  have E : Ev G l 2 (mt 27) n n [vR 2 0 0, vI (nI a)] (mkX I J R0 rd) (fun r h' => r = some (vI (nI (skA isDi b z a))) ∧ h' = mkX (tkI I m (if 4 < skA isDi b z a - a then 1 else 2) a (nbI b a (skA isDi b z a - a))) J R0 rd) := by
    refine Ev_go iT_behindAmount rfl rfl rfl ⟨Nat.le_refl _, hn⟩ (fun K hK => ?_)
    have leave : K n 45 [some (vR 2 0 0), some (vI (nI a)), some (vI (nI (skA isDi b z a))), some (vI (nbI b a (skA isDi b z a - a)))] [] (mkX I J R0 rd) := by
      refine hK.1 [] 60 _ _ _ _ _ ?_
      have e4 : nI (skA isDi b z a) - nI a = nI (skA isDi b z a - a) := nI_minus hsk.1
      have hle : (nI (skA isDi b z a - a) ≤ 4) ↔ ¬ 4 < skA isDi b z a - a := by
        rw [Int32.le_iff_toInt_le, nI_toInt (by omega)]
        have h5' : (4 : Int32).toInt = 4 := by decide
        omega
      refine And.intro (fun q => ?_) (fun q => ?_)
      · rw [e4, hle] at q
        refine x_addToken hn hm hm160 (by decide) ?_
        exact ⟨rfl, rfl, by rw [if_neg q]⟩
      · rw [e4, hle, Classical.not_not] at q
        refine x_addToken hn hm hm160 (by decide) ?_
        exact ⟨rfl, rfl, by rw [if_pos q]⟩
    have loop : ∀ f i, z - i < f → i ≤ z → a ≤ i → skA isDi b z i = skA isDi b z a → K n 4 [some (vR 2 0 0), some (vI (nI a)), some (vI (nI i)), some (vI (nbI b a (i - a)))] [] (mkX I J R0 rd) := by
      intro f
      induction f with
      | zero => intro i h; exact absurd h (by omega)
      | succ f ih =>
        intro i hf hi hai hsk
        refine hK.1 [(4, [true, true, true, true]), (45, [true, true, true, true])] 60 _ _ _ _ _ ?_
        refine And.intro (fun q => ?_) (fun q => ?_)
        · have hiz : ¬ i < z := fun w => absurd q (by show ¬ I 2 0 0 1 ≤ nI i; rw [hz]; exact nI_ge w (by omega))
          show K n 45 _ _ _
          have := leave
          rw [← hsk, skA_f (fun q => hiz q.1)] at this
          exact this
        · have hiz : i < z := Classical.byContradiction fun w => q (by show I 2 0 0 1 ≤ nI i; rw [hz]; exact nI_le (by omega) (by omega))
          refine ⟨nI_in (N := 160) (by omega) (by decide), ?_⟩
          rw [nI_clamp (n := i) (by omega)]
          refine x_isDigit hn (by decide) ?_
          show _ ∧ _
          have hbi : getI (mkX I J R0 rd) 3 0 0 i = nI (b i) := (hb i hiz).2
          rw [hbi, iN_congr (di_iff (hb i hiz).1)]
          refine And.intro (fun q => ?_) (fun q => ?_)
          · show K n 45 _ _ _
            have := leave
            rw [← hsk, skA_f (fun w => iN_n q w.2)] at this
            exact this
          · refine ⟨nI_in (N := 160) (by omega) (by decide), ?_⟩
            rw [nI_clamp (n := i) (by omega), hbi]
            show K n 4 _ _ _
            have e := ih (i + 1) (by omega) (by omega) (by omega) (by rw [← hsk]; exact (skA_t ⟨hiz, iN_y q⟩).symm)
            rw [show i + 1 - a = (i - a) + 1 by omega, nbI, show a + (i - a) = i by omega, nI_succ] at e
            exact e
    refine hK.1 [(4, [true, true, true, true])] 60 _ _ _ _ _ ?_
    show K n 4 _ _ _
    refine Kc (loop (z + 1) a (by omega) (by omega) (Nat.le_refl _) rfl) ?_ rfl
    rw [Nat.sub_self]
    rfl
  exact CPd_eq E hd rfl k
end Y3
