section Y2
variable {G : GT} {l : Launch} {I : HI} {J : HJ} {R0 : HR} {rd : Option AO} {n : Nat} {b : Nat → Nat} {z : Nat}
theorem x_spells {d a e k : Nat} {post : Option AV → AH → Prop} (hn : n ≤ 80) (hT : TP b z I) (hae : a ≤ e) (hez : e ≤ z) (hk : k < 12) (hd : 4 < d) (kk : post (some (vI (iN (wdM b a e k = true)))) (mkX I J R0 rd)) : CPd G l d n 0 24 [vR 2 0 0, vI (nI a), vI (nI e), vR 41 (k + 2) 0] (mkX I J R0 rd) post := by
  obtain ⟨hz, hz160, hb⟩ := hT
  obtain ⟨hsl, hsb⟩ := str_wd k hk
  obtain ⟨⟨w6, w1⟩, wf⟩ := wd_facts k hk
  have E : Ev G l 4 (mt 24) n n [vR 2 0 0, vI (nI a), vI (nI e), vR 41 (k + 2) 0] (mkX I J R0 rd) (fun r h' => r = some (vI (iN (wdM b a e k = true))) ∧ h' = mkX I J R0 rd) := by
    refine Ev_go iT_spells rfl rfl rfl ⟨Nat.le_refl _, hn⟩ (fun K hK => ?_)
    have loop : ∀ j i, i + j = (wdL k).length → e - a = (wdL k).length → (∀ t, t < i → b (a + t) = (wdL k).getD t 0) → K n 31 [some (vR 2 0 0), some (vI (nI a)), some (vI (nI e)), some (vR 41 (k + 2) 0), some (vI (nI (wdL k).length)), some (vI (nI i))] [] (mkX I J R0 rd) := by
      intro j
      induction j with
      | zero =>
        intro i hi hlen hall
        refine hK.1 [] 60 _ _ _ _ _ ?_
        rw [show i = (wdL k).length by omega] at hall ⊢
        refine And.intro (fun _ => ⟨Or.inr rfl, rfl, ?_, rfl⟩) (fun h => absurd (nI_le (Nat.le_refl _) (by omega)) h)
        unfold iN
        rw [if_pos (wdM_at.mpr ⟨hlen, hall⟩)]
      | succ j ih =>
        intro i hi hlen hall
        refine hK.1 [(31, [true, true, true, true, true, true])] 60 _ _ _ _ _ ?_
        refine And.intro (fun h => absurd h (nI_ge (by omega) (by omega))) (fun _ => ?_)
        show vp_in _ _ ∧ _
        rw [nI_plus]
        refine ⟨nI_in (N := 160) (by omega) (by decide), ?_⟩
        rw [nI_clamp (n := a + i) (by omega), show getI (mkX I J R0 rd) 3 0 0 (a + i) = nI (b (a + i)) from (hb (a + i) (by omega)).2]
        refine x_charAt hn (by omega) (by rw [hsl]; omega) (by rw [hsl]; omega) (by decide) ?_
        rw [hsb i (by omega) (by omega)]
        have hc256 := ((wf i (by omega)).1 (by omega)).2
        have hbi := (hb (a + i) (by omega)).1
        refine And.intro (fun q => ?_) (fun q => ?_)
        · have q := nI_ij q (by omega) (by omega)
          show K n 31 _ _ _
          refine Kc (ih (i + 1) (by omega) hlen (fun t ht => ?_)) (by rw [nI_succ]; rfl) rfl
          by_cases e : t = i
          · rw [e]; exact q
          · exact hall t (by omega)
        · refine ⟨Or.inl rfl, rfl, ?_, rfl⟩
          unfold iN
          rw [if_neg]
          intro w
          exact q (by rw [(wdM_at.mp w).2 i (by omega)])
    refine hK.1 [(31, [true, true, true, true, true, true])] 60 _ _ _ _ _ ?_
    refine x_length hn (by omega) (by decide) ?_
    rw [hsl]
    refine And.intro (fun h => absurd h (nI_pos (by omega))) (fun _ => And.intro (fun h => ?_) (fun _ => And.intro (fun q => ?_) (fun q => ?_)))
    · have h : I 2 0 0 1 < nI e := h
      rw [hz, nI_lt' (by omega) (by omega)] at h
      exact absurd h (by omega)
    · rw [nI_minus hae] at q
      have q := nI_ij q (by omega) (by omega)
      show K n 31 _ _ _
      exact loop (wdL k).length 0 (by omega) q (fun t ht => absurd ht (by omega))
    · rw [nI_minus hae] at q
      refine ⟨Or.inl rfl, rfl, ?_, rfl⟩
      unfold iN
      rw [if_neg]
      intro w
      exact q (by rw [(wdM_at.mp w).1])
  exact CPd_eq E hd rfl kk
theorem x_wordOf {d k : Nat} {h : AH} {post : Option AV → AH → Prop} (hn : n ≤ 80) (hk : k < 12) (hd : 0 < d) (kk : post (some (vR 41 (k + 2) 0)) h) : CPd G l d n 1 23 [vI (nI k)] h post := by
  have E : Ev G l 0 (mt 23) n n [vI (nI k)] h (fun r h' => r = some (vR 41 (k + 2) 0) ∧ h' = h) := by
    refine Ev_go iT_wordOf rfl rfl rfl ⟨Nat.le_refl _, hn⟩ (fun K hK => hK.1 [] 50 _ _ _ _ _ ?_)
    have hne : ∀ t, t < 12 → nI k = nI t → k = t := fun t ht q => nI_ij q (by omega) (by omega)
    refine And.intro ⟨fun q => ?_, fun q => ?_, fun q => ?_, fun q => ?_, fun q => ?_, fun q => ?_, fun q => ?_, fun q => ?_, fun q => ?_, fun q => ?_, fun q => ?_, True.intro⟩ (fun q => ?_)
    · have := hne 0 (by decide) q; subst this; exact ⟨rfl, rfl, rfl⟩
    · have := hne 1 (by decide) q; subst this; exact ⟨rfl, rfl, rfl⟩
    · have := hne 2 (by decide) q; subst this; exact ⟨rfl, rfl, rfl⟩
    · have := hne 3 (by decide) q; subst this; exact ⟨rfl, rfl, rfl⟩
    · have := hne 4 (by decide) q; subst this; exact ⟨rfl, rfl, rfl⟩
    · have := hne 5 (by decide) q; subst this; exact ⟨rfl, rfl, rfl⟩
    · have := hne 6 (by decide) q; subst this; exact ⟨rfl, rfl, rfl⟩
    · have := hne 7 (by decide) q; subst this; exact ⟨rfl, rfl, rfl⟩
    · have := hne 8 (by decide) q; subst this; exact ⟨rfl, rfl, rfl⟩
    · have := hne 9 (by decide) q; subst this; exact ⟨rfl, rfl, rfl⟩
    · have := hne 10 (by decide) q; subst this; exact ⟨rfl, rfl, rfl⟩
    · obtain ⟨n0, n1, n2, n3, n4, n5, n6, n7, n8, n9, n10, -⟩ := q
      have : k = 11 := by
        have f : ∀ t, t < 12 → ¬ nI k = nI t → k ≠ t := fun t _ q e => q (by rw [e])
        have := f 0 (by decide) n0; have := f 1 (by decide) n1; have := f 2 (by decide) n2; have := f 3 (by decide) n3; have := f 4 (by decide) n4; have := f 5 (by decide) n5; have := f 6 (by decide) n6; have := f 7 (by decide) n7; have := f 8 (by decide) n8; have := f 9 (by decide) n9; have := f 10 (by decide) n10
        omega
      subst this
      exact ⟨rfl, rfl, rfl⟩
  exact CPd_eq E hd rfl kk
def tkI (I : HI) (m : Nat) (c : Int32) (a : Nat) (x : Int32) : HI := upI (upI (upI (upI I 4 0 0 m c) 5 0 0 m (nI a)) 6 0 0 m x) 2 0 0 5 (nI (m + 1))
theorem x_addToken {d m a : Nat} {c x : Int32} {post : Option AV → AH → Prop} (hn : n ≤ 80) (hm : I 2 0 0 5 = nI m) (hm160 : m ≤ 160) (hd : 0 < d) (k : post none (mkX (tkI I m c a x) J R0 rd)) : CPd G l d n 0 25 [vR 2 0 0, vI c, vI (nI a), vI x] (mkX I J R0 rd) post := by
  have E : Ev G l 0 (mt 25) n n [vR 2 0 0, vI c, vI (nI a), vI x] (mkX I J R0 rd) (fun r h' => r = none ∧ h' = mkX (tkI I m c a x) J R0 rd) := by
    refine Ev_go iT_addToken rfl rfl rfl ⟨Nat.le_refl _, hn⟩ (fun K hK => hK.1 [] 50 _ _ _ _ _ ?_)
    have e0 : getI (mkX I J R0 rd) 2 0 0 5 = nI m := hm
    refine And.intro (fun q => ?_) (fun _ => ?_)
    · rw [e0] at q
      have q : nI 161 ≤ nI m := q
      exact absurd q (nI_ge (by omega) (by decide))
    · have e1 : upI I 4 0 0 m c 2 0 0 5 = nI m := by rw [upI_at, if_neg (by omega)]; exact hm
      have e2 : upI (upI I 4 0 0 m c) 5 0 0 m (nI a) 2 0 0 5 = nI m := by rw [upI_at, if_neg (by omega)]; exact e1
      have e3 : upI (upI (upI I 4 0 0 m c) 5 0 0 m (nI a)) 6 0 0 m x 2 0 0 5 = nI m := by rw [upI_at, if_neg (by omega)]; exact e2
      show vp_in (I 2 0 0 5) 161 ∧ _
      rw [hm]
      refine ⟨nI_in (N := 161) (by omega) (by decide), ?_⟩
      show vp_in (upI I 4 0 0 (I 2 0 0 5).toNatClampNeg c 2 0 0 5) 161 ∧ _
      rw [hm, nI_clamp (n := m) (by omega), e1]
      refine ⟨nI_in (N := 161) (by omega) (by decide), ?_⟩
      show vp_in (upI (upI I 4 0 0 (I 2 0 0 5).toNatClampNeg c) 5 0 0 (upI I 4 0 0 (I 2 0 0 5).toNatClampNeg c 2 0 0 5).toNatClampNeg (nI a) 2 0 0 5) 161 ∧ _
      rw [hm, nI_clamp (n := m) (by omega), e1, nI_clamp (n := m) (by omega), e2]
      refine ⟨nI_in (N := 161) (by omega) (by decide), rfl, rfl, ?_⟩
      show mkX (upI (upI (upI (upI I 4 0 0 (I 2 0 0 5).toNatClampNeg c) 5 0 0 (upI I 4 0 0 (I 2 0 0 5).toNatClampNeg c 2 0 0 5).toNatClampNeg (nI a)) 6 0 0 (upI (upI I 4 0 0 (I 2 0 0 5).toNatClampNeg c) 5 0 0 (upI I 4 0 0 (I 2 0 0 5).toNatClampNeg c 2 0 0 5).toNatClampNeg (nI a) 2 0 0 5).toNatClampNeg x) 2 0 0 5 (upI (upI (upI I 4 0 0 (I 2 0 0 5).toNatClampNeg c) 5 0 0 (upI I 4 0 0 (I 2 0 0 5).toNatClampNeg c 2 0 0 5).toNatClampNeg (nI a)) 6 0 0 (upI (upI I 4 0 0 (I 2 0 0 5).toNatClampNeg c) 5 0 0 (upI I 4 0 0 (I 2 0 0 5).toNatClampNeg c 2 0 0 5).toNatClampNeg (nI a) 2 0 0 5).toNatClampNeg x 2 0 0 5 + 1)) J R0 rd = _
      rw [hm, nI_clamp (n := m) (by omega), e1, nI_clamp (n := m) (by omega), e2, nI_clamp (n := m) (by omega), e3, ← nI_succ]
      rfl
  exact CPd_eq E hd rfl k
end Y2
