/-! the law: its loop, its beginning -/
section Z10
variable {G : GT} {l : Launch} {K : Nat → Nat → List (Option AV) → List AV → AH → Prop} {Q : Option AV → AH → Prop}
theorem lw_cmp {L k : Nat} (hL : L ≤ 3072) (hk : 6 * k ≤ L) : (nI L - 6 < nI (6 * k)) ↔ L < 6 * k + 6 := by
  by_cases h : 6 ≤ L
  · rw [show nI L - 6 = nI (L - 6) from nI_minus (b := 6) h, nI_lt_iff (by omega) (by omega)]
    omega
  · have hk0 : k = 0 := by omega
    subst hk0
    have : ∀ L, L < 6 → nI L - 6 < nI (6 * 0) := by decide
    exact ⟨fun _ => by omega, fun _ => this L (by omega)⟩
theorem law_loop (hK : Cl G l 102 8 1 (mkT 1121 tL_law) 80 Q K) (hL : gL G ≤ 3072) (hQ : ∀ h, Q (some (vI 1)) h) : ∀ j k I J rd rr, 6 * k ≤ gL G → gL G < 6 * (k + j) + 6 → Rel G l I J rr → K 80 18 (LW k) [] (mkH I J rd rr) := by
  intro j
  induction j with
  | zero =>
    intro k I J rd rr h1 h2 h
    refine hK.1 [] 60 _ _ _ _ _ ?_
    refine And.intro (fun _ => ⟨Or.inr rfl, rfl, hQ _⟩) (fun q => absurd ((lw_cmp hL h1).mpr (by omega)) q)
  | succ j ih =>
    intro k I J rd rr h1 h2 h
    refine hK.1 [(164, [true, true, true, true]), (207, [true, true, true, true]), (240, [true, true, true, true]), (273, [true, true, true, true]), (306, [true, true, true, true]), (329, [true, true, true, true]), (342, [true, true, true, true]), (365, [true, true, true, true]), (398, [true, true, true, true]), (411, [true, true, true, true]), (454, [true, true, true, true]), (477, [true, true, true, true]), (490, [true, true, true, true]), (523, [true, true, true, true]), (556, [true, true, true, true]), (589, [true, true, true, true]), (622, [true, true, true, true]), (646, [true, true, true, true]), (699, [true, true, true, true]), (742, [true, true, true, true]), (775, [true, true, true, true]), (829, [true, true, true, true]), (842, [true, true, true, true]), (855, [true, true, true, true]), (878, [true, true, true, true]), (921, [true, true, true, true]), (964, [true, true, true, true]), (1027, [true, true, true, true]), (1080, [true, true, true, true]), (1113, [true, true, true, true])] 60 _ _ _ _ _ ?_
    refine And.intro (fun _ => ⟨Or.inr rfl, rfl, hQ _⟩) (fun q => ?_)
    have hk : 6 * k + 6 ≤ gL G := Classical.byContradiction fun c => q ((lw_cmp hL h1).mpr (by omega))
    have next : ∀ I' J' rd' rr', Rel G l I' J' rr' → K 80 1113 (LW k) [] (mkH I' J' rd' rr') := by
      intro I' J' rd' rr' h'
      refine hK.1 [(18, [true, true, true, true])] 60 _ _ _ _ _ ?_
      show K 80 18 _ _ _
      refine Kc (ih (k + 1) I' J' rd' rr' (by omega) (by omega) h') ?_ rfl
      unfold LW
      rw [show 6 * (k + 1) = 6 * k + 6 by omega, show nI (6 * k + 6) = nI (6 * k) + 6 from (nI_plus (b := 6)).symm]
      rfl
    show vp_in _ _ ∧ _
    refine ⟨nI_in' (by omega) (by omega), ?_⟩
    refine And.intro ?_ (fun _ => ?_)
    · refine ⟨fun _ => ?_, fun _ => ?_, fun _ => ?_, fun _ => ?_, fun _ => ?_, fun _ => ?_, fun _ => ?_, fun _ => ?_, fun _ => ?_, fun _ => ?_, fun _ => ?_, fun _ => ?_, fun _ => ?_, fun _ => ?_, fun _ => ?_, fun _ => ?_, fun _ => ?_, fun _ => ?_, fun _ => ?_, fun _ => ?_, fun _ => ?_, fun _ => ?_, fun _ => ?_, fun _ => ?_, fun _ => ?_, fun _ => ?_, fun _ => ?_, fun _ => ?_, fun _ => ?_, True.intro⟩
      · show K 80 164 (LW k) _ _
        exact cs_set hK hk hL h next
      · show K 80 207 (LW k) _ _
        exact cs_person hK hk hL h next
      · show K 80 240 (LW k) _ _
        exact cs_told hK hk hL h next
      · show K 80 273 (LW k) _ _
        exact cs_hears hK hk hL h next
      · show K 80 306 (LW k) _ _
        exact cs_feed hK hk hL h next
      · show K 80 329 (LW k) _ _
        exact cs_text hK hk hL h next
      · show K 80 342 (LW k) _ _
        exact cs_force hK hk hL h next
      · show K 80 365 (LW k) _ _
        exact cs_tell hK hk hL h next
      · show K 80 398 (LW k) _ _
        exact cs_day hK hk hL h next
      · show K 80 411 (LW k) _ _
        exact cs_run hK hk hL h next
      · show K 80 454 (LW k) _ _
        exact cs_sleeps hK hk hL h next
      · show K 80 477 (LW k) _ _
        exact cs_round hK hk hL h next
      · show K 80 490 (LW k) _ _
        exact cs_ears hK hk hL h next
      · show K 80 523 (LW k) _ _
        exact cs_spread hK hk hL h next
      · show K 80 556 (LW k) _ _
        exact cs_aunt hK hk hL h next
      · show K 80 589 (LW k) _ _
        exact cs_bears hK hk hL h next
      · show K 80 622 (LW k) _ _
        exact cs_mean hK hk hL h next
      · show K 80 646 (LW k) _ _
        exact cs_tells hK hk hL h next
      · show K 80 699 (LW k) _ _
        exact cs_film hK hk hL h next
      · show K 80 742 (LW k) _ _
        exact cs_drawn hK hk hL h next
      · show K 80 775 (LW k) _ _
        exact cs_chance hK hk hL h next
      · show K 80 829 (LW k) _ _
        exact cs_image hK hk hL h next
      · show K 80 842 (LW k) _ _
        exact cs_back hK hk hL h next
      · show K 80 855 (LW k) _ _
        exact cs_count hK hk hL h next
      · show K 80 878 (LW k) _ _
        exact cs_sheet hK hk hL h next
      · show K 80 921 (LW k) _ _
        exact cs_cell hK hk hL h next
      · show K 80 964 (LW k) _ _
        exact cs_copy hK hk hL h next
      · show K 80 1027 (LW k) _ _
        exact cs_valley hK hk hL h next
      · show K 80 1080 (LW k) _ _
        exact cs_taken hK hk hL h next
    · show K 80 1113 (LW k) _ _
      exact next _ _ _ _ h
theorem law_walk (hK : Cl G l 102 8 1 (mkT 1121 tL_law) 80 Q K) (hL : gL G ≤ 3072) (hQ : ∀ h, Q (some (vI 1)) h) (h : AH) : K 0 0 [some (vR 50 0 0), none, none, none] [] h := by
  refine hK.2.2.2.2.2.2.2 0 0 _ [] _ (mkD I0 none D0) (fun p hp => absurd hp (Nat.not_lt_zero _)) ?_
  have hF : Fr 0 I0 D0 := fun p h1 h2 t => ⟨rfl, rfl⟩
  refine al_new (k := 0) (i := 0) (j := 0) (ci := 6) hK (nx := 3) rfl rfl rfl (by decide) (by decide) (by decide) (by omega) (by omega) hF ?_
  refine hK.1 [(4, [true, false, false, false])] 60 _ _ _ _ _ ?_
  show K 1 4 [some (vR 50 0 0), none, none, none] [vR 0 0 0, vR 0 0 0] _
  refine hK.2.1 _ 64 4 7 9 0 54 0 0 0 _ [vR 0 0 0] [] _ _ rfl rfl (by decide) (by decide) (by decide) (by decide) (by decide) ⟨by omega, by omega⟩ (by decide) x_Cinit (fun r h' hq => ?_)
  obtain ⟨q, rfl, rfl, hF, hCF⟩ := hq
  show K 64 7 [some (vR 50 0 0), none, none, none] [vR 0 0 0] _
  refine hK.1 [(8, [true, true, false, false])] 60 _ _ _ _ _ ?_
  show K 64 8 [some (vR 50 0 0), some (vR 0 0 0), none, none] [] _
  refine al_new (k := 20) (i := 0) (j := 0) (ci := 7) hK (nx := 11) rfl rfl rfl (by decide) (by decide) (by decide) (by omega) (by omega) hF ?_
  refine hK.1 [(12, [true, true, false, false])] 60 _ _ _ _ _ ?_
  show K 65 12 [some (vR 50 0 0), some (vR 0 0 0), none, none] [vR 20 0 0, vR 20 0 0] _
  refine hK.2.1 _ 80 12 15 12 136 2 20 0 0 _ [vR 20 0 0] [] _ _ rfl rfl (by decide) (by decide) (by decide) (by decide) (by decide) ⟨by omega, by omega⟩ (by decide) (x_Minit (hF.up (by omega)) (fun t => (hF 64 (by omega) (by omega) t).1)) (fun r h' hq => ?_)
  obtain ⟨q', rfl, rfl, hfr, hMI⟩ := hq
  show K 80 15 [some (vR 50 0 0), some (vR 0 0 0), none, none] [vR 20 0 0] _
  refine hK.1 [(18, [true, true, true, true])] 60 _ _ _ _ _ ?_
  show K 80 18 _ _ _
  obtain ⟨B, hB⟩ := first_ex
  have hrel : Rel G l q' (fun _ _ _ _ => 0) (fun _ => 0) := ⟨A0 B, ok_0, (hCF B (fun w hw E => by rw [f_same w hw]; exact hB w hw E)).fr hfr, MF_0 hMI hB⟩
  exact Kc (law_loop hK hL hQ (gL G) 0 q' _ _ _ (by omega) (by omega) hrel) rfl rfl
end Z10
