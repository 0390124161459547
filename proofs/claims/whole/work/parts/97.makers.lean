/-! the other makers -/
section Z4
variable {G : GT} {l : Launch} {I : HI} {rd : Option AO} {D : DD}
theorem x_Tinit (hF : Fr 3 I D) : Ev G l 1 (mt 1) 3 7 [vR 2 0 0] (mkD I rd D) (fun u h' => u = none ∧ h' = mkD I rd (adD (adD (adD (adD D 2 0 0 0) 2 0 0 2) 2 0 0 3) 2 0 0 4)) := by
  refine Ev_go iT_init rfl rfl rfl ⟨by omega, by omega⟩ (fun K hK => ?_)
  refine hK.1 [(1, [true])] 50 _ _ _ _ _ ?_
  show K _ 1 [some (vR 2 0 0)] [vR 2 0 0] _
  refine hK.2.2.1 _ 1 4 5 (2, (0, 0)) _ [] _ rfl rfl (by decide) (by decide) (by decide) ?_
  refine hK.1 [(8, [true])] 50 _ _ _ _ _ ?_
  show K _ 8 [some (vR 2 0 0)] [vI 160, vR 2 0 0] _
  refine al_arr (k := 3) (i := 0) (j := 0) hK (nx := 10) rfl rfl rfl (Or.inl ⟨rfl, by decide⟩) rfl (by decide) (by omega) (by omega) hF ?_
  refine hK.1 [(17, [true])] 50 _ _ _ _ _ ?_
  show K _ 17 [some (vR 2 0 0)] [vI 161, vR 2 0 0] _
  rw [setR_D (show some (3, (0, 0)) = RF rd (fun _ => 0) 2 0 0 0 from rfl)]
  have hF2 : Fr 4 I (adD D 2 0 0 0) := (hF.up (Nat.le_succ _)).wD (q := 2) rfl (by omega) (by omega)
  refine al_arr (k := 4) (i := 0) (j := 0) hK (nx := 19) rfl rfl rfl (Or.inl ⟨rfl, by decide⟩) rfl (by decide) (by omega) (by omega) hF2 ?_
  refine hK.1 [(26, [true])] 50 _ _ _ _ _ ?_
  show K _ 26 [some (vR 2 0 0)] [vI 161, vR 2 0 0] _
  rw [setR_D (show some (4, (0, 0)) = RF rd (fun _ => 0) 2 0 0 2 from rfl)]
  have hF3 : Fr 5 I (adD (adD D 2 0 0 0) 2 0 0 2) := (hF2.up (Nat.le_succ _)).wD (q := 2) rfl (by omega) (by omega)
  refine al_arr (k := 5) (i := 0) (j := 0) hK (nx := 28) rfl rfl rfl (Or.inl ⟨rfl, by decide⟩) rfl (by decide) (by omega) (by omega) hF3 ?_
  refine hK.1 [(35, [true])] 50 _ _ _ _ _ ?_
  show K _ 35 [some (vR 2 0 0)] [vI 161, vR 2 0 0] _
  rw [setR_D (show some (5, (0, 0)) = RF rd (fun _ => 0) 2 0 0 3 from rfl)]
  have hF4 : Fr 6 I (adD (adD (adD D 2 0 0 0) 2 0 0 2) 2 0 0 3) := (hF3.up (Nat.le_succ _)).wD (q := 2) rfl (by omega) (by omega)
  refine al_arr (k := 6) (i := 0) (j := 0) hK (nx := 37) rfl rfl rfl (Or.inl ⟨rfl, by decide⟩) rfl (by decide) (by omega) (by omega) hF4 ?_
  refine hK.1 [] 50 _ _ _ _ _ ?_
  refine ⟨rfl, rfl, ?_⟩
  rw [setR_D (show some (6, (0, 0)) = RF rd (fun _ => 0) 2 0 0 4 from rfl)]
theorem x_Dinit {n : Nat} (hn : n ≤ 80) : Ev G l 1 (mt 2) n n [vR 7 0 0, vR 2 0 0] (mkD I rd D) (fun u h' => u = none ∧ h' = mkD I rd (adD D 7 0 0 0)) := by
  refine Ev_go iD_init rfl rfl rfl ⟨Nat.le_refl _, hn⟩ (fun K hK => ?_)
  refine hK.1 [(1, [true, true])] 50 _ _ _ _ _ ?_
  show K _ 1 [some (vR 7 0 0), some (vR 2 0 0)] [vR 7 0 0] _
  refine hK.2.2.1 _ 1 4 3 (7, (0, 0)) _ [] _ rfl rfl (by decide) (by decide) (by decide) ?_
  refine hK.1 [] 50 _ _ _ _ _ ?_
  refine ⟨rfl, rfl, ?_⟩
  rw [setR_D (show some (2, (0, 0)) = RF rd (fun _ => 0) 7 0 0 0 from rfl)]
theorem x_Sinit {s : Nat} (hs : s < 4) (hF : Fr (36 + 2 * s) I D) : Ev G l 1 (mt 4) (36 + 2 * s) (37 + 2 * s) [vR 15 s 0] (mkD I rd D) (fun u h' => u = none ∧ h' = mkD (upI I 15 s 0 1 (-1)) rd (adD D 15 s 0 0)) := by
  have id : ∀ s, s < 4 → idOf (36 + 2 * s) = (16, (s, 0)) := by decide
  refine Ev_go iS_init rfl rfl rfl ⟨by omega, by omega⟩ (fun K hK => ?_)
  refine hK.1 [(1, [true])] 50 _ _ _ _ _ ?_
  show K _ 1 [some (vR 15 s 0)] [vR 15 s 0] _
  refine hK.2.2.1 _ 1 4 3 (15, (s, 0)) _ [] _ rfl rfl (by decide) (by decide) (by decide) ?_
  refine hK.1 [(7, [true])] 50 _ _ _ _ _ ?_
  show K _ 7 [some (vR 15 s 0)] [vI 40, vR 15 s 0] _
  refine al_arr hK (nx := 9) rfl rfl (id s hs) (Or.inl ⟨rfl, by decide⟩) rfl (by decide) (by omega) (by omega) hF ?_
  refine hK.1 [] 50 _ _ _ _ _ ?_
  refine ⟨by omega, rfl, ?_⟩
  rw [setR_D (show some (16, (s, 0)) = RF rd (fun _ => 0) 15 s 0 0 from rfl)]
  rfl
theorem x_Pinit {n v p : Nat} (hn : n ≤ 80) : Ev G l 1 (mt 51) n n [vR 19 v p] (mkD I rd D) (fun u h' => ∃ t : Nat, u = none ∧ h' = mkD (upI I 19 v p t (-1)) rd D) := by
  refine Ev_go iP_init rfl rfl rfl ⟨Nat.le_refl _, hn⟩ (fun K hK => ?_)
  refine hK.1 [(1, [true])] 50 _ _ _ _ _ ?_
  show K _ 1 [some (vR 19 v p)] [vR 19 v p] _
  refine hK.2.2.1 _ 1 4 3 (19, (v, p)) _ [] _ rfl rfl (by decide) (by decide) (by decide) ?_
  refine hK.1 [] 50 _ _ _ _ _ ?_
  exact ⟨rfl, _, rfl, rfl⟩
def DV (D : DD) (v : Nat) : Nat → DD
  | 0 => adD (adD D 17 v 0 0) 17 v 0 3
  | i + 1 => adD (DV D v i) 18 v 0 i
theorem x_Vinit {v : Nat} (hv : v < 3) (hF : Fr (44 + 7 * v) I D) : Ev G l 2 (mt 50) (44 + 7 * v) (50 + 7 * v) [vR 17 v 0, vR 11 0 0] (mkD I rd D) (fun u h' => ∃ q : HI, u = none ∧ h' = mkD q rd (DV D v 5) ∧ (∀ k, k ≠ 19 → q k = I k) ∧ Fr (50 + 7 * v) q (DV D v 5)) := by
  have id : ∀ v, v < 3 → idOf (43 + 7 * v) = (17, (v, 0)) ∧ idOf (44 + 7 * v) = (18, (v, 0)) ∧ ∀ p, p < 5 → idOf (45 + 7 * v + p) = (19, (v, p)) := by decide
  obtain ⟨i0, i1, i2⟩ := id v hv
  refine Ev_go iV_init rfl rfl rfl ⟨by omega, by omega⟩ (fun K hK => ?_)
  refine hK.1 [(1, [true, true, false])] 50 _ _ _ _ _ ?_
  show K _ 1 [some (vR 17 v 0), some (vR 11 0 0), none] [vR 17 v 0] _
  refine hK.2.2.1 _ 1 4 3 (17, (v, 0)) _ [] _ rfl rfl (by decide) (by decide) (by decide) ?_
  refine hK.1 [(6, [true, true, false])] 50 _ _ _ _ _ ?_
  show K _ 6 [some (vR 17 v 0), some (vR 11 0 0), none] [vI 5, vR 17 v 0] _
  refine al_ref hK (nx := 9) rfl rfl i1 (Or.inr (Or.inr ⟨by decide, by decide⟩)) rfl (by decide) (by omega) (by omega) hF ?_
  have loop : ∀ j i q, i + j = 5 → (∀ k, k ≠ 19 → q k = I k) → Fr (45 + 7 * v + i) q (DV D v i) → K (45 + 7 * v + i) 19 [some (vR 17 v 0), some (vR 11 0 0), some (vI (nI i))] [] (mkD q rd (DV D v i)) := by
    intro j
    induction j with
    | zero =>
      intro i q hi hq hf
      obtain rfl : i = 5 := by omega
      refine hK.1 [] 50 _ _ _ _ _ ?_
      exact And.intro (fun _ => ⟨by omega, q, rfl, rfl, hq, hf.up (by omega)⟩) (fun w => absurd (by decide) w)
    | succ j ih =>
      intro i q hi hq hf
      have e18 : getR (mkD q rd (DV D v i)) 17 v 0 0 = some (18, (v, 0)) := by
        have h0 : ∀ i, DV D v i 17 v 0 0 = true := by
          intro i
          induction i with
          | zero => show adD (adD D 17 v 0 0) 17 v 0 3 17 v 0 0 = true; unfold adD; simp
          | succ i ih => show adD (DV D v i) 18 v 0 i 17 v 0 0 = true; unfold adD; rw [ih]; simp
        show (if DV D v i 17 v 0 0 = true then RF rd (fun _ => 0) 17 v 0 0 else none) = _
        rw [if_pos (h0 i)]
        rfl
      refine hK.1 [(29, [true, true, true])] 50 _ _ _ _ _ ?_
      refine And.intro (fun w => absurd w (nI_ge (a := i) (b := 5) (by omega) (by decide))) (fun _ => ?_)
      conv => whnf
      rw [e18]
      show K _ 29 [some (vR 17 v 0), some (vR 11 0 0), some (vI (nI i))] [vI (nI i), vR 18 v 0] _
      refine al_new (ci := 0) hK (nx := 32) rfl rfl (i2 i (by omega)) (by decide) (by decide) (by decide) (by omega) (by omega) hf ?_
      refine hK.1 [(33, [true, true, true])] 50 _ _ _ _ _ ?_
      show K _ 33 [some (vR 17 v 0), some (vR 11 0 0), some (vI (nI i))] [vR 19 v i, vR 19 v i, vI (nI i), vR 18 v 0] _
      refine hK.2.1 _ _ 33 36 21 51 1 19 v i _ [vR 19 v i, vI (nI i), vR 18 v 0] [] _ _ rfl rfl (by decide) (by decide) (by decide) (by decide) (by decide) ⟨Nat.le_refl _, by omega⟩ (by show 3 ≤ 8; decide) (x_Pinit (by omega)) (fun r h' hq' => ?_)
      obtain ⟨t, rfl, rfl⟩ := hq'
      refine hK.1 [(19, [true, true, true])] 50 _ _ _ _ _ ?_
      show vp_in _ _ ∧ _
      refine ⟨nI_in (N := 5) (by omega) (by decide), ?_⟩
      rw [nI_clamp (n := i) (by omega), setR_D (show some (19, (v, i)) = RF rd (fun _ => 0) 18 v 0 i from rfl)]
      show K _ 19 _ _ _
      have hf1 : Fr (45 + 7 * v + i + 1) (upI q 19 v i t (-1)) (DV D v i) := (hf.up (Nat.le_succ _)).wI (q := 45 + 7 * v + i) (i2 i (by omega)) (by omega) (by omega)
      have := ih (i + 1) (upI q 19 v i t (-1)) (by omega) (fun k hk => by rw [← hq k hk]; funext i' j' t'; simp only [upI]; rw [if_neg (fun w => hk w.1)]) (hf1.wD (q := 44 + 7 * v) i1 (by omega) (by omega))
      exact Kc this (by rw [nI_succ]; rfl) rfl
  refine hK.1 [(19, [true, true, true])] 50 _ _ _ _ _ ?_
  show K _ 19 _ _ _
  rw [setR_D (show some (18, (v, 0)) = RF rd (fun _ => 0) 17 v 0 0 from rfl), setR_D (show some (11, (0, 0)) = RF rd (fun _ => 0) 17 v 0 3 from rfl)]
  have e := loop 5 0 I rfl (fun _ _ => rfl)
  rw [show 45 + 7 * v + 0 = 44 + 7 * v + 1 by omega] at e
  refine e ?_
  exact ((hF.up (by omega)).wD (q := 43 + 7 * v) i0 (by omega) (by omega)).wD (q := 43 + 7 * v) i0 (by omega) (by omega)
end Z4
