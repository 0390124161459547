/-! the reference is made -/
section Z8
variable {G : GT} {l : Launch} {I : HI} {J : HJ} {rd : Option AO} {rr : Nat → Nat}
theorem x_spell {d a : Nat} {x0 x1 x2 x3 x4 x5 x6 x7 : Int32} {post : Option AV → AH → Prop} (ha : a + 8 ≤ 960) (hd : 0 < d) (k : ∀ q : HI, (∀ k, k ≠ 21 → q k = I k) → (∀ t, t < a → q 21 0 0 t = I 21 0 0 t) → (∀ j, j < 8 → q 21 0 0 (a + j) = [x0, x1, x2, x3, x4, x5, x6, x7].getD j 0) → post none (mkH q J rd rr)) : CPd G l d 80 0 137 [vR 20 0 0, vI (nI a), vI x0, vI x1, vI x2, vI x3, vI x4, vI x5, vI x6, vI x7] (mkH I J rd rr) post := by
  have E : Ev G l 0 (mt 137) 80 80 [vR 20 0 0, vI (nI a), vI x0, vI x1, vI x2, vI x3, vI x4, vI x5, vI x6, vI x7] (mkH I J rd rr) (fun u h' => u = none ∧ h' = mkH (upI (upI (upI (upI (upI (upI (upI (upI I 21 0 0 a x0) 21 0 0 (a + 1) x1) 21 0 0 (a + 2) x2) 21 0 0 (a + 3) x3) 21 0 0 (a + 4) x4) 21 0 0 (a + 5) x5) 21 0 0 (a + 6) x6) 21 0 0 (a + 7) x7) J rd rr) := by
    refine Ev_go iM_spell rfl rfl rfl ⟨Nat.le_refl _, Nat.le_refl _⟩ (fun K hK => ?_)
    refine hK.1 [] 80 _ _ _ _ _ ?_
    show vp_in (nI a) 960 ∧ vp_in (nI a + nI 1) 960 ∧ vp_in (nI a + nI 2) 960 ∧ vp_in (nI a + nI 3) 960 ∧ vp_in (nI a + nI 4) 960 ∧ vp_in (nI a + nI 5) 960 ∧ vp_in (nI a + nI 6) 960 ∧ vp_in (nI a + nI 7) 960 ∧ _ ∧ _ = none ∧ setI (setI (setI (setI (setI (setI (setI (setI (mkH I J rd rr) 21 0 0 (nI a).toNatClampNeg x0) 21 0 0 (nI a + nI 1).toNatClampNeg x1) 21 0 0 (nI a + nI 2).toNatClampNeg x2) 21 0 0 (nI a + nI 3).toNatClampNeg x3) 21 0 0 (nI a + nI 4).toNatClampNeg x4) 21 0 0 (nI a + nI 5).toNatClampNeg x5) 21 0 0 (nI a + nI 6).toNatClampNeg x6) 21 0 0 (nI a + nI 7).toNatClampNeg x7 = _
    simp only [nI_plus]
    rw [nI_clamp (n := a) (by omega), nI_clamp (n := a + 1) (by omega), nI_clamp (n := a + 2) (by omega), nI_clamp (n := a + 3) (by omega), nI_clamp (n := a + 4) (by omega), nI_clamp (n := a + 5) (by omega), nI_clamp (n := a + 6) (by omega), nI_clamp (n := a + 7) (by omega)]
    exact ⟨nI_in' (by omega) (by decide), nI_in' (by omega) (by decide), nI_in' (by omega) (by decide), nI_in' (by omega) (by decide), nI_in' (by omega) (by decide), nI_in' (by omega) (by decide), nI_in' (by omega) (by decide), nI_in' (by omega) (by decide), by first | rfl | trivial, by first | rfl | trivial, by first | rfl | trivial⟩
  refine CPd_eq E hd rfl (k _ (fun k hk => ?_) (fun t ht => ?_) (fun j hj => ?_))
  · funext i j t
    simp only [upI]
    simp [hk]
  · simp only [upI]
    rw [if_neg (by omega), if_neg (by omega), if_neg (by omega), if_neg (by omega), if_neg (by omega), if_neg (by omega), if_neg (by omega), if_neg (by omega)]
  · match j, hj with
    | 0, _ => simp [upI]
    | 1, _ => simp [upI]
    | 2, _ => simp [upI]
    | 3, _ => simp [upI]
    | 4, _ => simp [upI]
    | 5, _ => simp [upI]
    | 6, _ => simp [upI]
    | 7, _ => simp [upI]
def D6 : DD := (adD (adD (adD (adD (adD (adD (adD (adD (adD (adD (adD (adD (adD (adD (adD D5 20 0 0 1) 20 0 0 2) 20 0 0 5) 20 0 0 8) 20 0 0 9) 20 0 0 26) 20 0 0 27) 20 0 0 28) 20 0 0 30) 20 0 0 31) 20 0 0 35) 20 0 0 39) 20 0 0 40) 20 0 0 41) 20 0 0 42)
theorem eq80 : ∀ p, p < 80 → ∀ t, t < sN (idOf p).1 → RF (some (11, (0, 0))) (fun _ => 0) (idOf p).1 (idOf p).2.1 (idOf p).2.2 t = RD (some (11, (0, 0))) D6 (idOf p).1 (idOf p).2.1 (idOf p).2.2 t := by decide +kernel
theorem mi_one {K : Nat → Nat → List (Option AV) → List AV → AH → Prop} {Q : Option AV → AH → Prop} {q : HI} (hK : Cl G l 2 7 3 (mkT 253 tM_init) 80 Q K) (hF : Fr 65 q D5) (kk : K 80 130 [some (vR 20 0 0)] [] (mkH (upI q 20 0 0 36 (-1)) (fun _ _ _ _ => 0) (some (11, (0, 0))) (fun _ => 0))) : K 65 0 (initL 1 [vR 20 0 0]) [] (mkD q (some (11, (0, 0))) D5) := by
  refine hK.1 [(1, [true])] 60 _ _ _ _ _ ?_
  show K 65 1 [some (vR 20 0 0)] [vR 20 0 0] _
  refine hK.2.2.1 _ 1 4 7 (20, (0, 0)) _ [] _ rfl rfl (by decide) (by decide) (by decide) ?_
  refine hK.1 [(8, [true])] 60 _ _ _ _ _ ?_
  show K 65 8 [some (vR 20 0 0)] [vI 960, vR 20 0 0] _
  refine al_arr (k := 21) (i := 0) (j := 0) hK (nx := 10) rfl rfl rfl (Or.inl ⟨rfl, by decide⟩) rfl (by decide) (by omega) (by omega) hF ?_
  refine hK.1 [(16, [true])] 60 _ _ _ _ _ ?_
  show K 66 16 [some (vR 20 0 0)] [vI 6, vR 20 0 0] _
  rw [setR_D (show some (21, (0, 0)) = RF (some (11, (0, 0))) (fun _ => 0) 20 0 0 1 from rfl)]
  have hF := (hF.up (m := 66) (by omega)).wD (k := 20) (i := 0) (j := 0) (t := 1) (q := 64) rfl (by omega) (by omega)
  refine al_arr (k := 22) (i := 0) (j := 0) hK (nx := 18) rfl rfl rfl (Or.inl ⟨rfl, by decide⟩) rfl (by decide) (by omega) (by omega) hF ?_
  refine hK.1 [(25, [true])] 60 _ _ _ _ _ ?_
  show K 67 25 [some (vR 20 0 0)] [vI 160, vR 20 0 0] _
  rw [setR_D (show some (22, (0, 0)) = RF (some (11, (0, 0))) (fun _ => 0) 20 0 0 2 from rfl)]
  have hF := (hF.up (m := 67) (by omega)).wD (k := 20) (i := 0) (j := 0) (t := 2) (q := 64) rfl (by omega) (by omega)
  refine al_arr (k := 23) (i := 0) (j := 0) hK (nx := 27) rfl rfl rfl (Or.inl ⟨rfl, by decide⟩) rfl (by decide) (by omega) (by omega) hF ?_
  refine hK.1 [(32, [true])] 60 _ _ _ _ _ ?_
  show K 68 32 [some (vR 20 0 0)] [vI 5, vR 20 0 0] _
  rw [setR_D (show some (23, (0, 0)) = RF (some (11, (0, 0))) (fun _ => 0) 20 0 0 5 from rfl)]
  have hF := (hF.up (m := 68) (by omega)).wD (k := 20) (i := 0) (j := 0) (t := 5) (q := 64) rfl (by omega) (by omega)
  refine al_arr (k := 24) (i := 0) (j := 0) hK (nx := 34) rfl rfl rfl (Or.inl ⟨rfl, by decide⟩) rfl (by decide) (by omega) (by omega) hF ?_
  refine hK.1 [(40, [true])] 60 _ _ _ _ _ ?_
  show K 69 40 [some (vR 20 0 0)] [vI 30, vR 20 0 0] _
  rw [setR_D (show some (24, (0, 0)) = RF (some (11, (0, 0))) (fun _ => 0) 20 0 0 8 from rfl)]
  have hF := (hF.up (m := 69) (by omega)).wD (k := 20) (i := 0) (j := 0) (t := 8) (q := 64) rfl (by omega) (by omega)
  refine al_arr (k := 25) (i := 0) (j := 0) hK (nx := 42) rfl rfl rfl (Or.inl ⟨rfl, by decide⟩) rfl (by decide) (by omega) (by omega) hF ?_
  refine hK.1 [(49, [true])] 60 _ _ _ _ _ ?_
  show K 70 49 [some (vR 20 0 0)] [vI 1024, vR 20 0 0] _
  rw [setR_D (show some (25, (0, 0)) = RF (some (11, (0, 0))) (fun _ => 0) 20 0 0 9 from rfl)]
  have hF := (hF.up (m := 70) (by omega)).wD (k := 20) (i := 0) (j := 0) (t := 9) (q := 64) rfl (by omega) (by omega)
  refine al_arr (k := 26) (i := 0) (j := 0) hK (nx := 51) rfl rfl rfl (Or.inr (Or.inl ⟨rfl, by decide⟩)) rfl (by decide) (by omega) (by omega) hF ?_
  refine hK.1 [(58, [true])] 60 _ _ _ _ _ ?_
  show K 71 58 [some (vR 20 0 0)] [vI 1024, vR 20 0 0] _
  rw [setR_D (show some (26, (0, 0)) = RF (some (11, (0, 0))) (fun _ => 0) 20 0 0 26 from rfl)]
  have hF := (hF.up (m := 71) (by omega)).wD (k := 20) (i := 0) (j := 0) (t := 26) (q := 64) rfl (by omega) (by omega)
  refine al_arr (k := 27) (i := 0) (j := 0) hK (nx := 60) rfl rfl rfl (Or.inl ⟨rfl, by decide⟩) rfl (by decide) (by omega) (by omega) hF ?_
  refine hK.1 [(66, [true])] 60 _ _ _ _ _ ?_
  show K 72 66 [some (vR 20 0 0)] [vI 30, vR 20 0 0] _
  rw [setR_D (show some (27, (0, 0)) = RF (some (11, (0, 0))) (fun _ => 0) 20 0 0 27 from rfl)]
  have hF := (hF.up (m := 72) (by omega)).wD (k := 20) (i := 0) (j := 0) (t := 27) (q := 64) rfl (by omega) (by omega)
  refine al_arr (k := 28) (i := 0) (j := 0) hK (nx := 68) rfl rfl rfl (Or.inl ⟨rfl, by decide⟩) rfl (by decide) (by omega) (by omega) hF ?_
  refine hK.1 [(75, [true])] 60 _ _ _ _ _ ?_
  show K 73 75 [some (vR 20 0 0)] [vI 305, vR 20 0 0] _
  rw [setR_D (show some (28, (0, 0)) = RF (some (11, (0, 0))) (fun _ => 0) 20 0 0 28 from rfl)]
  have hF := (hF.up (m := 73) (by omega)).wD (k := 20) (i := 0) (j := 0) (t := 28) (q := 64) rfl (by omega) (by omega)
  refine al_arr (k := 29) (i := 0) (j := 0) hK (nx := 77) rfl rfl rfl (Or.inl ⟨rfl, by decide⟩) rfl (by decide) (by omega) (by omega) hF ?_
  refine hK.1 [(82, [true])] 60 _ _ _ _ _ ?_
  show K 74 82 [some (vR 20 0 0)] [vI 5, vR 20 0 0] _
  rw [setR_D (show some (29, (0, 0)) = RF (some (11, (0, 0))) (fun _ => 0) 20 0 0 30 from rfl)]
  have hF := (hF.up (m := 74) (by omega)).wD (k := 20) (i := 0) (j := 0) (t := 30) (q := 64) rfl (by omega) (by omega)
  refine al_arr (k := 30) (i := 0) (j := 0) hK (nx := 84) rfl rfl rfl (Or.inl ⟨rfl, by decide⟩) rfl (by decide) (by omega) (by omega) hF ?_
  refine hK.1 [(90, [true])] 60 _ _ _ _ _ ?_
  show K 75 90 [some (vR 20 0 0)] [vI 30, vR 20 0 0] _
  rw [setR_D (show some (30, (0, 0)) = RF (some (11, (0, 0))) (fun _ => 0) 20 0 0 31 from rfl)]
  have hF := (hF.up (m := 75) (by omega)).wD (k := 20) (i := 0) (j := 0) (t := 31) (q := 64) rfl (by omega) (by omega)
  refine al_arr (k := 31) (i := 0) (j := 0) hK (nx := 92) rfl rfl rfl (Or.inl ⟨rfl, by decide⟩) rfl (by decide) (by omega) (by omega) hF ?_
  refine hK.1 [(102, [true])] 60 _ _ _ _ _ ?_
  show K 76 102 [some (vR 20 0 0)] [vI 4, vR 20 0 0] _
  rw [setR_D (show some (31, (0, 0)) = RF (some (11, (0, 0))) (fun _ => 0) 20 0 0 35 from rfl)]
  rw [setI_D]
  have hF := ((hF.up (m := 76) (by omega)).wD (k := 20) (i := 0) (j := 0) (t := 35) (q := 64) rfl (by omega) (by omega)).wI (k := 20) (i := 0) (j := 0) (t := 36) (x := -1) (q := 64) rfl (by omega) (by omega)
  refine al_arr (k := 32) (i := 0) (j := 0) hK (nx := 104) rfl rfl rfl (Or.inr (Or.inr ⟨rfl, by decide⟩)) rfl (by decide) (by omega) (by omega) hF ?_
  refine hK.1 [(109, [true])] 60 _ _ _ _ _ ?_
  show K 77 109 [some (vR 20 0 0)] [vI 4, vR 20 0 0] _
  rw [setR_D (show some (32, (0, 0)) = RF (some (11, (0, 0))) (fun _ => 0) 20 0 0 39 from rfl)]
  have hF := (hF.up (m := 77) (by omega)).wD (k := 20) (i := 0) (j := 0) (t := 39) (q := 64) rfl (by omega) (by omega)
  refine al_arr (k := 33) (i := 0) (j := 0) hK (nx := 111) rfl rfl rfl (Or.inl ⟨rfl, by decide⟩) rfl (by decide) (by omega) (by omega) hF ?_
  refine hK.1 [(116, [true])] 60 _ _ _ _ _ ?_
  show K 78 116 [some (vR 20 0 0)] [vI 4, vR 20 0 0] _
  rw [setR_D (show some (33, (0, 0)) = RF (some (11, (0, 0))) (fun _ => 0) 20 0 0 40 from rfl)]
  have hF := (hF.up (m := 78) (by omega)).wD (k := 20) (i := 0) (j := 0) (t := 40) (q := 64) rfl (by omega) (by omega)
  refine al_arr (k := 34) (i := 0) (j := 0) hK (nx := 118) rfl rfl rfl (Or.inl ⟨rfl, by decide⟩) rfl (by decide) (by omega) (by omega) hF ?_
  refine hK.1 [(125, [true])] 60 _ _ _ _ _ ?_
  show K 79 125 [some (vR 20 0 0)] [vI 160, vR 20 0 0] _
  rw [setR_D (show some (34, (0, 0)) = RF (some (11, (0, 0))) (fun _ => 0) 20 0 0 41 from rfl)]
  have hF := (hF.up (m := 79) (by omega)).wD (k := 20) (i := 0) (j := 0) (t := 41) (q := 64) rfl (by omega) (by omega)
  refine al_arr (k := 35) (i := 0) (j := 0) hK (nx := 127) rfl rfl rfl (Or.inl ⟨rfl, by decide⟩) rfl (by decide) (by omega) (by omega) hF ?_
  refine hK.1 [(130, [true])] 60 _ _ _ _ _ ?_
  show K 80 130 [some (vR 20 0 0)] [] _
  rw [setR_D (show some (35, (0, 0)) = RF (some (11, (0, 0))) (fun _ => 0) 20 0 0 42 from rfl)]
  refine hK.2.2.2.2.2.2.2 80 130 _ [] _ _ ?_ kk
  exact fun p hp t => ⟨rfl, rfl, fun ht => eq80 p hp t ht⟩
/-- what the reference's ints are at the start -/
def MI (q : HI) : Prop := (∀ t, t < 40 → q 21 0 0 t = nI (fB t)) ∧ q 22 0 0 0 = nI 40 ∧ q 20 0 0 3 = nI 1 ∧ q 20 0 0 36 = -1 ∧ (∀ t, t ≠ 3 → t ≠ 36 → q 20 0 0 t = 0) ∧ ∀ t, q 32 0 0 t = 0
theorem x_Minit {q : HI} (hF : Fr 65 q D5) (h20 : ∀ t, q 20 0 0 t = 0) : Ev G l 2 (mt 136) 65 80 [vR 20 0 0] (mkD q (some (11, (0, 0))) D5) (fun u h' => ∃ q' : HI, u = none ∧ h' = mkH q' (fun _ _ _ _ => 0) (some (11, (0, 0))) (fun _ => 0) ∧ frM q q' ∧ MI q') := by
  refine Ev_go iM_init rfl rfl rfl ⟨by omega, by omega⟩ (fun K hK => ?_)
  refine mi_one hK hF ?_
  refine hK.1 [] 100 _ _ _ _ _ ?_
  refine x_spell (a := 0) (by decide) (by decide) (fun q0 e0 f0 g0 => ?_)
  refine x_spell (a := 8) (by decide) (by decide) (fun q1 e1 f1 g1 => ?_)
  refine x_spell (a := 16) (by decide) (by decide) (fun q2 e2 f2 g2 => ?_)
  refine x_spell (a := 24) (by decide) (by decide) (fun q3 e3 f3 g3 => ?_)
  refine x_spell (a := 32) (by decide) (by decide) (fun q4 e4 f4 g4 => ?_)
  have b0 : ∀ j, j < 8 → q0 21 0 0 (0 + j) = nI (fB (0 + j)) := fun j hj => by rw [g0 j hj]; revert j; decide
  have b1 : ∀ j, j < 8 → q1 21 0 0 (8 + j) = nI (fB (8 + j)) := fun j hj => by rw [g1 j hj]; revert j; decide
  have b2 : ∀ j, j < 8 → q2 21 0 0 (16 + j) = nI (fB (16 + j)) := fun j hj => by rw [g2 j hj]; revert j; decide
  have b3 : ∀ j, j < 8 → q3 21 0 0 (24 + j) = nI (fB (24 + j)) := fun j hj => by rw [g3 j hj]; revert j; decide
  have b4 : ∀ j, j < 8 → q4 21 0 0 (32 + j) = nI (fB (32 + j)) := fun j hj => by rw [g4 j hj]; revert j; decide
  have hb : ∀ t, t < 40 → q4 21 0 0 t = nI (fB t) := by
    intro t ht
    by_cases h4 : 32 ≤ t
    · have := b4 (t - 32) (by omega); rw [show 32 + (t - 32) = t by omega] at this; exact this
    · rw [f4 t (by omega)]
      by_cases h3 : 24 ≤ t
      · have := b3 (t - 24) (by omega); rw [show 24 + (t - 24) = t by omega] at this; exact this
      · rw [f3 t (by omega)]
        by_cases h2 : 16 ≤ t
        · have := b2 (t - 16) (by omega); rw [show 16 + (t - 16) = t by omega] at this; exact this
        · rw [f2 t (by omega)]
          by_cases h1 : 8 ≤ t
          · have := b1 (t - 8) (by omega); rw [show 8 + (t - 8) = t by omega] at this; exact this
          · rw [f1 t (by omega)]
            have := b0 t (by omega); rw [show 0 + t = t by omega] at this; exact this
  have ek : ∀ k, k ≠ 21 → q4 k = upI q 20 0 0 36 (-1) k := fun k hk => by rw [e4 k hk, e3 k hk, e2 k hk, e1 k hk, e0 k hk]
  show vp_in _ _ ∧ _
  refine ⟨nI_in' (a := 0) (N := 6) (by decide) (by decide), rfl, upI (upI q4 22 0 0 0 40) 20 0 0 3 1, rfl, rfl, fun k hk => ?_, fun t ht => ?_, ?_, ?_, ?_, fun t h3 h36 => ?_, fun t => ?_⟩
  · rw [up20 (by omega)]
    have : upI q4 22 0 0 0 40 k = q4 k := by funext i j t; simp only [upI]; rw [if_neg (by omega)]
    rw [this, ek k (by omega), up20 (by omega)]
  · rw [up20 (by decide), upI_at, if_neg (by omega)]
    exact hb t ht
  · rw [up20 (by decide), upI_s]; rfl
  · rw [upI_s]; rfl
  · rw [up20t (by decide), upI_at, if_neg (by omega), ek 20 (by decide), upI_s]
  · rw [up20t h3, upI_at, if_neg (by omega), ek 20 (by decide), up20t h36]
    exact h20 t
  · rw [up20 (by decide), upI_at, if_neg (by omega), ek 32 (by decide), up20 (by decide)]
    exact (hF 76 (by omega) (by omega) t).1
theorem MF_0 {q : HI} {B : BT} (h : MI q) (hB : ∀ w, w < 3 → ∀ E, rpn E (txW fB 40 w) [] = some [B w E]) : MF G l q (getQ q) q (fun _ _ _ _ => 0) (A0 B) := by
  obtain ⟨h1, h2, h3, h4, h5, h6⟩ := h
  have hX : TXS 1 (fun _ => B) q := fun t ht => by
    obtain rfl : t = 0 := by omega
    exact ⟨fB, 40, by decide, fun i hi => ⟨fB_lt i, by rw [show 160 * 0 + i = i by omega]; exact h1 i hi⟩, h2, f_none, hB⟩
  refine ⟨⟨h5 10 (by decide) (by decide), h5 7 (by decide) (by decide), h5 4 (by decide) (by decide), fun p hp => absurd hp (Nat.not_lt_zero _)⟩, ⟨h3, ⟨hX, HRe_of (m := 1) (by decide) hX⟩, fun k _ => Or.inl rfl⟩, ⟨fun _ => h4, fun w => absurd w (by show ¬ 0 = 1; decide)⟩, ⟨h5 6 (by decide) (by decide), fun t ht => absurd ht (Nat.not_lt_zero _)⟩, fun s _ => ⟨fun _ => h6 s, fun w => absurd rfl w⟩⟩
end Z8
