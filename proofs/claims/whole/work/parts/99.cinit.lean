/-! the class is made -/
section Z6
variable {G : GT} {l : Launch} {I : HI} {rd : Option AO} {D : DD}
def D0 : DD := fun _ _ _ _ => false
def I0 : HI := fun _ _ _ _ => 0
def DR (D : DD) : Nat → DD
  | 0 => D
  | r + 1 => adD (adD (adD (adD (DR D r) 11 r 0 1) 11 r 0 3) 11 r 0 4) 1 0 0 r
def IR (I : HI) : Nat → HI
  | 0 => I
  | r + 1 => upI (IR I r) 11 r 0 0 (nI r)
def DS (D : DD) : Nat → DD
  | 0 => D
  | s + 1 => adD (adD (DS D s) 15 s 0 0) 8 0 0 s
def IS (I : HI) : Nat → HI
  | 0 => I
  | s + 1 => upI (IS I s) 15 s 0 1 (-1)
def Da : DD := adD (adD (adD (adD (adD (adD (adD (adD (adD (adD (adD D0 0 0 0 0) 2 0 0 0) 2 0 0 2) 2 0 0 3) 2 0 0 4) 0 0 0 2) 7 0 0 0) 0 0 0 3) 0 0 0 8) 0 0 0 9) 0 0 0 10
theorem ad_keep {k i j t k' i' j' t' : Nat} (h : D k i j t = true) : adD D k' i' j' t' k i j t = true := by unfold adD; rw [h, Bool.or_true]
theorem DR_keep {k i j t : Nat} (h : D k i j t = true) : ∀ n, DR D n k i j t = true
  | 0 => h
  | n + 1 => ad_keep (ad_keep (ad_keep (ad_keep (DR_keep h n))))
theorem DS_keep {k i j t : Nat} (h : D k i j t = true) : ∀ n, DS D n k i j t = true
  | 0 => h
  | n + 1 => ad_keep (ad_keep (DS_keep h n))
theorem getD_t {k i j t : Nat} (h : D k i j t = true) : getR (mkD I rd D) k i j t = RF rd (fun _ => 0) k i j t := by
  show (if D k i j t = true then _ else none) = _
  rw [if_pos h]
/-- the class, as far as the first loops' end -/
theorem ci_one {K : Nat → Nat → List (Option AV) → List AV → AH → Prop} {Q : Option AV → AH → Prop} (hK : Cl G l 54 6 3 (mkT 203 tC_init) 64 Q K) (kk : Fr 11 I0 Da → K 11 65 [some (vR 0 0 0), some (vI 0)] [] (mkD I0 rd Da)) : K 1 0 (initL 2 [vR 0 0 0]) [] (mkD I0 rd D0) := by
  have hF : Fr 1 I0 D0 := fun p h1 h2 t => ⟨rfl, rfl⟩
  refine hK.1 [(1, [true, false])] 60 _ _ _ _ _ ?_
  show K 1 1 [some (vR 0 0 0), none] [vR 0 0 0] _
  refine hK.2.2.1 _ 1 4 1 (0, (0, 0)) _ [] _ rfl rfl (by decide) (by decide) (by decide) ?_
  refine hK.1 [(7, [true, false])] 60 _ _ _ _ _ ?_
  show K 1 7 [some (vR 0 0 0), none] [vI 6, vR 0 0 0] _
  refine al_ref (k := 1) (i := 0) (j := 0) hK (nx := 10) rfl rfl rfl (Or.inl ⟨by decide, by decide⟩) rfl (by decide) (by omega) (by omega) hF ?_
  refine hK.1 [(14, [true, false])] 60 _ _ _ _ _ ?_
  show K 2 14 [some (vR 0 0 0), none] [vR 0 0 0] _
  rw [setR_D (show some (1, (0, 0)) = RF rd (fun _ => 0) 0 0 0 0 from rfl)]
  have hF := (hF.up (m := 2) (by omega)).wD (k := 0) (i := 0) (j := 0) (t := 0) (q := 0) rfl (by omega) (by omega)
  refine al_new (k := 2) (i := 0) (j := 0) (ci := 4) hK (nx := 17) rfl rfl rfl (by decide) (by decide) (by decide) (by omega) (by omega) hF ?_
  refine hK.1 [(18, [true, false])] 60 _ _ _ _ _ ?_
  show K 3 18 [some (vR 0 0 0), none] [vR 2 0 0, vR 2 0 0, vR 0 0 0] _
  refine hK.2.1 _ 7 18 21 17 1 1 2 0 0 _ [vR 2 0 0, vR 0 0 0] [] _ _ rfl rfl (by decide) (by decide) (by decide) (by decide) (by decide) ⟨by omega, by omega⟩ (by decide) (x_Tinit (hF.up (by omega))) (fun r h' hq => ?_)
  obtain ⟨rfl, rfl⟩ := hq
  have hF := ((((hF.up (m := 7) (by omega)).wD (k := 2) (i := 0) (j := 0) (t := 0) (q := 2) rfl (by omega) (by omega)).wD (k := 2) (i := 0) (j := 0) (t := 2) (q := 2) rfl (by omega) (by omega)).wD (k := 2) (i := 0) (j := 0) (t := 3) (q := 2) rfl (by omega) (by omega)).wD (k := 2) (i := 0) (j := 0) (t := 4) (q := 2) rfl (by omega) (by omega)
  show K 7 21 [some (vR 0 0 0), none] [vR 2 0 0, vR 0 0 0] _
  refine hK.1 [(25, [true, false])] 60 _ _ _ _ _ ?_
  show K 7 25 [some (vR 0 0 0), none] [vR 0 0 0] _
  rw [setR_D (show some (2, (0, 0)) = RF rd (fun _ => 0) 0 0 0 2 from rfl)]
  have hF := hF.wD (k := 0) (i := 0) (j := 0) (t := 2) (q := 0) rfl (by omega) (by omega)
  refine al_new (k := 7) (i := 0) (j := 0) (ci := 1) hK (nx := 28) rfl rfl rfl (by decide) (by decide) (by decide) (by omega) (by omega) hF ?_
  refine hK.1 [(33, [true, false])] 60 _ _ _ _ _ ?_
  show K 8 33 [some (vR 0 0 0), none] [vR 2 0 0, vR 7 0 0, vR 7 0 0, vR 0 0 0] _
  refine hK.2.1 _ 8 33 36 24 2 1 7 0 0 _ [vR 7 0 0, vR 0 0 0] [vR 2 0 0] _ _ rfl rfl (by decide) (by decide) (by decide) (by decide) (by decide) ⟨by omega, by omega⟩ (by decide) (x_Dinit (by omega)) (fun r h' hq => ?_)
  obtain ⟨rfl, rfl⟩ := hq
  have hF := (hF.up (m := 8) (by omega)).wD (k := 7) (i := 0) (j := 0) (t := 0) (q := 7) rfl (by omega) (by omega)
  show K 8 36 [some (vR 0 0 0), none] [vR 7 0 0, vR 0 0 0] _
  refine hK.1 [(41, [true, false])] 60 _ _ _ _ _ ?_
  show K 8 41 [some (vR 0 0 0), none] [vI 4, vR 0 0 0] _
  rw [setR_D (show some (7, (0, 0)) = RF rd (fun _ => 0) 0 0 0 3 from rfl)]
  have hF := hF.wD (k := 0) (i := 0) (j := 0) (t := 3) (q := 0) rfl (by omega) (by omega)
  refine al_ref (k := 8) (i := 0) (j := 0) hK (nx := 44) rfl rfl rfl (Or.inr (Or.inl ⟨by decide, by decide⟩)) rfl (by decide) (by omega) (by omega) hF ?_
  refine hK.1 [(50, [true, false])] 60 _ _ _ _ _ ?_
  show K 9 50 [some (vR 0 0 0), none] [vI 61, vR 0 0 0] _
  rw [setR_D (show some (8, (0, 0)) = RF rd (fun _ => 0) 0 0 0 8 from rfl)]
  have hF := (hF.up (m := 9) (by omega)).wD (k := 0) (i := 0) (j := 0) (t := 8) (q := 0) rfl (by omega) (by omega)
  refine al_arr (k := 9) (i := 0) (j := 0) hK (nx := 52) rfl rfl rfl (Or.inr (Or.inl ⟨rfl, by decide⟩)) rfl (by decide) (by omega) (by omega) hF ?_
  refine hK.1 [(58, [true, false])] 60 _ _ _ _ _ ?_
  show K 10 58 [some (vR 0 0 0), none] [vI 61, vR 0 0 0] _
  rw [setR_D (show some (9, (0, 0)) = RF rd (fun _ => 0) 0 0 0 9 from rfl)]
  have hF := (hF.up (m := 10) (by omega)).wD (k := 0) (i := 0) (j := 0) (t := 9) (q := 0) rfl (by omega) (by omega)
  refine al_arr (k := 10) (i := 0) (j := 0) hK (nx := 60) rfl rfl rfl (Or.inr (Or.inl ⟨rfl, by decide⟩)) rfl (by decide) (by omega) (by omega) hF ?_
  refine hK.1 [(65, [true, true])] 60 _ _ _ _ _ ?_
  show K 11 65 _ _ _
  rw [setR_D (show some (10, (0, 0)) = RF rd (fun _ => 0) 0 0 0 10 from rfl)]
  have hF := (hF.up (m := 11) (by omega)).wD (k := 0) (i := 0) (j := 0) (t := 10) (q := 0) rfl (by omega) (by omega)
  exact kk hF
/-- the rules, the sheets -/
theorem ci_two {K : Nat → Nat → List (Option AV) → List AV → AH → Prop} {Q : Option AV → AH → Prop} (hK : Cl G l 54 6 3 (mkT 203 tC_init) 64 Q K) (hF : Fr 11 I0 Da) (kk : Fr 43 (IS (IR I0 6) 4) (DS (DR Da 6) 4) → K 43 117 [some (vR 0 0 0), none] [] (mkD (IS (IR I0 6) 4) rd (DS (DR Da 6) 4))) : K 11 65 [some (vR 0 0 0), some (vI 0)] [] (mkD I0 rd Da) := by
  have id1 : ∀ r, r < 6 → idOf (11 + 4 * r) = (11, (r, 0)) := by decide
  have id2 : ∀ s, s < 4 → idOf (35 + 2 * s) = (15, (s, 0)) := by decide
  have sheets : ∀ j s, s + j = 4 → Fr (35 + 2 * s) (IS (IR I0 6) s) (DS (DR Da 6) s) → K (35 + 2 * s) 93 [some (vR 0 0 0), some (vI (nI s))] [] (mkD (IS (IR I0 6) s) rd (DS (DR Da 6) s)) := by
    intro j
    induction j with
    | zero =>
      intro s hs hf
      obtain rfl : s = 4 := by omega
      refine hK.1 [(117, [true, false])] 60 _ _ _ _ _ ?_
      refine And.intro (fun _ => ?_) (fun w => absurd (by decide) w)
      show K 43 117 _ _ _
      exact kk hf
    | succ j ih =>
      intro s hs hf
      refine hK.1 [(103, [true, true])] 60 _ _ _ _ _ ?_
      refine And.intro (fun w => absurd w (nI_ge (a := s) (b := 4) (by omega) (by decide))) (fun _ => ?_)
      conv => whnf
      rw [getD_t (DS_keep (DR_keep (D := Da) (k := 0) (i := 0) (j := 0) (t := 8) (by decide) 6) s)]
      show K _ 103 [some (vR 0 0 0), some (vI (nI s))] [vI (nI s), vR 8 0 0] _
      refine al_new (ci := 3) hK (nx := 106) rfl rfl (id2 s (by omega)) (by decide) (by decide) (by decide) (by omega) (by omega) hf ?_
      refine hK.1 [(107, [true, true])] 60 _ _ _ _ _ ?_
      show K _ 107 [some (vR 0 0 0), some (vI (nI s))] [vR 15 s 0, vR 15 s 0, vI (nI s), vR 8 0 0] _
      have hf1 := hf.up (m := 36 + 2 * s) (by omega)
      have hI := x_Sinit (G := G) (l := l) (rd := rd) (s := s) (by omega) hf1
      rw [show 35 + 2 * s + 1 = 36 + 2 * s by omega]
      refine hK.2.1 _ (37 + 2 * s) 107 110 47 4 1 15 s 0 _ [vR 15 s 0, vI (nI s), vR 8 0 0] [] _ _ rfl rfl (by decide) (by decide) (by decide) (by decide) (by decide) ⟨by omega, by omega⟩ (by show 3 ≤ 8; decide) hI (fun r h' hq => ?_)
      obtain ⟨rfl, rfl⟩ := hq
      refine hK.1 [(93, [true, true])] 60 _ _ _ _ _ ?_
      show vp_in _ _ ∧ _
      refine ⟨nI_in (N := 4) (by omega) (by decide), ?_⟩
      rw [nI_clamp (n := s) (by omega), setR_D (show some (15, (s, 0)) = RF rd (fun _ => 0) 8 0 0 s from rfl)]
      show K _ 93 _ _ _
      have hf2 : Fr (37 + 2 * s) (IS (IR I0 6) (s + 1)) (DS (DR Da 6) (s + 1)) := (((hf.up (by omega)).wI (q := 35 + 2 * s) (id2 s (by omega)) (by omega) (by omega)).wD (q := 35 + 2 * s) (id2 s (by omega)) (by omega) (by omega)).wD (q := 8) rfl (by omega) (by omega)
      have e := ih (s + 1) (by omega)
      rw [show 35 + 2 * (s + 1) = 37 + 2 * s by omega] at e
      exact Kc (e hf2) (by rw [nI_succ]; rfl) rfl
  have rules : ∀ j r, r + j = 6 → Fr (11 + 4 * r) (IR I0 r) (DR Da r) → K (11 + 4 * r) 65 [some (vR 0 0 0), some (vI (nI r))] [] (mkD (IR I0 r) rd (DR Da r)) := by
    intro j
    induction j with
    | zero =>
      intro r hr hf
      obtain rfl : r = 6 := by omega
      refine hK.1 [(93, [true, true])] 60 _ _ _ _ _ ?_
      refine And.intro (fun _ => ?_) (fun w => absurd (by decide) w)
      show K 35 93 _ _ _
      exact sheets 4 0 rfl hf
    | succ j ih =>
      intro r hr hf
      refine hK.1 [(76, [true, true])] 60 _ _ _ _ _ ?_
      refine And.intro (fun w => absurd w (nI_ge (a := r) (b := 6) (by omega) (by decide))) (fun _ => ?_)
      conv => whnf
      rw [getD_t (DR_keep (D := Da) (k := 0) (i := 0) (j := 0) (t := 0) (by decide) r)]
      show K _ 76 [some (vR 0 0 0), some (vI (nI r))] [vI (nI r), vR 1 0 0] _
      refine al_new (ci := 2) hK (nx := 79) rfl rfl (id1 r (by omega)) (by decide) (by decide) (by decide) (by omega) (by omega) hf ?_
      refine hK.1 [(81, [true, true])] 60 _ _ _ _ _ ?_
      show K _ 81 [some (vR 0 0 0), some (vI (nI r))] [vI (nI r), vR 11 r 0, vR 11 r 0, vI (nI r), vR 1 0 0] _
      have hf1 := hf.up (m := 12 + 4 * r) (by omega)
      have hI := x_Rinit (G := G) (l := l) (rd := rd) (r := r) (by omega) hf1
      rw [show 11 + 4 * r + 1 = 12 + 4 * r by omega]
      refine hK.2.1 _ (15 + 4 * r) 81 84 44 3 1 11 r 0 _ [vR 11 r 0, vI (nI r), vR 1 0 0] [vI (nI r)] _ _ rfl rfl (by decide) (by decide) (by decide) (by show 1 = 1; rfl) (by decide) ⟨by omega, by omega⟩ (by show 3 ≤ 8; decide) hI (fun u h' hq => ?_)
      obtain ⟨rfl, rfl⟩ := hq
      refine hK.1 [(65, [true, true])] 60 _ _ _ _ _ ?_
      show vp_in _ _ ∧ _
      refine ⟨nI_in (N := 6) (by omega) (by decide), ?_⟩
      rw [nI_clamp (n := r) (by omega), setR_D (show some (11, (r, 0)) = RF rd (fun _ => 0) 1 0 0 r from rfl)]
      show K _ 65 _ _ _
      have hf2 : Fr (15 + 4 * r) (IR I0 (r + 1)) (DR Da (r + 1)) := (((((hf.up (by omega)).wI (q := 11 + 4 * r) (id1 r (by omega)) (by omega) (by omega)).wD (q := 11 + 4 * r) (id1 r (by omega)) (by omega) (by omega)).wD (q := 11 + 4 * r) (id1 r (by omega)) (by omega) (by omega)).wD (q := 11 + 4 * r) (id1 r (by omega)) (by omega) (by omega)).wD (q := 1) rfl (by omega) (by omega)
      have e := ih (r + 1) (by omega)
      rw [show 11 + 4 * (r + 1) = 15 + 4 * r by omega] at e
      exact Kc (e hf2) (by rw [nI_succ]; rfl) rfl
  exact rules 6 0 rfl hF
end Z6
