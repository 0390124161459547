/-! the class is made, to the end -/
section Z7
variable {G : GT} {l : Launch}
def R43 : HR := fun k i j t => match k with
  | 0 => (match t with | 4 => none | 5 => none | 6 => none | t => RF none (fun _ => 0) 0 i j t)
  | k => RF none (fun _ => 0) k i j t
def D1 : DD := DS (DR Da 6) 4
def D2 : DD := adD D1 7 0 0 1
def I1 : HI := IS (IR I0 6) 4
theorem eq43 : ∀ p, p < 43 → ∀ t, t < sN (idOf p).1 → RX R43 none (idOf p).1 (idOf p).2.1 (idOf p).2.2 t = RD none D1 (idOf p).1 (idOf p).2.1 (idOf p).2.2 t := by decide +kernel
theorem eq43' : ∀ p, p < 43 → ∀ t, t < sN (idOf p).1 → RD (some (11, (0, 0))) D2 (idOf p).1 (idOf p).2.1 (idOf p).2.2 t = RX R43 (some (11, (0, 0))) (idOf p).1 (idOf p).2.1 (idOf p).2.2 t := by decide +kernel
theorem id43 : ∀ p, p < 80 → 43 ≤ p → 17 ≤ (idOf p).1 := by decide
/-- what the ints are when the valleys come -/
def CI (q : HI) : Prop := (∃ s, s ≤ 160 ∧ StK fB 36 0 3 s q) ∧ (∀ k, 14 ≤ k → q k = I1 k) ∧ (q 0 0 0 1 = nI 1 ∧ q 0 0 0 7 = nI 0) ∧ q 2 0 0 1 = nI 0 ∧ ∀ t, t < 6 → q 11 t 0 0 = nI t
theorem ci_three {K : Nat → Nat → List (Option AV) → List AV → AH → Prop} {Q : Option AV → AH → Prop} (hK : Cl G l 54 6 3 (mkT 203 tC_init) 64 Q K) (hF : Fr 43 I1 D1) (kk : ∀ q, CI q → Fr 43 q D2 → K 43 152 [some (vR 0 0 0), none] [vR 0 0 0] (mkD q (some (11, (0, 0))) D2)) : K 43 117 [some (vR 0 0 0), none] [] (mkD I1 none D1) := by
  refine hK.2.2.2.2.2.2.2 43 117 _ [] _ (mkX I1 (fun _ _ _ _ => 0) R43 none) ?_ ?_
  · exact fun p hp t => ⟨rfl, rfl, fun ht => eq43 p hp t ht⟩
  · refine hK.1 [(152, [true, false])] 80 _ _ _ _ _ ?_
    refine CPd_of (e_layFirst (by decide) (by decide)) (by decide) rfl (fun u h' hq => ?_)
    obtain ⟨q1, rfl, rfl, hT, f1, f2⟩ := hq
    show vp_in _ _ ∧ _
    refine ⟨nI_in' (a := 0) (N := 6) (by decide) (by decide), ?_⟩
    show CPd G l 54 43 0 14 [vR 7 0 0, vR 11 0 0] (mkX q1 (fun _ _ _ _ => 0) R43 none) _
    refine CPd_of (e_readInto (r := 0) (by decide) hT) (by decide) rfl (fun u h' hq => ?_)
    obtain ⟨q2, rfl, hf, hq⟩ := hq
    have hq := hq.resolve_right (by rintro ⟨k, h, _⟩; rw [f_none'] at h; cases h)
    obtain ⟨_, rfl, s, hs, hst⟩ := hq
    show K 43 152 [some (vR 0 0 0), none] [vR 0 0 0] (mkX (upI (upI q2 2 0 0 1 0) 0 0 0 1 1) (fun _ _ _ _ => 0) R43 (some (11, (0, 0))))
    refine hK.2.2.2.2.2.2.2 43 152 _ _ _ (mkD (upI (upI q2 2 0 0 1 0) 0 0 0 1 1) (some (11, (0, 0))) D2) ?_ ?_
    · exact fun p hp t => ⟨rfl, rfl, fun ht => eq43' p hp t ht⟩
    · have eu : ∀ k, k ≠ 0 → k ≠ 2 → upI (upI q2 2 0 0 1 0) 0 0 0 1 1 k = q2 k := fun k h0 h2 => by
        funext i j t
        simp only [upI]
        rw [if_neg (fun w => h0 w.1), if_neg (fun w => h2 w.1)]
      have e14 : ∀ k, 14 ≤ k → upI (upI q2 2 0 0 1 0) 0 0 0 1 1 k = I1 k := fun k hk => by
        rw [eu k (by omega) (by omega), ← f1 k (by omega) (by omega)]
        funext i j t
        exact hf k i j t (by omega) (by omega) (by omega) (by omega) (by omega) (by omega) (by omega) (by omega)
      refine kk _ ⟨⟨s, hs, ?_⟩, e14, ⟨?_, ?_⟩, ?_, fun t ht => ?_⟩ ?_
      · unfold StK at *
        rw [eu 13 (by decide) (by decide), eu 12 (by decide) (by decide)]
        exact hst
      · rw [upI_s]; rfl
      · rw [upI_at, if_neg (by omega), upI_at, if_neg (by omega), hf 0 0 0 7 (by decide) (by decide) (by decide) (by decide) (by omega) (by omega) (by omega) (by omega), f1 0 (by decide) (by decide)]
        decide
      · rw [upI_at, if_neg (by omega), upI_s]; rfl
      · rw [eu 11 (by decide) (by decide), hf 11 t 0 0 (by decide) (by decide) (by decide) (by decide) (by omega) (by omega) (by omega) (by omega), f1 11 (by decide) (by decide)]
        have : ∀ t, t < 6 → I1 11 t 0 0 = nI t := by decide
        exact this t ht
      · have h1 : Fr 43 (upI (upI q2 2 0 0 1 0) 0 0 0 1 1) D1 := fun p h1 h2 t => ⟨by
          rw [e14 _ (by have := id43 p h2 h1; omega)]
          exact (hF p h1 h2 t).1, (hF p h1 h2 t).2⟩
        exact h1.wD (q := 7) rfl (by omega) (by omega)
def D3 : DD := adD (DV D2 0 5) 0 0 0 4
def D4 : DD := adD (DV D3 1 5) 0 0 0 5
def D5 : DD := adD (DV D4 2 5) 0 0 0 6
theorem ci_four {K : Nat → Nat → List (Option AV) → List AV → AH → Prop} {Q : Option AV → AH → Prop} {q0 : HI} (hK : Cl G l 54 6 3 (mkT 203 tC_init) 64 Q K) (hF : Fr 43 q0 D2) (kk : ∀ q, (∀ k, k ≠ 19 → q k = q0 k) → Fr 64 q D5 → Q none (mkD q (some (11, (0, 0))) D5)) : K 43 152 [some (vR 0 0 0), none] [vR 0 0 0] (mkD q0 (some (11, (0, 0))) D2) := by
  refine al_new (k := 17) (i := 0) (j := 0) (ci := 5) hK (nx := 155) rfl rfl rfl (by decide) (by decide) (by decide) (by omega) (by omega) hF ?_
  refine hK.1 [(162, [true, false])] 60 _ _ _ _ _ ?_
  show vp_in _ _ ∧ _
  refine ⟨nI_in' (a := 0) (N := 6) (by decide) (by decide), ?_⟩
  show K 44 162 [some (vR 0 0 0), none] [vR 11 0 0, vR 17 0 0, vR 17 0 0, vR 0 0 0] _
  refine hK.2.1 _ 50 162 165 64 50 2 17 0 0 _ [vR 17 0 0, vR 0 0 0] [vR 11 0 0] _ _ rfl rfl (by decide) (by decide) (by decide) (by decide) (by decide) ⟨by omega, by omega⟩ (by decide) (x_Vinit (v := 0) (by decide) (hF.up (by omega))) (fun r h' hq => ?_)
  obtain ⟨q1, rfl, rfl, f1, hF1⟩ := hq
  show K 50 165 [some (vR 0 0 0), none] [vR 17 0 0, vR 0 0 0] _
  refine hK.1 [(169, [true, false])] 60 _ _ _ _ _ ?_
  show K 50 169 [some (vR 0 0 0), none] [vR 0 0 0] _
  rw [setR_D (show some (17, (0, 0)) = RF (some (11, (0, 0))) (fun _ => 0) 0 0 0 4 from rfl)]
  have hF1 := hF1.wD (k := 0) (i := 0) (j := 0) (t := 4) (q := 0) rfl (by omega) (by omega)
  refine al_new (k := 17) (i := 1) (j := 0) (ci := 5) hK (nx := 172) rfl rfl rfl (by decide) (by decide) (by decide) (by omega) (by omega) hF1 ?_
  refine hK.1 [(179, [true, false])] 60 _ _ _ _ _ ?_
  show vp_in _ _ ∧ _
  refine ⟨nI_in' (a := 0) (N := 6) (by decide) (by decide), ?_⟩
  show K 51 179 [some (vR 0 0 0), none] [vR 11 0 0, vR 17 1 0, vR 17 1 0, vR 0 0 0] _
  refine hK.2.1 _ 57 179 182 64 50 2 17 1 0 _ [vR 17 1 0, vR 0 0 0] [vR 11 0 0] _ _ rfl rfl (by decide) (by decide) (by decide) (by decide) (by decide) ⟨by omega, by omega⟩ (by decide) (x_Vinit (v := 1) (by decide) (hF1.up (by omega))) (fun r h' hq => ?_)
  obtain ⟨q2, rfl, rfl, f2, hF2⟩ := hq
  show K 57 182 [some (vR 0 0 0), none] [vR 17 1 0, vR 0 0 0] _
  refine hK.1 [(186, [true, false])] 60 _ _ _ _ _ ?_
  show K 57 186 [some (vR 0 0 0), none] [vR 0 0 0] _
  rw [setR_D (show some (17, (1, 0)) = RF (some (11, (0, 0))) (fun _ => 0) 0 0 0 5 from rfl)]
  have hF2 := hF2.wD (k := 0) (i := 0) (j := 0) (t := 5) (q := 0) rfl (by omega) (by omega)
  refine al_new (k := 17) (i := 2) (j := 0) (ci := 5) hK (nx := 189) rfl rfl rfl (by decide) (by decide) (by decide) (by omega) (by omega) hF2 ?_
  refine hK.1 [(196, [true, false])] 60 _ _ _ _ _ ?_
  show vp_in _ _ ∧ _
  refine ⟨nI_in' (a := 0) (N := 6) (by decide) (by decide), ?_⟩
  show K 58 196 [some (vR 0 0 0), none] [vR 11 0 0, vR 17 2 0, vR 17 2 0, vR 0 0 0] _
  refine hK.2.1 _ 64 196 199 64 50 2 17 2 0 _ [vR 17 2 0, vR 0 0 0] [vR 11 0 0] _ _ rfl rfl (by decide) (by decide) (by decide) (by decide) (by decide) ⟨by omega, by omega⟩ (by decide) (x_Vinit (v := 2) (by decide) (hF2.up (by omega))) (fun r h' hq => ?_)
  obtain ⟨q3, rfl, rfl, f3, hF3⟩ := hq
  show K 64 199 [some (vR 0 0 0), none] [vR 17 2 0, vR 0 0 0] _
  refine hK.1 [] 60 _ _ _ _ _ ?_
  refine ⟨rfl, ?_⟩
  rw [setR_D (show some (17, (2, 0)) = RF (some (11, (0, 0))) (fun _ => 0) 0 0 0 6 from rfl)]
  have hF3 := hF3.wD (k := 0) (i := 0) (j := 0) (t := 6) (q := 0) rfl (by omega) (by omega)
  exact kk q3 (fun k hk => (f3 k hk).trans ((f2 k hk).trans (f1 k hk))) hF3
/-- how it begins -/
def A0 (B : BT) : ST := ((fun k => if k = 3 then 1 else 0), ((fun _ _ => 0), ((fun _ _ => 0), ((fun _ => 0), ((fun _ t => if t = 0 then -1 else 0), fun _ => B)))))
theorem ok_0 {B : BT} : OKA (A0 B) := ⟨⟨Nat.zero_le _, Nat.zero_le _, Nat.zero_lt_one, (show 1 ≤ 6 by decide), fun p hp => absurd hp (Nat.not_lt_zero _)⟩, ⟨Nat.zero_le _, fun q => absurd q (by show ¬ 0 = 1; decide)⟩, ⟨Nat.zero_le _, fun t ht => absurd ht (Nat.not_lt_zero _)⟩, fun s _ => Or.inl ⟨rfl, rfl⟩⟩
theorem CF_0 {q q0 : HI} {B : BT} (h : CI q0) (hq : ∀ k, k ≠ 19 → q k = q0 k) (hB : ∀ w, w < 3 → ∀ E, rpn E (txW fB 36 w) [] = some [B w E]) : CF q (fun _ => 0) (A0 B) := by
  obtain ⟨⟨s, hs, hst⟩, h14, ⟨h1, h7⟩, h2, h11⟩ := h
  have hru := st_ruk hs hst hB
  have a17 : I1 17 0 0 1 = nI 0 ∧ I1 17 0 0 2 = nI 0 := by decide
  have a15 : ∀ s, s < 4 → I1 15 s 0 1 = -1 ∧ I1 15 s 0 2 = 0 := by decide
  unfold CF RuK
  unfold RuK at hru
  rw [hq 17 (by decide), hq 0 (by decide), hq 2 (by decide), hq 11 (by decide), hq 15 (by decide), hq 16 (by decide), hq 13 (by decide), hq 12 (by decide), h14 17 (by decide), h14 15 (by decide), h1, h7]
  refine ⟨⟨a17.1, a17.2, rfl, fun p hp => absurd hp (Nat.not_lt_zero _)⟩, ⟨rfl, fun t ht => ?_⟩, ⟨rfl, fun w => absurd w (by show ¬ 0 = 1; decide)⟩, ⟨h2, fun t ht => absurd ht (Nat.not_lt_zero _)⟩, fun s hs => ⟨(a15 s hs).1, (a15 s hs).2, fun i q hq he hi => ?_⟩, h11⟩
  · have ht : t < 1 := ht
    obtain rfl : t = 0 := by omega
    exact hru
  · have he : (0 : Int32) = nI q := he
    have := congrArg Int32.toInt he
    rw [nI_toInt (by omega)] at this
    have h5' : (0 : Int32).toInt = 0 := by decide
    omega
theorem x_Cinit : Ev G l 54 (mt 0) 1 64 [vR 0 0 0] (mkD I0 none D0) (fun u h' => ∃ q : HI, u = none ∧ h' = mkD q (some (11, (0, 0))) D5 ∧ Fr 64 q D5 ∧ ∀ B : BT, (∀ w, w < 3 → ∀ E, rpn E (txW fB 36 w) [] = some [B w E]) → CF q (fun _ => 0) (A0 B)) := by
  refine Ev_go iC_init rfl rfl rfl ⟨by omega, by omega⟩ (fun K hK => ?_)
  refine ci_one hK (fun hF => ci_two hK hF (fun hF => ci_three hK hF (fun q0 hc hF => ci_four hK hF (fun q hq hF => ?_))))
  exact ⟨q, rfl, rfl, hF, fun B hB => CF_0 hc hq hB⟩
end Z7
