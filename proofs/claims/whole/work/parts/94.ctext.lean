/-! text, on the class's side -/
section Z1
variable {G : GT} {l : Launch} {I : HI} {J : HJ} {rd : Option AO} {rr : Nat → Nat} {A : ST}
/-- the bytes on the tape -/
def tpb (A : ST) : Nat → Nat := fun i => (aT A i).toNatClampNeg
theorem tpb_ok {t : Nat} (ok : OKA A) (ht : t < aN A 4) : tpb A t < 256 ∧ aT A t = nI (tpb A t) := by
  obtain ⟨q, hq, e⟩ := ok.2.2.1.2 t ht
  unfold tpb
  rw [e, nI_clamp (by omega)]
  exact ⟨hq, rfl⟩
/-- what the text on the tape tells, if it can stand so -/
noncomputable def newB (A : ST) : BT := Classical.epsilon (fun B => ∀ w, w < 3 → ∀ E, rpn E (txW (tpb A) (aN A 4) w) [] = some [B w E])
theorem newB_ok (ok : OKA A) (h : txF (tpb A) (aN A 4) = none) : ∀ w, w < 3 → ∀ E, rpn E (txW (tpb A) (aN A 4) w) [] = some [newB A w E] :=
  Classical.epsilon_spec (p := fun B : BT => ∀ w, w < 3 → ∀ E, rpn E (txW (tpb A) (aN A 4) w) [] = some [B w E]) (tx_B (fun i hi => (tpb_ok ok hi).1) h)
def stB (A : ST) (t : Nat) (B : BT) : ST := (A.1, (A.2.1, (A.2.2.1, (A.2.2.2.1, (A.2.2.2.2.1, fun t' => if t' = t then B else aB A t')))))
noncomputable def textR (A : ST) : Int32 := if aN A 3 = 6 then -4 else match txF (tpb A) (aN A 4) with | some k => -100 - nI (psA (tpb A) (aN A 4) k) | none => nI (aN A 3)
noncomputable def textA (A : ST) : ST := if aN A 3 = 6 then A else match txF (tpb A) (aN A 4) with | some _ => stN A 4 0 | none => stN (stN (stB A (aN A 3) (newB A)) 4 0) 3 (aN A 3 + 1)
theorem ok_text (ok : OKA A) : OKA (textA A) := by
  unfold textA
  split
  · exact ok
  · rename_i h6
    obtain ⟨⟨h1, h2, h3, h4, h5⟩, ⟨g1, g2⟩, ⟨f1, f2⟩, e⟩ := ok
    cases txF (tpb A) (aN A 4) with
    | some k => exact ⟨⟨h1, h2, h3, h4, h5⟩, ⟨g1, g2⟩, ⟨Nat.zero_le _, fun t ht => absurd ht (Nat.not_lt_zero _)⟩, e⟩
    | none =>
      refine ⟨⟨h1, h2, ?_, ?_, h5⟩, ⟨g1, fun q => ?_⟩, ⟨Nat.zero_le _, fun t ht => absurd ht (Nat.not_lt_zero _)⟩, e⟩
      · show aN A 2 < aN A 3 + 1; omega
      · show aN A 3 + 1 ≤ 6; omega
      · obtain ⟨a1, a2, a3, a4, a5⟩ := g2 q
        refine ⟨a1, a2, ?_, a4, a5⟩
        show aN A 8 < aN A 3 + 1; omega
theorem mkX_r {rd' : Option AO} : mkX I J (RF rd rr) rd' = mkH I J rd' rr := by
  refine congrArg (fun x => (I, (J, x))) ?_
  funext k i j t
  unfold RX
  split
  · rfl
  · rfl
  · rfl
  · rename_i h2 h7 h11
    unfold RF
    split <;> try rfl
    exact absurd rfl h7
theorem CF.tp (h : CF I rr A) (ok : OKA A) : TP (tpb A) (aN A 4) I := ⟨h.2.2.2.1.1, ok.2.2.1.1, fun i hi => ⟨(tpb_ok ok hi).1, (h.2.2.2.1.2 i hi).trans (tpb_ok ok hi).2⟩⟩
/-- a text has been read into a rule that is not yet a text; the tape is empty -/
theorem CF.rdB {q : HI} (h : CF I rr A) (hf : FrI (aN A 3) I q) : CF (upI q 2 0 0 1 0) rr (stN A 4 0) := by
  have e : ∀ k, k < 20 → k ≠ 4 → k ≠ 5 → k ≠ 6 → k ≠ 7 → k ≠ 2 → k ≠ 12 → k ≠ 13 → k ≠ 11 → upI q 2 0 0 1 0 k = I k := fun k _ a1 a2 a3 a4 a5 a6 a7 a8 => by
    funext i j t
    simp only [upI]
    rw [if_neg (fun w => a5 w.1)]
    exact hf k i j t a1 a2 a3 a4 (fun w => a5 w.1) (fun w => a6 w.1) (fun w => a7 w.1) (fun w => a8 w.1)
  have eu : ∀ k, k ≠ 2 → upI q 2 0 0 1 0 k = q k := fun k hk => by funext i j t; simp only [upI]; rw [if_neg (fun w => hk w.1)]
  obtain ⟨c1, c2, c3, c4, c5, c6⟩ := h
  unfold CF RuK at *
  rw [e 17 (by decide) (by decide) (by decide) (by decide) (by decide) (by decide) (by decide) (by decide) (by decide), e 19 (by decide) (by decide) (by decide) (by decide) (by decide) (by decide) (by decide) (by decide) (by decide), e 0 (by decide) (by decide) (by decide) (by decide) (by decide) (by decide) (by decide) (by decide) (by decide), e 15 (by decide) (by decide) (by decide) (by decide) (by decide) (by decide) (by decide) (by decide) (by decide), e 16 (by decide) (by decide) (by decide) (by decide) (by decide) (by decide) (by decide) (by decide) (by decide), eu 13 (by decide), eu 12 (by decide), eu 11 (by decide)]
  refine ⟨c1, ⟨c2.1, fun t ht => ?_⟩, c3, ⟨by rw [upI_s]; rfl, fun t ht => absurd ht (Nat.not_lt_zero _)⟩, c5, fun t ht => ?_⟩
  · have ht' : t < aN A 3 := ht
    have n12 : q 12 t = I 12 t := by funext j t'; exact hf 12 t j t' (by decide) (by decide) (by decide) (by decide) (fun w => absurd w.1 (by decide)) (fun w => absurd w.2 (by omega)) (fun w => absurd w.1 (by decide)) (fun w => absurd w.1 (by decide))
    have n13 : q 13 t = I 13 t := by funext j t'; exact hf 13 t j t' (by decide) (by decide) (by decide) (by decide) (fun w => absurd w.1 (by decide)) (fun w => absurd w.1 (by decide)) (fun w => absurd w.2 (by omega)) (fun w => absurd w.1 (by decide))
    rw [n12, n13]
    exact c2.2 t ht'
  · rw [hf 11 t 0 0 (by decide) (by decide) (by decide) (by decide) (fun w => absurd w.1 (by decide)) (fun w => absurd w.1 (by decide)) (fun w => absurd w.1 (by decide)) (fun w => absurd w.2.2 (by decide))]
    exact c6 t ht
theorem FrI.C {q : HI} {r : Nat} {x : Int32} (hf : FrI r I q) : frC I (upI q 2 0 0 1 x) J J := fun k hk => ⟨by
  funext i j t
  simp only [upI]
  rw [if_neg (by omega)]
  exact hf k i j t (by omega) (by omega) (by omega) (by omega) (by omega) (by omega) (by omega) (by omega), rfl⟩
theorem c_text (ok : OKA A) : CC G l 79 53 [] A (vI (textR A)) (textA A) := by
  intro I J rd rr hC
  have h3 := hC.2.1.1
  have h36 := ok.1.2.2.2.1
  have hTP := hC.tp ok
  refine Ev_go iC_text rfl rfl rfl ⟨Nat.le_refl _, Nat.le_refl _⟩ (fun K hK => ?_)
  refine hK.1 [] 60 _ _ _ _ _ ?_
  unfold textR textA
  refine And.intro (fun q => ?_) (fun q => ?_)
  · have hlt : aN A 3 < 6 := by
      have q : I 0 0 0 1 < 6 := q
      rw [h3] at q
      exact Classical.byContradiction (fun c => absurd q (nI_nlt (a := aN A 3) (b := 6) (by omega) (by omega)))
    have hne : ¬ aN A 3 = 6 := by omega
    rw [if_neg hne, if_neg hne]
    show vp_in (I 0 0 0 1) 6 ∧ _
    rw [h3]
    refine ⟨nI_in (N := 6) (by omega) (by decide), ?_⟩
    rw [getI_mk, h3, nI_clamp (n := aN A 3) (by omega)]
    show CPd G l 53 80 0 14 [vR 7 0 0, vR 11 (aN A 3) 0] (mkH I J rd rr) _
    rw [← mkX_H]
    refine CPd_of (e_readInto (by decide) hTP) (by decide) rfl (fun u h' hq => ?_)
    obtain ⟨q, rfl, hf, hq⟩ := hq
    rw [mkX_r]
    rcases hq with ⟨hF, rfl, s, hs, hst⟩ | ⟨k, hF, rfl⟩
    · refine And.intro (fun _ => ?_) (fun w => absurd rfl w)
      rw [hF]
      have c := hC.rdB hf
      have hru : RuK (upI q 2 0 0 1 0) (aN A 3) (newB A) := by
        have := st_ruk hs hst (newB_ok ok hF)
        unfold RuK at *
        rw [show upI q 2 0 0 1 0 13 = q 13 by funext i j t; simp only [upI]; rw [if_neg (by omega)], show upI q 2 0 0 1 0 12 = q 12 by funext i j t; simp only [upI]; rw [if_neg (by omega)]]
        exact this
      have e01 : upI q 2 0 0 1 0 0 0 0 1 = nI (aN A 3) := c.2.1.1
      have fC : frC I (upI q 2 0 0 1 0) J J := hf.C
      refine ⟨rfl, ?_⟩
      simp only [setI_mk, getI_mk]
      generalize upI q 2 0 0 1 0 = q' at c hru e01 fC ⊢
      refine ⟨(upI q' 0 0 0 1 (nI (aN A 3 + 1)), J, some (11, aN A 3, 0), rr), ?_, ?_, ?_, ?_⟩
      · show some (vI (upI q' 0 0 0 1 (q' 0 0 0 1 + 1) 0 0 0 1 - 1)) = _
        rw [upI_s, e01]
        have : nI (aN A 3) + 1 - 1 = nI (aN A 3) := by grind
        rw [this]
      · show mkH (upI q' 0 0 0 1 (q' 0 0 0 1 + 1)) J _ rr = _
        rw [e01, ← nI_succ]
      · show CF (upI q' 0 0 0 1 (nI (aN A 3 + 1))) rr (stN (stN (stB A (aN A 3) (newB A)) 4 0) 3 (aN A 3 + 1))
        obtain ⟨c1, c2, c3, c4, c5, c6⟩ := c
        have eu : ∀ k, k ≠ 0 → upI q' 0 0 0 1 (nI (aN A 3 + 1)) k = q' k := fun k hk => by funext i j t; simp only [upI]; rw [if_neg (fun w => hk w.1)]
        unfold CF RuK at *
        rw [eu 17 (by decide), eu 19 (by decide), eu 2 (by decide), eu 3 (by decide), eu 15 (by decide), eu 16 (by decide), eu 13 (by decide), eu 12 (by decide), eu 11 (by decide)]
        refine ⟨c1, ⟨by rw [upI_s]; rfl, fun t ht => ?_⟩, ⟨?_, c3.2⟩, c4, c5, c6⟩
        · show ∀ part, part < 3 → ∃ a n, q' 13 t 0 part = nI a ∧ q' 13 t 0 (part + 1) = nI (a + n) ∧ a + n ≤ 160 ∧ ∀ E, rpn E (seg (q' 12 t 0) a n) [] = some [(if t = aN A 3 then newB A else aB A t) part E]
          by_cases e : t = aN A 3
          · rw [if_pos e, e]
            exact hru
          · rw [if_neg e]
            have ht' : t < aN A 3 + 1 := ht
            exact c2.2 t (by show t < aN A 3; omega)
        · rw [upI_at, if_neg (by omega)]
          exact c3.1
      · refine fun k hk => ⟨?_, rfl⟩
        show upI q' 0 0 0 1 (nI (aN A 3 + 1)) k = I k
        rw [show upI q' 0 0 0 1 (nI (aN A 3 + 1)) k = q' k by funext i j t; simp only [upI]; rw [if_neg (by omega)]]
        exact (fC k hk).1
    · have hp := ps_le (b := tpb A) (n := aN A 4) k
      have h160 := ok.2.2.1.1
      refine And.intro (fun w => ?_) (fun _ => ?_)
      · have := congrArg Int32.toInt w
        rw [nI_toInt (by omega)] at this
        have h5' : (-1 : Int32).toInt = -1 := by decide
        omega
      · rw [hF]
        exact ⟨rfl, (upI q 2 0 0 1 0, J, some (11, aN A 3, 0), rr), rfl, rfl, hC.rdB hf, hf.C⟩
  · have h6 : aN A 3 = 6 := by
      refine Classical.byContradiction (fun c => q ?_)
      show I 0 0 0 1 < 6
      rw [h3]
      exact nI_lt (a := aN A 3) (b := 6) (by omega) (by omega)
    rw [if_pos h6, if_pos h6]
    exact ⟨rfl, (I, J, rd, rr), rfl, rfl, hC, fun k hk => ⟨rfl, rfl⟩⟩
end Z1
