/-! text, on the reference's side -/
section Z2
variable {G : GT} {l : Launch} {I : HI} {J : HJ} {rd : Option AO} {rr : Nat → Nat} {A : ST}
/-- the first k bytes of the tape have been written down -/
def cpT (I : HI) (base k : Nat) : HI := fun k' i j t => if k' = 21 ∧ i = 0 ∧ j = 0 ∧ base ≤ t ∧ t < base + k then I 23 0 0 (t - base) else I k' i j t
theorem cpT_k {base k kk : Nat} (h : kk ≠ 21) : cpT I base k kk = I kk := by
  funext i j t
  unfold cpT
  rw [if_neg (fun q => h q.1)]
theorem cpT_0 {base : Nat} : cpT I base 0 = I := by
  funext k i j t
  unfold cpT
  rw [if_neg (by omega)]
theorem cpT_s {base k : Nat} : upI (cpT I base k) 21 0 0 (base + k) (I 23 0 0 k) = cpT I base (k + 1) := by
  funext k' i j t
  simp only [upI, cpT]
  by_cases h : k' = 21 ∧ i = 0 ∧ j = 0
  · obtain ⟨rfl, rfl, rfl⟩ := h
    simp only [true_and]
    by_cases ht : t = base + k
    · subst ht
      rw [if_pos rfl, if_pos (by omega), show base + k - base = k by omega]
    · rw [if_neg ht]
      by_cases h2 : base ≤ t ∧ t < base + k
      · rw [if_pos h2, if_pos (by omega)]
      · rw [if_neg h2, if_neg (by omega)]
  · rw [if_neg (fun q => h ⟨q.1, q.2.1, q.2.2.1⟩), if_neg (fun q => h ⟨q.1, q.2.1, q.2.2.1⟩), if_neg (fun q => h ⟨q.1, q.2.1, q.2.2.1⟩)]
/-- the tape as text n, the tape empty -/
def txI (I : HI) (n z : Nat) : HI := upI (upI (cpT I (160 * n) z) 22 0 0 n (nI z)) 20 0 0 6 0
theorem txI_k {n z k : Nat} (h1 : k ≠ 20) (h2 : k ≠ 21) (h3 : k ≠ 22) : txI I n z k = I k := by
  funext i j t
  unfold txI
  simp only [upI]
  rw [if_neg (fun q => h1 q.1), if_neg (fun q => h3 q.1), cpT_k h2]
theorem txI_20 {n z t : Nat} (h : t ≠ 6) : txI I n z 20 0 0 t = I 20 0 0 t := by
  unfold txI
  rw [upI_at, if_neg (fun q => h q.2.2.2), upI_at, if_neg (by omega), cpT_k (by decide)]
theorem txI_6 {n z : Nat} : txI I n z 20 0 0 6 = 0 := upI_s
theorem txI_22 {n z t : Nat} : txI I n z 22 0 0 t = if t = n then nI z else I 22 0 0 t := by
  unfold txI
  rw [upI_at, if_neg (by omega), upI_at]
  by_cases h : t = n
  · rw [if_pos ⟨rfl, rfl, rfl, h⟩, if_pos h]
  · rw [if_neg (fun q => h q.2.2.2), if_neg h, cpT_k (by decide)]
theorem txI_21 {n z t : Nat} : txI I n z 21 0 0 t = if 160 * n ≤ t ∧ t < 160 * n + z then I 23 0 0 (t - 160 * n) else I 21 0 0 t := by
  unfold txI
  rw [upI_at, if_neg (by omega), upI_at, if_neg (by omega)]
  unfold cpT
  by_cases h : 160 * n ≤ t ∧ t < 160 * n + z
  · rw [if_pos ⟨rfl, rfl, rfl, h⟩, if_pos h]
  · rw [if_neg (fun q => h q.2.2.2), if_neg h]
theorem TXS.old {n z : Nat} {Bs : Nat → BT} (h : TXS n Bs I) : TXS n Bs (txI I n z) := by
  intro t ht
  obtain ⟨b, y, h1, h2, h3, h4, h5⟩ := h t ht
  refine ⟨b, y, h1, fun i hi => ⟨(h2 i hi).1, ?_⟩, ?_, h4, h5⟩
  · rw [txI_21, if_neg (by omega)]
    exact (h2 i hi).2
  · rw [txI_22, if_neg (by omega)]
    exact h3
theorem MF.txt {Q : PP} {S S' : HI} {T T' : HJ} {z : Nat} (h : MF G l I Q S T A) (h6 : aN A 3 ≤ 6) (h27 : S' 27 = S 27) (h26 : T' 26 = T 26) : MF G l (txI I (aN A 3) z) Q S' T' (stN A 4 0) := by
  obtain ⟨c1, ⟨c2, c2b, c2c⟩, c3, c4, c5⟩ := h
  unfold MF
  rw [txI_20 (by decide), txI_20 (by decide), txI_20 (by decide), txI_20 (by decide), txI_20 (by decide), txI_20 (by decide), txI_20 (by decide), txI_k (k := 31) (by decide) (by decide) (by decide), txI_k (k := 32) (by decide) (by decide) (by decide), txI_k (k := 33) (by decide) (by decide) (by decide), txI_k (k := 34) (by decide) (by decide) (by decide), txI_k (k := 35) (by decide) (by decide) (by decide), txI_6]
  exact ⟨c1, ⟨c2, ⟨c2b.1.old, HRe_of h6 c2b.1.old⟩, c2c.same h27 h26⟩, c3, ⟨rfl, fun t ht => absurd ht (Nat.not_lt_zero _)⟩, c5⟩
theorem MF.txn {Q : PP} {S S' : HI} {T T' : HJ} (h : MF G l I Q S T A) (ok : OKA A) (h6 : aN A 3 < 6) (hF : txF (tpb A) (aN A 4) = none) (h27 : S' 27 = S 27) (h26 : T' 26 = T 26) : MF G l (upI (txI I (aN A 3) (aN A 4)) 20 0 0 3 (nI (aN A 3 + 1))) Q S' T' (stN (stN (stB A (aN A 3) (newB A)) 4 0) 3 (aN A 3 + 1)) := by
  have h0 := h.txt (z := aN A 4) (by omega) h27 h26
  obtain ⟨c1, ⟨c2, c2b, c2c⟩, c3, c4, c5⟩ := h0
  have hX : TXS (aN A 3 + 1) (fun t' => if t' = aN A 3 then newB A else aB A t') (upI (txI I (aN A 3) (aN A 4)) 20 0 0 3 (nI (aN A 3 + 1))) := by
    intro t ht
    rw [up20 (by decide), up20 (by decide)]
    by_cases e : t = aN A 3
    · subst e
      refine ⟨tpb A, aN A 4, ok.2.2.1.1, fun i hi => ⟨(tpb_ok ok hi).1, ?_⟩, ?_, hF, fun w hw E => ?_⟩
      · rw [txI_21, if_pos (by omega), show 160 * aN A 3 + i - 160 * aN A 3 = i by omega, h.2.2.2.1.2 i hi]
        exact (tpb_ok ok hi).2
      · rw [txI_22, if_pos rfl]
      · show _ = some [(if aN A 3 = aN A 3 then newB A else aB A (aN A 3)) w E]
        rw [if_pos rfl]
        exact newB_ok ok hF w hw E
    · obtain ⟨b, y, h1, h2, h3, h4, h5⟩ := c2b.1 t (by show t < aN A 3; omega)
      refine ⟨b, y, h1, h2, h3, h4, fun w hw E => ?_⟩
      show _ = some [(if t = aN A 3 then newB A else aB A t) w E]
      rw [if_neg e]
      exact h5 w hw E
  have hM : MOK (aN A 3 + 1) (fun t' => if t' = aN A 3 then newB A else aB A t') S' T' := by
    intro q hq
    rcases c2c q hq with e | ⟨r, w, a, b, c, d, e, f, hk, k1, k2⟩
    · exact Or.inl e
    · have hr : r < aN A 3 := hk.1
      refine Or.inr ⟨r, w, a, b, c, d, e, f, ⟨Nat.lt_succ_of_lt hr, hk.2⟩, k1, ?_⟩
      show _ = (if r = aN A 3 then newB A else aB A r) w (mkE a b c d e f)
      rw [if_neg (by omega)]
      exact k2
  unfold MF
  rw [up20t (by decide), up20t (by decide), up20t (by decide), upI_s, up20t (by decide), up20t (by decide), up20t (by decide), up20t (by decide), up20 (k := 31) (by decide), up20 (k := 32) (by decide), up20 (k := 33) (by decide), up20 (k := 34) (by decide), up20 (k := 35) (by decide), up20 (k := 23) (by decide)]
  exact ⟨c1, ⟨rfl, ⟨hX, HRe_of (m := aN A 3 + 1) (by omega) hX⟩, hM⟩, c3, c4, c5⟩
theorem frM_tx {n z : Nat} : frM I (txI I n z) := fun k hk => txI_k (by omega) (by omega) (by omega)
theorem m_text (ok : OKA A) : MC G l 171 61 [] A (vI (textR A)) (textA A) := by
  intro I J rd rr Q S T hC
  have h3 := hC.2.1.1
  have h36 := ok.1.2.2.2.1
  have h160 := ok.2.2.1.1
  have h6z := hC.2.2.2.1.1
  refine Ev_go iM_text rfl rfl rfl ⟨Nat.le_refl _, Nat.le_refl _⟩ (fun K hK => ?_)
  refine hK.1 [(14, [true, true])] 60 _ _ _ _ _ ?_
  have g3 : getI (mf I J rd rr Q S T) 20 0 0 3 = nI (aN A 3) := (mf_I (by simp)).trans h3
  unfold textR textA at hK ⊢
  refine And.intro (fun q => ?_) (fun q => ?_)
  · rw [g3] at q
    have hne : ¬ aN A 3 = 6 := fun c => q (by rw [c]; rfl)
    have hlt : aN A 3 < 6 := by omega
    rw [if_neg hne, if_neg hne] at hK
    show K 80 14 _ _ _
    have loop : ∀ j k, k + j = aN A 4 → K 80 14 [some (vR 20 0 0), some (vI (nI k))] [] (mf (cpT I (160 * aN A 3) k) J rd rr Q S T) := by
      intro j
      induction j with
      | zero =>
        intro k hk
        rw [show k = aN A 4 by omega]
        refine hK.1 [] 100 _ _ _ _ _ ?_
        have e6 : getI (mf (cpT I (160 * aN A 3) (aN A 4)) J rd rr Q S T) 20 0 0 6 = nI (aN A 4) := (mf_I (by simp)).trans (by rw [cpT_k (by decide)]; exact h6z)
        have e3 : getI (mf (cpT I (160 * aN A 3) (aN A 4)) J rd rr Q S T) 20 0 0 3 = nI (aN A 3) := (mf_I (by simp)).trans (by rw [cpT_k (by decide)]; exact h3)
        refine And.intro (fun _ => ?_) (fun w => absurd (by rw [e6]; exact nI_le (Nat.le_refl _) (by omega)) w)
        show vp_in (getI (mf (cpT I (160 * aN A 3) (aN A 4)) J rd rr Q S T) 20 0 0 3) 6 ∧ _
        rw [e3]
        refine ⟨nI_in (N := 6) (by omega) (by decide), ?_⟩
        rw [e6, nI_clamp (n := aN A 3) (by omega), mf_wI (by simp)]
        show CPd _ _ _ _ _ _ _ _ _
        rw [mf_wI (by simp)]
        have e3' : getI (mf (txI I (aN A 3) (aN A 4)) J rd rr Q S T) 20 0 0 3 = nI (aN A 3) := (mf_I (by simp)).trans (by rw [txI_20 (by decide)]; exact h3)
        show CPd G l 61 80 0 148 [vR 20 0 0, vI (getI (mf (txI I (aN A 3) (aN A 4)) J rd rr Q S T) 20 0 0 3), vI 0] (mf (txI I (aN A 3) (aN A 4)) J rd rr Q S T) _
        rw [e3']
        refine CPd_of (e_read (w := 0) (b := tpb A) (n := aN A 4) (R := fun v h' => ∃ q : Int32 × (HI × HJ), v = some (vI q.1) ∧ h' = mf (txI I (aN A 3) (aN A 4)) J rd rr Q q.2.1 q.2.2 ∧ (q.2.1 27 = S 27 ∧ q.2.2 26 = T 26) ∧ RdO (tpb A) (aN A 4) 0 (ofE S) q.1 q.2.1) hlt (by decide) h160 (fun i hi => ⟨(tpb_ok ok hi).1, ?_⟩) ?_ (fun v S' T' q1 q2 => ⟨(v, (S', T')), rfl, rfl, q1, q2⟩)) (by decide) rfl (fun v h' hq => ?_)
        · rw [txI_21, if_pos (by omega), show 160 * aN A 3 + i - 160 * aN A 3 = i by omega, hC.2.2.2.1.2 i hi]
          exact (tpb_ok ok hi).2
        · rw [txI_22, if_pos rfl]
        · obtain ⟨⟨v, S', T'⟩, rfl, rfl, ⟨q27, q26⟩, q1, q2⟩ := hq
          have g24 : getI (mf (txI I (aN A 3) (aN A 4)) J rd rr Q S' T') 20 0 0 24 = S' 20 0 0 24 := mf_ge (by decide)
          have g25 : getI (mf (txI I (aN A 3) (aN A 4)) J rd rr Q S' T') 20 0 0 25 = S' 20 0 0 25 := mf_ge (by decide)
          have e3s : getI (mf (txI I (aN A 3) (aN A 4)) J rd rr Q S' T') 20 0 0 3 = nI (aN A 3) := (mf_I (by simp)).trans (by rw [txI_20 (by decide)]; exact h3)
          cases hF : txF (tpb A) (aN A 4) with
          | some k =>
            obtain ⟨r1, r2⟩ := q2 k hF
            have r1 : S' 20 0 0 24 = 1 := r1
            have r2 : S' 20 0 0 25 = nI (psA (tpb A) (aN A 4) k) := r2
            rw [hF] at hK
            intro _
            refine And.intro (fun w => ?_) (fun _ => ?_)
            · rw [g24, r1] at w
              exact absurd w (by decide)
            · refine ⟨rfl, (txI I (aN A 3) (aN A 4), Q, S', T'), ?_, rfl, ?_, frM_tx⟩
              · show some (vI (-100 - getI (mf (txI I (aN A 3) (aN A 4)) J rd rr Q S' T') 20 0 0 25)) = _
                rw [g25, r2]
              · exact hC.txt (by omega) q27 q26
          | none =>
            obtain ⟨r1, r2⟩ := q1 hF
            have r1 : S' 20 0 0 24 = 0 := r1
            rw [hF] at hK
            intro _
            refine And.intro (fun _ => ?_) (fun w => absurd (g24.trans r1) w)
            refine ⟨rfl, (upI (txI I (aN A 3) (aN A 4)) 20 0 0 3 (nI (aN A 3 + 1)), Q, S', T'), ?_, ?_, ?_, ?_⟩
            · rw [e3s, mf_wI (by simp)]
              show some (vI (getI (mf (upI (txI I (aN A 3) (aN A 4)) 20 0 0 3 (nI (aN A 3) + 1)) J rd rr Q S' T') 20 0 0 3 - 1)) = _
              rw [mf_I (by simp), upI_s]
              have : nI (aN A 3) + 1 - 1 = nI (aN A 3) := by grind
              rw [this]
            · rw [e3s, mf_wI (by simp), ← nI_succ]
            · exact hC.txn ok hlt hF q27 q26
            · exact fun k hk => by
                show upI (txI I (aN A 3) (aN A 4)) 20 0 0 3 (nI (aN A 3 + 1)) k = I k
                rw [up20 (by omega)]
                exact frM_tx k hk
      | succ j ih =>
        intro k hk
        refine hK.1 [(14, [true, true])] 100 _ _ _ _ _ ?_
        have e6 : getI (mf (cpT I (160 * aN A 3) k) J rd rr Q S T) 20 0 0 6 = nI (aN A 4) := (mf_I (by simp)).trans (by rw [cpT_k (by decide)]; exact h6z)
        have e3 : getI (mf (cpT I (160 * aN A 3) k) J rd rr Q S T) 20 0 0 3 = nI (aN A 3) := (mf_I (by simp)).trans (by rw [cpT_k (by decide)]; exact h3)
        refine And.intro (fun w => ?_) (fun _ => ?_)
        · rw [e6] at w
          exact absurd w (nI_ge (a := k) (b := aN A 4) (by omega) (by omega))
        · show vp_in _ _ ∧ vp_in _ _ ∧ _
          rw [e3, show (160 : Int32) * nI (aN A 3) = nI (160 * aN A 3) from nI_mul (a := 160), nI_plus]
          refine ⟨nI_in (N := 160) (by omega) (by decide), nI_in (N := 960) (by omega) (by decide), ?_⟩
          show K 80 14 _ _ _
          refine Kc (ih (k + 1) (by omega)) (by rw [nI_succ]; rfl) ?_
          rw [nI_clamp (n := k) (by omega), nI_clamp (n := 160 * aN A 3 + k) (by omega), mf_I (by simp), mf_wI (by simp), cpT_k (by decide), cpT_s]
    refine Kc (loop (aN A 4) 0 (by omega)) rfl ?_
    rw [cpT_0]
  · rw [g3] at q
    have h6 : aN A 3 = 6 := by
      have := congrArg Int32.toInt q
      rw [nI_toInt (by omega)] at this
      have h5' : (6 : Int32).toInt = 6 := by decide
      omega
    refine ⟨rfl, (I, Q, S, T), ?_, rfl, ?_, frM.r⟩
    · rw [if_pos h6]
    · rw [if_pos h6]
      exact hC
end Z2
