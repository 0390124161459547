/-! count, force, feed -/
section T7
variable {G : GT} {l : Launch} {I : HI} {J : HJ} {rd : Option AO} {rr : Nat → Nat} {A : ST}
def countR (A : ST) (w : Int32) : Int32 := if w = 0 then nI (aN A 0) else if w = 1 then asl A else if w = 2 then dy A else if w = 3 then nI (aN A 3) else if w = 4 then nI (aN A 4) else if w = 5 then nI (aN A 2) else -2
theorem c_count {w : Int32} (ok : OKA A) : CC G l 127 5 [vI w] A (vI (countR A w)) A := by
  intro I J rd rr hC
  obtain ⟨h1, h2, h3, h4⟩ := hC.1
  have h5 := ok.1.1
  have hb := (hC.W ok).b
  refine Ev_go iC_count rfl rfl rfl ⟨Nat.le_refl _, Nat.le_refl _⟩ (fun K hK => hK.1 [] 120 _ _ _ _ _ ?_)
  unfold countR
  refine And.intro ⟨fun h => ?_, fun h => ?_, fun h => ?_, fun h => ?_, fun h => ?_, fun h => ?_, True.intro⟩ (fun h => ?_)
  · refine ⟨rfl, (I, J, rd, rr), ?_, rfl, hC, fun k hk => ⟨rfl, rfl⟩⟩
    rw [getI_mk, h1, if_pos h]
  · refine CPd_eq (e_asleepCount h1 h5 hb) (by decide) rfl ?_
    refine ⟨rfl, (I, J, rd, rr), ?_, rfl, hC, fun k hk => ⟨rfl, rfl⟩⟩
    rw [asB_Ag h4]
    simp [h]
  · refine ⟨rfl, (I, J, rd, rr), ?_, rfl, hC, fun k hk => ⟨rfl, rfl⟩⟩
    rw [getI_mk, h2]
    simp [h, dy]
  · refine ⟨rfl, (I, J, rd, rr), ?_, rfl, hC, fun k hk => ⟨rfl, rfl⟩⟩
    rw [getI_mk, hC.2.1.1]
    simp [h]
  · refine ⟨rfl, (I, J, rd, rr), ?_, rfl, hC, fun k hk => ⟨rfl, rfl⟩⟩
    rw [getI_mk, hC.2.2.2.1.1]
    simp [h]
  · refine ⟨rfl, (I, J, rd, rr), ?_, rfl, hC, fun k hk => ⟨rfl, rfl⟩⟩
    rw [getI_mk, h3, hC.2.2.2.2.2 _ (by have := ok.1; omega)]
    simp [h]
  · refine ⟨rfl, (I, J, rd, rr), ?_, rfl, hC, fun k hk => ⟨rfl, rfl⟩⟩
    simp only [swNo] at h
    simp [h]
theorem m_count {w : Int32} (ok : OKA A) : MC G l 205 100 [vI w] A (vI (countR A w)) A := by
  intro I J rd rr Q S T hC
  obtain ⟨h1, h2, h3, h4⟩ := hC.1
  have h5 := ok.1.1
  refine Ev_go iM_count rfl rfl rfl ⟨Nat.le_refl _, Nat.le_refl _⟩ (fun K hK => hK.1 [] 120 _ _ _ _ _ ?_)
  unfold countR
  refine c_in (b' := 0) (c' := 5) rfl rfl (by decide) ?_
  refine And.intro (fun h6 => ?_) (fun h6 => ?_)
  · have hc := iN_y h6
    obtain ⟨q, hq, rfl⟩ := nI_ex (x := w) (m := 6) hc.1 (by show w < 6; grind) (by decide)
    match q, hq with
    | 0, _ =>
      refine And.intro (fun _ => And.intro (fun h => absurd rfl h) (fun _ => ?_)) (fun h => absurd (by decide) h)
      refine ⟨rfl, (I, Q, S, T), ?_, rfl, hC, frM.r⟩
      rw [mf_I (by decide), h1]
      rfl
    | 1, _ =>
      refine And.intro (fun _ => And.intro (fun _ => And.intro (fun h => absurd rfl h) (fun _ => ?_)) (fun h => absurd h (by decide))) (fun h => absurd (by decide) h)
      refine c_asleepMany h1 h5 (by decide) ?_
      refine ⟨rfl, (I, Q, S, T), ?_, rfl, hC, frM.r⟩
      rw [asl_Ag _ _ h4 (Nat.le_refl _)]
      rfl
    | 2, _ =>
      refine And.intro (fun _ => And.intro (fun _ => And.intro (fun _ => ?_) (fun h => absurd h (by decide))) (fun h => absurd h (by decide))) (fun h => absurd (by decide) h)
      refine ⟨rfl, (I, Q, S, T), ?_, rfl, hC, frM.r⟩
      rw [mf_I (by decide), h2]
      rfl
    | 3, _ =>
      refine And.intro (fun h => absurd h (by decide)) (fun _ => And.intro (fun h => absurd rfl h) (fun _ => ?_))
      refine ⟨rfl, (I, Q, S, T), ?_, rfl, hC, frM.r⟩
      rw [mf_I (by decide), hC.2.1.1]
      rfl
    | 4, _ =>
      refine And.intro (fun h => absurd h (by decide)) (fun _ => And.intro (fun _ => And.intro (fun h => absurd rfl h) (fun _ => ?_)) (fun h => absurd h (by decide)))
      refine ⟨rfl, (I, Q, S, T), ?_, rfl, hC, frM.r⟩
      rw [mf_I (by decide), hC.2.2.2.1.1]
      rfl
    | 5, _ =>
      refine And.intro (fun h => absurd h (by decide)) (fun _ => And.intro (fun _ => And.intro (fun _ => ?_) (fun h => absurd h (by decide))) (fun h => absurd h (by decide)))
      refine ⟨rfl, (I, Q, S, T), ?_, rfl, hC, frM.r⟩
      rw [mf_I (by decide), h3]
      rfl
  · have hc := iN_n h6
    refine ⟨rfl, (I, Q, S, T), ?_, rfl, hC, frM.r⟩
    have hne : ∀ c : Nat, c < 6 → ¬ w = nI c := by
      rintro c hc' rfl
      exact hc ⟨nI_pos' (by omega), nI_le (b := 5) (by omega) (by decide)⟩
    rw [if_neg (show ¬ w = 0 from hne 0 (by decide)), if_neg (show ¬ w = 1 from hne 1 (by decide)), if_neg (show ¬ w = 2 from hne 2 (by decide)), if_neg (show ¬ w = 3 from hne 3 (by decide)), if_neg (show ¬ w = 4 from hne 4 (by decide)), if_neg (show ¬ w = 5 from hne 5 (by decide))]
def forceR (A : ST) (t : Int32) : Int32 := if 0 ≤ t ∧ t < nI (aN A 3) then nI (aN A 2) else -2
def forceA (A : ST) (t : Int32) : ST := if 0 ≤ t ∧ t < nI (aN A 3) then stN A 2 t.toNatClampNeg else A
theorem ok_force {t : Int32} (ok : OKA A) : OKA (forceA A t) := by
  unfold forceA
  split
  · rename_i h
    have := ok.1
    obtain ⟨q, hq, rfl⟩ := nI_ex h.1 h.2 (by omega)
    rw [nI_clamp (by omega)]
    exact ⟨⟨ok.1.1, ok.1.2.1, hq, ok.1.2.2.2⟩, ok.2⟩
  · exact ok
theorem c_force {t : Int32} (ok : OKA A) : CC G l 80 5 [vI t] A (vI (forceR A t)) (forceA A t) := by
  intro I J rd rr hC
  obtain ⟨h1, h2, h3, h4⟩ := hC.1
  have h6 := ok.1.2.2.2.1
  refine Ev_go iC_force rfl rfl rfl ⟨Nat.le_refl _, Nat.le_refl _⟩ (fun K hK => hK.1 [] 120 _ _ _ _ _ ?_)
  unfold forceR forceA
  refine k_isWithin (by decide) ?_
  rw [getI_mk, hC.2.1.1, iN_congr (p := 0 ≤ t ∧ t ≤ nI (aN A 3) - 1) (q := 0 ≤ t ∧ t < nI (aN A 3)) (by rw [nI_le' (by omega)])]
  refine And.intro (fun h7 => ?_) (fun h7 => ?_)
  · have hc := iN_y h7
    rw [if_pos hc, if_pos hc]
    obtain ⟨q, hq, rfl⟩ := nI_ex hc.1 hc.2 (by omega)
    show vp_in _ _ ∧ _
    refine ⟨nI_in (N := 6) (by omega) (by decide), rfl, (I, J, rd, va_up rr 0 q), ?_, ?_, ?_, fun k hk => ⟨rfl, rfl⟩⟩
    · rw [getI_mk, h3, hC.2.2.2.2.2 _ (by have := ok.1; omega)]
    · rw [nI_clamp (by omega), setR_rr]
    · rw [nI_clamp (by omega)]
      refine ⟨⟨h1, h2, by simp [va_up, stN, aN], h4⟩, hC.2.1, ⟨hC.2.2.1.1, fun hk => ?_⟩, hC.2.2.2⟩
      have := hC.2.2.1.2 hk
      exact ⟨this.1, this.2.1, by simp only [va_up]; rw [if_neg (by decide)]; exact this.2.2.1, this.2.2.2⟩
  · have hc := iN_n h7
    rw [if_neg hc, if_neg hc]
    exact ⟨rfl, (I, J, rd, rr), rfl, rfl, hC, fun k hk => ⟨rfl, rfl⟩⟩
theorem m_force {t : Int32} (ok : OKA A) : MC G l 172 100 [vI t] A (vI (forceR A t)) (forceA A t) := by
  intro I J rd rr Q S T hC
  obtain ⟨h1, h2, h3, h4⟩ := hC.1
  have h6 := ok.1.2.2.2.1
  refine Ev_go iM_force rfl rfl rfl ⟨Nat.le_refl _, Nat.le_refl _⟩ (fun K hK => hK.1 [] 120 _ _ _ _ _ ?_)
  unfold forceR forceA
  refine c_in (b' := 0) (c' := nI (aN A 3) - 1) rfl (by rw [mf_I (by decide), hC.2.1.1]) (by decide) ?_
  rw [iN_congr (p := 0 ≤ t ∧ t ≤ nI (aN A 3) - 1) (q := 0 ≤ t ∧ t < nI (aN A 3)) (by rw [nI_le' (by omega)])]
  refine And.intro (fun h7 => ?_) (fun h7 => ?_)
  · have hc := iN_y h7
    rw [if_pos hc, if_pos hc]
    obtain ⟨q, hq, rfl⟩ := nI_ex hc.1 hc.2 (by omega)
    refine ⟨rfl, (upI I 20 0 0 4 (nI q), Q, S, T), ?_, ?_, ?_, frM.up (by decide)⟩
    · rw [mf_I (by decide), h3]
    · exact mf_wI (by decide)
    · rw [nI_clamp (by omega)]
      unfold MF
      simp only [up20 (k := 31) (by decide), up20 (k := 23) (by decide), up20 (k := 32) (by decide), up20 (k := 33) (by decide), up20 (k := 34) (by decide), up20 (k := 35) (by decide), up20t (t' := 7) (t := 4) (by decide), up20t (t' := 10) (t := 4) (by decide), up20t (t' := 3) (t := 4) (by decide), up20t (t' := 36) (t := 4) (by decide), up20t (t' := 37) (t := 4) (by decide), up20t (t' := 38) (t := 4) (by decide), up20t (t' := 6) (t := 4) (by decide)]
      exact ⟨⟨h1, h2, upI_s, h4⟩, ⟨hC.2.1.1, hC.2.1.2.1.same (by rw [up20 (by decide)]) (by rw [up20 (by decide)]), hC.2.1.2.2⟩, hC.2.2⟩
  · have hc := iN_n h7
    rw [if_neg hc, if_neg hc]
    exact ⟨rfl, (I, Q, S, T), rfl, rfl, hC, frM.r⟩
def feedR (A : ST) (b : Int32) : Int32 := if 0 ≤ b ∧ b ≤ 255 then (if aN A 4 < 160 then nI (aN A 4 + 1) else -4) else -2
def fedA (A : ST) (b : Int32) : ST := (fun k => if k = 4 then aN A 4 + 1 else aN A k, (aP A, (aK A, ((fun t => if t = aN A 4 then b else aT A t), (aS A, aB A)))))
def feedA (A : ST) (b : Int32) : ST := if 0 ≤ b ∧ b ≤ 255 then (if aN A 4 < 160 then fedA A b else A) else A
theorem ok_feed {b : Int32} (ok : OKA A) : OKA (feedA A b) := by
  unfold feedA
  split
  · rename_i h
    split
    · rename_i h2
      refine ⟨ok.1, ok.2.1, ⟨by show aN A 4 + 1 ≤ 160; omega, fun t ht => ?_⟩, ok.2.2.2⟩
      have ht : t < aN A 4 + 1 := ht
      show ∃ q, q < 256 ∧ (if t = aN A 4 then b else aT A t) = nI q
      by_cases e : t = aN A 4
      · obtain ⟨q, hq, he⟩ := rg_of (n := 255) h.1 h.2 (by decide)
        exact ⟨q, by omega, by rw [if_pos e]; exact he⟩
      · rw [if_neg e]
        exact ok.2.2.1.2 t (by omega)
    · exact ok
  · exact ok
theorem c_feed {b : Int32} (ok : OKA A) : CC G l 78 5 [vI b] A (vI (feedR A b)) (feedA A b) := by
  intro I J rd rr hC
  have h4 := hC.2.2.2.1.1
  have h160 := ok.2.2.1.1
  refine Ev_go iC_feed rfl rfl rfl ⟨Nat.le_refl _, Nat.le_refl _⟩ (fun K hK => hK.1 [] 120 _ _ _ _ _ ?_)
  unfold feedR feedA
  refine k_isWithin (by decide) ?_
  refine And.intro (fun h6 => ?_) (fun h6 => ?_)
  · have hc := iN_y h6
    rw [if_pos hc, if_pos hc]
    have E : Ev G l 0 (mt 13) 80 80 [vR 2 0 0, vI b] (mkH I J rd rr) (fun r h' => r = some (vI (iN (aN A 4 < 160))) ∧ h' = mkH (if aN A 4 < 160 then upI (upI I 3 0 0 (aN A 4) b) 2 0 0 1 (nI (aN A 4 + 1)) else I) J rd rr) := by
      refine Ev_go iT_takes rfl rfl rfl ⟨Nat.le_refl _, Nat.le_refl _⟩ (fun K hK => hK.1 [] 120 _ _ _ _ _ ?_)
      refine And.intro (fun h7 => ?_) (fun h7 => ?_)
      · rw [getI_mk, h4] at h7
        have hl : aN A 4 < 160 := (nI_lt_iff (b := 160) (by omega) (by decide)).mp h7
        rw [if_pos hl]
        show vp_in _ _ ∧ _
        rw [getI_mk, h4, nI_clamp (by omega)]
        refine ⟨nI_in (N := 160) (by omega) (by decide), Or.inr rfl, rfl, by simp [iN, hl], ?_⟩
        rw [setI_mk, setI_mk, getI_mk, upI_at, if_neg (by simp), h4, nI_succ]
      · rw [getI_mk, h4] at h7
        have hl : ¬ aN A 4 < 160 := fun q => h7 ((nI_lt_iff (b := 160) (by omega) (by decide)).mpr q)
        rw [if_neg hl]
        exact ⟨Or.inl rfl, rfl, by simp [iN, hl], rfl⟩
    refine CPd_eq E (by decide) rfl ?_
    refine And.intro (fun h7 => ?_) (fun h7 => ?_)
    · have hl := iN_n h7
      rw [if_neg hl, if_neg hl, if_neg hl]
      exact ⟨rfl, (I, J, rd, rr), rfl, rfl, hC, fun k hk => ⟨rfl, rfl⟩⟩
    · have hl := iN_y h7
      rw [if_pos hl, if_pos hl, if_pos hl]
      refine ⟨rfl, (_, J, rd, rr), ?_, rfl, ?_, ?_⟩
      · rw [getI_mk, upI_s]
      · have e : ∀ k, k ≠ 2 → k ≠ 3 → upI (upI I 3 0 0 (aN A 4) b) 2 0 0 1 (nI (aN A 4 + 1)) k = I k := by
          intro k h2 h3
          funext i j t
          simp [upI, h2, h3]
        show CF (upI (upI I 3 0 0 (aN A 4) b) 2 0 0 1 (nI (aN A 4 + 1))) rr (fedA A b)
        unfold CF RuK
        rw [e 17 (by decide) (by decide), e 19 (by decide) (by decide), e 0 (by decide) (by decide), e 13 (by decide) (by decide), e 12 (by decide) (by decide), e 15 (by decide) (by decide), e 16 (by decide) (by decide), e 11 (by decide) (by decide)]
        refine ⟨hC.1, hC.2.1, hC.2.2.1, ⟨upI_s, fun t ht => ?_⟩, hC.2.2.2.2⟩
        have ht : t < aN A 4 + 1 := ht
        show _ = (if t = aN A 4 then b else aT A t)
        rw [upI_at, if_neg (by simp), upI_at]
        by_cases e : t = aN A 4
        · rw [if_pos ⟨rfl, rfl, rfl, e⟩, if_pos e]
        · rw [if_neg (fun q => e q.2.2.2), if_neg e]
          exact hC.2.2.2.1.2 t (by omega)
      · intro k hk
        refine ⟨?_, rfl⟩
        funext i j t
        show upI (upI I 3 0 0 (aN A 4) b) 2 0 0 1 (nI (aN A 4 + 1)) k i j t = I k i j t
        simp only [upI]
        rw [if_neg (by omega), if_neg (by omega)]
  · have hc := iN_n h6
    rw [if_neg hc, if_neg hc]
    exact ⟨rfl, (I, J, rd, rr), rfl, rfl, hC, fun k hk => ⟨rfl, rfl⟩⟩
theorem m_feed {b : Int32} (ok : OKA A) : MC G l 170 100 [vI b] A (vI (feedR A b)) (feedA A b) := by
  intro I J rd rr Q S T hC
  have h4 := hC.2.2.2.1.1
  have h160 := ok.2.2.1.1
  refine Ev_go iM_feed rfl rfl rfl ⟨Nat.le_refl _, Nat.le_refl _⟩ (fun K hK => hK.1 [] 120 _ _ _ _ _ ?_)
  unfold feedR feedA
  refine c_in (b' := 0) (c' := 255) rfl rfl (by decide) ?_
  refine And.intro (fun h6 => ?_) (fun h6 => ?_)
  · have hc := iN_y h6
    rw [if_pos hc, if_pos hc]
    refine And.intro (fun h7 => ?_) (fun h7 => ?_)
    · rw [mf_I (by decide), h4] at h7
      have hl : aN A 4 < 160 := by
        have : aN A 4 ≠ 160 := fun e => h7 (by rw [e]; rfl)
        omega
      rw [if_pos hl, if_pos hl]
      show vp_in _ _ ∧ _
      rw [mf_I (by decide), h4, nI_clamp (by omega)]
      refine ⟨nI_in (N := 160) (by omega) (by decide), rfl, (upI (upI I 23 0 0 (aN A 4) b) 20 0 0 6 (nI (aN A 4 + 1)), Q, S, T), ?_, ?_, ?_, ?_⟩
      · rw [mf_wI (k := 23) (by simp), mf_wI (by decide), mf_I (by decide), mf_I (by decide), upI_s, upI_at, if_neg (by simp), h4, nI_succ]
      · rw [mf_wI (k := 23) (by simp), mf_wI (by decide), mf_I (by decide), upI_at, if_neg (by simp), h4, nI_succ]
      · have e : ∀ k, k ≠ 20 → k ≠ 23 → upI (upI I 23 0 0 (aN A 4) b) 20 0 0 6 (nI (aN A 4 + 1)) k = I k := by
          intro k h2 h3
          funext i j t
          simp [upI, h2, h3]
        have e2 : ∀ t, t ≠ 6 → upI (upI I 23 0 0 (aN A 4) b) 20 0 0 6 (nI (aN A 4 + 1)) 20 0 0 t = I 20 0 0 t := by
          intro t ht
          simp [upI, ht]
        show MF G l (upI (upI I 23 0 0 (aN A 4) b) 20 0 0 6 (nI (aN A 4 + 1))) Q S T (fedA A b)
        unfold MF
        rw [e 31 (by decide) (by decide), e 32 (by decide) (by decide), e 33 (by decide) (by decide), e 34 (by decide) (by decide), e 35 (by decide) (by decide), e2 10 (by decide), e2 7 (by decide), e2 4 (by decide), e2 3 (by decide), e2 36 (by decide), e2 37 (by decide), e2 38 (by decide)]
        refine ⟨hC.1, ⟨hC.2.1.1, hC.2.1.2.1.same (by rw [e 21 (by decide) (by decide)]) (by rw [e 22 (by decide) (by decide)]), hC.2.1.2.2⟩, hC.2.2.1, ⟨upI_s, fun t ht => ?_⟩, hC.2.2.2.2⟩
        have ht : t < aN A 4 + 1 := ht
        show _ = (if t = aN A 4 then b else aT A t)
        rw [upI_at, if_neg (by simp), upI_at]
        by_cases e : t = aN A 4
        · rw [if_pos ⟨rfl, rfl, rfl, e⟩, if_pos e]
        · rw [if_neg (fun q => e q.2.2.2), if_neg e]
          exact hC.2.2.2.1.2 t (by omega)
      · intro k hk
        funext i j t
        show upI (upI I 23 0 0 (aN A 4) b) 20 0 0 6 (nI (aN A 4 + 1)) k i j t = I k i j t
        simp only [upI]
        rw [if_neg (by omega), if_neg (by omega)]
    · rw [mf_I (by decide), h4] at h7
      have hl : ¬ aN A 4 < 160 := by
        intro q
        have := congrArg Int32.toInt h7
        rw [nI_toInt (by omega)] at this
        have h5' : (160 : Int32).toInt = 160 := by decide
        omega
      rw [if_neg hl, if_neg hl]
      exact ⟨rfl, (I, Q, S, T), rfl, rfl, hC, frM.r⟩
  · have hc := iN_n h6
    rw [if_neg hc, if_neg hc]
    exact ⟨rfl, (I, Q, S, T), rfl, rfl, hC, frM.r⟩
end T7
