section T18
variable {G : GT} {l : Launch} {I : HI} {J : HJ} {rd : Option AO} {rr : Nat → Nat} {A : ST}
theorem MF.cel {Q : PP} {S : HI} {T : HJ} {s i z : Nat} {v : Int32} (h : MF G l I Q S T A) (hs : s < 4) (h0 : aS A s 0 ≠ -1) (hz : aS A s 1 = nI z) (hz40 : z ≤ 40) (hi : i < z) : MF G l (upI I 35 0 0 (40 * s + i) (putV (aS A s 0) v)) Q S T (stS A s (celF A s i v)) := by
  obtain ⟨g1, g2, g3, g4⟩ := (h.2.2.2.2 s hs).2 h0
  have e0 : celF A s i v 0 = aS A s 0 := by unfold celF; rw [if_neg (by omega)]
  have e1 : celF A s i v 1 = aS A s 1 := by unfold celF; rw [if_neg (by omega)]
  have ek : ∀ k, k ≠ 35 → upI I 35 0 0 (40 * s + i) (putV (aS A s 0) v) k = I k := fun k hk => by funext i' j t; simp [upI, hk]
  refine h.S (fun k h1 h2 => ek k (by omega)) (fun s' hs' hne => ⟨by rw [ek _ (by decide)], by rw [ek _ (by decide)], by rw [ek _ (by decide)], fun t ht => ?_⟩) ⟨fun e => absurd (e0.symm.trans e) h0, fun _ => ⟨?_, ?_, ?_, fun t q hq he ht => ?_⟩⟩
  · rw [upI_at, if_neg (by omega)]
  · rw [ek _ (by decide)]; exact g1
  · rw [ek _ (by decide), e0]; exact g2
  · rw [ek _ (by decide), e1]; exact g3
  · rw [e1] at he
    unfold upI celF
    by_cases e : t = i
    · rw [if_pos ⟨rfl, rfl, rfl, by omega⟩, if_pos (by omega)]
    · rw [if_neg (by omega), if_neg (by omega)]
      exact g4 t q hq he ht
theorem m_cell {s i v : Int32} (ok : OKA A) : MC G l 206 100 [vI s, vI i, vI v] A (vI (cellR A s i)) (cellA A s i v) := by
  intro I J rd rr Q S T hC
  unfold cellR cellA
  refine Ev_go iM_cell rfl rfl rfl ⟨Nat.le_refl _, Nat.le_refl _⟩ (fun K hK => hK.1 [] 120 _ _ _ _ _ ?_)
  refine k_misSheet (by decide) ?_
  refine And.intro (fun h6 => ?_) (fun h6 => ?_)
  · have hc := iN_y h6
    obtain ⟨q, hq, rfl⟩ := rg_of (n := 3) hc.1 hc.2 (by decide)
    rw [if_pos hc, if_pos hc, nI_clamp (n := q) (by omega)]
    have hh := hC.2.2.2.2 q (by omega)
    refine ⟨nI_in (N := 4) (by omega) (by decide), fun hz01 => ?_⟩
    rw [nI_clamp (n := q) (by omega)]
    refine And.intro (fun h7 => ?_) (fun h7 => ?_)
    · rw [mf_I (by simp)] at h7
      have h7' : ¬ aS A q 0 = -1 := fun e => h7 (hh.1 e)
      rw [if_neg h7', if_neg h7']
      obtain ⟨g1, g2, g3, g4⟩ := hh.2 h7'
      obtain ⟨z, hz, hze⟩ : ∃ z, z ≤ 40 ∧ aS A q 1 = nI z := by
        rcases ok.2.2.2 q (by omega) with e | e
        · exact absurd e.1 h7'
        · exact e.2
      show vp_in _ _ ∧ _
      refine ⟨nI_in (N := 4) (by omega) (by decide), ?_⟩
      rw [nI_clamp (n := q) (by omega)]
      refine c_in (b' := 0) (c' := nI z - 1) rfl (by rw [mf_I (by simp), g3, hze]) (by decide) ?_
      rw [iN_congr (p := 0 ≤ i ∧ i ≤ nI z - 1) (q := 0 ≤ i ∧ i < nI z) (by rw [nI_le' (by omega)]), hze]
      refine And.intro (fun h8 => ?_) (fun h8 => ?_)
      · have h8 := iN_y h8
        rw [if_pos h8, if_pos h8]
        obtain ⟨t, ht, rfl⟩ := nI_ex h8.1 h8.2 (by omega)
        rw [nI_clamp (n := t) (by omega)]
        show vp_in _ _ ∧ _
        refine ⟨nI_in (N := 4) (by omega) (by decide), ?_⟩
        rw [nI_clamp (n := q) (by omega)]
        have gs : getI (mf I J rd rr Q S T) 33 0 0 q = aS A q 0 := by rw [mf_I (by simp), g2]
        have fin : ∀ x, x = putV (aS A q 0) v → ∃ y : XM, some (vI 1) = some (vI 1) ∧ setI (mf I J rd rr Q S T) 35 0 0 (40 * q + t) x = mf y.1 J rd rr y.2.1 y.2.2.1 y.2.2.2 ∧ MF G l y.1 y.2.1 y.2.2.1 y.2.2.2 (stS A q (celF A q t v)) ∧ frM I y.1 := by
          rintro x rfl
          exact ⟨(upI I 35 0 0 (40 * q + t) (putV (aS A q 0) v), Q, S, T), rfl, mf_wI (by simp), hC.cel (by omega) h7' hze hz ht, frM.up (by decide)⟩
        refine And.intro (fun h9 => ?_) (fun h9 => ?_)
        · rw [gs] at h9
          show vp_in _ _ ∧ _
          refine ⟨nI_in (N := 4) (by omega) (by decide), ?_⟩
          rw [nI_clamp (n := q) (by omega)]
          refine And.intro (fun h10 => ?_) (fun h10 => ?_)
          · rw [gs] at h10
            show vp_in _ _ ∧ _
            rw [nI_40]
            refine ⟨nI_in (N := 160) (by omega) (by decide), rfl, ?_⟩
            rw [nI_clamp (n := 40 * q + t) (by omega)]
            exact fin _ (by unfold putV; rw [if_neg h9, if_neg h10])
          · rw [gs] at h10
            show vp_in _ _ ∧ _
            rw [nI_40]
            refine ⟨nI_in (N := 160) (by omega) (by decide), rfl, ?_⟩
            rw [nI_clamp (n := 40 * q + t) (by omega)]
            exact fin _ (by unfold putV; rw [if_neg h9, if_pos h10])
        · rw [gs] at h9
          show vp_in _ _ ∧ _
          rw [nI_40]
          refine ⟨nI_in (N := 160) (by omega) (by decide), rfl, ?_⟩
          rw [nI_clamp (n := 40 * q + t) (by omega)]
          exact fin _ (by unfold putV; rw [if_pos h9])
      · have h8 := iN_n h8
        rw [if_neg h8, if_neg h8]
        exact ⟨rfl, (I, Q, S, T), rfl, rfl, hC, frM.r⟩
    · rw [mf_I (by simp)] at h7
      have h7' : aS A q 0 = -1 := by
        refine Classical.byContradiction fun e => ?_
        have := (hh.2 e).1
        rw [h7] at this
        exact absurd this (by decide)
      rw [if_pos h7', if_pos h7']
      exact ⟨rfl, (I, Q, S, T), rfl, rfl, hC, frM.r⟩
  · have hc := iN_n h6
    rw [if_neg hc, if_neg hc]
    exact ⟨rfl, (I, Q, S, T), rfl, rfl, hC, frM.r⟩
end T18
