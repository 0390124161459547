section T16
variable {G : GT} {l : Launch} {I : HI} {J : HJ} {rd : Option AO} {rr : Nat → Nat} {A : ST}
theorem MF.S {I' : HI} {Q : PP} {S : HI} {T : HJ} {s : Nat} {f : Nat → Int32} (h : MF G l I Q S T A) (hk : ∀ k, 20 ≤ k → k < 32 → I' k = I k) (hs : ∀ s', s' < 4 → s' ≠ s → I' 32 0 0 s' = I 32 0 0 s' ∧ I' 33 0 0 s' = I 33 0 0 s' ∧ I' 34 0 0 s' = I 34 0 0 s' ∧ ∀ i, i < 40 → I' 35 0 0 (40 * s' + i) = I 35 0 0 (40 * s' + i))
    (h1 : (f 0 = -1 → I' 32 0 0 s = 0) ∧ (f 0 ≠ -1 → I' 32 0 0 s = 1 ∧ I' 33 0 0 s = f 0 ∧ I' 34 0 0 s = f 1 ∧ ∀ i q, q ≤ 40 → f 1 = nI q → i < q → I' 35 0 0 (40 * s + i) = f (2 + i))) : MF G l I' Q S T (stS A s f) := by
  unfold MF at *
  rw [hk 20 (by decide) (by decide), hk 31 (by decide) (by decide), hk 23 (by decide) (by decide)]
  refine ⟨h.1, ⟨h.2.1.1, h.2.1.2.1.same (by rw [hk 21 (by decide) (by decide)]) (by rw [hk 22 (by decide) (by decide)]), h.2.1.2.2⟩, h.2.2.1, h.2.2.2.1, fun s' hs' => ?_⟩
  by_cases e : s' = s
  · subst e
    rw [stS_s]
    exact h1
  · obtain ⟨e1, e2, e3, e4⟩ := hs s' hs' e
    rw [stS_n e, e1, e2, e3]
    have hh := h.2.2.2.2 s' hs'
    refine ⟨hh.1, fun hn => ?_⟩
    obtain ⟨g1, g2, g3, g4⟩ := hh.2 hn
    exact ⟨g1, g2, g3, fun i q hq he hi => by rw [e4 i (by omega)]; exact g4 i q hq he hi⟩
theorem k_misSheet {d : Nat} {a : Int32} {h : AH} {post : Option AV → AH → Prop} (hd : 1 < d) (k : post (some (vI (iN (0 ≤ a ∧ a ≤ 3)))) h) : CPd G l d 80 1 197 [vI a] h post := by
  have E : Ev G l 1 (mt 197) 80 80 [vI a] h (fun r h' => r = some (vI (iN (0 ≤ a ∧ a ≤ 3))) ∧ h' = h) := by
    refine Ev_go iM_isSheet rfl rfl rfl ⟨Nat.le_refl _, Nat.le_refl _⟩ (fun K hK => hK.1 [] 120 _ _ _ _ _ ?_)
    refine c_in (b' := 0) (c' := 3) rfl rfl (by decide) ⟨?_, rfl, rfl, rfl⟩
    unfold iN; split <;> simp
  exact CPd_eq E hd rfl k
theorem nI_40 {s k : Nat} : (40 : Int32) * nI s + nI k = nI (40 * s + k) := by
  unfold nI
  rw [Int32.ofNat_add, Int32.ofNat_mul]
  rfl
def filQ (I : HI) (s n : Nat) : HI := fun k i j t => if k = 35 ∧ i = 0 ∧ j = 0 ∧ 40 * s ≤ t ∧ t < 40 * s + n then 0 else I k i j t
theorem filQ_s {s k : Nat} : upI (filQ I s k) 35 0 0 (40 * s + k) 0 = filQ I s (k + 1) := by
  funext k' i j t
  simp only [upI, filQ]
  by_cases h : k' = 35 ∧ i = 0 ∧ j = 0
  · obtain ⟨rfl, rfl, rfl⟩ := h
    simp only [true_and]
    by_cases ht : t = 40 * s + k
    · rw [if_pos ht, if_pos (by omega)]
    · rw [if_neg ht]
      by_cases h2 : 40 * s ≤ t ∧ t < 40 * s + k
      · rw [if_pos h2, if_pos (by omega)]
      · rw [if_neg h2, if_neg (by omega)]
  · rw [if_neg (fun q => h ⟨q.1, q.2.1, q.2.2.1⟩), if_neg (fun q => h ⟨q.1, q.2.1, q.2.2.1⟩), if_neg (fun q => h ⟨q.1, q.2.1, q.2.2.1⟩)]
theorem filQ_k {s n k : Nat} (h : k ≠ 35) : filQ I s n k = I k := by funext i j t; simp [filQ, h]
theorem filQ_0 {s : Nat} : filQ I s 0 = I := by
  funext k i j t
  simp only [filQ]
  rw [if_neg (by omega)]
def shI (I : HI) (s : Nat) (b so n : Int32) : HI := upI (upI (upI I 32 0 0 s b) 33 0 0 s so) 34 0 0 s n
theorem shI_k {s k : Nat} {b so n : Int32} (h : k < 32 ∨ 34 < k) : shI I s b so n k = I k := by
  unfold shI
  funext i j t
  simp only [upI]
  rw [if_neg (by omega), if_neg (by omega), if_neg (by omega)]
theorem shI_n {s s' k : Nat} {b so n : Int32} (h : s' ≠ s) : shI I s b so n k 0 0 s' = I k 0 0 s' := by
  unfold shI
  simp only [upI]
  rw [if_neg (by omega), if_neg (by omega), if_neg (by omega)]
theorem m_sheet {s so n : Int32} : MC G l 200 100 [vI s, vI so, vI n] A (vI (sheetR s so n)) (sheetA A s so n) := by
  intro I J rd rr Q S T hC
  unfold sheetR sheetA
  refine Ev_go iM_sheet rfl rfl rfl ⟨Nat.le_refl _, Nat.le_refl _⟩ (fun K hK => ?_)
  refine hK.1 [(77, [true, true, true, true, true])] 100 _ _ _ _ _ ?_
  refine k_misSheet (by decide) ?_
  refine And.intro (fun h6 => ?_) (fun h6 => ?_)
  · have hc := iN_n h6
    rw [if_neg hc, if_neg hc]
    exact ⟨rfl, (I, Q, S, T), rfl, rfl, hC, frM.r⟩
  · have hc := iN_y h6
    obtain ⟨q, hq, rfl⟩ := rg_of (n := 3) hc.1 hc.2 (by decide)
    rw [if_pos hc, if_pos hc, nI_clamp (n := q) (by omega)] at hK ⊢
    refine c_in (b' := -1) (c' := 2) rfl rfl (by decide) ?_
    refine And.intro (fun h7 => ?_) (fun h7 => ?_)
    · have hs := iN_n h7
      have h1 : ¬ so = -1 := fun e => hs (by rw [e]; decide)
      have h2 : ¬ (0 ≤ so ∧ so ≤ 2) := by grind
      rw [if_neg h1, if_neg h2, if_neg h1, if_neg h2]
      exact ⟨rfl, (I, Q, S, T), rfl, rfl, hC, frM.r⟩
    · have hs := iN_y h7
      by_cases hn : so < 0
      · have h1 : so = -1 := by
          have a := Int32.le_iff_toInt_le.mp hs.1
          have b := Int32.lt_iff_toInt_lt.mp hn
          have h5' : (-1 : Int32).toInt = -1 := by decide
          rw [Int32.toInt_zero] at b
          exact Int32.toInt_inj.mp (by omega)
        subst h1
        refine And.intro (fun _ => And.intro (fun _ => And.intro (fun _ => ?_) (fun q => absurd hn q)) (fun q => absurd hn q)) (fun q => absurd hn q)
        refine ⟨nI_in (N := 4) (by omega) (by decide), Or.inl rfl, nI_in (N := 4) (by omega) (by decide), nI_in (N := 4) (by omega) (by decide), ?_⟩
        show K 80 77 _ _ _
        rw [nI_clamp (n := q) (by omega), mf_wI (k := 32) (by simp), mf_wI (k := 33) (by simp), mf_wI (k := 34) (by simp)]
        rw [if_pos rfl, if_pos rfl] at hK
        have fin : ∃ x : XM, some (vI 1) = some (vI 1) ∧ mf (shI I q 0 (-1) n) J rd rr Q S T = mf x.1 J rd rr x.2.1 x.2.2.1 x.2.2.2 ∧ MF G l x.1 x.2.1 x.2.2.1 x.2.2.2 (stS A q (rowS (-1) 0)) ∧ frM I x.1 := by
          have hF : MF G l (shI I q 0 (-1) n) Q S T (stS A q (rowS (-1) 0)) :=
            hC.S (fun k h1 h2 => shI_k (Or.inl h2)) (fun s' hs' hne => ⟨shI_n hne, shI_n hne, shI_n hne, fun i hi => by rw [shI_k (Or.inr (by decide))]⟩) ⟨fun _ => by simp [shI, upI], fun h => absurd rfl h⟩
          exact ⟨(shI I q 0 (-1) n, Q, S, T), rfl, rfl, hF, fun k hk => shI_k (Or.inl (by omega))⟩
        refine hK.1 [] 60 _ _ _ _ _ ?_
        refine And.intro (fun _ => ⟨rfl, fin⟩) (fun _ => And.intro (fun _ => ⟨rfl, fin⟩) (fun q => absurd hn q))
      · have h1 : ¬ so = -1 := fun e => hn (by rw [e]; decide)
        have h2 : 0 ≤ so ∧ so ≤ 2 := by grind
        rw [if_neg h1, if_pos h2, if_neg h1, if_pos h2] at hK
        rw [if_neg h1, if_pos h2, if_neg h1, if_pos h2]
        refine And.intro (fun q => absurd q hn) (fun _ => And.intro (fun h3 => ?_) (fun h3 => ?_))
        · have h3' : ¬ 40 < n := by grind
          refine And.intro (fun q => absurd q hn) (fun _ => And.intro (fun h4 => ?_) (fun h4 => ?_))
          · have h4' : ¬ n < 0 := by grind
            rw [if_neg h3', if_neg h4', if_neg h3', if_neg h4'] at hK
            obtain ⟨z, hz, rfl⟩ := rg_of (x := n) (n := 40) h4 h3 (by decide)
            refine And.intro (fun q => absurd q hn) (fun _ => ?_)
            refine ⟨nI_in (N := 4) (by omega) (by decide), Or.inr rfl, nI_in (N := 4) (by omega) (by decide), nI_in (N := 4) (by omega) (by decide), ?_⟩
            show K 80 77 _ _ _
            rw [nI_clamp (n := q) (by omega), mf_wI (k := 32) (by simp), mf_wI (k := 33) (by simp), mf_wI (k := 34) (by simp)]
            have loop : ∀ j k, k + j = z → K 80 77 [some (vR 20 0 0), some (vI (nI q)), some (vI so), some (vI (nI z)), some (vI (nI k))] [] (mf (filQ (shI I q 1 so (nI z)) q k) J rd rr Q S T) := by
              intro j
              induction j with
              | zero =>
                intro k hk
                refine hK.1 [] 60 _ _ _ _ _ ?_
                rw [show k = z by omega]
                refine And.intro (fun _ => ?_) (fun q => absurd (nI_le (Nat.le_refl _) (by omega)) q)
                have hF : MF G l (filQ (shI I q 1 so (nI z)) q z) Q S T (stS A q (rowS so (nI z))) := by
                  refine hC.S (fun k h1 h2 => by rw [filQ_k (by omega), shI_k (Or.inl h2)]) (fun s' hs' hne => ⟨by rw [filQ_k (by decide), shI_n hne], by rw [filQ_k (by decide), shI_n hne], by rw [filQ_k (by decide), shI_n hne], fun i hi => ?_⟩) ⟨fun e => absurd e h1, fun _ => ⟨?_, ?_, ?_, fun i z' hz' he hi => ?_⟩⟩
                  · simp only [filQ]
                    rw [if_neg (by omega), shI_k (Or.inr (by decide))]
                  · rw [filQ_k (by decide)]; simp [shI, upI]
                  · rw [filQ_k (by decide)]; simp [shI, upI, rowS]
                  · rw [filQ_k (by decide)]; simp [shI, upI, rowS]
                  · have he : nI z = nI z' := he
                    have := congrArg Int32.toInt he
                    rw [nI_toInt (by omega), nI_toInt (by omega)] at this
                    have h21 : 2 + i ≠ 1 := by omega
                    have hi2 : 40 * q + i < 40 * q + z := by omega
                    simp [filQ, rowS, h21, hi2]
                exact ⟨rfl, (filQ (shI I q 1 so (nI z)) q z, Q, S, T), rfl, rfl, hF, fun k hk => by show filQ _ _ _ k = I k; rw [filQ_k (by omega), shI_k (Or.inl (by omega))]⟩
              | succ j ih =>
                intro k hk
                refine hK.1 [(77, [true, true, true, true, true])] 60 _ _ _ _ _ ?_
                refine And.intro (fun q => absurd q (nI_ge (by omega) (by omega))) (fun _ => And.intro (fun q => absurd q hn) (fun _ => ?_))
                show vp_in _ _ ∧ _
                rw [nI_40]
                refine ⟨nI_in (N := 160) (by omega) (by decide), ?_⟩
                show K 80 77 _ _ _
                refine Kc (ih (k + 1) (by omega)) (by rw [nI_succ]; rfl) ?_
                rw [nI_clamp (n := 40 * q + k) (by omega), mf_wI (by simp), filQ_s]
            refine Kc (loop z 0 (by omega)) rfl ?_
            rw [filQ_0]
            rfl
          · have h4' : n < 0 := by grind
            rw [if_neg h3', if_pos h4', if_neg h3', if_pos h4']
            exact ⟨rfl, (I, Q, S, T), rfl, rfl, hC, frM.r⟩
        · have h3' : 40 < n := by grind
          rw [if_pos h3', if_pos h3']
          exact ⟨rfl, (I, Q, S, T), rfl, rfl, hC, frM.r⟩
end T16
