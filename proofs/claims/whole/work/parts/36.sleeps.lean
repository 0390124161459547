/-! sleeps -/
section T12
variable {G : GT} {l : Launch} {I : HI} {J : HJ} {rd : Option AO} {rr : Nat → Nat} {A : ST}
/-- the first of j places from k on where f is 1 -/
def fstF (f : Nat → Int32) : Nat → Nat → Int32
  | 0, _ => -1
  | j + 1, k => if f k = 1 then nI k else fstF f j (k + 1)
def sleepsR (A : ST) (one : Int32) : Int32 := if 0 ≤ one ∧ one < nI (aN A 0) then fstF (fun k => runP A k one.toNatClampNeg 6) 61 0 else -2
theorem c_sleeps {one : Int32} (ok : OKA A) : CC G l 92 6 [vI one] A (vI (sleepsR A one)) A := by
  intro I J rd rr hC
  obtain ⟨h1, h2, h3, h4⟩ := hC.1
  have h5 := ok.1.1
  unfold sleepsR
  refine Ev_go iC_sleeps rfl rfl rfl ⟨Nat.le_refl _, Nat.le_refl _⟩ (fun K hK => ?_)
  refine hK.1 [(27, [true, true, true])] 100 _ _ _ _ _ ?_
  refine k_isThere h1 (by decide) ?_
  refine And.intro (fun h6 => ?_) (fun h6 => ?_)
  · have hc := iN_y h6
    rw [if_pos hc] at hK
    obtain ⟨p, hp, rfl⟩ := nI_ex hc.1 hc.2 (by omega)
    rw [nI_clamp (n := p) (by omega)] at hK
    have loop : ∀ j k P O, k + j = 61 → Ag (aN A 0) P (runP A k) → fstF (fun k => runP A k p 6) j k = fstF (fun k => runP A k p 6) 61 0 → K 80 27 [some (vR 0 0 0), some (vI (nI p)), some (vI (nI k))] [] (TF I J rd rr A (dy A + nI k) P O) := by
      intro j
      induction j with
      | zero =>
        intro k P O hk hA hR
        refine hK.1 [] 100 _ _ _ _ _ ?_
        rw [show k = 61 by omega]
        refine And.intro (fun _ => ?_) (fun h => absurd (by decide) h)
        refine ⟨rfl, TF_at hC ?_⟩
        rw [← hR]
        rfl
      | succ j ih =>
        intro k P O hk hA hR
        refine hK.1 [(27, [true, true, true])] 100 _ _ _ _ _ ?_
        refine And.intro (fun h => absurd h (by
          intro q
          have := Int32.lt_iff_toInt_lt.mp q
          rw [nI_toInt (by omega)] at this
          have h5' : (60 : Int32).toInt = 60 := by decide
          omega)) (fun _ => ?_)
        refine ⟨nI_in (N := 5) (by omega) (by decide), ?_⟩
        rw [nI_clamp (n := p) (by omega)]
        intro hz
        rw [TF_P] at hz
        have e6 : P p 6 = runP A k p 6 := hA p hp 6 (by omega)
        rw [fstF] at hR
        refine And.intro (fun h7 => ?_) (fun h7 => ?_)
        · rw [TF_P] at h7
          refine t_passDay hC ok (WF.Ag hA.symm (dayN_WF ok.1.2.2.2.2 k)) (by decide) (fun O' => ?_)
          show K 80 27 _ _ _
          rw [if_neg (by rw [← e6, h7]; decide)] at hR
          refine Kc (ih (k + 1) _ O' (by omega) (day_Ag hA h5) hR) (by rw [nI_succ]; rfl) ?_
          rw [nI_succ, Int32.add_assoc]
        · rw [TF_P] at h7
          refine ⟨rfl, TF_at hC ?_⟩
          rw [← hR, if_pos (by rw [← e6]; exact hz.resolve_left h7)]
    refine k_think hC ok (by decide) (fun P hP => ?_)
    show K 80 27 _ _ _
    refine Kc (loop 61 0 P (I 14) rfl hP rfl) rfl ?_
    rw [show dy A + nI 0 = dy A from Int32.add_zero _]
  · have hc := iN_n h6
    rw [if_neg hc]
    exact ⟨rfl, (I, J, rd, rr), rfl, rfl, hC, fun k hk => ⟨rfl, rfl⟩⟩
theorem m_sleeps {one : Int32} (ok : OKA A) : MC G l 184 100 [vI one] A (vI (sleepsR A one)) A := by
  intro I J rd rr Q S T hC
  obtain ⟨h1, h2, h3, h4⟩ := hC.1
  have h5 := ok.1.1
  have hd9 := ok.1.2.1
  unfold sleepsR
  refine Ev_go iM_sleeps rfl rfl rfl ⟨Nat.le_refl _, Nat.le_refl _⟩ (fun K hK => ?_)
  refine hK.1 [(19, [true, true, true, true])] 100 _ _ _ _ _ ?_
  refine c_isOne h1 h5 (by decide) ?_
  refine And.intro (fun h6 => ?_) (fun h6 => ?_)
  · have hc := iN_y h6
    rw [if_pos hc] at hK
    obtain ⟨p, hp, rfl⟩ := nI_ex hc.1 hc.2 (by omega)
    rw [nI_clamp (n := p) (by omega)] at hK
    have hWQ : WF Q (aN A 0) := hC.W ok
    have h0 : ∀ k p, dayN (bO A) (dy A) (aN A 0) Q k p 0 = Q p 0 := fun k p => dayN_a k
    have hgt : ∀ k, k ≤ 60 → ¬ (60 : Int32) < nI k := by
      intro k hk q
      have := Int32.lt_iff_toInt_lt.mp q
      rw [nI_toInt (by omega)] at this
      have h5' : (60 : Int32).toInt = 60 := by decide
      omega
    -- the end: found, or beyond
    have fin : ∀ (R : Int32) (k : Nat) (Q' : PP) (S' : HI) (T' : HJ) (x : Int32), (R = -1 → 60 < nI k) → R = fstF (fun k => runP A k p 6) 61 0 → MOK (aN A 3) (aB A) S' T' → (∀ p, Q' p 0 = Q p 0) → K 80 19 [some (vR 20 0 0), some (vI (nI p)), some (vI R), some (vI (nI k))] [] (mf (rI I Q x) J rd rr Q' S' T') := by
      intro R k Q' S' T' x hk hR hM h0
      refine hK.1 [] 100 _ _ _ _ _ ?_
      refine And.intro (fun _ => ?_) (fun hk' => ?_)
      · refine r_back hC ok hM h0 (by decide) (fun Q2 hF _ => ?_)
        exact ⟨rfl, (_, Q2, S', T'), by rw [hR], rfl, hF, frM.rI⟩
      · refine And.intro (fun _ => ?_) (fun hR1 => absurd (hk hR1) hk')
        refine r_back hC ok hM h0 (by decide) (fun Q2 hF _ => ?_)
        exact ⟨rfl, (_, Q2, S', T'), by rw [hR], rfl, hF, frM.rI⟩
    have loop : ∀ j k S' T', k + j = 61 → MOK (aN A 3) (aB A) S' T' → fstF (fun k => runP A k p 6) j k = fstF (fun k => runP A k p 6) 61 0 → K 80 19 [some (vR 20 0 0), some (vI (nI p)), some (vI (-1)), some (vI (nI k))] [] (mf (rI I Q (nI (aN A 1 + k))) J rd rr (dayN (bO A) (dy A) (aN A 0) Q k) S' T') := by
      intro j
      induction j with
      | zero =>
        intro k S' T' hk hM hR
        refine fin (-1) k _ S' T' _ (fun _ => ?_) hR hM (h0 k)
        rw [show k = 61 by omega]
        decide
      | succ j ih =>
        intro k S' T' hk hM hR
        refine hK.1 [(19, [true, true, true, true])] 100 _ _ _ _ _ ?_
        refine And.intro (fun h => absurd h (hgt k (by omega))) (fun _ => And.intro (fun h => absurd rfl h) (fun _ => ?_))
        have hA : Ag (aN A 0) (dayN (bO A) (dy A) (aN A 0) Q k) (runP A k) := dayN_Ag h4 h5 k
        have e6 : dayN (bO A) (dy A) (aN A 0) Q k p 6 = runP A k p 6 := hA p hp 6 (by omega)
        rw [fstF] at hR
        refine c_its rfl (w := 6) rfl (by omega) (by decide) (by decide) ?_
        refine And.intro (fun h7 => ?_) (fun h7 => ?_)
        · refine r_passes hC ok (by omega) hM (dayN_WF hWQ k) (by decide) (fun q hq => ?_)
          show K 80 19 _ _ _
          rw [if_neg (by rw [← e6]; exact h7)] at hR
          refine Kc (ih (k + 1) q.1 q.2 (by omega) hq hR) (by rw [nI_succ]; rfl) ?_
          rw [dayN, show aN A 1 + (k + 1) = aN A 1 + k + 1 by omega]
          unfold dy
          rw [nI_plus]
        · refine r_passes hC ok (by omega) hM (dayN_WF hWQ k) (by decide) (fun q hq => ?_)
          show K 80 19 _ _ _
          rw [if_pos (by rw [← e6]; exact h7)] at hR
          refine Kc (fin (nI k) (k + 1) _ q.1 q.2 (nI (aN A 1 + k + 1)) (fun e => ?_) hR hq (fun p => day_0.trans (h0 k p))) (by rw [nI_succ]; rfl) rfl
          have := congrArg Int32.toInt e
          rw [nI_toInt (by omega)] at this
          have h5' : (-1 : Int32).toInt = -1 := by decide
          omega
    refine r_keeps hC (by decide) ?_
    show K 80 19 _ _ _
    exact loop 61 0 S T rfl hC.2.1.2.2 rfl
  · have hc := iN_n h6
    rw [if_neg hc]
    exact ⟨rfl, (I, Q, S, T), rfl, rfl, hC, frM.r⟩
end T12
