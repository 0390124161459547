/-! the reference: another rule, other people; the first that is otherwise -/
section T41
variable {G : GT} {l : Launch} {I : HI} {J : HJ} {rd : Option AO} {rr : Nat → Nat} {A : ST}
def xsA (A : ST) (P : PP) (r : Nat) : ST := (fun k => if k = 2 then r else aN A k, (P, ((fun p a => if a = 0 then P p 0 else aK A p a), A.2.2.2)))
theorem ok_xs {P : PP} {r : Nat} (ok : OKA A) (hW : WF P (aN A 0)) (hr : r < aN A 3) : OKA (xsA A P r) := by
  refine ⟨⟨ok.1.1, ok.1.2.1, hr, ok.1.2.2.2.1, hW⟩, ⟨ok.2.1.1, fun h => ?_⟩, ok.2.2⟩
  obtain ⟨a1, a2, a3, a4, a5⟩ := ok.2.1.2 h
  refine ⟨a1, a2, a3, fun p hp => ?_, fun p hp => rfl⟩
  have hp : p < aN A 6 := hp
  exact ⟨(hW p (by omega)).1, (a4 p hp).2⟩
theorem MF.xS {A1 A2 : ST} {Q Q' : PP} {S : HI} {T : HJ} {r : Nat} (h : MF G l I Q S T A1) (e : ∀ k, k ≠ 2 → aN A2 k = aN A1 k) (eK : ∀ p a, aK A2 p (a + 1) = aK A1 p (a + 1)) (eT : A2.2.2.2 = A1.2.2.2) (hA : Ag (aN A1 0) Q' (aP A2)) (hr : aN A2 2 = r) : MF G l (upI I 20 0 0 4 (nI r)) Q' S T A2 := by
  subst hr
  have eT1 : aT A2 = aT A1 := by unfold aT; rw [eT]
  have eS1 : aS A2 = aS A1 := by unfold aS; rw [eT]
  have eB1 : aB A2 = aB A1 := by unfold aB; rw [eT]
  unfold MF at *
  simp only [up20 (k := 31) (by decide), up20 (k := 23) (by decide), up20 (k := 32) (by decide), up20 (k := 33) (by decide), up20 (k := 34) (by decide), up20 (k := 35) (by decide), up20t (t' := 7) (t := 4) (by decide), up20t (t' := 10) (t := 4) (by decide), up20t (t' := 3) (t := 4) (by decide), up20t (t' := 36) (t := 4) (by decide), up20t (t' := 37) (t := 4) (by decide), up20t (t' := 38) (t := 4) (by decide), up20t (t' := 6) (t := 4) (by decide)]
  rw [e 0 (by decide), e 1 (by decide), e 3 (by decide), e 4 (by decide), e 5 (by decide), e 6 (by decide), e 7 (by decide), e 8 (by decide), eT1, eS1, eB1]
  refine ⟨⟨h.1.1, h.1.2.1, upI_s, hA⟩, ⟨h.2.1.1, h.2.1.2.1.same (by rw [up20 (by decide)]) (by rw [up20 (by decide)]), h.2.1.2.2⟩, ⟨h.2.2.1.1, fun h5 => ?_⟩, h.2.2.2⟩
  obtain ⟨g1, g2, g3, g4⟩ := h.2.2.1.2 h5
  exact ⟨g1, g2, g3, fun p hp a ha => by rw [eK]; exact g4 p hp a ha⟩
theorem upI_id {k i j t : Nat} {x : Int32} (h : I k i j t = x) : upI I k i j t x = I := by
  funext k' i' j' t'
  simp only [upI]
  by_cases e : k' = k ∧ i' = i ∧ j' = j ∧ t' = t
  · rw [if_pos e]
    obtain ⟨rfl, rfl, rfl, rfl⟩ := e
    exact h.symm
  · rw [if_neg e]
theorem MF.toX {Q Q' P : PP} {S : HI} {T : HJ} {r : Nat} (h : MF G l I Q S T A) (hA : Ag (aN A 0) Q' P) : MF G l (upI I 20 0 0 4 (nI r)) Q' S T (xsA A P r) :=
  h.xS (fun k hk => if_neg hk) (fun p a => rfl) rfl hA rfl
theorem MF.XX {Q Q' P P' : PP} {S : HI} {T : HJ} {r r' : Nat} (h : MF G l I Q S T (xsA A P r)) (hA : Ag (aN A 0) Q' P') : MF G l (upI I 20 0 0 4 (nI r')) Q' S T (xsA A P' r') :=
  h.xS (fun k hk => (if_neg hk).trans (if_neg hk).symm) (fun p a => rfl) rfl hA rfl
theorem MF.frX {Q Q' P : PP} {S : HI} {T : HJ} {r : Nat} (h : MF G l I Q S T (xsA A P r)) (hA : Ag (aN A 0) Q' (aP A)) : MF G l (upI I 20 0 0 4 (nI (aN A 2))) Q' S T A :=
  h.xS (fun k hk => (if_neg hk).symm) (fun p a => rfl) rfl hA rfl
theorem m_firstOther {s p : Nat} (ok : OKA A) (hs : s < 4) (hs0 : aS A s 0 ≠ -1) (hp : p < aN A 0) : MC G l 198 70 [vI (nI s), vI (nI p)] A (vI (foV A s (aN A 2) (aP A) p)) A := by
  intro I J rd rr Q S T hC
  obtain ⟨h1, h2, h3, h4⟩ := hC.1
  have h5 := ok.1.1
  have hd9 := ok.1.2.1
  obtain ⟨z, hz, ez⟩ := sz_ex ok hs
  obtain ⟨g1, g2, g3, g4⟩ := (hC.2.2.2.2 s hs).2 hs0
  have hsz : szS A s = z := by unfold szS; rw [ez, nI_clamp (by omega)]
  unfold foV
  rw [hsz]
  refine Ev_go iM_firstOther rfl rfl rfl ⟨Nat.le_refl _, Nat.le_refl _⟩ (fun K hK => ?_)
  have hWQ : WF Q (aN A 0) := hC.W ok
  have h0 : ∀ k p, dayN (bO A) (dy A) (aN A 0) Q k p 0 = Q p 0 := fun k p => dayN_a k
  have hmax : ∀ x, getI (mf (rI I Q x) J rd rr Q S T) 34 0 0 s = nI z := fun x => by rw [mf_I (by simp), rI_k (by decide) (by decide), g3, ez]
  have fin : ∀ (R : Int32) (k : Nat) (Q' : PP) (S' : HI) (T' : HJ) (x : Int32), k < 100 → (R = -1 → z ≤ k) → R = foF (itS A s) (fun k => dayN (aB A (aN A 2)) (dy A) (aN A 0) (aP A) (k + 1) p 2) z 0 → MOK (aN A 3) (aB A) S' T' → (∀ p, Q' p 0 = Q p 0) → K 80 9 [some (vR 20 0 0), some (vI (nI s)), some (vI (nI p)), some (vI R), some (vI (nI k))] [] (mf (rI I Q x) J rd rr Q' S' T') := by
    intro R k Q' S' T' x hk1 hk hR hM h0
    refine hK.1 [] 100 _ _ _ _ _ ?_
    refine ⟨nI_in (N := 4) (by omega) (by decide), ?_⟩
    rw [nI_clamp (n := s) (by omega)]
    refine And.intro (fun _ => ?_) (fun hk' => ?_)
    · refine r_back hC ok hM h0 (by decide) (fun Q2 hF _ => ?_)
      exact ⟨rfl, (_, Q2, S', T'), by rw [hR], rfl, hF, frM.rI⟩
    · refine And.intro (fun _ => ?_) (fun hR1 => absurd ?_ hk')
      · refine r_back hC ok hM h0 (by decide) (fun Q2 hF _ => ?_)
        exact ⟨rfl, (_, Q2, S', T'), by rw [hR], rfl, hF, frM.rI⟩
      · rw [mf_I (by simp), rI_k (by decide) (by decide), g3, ez]
        exact nI_le (hk hR1) (by omega)
  have loop : ∀ j k S' T', k + j = z → MOK (aN A 3) (aB A) S' T' → foF (itS A s) (fun k => dayN (aB A (aN A 2)) (dy A) (aN A 0) (aP A) (k + 1) p 2) j k = foF (itS A s) (fun k => dayN (aB A (aN A 2)) (dy A) (aN A 0) (aP A) (k + 1) p 2) z 0 → K 80 9 [some (vR 20 0 0), some (vI (nI s)), some (vI (nI p)), some (vI (-1)), some (vI (nI k))] [] (mf (rI I Q (nI (aN A 1 + k))) J rd rr (dayN (bO A) (dy A) (aN A 0) Q k) S' T') := by
    intro j
    induction j with
    | zero =>
      intro k S' T' hk hM hR
      exact fin (-1) k _ S' T' _ (by omega) (fun _ => by omega) hR hM (h0 k)
    | succ j ih =>
      intro k S' T' hk hM hR
      refine hK.1 [(9, [true, true, true, true, true])] 100 _ _ _ _ _ ?_
      refine ⟨nI_in (N := 4) (by omega) (by decide), ?_⟩
      rw [nI_clamp (n := s) (by omega)]
      refine And.intro (fun h => absurd h ?_) (fun _ => And.intro (fun h => absurd rfl h) (fun _ => ?_))
      · rw [mf_I (by simp), rI_k (by decide) (by decide), g3, ez]
        exact nI_ge (by omega) (by omega)
      · have hA : Ag (aN A 0) (dayN (bO A) (dy A) (aN A 0) Q (k + 1)) (dayN (aB A (aN A 2)) (dy A) (aN A 0) (aP A) (k + 1)) := dayN_Ag h4 h5 (k + 1)
        have hv := hA p hp 2 (by omega)
        have e1 : dayS (bO A) (nI (aN A 1 + k)) (aN A 0) (dayN (bO A) (dy A) (aN A 0) Q k) = dayN (bO A) (dy A) (aN A 0) Q (k + 1) := by
          rw [dayN]; unfold dy; rw [nI_plus]
        refine r_passes hC ok (by omega) hM (dayN_WF hWQ k) (by decide) (fun q hq => ?_)
        rw [e1]
        refine c_its rfl (w := 2) rfl (by omega) (by decide) (by decide) ?_
        show vp_in _ _ ∧ _
        rw [nI_40]
        refine ⟨nI_in (N := 160) (by omega) (by decide), ?_⟩
        rw [nI_clamp (n := 40 * s + k) (by omega), mf_I (by simp), rI_k (by decide) (by decide), g4 k z hz ez (by omega), hv]
        rw [foF] at hR
        refine And.intro (fun h7 => ?_) (fun h7 => ?_)
        · show K 80 9 _ _ _
          rw [if_pos (show itS A s k = _ from h7.symm)] at hR
          exact Kc (ih (k + 1) q.1 q.2 (by omega) hq hR) (by rw [nI_succ]; rfl) rfl
        · show K 80 9 _ _ _
          rw [if_neg (show ¬ itS A s k = _ from fun e => h7 e.symm)] at hR
          refine Kc (fin (nI k) (k + 1) _ q.1 q.2 (nI (aN A 1 + k + 1)) (by omega) (fun e => ?_) hR hq (h0 (k + 1))) (by rw [nI_succ]; rfl) rfl
          have := congrArg Int32.toInt e
          rw [nI_toInt (by omega)] at this
          have h5' : (-1 : Int32).toInt = -1 := by decide
          omega
  refine hK.1 [(9, [true, true, true, true, true])] 100 _ _ _ _ _ ?_
  refine r_keeps hC (by decide) ?_
  show K 80 9 _ _ _
  exact loop z 0 S T (by omega) hC.2.1.2.2 rfl
end T41
