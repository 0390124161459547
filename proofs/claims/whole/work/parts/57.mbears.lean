section T33
variable {G : GT} {l : Launch} {I : HI} {J : HJ} {rd : Option AO} {rr : Nat → Nat} {A : ST}
theorem MF.rI0 {Q Q0 Q2 : PP} {S S' : HI} {T T' : HJ} (hC : MF G l I Q S T A) (hA : Ag (aN A 0) Q2 (aP A)) (hM : MOK (aN A 3) (aB A) S' T') : MF G l (rI I Q0 (nI (aN A 1))) Q2 S' T' A := by
  refine hC.ext (fun t ht => ?_) (fun k h1 h2 h3 h4 => rI_k (by omega) h2) hA hM
  by_cases h7 : t = 7
  · subst h7; rw [rI_7, hC.1.2.1]
  · exact rI_t ht h7
theorem bak_Ag' {P Q : PP} {W : Nat → Int32} (hW : ∀ t, t < 30 → W t = rowF P t) (h0 : ∀ p, p < 5 → Q p 0 = P p 0) : Ag 5 (bakP W Q 30) P := by
  intro p hp a ha
  unfold bakP
  by_cases h : a = 0
  · subst h
    rw [if_neg (by omega), h0 p hp]
  · rw [if_pos (by omega), hW _ (by omega)]
    unfold rowF
    rw [show (6 * p + (a - 1)) / 6 = p by omega, show (6 * p + (a - 1)) % 6 + 1 = a by omega]
/-- laid back, where the kinds of all rows stayed; what was laid aside is Q -/
theorem r_back5 {d : Nat} {x : Int32} {Q Q' : PP} {S' : HI} {T' : HJ} {post : Option AV → AH → Prop} (h7 : I 20 0 0 7 = nI (aN A 1)) (h0 : ∀ p, p < 5 → Q' p 0 = Q p 0) (hd : 0 < d)
    (k : ∀ Q2, Ag 5 Q2 Q → post none (mf (rI I Q (nI (aN A 1))) J rd rr Q2 S' T')) : CPd G l d 80 0 183 [vR 20 0 0] (mf (rI I Q x) J rd rr Q' S' T') post := by
  refine CPd_eq (e_laysBack (d := 0)) hd rfl ?_
  have h28 : ∀ t, t < 30 → rI I Q x 28 0 0 t = rowF Q t := by intro t ht; unfold rI; rw [up20 (by decide), keepI_28 ht]
  have hA5 : Ag 5 (bakP (rI I Q x 28 0 0) Q' 30) Q := bak_Ag' h28 h0
  have hI : upI (rI I Q x) 20 0 0 7 (rI I Q x 20 0 0 29) = rI I Q (nI (aN A 1)) := by
    have : rI I Q x 20 0 0 29 = nI (aN A 1) := by unfold rI; rw [up20t (by decide), keepI_29, h7]
    rw [this]
    unfold rI
    rw [upI_upI]
  rw [hI]
  exact k _ hA5
theorem tell_2 {B : BT} {d s : Int32} {P : PP} {t o : Nat} : tellS B d s P t o o 2 = tiredByS B P o (weighsS B P t d s) d s := by
  unfold tellS
  rw [upP_a (by decide), upP_a (by decide), upP_s]
theorem m_bears {x y : Int32} (ok : OKA A) : MC G l 193 100 [vI x, vI y] A (vI (bearsR A x y)) A := by
  intro I J rd rr Q S T hC
  obtain ⟨h1, h2, h3, h4⟩ := hC.1
  have h5 := ok.1.1
  have hd9 := ok.1.2.1
  refine Ev_go iM_bears rfl rfl rfl ⟨Nat.le_refl _, Nat.le_refl _⟩ (fun K hK => ?_)
  refine hK.1 [(34, [true, true, true, true, true])] 100 _ _ _ _ _ ?_
  unfold bearsR at hK
  unfold bearsR
  refine c_isOne h1 h5 (by decide) ?_
  refine And.intro (fun h6 => ?_) (fun h6 => ?_)
  · rw [if_neg (fun q => iN_n h6 q.1)]
    exact ⟨rfl, (I, Q, S, T), rfl, rfl, hC, frM.r⟩
  · refine c_isOne h1 h5 (by decide) ?_
    refine And.intro (fun h7 => ?_) (fun h7 => ?_)
    · rw [if_neg (fun q => iN_n h7 q.2.1)]
      exact ⟨rfl, (I, Q, S, T), rfl, rfl, hC, frM.r⟩
    · refine And.intro (fun h8 => ?_) (fun h8 => ?_)
      · have hcc := And.intro (iN_y h6) (And.intro (iN_y h7) h8)
        obtain ⟨p, hp, rfl⟩ := nI_ex hcc.1.1 hcc.1.2 (by omega)
        obtain ⟨q, hq, rfl⟩ := nI_ex hcc.2.1.1 hcc.2.1.2 (by omega)
        rw [if_pos hcc, nI_clamp (n := p) (by omega), nI_clamp (n := q) (by omega)] at hK
        have fin : ∀ (R : Int32) (v : Int32) (Q' : PP) (S' : HI) (T' : HJ), (R = -1 → v < 0) → R = lstF (fun v => brV A p q (nI v)) 100 → MOK (aN A 3) (aB A) S' T' → Ag 5 Q' Q → K 80 34 [some (vR 20 0 0), some (vI (nI p)), some (vI (nI q)), some (vI R), some (vI v)] [] (mf (rI I Q (nI (aN A 1))) J rd rr Q' S' T') := by
          intro R v Q' S' T' hv hR hM hA
          have done : ∃ x : XM, some (vI R) = some (vI (lstF (fun v => brV A p q (nI v)) 100)) ∧ mf (rI I Q (nI (aN A 1))) J rd rr Q' S' T' = mf x.1 J rd rr x.2.1 x.2.2.1 x.2.2.2 ∧ MF G l x.1 x.2.1 x.2.2.1 x.2.2.2 A ∧ frM I x.1 :=
            ⟨(_, Q', S', T'), by rw [hR], rfl, hC.rI0 ((hA.le h5).trans h4) hM, frM.rI⟩
          refine hK.1 [] 100 _ _ _ _ _ ?_
          refine And.intro (fun _ => ⟨rfl, done⟩) (fun h => And.intro (fun _ => ⟨rfl, done⟩) (fun h' => absurd (hv h') h))
        have loop : ∀ v Q' S' T', v < 101 → MOK (aN A 3) (aB A) S' T' → Ag 5 Q' Q → lstF (fun v => brV A p q (nI v)) v = lstF (fun v => brV A p q (nI v)) 100 → K 80 34 [some (vR 20 0 0), some (vI (nI p)), some (vI (nI q)), some (vI (-1)), some (vI (nI v + -1))] [] (mf (rI I Q (nI (aN A 1))) J rd rr Q' S' T') := by
          intro v
          induction v with
          | zero =>
            intro Q' S' T' hv hM hA hR
            exact fin (-1) _ Q' S' T' (fun _ => by decide) hR hM hA
          | succ v ih =>
            intro Q' S' T' hv hM hA hR
            refine hK.1 [(34, [true, true, true, true, true])] 100 _ _ _ _ _ ?_
            rw [nI_m1]
            refine And.intro (fun h => absurd h (nI_pos (by omega))) (fun _ => And.intro (fun h => absurd rfl h) (fun _ => ?_))
            refine c_lays (p := p) (w := 3) rfl rfl (by omega) (by decide) (by decide) ?_
            have hA1 : Ag (aN A 0) (upP Q' p 3 (nI v)) (upP (aP A) p 3 (nI v)) := ((hA.le h5).trans h4).up rfl
            have hW0 : WF (upP (aP A) p 3 (nI v)) (aN A 0) := ok.1.2.2.2.2.up (Or.inr (Or.inl rfl)) ⟨v, by omega, rfl⟩
            have hW : WF (upP Q' p 3 (nI v)) (aN A 0) := WF.Ag hA1.symm hW0
            refine CPd_exc (e_goes (rI_E hC ok (by omega)) hM hW hp hq) (by decide) rfl (fun u hu => ?_)
            refine c_its rfl (w := 2) rfl (by omega) (by decide) (by decide) ?_
            have e : tellS (aB A (aN A 2)) (nI (aN A 1)) (aslS (upP Q' p 3 (nI v)) (aN A 0)) (upP Q' p 3 (nI v)) p q q 2 = brV A p q (nI v) := by
              rw [tell_2]
              unfold brV asl
              rw [asl_Ag _ _ hA1 (Nat.le_refl _), asl_up3, weighs_Ag hA1 hp, tiredBy_Ag hA1 hq]
              rfl
            rw [e]
            rw [lstF] at hR
            have h0 : ∀ p', p' < 5 → tellS (aB A (aN A 2)) (nI (aN A 1)) (aslS (upP Q' p 3 (nI v)) (aN A 0)) (upP Q' p 3 (nI v)) p q p' 0 = Q p' 0 := fun p' hp' => by
              rw [tell_0, upP_a (by decide)]
              exact hA p' hp' 0 (by omega)
            refine And.intro (fun h9 => ?_) (fun h9 => ?_)
            · rw [if_neg (by grind)] at hR
              refine r_back5 (A := A) h2 h0 (by decide) (fun Q2 hA2 => ?_)
              show K 80 34 _ _ _
              exact ih Q2 u.1 u.2 (by omega) hu hA2 hR
            · rw [if_pos (by grind)] at hR
              refine r_back5 (A := A) h2 h0 (by decide) (fun Q2 hA2 => ?_)
              show K 80 34 _ _ _
              refine fin (nI v) _ Q2 u.1 u.2 (fun e => ?_) hR hu hA2
              have := congrArg Int32.toInt e
              rw [nI_toInt (by omega)] at this
              have h5' : (-1 : Int32).toInt = -1 := by decide
              omega
        refine r_keeps hC (by decide) ?_
        show K 80 34 _ _ _
        exact loop 100 Q S T (by decide) hC.2.1.2.2 Ag.refl rfl
      · rw [if_neg (fun q => q.2.2 h8)]
        exact ⟨rfl, (I, Q, S, T), rfl, rfl, hC, frM.r⟩
end T33
