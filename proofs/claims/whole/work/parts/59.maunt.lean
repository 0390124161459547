section T35
variable {G : GT} {l : Launch} {I : HI} {J : HJ} {rd : Option AO} {rr : Nat → Nat} {A : ST}
theorem tell_2n {B : BT} {d s : Int32} {P : PP} {t o i : Nat} (h : i ≠ o) : tellS B d s P t o i 2 = P i 2 := by
  unfold tellS
  rw [upP_a (by decide), upP_a (by decide), upP_p h]
theorem m_aunt {one w : Int32} (ok : OKA A) : MC G l 192 100 [vI one, vI w] A (vI (auntR A one w)) A := by
  intro I J rd rr Q S T hC
  obtain ⟨h1, h2, h3, h4⟩ := hC.1
  have h5 := ok.1.1
  have hd9 := ok.1.2.1
  refine Ev_go iM_aunt rfl rfl rfl ⟨Nat.le_refl _, Nat.le_refl _⟩ (fun K hK => ?_)
  refine hK.1 [(29, [true, true, true, true, true, true, false, false])] 100 _ _ _ _ _ ?_
  unfold auntR at hK
  unfold auntR
  refine c_isOne h1 h5 (by decide) ?_
  refine And.intro (fun h6 => ?_) (fun h6 => ?_)
  · rw [if_neg (fun q => iN_n h6 q.1)]
    exact ⟨rfl, (I, Q, S, T), rfl, rfl, hC, frM.r⟩
  · refine c_in (b' := 0) (c' := 1) rfl rfl (by decide) ?_
    refine And.intro (fun h7 => ?_) (fun h7 => ?_)
    · have hc := And.intro (iN_y h6) (iN_y h7)
      rw [if_pos hc] at hK
      obtain ⟨p, hp, rfl⟩ := nI_ex hc.1.1 hc.1.2 (by omega)
      rw [nI_clamp (n := p) (by omega)] at hK
      have loop : ∀ j k (x : XM), k + j = aN A 0 → MF G l x.1 x.2.1 x.2.2.1 x.2.2.2 A → frM I x.1 → K 80 29 [some (vR 20 0 0), some (vI (nI p)), some (vI w), some (vI (auF A p (ldS A p) k).1), some (vI (auF A p (ldS A p) k).2), some (vI (nI k)), none, none] [] (mf x.1 J rd rr x.2.1 x.2.2.1 x.2.2.2) := by
        intro j
        induction j with
        | zero =>
          intro k x hk hC1 hf
          refine hK.1 [] 60 _ _ _ _ _ ?_
          rw [show k = aN A 0 by omega]
          refine And.intro (fun _ => ?_) (fun h => absurd ?_ h)
          · unfold auntV
            refine And.intro (fun h8 => ?_) (fun h8 => ?_)
            · refine ⟨rfl, x, ?_, rfl, hC1, hf⟩
              rw [if_neg h8]
            · refine ⟨rfl, x, ?_, rfl, hC1, hf⟩
              rw [if_pos h8]
          · rw [mf_I (by decide), hC1.1.1]
            exact nI_le (Nat.le_refl _) (by omega)
        | succ j ih =>
          intro k x hk hC1 hf
          obtain ⟨g1, g2, g3, g4⟩ := hC1.1
          refine hK.1 [(29, [true, true, true, true, true, true, false, false]), (72, [true, true, true, true, true, true, true, true])] 60 _ _ _ _ _ ?_
          have skip : ∀ y : XM, MF G l y.1 y.2.1 y.2.2.1 y.2.2.2 A → frM I y.1 → auF A p (ldS A p) (k + 1) = auF A p (ldS A p) k → K 80 29 [some (vR 20 0 0), some (vI (nI p)), some (vI w), some (vI (auF A p (ldS A p) k).1), some (vI (auF A p (ldS A p) k).2), some (vI (nI k + 1)), none, none] [] (mf y.1 J rd rr y.2.1 y.2.2.1 y.2.2.2) := by
            intro y hy1 hy2 e
            have := ih (k + 1) y (by omega) hy1 hy2
            rw [e, nI_succ] at this
            exact this
          have take : ∀ y : XM, MF G l y.1 y.2.1 y.2.2.1 y.2.2.2 A → frM I y.1 → auF A p (ldS A p) (k + 1) = (nI k, auT A k (ldS A p)) → K 80 29 [some (vR 20 0 0), some (vI (nI p)), some (vI w), some (vI (nI k)), some (vI (auT A k (ldS A p))), some (vI (nI k + 1)), none, none] [] (mf y.1 J rd rr y.2.1 y.2.2.1 y.2.2.2) := by
            intro y hy1 hy2 e
            have := ih (k + 1) y (by omega) hy1 hy2
            rw [e, nI_succ] at this
            exact this
          rw [auF] at skip take
          refine And.intro (fun h => absurd h ?_) (fun _ => ?_)
          · rw [mf_I (by decide), g1]
            exact nI_ge (by omega) (by omega)
          · refine And.intro (fun h8 => ?_) (fun h8 => ?_)
            · have hkp : k = p := by
                have := congrArg Int32.toInt h8
                rw [nI_toInt (by omega), nI_toInt (by omega)] at this
                omega
              show K 80 29 _ _ _
              exact skip x hC1 hf (by rw [if_neg (fun q => q.1.1 hkp)])
            · have hkp : k ≠ p := fun e => h8 (by rw [e])
              have e6 : x.2.1 k 6 = aP A k 6 := g4 k (by omega) 6 (by omega)
              refine c_its rfl (w := 6) rfl (by omega) (by decide) (by decide) ?_
              rw [e6]
              refine And.intro (fun h9 => ?_) (fun h9 => ?_)
              · show K 80 29 _ _ _
                exact skip x hC1 hf (by rw [if_neg (fun q => h9 q.1.2)])
              · refine r_keeps hC1 (by decide) ?_
                have hWQ : WF x.2.1 (aN A 0) := hC1.W ok
                refine CPd_exc (e_goes (rI_E hC1 ok (by omega)) hC1.2.1.2.2 hWQ hp (show k < aN A 0 by omega)) (by decide) rfl (fun u hu => ?_)
                have hmm : rI x.1 x.2.1 (nI (aN A 1)) 20 0 0 10 = nI (aN A 0) := by rw [rI_t (by decide) (by decide)]; exact g1
                have hP2 : ∀ i, i < aN A 0 → tellS (aB A (aN A 2)) (nI (aN A 1)) (aslS x.2.1 (aN A 0)) x.2.1 p k i 2 = auG A k (ldS A p) i := by
                  intro i hi
                  unfold auG
                  by_cases hik : i = k
                  · subst hik
                    rw [if_pos rfl, tell_2]
                    unfold ldS asl
                    rw [asl_Ag _ _ g4 (Nat.le_refl _), weighs_Ag g4 hp, tiredBy_Ag g4 hi]
                    rfl
                  · rw [if_neg hik, tell_2n hik]
                    exact g4 i hi 2 (by omega)
                have hP0 : ∀ i, tellS (aB A (aN A 2)) (nI (aN A 1)) (aslS x.2.1 (aN A 0)) x.2.1 p k i 0 = x.2.1 i 0 := fun i => tell_0
                generalize tellS (aB A (aN A 2)) (nI (aN A 1)) (aslS x.2.1 (aN A 0)) x.2.1 p k = P' at hP2 hP0
                have inner : ∀ j i, i + j = aN A 0 → K 80 72 [some (vR 20 0 0), some (vI (nI p)), some (vI w), some (vI (auF A p (ldS A p) k).1), some (vI (auF A p (ldS A p) k).2), some (vI (nI k)), some (vI (mxF (auG A k (ldS A p)) i)), some (vI (nI i))] [] (mf (rI x.1 x.2.1 (nI (aN A 1))) J rd rr P' u.1 u.2) := by
                  intro j
                  induction j with
                  | zero =>
                    intro i hi
                    refine hK.1 [(29, [true, true, true, true, true, true, false, false])] 60 _ _ _ _ _ ?_
                    rw [show i = aN A 0 by omega]
                    refine And.intro (fun _ => ?_) (fun h => absurd ?_ h)
                    · refine r_back hC1 ok hu hP0 (by decide) (fun Q2 hF _ => ?_)
                      have hf2 : frM I (rI x.1 x.2.1 (nI (aN A 1))) := fun k hk => (frM.rI k hk).trans (hf k hk)
                      refine And.intro (fun h10 => ?_) (fun h10 => And.intro (fun h11 => ?_) (fun h11 => ?_))
                      · show K 80 29 _ _ _
                        exact take (_, Q2, u.1, u.2) hF hf2 (by rw [if_pos ⟨⟨hkp, h9⟩, Or.inl h10⟩])
                      · show K 80 29 _ _ _
                        refine skip (_, Q2, u.1, u.2) hF hf2 (by rw [if_neg (fun q => q.2.elim h10 (fun r => ?_))])
                        have h11' : (auF A p (ldS A p) k).2 ≤ auT A k (ldS A p) := h11
                        grind
                      · show K 80 29 _ _ _
                        refine take (_, Q2, u.1, u.2) hF hf2 (by rw [if_pos ⟨⟨hkp, h9⟩, Or.inr ?_⟩])
                        have h11' : ¬ (auF A p (ldS A p) k).2 ≤ auT A k (ldS A p) := h11
                        grind
                    · rw [mf_I (by decide), hmm]
                      exact nI_le (Nat.le_refl _) (by omega)
                  | succ j ih2 =>
                    intro i hi
                    refine hK.1 [(72, [true, true, true, true, true, true, true, true])] 60 _ _ _ _ _ ?_
                    have e2 := ih2 (i + 1) (by omega)
                    rw [mxF, nI_succ] at e2
                    refine And.intro (fun h => absurd h ?_) (fun _ => ?_)
                    · rw [mf_I (by decide), hmm]
                      exact nI_ge (by omega) (by omega)
                    · refine c_its rfl (w := 2) rfl (by omega) (by decide) (by decide) ?_
                      rw [hP2 i (by omega)]
                      refine And.intro (fun h12 => ?_) (fun h12 => ?_)
                      · show K 80 72 _ _ _
                        rw [if_neg (by grind)] at e2
                        exact e2
                      · refine c_its rfl (w := 2) rfl (by omega) (by decide) (by decide) ?_
                        rw [hP2 i (by omega)]
                        show K 80 72 _ _ _
                        rw [if_pos (by grind)] at e2
                        exact e2
                show K 80 72 _ _ _
                exact inner (aN A 0) 0 (by omega)
      show K 80 29 _ _ _
      exact loop (aN A 0) 0 (I, Q, S, T) (by omega) hC frM.r
    · rw [if_neg (fun q => iN_n h7 q.2)]
      exact ⟨rfl, (I, Q, S, T), rfl, rfl, hC, frM.r⟩
end T35
