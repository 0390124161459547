section T47
variable {G : GT} {l : Launch} {I : HI} {J : HJ} {rd : Option AO} {rr : Nat → Nat} {A : ST}
theorem eP_self : eP A (fun p => aP A p 4) = aP A := by
  funext p a
  unfold eP
  by_cases h : a = 4
  · rw [if_pos h, h]
  · rw [if_neg h]
theorem m_ears {n w : Int32} (ok : OKA A) : MC G l 187 101 [vI n, vI w] A (vI (earsR A n w)) A := by
  intro I J rd rr Q S T hC
  obtain ⟨h1, h2, h3, h4⟩ := hC.1
  have h5 := ok.1.1
  refine Ev_go iM_ears rfl rfl rfl ⟨Nat.le_refl _, Nat.le_refl _⟩ (fun K hK => ?_)
  refine hK.1 [(29, [true, true, true, true])] 100 _ _ _ _ _ ?_
  unfold earsR at hK
  unfold earsR
  refine c_in (b' := 1) (c' := 3) rfl rfl (by decide) ?_
  refine And.intro (fun h6 => ?_) (fun h6 => ?_)
  · rw [if_neg (fun q => iN_n h6 q.1)]
    exact ⟨rfl, (I, Q, S, T), rfl, rfl, hC, frM.r⟩
  · refine c_in (b' := 0) (c' := 2) rfl rfl (by decide) ?_
    refine And.intro (fun h7 => ?_) (fun h7 => ?_)
    · have hc := And.intro (iN_y h6) (iN_y h7)
      rw [if_pos hc] at hK
      obtain ⟨z, hz, rfl⟩ := rg_of (x := n) (n := 3) (by have := hc.1.1; grind) hc.1.2 (by decide)
      rw [nI_clamp (n := z) (by omega)] at hK
      have hEW : EW (aN A 0) (fun p => aP A p 4) := fun p hp => (ok.1.2.2.2.2 p hp).2.2.2.2.1
      -- the end: all ears laid back
      have back : ∀ j i (y : XM) (e : Nat → Int32), i + j = aN A 0 → MF G l y.1 y.2.1 y.2.2.1 y.2.2.2 (stP A (eP A e)) → (∀ p, p < i → e p = aP A p 4) → frM I y.1 → (∀ p, p < aN A 0 → y.1 30 0 0 p = aP A p 4) → bst y.1 = fdN (wayF A z) (aN A 0 ^ aN A 0) (-1, (0, 0)) → K 80 69 [some (vR 20 0 0), some (vI (nI z)), some (vI w), some (vI (nI i))] [] (mf y.1 J rd rr y.2.1 y.2.2.1 y.2.2.2) := by
        intro j
        induction j with
        | zero =>
          intro i y e hi hC1 he hf h30 hb
          refine hK.1 [] 60 _ _ _ _ _ ?_
          rw [show i = aN A 0 by omega] at he ⊢
          have hA : Ag (aN A 0) y.2.1 (aP A) := by
            have h1 : Ag (aN A 0) y.2.1 (eP A e) := hC1.1.2.2.2
            have h2 := eP_Ag (A := A) (m := aN A 0) (e := e) (e' := fun p => aP A p 4) he
            rw [eP_self] at h2
            exact h1.trans h2
          have hC2 : MF G l y.1 y.2.1 y.2.2.1 y.2.2.2 A := ⟨⟨hC1.1.1, hC1.1.2.1, hC1.1.2.2.1, hA⟩, hC1.2⟩
          have hb32 : getI (mf y.1 J rd rr y.2.1 y.2.2.1 y.2.2.2) 20 0 0 32 = (fdN (wayF A z) (aN A 0 ^ aN A 0) (-1, (0, 0))).1 := by rw [mf_I (by decide), ← hb]; rfl
          have hb33 : getI (mf y.1 J rd rr y.2.1 y.2.2.1 y.2.2.2) 20 0 0 33 = (fdN (wayF A z) (aN A 0 ^ aN A 0) (-1, (0, 0))).2.1 := by rw [mf_I (by decide), ← hb]; rfl
          have hb34 : getI (mf y.1 J rd rr y.2.1 y.2.2.1 y.2.2.2) 20 0 0 34 = (fdN (wayF A z) (aN A 0 ^ aN A 0) (-1, (0, 0))).2.2 := by rw [mf_I (by decide), ← hb]; rfl
          unfold earsV
          refine And.intro (fun _ => And.intro (fun h8 => And.intro (fun h9 => ?_) (fun h9 => ?_)) (fun h8 => ?_)) (fun h => absurd ?_ h)
          · refine ⟨rfl, y, ?_, rfl, hC2, hf⟩
            rw [if_neg h8, if_neg h9, hb34]
          · refine ⟨rfl, y, ?_, rfl, hC2, hf⟩
            rw [if_neg h8, if_pos h9, hb33]
          · refine ⟨rfl, y, ?_, rfl, hC2, hf⟩
            rw [if_pos h8, hb32]
          · rw [mf_I (by decide), hC1.1.1]
            exact nI_le (Nat.le_refl _) (by show aN A 0 < 2 ^ 31; omega)
        | succ j ih =>
          intro i y e hi hC1 he hf h30 hb
          refine hK.1 [(69, [true, true, true, true])] 60 _ _ _ _ _ ?_
          refine And.intro (fun h => absurd h ?_) (fun _ => ?_)
          · rw [mf_I (by decide), hC1.1.1]
            exact nI_ge (by show i < aN A 0; omega) (by show aN A 0 < 2 ^ 31; omega)
          · refine ⟨nI_in (N := 5) (by omega) (by decide), ?_⟩
            rw [nI_clamp (n := i) (by omega), mf_I (by simp), h30 i (by omega)]
            refine c_lays (p := i) (w := 4) rfl rfl (by omega) (by decide) (by decide) ?_
            show K 80 69 _ _ _
            refine Kc (ih (i + 1) (y.1, upP y.2.1 i 4 (aP A i 4), y.2.2.1, y.2.2.2) (va_up e i (aP A i 4)) (by omega) ?_ (fun p hp => ?_) hf h30 hb) (by rw [nI_succ]; rfl) rfl
            · rw [eP_up]
              have h4 : Ag (aN A 0) y.2.1 (eP A e) := hC1.1.2.2.2
              exact hC1.P (A := stP A (eP A e)) (h4.up rfl)
            · unfold va_up
              by_cases hip : p = i
              · rw [if_pos hip, hip]
              · rw [if_neg hip]
                exact he p (by omega)
      have keep : ∀ j i (I1 : HI), i + j = aN A 0 → MF G l I1 Q S T A → frM I I1 → (∀ p, p < i → I1 30 0 0 p = aP A p 4) → K 80 29 [some (vR 20 0 0), some (vI (nI z)), some (vI w), some (vI (nI i))] [] (mf I1 J rd rr Q S T) := by
        intro j
        induction j with
        | zero =>
          intro i I1 hi hC1 hf h30
          refine hK.1 [(69, [true, true, true, true])] 60 _ _ _ _ _ ?_
          rw [show i = aN A 0 by omega] at h30 ⊢
          refine And.intro (fun _ => ?_) (fun h => absurd ?_ h)
          · show CPd _ _ _ _ _ _ _ _ _
            rw [mf_wI (by decide)]
            have hC2 : MF G l (upI I1 20 0 0 32 (-1)) Q S T (stP A (eP A (fun p => aP A p 4))) := by
              rw [eP_self]
              exact hC1.fr2 (fun t ht => up20t (by omega)) (fun k h1 h2 h3 h4 => up20 (by omega))
            refine CPd_of (e_tries ok hz (aN A 0) 0 (fun p => aP A p 4) 0 (upI I1 20 0 0 32 (-1), Q, S, T) (by omega) hC2 hEW) (show 70 + aN A 0 < 101 by omega) rfl (fun v h' q => ?_)
            obtain ⟨q, rfl, rfl, q1, q2, q3, q4, q5, q6⟩ := q
            show K 80 69 _ _ _
            refine back (aN A 0) 0 q.1 q.2 (by omega) q1 (fun p hp => absurd hp (by omega)) (fun k hk => ((q4 k hk).trans (up20 (by omega))).trans (hf k hk)) (fun p hp => ?_) ?_
            · rw [q5]
              show upI I1 20 0 0 32 (-1) 30 0 0 p = aP A p 4
              rw [up20 (by decide)]
              exact h30 p hp
            · rw [q6, tr_way h5]
              have hpos : ∀ m, m ≤ 5 → 1 ≤ m ^ m := by decide
              obtain ⟨u, hu⟩ : ∃ u, aN A 0 ^ aN A 0 = u + 1 := ⟨aN A 0 ^ aN A 0 - 1, by have := hpos _ h5; omega⟩
              rw [hu]
              have hbst : bst (upI I1 20 0 0 32 (-1)) = (-1, (I1 20 0 0 33, I1 20 0 0 34)) := by
                unfold bst
                rw [upI_s, up20t (by decide), up20t (by decide)]
              show fdN (wayF A z) (u + 1) (bst (upI I1 20 0 0 32 (-1))) = _
              rw [hbst, way_first]
          · rw [mf_I (by decide), hC1.1.1]
            exact nI_le (Nat.le_refl _) (by omega)
        | succ j ih =>
          intro i I1 hi hC1 hf h30
          refine hK.1 [(29, [true, true, true, true])] 60 _ _ _ _ _ ?_
          refine And.intro (fun h => absurd h ?_) (fun _ => ?_)
          · rw [mf_I (by decide), hC1.1.1]
            exact nI_ge (by omega) (by omega)
          · refine c_its rfl (w := 4) rfl (by omega) (by decide) (by decide) ?_
            show vp_in _ _ ∧ _
            refine ⟨nI_in (N := 5) (by omega) (by decide), ?_⟩
            rw [nI_clamp (n := i) (by omega), mf_wI (by simp), h4 i (by omega) 4 (by omega)]
            show K 80 29 _ _ _
            have hk : ∀ k, k ≠ 30 → upI I1 30 0 0 i (aP A i 4) k = I1 k := fun k hk => by funext i' j' t'; simp [upI, hk]
            refine Kc (ih (i + 1) _ (by omega) (hC1.fr2 (fun t ht => by rw [hk 20 (by decide)]) (fun k h1 h2 h3 h4 => hk k h4)) (fun k hk' => (hk k (by omega)).trans (hf k hk')) (fun p hp => ?_)) (by rw [nI_succ]; rfl) rfl
            rw [upI_at]
            by_cases hip : p = i
            · rw [if_pos ⟨rfl, rfl, rfl, hip⟩, hip]
            · rw [if_neg (fun q => hip q.2.2.2)]
              exact h30 p (by omega)
      show K 80 29 _ _ _
      exact keep (aN A 0) 0 I (by omega) hC frM.r (fun p hp => absurd hp (by omega))
    · rw [if_neg (fun q => iN_n h7 q.2)]
      exact ⟨rfl, (I, Q, S, T), rfl, rfl, hC, frM.r⟩
end T47
