section T43
variable {G : GT} {l : Launch} {I : HI} {J : HJ} {rd : Option AO} {rr : Nat → Nat} {A : ST}
theorem m_tells {s one b w : Int32} (ok : OKA A) : MC G l 196 101 [vI s, vI one, vI b, vI w] A (vI (tellsR A s one b w)) A := by
  intro I J rd rr Q S T hC
  obtain ⟨h1, h2, h3, h4⟩ := hC.1
  have h5 := ok.1.1
  refine Ev_go iM_tells rfl rfl rfl ⟨Nat.le_refl _, Nat.le_refl _⟩ (fun K hK => ?_)
  refine hK.1 [(277, [true, true, true, true, true, true, true, true, false, true, true, true]), (90, [true, true, true, true, true, true, true, false, false, false, false, false])] 200 _ _ _ _ _ ?_
  unfold tellsR at hK
  unfold tellsR
  refine k_misSheet (by decide) ?_
  refine And.intro (fun h6 => ?_) (fun h6 => ?_)
  · rw [if_neg (fun q => iN_n h6 q.1)]
    exact ⟨rfl, (I, Q, S, T), rfl, rfl, hC, frM.r⟩
  · refine c_isOne h1 h5 (by decide) ?_
    refine And.intro (fun h7 => ?_) (fun h7 => ?_)
    · rw [if_neg (fun q => iN_n h7 q.2.1)]
      exact ⟨rfl, (I, Q, S, T), rfl, rfl, hC, frM.r⟩
    · refine c_isOne h1 h5 (by decide) ?_
      refine And.intro (fun h8 => ?_) (fun h8 => ?_)
      · rw [if_neg (fun q => iN_n h8 q.2.2.1)]
        exact ⟨rfl, (I, Q, S, T), rfl, rfl, hC, frM.r⟩
      · refine c_in (b' := 0) (c' := 7) rfl rfl (by decide) ?_
        refine And.intro (fun h9 => ?_) (fun h9 => ?_)
        · have hc := And.intro (iN_y h6) (And.intro (iN_y h7) (And.intro (iN_y h8) (iN_y h9)))
          rw [if_pos hc] at hK ⊢
          obtain ⟨s, hs, rfl⟩ := rg_of (n := 3) hc.1.1 hc.1.2 (by decide)
          obtain ⟨p, hp, rfl⟩ := nI_ex hc.2.1.1 hc.2.1.2 (by omega)
          obtain ⟨b, hb, rfl⟩ := nI_ex hc.2.2.1.1 hc.2.2.1.2 (by omega)
          obtain ⟨w, hw, rfl⟩ := rg_of (n := 7) hc.2.2.2.1 hc.2.2.2.2 (by decide)
          clear h6 h7 h8 h9 hc
          rw [nI_clamp (n := s) (by omega), nI_clamp (n := p) (by omega), nI_clamp (n := b) (by omega), nI_clamp (n := w) (by omega)] at hK ⊢
          obtain ⟨z, hz, ez⟩ := sz_ex ok (s := s) (by omega)
          have hhs := hC.2.2.2.2 s (by omega)
          refine ⟨nI_in (N := 4) (by omega) (by decide), fun _ => ?_⟩
          rw [nI_clamp (n := s) (by omega), mf_I (by simp)]
          refine And.intro (fun h10 => ?_) (fun h10 => ?_)
          · have hs0 : ¬ aS A s 0 = -1 := fun e => h10 (hhs.1 e)
            obtain ⟨g1, g2, g3, g4⟩ := hhs.2 hs0
            rw [if_neg hs0] at hK ⊢
            show vp_in _ _ ∧ _
            refine ⟨nI_in (N := 4) (by omega) (by decide), ?_⟩
            rw [nI_clamp (n := s) (by omega), mf_I (by simp), g3]
            refine And.intro (fun h11 => ?_) (fun h11 => ?_)
            · rw [if_pos h11] at hK ⊢
              have hX : ∀ ww, MF G l I Q S T (xsA A (svP A b ww (wasV A b ww)) (aN A 2)) := by
                intro ww
                rw [sv_was]
                have := hC.toX (r := aN A 2) h4
                rw [upI_id h3] at this
                exact this
              match w, hw with
              | 0, _ =>
                rw [show tellsV A s p b 0 = foV A s (aN A 2) (aP A) p by unfold tellsV; rw [if_pos rfl]]
                repeat first | refine And.intro (fun h => absurd h (by decide)) (fun _ => ?_) | refine And.intro (fun _ => ?_) (fun h => absurd h (by decide))
                refine CPd_exc (m_firstOther ok (by omega) hs0 hp I J rd rr Q S T hC) (by decide) rfl (fun x hx => ?_)
                exact ⟨rfl, x, rfl, rfl, hx⟩
              | 7, _ =>
                rw [show tellsV A s p b 7 = bsU (pwG A s) (aN A 0) by unfold tellsV; rw [if_neg (by decide), if_neg (by decide), if_neg (by decide), if_pos rfl]] at hK
                repeat first | refine And.intro (fun h => absurd h (by decide)) (fun _ => ?_) | refine And.intro (fun _ => ?_) (fun h => absurd h (by decide))
                have loop : ∀ j v (x : XM), v + j = aN A 0 → MF G l x.1 x.2.1 x.2.2.1 x.2.2.2 A → frM I x.1 → K 80 90 [some (vR 20 0 0), some (vI (nI s)), some (vI (nI p)), some (vI (nI b)), some (vI 7), some (vI (bsU (pwG A s) v)), some (vI (nI v)), none, none, none, none, none] [] (mf x.1 J rd rr x.2.1 x.2.2.1 x.2.2.2) := by
                  intro j
                  induction j with
                  | zero =>
                    intro v x hv hC1 hf
                    refine hK.1 [] 60 _ _ _ _ _ ?_
                    rw [show v = aN A 0 by omega]
                    refine And.intro (fun _ => ⟨rfl, x, rfl, rfl, hC1, hf⟩) (fun h => absurd ?_ h)
                    rw [mf_I (by decide), hC1.1.1]
                    exact nI_le (Nat.le_refl _) (by omega)
                  | succ j ih =>
                    intro v x hv hC1 hf
                    refine hK.1 [(90, [true, true, true, true, true, true, true, false, false, false, false, false])] 60 _ _ _ _ _ ?_
                    refine And.intro (fun h => absurd h ?_) (fun _ => ?_)
                    · rw [mf_I (by decide), hC1.1.1]
                      exact nI_ge (by omega) (by omega)
                    · refine CPd_exc (m_firstOther ok (by omega) hs0 (show v < aN A 0 by omega) x.1 J rd rr x.2.1 x.2.2.1 x.2.2.2 hC1) (by decide) rfl (fun y hy => ?_)
                      have e := ih (v + 1) y (by omega) hy.1 (fun k hk => (hy.2 k hk).trans (hf k hk))
                      refine And.intro (fun h12 => ?_) (fun h12 => ?_)
                      · show K 80 90 _ _ _
                        rw [bsU, show pwG A s v = false from decide_eq_false h12, if_neg (show ¬ (false = true) by decide), nI_succ] at e
                        refine Kc e ?_ rfl
                        have h0 : ∀ v, v < 5 → (0 : Int32) <<< (nI v &&& 31) = 0 := by decide
                        rw [h0 v (by omega), Int32.or_zero]
                        rfl
                      · show K 80 90 _ _ _
                        rw [bsU, show pwG A s v = true from decide_eq_true h12, if_pos rfl, nI_succ] at e
                        exact e
                show K 80 90 _ _ _
                exact loop (aN A 0) 0 (I, Q, S, T) (by omega) hC frM.r
              | 1, _ =>
                rw [show tellsV A s p b 1 = bsU (tlG A s p b 1) 6 by unfold tellsV; rw [if_neg (by decide), if_neg (by decide), if_neg (by decide), if_neg (by decide)]; rfl] at hK
                repeat first | refine And.intro (fun h => absurd h (by decide)) (fun _ => ?_) | refine And.intro (fun _ => ?_) (fun h => absurd h (by decide))
                refine ⟨nI_in (N := 5) (by omega) (by decide), ?_⟩
                rw [nI_clamp (n := b) (by omega), mf_k, h4 b hb 0 (by omega)]
                repeat first | refine And.intro (fun h => absurd h (by decide)) (fun _ => ?_) | refine And.intro (fun _ => ?_) (fun h => absurd h (by decide))
                show K 80 277 _ _ _
                refine Kc (r_tells (w := 1) (ww := 1) (N := 6) ok (by omega) hs0 hp hb (by decide) (by decide) rfl (by decide) (fun _ => rfl) (fun h => absurd h (by decide)) (fun h => absurd h (by decide)) hK (6) 0 (I, Q, S, T) (aN A 2) (wasV A b 1) 0 0 (-1) (by omega) (hX 1) (fun _ => rfl) frM.r (fun _ => Int32.zero_or) (Int32.zero_add _) rfl) rfl rfl
              | 2, _ =>
                rw [show tellsV A s p b 2 = bsU (tlG A s p b 2) 10 by unfold tellsV; rw [if_neg (by decide), if_neg (by decide), if_neg (by decide), if_neg (by decide)]; rfl] at hK
                repeat first | refine And.intro (fun h => absurd h (by decide)) (fun _ => ?_) | refine And.intro (fun _ => ?_) (fun h => absurd h (by decide))
                refine c_its rfl (w := 1) rfl (by omega) (by decide) (by decide) ?_
                rw [h4 b hb 1 (by omega)]
                repeat first | refine And.intro (fun h => absurd h (by decide)) (fun _ => ?_) | refine And.intro (fun _ => ?_) (fun h => absurd h (by decide))
                show K 80 277 _ _ _
                refine Kc (r_tells (w := 2) (ww := 2) (N := 10) ok (by omega) hs0 hp hb (by decide) (by decide) rfl (by decide) (fun _ => rfl) (fun h => absurd h (by decide)) (fun h => absurd h (by decide)) hK (10) 0 (I, Q, S, T) (aN A 2) (wasV A b 2) 0 0 (-1) (by omega) (hX 2) (fun _ => rfl) frM.r (fun _ => Int32.zero_or) (Int32.zero_add _) rfl) rfl rfl
              | 3, _ =>
                rw [show tellsV A s p b 3 = cnU (tlG A s p b 3) 100 by unfold tellsV; rw [if_neg (by decide), if_pos rfl]] at hK
                repeat first | refine And.intro (fun h => absurd h (by decide)) (fun _ => ?_) | refine And.intro (fun _ => ?_) (fun h => absurd h (by decide))
                refine c_its rfl (w := 3) rfl (by omega) (by decide) (by decide) ?_
                rw [h4 b hb 3 (by omega)]
                repeat first | refine And.intro (fun h => absurd h (by decide)) (fun _ => ?_) | refine And.intro (fun _ => ?_) (fun h => absurd h (by decide))
                show K 80 277 _ _ _
                refine Kc (r_tells (w := 3) (ww := 3) (N := 100) ok (by omega) hs0 hp hb (by decide) (by decide) rfl (by decide) (fun h => absurd rfl h) (fun _ => rfl) (fun h => absurd h (by decide)) hK (100) 0 (I, Q, S, T) (aN A 2) (wasV A b 3) 0 0 (-1) (by omega) (hX 3) (fun _ => rfl) frM.r (fun _ => Int32.zero_or) (Int32.zero_add _) rfl) rfl rfl
              | 4, _ =>
                rw [show tellsV A s p b 4 = ffU (tlG A s p b 3) 100 0 by unfold tellsV; rw [if_neg (by decide), if_neg (by decide), if_pos rfl]] at hK
                repeat first | refine And.intro (fun h => absurd h (by decide)) (fun _ => ?_) | refine And.intro (fun _ => ?_) (fun h => absurd h (by decide))
                refine c_its rfl (w := 3) rfl (by omega) (by decide) (by decide) ?_
                rw [h4 b hb 3 (by omega)]
                repeat first | refine And.intro (fun h => absurd h (by decide)) (fun _ => ?_) | refine And.intro (fun _ => ?_) (fun h => absurd h (by decide))
                show K 80 277 _ _ _
                refine Kc (r_tells (w := 4) (ww := 3) (N := 100) ok (by omega) hs0 hp hb (by decide) (by decide) rfl (by decide) (fun h => absurd rfl h) (fun h => absurd h (by decide)) (fun _ => rfl) hK (100) 0 (I, Q, S, T) (aN A 2) (wasV A b 3) 0 0 (-1) (by omega) (hX 3) (fun _ => rfl) frM.r (fun _ => Int32.zero_or) (Int32.zero_add _) rfl) rfl rfl
              | 5, _ =>
                rw [show tellsV A s p b 5 = bsU (tlG A s p b 5) 6 by unfold tellsV; rw [if_neg (by decide), if_neg (by decide), if_neg (by decide), if_neg (by decide)]; rfl] at hK
                repeat first | refine And.intro (fun h => absurd h (by decide)) (fun _ => ?_) | refine And.intro (fun _ => ?_) (fun h => absurd h (by decide))
                refine c_its rfl (w := 4) rfl (by omega) (by decide) (by decide) ?_
                rw [h4 b hb 4 (by omega)]
                repeat first | refine And.intro (fun h => absurd h (by decide)) (fun _ => ?_) | refine And.intro (fun _ => ?_) (fun h => absurd h (by decide))
                show K 80 277 _ _ _
                refine Kc (r_tells (w := 5) (ww := 5) (N := 6) ok (by omega) hs0 hp hb (by decide) (by decide) rfl (by decide) (fun _ => rfl) (fun h => absurd h (by decide)) (fun h => absurd h (by decide)) hK (6) 0 (I, Q, S, T) (aN A 2) (wasV A b 5) 0 0 (-1) (by omega) (hX 5) (fun _ => rfl) frM.r (fun _ => Int32.zero_or) (Int32.zero_add _) rfl) rfl rfl
              | 6, _ =>
                rw [show tellsV A s p b 6 = bsU (tlG A s p b 6) (aN A 3) by unfold tellsV; rw [if_neg (by decide), if_neg (by decide), if_neg (by decide), if_neg (by decide)]; rfl] at hK
                repeat first | refine And.intro (fun h => absurd h (by decide)) (fun _ => ?_) | refine And.intro (fun _ => ?_) (fun h => absurd h (by decide))
                show K 80 277 _ _ _
                rw [mf_I (by decide), mf_I (by decide), h3, hC.2.1.1]
                show K 80 277 _ _ _
                refine Kc (r_tells (w := 6) (ww := 6) (N := aN A 3) ok (by omega) hs0 hp hb (by decide) (by decide) rfl (by have := ok.1.2.2.2.1; omega) (fun _ => rfl) (fun h => absurd h (by decide)) (fun h => absurd h (by decide)) hK (aN A 3) 0 (I, Q, S, T) (aN A 2) (wasV A b 6) 0 0 (-1) (by omega) (hX 6) (fun _ => rfl) frM.r (fun _ => Int32.zero_or) (Int32.zero_add _) rfl) (by rw [show nI (aN A 3) + -1 = nI (aN A 3) - 1 by grind]; rfl) rfl
            · rw [if_neg h11]
              exact ⟨rfl, (I, Q, S, T), rfl, rfl, hC, frM.r⟩
          · have hs0 : aS A s 0 = -1 := by
              refine Classical.byContradiction fun e => ?_
              have := (hhs.2 e).1
              rw [h10] at this
              exact absurd this (by decide)
            rw [if_pos hs0]
            exact ⟨rfl, (I, Q, S, T), rfl, rfl, hC, frM.r⟩
        · rw [if_neg (fun q => iN_n h9 q.2.2.2)]
          exact ⟨rfl, (I, Q, S, T), rfl, rfl, hC, frM.r⟩
end T43
