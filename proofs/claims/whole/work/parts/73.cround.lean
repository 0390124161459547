section T49
variable {G : GT} {l : Launch} {I : HI} {J : HJ} {rd : Option AO} {rr : Nat → Nat} {A : ST}
theorem nL_eqv {a b : Nat} (ha : a < 2 ^ 63) (hb : b < 2 ^ 63) : nL a = nL b ↔ a = b := ⟨nL_inj ha hb, fun e => by rw [e]⟩
theorem run_WF (ok : OKA A) : ∀ t, WF (runP A t) (aN A 0) := fun t => dayN_WF ok.1.2.2.2.2 t
theorem pk_63 {P : PP} (ok : OKA A) (h : WF P (aN A 0)) : pkT P (aN A 0) < 2 ^ 63 ∧ pkS P (aN A 0) < 2 ^ 63 := by
  have h1 := pkTS_lt _ h _ (Nat.le_refl _)
  have h256 : ∀ i, i < 6 → 256 ^ i < 2 ^ 63 := by decide
  have h2 := h256 (aN A 0) (by have := ok.1.1; omega)
  omega
theorem k_wasBefore {d t : Nat} {dd : Int32} {P : PP} {O : Nat → Nat → Nat → Int32} {post : Option AV → AH → Prop} (ok : OKA A) (ht : t ≤ 60) (hT : ∀ u, u ≤ t → J 9 0 0 u = nL (pkT (runP A u) (aN A 0))) (hS : ∀ u, u ≤ t → J 10 0 0 u = nL (pkS (runP A u) (aN A 0))) (hd : 0 < d) (k : post (some (vI (iN (wbF A t t = true)))) (TF I J rd rr A dd P O)) : CPd G l d 80 0 96 [vR 0 0 0, vI (nI t)] (TF I J rd rr A dd P O) post := by
  have E : Ev G l 0 (mt 96) 80 80 [vR 0 0 0, vI (nI t)] (TF I J rd rr A dd P O) (fun r h' => r = some (vI (iN (wbF A t t = true))) ∧ h' = TF I J rd rr A dd P O) := by
    refine Ev_go iC_wasBefore rfl rfl rfl ⟨Nat.le_refl _, Nat.le_refl _⟩ (fun K hK => ?_)
    have hJ8 : ∀ u, getJ (TF I J rd rr A dd P O) 9 0 0 u = J 9 0 0 u := fun u => rfl
    have hJ9 : ∀ u, getJ (TF I J rd rr A dd P O) 10 0 0 u = J 10 0 0 u := fun u => rfl
    have loop : ∀ j u, u + j = t → wbF A t u = false → K 80 2 [some (vR 0 0 0), some (vI (nI t)), some (vI (nI u))] [] (TF I J rd rr A dd P O) := by
      intro j
      induction j with
      | zero =>
        intro u hu hw
        refine hK.1 [] 60 _ _ _ _ _ ?_
        rw [show u = t by omega] at hw ⊢
        refine And.intro (fun _ => ⟨Or.inl rfl, rfl, ?_, rfl⟩) (fun h => absurd (nI_le (Nat.le_refl _) (by omega)) h)
        unfold iN
        rw [hw, if_neg (by decide)]
      | succ j ih =>
        intro u hu hw
        refine hK.1 [(2, [true, true, true])] 60 _ _ _ _ _ ?_
        have hgt : ∀ k, k ≤ 60 → ¬ (60 : Int32) < nI k := by decide
        have e := ih (u + 1) (by omega)
        rw [wbF, hw, Bool.false_or, nI_succ] at e
        have hpu := pk_63 ok (run_WF ok u)
        have hpt := pk_63 ok (run_WF ok t)
        have hal := pk_alk (run_WF ok u) (run_WF ok t) (aN A 0) (Nat.le_refl _)
        refine And.intro (fun h => absurd h (nI_ge (by omega) (by omega))) (fun _ => And.intro (fun h => absurd h (hgt t ht)) (fun _ => ?_))
        refine ⟨nI_in (N := 61) (by omega) (by decide), nI_in (N := 61) (by omega) (by decide), ?_⟩
        rw [nI_clamp (n := u) (by omega), nI_clamp (n := t) (by omega), hJ8, hJ8, hT u (by omega), hT t (by omega)]
        refine And.intro (fun h7 => ?_) (fun h7 => ?_)
        · rw [lg_cmp_0, nL_eqv hpu.1 hpt.1] at h7
          show K 80 2 _ _ _
          refine e ?_
          cases hb : alkM (runP A u) (runP A t) (aN A 0) with
          | false => rfl
          | true => exact absurd (hal.mpr hb).1 h7
        · rw [lg_cmp_0, nL_eqv hpu.1 hpt.1] at h7
          refine ⟨nI_in (N := 61) (by omega) (by decide), nI_in (N := 61) (by omega) (by decide), ?_⟩
          rw [nI_clamp (n := u) (by omega), nI_clamp (n := t) (by omega), hJ9, hJ9, hS u (by omega), hS t (by omega)]
          refine And.intro (fun h8 => ?_) (fun h8 => ?_)
          · rw [lg_cmp_0, nL_eqv hpu.2 hpt.2] at h8
            show K 80 2 _ _ _
            refine e ?_
            cases hb : alkM (runP A u) (runP A t) (aN A 0) with
            | false => rfl
            | true => exact absurd (hal.mpr hb).2 h8
          · rw [lg_cmp_0, nL_eqv hpu.2 hpt.2] at h8
            have hb := hal.mp ⟨h7, h8⟩
            have hw1 : wbF A t (u + 1) = true := by rw [wbF, hb, Bool.or_true]
            have hw2 := wbF_up hw1 j
            rw [show u + 1 + j = t by omega] at hw2
            refine ⟨Or.inr rfl, rfl, ?_, rfl⟩
            unfold iN
            rw [hw2, if_pos rfl]
    refine hK.1 [(2, [true, true, true])] 60 _ _ _ _ _ ?_
    show K 80 2 _ _ _
    exact loop t 0 (by omega) rfl
  exact CPd_eq E hd rfl k
theorem c_round (ok : OKA A) : CC G l 93 6 [] A (vI (roundR A)) A := by
  intro I J rd rr hC
  obtain ⟨h1, h2, h3, h4⟩ := hC.1
  have h5 := ok.1.1
  unfold roundR
  refine Ev_go iC_round rfl rfl rfl ⟨Nat.le_refl _, Nat.le_refl _⟩ (fun K hK => ?_)
  refine hK.1 [(13, [true, true])] 100 _ _ _ _ _ ?_
  have loop : ∀ j t J1 P O, t + j = 61 → (∀ k, 20 ≤ k → J1 k = J k) → (∀ u, u < t → J1 9 0 0 u = nL (pkT (runP A u) (aN A 0))) → (∀ u, u < t → J1 10 0 0 u = nL (pkS (runP A u) (aN A 0))) → Ag (aN A 0) P (runP A t) → rndF A j t = rndF A 61 0 → K 80 13 [some (vR 0 0 0), some (vI (nI t))] [] (TF I J1 rd rr A (dy A + nI t) P O) := by
    intro j
    induction j with
    | zero =>
      intro t J1 P O ht hJ hT hS hA hR
      refine hK.1 [] 100 _ _ _ _ _ ?_
      rw [show t = 61 by omega]
      refine And.intro (fun _ => ?_) (fun h => absurd (by decide) h)
      refine ⟨rfl, (_, J1, rd, _), by rw [← hR]; rfl, rfl, hC.th, fun k hk => ⟨(frC.th (J := J) k hk).1, hJ k hk⟩⟩
    | succ j ih =>
      intro t J1 P O ht hJ hT hS hA hR
      refine hK.1 [(13, [true, true])] 100 _ _ _ _ _ ?_
      have hgt : ∀ k, k ≤ 60 → ¬ (60 : Int32) < nI k := by decide
      have hW : WF P (aN A 0) := WF.Ag hA.symm (run_WF ok t)
      have hpk := pk_Ag _ _ hA (Nat.le_refl _)
      rw [rndF] at hR
      refine And.intro (fun h => absurd h (hgt t (by omega))) (fun _ => ?_)
      refine t_packT ok hW (by decide) ?_
      refine ⟨nI_in (N := 61) (by omega) (by decide), ?_⟩
      rw [nI_clamp (n := t) (by omega)]
      show CPd G l 6 80 0 95 [vR 17 1 0] (TF I (upJ J1 9 0 0 t (nL (pkT P (aN A 0)))) rd rr A (dy A + nI t) P O) _
      refine t_packS ok hW (by decide) ?_
      refine ⟨nI_in (N := 61) (by omega) (by decide), ?_⟩
      rw [nI_clamp (n := t) (by omega)]
      show CPd G l 6 80 0 96 [vR 0 0 0, vI (nI t)] (TF I (upJ (upJ J1 9 0 0 t (nL (pkT P (aN A 0)))) 10 0 0 t (nL (pkS P (aN A 0)))) rd rr A (dy A + nI t) P O) _
      have e8 : ∀ u, u ≤ t → upJ (upJ J1 9 0 0 t (nL (pkT P (aN A 0)))) 10 0 0 t (nL (pkS P (aN A 0))) 9 0 0 u = nL (pkT (runP A u) (aN A 0)) := by
        intro u hu
        rw [upJ_at, if_neg (by omega), upJ_at]
        by_cases e : u = t
        · rw [if_pos ⟨rfl, rfl, rfl, e⟩, hpk.1, e]
        · rw [if_neg (fun q => e q.2.2.2)]
          exact hT u (by omega)
      have e9 : ∀ u, u ≤ t → upJ (upJ J1 9 0 0 t (nL (pkT P (aN A 0)))) 10 0 0 t (nL (pkS P (aN A 0))) 10 0 0 u = nL (pkS (runP A u) (aN A 0)) := by
        intro u hu
        rw [upJ_at]
        by_cases e : u = t
        · rw [if_pos ⟨rfl, rfl, rfl, e⟩, hpk.2, e]
        · rw [if_neg (fun q => e q.2.2.2), upJ_at, if_neg (by omega)]
          exact hS u (by omega)
      have hJ2 : ∀ k, 20 ≤ k → upJ (upJ J1 9 0 0 t (nL (pkT P (aN A 0)))) 10 0 0 t (nL (pkS P (aN A 0))) k = J k := by
        intro k hk
        rw [← hJ k hk]
        funext i j u
        rw [upJ_at, if_neg (by omega), upJ_at, if_neg (by omega)]
      generalize upJ (upJ J1 9 0 0 t (nL (pkT P (aN A 0)))) 10 0 0 t (nL (pkS P (aN A 0))) = J2 at e8 e9 hJ2
      refine k_wasBefore ok (by omega) e8 e9 (by decide) ?_
      refine And.intro (fun h7 => ?_) (fun h7 => ?_)
      · have h7 := iN_n h7
        rw [if_neg h7] at hR
        refine t_passDay (J := J2) hC ok hW (by decide) (fun O' => ?_)
        show K 80 13 _ _ _
        refine Kc (ih (t + 1) J2 _ O' (by omega) hJ2 (fun u hu => e8 u (by omega)) (fun u hu => e9 u (by omega)) (day_Ag hA h5) hR) (by rw [nI_succ]; rfl) ?_
        rw [nI_succ, Int32.add_assoc]
      · have h7 := iN_y h7
        rw [if_pos h7] at hR
        exact ⟨rfl, (_, J2, rd, _), by rw [← hR], rfl, hC.th, fun k hk => ⟨(frC.th (J := J) k hk).1, hJ2 k hk⟩⟩
  refine k_think hC ok (by decide) (fun P hP => ?_)
  show K 80 13 _ _ _
  refine Kc (loop 61 0 J P (I 14) (by omega) (fun _ _ => rfl) (fun u hu => absurd hu (by omega)) (fun u hu => absurd hu (by omega)) hP rfl) rfl ?_
  rw [show dy A + nI 0 = dy A from Int32.add_zero _]
end T49
