section T46
variable {G : GT} {l : Launch} {I : HI} {J : HJ} {rd : Option AO} {rr : Nat → Nat} {A : ST}
/-- fields and rows that no state is shown by -/
theorem MF.fr2 {I' : HI} {Q : PP} {S : HI} {T : HJ} (h : MF G l I Q S T A) (h20 : ∀ t, ¬ (29 ≤ t ∧ t ≤ 34) → I' 20 0 0 t = I 20 0 0 t) (hk : ∀ k, 21 ≤ k → k ≠ 28 → k ≠ 29 → k ≠ 30 → I' k = I k) : MF G l I' Q S T A := by
  unfold MF at *
  rw [h20 10 (by decide), h20 7 (by decide), h20 4 (by decide), h20 3 (by decide), h20 36 (by decide), h20 37 (by decide), h20 38 (by decide), h20 6 (by decide), hk 31 (by decide) (by decide) (by decide) (by decide), hk 23 (by decide) (by decide) (by decide) (by decide), hk 32 (by decide) (by decide) (by decide) (by decide), hk 33 (by decide) (by decide) (by decide) (by decide), hk 34 (by decide) (by decide) (by decide) (by decide), hk 35 (by decide) (by decide) (by decide) (by decide)]
  exact ⟨h.1, ⟨h.2.1.1, h.2.1.2.1.same (by rw [hk 21 (by decide) (by decide) (by decide) (by decide)]) (by rw [hk 22 (by decide) (by decide) (by decide) (by decide)]), h.2.1.2.2⟩, h.2.2⟩
def bst (I : HI) : B3 := (I 20 0 0 32, (I 20 0 0 33, I 20 0 0 34))
theorem ok_e {e : Nat → Int32} (ok : OKA A) (he : EW (aN A 0) e) : OKA (stP A (eP A e)) := ok.P (eP_WF ok.1.2.2.2.2 he) (fun p hp => rfl)
theorem tr_congr {n : Nat} (h5 : aN A 0 ≤ 5) : ∀ k (e e' : Nat → Int32) dg b, k ≤ aN A 0 → (∀ i, i < aN A 0 - k → e i = e' i) → trS A n k e dg b = trS A n k e' dg b
  | 0, e, e', dg, b, _, h => lf_congr h5 (fun p hp => h p (by omega))
  | k + 1, e, e', dg, b, hk, h => by
    rw [trS, trS]
    refine fd_congr _ _ (fun c hc b => tr_congr h5 k _ _ _ _ (by omega) (fun i hi => ?_))
    unfold va_up
    by_cases hip : i = aN A 0 - (k + 1)
    · rw [if_pos hip, if_pos hip]
    · rw [if_neg hip, if_neg hip]
      exact h i (by omega)
/-- from the p-th on: what is best then, the ears ahead as they were -/
theorem e_tries {n : Nat} (ok : OKA A) (hn : n ≤ 3) : ∀ (k p : Nat) (e : Nat → Int32) (dg : Int32) (x : XM), p + k = aN A 0 → MF G l x.1 x.2.1 x.2.2.1 x.2.2.2 (stP A (eP A e)) → EW (aN A 0) e →
    Ev G l (70 + k) (mt 188) 80 80 [vR 20 0 0, vI (nI p), vI (nI n), vI dg] (mf x.1 J rd rr x.2.1 x.2.2.1 x.2.2.2) (fun v h' => ∃ q : XM × (Nat → Int32), v = none ∧ h' = mf q.1.1 J rd rr q.1.2.1 q.1.2.2.1 q.1.2.2.2 ∧ MF G l q.1.1 q.1.2.1 q.1.2.2.1 q.1.2.2.2 (stP A (eP A q.2)) ∧ EW (aN A 0) q.2 ∧ (∀ i, i < p → q.2 i = e i) ∧ frM x.1 q.1.1 ∧ q.1.1 30 = x.1 30 ∧ bst q.1.1 = trS A n k e dg (bst x.1))
  | 0, p, e, dg, x, hp, hC, he => by
    have h5 := ok.1.1
    have hd9 := ok.1.2.1
    obtain ⟨h1, h2, h3, h4⟩ := hC.1
    have ok1 := ok_e ok he
    rw [show p = aN A 0 by omega]
    refine Ev_go iM_tries rfl rfl rfl ⟨Nat.le_refl _, Nat.le_refl _⟩ (fun K hK => ?_)
    have hWQ : WF x.2.1 (aN A 0) := hC.W ok1
    have h0 : ∀ k p, dayN (bO A) (dy A) (aN A 0) x.2.1 k p 0 = x.2.1 p 0 := fun k p => dayN_a k
    have loop : ∀ j k S' T', k + j = n → MOK (aN A 3) (aB A) S' T' → K 80 15 [some (vR 20 0 0), some (vI (nI (aN A 0))), some (vI (nI n)), some (vI dg), some (vI (nI k)), none] [] (mf (rI x.1 x.2.1 (nI (aN A 1 + k))) J rd rr (dayN (bO A) (dy A) (aN A 0) x.2.1 k) S' T') := by
      intro j
      induction j with
      | zero =>
        intro k S' T' hk hM
        refine hK.1 [] 100 _ _ _ _ _ ?_
        rw [show k = n by omega]
        refine And.intro (fun _ => ?_) (fun h => absurd (nI_le (Nat.le_refl _) (by omega)) h)
        have hm : rI x.1 x.2.1 (nI (aN A 1 + n)) 20 0 0 10 = nI (aN A 0) := by rw [rI_t (by decide) (by decide)]; exact h1
        refine c_asleepMany hm h5 (by decide) ?_
        refine c_tiredAll hm h5 (by decide) ?_
        refine r_back (A := stP A (eP A e)) hC ok1 hM (h0 n) (by decide) (fun Q2 hF _ => ?_)
        have hA : Ag (aN A 0) (dayN (bO A) (dy A) (aN A 0) x.2.1 n) (dayN (bO A) (dy A) (aN A 0) (eP A e) n) := dayN_Ag h4 h5 n
        rw [asl_Ag _ _ hA (Nat.le_refl _), sum_Ag _ _ hA (Nat.le_refl _)]
        have hlf : lfS A n e dg (bst x.1) = if (bst x.1).1 = -1 ∨ aslS (dayN (bO A) (dy A) (aN A 0) (eP A e) n) (aN A 0) < (bst x.1).2.1 ∨ (aslS (dayN (bO A) (dy A) (aN A 0) (eP A e) n) (aN A 0) = (bst x.1).2.1 ∧ sumT (dayN (bO A) (dy A) (aN A 0) (eP A e) n) (aN A 0) < (bst x.1).2.2) then (dg, (aslS (dayN (bO A) (dy A) (aN A 0) (eP A e) n) (aN A 0), sumT (dayN (bO A) (dy A) (aN A 0) (eP A e) n) (aN A 0))) else bst x.1 := rfl
        generalize aslS (dayN (bO A) (dy A) (aN A 0) (eP A e) n) (aN A 0) = aa at hlf ⊢
        generalize sumT (dayN (bO A) (dy A) (aN A 0) (eP A e) n) (aN A 0) = su at hlf ⊢
        have h32 : getI (mf (rI x.1 x.2.1 (nI (aN (stP A (eP A e)) 1))) J rd rr Q2 S' T') 20 0 0 32 = (bst x.1).1 := by rw [mf_I (by decide), rI_t (by decide) (by decide)]; rfl
        have h33 : getI (mf (rI x.1 x.2.1 (nI (aN (stP A (eP A e)) 1))) J rd rr Q2 S' T') 20 0 0 33 = (bst x.1).2.1 := by rw [mf_I (by decide), rI_t (by decide) (by decide)]; rfl
        have h34 : getI (mf (rI x.1 x.2.1 (nI (aN (stP A (eP A e)) 1))) J rd rr Q2 S' T') 20 0 0 34 = (bst x.1).2.2 := by rw [mf_I (by decide), rI_t (by decide) (by decide)]; rfl
        have hno : lfS A n e dg (bst x.1) = bst x.1 → ∃ q : XM × (Nat → Int32), (none : Option AV) = none ∧ mf (rI x.1 x.2.1 (nI (aN (stP A (eP A e)) 1))) J rd rr Q2 S' T' = mf q.1.1 J rd rr q.1.2.1 q.1.2.2.1 q.1.2.2.2 ∧ MF G l q.1.1 q.1.2.1 q.1.2.2.1 q.1.2.2.2 (stP A (eP A q.2)) ∧ EW (aN A 0) q.2 ∧ (∀ i, i < aN A 0 → q.2 i = e i) ∧ frM x.1 q.1.1 ∧ q.1.1 30 = x.1 30 ∧ bst q.1.1 = trS A n 0 e dg (bst x.1) := by
          intro hl
          refine ⟨((rI x.1 x.2.1 (nI (aN (stP A (eP A e)) 1)), Q2, S', T'), e), rfl, rfl, hF, he, fun i _ => rfl, frM.rI, rI_k (I := x.1) (Q := x.2.1) (x := nI (aN A 1)) (k := 30) (by decide) (by decide), ?_⟩
          show bst (rI x.1 x.2.1 (nI (aN A 1))) = lfS A n e dg (bst x.1)
          rw [hl]
          unfold bst
          rw [rI_t (by decide) (by decide), rI_t (by decide) (by decide), rI_t (by decide) (by decide)]
        have hyes : lfS A n e dg (bst x.1) = (dg, (aa, su)) → ∃ q : XM × (Nat → Int32), (none : Option AV) = none ∧ setI (setI (setI (mf (rI x.1 x.2.1 (nI (aN (stP A (eP A e)) 1))) J rd rr Q2 S' T') 20 0 0 32 dg) 20 0 0 33 aa) 20 0 0 34 su = mf q.1.1 J rd rr q.1.2.1 q.1.2.2.1 q.1.2.2.2 ∧ MF G l q.1.1 q.1.2.1 q.1.2.2.1 q.1.2.2.2 (stP A (eP A q.2)) ∧ EW (aN A 0) q.2 ∧ (∀ i, i < aN A 0 → q.2 i = e i) ∧ frM x.1 q.1.1 ∧ q.1.1 30 = x.1 30 ∧ bst q.1.1 = trS A n 0 e dg (bst x.1) := by
          intro hl
          rw [mf_wI (by decide), mf_wI (by decide), mf_wI (by decide)]
          refine ⟨((upI (upI (upI (rI x.1 x.2.1 (nI (aN (stP A (eP A e)) 1))) 20 0 0 32 dg) 20 0 0 33 aa) 20 0 0 34 su, Q2, S', T'), e), rfl, rfl, ?_, he, fun i _ => rfl, ?_, ?_, ?_⟩
          · show MF G l (upI (upI (upI (rI x.1 x.2.1 (nI (aN (stP A (eP A e)) 1))) 20 0 0 32 dg) 20 0 0 33 aa) 20 0 0 34 su) Q2 S' T' (stP A (eP A e))
            refine hF.fr2 (fun t ht => ?_) (fun k h1 h2 h3 h4 => ?_)
            · rw [up20t (by omega), up20t (by omega), up20t (by omega)]
            · rw [up20 (by omega), up20 (by omega), up20 (by omega)]
          · intro k hk
            show upI (upI (upI (rI x.1 x.2.1 (nI (aN (stP A (eP A e)) 1))) 20 0 0 32 dg) 20 0 0 33 aa) 20 0 0 34 su k = x.1 k
            rw [up20 (by omega), up20 (by omega), up20 (by omega), rI_k (by omega) (by omega)]
          · show upI (upI (upI (rI x.1 x.2.1 (nI (aN (stP A (eP A e)) 1))) 20 0 0 32 dg) 20 0 0 33 aa) 20 0 0 34 su 30 = x.1 30
            rw [up20 (by decide), up20 (by decide), up20 (by decide), rI_k (by decide) (by decide)]
          · show bst (upI (upI (upI (rI x.1 x.2.1 (nI (aN (stP A (eP A e)) 1))) 20 0 0 32 dg) 20 0 0 33 aa) 20 0 0 34 su) = lfS A n e dg (bst x.1)
            rw [hl]
            unfold bst
            rw [upI_s, up20t (t' := 33) (by decide), upI_s, up20t (t' := 32) (by decide), up20t (t' := 32) (by decide), upI_s]
        rw [hlf] at hno hyes
        refine And.intro (fun h8 => ?_) (fun h8 => And.intro (fun h9 => ?_) (fun h9 => And.intro (fun h10 => ?_) (fun h10 => And.intro (fun h11 => ?_) (fun h11 => ?_))))
        all_goals try rw [h32] at h8
        · exact ⟨rfl, hyes (if_pos (Or.inl h8))⟩
        all_goals try rw [h33] at h9
        · exact ⟨rfl, hyes (if_pos (Or.inr (Or.inl h9)))⟩
        all_goals try rw [h33] at h10
        · refine ⟨rfl, hno (if_neg ?_)⟩
          rintro (q | q | q)
          · exact h8 q
          · exact h9 q
          · exact h10 q.1
        all_goals try rw [h34] at h11
        · refine ⟨rfl, hno (if_neg ?_)⟩
          rintro (q | q | q)
          · exact h8 q
          · exact h9 q
          · have := q.2; grind
        · exact ⟨rfl, hyes (if_pos (Or.inr (Or.inr ⟨h10, by grind⟩)))⟩
      | succ j ih =>
        intro k S' T' hk hM
        refine hK.1 [(15, [true, true, true, true, true, false])] 100 _ _ _ _ _ ?_
        refine And.intro (fun h => absurd h (nI_ge (by omega) (by omega))) (fun _ => ?_)
        refine r_passes (A := stP A (eP A e)) hC ok1 (by show aN A 1 + k < 2048; omega) hM (dayN_WF hWQ k) (by decide) (fun q hq => ?_)
        show K 80 15 _ _ _
        refine Kc (ih (k + 1) q.1 q.2 (by omega) hq) (by rw [nI_succ]; rfl) ?_
        rw [dayN, show aN A 1 + (k + 1) = aN A 1 + k + 1 by omega]
        unfold dy
        rw [nI_plus]
        rfl
    refine hK.1 [(15, [true, true, true, true, true, false])] 100 _ _ _ _ _ ?_
    refine And.intro (fun h => ?_) (fun _ => ?_)
    · rw [mf_I (by decide), h1] at h
      exact absurd rfl h
    · refine r_keeps (A := stP A (eP A e)) hC (by decide) ?_
      show K 80 15 _ _ _
      exact loop n 0 x.2.2.1 x.2.2.2 (by omega) hC.2.1.2.2
  | k + 1, p, e, dg, x, hp, hC, he => by
    have h5 := ok.1.1
    have hrec := fun e dg x => e_tries ok hn k (p + 1) e dg x
    have hpm : aN A 0 - (k + 1) = p := by omega
    rw [trS, hpm]
    refine Ev_go iM_tries rfl rfl rfl ⟨Nat.le_refl _, Nat.le_refl _⟩ (fun K hK => ?_)
    -- t steps of the loop are behind, c choices
    have loop : ∀ j t c (y : XM) (e' : Nat → Int32), t + j = aN A 0 + 1 → c = (if t ≤ p + 1 then t else t - 1) → MF G l y.1 y.2.1 y.2.2.1 y.2.2.2 (stP A (eP A e')) → EW (aN A 0) e' → (∀ i, i < p → e' i = e i) → frM x.1 y.1 → y.1 30 = x.1 30 → bst y.1 = fdN (fun c b => trS A n k (va_up e p (ec p c)) (10 * dg + ec p c + 1) b) c (bst x.1) → K 80 103 [some (vR 20 0 0), some (vI (nI p)), some (vI (nI n)), some (vI dg), some (vI (nI t + -1)), none] [] (mf y.1 J rd rr y.2.1 y.2.2.1 y.2.2.2) := by
      intro j
      induction j with
      | zero =>
        intro t c y e' ht hc hC1 he' hlow hf h30 hb
        refine hK.1 [] 60 _ _ _ _ _ ?_
        rw [if_neg (by omega)] at hc
        rw [show t = aN A 0 + 1 by omega, nI_m1]
        refine And.intro (fun _ => ?_) (fun h => absurd ?_ h)
        · refine ⟨rfl, (y, e'), rfl, rfl, hC1, he', hlow, hf, h30, ?_⟩
          rw [show aN A 0 = c by omega]
          exact hb
        · rw [mf_I (by decide), hC1.1.1]
          exact nI_le (Nat.le_refl _) (by show aN A 0 < 2 ^ 31; omega)
      | succ j ih =>
        intro t c y e' ht hc hC1 he' hlow hf h30 hb
        refine hK.1 [(103, [true, true, true, true, true, false])] 60 _ _ _ _ _ ?_
        have hinc : nI t + -1 + 1 = nI (t + 1) + -1 := by rw [nI_succ]; grind
        have hge : ∀ m, m ≤ 5 → ∀ t, t ≤ m → ¬ nI m ≤ nI t + -1 := by decide
        have heq : ∀ p, p < 5 → ∀ t, t ≤ 5 → (nI t + -1 = nI p ↔ t = p + 1) := by decide
        refine And.intro (fun h => absurd h ?_) (fun _ => And.intro (fun h7 => ?_) (fun h7 => ?_))
        · rw [mf_I (by decide), hC1.1.1]
          exact hge _ h5 t (by omega)
        · have htp := (heq p (by omega) t (by omega)).mp h7
          rw [if_pos (by omega)] at hc
          show K 80 103 _ _ _
          refine Kc (ih (t + 1) c y e' (by omega) (by rw [if_neg (by omega)]; omega) hC1 he' hlow hf h30 hb) ?_ rfl
          rw [← hinc]
          rfl
        · have htp : t ≠ p + 1 := fun q => h7 ((heq p (by omega) t (by omega)).mpr q)
          have hec : nI t + -1 = ec p c ∧ c < aN A 0 ∧ c + 1 = (if t + 1 ≤ p + 1 then t + 1 else t + 1 - 1) := by
            by_cases hle : t ≤ p
            · rw [if_pos (by omega)] at hc
              subst hc
              refine ⟨by unfold ec; rw [if_pos hle], by omega, by rw [if_pos (by omega)]⟩
            · rw [if_neg (by omega)] at hc
              refine ⟨?_, by omega, by rw [if_neg (by omega)]; omega⟩
              unfold ec
              rw [if_neg (by omega), show t = c + 1 by omega, nI_m1]
          obtain ⟨hec, hcm, hc1⟩ := hec
          rw [hec]
          refine c_lays (p := p) (w := 4) rfl rfl (by omega) (by decide) (by omega) ?_
          have hC2 : MF G l y.1 (upP y.2.1 p 4 (ec p c)) y.2.2.1 y.2.2.2 (stP A (eP A (va_up e' p (ec p c)))) := by
            rw [eP_up]
            have h4 : Ag (aN A 0) y.2.1 (eP A e') := hC1.1.2.2.2
            exact hC1.P (A := stP A (eP A e')) (h4.up rfl)
          have he2 : EW (aN A 0) (va_up e' p (ec p c)) := he'.up (ec_ok (by omega) hcm)
          show CPd _ _ _ _ _ _ _ _ _
          rw [← nI_succ p]
          refine CPd_of (hrec (va_up e' p (ec p c)) (10 * dg + ec p c + 1) (y.1, upP y.2.1 p 4 (ec p c), y.2.2.1, y.2.2.2) (by omega) hC2 he2) (show 70 + k < 70 + (k + 1) by omega) rfl (fun v h' q => ?_)
          obtain ⟨q, rfl, rfl, q1, q2, q3, q4, q5, q6⟩ := q
          show K 80 103 _ _ _
          refine Kc (ih (t + 1) (c + 1) q.1 q.2 (by omega) hc1 q1 q2 (fun i hi => ?_) (fun k hk => (q4 k hk).trans (hf k hk)) (q5.trans h30) ?_) ?_ rfl
          · rw [q3 i (by omega)]
            unfold va_up
            rw [if_neg (by omega)]
            exact hlow i hi
          · rw [q6, fdN]
            show trS A n k (va_up e' p (ec p c)) (10 * dg + ec p c + 1) (bst y.1) = _
            rw [hb]
            refine tr_congr h5 k _ _ _ _ (by omega) (fun i hi => ?_)
            unfold va_up
            by_cases hip : i = p
            · rw [if_pos hip, if_pos hip]
            · rw [if_neg hip, if_neg hip]
              exact hlow i (by omega)
          · rw [← hinc, hec]
            rfl
    refine hK.1 [(103, [true, true, true, true, true, false])] 100 _ _ _ _ _ ?_
    refine And.intro (fun _ => ?_) (fun h => ?_)
    · show K 80 103 _ _ _
      exact Kc (loop (aN A 0 + 1) 0 0 x e (by omega) (by rw [if_pos (by omega)]) hC he (fun i _ => rfl) frM.r rfl rfl) rfl rfl
    · rw [mf_I (by decide), hC.1.1] at h
      have := nI_ij h (by omega) (by show aN A 0 < 2 ^ 31; omega)
      have this : p = aN A 0 := this
      omega
end T46
