section T50
variable {G : GT} {l : Launch} {I : HI} {J : HJ} {rd : Option AO} {rr : Nat → Nat} {A : ST}
theorem rI_wk {Q : PP} {x v : Int32} {k t : Nat} (h : k ≠ 20) (h' : k ≠ 28) : upI (rI I Q x) k 0 0 t v = rI (upI I k 0 0 t v) Q x := by
  funext k' i' j' t'
  simp only [upI, rI, keepI, wrI]
  grind
def snF (P : PP) (p : Nat) : Nat := ((P p 2).toNatClampNeg * 100 + (P p 3).toNatClampNeg) * 2 + (P p 6).toNatClampNeg
theorem sn_Ag {P Q : PP} {m p : Nat} (h : Ag m P Q) (hp : p < m) : snF P p = snF Q p := by
  unfold snF
  rw [h p hp 2 (by omega), h p hp 3 (by omega), h p hp 6 (by omega)]
theorem sn_lt {P : PP} {m p : Nat} (h : WF P m) (hp : p < m) : snF P p < 20000 := by
  have hq := h p hp
  obtain ⟨a, ha, ea⟩ := hq.2.2.1
  obtain ⟨b, hb, eb⟩ := hq.2.2.2.1
  have h6 : (P p 6).toNatClampNeg ≤ 1 := by rcases hq.2.2.2.2.2.2 with e | e <;> rw [e] <;> decide
  unfold snF
  rw [ea, eb, nI_clamp (by omega), nI_clamp (by omega)]
  omega
theorem sn_alk {P Q : PP} {m p : Nat} (hP : WF P m) (hQ : WF Q m) (hp : p < m) : snF P p = snF Q p ↔ alk P Q p = true := by
  have h1 := hP p hp
  have h2 := hQ p hp
  obtain ⟨a, ha, ea⟩ := h1.2.2.1
  obtain ⟨b, hb, eb⟩ := h1.2.2.2.1
  obtain ⟨a', ha', ea'⟩ := h2.2.2.1
  obtain ⟨b', hb', eb'⟩ := h2.2.2.2.1
  obtain ⟨s, hs, es⟩ : ∃ s, s ≤ 1 ∧ P p 6 = nI s := by rcases h1.2.2.2.2.2.2 with e | e; exact ⟨0, by omega, e⟩; exact ⟨1, by omega, e⟩
  obtain ⟨s', hs', es'⟩ : ∃ s, s ≤ 1 ∧ Q p 6 = nI s := by rcases h2.2.2.2.2.2.2 with e | e; exact ⟨0, by omega, e⟩; exact ⟨1, by omega, e⟩
  unfold snF alk
  rw [decide_eq_true_iff, ea, eb, es, ea', eb', es', nI_clamp (by omega), nI_clamp (by omega), nI_clamp (by omega), nI_clamp (by omega), nI_clamp (by omega), nI_clamp (by omega)]
  constructor
  · intro h
    have e3 : a = a' := by omega
    have e4 : b = b' := by omega
    have e5 : s = s' := by omega
    rw [e3, e4, e5]
    exact ⟨rfl, rfl, rfl⟩
  · rintro ⟨h3, h4, h5⟩
    have e3 := nI_ij h3 (by omega) (by omega)
    have e4 := nI_ij h4 (by omega) (by omega)
    have e5 := nI_ij h5 (by omega) (by omega)
    rw [e3, e4, e5]
theorem alkM_f {P Q : PP} {m : Nat} (h : alkM P Q m = false) : ∀ j, alkM P Q (m + j) = false
  | 0 => h
  | j + 1 => by rw [show m + (j + 1) = (m + j) + 1 by omega, alkM, alkM_f h j]; rfl
theorem nI_5 {t p : Nat} : (5 : Int32) * nI t + nI p = nI (5 * t + p) := by
  rw [show (5 : Int32) = nI 5 from rfl, nI_mul, nI_plus]
theorem e_isAlike {u t : Nat} {P : PP} {S : HI} {T : HJ} (ok : OKA A) (hm : I 20 0 0 10 = nI (aN A 0)) (hu : u ≤ 60) (ht : t ≤ 60) (hs : ∀ p, p < aN A 0 → I 29 0 0 (5 * u + p) = nI (snF (runP A u) p)) (hs' : ∀ p, p < aN A 0 → I 29 0 0 (5 * t + p) = nI (snF (runP A t) p)) :
    Ev G l 0 (mt 186) 80 80 [vR 20 0 0, vI (nI u), vI (nI t)] (mf I J rd rr P S T) (fun r h' => r = some (vI (iN (alkM (runP A u) (runP A t) (aN A 0) = true))) ∧ h' = mf I J rd rr P S T) := by
  have h5 := ok.1.1
  refine Ev_go iM_isAlike rfl rfl rfl ⟨Nat.le_refl _, Nat.le_refl _⟩ (fun K hK => ?_)
  have loop : ∀ j p, p + j = aN A 0 → alkM (runP A u) (runP A t) p = true → K 80 2 [some (vR 20 0 0), some (vI (nI u)), some (vI (nI t)), some (vI (nI p))] [] (mf I J rd rr P S T) := by
    intro j
    induction j with
    | zero =>
      intro p hp ha
      refine hK.1 [] 60 _ _ _ _ _ ?_
      rw [show p = aN A 0 by omega] at ha ⊢
      refine And.intro (fun _ => ⟨Or.inr rfl, rfl, ?_, rfl⟩) (fun h => absurd ?_ h)
      · unfold iN
        rw [if_pos ha]
      · rw [mf_I (by decide), hm]
        exact nI_le (Nat.le_refl _) (by omega)
    | succ j ih =>
      intro p hp ha
      refine hK.1 [(2, [true, true, true, true])] 60 _ _ _ _ _ ?_
      have e := ih (p + 1) (by omega)
      rw [alkM, ha, Bool.true_and, nI_succ] at e
      refine And.intro (fun h => absurd h ?_) (fun _ => ?_)
      · rw [mf_I (by decide), hm]
        exact nI_ge (by omega) (by omega)
      · show vp_in _ _ ∧ vp_in _ _ ∧ _
        rw [nI_5, nI_5]
        refine ⟨nI_in (N := 305) (by omega) (by decide), nI_in (N := 305) (by omega) (by decide), ?_⟩
        rw [nI_clamp (n := 5 * u + p) (by omega), nI_clamp (n := 5 * t + p) (by omega), mf_I (by simp), mf_I (by simp), hs p (by omega), hs' p (by omega)]
        have l1 := sn_lt (run_WF ok u) (show p < aN A 0 by omega)
        have l2 := sn_lt (run_WF ok t) (show p < aN A 0 by omega)
        have hal := sn_alk (run_WF ok u) (run_WF ok t) (show p < aN A 0 by omega)
        refine And.intro (fun h7 => ?_) (fun h7 => ?_)
        · show K 80 2 _ _ _
          exact e (hal.mp (nI_ij h7 (by omega) (by omega)))
        · have hb : alk (runP A u) (runP A t) p = false := by
            cases hb : alk (runP A u) (runP A t) p with
            | false => rfl
            | true => exact absurd (by rw [hal.mpr hb]) h7
          have h1 : alkM (runP A u) (runP A t) (p + 1) = false := by rw [alkM, hb, Bool.and_false]
          have h2 := alkM_f h1 j
          rw [show p + 1 + j = aN A 0 by omega] at h2
          refine ⟨Or.inl rfl, rfl, ?_, rfl⟩
          unfold iN
          rw [h2, if_neg (by decide)]
  refine hK.1 [(2, [true, true, true, true])] 60 _ _ _ _ _ ?_
  show K 80 2 _ _ _
  exact loop (aN A 0) 0 (by omega) rfl
theorem m_round (ok : OKA A) : MC G l 185 100 [] A (vI (roundR A)) A := by
  intro I J rd rr Q S T hC
  obtain ⟨h1, h2, h3, h4⟩ := hC.1
  have h5 := ok.1.1
  have hd9 := ok.1.2.1
  unfold roundR
  refine Ev_go iM_round rfl rfl rfl ⟨Nat.le_refl _, Nat.le_refl _⟩ (fun K hK => ?_)
  refine hK.1 [(8, [true, true, true, false])] 100 _ _ _ _ _ ?_
  have hgt : ∀ k, k ≤ 60 → ¬ (60 : Int32) < nI k := by decide
  have hWQ : WF Q (aN A 0) := hC.W ok
  have h0 : ∀ k p, dayN (bO A) (dy A) (aN A 0) Q k p 0 = Q p 0 := fun k p => dayN_a k
  -- the state behind t days, the rows seen ahead
  have fin : ∀ (R : Int32) (t : Nat) (I1 : HI) (Q' : PP) (S' : HI) (T' : HJ) (x : Int32), (R = -1 → 60 < nI t) → R = rndF A 61 0 → MF G l I1 Q S T A → frM I I1 → MOK (aN A 3) (aB A) S' T' → (∀ p, Q' p 0 = Q p 0) → K 80 8 [some (vR 20 0 0), some (vI R), some (vI (nI t)), none] [] (mf (rI I1 Q x) J rd rr Q' S' T') := by
    intro R t I1 Q' S' T' x hk hR hC1 hf hM h0
    refine hK.1 [] 100 _ _ _ _ _ ?_
    have done : ∀ Q2, MF G l (rI I1 Q (nI (aN A 1))) Q2 S' T' A → ∃ y : XM, some (vI R) = some (vI (rndF A 61 0)) ∧ mf (rI I1 Q (nI (aN A 1))) J rd rr Q2 S' T' = mf y.1 J rd rr y.2.1 y.2.2.1 y.2.2.2 ∧ MF G l y.1 y.2.1 y.2.2.1 y.2.2.2 A ∧ frM I y.1 :=
      fun Q2 hF => ⟨(_, Q2, S', T'), by rw [hR], rfl, hF, fun k hk => (frM.rI k hk).trans (hf k hk)⟩
    refine And.intro (fun _ => ?_) (fun hk' => And.intro (fun _ => ?_) (fun hR1 => absurd (hk hR1) hk'))
    · refine r_back hC1 ok hM h0 (by decide) (fun Q2 hF _ => ?_)
      exact ⟨rfl, done Q2 hF⟩
    · refine r_back hC1 ok hM h0 (by decide) (fun Q2 hF _ => ?_)
      exact ⟨rfl, done Q2 hF⟩
  have loop : ∀ j t I1 S' T', t + j = 61 → MF G l I1 Q S T A → frM I I1 → (∀ u, u < t → ∀ p, p < aN A 0 → I1 29 0 0 (5 * u + p) = nI (snF (runP A u) p)) → MOK (aN A 3) (aB A) S' T' → rndF A j t = rndF A 61 0 → K 80 8 [some (vR 20 0 0), some (vI (-1)), some (vI (nI t)), none] [] (mf (rI I1 Q (nI (aN A 1 + t))) J rd rr (dayN (bO A) (dy A) (aN A 0) Q t) S' T') := by
    intro j
    induction j with
    | zero =>
      intro t I1 S' T' ht hC1 hf hs hM hR
      refine fin (-1) t I1 _ S' T' _ (fun _ => ?_) hR hC1 hf hM (h0 t)
      rw [show t = 61 by omega]
      decide
    | succ j ih =>
      intro t I1 S' T' ht hC1 hf hs hM hR
      have hA : Ag (aN A 0) (dayN (bO A) (dy A) (aN A 0) Q t) (runP A t) := dayN_Ag h4 h5 t
      have hWt : WF (dayN (bO A) (dy A) (aN A 0) Q t) (aN A 0) := dayN_WF hWQ t
      -- looking back
      have look : ∀ j' u I2 (R : Int32), u + j' = t → MF G l I2 Q S T A → frM I I2 → (∀ u, u ≤ t → ∀ p, p < aN A 0 → I2 29 0 0 (5 * u + p) = nI (snF (runP A u) p)) → R = (if wbF A t u = true then nI t else -1) → K 80 73 [some (vR 20 0 0), some (vI R), some (vI (nI t)), some (vI (nI u))] [] (mf (rI I2 Q (nI (aN A 1 + t))) J rd rr (dayN (bO A) (dy A) (aN A 0) Q t) S' T') := by
        intro j'
        induction j' with
        | zero =>
          intro u I2 R hu hC2 hf2 hs2 hRR
          refine hK.1 [(8, [true, true, true, false])] 100 _ _ _ _ _ ?_
          rw [show u = t by omega] at hRR ⊢
          refine And.intro (fun _ => ?_) (fun h => absurd (nI_le (Nat.le_refl _) (by omega)) h)
          refine r_passes hC2 ok (by omega) hM hWt (by decide) (fun q hq => ?_)
          have e1 : dayS (bO A) (nI (aN A 1 + t)) (aN A 0) (dayN (bO A) (dy A) (aN A 0) Q t) = dayN (bO A) (dy A) (aN A 0) Q (t + 1) := by
            rw [dayN]; unfold dy; rw [nI_plus]
          rw [e1]
          rw [rndF] at hR
          show K 80 8 _ _ _
          by_cases hw : wbF A t t = true
          · rw [if_pos hw] at hR hRR
            rw [hRR]
            refine Kc (fin (nI t) (t + 1) I2 _ q.1 q.2 (nI (aN A 1 + t + 1)) (fun e => ?_) hR hC2 hf2 hq (h0 (t + 1))) (by rw [nI_succ]; rfl) rfl
            have := congrArg Int32.toInt e
            rw [nI_toInt (by omega)] at this
            have h5' : (-1 : Int32).toInt = -1 := by decide
            omega
          · rw [if_neg hw] at hR hRR
            rw [hRR]
            exact Kc (ih (t + 1) I2 q.1 q.2 (by omega) hC2 hf2 (fun u hu => hs2 u (by omega)) hq hR) (by rw [nI_succ]; rfl) rfl
        | succ j' ih2 =>
          intro u I2 R hu hC2 hf2 hs2 hRR
          refine hK.1 [(73, [true, true, true, true])] 100 _ _ _ _ _ ?_
          refine And.intro (fun h => absurd h (nI_ge (by omega) (by omega))) (fun _ => ?_)
          have hm2 : rI I2 Q (nI (aN A 1 + t)) 20 0 0 10 = nI (aN A 0) := by rw [rI_t (by decide) (by decide)]; exact hC2.1.1
          refine CPd_eq (e_isAlike (u := u) (t := t) ok hm2 (by omega) (by omega) (fun p hp => by rw [rI_k (by decide) (by decide)]; exact hs2 u (by omega) p hp) (fun p hp => by rw [rI_k (by decide) (by decide)]; exact hs2 t (by omega) p hp)) (by decide) rfl ?_
          refine And.intro (fun h7 => ?_) (fun h7 => ?_)
          · have h7 := iN_n h7
            show K 80 73 _ _ _
            refine Kc (ih2 (u + 1) I2 R (by omega) hC2 hf2 hs2 ?_) (by rw [nI_succ]; rfl) rfl
            rw [hRR, wbF, Bool.eq_false_iff.mpr h7, Bool.or_false]
          · have h7 := iN_y h7
            show K 80 73 _ _ _
            refine Kc (ih2 (u + 1) I2 (nI t) (by omega) hC2 hf2 hs2 ?_) (by rw [nI_succ]; rfl) rfl
            rw [wbF, h7, Bool.or_true, if_pos rfl]
      -- what is seen is laid down
      have note : ∀ j' p I2, p + j' = aN A 0 → MF G l I2 Q S T A → frM I I2 → (∀ u, u < t → ∀ p, p < aN A 0 → I2 29 0 0 (5 * u + p) = nI (snF (runP A u) p)) → (∀ q, q < p → I2 29 0 0 (5 * t + q) = nI (snF (runP A t) q)) → K 80 21 [some (vR 20 0 0), some (vI (-1)), some (vI (nI t)), some (vI (nI p))] [] (mf (rI I2 Q (nI (aN A 1 + t))) J rd rr (dayN (bO A) (dy A) (aN A 0) Q t) S' T') := by
        intro j'
        induction j' with
        | zero =>
          intro p I2 hp hC2 hf2 hs2 hq2
          refine hK.1 [(73, [true, true, true, true])] 100 _ _ _ _ _ ?_
          rw [show p = aN A 0 by omega] at hq2 ⊢
          refine And.intro (fun _ => ?_) (fun h => absurd ?_ h)
          · show K 80 73 _ _ _
            refine look t 0 I2 (-1) (by omega) hC2 hf2 (fun u hu p hp => ?_) rfl
            by_cases e : u = t
            · rw [e]; exact hq2 p hp
            · exact hs2 u (by omega) p hp
          · rw [mf_I (by decide), rI_t (by decide) (by decide), hC2.1.1]
            exact nI_le (Nat.le_refl _) (by omega)
        | succ j' ih2 =>
          intro p I2 hp hC2 hf2 hs2 hq2
          refine hK.1 [(21, [true, true, true, true])] 100 _ _ _ _ _ ?_
          refine And.intro (fun h => absurd h ?_) (fun _ => ?_)
          · rw [mf_I (by decide), rI_t (by decide) (by decide), hC2.1.1]
            exact nI_ge (by omega) (by omega)
          · refine c_its rfl (w := 2) rfl (by omega) (by decide) (by decide) ?_
            refine c_its rfl (w := 3) rfl (by omega) (by decide) (by decide) ?_
            refine c_its rfl (w := 6) rfl (by omega) (by decide) (by decide) ?_
            show vp_in _ _ ∧ _
            rw [nI_5]
            refine ⟨nI_in (N := 305) (by omega) (by decide), ?_⟩
            have hv : (dayN (bO A) (dy A) (aN A 0) Q t p 2 * 100 + dayN (bO A) (dy A) (aN A 0) Q t p 3) * 2 + dayN (bO A) (dy A) (aN A 0) Q t p 6 = nI (snF (runP A t) p) := by
              rw [← sn_Ag hA (show p < aN A 0 by omega)]
              have hq := hWt p (by omega)
              obtain ⟨a, ha, ea⟩ := hq.2.2.1
              obtain ⟨b, hb, eb⟩ := hq.2.2.2.1
              obtain ⟨s, hs, es⟩ : ∃ s, s ≤ 1 ∧ dayN (bO A) (dy A) (aN A 0) Q t p 6 = nI s := by rcases hq.2.2.2.2.2.2 with e | e; exact ⟨0, by omega, e⟩; exact ⟨1, by omega, e⟩
              unfold snF
              rw [ea, eb, es, nI_clamp (by omega), nI_clamp (by omega), nI_clamp (by omega), show (100 : Int32) = nI 100 from rfl, show (2 : Int32) = nI 2 from rfl, nI_mul, nI_plus, nI_mul, nI_plus]
            rw [nI_clamp (n := 5 * t + p) (by omega), mf_wI (by simp), hv, rI_wk (by decide) (by decide)]
            show K 80 21 _ _ _
            have hk : ∀ k, k ≠ 29 → upI I2 29 0 0 (5 * t + p) (nI (snF (runP A t) p)) k = I2 k := fun k hk => by funext i' j' t'; simp [upI, hk]
            refine Kc (ih2 (p + 1) _ (by omega) (hC2.fr2 (fun t' ht' => by rw [hk 20 (by decide)]) (fun k h1 h2 h3 h4 => hk k h3)) (fun k hk' => (hk k (by omega)).trans (hf2 k hk')) (fun u hu q hq => ?_) (fun q hq => ?_)) (by rw [nI_succ]; rfl) rfl
            · rw [upI_at, if_neg (by omega)]
              exact hs2 u hu q hq
            · rw [upI_at]
              by_cases e : q = p
              · rw [if_pos ⟨rfl, rfl, rfl, by omega⟩, e]
              · rw [if_neg (by omega)]
                exact hq2 q (by omega)
      refine hK.1 [(21, [true, true, true, true])] 100 _ _ _ _ _ ?_
      refine And.intro (fun h => absurd h (hgt t (by omega))) (fun _ => And.intro (fun h => absurd rfl h) (fun _ => ?_))
      show K 80 21 _ _ _
      exact note (aN A 0) 0 I1 (by omega) hC1 hf hs (fun q hq => absurd hq (by omega))
  refine r_keeps hC (by decide) ?_
  show K 80 8 _ _ _
  exact loop 61 0 I S T (by omega) hC frM.r (fun u hu => absurd hu (by omega)) hC.2.1.2.2 rfl
end T50
