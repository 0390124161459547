/-! ears -/
section T45
variable {G : GT} {l : Launch} {I : HI} {J : HJ} {rd : Option AO} {rr : Nat → Nat} {A : ST}
theorem nI_mul {a b : Nat} : nI a * nI b = nI (a * b) := by unfold nI; rw [← Int32.ofNat_mul]
theorem pow_le {m i : Nat} (h5 : m ≤ 5) (hi : i ≤ 5) : m ^ i ≤ 3125 := by
  have h : ∀ m, m ≤ 5 → ∀ i, i ≤ 5 → m ^ i ≤ 3125 := by decide
  exact h m h5 i hi
theorem k_ways {d : Nat} {post : Option AV → AH → Prop} (hC : CF I rr A) (ok : OKA A) (hd : 0 < d) (k : post (some (vI (nI (aN A 0 ^ aN A 0)))) (mkH I J rd rr)) : CPd G l d 80 0 98 [vR 0 0 0] (mkH I J rd rr) post := by
  have h1 := hC.1.1
  have h5 := ok.1.1
  have E : Ev G l 0 (mt 98) 80 80 [vR 0 0 0] (mkH I J rd rr) (fun r h' => r = some (vI (nI (aN A 0 ^ aN A 0))) ∧ h' = mkH I J rd rr) := by
    refine Ev_go iC_waysOfEars rfl rfl rfl ⟨Nat.le_refl _, Nat.le_refl _⟩ (fun K hK => ?_)
    have loop : ∀ j i, i + j = aN A 0 → K 80 4 [some (vR 0 0 0), some (vI (nI (aN A 0 ^ i))), some (vI (nI i))] [] (mkH I J rd rr) := by
      intro j
      induction j with
      | zero =>
        intro i hi
        refine hK.1 [] 60 _ _ _ _ _ ?_
        rw [show i = aN A 0 by omega]
        refine And.intro (fun _ => ⟨rfl, rfl, rfl⟩) (fun h => absurd ?_ h)
        rw [getI_mk, h1]
        exact nI_le (Nat.le_refl _) (by omega)
      | succ j ih =>
        intro i hi
        refine hK.1 [(4, [true, true, true])] 60 _ _ _ _ _ ?_
        refine And.intro (fun h => absurd h ?_) (fun _ => ?_)
        · rw [getI_mk, h1]
          exact nI_ge (by omega) (by omega)
        · show K 80 4 _ _ _
          refine Kc (ih (i + 1) (by omega)) ?_ rfl
          rw [getI_mk, h1, nI_mul, nI_succ, ← Nat.pow_succ]
          rfl
    refine hK.1 [(4, [true, true, true])] 60 _ _ _ _ _ ?_
    show K 80 4 _ _ _
    exact Kc (loop (aN A 0) 0 (by omega)) rfl rfl
  exact CPd_eq E hd rfl k
theorem e_lendEars {w : Nat} {d : Int32} {P : PP} {O : Nat → Nat → Nat → Int32} (ok : OKA A) (hw : w < 4000) (hP : Ag (aN A 0) P (aP A)) :
    Ev G l 0 (mt 99) 80 80 [vR 0 0 0, vI (nI w)] (TF I J rd rr A d P O) (fun r h' => ∃ P', r = some (vI (dS (aN A 0) w (aN A 0))) ∧ h' = TF I J rd rr A d P' O ∧ Ag (aN A 0) P' (eP A (eW (aN A 0) w))) := by
  have h5 := ok.1.1
  have hsz : ∀ P, getI (TF I J rd rr A d P O) 17 1 0 1 = nI (aN A 0) := fun P => by
    show getI (nf (tI I (nI (aN A 0)) d) J rd (va_up rr 1 (aN A 2)) 1 P O) 17 1 0 1 = _
    rw [nf_I (by decide), tI_1]
  refine Ev_go iC_lendEars rfl rfl rfl ⟨Nat.le_refl _, Nat.le_refl _⟩ (fun K hK => ?_)
  have loop : ∀ j k P, k + j = aN A 0 → (∀ p, p < aN A 0 → ∀ a, a < 7 → a ≠ 4 → P p a = aP A p a) → (∀ p, p < aN A 0 → aN A 0 ≤ p + k → P p 4 = eW (aN A 0) w p) → K 80 22 [some (vR 0 0 0), none, some (vI (nI (w / aN A 0 ^ k))), some (vI (dS (aN A 0) w k)), some (vI (tenP k)), some (vI (nI (aN A 0))), some (vI (nI j + -1)), none, none] [] (TF I J rd rr A d P O) := by
    intro j
    induction j with
    | zero =>
      intro k P hk hA h4
      refine hK.1 [] 60 _ _ _ _ _ ?_
      rw [show k = aN A 0 by omega] at h4 ⊢
      refine And.intro (fun _ => ⟨rfl, P, rfl, rfl, ?_⟩) (fun h => absurd (by decide) h)
      intro p hp a ha
      unfold eP
      by_cases e : a = 4
      · subst e
        rw [if_pos rfl]
        exact h4 p hp (by omega)
      · rw [if_neg e]
        exact hA p hp a ha e
    | succ j ih =>
      intro k P hk hA h4
      refine hK.1 [(22, [true, false, true, true, true, true, true, false, false])] 60 _ _ _ _ _ ?_
      have hdv := Nat.div_le_self w (aN A 0 ^ k)
      have hm0 : 0 < aN A 0 := by omega
      rw [nI_m1]
      refine And.intro (fun h => absurd h (nI_pos (by omega))) (fun _ => And.intro (fun h => absurd h ?_) (fun _ => ?_))
      · intro h
        have h1 := nI_lt (a := 0) (b := aN A 0) hm0 (by omega)
        have h : nI (aN A 0) ≤ nI 0 := h
        grind
      · refine ⟨nI_ne0 hm0 (by omega), nI_ne0 hm0 (by omega), ?_⟩
        have hch : w / aN A 0 ^ k % aN A 0 < aN A 0 := Nat.mod_lt _ hm0
        have go : ∀ x, x = ec j (w / aN A 0 ^ k % aN A 0) → K 80 22 [some (vR 0 0 0), none, some (vI (nI (w / aN A 0 ^ (k + 1)))), some (vI (dS (aN A 0) w k + (x + 1) * tenP k)), some (vI (tenP k * 10)), some (vI (nI (aN A 0))), some (vI (nI j + -1)), none, none] [] (TF I J rd rr A d (upP P j 4 x) O) := by
          intro x hx
          have e := ih (k + 1) (upP P j 4 x) (by omega) (fun p hp a ha h => by rw [upP_a h]; exact hA p hp a ha h) (fun p hp h => ?_)
          · rw [dS, show aN A 0 - (k + 1) = j by omega, ← hx] at e
            exact e
          · by_cases e : p = j
            · subst e
              rw [upP_s, hx]
              unfold eW
              rw [show aN A 0 - 1 - p = k by omega]
            · rw [upP_p e]
              exact h4 p hp (by omega)
        have e1 : nI (w / aN A 0 ^ k) - nI (w / aN A 0 ^ k) / nI (aN A 0) * nI (aN A 0) = nI (w / aN A 0 ^ k % aN A 0) := nI_rem (by omega) (by omega)
        have e2 : nI (w / aN A 0 ^ k) / nI (aN A 0) = nI (w / aN A 0 ^ (k + 1)) := by
          rw [nI_div (by omega) (by omega), Nat.div_div_eq_div_mul, ← Nat.pow_succ]
        refine And.intro (fun h7 => ?_) (fun h7 => ?_)
        · rw [e1] at h7
          refine ⟨nI_in (N := 5) (by omega) (by decide), ?_⟩
          rw [nI_clamp (n := j) (by omega), e1, e2]
          show K 80 22 _ _ (setI (TF I J rd rr A d P O) 19 1 j 4 _)
          rw [TF_wP]
          refine go _ ?_
          unfold ec
          rw [nI_lt' (by omega) (by omega)] at h7
          rw [if_neg (by omega)]
        · rw [e1] at h7
          refine ⟨nI_in (N := 5) (by omega) (by decide), ?_⟩
          rw [nI_clamp (n := j) (by omega), e1, e2]
          show K 80 22 _ _ (setI (TF I J rd rr A d P O) 19 1 j 4 _)
          rw [TF_wP]
          refine go _ ?_
          unfold ec
          rw [nI_lt' (by omega) (by omega)] at h7
          rw [if_pos (by omega)]
          grind
  refine hK.1 [(22, [true, false, true, true, true, true, true, false, false])] 60 _ _ _ _ _ ?_
  show K 80 22 _ _ _
  refine Kc (loop (aN A 0) 0 P (by omega) (fun p hp a ha _ => hP p hp a ha) (fun p hp h => absurd h (by omega))) ?_ rfl
  show _ = [some (vR 0 0 0), none, some (vI (nI w)), some (vI 0), some (vI 1), some (vI (getI (TF I J rd rr A d P O) 17 1 0 1)), some (vI (getI (TF I J rd rr A d P O) 17 1 0 1 - 1)), none, none]
  rw [hsz, Nat.pow_zero, Nat.div_one, show nI (aN A 0) + -1 = nI (aN A 0) - 1 by grind]
  rfl
theorem c_ears {n w : Int32} (ok : OKA A) : CC G l 97 6 [vI n, vI w] A (vI (earsR A n w)) A := by
  intro I J rd rr hC
  have h5 := ok.1.1
  have hpow := pow_le h5 h5
  refine Ev_go iC_ears rfl rfl rfl ⟨Nat.le_refl _, Nat.le_refl _⟩ (fun K hK => ?_)
  refine hK.1 [(38, [true, true, true, true, true, true, true, true, false, false, false])] 100 _ _ _ _ _ ?_
  unfold earsR at hK
  unfold earsR
  refine k_isWithin (by decide) ?_
  refine And.intro (fun h6 => ?_) (fun h6 => ?_)
  · rw [if_neg (fun q => iN_n h6 q.1)]
    exact ⟨rfl, (I, J, rd, rr), rfl, rfl, hC, fun k hk => ⟨rfl, rfl⟩⟩
  · refine k_isWithin (by decide) ?_
    refine And.intro (fun h7 => ?_) (fun h7 => ?_)
    · have hc := And.intro (iN_y h6) (iN_y h7)
      rw [if_pos hc] at hK
      obtain ⟨z, hz, rfl⟩ := rg_of (x := n) (n := 3) (by have := hc.1.1; grind) hc.1.2 (by decide)
      rw [nI_clamp (n := z) (by omega)] at hK
      have loop : ∀ j v (x : XC), v + j = aN A 0 ^ aN A 0 → CF x.1 x.2.2.2 A → frC I x.1 J x.2.1 → K 80 38 [some (vR 0 0 0), some (vI (nI z)), some (vI w), some (vI (fdN (wayF A z) v (-1, (0, 0))).1), some (vI (fdN (wayF A z) v (-1, (0, 0))).2.1), some (vI (fdN (wayF A z) v (-1, (0, 0))).2.2), some (vI (nI (aN A 0 ^ aN A 0))), some (vI (nI v)), none, none, none] [] (mkH x.1 x.2.1 x.2.2.1 x.2.2.2) := by
        intro j
        induction j with
        | zero =>
          intro v x hv hC1 hf
          refine hK.1 [] 60 _ _ _ _ _ ?_
          rw [show v = aN A 0 ^ aN A 0 by omega]
          unfold earsV
          refine And.intro (fun _ => And.intro (fun h8 => And.intro (fun h9 => ?_) (fun h9 => ?_)) (fun h8 => ?_)) (fun h => absurd (nI_le (Nat.le_refl _) (by omega)) h)
          · refine ⟨rfl, x, ?_, rfl, hC1, hf⟩
            rw [if_neg h8, if_neg h9]
          · refine ⟨rfl, x, ?_, rfl, hC1, hf⟩
            rw [if_neg h8, if_pos h9]
          · refine ⟨rfl, x, ?_, rfl, hC1, hf⟩
            rw [if_pos h8]
        | succ j ih =>
          intro v x hv hC1 hf
          refine hK.1 [(38, [true, true, true, true, true, true, true, true, false, false, false])] 60 _ _ _ _ _ ?_
          have e := fun y => ih (v + 1) y (by omega)
          rw [fdN, nI_succ] at e
          generalize fdN (wayF A z) v (-1, (0, 0)) = b at e ⊢
          refine And.intro (fun h => absurd h (nI_ge (by omega) (by omega))) (fun _ => ?_)
          refine k_think hC1 ok (by decide) (fun P hP => ?_)
          refine CPd_of (e_lendEars ok (w := v) (by omega) hP) (by decide) rfl (fun r h' q => ?_)
          obtain ⟨P1, rfl, rfl, hP1⟩ := q
          have hEW : EW (aN A 0) (eW (aN A 0) v) := fun p hp => ec_ok hp (Nat.mod_lt _ (by omega))
          have hW0 : WF (eP A (eW (aN A 0) v)) (aN A 0) := eP_WF ok.1.2.2.2.2 hEW
          have hW : WF P1 (aN A 0) := WF.Ag hP1.symm hW0
          refine t_passDays hC1 ok hW rfl (by omega) (by decide) (fun O' => ?_)
          have hA : Ag (aN A 0) (dayN (bO A) (dy A) (aN A 0) P1 z) (dayN (bO A) (dy A) (aN A 0) (eP A (eW (aN A 0) v)) z) := dayN_Ag hP1 h5 z
          refine t_asleepCount ok (dayN_WF hW z) (by decide) ?_
          refine t_tired ok (by decide) ?_
          have ea := asl_Ag _ _ hA (Nat.le_refl _)
          have es := sum_Ag _ _ hA (Nat.le_refl _)
          have hyes : ∀ y : XC, TF x.1 x.2.1 x.2.2.1 x.2.2.2 A (dy A + nI z) (dayN (bO A) (dy A) (aN A 0) P1 z) O' = mkH y.1 y.2.1 y.2.2.1 y.2.2.2 → CF y.1 y.2.2.2 A → frC x.1 y.1 x.2.1 y.2.1 → (b.1 = -1 ∨ aslS (dayN (bO A) (dy A) (aN A 0) P1 z) (aN A 0) < b.2.1 ∨ (aslS (dayN (bO A) (dy A) (aN A 0) P1 z) (aN A 0) = b.2.1 ∧ sumT (dayN (bO A) (dy A) (aN A 0) P1 z) (aN A 0) < b.2.2)) → K 80 38 [some (vR 0 0 0), some (vI (nI z)), some (vI w), some (vI (dS (aN A 0) v (aN A 0))), some (vI (aslS (dayN (bO A) (dy A) (aN A 0) P1 z) (aN A 0))), some (vI (sumT (dayN (bO A) (dy A) (aN A 0) P1 z) (aN A 0))), some (vI (nI (aN A 0 ^ aN A 0))), some (vI (nI v + 1)), none, none, none] [] (TF x.1 x.2.1 x.2.2.1 x.2.2.2 A (dy A + nI z) (dayN (bO A) (dy A) (aN A 0) P1 z) O') := by
            intro y h1 h2 h3 hb
            have := e y h2 (hf.tr h3)
            unfold wayF lfS at this
            rw [ea, es] at hb ⊢
            rw [if_pos hb] at this
            rw [h1]
            exact this
          have hno : ∀ y : XC, TF x.1 x.2.1 x.2.2.1 x.2.2.2 A (dy A + nI z) (dayN (bO A) (dy A) (aN A 0) P1 z) O' = mkH y.1 y.2.1 y.2.2.1 y.2.2.2 → CF y.1 y.2.2.2 A → frC x.1 y.1 x.2.1 y.2.1 → ¬ (b.1 = -1 ∨ aslS (dayN (bO A) (dy A) (aN A 0) P1 z) (aN A 0) < b.2.1 ∨ (aslS (dayN (bO A) (dy A) (aN A 0) P1 z) (aN A 0) = b.2.1 ∧ sumT (dayN (bO A) (dy A) (aN A 0) P1 z) (aN A 0) < b.2.2)) → K 80 38 [some (vR 0 0 0), some (vI (nI z)), some (vI w), some (vI b.1), some (vI b.2.1), some (vI b.2.2), some (vI (nI (aN A 0 ^ aN A 0))), some (vI (nI v + 1)), none, none, none] [] (TF x.1 x.2.1 x.2.2.1 x.2.2.2 A (dy A + nI z) (dayN (bO A) (dy A) (aN A 0) P1 z) O') := by
            intro y h1 h2 h3 hb
            have := e y h2 (hf.tr h3)
            unfold wayF lfS at this
            rw [ea, es] at hb
            rw [if_neg hb] at this
            rw [h1]
            exact this
          obtain ⟨y, hy1, hy2, hy3⟩ := TX_C (J := x.2.1) (rd := x.2.2.1) (r := aN A 2) (dd := dy A + nI z) (P := dayN (bO A) (dy A) (aN A 0) P1 z) (O := O') hC1
          have hyes := hyes y hy1 hy2 hy3
          have hno := hno y hy1 hy2 hy3
          refine And.intro (fun h8 => ?_) (fun h8 => And.intro (fun h9 => ?_) (fun h9 => And.intro (fun h10 => ?_) (fun h10 => And.intro (fun h11 => ?_) (fun h11 => ?_))))
          · show K 80 38 _ _ _
            exact hyes (Or.inl h8)
          · show K 80 38 _ _ _
            exact hyes (Or.inr (Or.inl h9))
          · show K 80 38 _ _ _
            refine hno ?_
            rintro (q | q | q)
            · exact h8 q
            · exact h9 q
            · exact h10 q.1
          · show K 80 38 _ _ _
            refine hno ?_
            rintro (q | q | q)
            · exact h8 q
            · exact h9 q
            · have := q.2; grind
          · show K 80 38 _ _ _
            exact hyes (Or.inr (Or.inr ⟨h10, by grind⟩))
      refine k_ways hC ok (by decide) ?_
      show K 80 38 _ _ _
      exact loop (aN A 0 ^ aN A 0) 0 (I, J, rd, rr) (by omega) hC (fun k hk => ⟨rfl, rfl⟩)
    · rw [if_neg (fun q => iN_n h7 q.2)]
      exact ⟨rfl, (I, J, rd, rr), rfl, rfl, hC, fun k hk => ⟨rfl, rfl⟩⟩
end T45
