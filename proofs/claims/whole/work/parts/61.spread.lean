/-! spread -/
section T37
variable {G : GT} {l : Launch} {I : HI} {J : HJ} {rd : Option AO} {rr : Nat → Nat} {A : ST}
def spC (A : ST) (p : Nat) (sh : Int32) (k : Nat) : Bool := decide ((k < aN A 0 ∧ k ≠ p) ∧ aP A k 6 = 0 ∧ tiredByS (bO A) (aP A) k sh (dy A) (asl A) < 80)
def spG (A : ST) (p : Nat) (s : Nat) : Bool := subB (spC A p (ldS A p / nI (pcN s))) s
def spV (A : ST) (p : Nat) (w : Int32) : Int32 := match spN (spG A p) (aN A 0 - 1) 1 with
  | some q => if w = 0 then nI q.1 else nI q.2
  | none => -1
def spreadR (A : ST) (one w : Int32) : Int32 := if (0 ≤ one ∧ one < nI (aN A 0)) ∧ 0 ≤ w ∧ w ≤ 1 then spV A one.toNatClampNeg w else -2
def opI (o : Option Nat) : Int32 := match o with
  | some s => nI s
  | none => -1
theorem e_leastSet {n p : Nat} {sh : Int32} (hC : CF I rr A) (ok : OKA A) (hp : p < 5) (hn : n < 6) : Ev G l 4 (mt 101) 80 80 [vR 0 0 0, vI (nI n), vI (nI p), vI sh] (mkH I J rd rr) (fun v h' => ∃ O, v = some (vI (opI (fsN (subB (spC A p sh)) n 31 1))) ∧ h' = mkH (setO I O) J rd rr) := by
  obtain ⟨h1, h2, h3, h4⟩ := hC.1
  have h5 := ok.1.1
  refine Ev_go iC_leastSetOf rfl rfl rfl ⟨Nat.le_refl _, Nat.le_refl _⟩ (fun K hK => ?_)
  have hbr : brN (spC A p sh) (aN A 0) = b5 (spC A p sh 0) (spC A p sh 1) (spC A p sh 2) (spC A p sh 3) (spC A p sh 4) := by
    rw [← brN_5]
    have := brN_up (c := spC A p sh) (m := aN A 0) (fun k hk => by unfold spC; rw [decide_eq_false]; exact fun q => absurd q.1.1 (by omega)) (5 - aN A 0)
    rw [show aN A 0 + (5 - aN A 0) = 5 by omega] at this
    exact this.symm
  have loop2 : ∀ j s O, s + j = 32 → 1 ≤ s → fsN (subB (spC A p sh)) n j s = fsN (subB (spC A p sh)) n 31 1 → K 80 81 [some (vR 0 0 0), some (vI (nI n)), none, none, some (vI (nI (brN (spC A p sh) (aN A 0)))), some (vI (nI s))] [] (mkH (setO I O) J rd rr) := by
    intro j
    induction j with
    | zero =>
      intro s O hs h1 hf
      refine hK.1 [] 60 _ _ _ _ _ ?_
      rw [show s = 32 by omega]
      refine And.intro (fun _ => ⟨rfl, O, ?_, rfl⟩) (fun h => absurd (by decide) h)
      rw [← hf]
      rfl
    | succ j ih =>
      intro s O hs h1 hf
      refine hK.1 [(81, [true, true, false, false, true, true])] 60 _ _ _ _ _ ?_
      rw [fsN] at hf
      refine And.intro (fun h => absurd h (nI_ge (a := s) (b := 32) (by omega) (by decide))) (fun _ => ?_)
      refine CPd_eq e_bitCount (d' := 0) (by decide) rfl ?_
      rw [bitC_n s (by omega)]
      have go : ∀ O, ¬ (pcN s = n ∧ subB (spC A p sh) s = true) → K 80 81 [some (vR 0 0 0), some (vI (nI n)), none, none, some (vI (nI (brN (spC A p sh) (aN A 0)))), some (vI (nI s + 1))] [] (mkH (setO I O) J rd rr) := by
        intro O hne
        rw [if_neg hne] at hf
        rw [← nI_succ]
        exact ih (s + 1) O (by omega) (by omega) hf
      have hp5 := pcN_5 s (by omega)
      refine And.intro (fun h6 => ?_) (fun h6 => ?_)
      · show K 80 81 _ _ _
        exact go O (fun q => h6 (by rw [q.1]))
      · have hpc : pcN s = n := by
          have := congrArg Int32.toInt h6
          rw [nI_toInt (by omega), nI_toInt (by omega)] at this
          omega
        have hsub := sub_i (spC A p sh 0) (spC A p sh 1) (spC A p sh 2) (spC A p sh 3) (spC A p sh 4) s (by omega)
        rw [← hbr] at hsub
        have hsub : decide (nI s &&& (nI (brN (spC A p sh) (aN A 0)) ^^^ -1) = 0) = subB (spC A p sh) s := hsub
        refine And.intro (fun h7 => ?_) (fun h7 => ?_)
        · show K 80 81 _ _ _
          refine go O (fun q => ?_)
          rw [decide_eq_false h7] at hsub
          rw [← hsub] at q
          cases q.2
        · rw [decide_eq_true h7] at hsub
          rw [if_pos ⟨hpc, hsub.symm⟩] at hf
          refine ⟨rfl, O, ?_, rfl⟩
          rw [← hf]
          rfl
  have loop : ∀ j k O, k + j = aN A 0 → K 80 6 [some (vR 0 0 0), some (vI (nI n)), some (vI (nI p)), some (vI sh), some (vI (nI (brN (spC A p sh) k))), some (vI (nI k))] [] (mkH (setO I O) J rd rr) := by
    intro j
    induction j with
    | zero =>
      intro k O hk
      refine hK.1 [(81, [true, true, false, false, true, true])] 60 _ _ _ _ _ ?_
      rw [show k = aN A 0 by omega]
      refine And.intro (fun _ => ?_) (fun h => absurd ?_ h)
      · show K 80 81 _ _ _
        exact loop2 31 1 O (by omega) (by omega) rfl
      · rw [getI_mk, setO_k (by decide), h1]
        exact nI_le (Nat.le_refl _) (by omega)
    | succ j ih =>
      intro k O hk
      refine hK.1 [(6, [true, true, true, true, true, true])] 60 _ _ _ _ _ ?_
      have e := fun O => ih (k + 1) O (by omega)
      rw [brN] at e
      have e0 : ∀ O, spC A p sh k = false → K 80 6 [some (vR 0 0 0), some (vI (nI n)), some (vI (nI p)), some (vI sh), some (vI (nI (brN (spC A p sh) k))), some (vI (nI k + 1))] [] (mkH (setO I O) J rd rr) := by
        intro O hs
        have := e O
        rw [hs, if_neg (by decide), nI_succ] at this
        exact this
      refine And.intro (fun h => absurd h ?_) (fun _ => ?_)
      · rw [getI_mk, setO_k (by decide), h1]
        exact nI_ge (by omega) (by omega)
      · refine And.intro (fun h6 => ?_) (fun h6 => ?_)
        · have hkp : k = p := by
            have := congrArg Int32.toInt h6
            rw [nI_toInt (by omega), nI_toInt (by omega)] at this
            omega
          show K 80 6 _ _ _
          exact e0 O (by unfold spC; rw [decide_eq_false]; exact fun q => q.1.2 hkp)
        · have hkp : k ≠ p := fun e => h6 (by rw [e])
          refine ⟨nI_in (N := 5) (by omega) (by decide), ?_⟩
          rw [nI_clamp (n := k) (by omega)]
          have e6 : I 19 0 k 6 = aP A k 6 := h4 k (by omega) 6 (by omega)
          intro hz
          rw [getI_mk, setO_k (by decide), e6]
          refine And.intro (fun h9 => ?_) (fun h9 => ?_)
          · show K 80 6 _ _ _
            exact e0 O (by unfold spC; rw [decide_eq_false]; exact fun q => h9 q.2.1)
          · show vp_in _ _ ∧ _
            refine ⟨nI_in (N := 5) (by omega) (by decide), ?_⟩
            rw [nI_clamp (n := k) (by omega)]
            refine n_tiredBy (hC.O) ok (by omega) (by decide) (fun O2 => ?_)
            rw [setO_O]
            refine And.intro (fun h10 => ?_) (fun h10 => ?_)
            · show K 80 6 _ _ _
              exact e0 O2 (by unfold spC; rw [decide_eq_false]; exact fun q => by have := q.2.2; grind)
            · show K 80 6 _ _ _
              have hs : spC A p sh k = true := by unfold spC; rw [decide_eq_true]; exact ⟨⟨by omega, hkp⟩, h9, by grind⟩
              have := e O2
              rw [hs, if_pos rfl, nI_succ] at this
              refine Kc this ?_ rfl
              rw [or_bit k (by omega) _ (brN_lt k)]
              rfl
  refine hK.1 [(6, [true, true, true, true, true, true])] 60 _ _ _ _ _ ?_
  show K 80 6 _ _ _
  refine Kc (loop (aN A 0) 0 (I 14) (by omega)) rfl ?_
  rw [setO_self]
theorem c_spread {one w : Int32} (ok : OKA A) : CC G l 100 6 [vI one, vI w] A (vI (spreadR A one w)) A := by
  intro I J rd rr hC
  obtain ⟨h1, h2, h3, h4⟩ := hC.1
  have h5 := ok.1.1
  refine Ev_go iC_spread rfl rfl rfl ⟨Nat.le_refl _, Nat.le_refl _⟩ (fun K hK => ?_)
  refine hK.1 [(43, [true, true, true, true, true, false])] 100 _ _ _ _ _ ?_
  unfold spreadR at hK
  unfold spreadR
  refine k_isThere h1 (by decide) ?_
  refine And.intro (fun h6 => ?_) (fun h6 => ?_)
  · rw [if_neg (fun q => iN_n h6 q.1)]
    exact ⟨rfl, (I, J, rd, rr), rfl, rfl, hC, fun k hk => ⟨rfl, rfl⟩⟩
  · refine k_isWithin (by decide) ?_
    refine And.intro (fun h7 => ?_) (fun h7 => ?_)
    · have hc := And.intro (iN_y h6) (iN_y h7)
      rw [if_pos hc] at hK
      obtain ⟨p, hp, rfl⟩ := nI_ex hc.1.1 hc.1.2 (by omega)
      rw [nI_clamp (n := p) (by omega)] at hK
      have loop : ∀ j n O, n + j = aN A 0 → 1 ≤ n → spN (spG A p) j n = spN (spG A p) (aN A 0 - 1) 1 → K 80 43 [some (vR 0 0 0), some (vI (nI p)), some (vI w), some (vI (ldS A p)), some (vI (nI n)), none] [] (mkH (setO I O) J rd rr) := by
        intro j
        induction j with
        | zero =>
          intro n O hn hn1 hs
          refine hK.1 [] 60 _ _ _ _ _ ?_
          rw [show n = aN A 0 by omega]
          refine And.intro (fun _ => ?_) (fun h => absurd ?_ h)
          · refine ⟨rfl, (setO I O, J, rd, rr), ?_, rfl, hC.O, frC.O⟩
            unfold spV
            rw [← hs]
            rfl
          · rw [getI_mk, setO_k (by decide), h1]
            exact nI_le (Nat.le_refl _) (by omega)
        | succ j ih =>
          intro n O hn hn1 hs
          refine hK.1 [(43, [true, true, true, true, true, false])] 60 _ _ _ _ _ ?_
          rw [spN] at hs
          refine And.intro (fun h => absurd h ?_) (fun _ => ?_)
          · rw [getI_mk, setO_k (by decide), h1]
            exact nI_ge (by omega) (by omega)
          · refine ⟨nI_ne0 (by omega) (by omega), ?_⟩
            refine CPd_ex (e_leastSet (hC.O) ok (by omega) (by omega)) (by decide) rfl (fun O2 => ?_)
            rw [setO_O]
            have hf : fsN (spG A p) n 31 1 = fsN (subB (spC A p (ldS A p / nI n))) n 31 1 := fsN_congr (fun s hs => by unfold spG; rw [hs]) 31 1
            rw [← hf]
            cases hfs : fsN (spG A p) n 31 1 with
            | none =>
              rw [hfs] at hs
              refine And.intro (fun _ => ?_) (fun h => absurd rfl h)
              show K 80 43 _ _ _
              exact Kc (ih (n + 1) O2 (by omega) (by omega) hs) (by rw [nI_succ]; rfl) rfl
            | some s =>
              rw [hfs] at hs
              have hs32 := (fsN_some 31 1 (by omega) (by omega) hfs).1.2.1
              have hne : ¬ opI (some s) = -1 := by
                intro e
                have e : nI s = -1 := e
                have := congrArg Int32.toInt e
                rw [nI_toInt (by omega)] at this
                have h5' : (-1 : Int32).toInt = -1 := by decide
                omega
              refine And.intro (fun h => absurd h hne) (fun _ => ?_)
              refine And.intro (fun h8 => ?_) (fun h8 => ?_)
              · refine ⟨rfl, (setO I O2, J, rd, rr), ?_, rfl, hC.O, frC.O⟩
                unfold spV
                rw [← hs]
                show some (vI (nI n)) = some (vI (if w = 0 then nI s else nI n))
                rw [if_neg h8]
              · refine ⟨rfl, (setO I O2, J, rd, rr), ?_, rfl, hC.O, frC.O⟩
                unfold spV
                rw [← hs]
                show some (vI (nI s)) = some (vI (if w = 0 then nI s else nI n))
                rw [if_pos h8]
      show vp_in _ _ ∧ _
      refine ⟨nI_in (N := 5) (by omega) (by decide), ?_⟩
      rw [nI_clamp (n := p) (by omega)]
      refine n_weighsOf hC ok hp (by decide) (fun O => ?_)
      show K 80 43 _ _ _
      exact loop (aN A 0 - 1) 1 O (by omega) (by omega) rfl
    · rw [if_neg (fun q => iN_n h7 q.2)]
      exact ⟨rfl, (I, J, rd, rr), rfl, rfl, hC, fun k hk => ⟨rfl, rfl⟩⟩
end T37
