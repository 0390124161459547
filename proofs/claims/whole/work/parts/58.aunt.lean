/-! aunt */ -/
section T34
variable {G : GT} {l : Launch} {I : HI} {J : HJ} {rd : Option AO} {rr : Nat → Nat} {A : ST}
theorem c_max {d n : Nat} {a b : Int32} {h : AH} {post : Option AV → AH → Prop} (hd : 1 ≤ d) (k : post (some (vI (if a < b then b else a))) h) : CPd G l d n 1 32 [vI a, vI b] h post := Or.inr ⟨rfl, hd, Or.inl ⟨rfl, a, b, rfl, k⟩⟩
def mxF (f : Nat → Int32) : Nat → Int32
  | 0 => 0
  | k + 1 => if mxF f k < f k then f k else mxF f k
theorem mx_congr {f g : Nat → Int32} : ∀ m, (∀ i, i < m → f i = g i) → mxF f m = mxF g m
  | 0, _ => rfl
  | m + 1, h => by rw [mxF, mxF, mx_congr m (fun i hi => h i (by omega)), h m (by omega)]
def auG (A : ST) (k : Nat) (ld : Int32) : Nat → Int32 := fun i => if i = k then tiredByS (bO A) (aP A) k ld (dy A) (asl A) else aP A i 2
def auT (A : ST) (k : Nat) (ld : Int32) : Int32 := mxF (auG A k ld) (aN A 0)
def auF (A : ST) (p : Nat) (ld : Int32) : Nat → Int32 × Int32
  | 0 => (-1, -1)
  | k + 1 => if (k ≠ p ∧ aP A k 6 = 0) ∧ ((auF A p ld k).1 = -1 ∨ auT A k ld < (auF A p ld k).2) then (nI k, auT A k ld) else auF A p ld k
def ldS (A : ST) (p : Nat) : Int32 := weighsS (bO A) (aP A) p (dy A) (asl A)
def auntV (A : ST) (p : Nat) (w : Int32) : Int32 := if w = 0 then (auF A p (ldS A p) (aN A 0)).1 else (auF A p (ldS A p) (aN A 0)).2
def auntR (A : ST) (one w : Int32) : Int32 := if (0 ≤ one ∧ one < nI (aN A 0)) ∧ 0 ≤ w ∧ w ≤ 1 then auntV A one.toNatClampNeg w else -2
theorem e_most {k : Nat} {ld : Int32} (hC : CF I rr A) (ok : OKA A) (hk5 : k < 5) : Ev G l 4 (mt 104) 80 80 [vR 0 0 0, vI (nI k), vI ld] (mkH I J rd rr) (fun v h' => ∃ O, v = some (vI (auT A k ld)) ∧ h' = mkH (setO I O) J rd rr) := by
  obtain ⟨h1, h2, h3, h4⟩ := hC.1
  have h5 := ok.1.1
  refine Ev_go iC_mostTiredIfTold rfl rfl rfl ⟨Nat.le_refl _, Nat.le_refl _⟩ (fun K hK => ?_)
  have loop : ∀ j i O, i + j = aN A 0 → K 80 5 [some (vR 0 0 0), some (vI (nI k)), some (vI ld), some (vI (mxF (auG A k ld) i)), some (vI (nI i)), none, none] [] (mkH (setO I O) J rd rr) := by
    intro j
    induction j with
    | zero =>
      intro i O hi
      refine hK.1 [] 60 _ _ _ _ _ ?_
      rw [show i = aN A 0 by omega]
      refine And.intro (fun _ => ⟨rfl, O, rfl, rfl⟩) (fun h => absurd ?_ h)
      rw [getI_mk, setO_k (by decide), h1]
      exact nI_le (Nat.le_refl _) (by omega)
    | succ j ih =>
      intro i O hi
      refine hK.1 [(5, [true, true, true, true, true, false, false])] 60 _ _ _ _ _ ?_
      refine And.intro (fun h => absurd h ?_) (fun _ => ?_)
      · rw [getI_mk, setO_k (by decide), h1]
        exact nI_ge (by omega) (by omega)
      · refine ⟨nI_in (N := 5) (by omega) (by decide), ?_⟩
        rw [nI_clamp (n := i) (by omega)]
        refine And.intro (fun h6 => ?_) (fun h6 => ?_)
        · have hik : i ≠ k := fun e => h6 (by rw [e])
          refine c_max (by decide) ?_
          show K 80 5 _ _ _
          refine Kc (ih (i + 1) O (by omega)) ?_ rfl
          rw [mxF, nI_succ, getI_mk, setO_k (by decide), show I 19 0 i 2 = auG A k ld i by unfold auG; rw [if_neg hik]; exact h4 i (by omega) 2 (by omega)]
          rfl
        · have hik : i = k := by
            have := congrArg Int32.toInt h6
            rw [nI_toInt (by omega), nI_toInt (by omega)] at this
            omega
          subst hik
          refine n_tiredBy (hC.O) ok (by omega) (by decide) (fun O2 => ?_)
          rw [setO_O]
          refine c_max (by decide) ?_
          show K 80 5 _ _ _
          refine Kc (ih (i + 1) O2 (by omega)) ?_ rfl
          rw [mxF, nI_succ, show auG A i ld i = tiredByS (bO A) (aP A) i ld (dy A) (asl A) by unfold auG; rw [if_pos rfl]]
          rfl
  refine hK.1 [(5, [true, true, true, true, true, false, false])] 60 _ _ _ _ _ ?_
  show K 80 5 _ _ _
  refine Kc (loop (aN A 0) 0 (I 14) (by omega)) rfl ?_
  rw [setO_self]
theorem c_aunt {one w : Int32} (ok : OKA A) : CC G l 103 6 [vI one, vI w] A (vI (auntR A one w)) A := by
  intro I J rd rr hC
  obtain ⟨h1, h2, h3, h4⟩ := hC.1
  have h5 := ok.1.1
  refine Ev_go iC_aunt rfl rfl rfl ⟨Nat.le_refl _, Nat.le_refl _⟩ (fun K hK => ?_)
  refine hK.1 [(49, [true, true, true, true, true, true, true, false])] 100 _ _ _ _ _ ?_
  unfold auntR at hK
  unfold auntR
  refine k_isThere h1 (by decide) ?_
  refine And.intro (fun h6 => ?_) (fun h6 => ?_)
  · rw [if_neg (fun q => iN_n h6 q.1)]
    exact ⟨rfl, (I, J, rd, rr), rfl, rfl, hC, fun k hk => ⟨rfl, rfl⟩⟩
  · refine k_isWithin (by decide) ?_
    refine And.intro (fun h7 => ?_) (fun h7 => ?_)
    · have hc := And.intro (iN_y h6) (iN_y h7)
      rw [if_pos hc] at hK
      obtain ⟨p, hp, rfl⟩ := nI_ex hc.1.1 hc.1.2 (by omega)
      rw [nI_clamp (n := p) (by omega)] at hK
      have loop : ∀ j k O, k + j = aN A 0 → K 80 49 [some (vR 0 0 0), some (vI (nI p)), some (vI w), some (vI (ldS A p)), some (vI (auF A p (ldS A p) k).1), some (vI (auF A p (ldS A p) k).2), some (vI (nI k)), none] [] (mkH (setO I O) J rd rr) := by
        intro j
        induction j with
        | zero =>
          intro k O hk
          refine hK.1 [] 60 _ _ _ _ _ ?_
          rw [show k = aN A 0 by omega]
          refine And.intro (fun _ => ?_) (fun h => absurd ?_ h)
          · unfold auntV
            refine And.intro (fun h8 => ?_) (fun h8 => ?_)
            · refine ⟨rfl, (setO I O, J, rd, rr), ?_, rfl, hC.O, frC.O⟩
              rw [if_neg h8]
            · refine ⟨rfl, (setO I O, J, rd, rr), ?_, rfl, hC.O, frC.O⟩
              rw [if_pos h8]
          · rw [getI_mk, setO_k (by decide), h1]
            exact nI_le (Nat.le_refl _) (by omega)
        | succ j ih =>
          intro k O hk
          refine hK.1 [(49, [true, true, true, true, true, true, true, false])] 60 _ _ _ _ _ ?_
          have skip : ∀ O, auF A p (ldS A p) (k + 1) = auF A p (ldS A p) k → K 80 49 [some (vR 0 0 0), some (vI (nI p)), some (vI w), some (vI (ldS A p)), some (vI (auF A p (ldS A p) k).1), some (vI (auF A p (ldS A p) k).2), some (vI (nI k + 1)), none] [] (mkH (setO I O) J rd rr) := by
            intro O e
            have := ih (k + 1) O (by omega)
            rw [e, nI_succ] at this
            exact this
          have take : ∀ O, auF A p (ldS A p) (k + 1) = (nI k, auT A k (ldS A p)) → K 80 49 [some (vR 0 0 0), some (vI (nI p)), some (vI w), some (vI (ldS A p)), some (vI (nI k)), some (vI (auT A k (ldS A p))), some (vI (nI k + 1)), none] [] (mkH (setO I O) J rd rr) := by
            intro O e
            have := ih (k + 1) O (by omega)
            rw [e, nI_succ] at this
            exact this
          rw [auF] at skip take
          refine And.intro (fun h => absurd h ?_) (fun _ => ?_)
          · rw [getI_mk, setO_k (by decide), h1]
            exact nI_ge (by omega) (by omega)
          · refine And.intro (fun h8 => ?_) (fun h8 => ?_)
            · have hkp : k = p := by
                have := congrArg Int32.toInt h8
                rw [nI_toInt (by omega), nI_toInt (by omega)] at this
                omega
              show K 80 49 _ _ _
              exact skip O (by rw [if_neg (fun q => q.1.1 hkp)])
            · have hkp : k ≠ p := fun e => h8 (by rw [e])
              refine ⟨nI_in (N := 5) (by omega) (by decide), ?_⟩
              rw [nI_clamp (n := k) (by omega)]
              have e6 : I 19 0 k 6 = aP A k 6 := h4 k (by omega) 6 (by omega)
              intro hz
              rw [getI_mk, setO_k (by decide), e6]
              refine And.intro (fun h9 => ?_) (fun h9 => ?_)
              · refine CPd_ex (e_most (hC.O) ok (by omega)) (by decide) rfl (fun O2 => ?_)
                rw [setO_O]
                refine And.intro (fun h10 => ?_) (fun h10 => And.intro (fun h11 => ?_) (fun h11 => ?_))
                · show K 80 49 _ _ _
                  exact take O2 (by rw [if_pos ⟨⟨hkp, h9⟩, Or.inl h10⟩])
                · show K 80 49 _ _ _
                  exact skip O2 (by rw [if_neg (fun q => q.2.elim h10 (fun r => by grind))])
                · show K 80 49 _ _ _
                  exact take O2 (by rw [if_pos ⟨⟨hkp, h9⟩, Or.inr (by grind)⟩])
              · show K 80 49 _ _ _
                exact skip O (by rw [if_neg (fun q => h9 q.1.2)])
      show vp_in _ _ ∧ _
      refine ⟨nI_in (N := 5) (by omega) (by decide), ?_⟩
      rw [nI_clamp (n := p) (by omega)]
      refine n_weighsOf hC ok hp (by decide) (fun O => ?_)
      show K 80 49 _ _ _
      exact loop (aN A 0) 0 O (by omega)
    · rw [if_neg (fun q => iN_n h7 q.2)]
      exact ⟨rfl, (I, J, rd, rr), rfl, rfl, hC, fun k hk => ⟨rfl, rfl⟩⟩
end T34
