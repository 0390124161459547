/-! taken -/
section T13
variable {G : GT} {l : Launch} {I : HI} {J : HJ} {rd : Option AO} {rr : Nat → Nat} {A : ST}
def ancS (k : Int32) : Nat → Int32 → Int32
  | 0, _ => 0
  | f + 1, x => if 0 ≤ x ∧ x ≤ 5 then (if x = k then 1 else ancS k f (undr x.toNatClampNeg)) else 0
def ovr (x : Int32) : Int32 := if x = 0 then -1 else if x = 3 then 1 else if x = 4 then 2 else 0
def ladS (k : Int32) : Nat → Int32 → Int32
  | 0, _ => 0
  | f + 1, x => if x = -1 then 0 else if x = k then 1 else ladS k f (ovr x)
def endS : Nat → Int32 → Prop
  | 0, x => x = -1
  | f + 1, x => x = -1 ∨ endS f (ovr x)
theorem anc_lad : ∀ q, q < 6 → ∀ k, k < 6 → ancS (nI k) 6 (nI q) = ladS (nI k) 5 (nI q) := by decide
theorem end_ok : ∀ q, q < 6 → endS 4 (nI q) := by
  intro q hq
  match q, hq with
  | 0, _ => exact Or.inr (Or.inl rfl)
  | 1, _ => exact Or.inr (Or.inr (Or.inl rfl))
  | 2, _ => exact Or.inr (Or.inr (Or.inl rfl))
  | 3, _ => exact Or.inr (Or.inr (Or.inr (Or.inl rfl)))
  | 4, _ => exact Or.inr (Or.inr (Or.inr (Or.inl rfl)))
  | 5, _ => exact Or.inr (Or.inr (Or.inl rfl))
theorem e_isOrIsUnder {k x : Int32} {h : AH} : Ev G l 1 (mt 135) 80 80 [vI x, vI k] h (fun r h' => r = some (vI (ancS k 6 x)) ∧ h' = h) := by
  refine Ev_go iC_isOrIsUnder rfl rfl rfl ⟨Nat.le_refl _, Nat.le_refl _⟩ (fun K hK => ?_)
  have loop : ∀ j t x', t + j = 6 → ancS k j x' = ancS k 6 x → K 80 4 [none, some (vI k), some (vI x'), some (vI (nI t))] [] h := by
    intro j
    induction j with
    | zero =>
      intro t x' ht hx
      refine hK.1 [] 60 _ _ _ _ _ ?_
      rw [show t = 6 by omega]
      refine And.intro (fun _ => ⟨Or.inl rfl, rfl, by rw [← hx]; rfl, rfl⟩) (fun q => absurd (by decide) q)
    | succ j ih =>
      intro t x' ht hx
      refine hK.1 [(4, [false, true, true, true])] 60 _ _ _ _ _ ?_
      refine And.intro (fun q => absurd q (nI_ge (a := t) (b := 6) (by omega) (by decide))) (fun _ => ?_)
      refine k_isWithin (by decide) ?_
      rw [ancS] at hx
      refine And.intro (fun h6 => ?_) (fun h6 => ?_)
      · have hc := iN_n h6
        rw [if_neg hc] at hx
        exact ⟨Or.inl rfl, rfl, by rw [← hx], rfl⟩
      · have hc := iN_y h6
        rw [if_pos hc] at hx
        refine And.intro (fun h7 => ?_) (fun h7 => ?_)
        · rw [if_neg h7] at hx
          obtain ⟨q, hq, rfl⟩ := rg_of (n := 5) hc.1 hc.2 (by decide)
          show vp_in _ _ ∧ _
          refine ⟨nI_in (N := 6) (by omega) (by decide), ?_⟩
          show K 80 4 _ _ _
          exact Kc (ih (t + 1) _ (by omega) hx) (by rw [nI_succ]; rfl) rfl
        · rw [if_pos h7] at hx
          exact ⟨Or.inr rfl, rfl, by rw [← hx], rfl⟩
  refine hK.1 [(4, [false, true, true, true])] 60 _ _ _ _ _ ?_
  exact loop 6 0 x rfl rfl
def takenR (A : ST) (one k : Int32) : Int32 := if 0 ≤ k ∧ k ≤ 5 then (if 0 ≤ one ∧ one < nI (aN A 0) then (if ladS k 5 (aP A one.toNatClampNeg 0) = 1 then aP A one.toNatClampNeg 1 else -13) else -11) else -2
theorem c_taken {one k : Int32} (ok : OKA A) : CC G l 134 5 [vI one, vI k] A (vI (takenR A one k)) A := by
  intro I J rd rr hC
  obtain ⟨h1, h2, h3, h4⟩ := hC.1
  have h5 := ok.1.1
  refine Ev_go iC_taken rfl rfl rfl ⟨Nat.le_refl _, Nat.le_refl _⟩ (fun K hK => hK.1 [] 120 _ _ _ _ _ ?_)
  unfold takenR
  refine k_isWithin (by decide) ?_
  refine And.intro (fun h6 => ?_) (fun h6 => ?_)
  · have hk := iN_y h6
    rw [if_pos hk]
    obtain ⟨z, hz, rfl⟩ := rg_of (n := 5) hk.1 hk.2 (by decide)
    refine k_isThere h1 (by decide) ?_
    refine And.intro (fun h7 => ?_) (fun h7 => ?_)
    · have hc := iN_y h7
      rw [if_pos hc]
      obtain ⟨p, hp, rfl⟩ := nI_ex hc.1 hc.2 (by omega)
      rw [nI_clamp (n := p) (by omega)]
      obtain ⟨q, hq, hqe⟩ := (ok.1.2.2.2.2 p hp).1
      show vp_in _ _ ∧ _
      refine ⟨nI_in (N := 5) (by omega) (by decide), ?_⟩
      rw [nI_clamp (n := p) (by omega)]
      show CPd _ _ _ _ _ _ _ _ _
      rw [getI_mk, h4 p hp 0 (by omega), hqe]
      refine CPd_eq e_isOrIsUnder (by decide) rfl ?_
      rw [anc_lad q (by omega) z (by omega)]
      have hl : ∀ f x, ladS (nI z) f x = 0 ∨ ladS (nI z) f x = 1 := by
        intro f
        induction f with
        | zero => exact fun x => Or.inl rfl
        | succ f ih =>
          intro x
          rw [ladS]
          split
          · exact Or.inl rfl
          · split
            · exact Or.inr rfl
            · exact ih _
      refine And.intro (fun h8 => ?_) (fun h8 => ?_)
      · refine ⟨rfl, (I, J, rd, rr), ?_, rfl, hC, fun k hk => ⟨rfl, rfl⟩⟩
        rw [if_neg (by rw [h8]; decide)]
      · refine ⟨rfl, (I, J, rd, rr), ?_, rfl, hC, fun k hk => ⟨rfl, rfl⟩⟩
        rw [if_pos ((hl 5 _).resolve_left h8), getI_mk, h4 p hp 1 (by omega)]
    · have hc := iN_n h7
      rw [if_neg hc]
      exact ⟨rfl, (I, J, rd, rr), rfl, rfl, hC, fun k hk => ⟨rfl, rfl⟩⟩
  · have hc := iN_n h6
    rw [if_neg hc]
    exact ⟨rfl, (I, J, rd, rr), rfl, rfl, hC, fun k hk => ⟨rfl, rfl⟩⟩
theorem e_over {x : Int32} {h : AH} : Ev G l 0 (mt 174) 80 80 [vI x] h (fun r h' => r = some (vI (ovr x)) ∧ h' = h) := by
  refine Ev_go iM_over rfl rfl rfl ⟨Nat.le_refl _, Nat.le_refl _⟩ (fun K hK => hK.1 [] 120 _ _ _ _ _ ?_)
  repeat' first | exact rfl | exact True.intro | apply And.intro | intro _
  all_goals first | (simp_all [ovr]; done) | (unfold ovr; grind)
theorem m_taken {one k : Int32} (ok : OKA A) : MC G l 173 100 [vI one, vI k] A (vI (takenR A one k)) A := by
  intro I J rd rr Q S T hC
  obtain ⟨h1, h2, h3, h4⟩ := hC.1
  have h5 := ok.1.1
  unfold takenR
  refine Ev_go iM_taken rfl rfl rfl ⟨Nat.le_refl _, Nat.le_refl _⟩ (fun K hK => ?_)
  refine hK.1 [(33, [true, true, true, true])] 100 _ _ _ _ _ ?_
  refine c_in (b' := 0) (c' := 5) rfl rfl (by decide) ?_
  refine And.intro (fun h6 => ?_) (fun h6 => ?_)
  · have hk := iN_y h6
    rw [if_pos hk] at hK
    obtain ⟨z, hz, rfl⟩ := rg_of (n := 5) hk.1 hk.2 (by decide)
    refine c_isOne h1 h5 (by decide) ?_
    refine And.intro (fun h7 => ?_) (fun h7 => ?_)
    · have hc := iN_y h7
      rw [if_pos hc] at hK
      obtain ⟨p, hp, rfl⟩ := nI_ex hc.1 hc.2 (by omega)
      rw [nI_clamp (n := p) (by omega)] at hK
      have hnk : ¬ nI z = -1 := by
        intro e
        have := congrArg Int32.toInt e
        rw [nI_toInt (by omega)] at this
        have h5' : (-1 : Int32).toInt = -1 := by decide
        omega
      have loop : ∀ f x, endS f x → ladS (nI z) (f + 1) x = ladS (nI z) 5 (aP A p 0) → K 80 33 [some (vR 20 0 0), some (vI (nI p)), some (vI (nI z)), some (vI x)] [] (mf I J rd rr Q S T) := by
        intro f
        induction f with
        | zero =>
          intro x he hx
          have he : x = -1 := he
          subst he
          refine hK.1 [] 60 _ _ _ _ _ ?_
          refine And.intro (fun _ => And.intro (fun _ => ?_) (fun e => absurd e.symm hnk)) (fun q => absurd rfl q)
          refine ⟨rfl, (I, Q, S, T), ?_, rfl, hC, frM.r⟩
          rw [← hx, if_neg (by show ¬ ladS (nI z) 1 (-1) = 1; rw [ladS, if_pos rfl]; decide)]
        | succ f ih =>
          intro x he hx
          rw [ladS] at hx
          refine hK.1 [(33, [true, true, true, true])] 60 _ _ _ _ _ ?_
          refine And.intro (fun hx1 => And.intro (fun _ => ?_) (fun e => absurd (e.symm.trans hx1) hnk)) (fun hx1 => And.intro (fun hx2 => ?_) (fun hx2 => ?_))
          · refine ⟨rfl, (I, Q, S, T), ?_, rfl, hC, frM.r⟩
            rw [if_pos hx1] at hx
            rw [← hx, if_neg (by decide)]
          · refine And.intro (fun q => absurd hx2 q) (fun _ => ?_)
            refine c_its rfl (w := 1) rfl (by omega) (by decide) (by decide) ?_
            refine ⟨rfl, (I, Q, S, T), ?_, rfl, hC, frM.r⟩
            rw [if_neg hx1, if_pos hx2] at hx
            rw [← hx, if_pos rfl, h4 p hp 1 (by omega)]
          · refine CPd_eq e_over (by decide) rfl ?_
            show K 80 33 _ _ _
            rw [if_neg hx1, if_neg hx2] at hx
            exact ih _ (he.resolve_left hx1) hx
      obtain ⟨q, hq, hqe⟩ := (ok.1.2.2.2.2 p hp).1
      show vp_in _ _ ∧ _
      refine ⟨nI_in (N := 5) (by omega) (by decide), ?_⟩
      rw [nI_clamp (n := p) (by omega), mf_k, h4 p hp 0 (by omega)]
      show K 80 33 _ _ _
      exact loop 4 _ (by rw [hqe]; exact end_ok q (by omega)) rfl
    · have hc := iN_n h7
      rw [if_neg hc]
      exact ⟨rfl, (I, Q, S, T), by rw [if_pos hk], rfl, hC, frM.r⟩
  · have hc := iN_n h6
    rw [if_neg hc]
    exact ⟨rfl, (I, Q, S, T), rfl, rfl, hC, frM.r⟩
end T13
