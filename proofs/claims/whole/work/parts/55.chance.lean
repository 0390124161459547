/-! chance */ -/
section T31
variable {G : GT} {l : Launch} {I : HI} {J : HJ} {rd : Option AO} {rr : Nat → Nat} {A : ST}
/-- of the first seeds those by which all are so TIRED -/
def chN (A : ST) (z k : Int32) : Nat → Nat
  | 0 => 0
  | i + 1 => if drawnV A (z + nI i) 10 < k then chN A z k i else chN A z k i + 1
theorem chN_le {z k : Int32} : ∀ i, chN A z k i ≤ i
  | 0 => Nat.le_refl _
  | i + 1 => by
    have := chN_le (z := z) (k := k) i
    rw [chN]
    split <;> omega
def chanceR (A : ST) (z m k pa : Int32) : Int64 := if (1 ≤ m ∧ m ≤ 20) ∧ (0 ≤ k ∧ k ≤ 500) ∧ 0 ≤ pa ∧ pa ≤ 1 then lowR (chN A z k m.toNatClampNeg) m.toNatClampNeg pa else -4611686018427387904
theorem one_rg {m : Int32} (h1 : 1 ≤ m) (h2 : m ≤ 20) : ∃ q, 0 < q ∧ q ≤ 20 ∧ m = nI q := by
  obtain ⟨q, hq, rfl⟩ := rg_of (x := m) (n := 20) (by grind) h2 (by decide)
  refine ⟨q, ?_, hq, rfl⟩
  refine Classical.byContradiction fun e => ?_
  have : q = 0 := by omega
  subst this
  exact absurd h1 (by decide)
theorem c_chance {z m k pa : Int32} (ok : OKA A) : CC G l 124 7 [vI z, vI m, vI k, vI pa] A (vL (chanceR A z m k pa)) A := by
  intro I J rd rr hC
  refine Ev_go iC_chance rfl rfl rfl ⟨Nat.le_refl _, Nat.le_refl _⟩ (fun K hK => ?_)
  refine hK.1 [(41, [true, true, true, true, true, true, true])] 120 _ _ _ _ _ ?_
  unfold chanceR at hK
  unfold chanceR
  refine k_isWithin (by decide) ?_
  refine And.intro (fun h6 => ?_) (fun h6 => ?_)
  · rw [if_neg (fun q => iN_n h6 q.1)]
    exact ⟨rfl, (I, J, rd, rr), rfl, rfl, hC, fun k hk => ⟨rfl, rfl⟩⟩
  · refine k_isWithin (by decide) ?_
    refine And.intro (fun h7 => ?_) (fun h7 => ?_)
    · rw [if_neg (fun q => iN_n h7 q.2.1)]
      exact ⟨rfl, (I, J, rd, rr), rfl, rfl, hC, fun k hk => ⟨rfl, rfl⟩⟩
    · refine k_isWithin (by decide) ?_
      refine And.intro (fun h8 => ?_) (fun h8 => ?_)
      · have hc := And.intro (iN_y h6) (And.intro (iN_y h7) (iN_y h8))
        rw [if_pos hc] at hK
        obtain ⟨m, hm0, hm, rfl⟩ := one_rg hc.1.1 hc.1.2
        rw [nI_clamp (n := m) (by omega)] at hK
        have loop : ∀ j i (x : XC), i + j = m → CF x.1 x.2.2.2 A → frC I x.1 J x.2.1 → K 80 41 [some (vR 0 0 0), some (vI z), some (vI (nI m)), some (vI k), some (vI pa), some (vI (nI (chN A z k i))), some (vI (nI i))] [] (mkH x.1 x.2.1 x.2.2.1 x.2.2.2) := by
          intro j
          induction j with
          | zero =>
            intro i x hi hC1 hf
            refine hK.1 [] 100 _ _ _ _ _ ?_
            rw [show i = m by omega]
            have := chN_le (A := A) (z := z) (k := k) m
            refine And.intro (fun _ => ?_) (fun h => absurd (nI_le (Nat.le_refl _) (by omega)) h)
            refine CPd_eq (e_inLowest (by omega) (by omega) (by omega)) (by decide) rfl ?_
            exact ⟨rfl, x, rfl, rfl, hC1, hf⟩
          | succ j ih =>
            intro i x hi hC1 hf
            refine hK.1 [(41, [true, true, true, true, true, true, true])] 100 _ _ _ _ _ ?_
            refine And.intro (fun h => absurd h (nI_ge (by omega) (by omega))) (fun _ => ?_)
            refine CPd_exc (e_tad (n := 10) ok (by decide) x.1 x.2.1 x.2.2.1 x.2.2.2 hC1) (by decide) rfl (fun y hy => ?_)
            have hf' : frC I y.1 J y.2.1 := fun k hk => ⟨((hy.2 k hk).1).trans (hf k hk).1, ((hy.2 k hk).2).trans (hf k hk).2⟩
            refine And.intro (fun h9 => ?_) (fun h9 => ?_)
            · show K 80 41 _ _ _
              refine Kc (ih (i + 1) y (by omega) hy.1 hf') ?_ rfl
              rw [chN, if_pos h9, nI_succ]
              rfl
            · show K 80 41 _ _ _
              refine Kc (ih (i + 1) y (by omega) hy.1 hf') ?_ rfl
              rw [chN, if_neg h9, nI_succ, nI_succ]
              rfl
        show K 80 41 _ _ _
        exact loop m 0 (I, J, rd, rr) (by omega) hC (fun k hk => ⟨rfl, rfl⟩)
      · rw [if_neg (fun q => iN_n h8 q.2.2)]
        exact ⟨rfl, (I, J, rd, rr), rfl, rfl, hC, fun k hk => ⟨rfl, rfl⟩⟩
theorem m_chance {z m k pa : Int32} (ok : OKA A) : MC G l 202 101 [vI z, vI m, vI k, vI pa] A (vL (chanceR A z m k pa)) A := by
  intro I J rd rr Q S T hC
  refine Ev_go iM_chance rfl rfl rfl ⟨Nat.le_refl _, Nat.le_refl _⟩ (fun K hK => ?_)
  refine hK.1 [(45, [true, true, true, true, true, true, true, true])] 120 _ _ _ _ _ ?_
  unfold chanceR at hK
  unfold chanceR
  refine c_in (b' := 1) (c' := 20) rfl rfl (by decide) ?_
  refine And.intro (fun h6 => ?_) (fun h6 => ?_)
  · rw [if_neg (fun q => iN_n h6 q.1)]
    exact ⟨rfl, (I, Q, S, T), rfl, rfl, hC, frM.r⟩
  · refine c_in (b' := 0) (c' := 500) rfl rfl (by decide) ?_
    refine And.intro (fun h7 => ?_) (fun h7 => ?_)
    · rw [if_neg (fun q => iN_n h7 q.2.1)]
      exact ⟨rfl, (I, Q, S, T), rfl, rfl, hC, frM.r⟩
    · refine c_in (b' := 0) (c' := 1) rfl rfl (by decide) ?_
      refine And.intro (fun h8 => ?_) (fun h8 => ?_)
      · have hc := And.intro (iN_y h6) (And.intro (iN_y h7) (iN_y h8))
        rw [if_pos hc] at hK
        obtain ⟨m, hm0, hm, rfl⟩ := one_rg hc.1.1 hc.1.2
        rw [nI_clamp (n := m) (by omega)] at hK
        have loop : ∀ j i (x : XM), i + j = m → MF G l x.1 x.2.1 x.2.2.1 x.2.2.2 A → frM I x.1 → K 80 45 [some (vR 20 0 0), some (vI z), some (vI (nI m)), some (vI k), some (vI pa), some (vL (nL (chN A z k i))), none, some (vI (nI i))] [] (mf x.1 J rd rr x.2.1 x.2.2.1 x.2.2.2) := by
          intro j
          induction j with
          | zero =>
            intro i x hi hC1 hf
            refine hK.1 [] 100 _ _ _ _ _ ?_
            rw [show i = m by omega]
            have := chN_le (A := A) (z := z) (k := k) m
            refine And.intro (fun _ => ?_) (fun h => absurd (nI_le (Nat.le_refl _) (by omega)) h)
            show CPd _ _ _ _ _ _ _ _ _
            rw [nL_I (by omega)]
            refine CPd_eq (e_lowest (by omega) (by omega) (by omega)) (by decide) rfl ?_
            exact ⟨rfl, x, rfl, rfl, hC1, hf⟩
          | succ j ih =>
            intro i x hi hC1 hf
            refine hK.1 [(45, [true, true, true, true, true, true, true, true])] 100 _ _ _ _ _ ?_
            refine And.intro (fun h => absurd h (nI_ge (by omega) (by omega))) (fun _ => ?_)
            refine CPd_exc (m_drawn ok x.1 J rd rr x.2.1 x.2.2.1 x.2.2.2 hC1) (by decide) rfl (fun y hy => ?_)
            have hf' : frM I y.1 := fun k hk => (hy.2 k hk).trans (hf k hk)
            have e10 : drawnR A (z + nI i) 10 = drawnV A (z + nI i) 10 := by unfold drawnR; rw [if_pos (by decide)]; rfl
            rw [e10]
            refine And.intro (fun h9 => ?_) (fun h9 => ?_)
            · show K 80 45 _ _ _
              refine Kc (ih (i + 1) y (by omega) hy.1 hf') ?_ rfl
              rw [chN, if_pos h9, nI_succ, show (0 : Int64) = nL 0 from rfl, nL_add]
              rfl
            · show K 80 45 _ _ _
              refine Kc (ih (i + 1) y (by omega) hy.1 hf') ?_ rfl
              rw [chN, if_neg h9, nI_succ, show (1 : Int64) = nL 1 from rfl, nL_add]
              rfl
        show K 80 45 _ _ _
        exact loop m 0 (I, Q, S, T) (by omega) hC frM.r
      · rw [if_neg (fun q => iN_n h8 q.2.2)]
        exact ⟨rfl, (I, Q, S, T), rfl, rfl, hC, frM.r⟩
end T31
