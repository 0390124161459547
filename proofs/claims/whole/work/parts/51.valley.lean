/-! valley */ -/
section T27
variable {G : GT} {l : Launch} {I : HI} {J : HJ} {rd : Option AO} {rr : Nat → Nat} {A : ST}
theorem person_S {k n : Int32} : aS (personA A k n) = aS A := by
  unfold personA
  split
  · split
    · rfl
    · rfl
  · rfl
/-- so many pairs more, from the k-th on -/
def valF (f : Nat → Int32) (z : Nat) (a : Int32) : Nat → Nat → Int32 → ST → Int32 × ST
  | 0, _, c, A => (c, A)
  | j + 1, k, c, A => if rmP z a (nI (2 * k + 2)) then
      valF f z a j (k + 1) (if personR A (f (2 + (a.toNatClampNeg + 2 * k))) (f (2 + (a.toNatClampNeg + 2 * k + 1))) < 0 then c else c + 1) (personA A (f (2 + (a.toNatClampNeg + 2 * k))) (f (2 + (a.toNatClampNeg + 2 * k + 1))))
    else (-12, A)
theorem ok_valF {f : Nat → Int32} {z : Nat} {a : Int32} : ∀ (j k : Nat) (c : Int32) (A : ST), OKA A → OKA (valF f z a j k c A).2
  | 0, _, _, _, h => h
  | j + 1, k, c, A, h => by
    rw [valF]
    split
    · exact ok_valF j (k + 1) _ _ (ok_person h)
    · exact h
def valleyR (A : ST) (s so a n : Int32) : Int32 := if (0 ≤ s ∧ s ≤ 3) ∧ (0 ≤ so ∧ so ≤ 2) ∧ 0 ≤ n ∧ n ≤ 5 then (if aS A s.toNatClampNeg 0 = -1 then -11 else if aS A s.toNatClampNeg 0 = so then (valF (aS A s.toNatClampNeg) (aS A s.toNatClampNeg 1).toNatClampNeg a n.toNatClampNeg 0 0 A).1 else -13) else -2
def valleyA (A : ST) (s so a n : Int32) : ST := if (0 ≤ s ∧ s ≤ 3) ∧ (0 ≤ so ∧ so ≤ 2) ∧ 0 ≤ n ∧ n ≤ 5 then (if aS A s.toNatClampNeg 0 = -1 then A else if aS A s.toNatClampNeg 0 = so then (valF (aS A s.toNatClampNeg) (aS A s.toNatClampNeg 1).toNatClampNeg a n.toNatClampNeg 0 0 A).2 else A) else A
theorem ok_valley {s so a n : Int32} (ok : OKA A) : OKA (valleyA A s so a n) := by
  unfold valleyA
  split
  · split
    · exact ok
    · split
      · exact ok_valF _ _ _ _ ok
      · exact ok
  · exact ok
theorem nI_2k {k : Nat} : (2 : Int32) * nI k = nI (2 * k) := by
  unfold nI
  rw [Int32.ofNat_mul]
  rfl
theorem nI_2k2 {k : Nat} : (2 : Int32) * nI k + 2 = nI (2 * k + 2) := by rw [nI_2k, show (2 : Int32) = nI 2 from rfl, nI_plus]
theorem c_valley {s so a n : Int32} (ok : OKA A) : CC G l 133 5 [vI s, vI so, vI a, vI n] A (vI (valleyR A s so a n)) (valleyA A s so a n) := by
  intro I J rd rr hC
  refine Ev_go iC_valley rfl rfl rfl ⟨Nat.le_refl _, Nat.le_refl _⟩ (fun K hK => ?_)
  refine hK.1 [(64, [true, true, true, true, true, true, true, true, false])] 120 _ _ _ _ _ ?_
  unfold valleyR valleyA at hK
  unfold valleyR valleyA
  refine k_isSheet (by decide) ?_
  refine And.intro (fun h6 => ?_) (fun h6 => ?_)
  · rw [if_neg (fun q => iN_n h6 q.1), if_neg (fun q => iN_n h6 q.1)]
    exact ⟨rfl, (I, J, rd, rr), rfl, rfl, hC, fun k hk => ⟨rfl, rfl⟩⟩
  · refine k_isSort (by decide) ?_
    refine And.intro (fun h7 => ?_) (fun h7 => ?_)
    · rw [if_neg (fun q => iN_n h7 q.2.1), if_neg (fun q => iN_n h7 q.2.1)]
      exact ⟨rfl, (I, J, rd, rr), rfl, rfl, hC, fun k hk => ⟨rfl, rfl⟩⟩
    · refine k_isWithin (by decide) ?_
      refine And.intro (fun h8 => ?_) (fun h8 => ?_)
      · have hc := And.intro (iN_y h6) (And.intro (iN_y h7) (iN_y h8))
        rw [if_pos hc, if_pos hc] at hK ⊢
        obtain ⟨s, hs, rfl⟩ := rg_of (n := 3) hc.1.1 hc.1.2 (by decide)
        obtain ⟨m, hm, rfl⟩ := rg_of (n := 5) hc.2.2.1 hc.2.2.2 (by decide)
        obtain ⟨z, hz, ez⟩ := sz_ex ok (s := s) (by omega)
        have gs := hC.2.2.2.2.1 s (by omega)
        rw [nI_clamp (n := s) (by omega), nI_clamp (n := m) (by omega), ez, nI_clamp (n := z) (by omega)] at hK ⊢
        show vp_in _ _ ∧ _
        refine ⟨nI_in (N := 4) (by omega) (by decide), ?_⟩
        rw [nI_clamp (n := s) (by omega)]
        refine k_missing (by decide) ?_
        rw [gs.1]
        refine And.intro (fun h9 => ?_) (fun h9 => ?_)
        · have h9 := iN_n h9
          rw [if_neg h9, if_neg h9] at hK ⊢
          refine And.intro (fun h10 => ?_) (fun h10 => ?_)
          · rw [getI_mk, gs.1] at h10
            rw [if_pos h10, if_pos h10] at hK
            show K 80 64 _ _ _
            have loop : ∀ j k c A1 (x : XC), k + j = m → CF x.1 x.2.2.2 A1 → OKA A1 → aS A1 = aS A → frC I x.1 J x.2.1 → valF (aS A s) z a j k c A1 = valF (aS A s) z a m 0 0 A → K 80 64 [some (vR 0 0 0), some (vI (nI s)), some (vI so), some (vI a), some (vI (nI m)), some (vR 15 s 0), some (vI c), some (vI (nI k)), none] [] (mkH x.1 x.2.1 x.2.2.1 x.2.2.2) := by
              intro j
              induction j with
              | zero =>
                intro k c A1 x hk hC1 ok1 hS hf hv
                refine hK.1 [] 100 _ _ _ _ _ ?_
                rw [show k = m by omega]
                refine And.intro (fun _ => ?_) (fun h => absurd (nI_le (Nat.le_refl _) (by omega)) h)
                rw [← hv]
                exact ⟨rfl, x, rfl, rfl, hC1, hf⟩
              | succ j ih =>
                intro k c A1 x hk hC1 ok1 hS hf hv
                refine hK.1 [(64, [true, true, true, true, true, true, true, true, false])] 100 _ _ _ _ _ ?_
                refine And.intro (fun h => absurd h (nI_ge (by omega) (by omega))) (fun _ => ?_)
                have gs1 := hC1.2.2.2.2.1 s (by omega)
                rw [hS] at gs1
                show CPd _ _ _ _ _ _ _ _ _
                rw [nI_2k2]
                refine k_hasRoom (by decide) ?_
                rw [gs1.2.1, ez]
                rw [valF] at hv
                refine And.intro (fun h11 => ?_) (fun h11 => ?_)
                · have hr := (rm_c hz).mp (iN_y h11)
                  rw [if_pos hr] at hv
                  obtain ⟨a', b, rfl, hb, hab⟩ := rm_ex hr hz
                  have hbb : b = 2 * k + 2 := by
                    have := congrArg Int32.toInt hb
                    rw [nI_toInt (by omega), nI_toInt (by omega)] at this
                    omega
                  subst hbb
                  rw [nI_clamp (n := a') (by omega)] at hv
                  show vp_in _ _ ∧ vp_in _ _ ∧ _
                  rw [nI_2k, nI_plus, ← nI_succ]
                  refine ⟨nI_in (N := 40) (by omega) (by decide), nI_in (N := 40) (by omega) (by decide), ?_⟩
                  rw [nI_clamp (n := a' + 2 * k) (by omega), nI_clamp (n := a' + 2 * k + 1) (by omega), getI_mk, getI_mk, gs1.2.2 (a' + 2 * k) z hz ez (by omega), gs1.2.2 (a' + 2 * k + 1) z hz ez (by omega)]
                  refine CPd_exc (e_comesOne ok1 x.1 x.2.1 x.2.2.1 x.2.2.2 hC1) (by decide) rfl (fun y hy => ?_)
                  have hf' : frC I y.1 J y.2.1 := fun k hk => ⟨((hy.2 k hk).1).trans (hf k hk).1, ((hy.2 k hk).2).trans (hf k hk).2⟩
                  refine And.intro (fun h12 => ?_) (fun h12 => ?_)
                  · rw [if_pos h12] at hv
                    show K 80 64 _ _ _
                    exact Kc (ih (k + 1) c _ y (by omega) hy.1 (ok_person ok1) (person_S.trans hS) hf' hv) (by rw [nI_succ]; rfl) rfl
                  · rw [if_neg h12] at hv
                    show K 80 64 _ _ _
                    exact Kc (ih (k + 1) (c + 1) _ y (by omega) hy.1 (ok_person ok1) (person_S.trans hS) hf' hv) (by rw [nI_succ]; rfl) rfl
                · have hr : ¬ rmP z a (nI (2 * k + 2)) := fun q => iN_n h11 ((rm_c hz).mpr q)
                  rw [if_neg hr] at hv
                  rw [← hv]
                  exact ⟨rfl, x, rfl, rfl, hC1, hf⟩
            exact loop m 0 0 A (I, J, rd, rr) (by omega) hC ok rfl (fun k hk => ⟨rfl, rfl⟩) rfl
          · rw [getI_mk, gs.1] at h10
            rw [if_neg h10, if_neg h10]
            exact ⟨rfl, (I, J, rd, rr), rfl, rfl, hC, fun k hk => ⟨rfl, rfl⟩⟩
        · have h9 := iN_y h9
          rw [if_pos h9, if_pos h9]
          exact ⟨rfl, (I, J, rd, rr), rfl, rfl, hC, fun k hk => ⟨rfl, rfl⟩⟩
      · rw [if_neg (fun q => iN_n h8 q.2.2), if_neg (fun q => iN_n h8 q.2.2)]
        exact ⟨rfl, (I, J, rd, rr), rfl, rfl, hC, fun k hk => ⟨rfl, rfl⟩⟩
end T27
