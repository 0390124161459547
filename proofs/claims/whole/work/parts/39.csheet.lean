section T15
variable {G : GT} {l : Launch} {I : HI} {J : HJ} {rd : Option AO} {rr : Nat → Nat} {A : ST}
def sheetR (s so n : Int32) : Int32 := if 0 ≤ s ∧ s ≤ 3 then (if so = -1 then 1 else if 0 ≤ so ∧ so ≤ 2 then (if 40 < n then -2 else if n < 0 then -14 else 1) else -2) else -2
def sheetA (A : ST) (s so n : Int32) : ST := if 0 ≤ s ∧ s ≤ 3 then (if so = -1 then stS A s.toNatClampNeg (rowS (-1) 0) else if 0 ≤ so ∧ so ≤ 2 then (if 40 < n then A else if n < 0 then A else stS A s.toNatClampNeg (rowS so n)) else A) else A
theorem ok_sheet {s so n : Int32} (ok : OKA A) : OKA (sheetA A s so n) := by
  unfold sheetA
  split
  · split
    · exact ok.S (Or.inl ⟨rfl, rfl⟩)
    · split
      · rename_i h
        split
        · exact ok
        · split
          · exact ok
          · refine ok.S (Or.inr ⟨?_, ?_⟩)
            · obtain ⟨q, hq, he⟩ := rg_of (n := 2) h.1 h.2 (by decide)
              exact ⟨q, by omega, he⟩
            · obtain ⟨q, hq, he⟩ := rg_of (x := n) (n := 40) (by grind) (by show n ≤ 40; grind) (by decide)
              exact ⟨q, hq, he⟩
      · exact ok
  · exact ok
theorem c_sheet {s so n : Int32} (ok : OKA A) : CC G l 128 5 [vI s, vI so, vI n] A (vI (sheetR s so n)) (sheetA A s so n) := by
  intro I J rd rr hC
  unfold sheetR sheetA
  refine Ev_go iC_sheet rfl rfl rfl ⟨Nat.le_refl _, Nat.le_refl _⟩ (fun K hK => hK.1 [] 120 _ _ _ _ _ ?_)
  refine k_isSheet (by decide) ?_
  refine And.intro (fun h6 => ?_) (fun h6 => ?_)
  · have hc := iN_n h6
    rw [if_neg hc, if_neg hc]
    exact ⟨rfl, (I, J, rd, rr), rfl, rfl, hC, fun k hk => ⟨rfl, rfl⟩⟩
  · have hc := iN_y h6
    obtain ⟨q, hq, rfl⟩ := rg_of (n := 3) hc.1 hc.2 (by decide)
    rw [if_pos hc, if_pos hc, nI_clamp (n := q) (by omega)]
    refine And.intro (fun h7 => ?_) (fun h7 => ?_)
    · subst h7
      refine And.intro (fun q => absurd rfl q) (fun _ => ?_)
      show vp_in _ _ ∧ _
      refine ⟨nI_in (N := 4) (by omega) (by decide), ?_⟩
      rw [nI_clamp (n := q) (by omega)]
      refine CPd_eq e_slay (by decide) rfl ?_
      exact ⟨rfl, (layS I q (-1) 0, J, rd, rr), rfl, rfl, hC.lay ⟨0, by omega, rfl⟩, frC.lay⟩
    · rw [if_neg h7, if_neg h7]
      refine k_isSort (by decide) ?_
      refine And.intro (fun h8 => ?_) (fun h8 => ?_)
      · have hs := iN_y h8
        rw [if_pos hs, if_pos hs]
        refine And.intro (fun _ => And.intro (fun h9 => And.intro (fun h10 => ?_) (fun h10 => ?_)) (fun h9 => ?_)) (fun q => absurd q h7)
        · show vp_in _ _ ∧ _
          refine ⟨nI_in (N := 4) (by omega) (by decide), ?_⟩
          rw [nI_clamp (n := q) (by omega)]
          refine CPd_eq e_slay (by decide) rfl ?_
          have h9' : ¬ 40 < n := by grind
          have h10' : ¬ n < 0 := by grind
          rw [if_neg h9', if_neg h10', if_neg h9', if_neg h10']
          exact ⟨rfl, (layS I q so n, J, rd, rr), rfl, rfl, hC.lay (rg_of (x := n) (n := 40) (by grind) (by show n ≤ 40; grind) (by decide)), frC.lay⟩
        · have h9' : ¬ 40 < n := by grind
          have h10' : n < 0 := by grind
          rw [if_neg h9', if_pos h10', if_neg h9', if_pos h10']
          exact ⟨rfl, (I, J, rd, rr), rfl, rfl, hC, fun k hk => ⟨rfl, rfl⟩⟩
        · have h9' : 40 < n := by grind
          rw [if_pos h9', if_pos h9']
          exact ⟨rfl, (I, J, rd, rr), rfl, rfl, hC, fun k hk => ⟨rfl, rfl⟩⟩
      · have hs := iN_n h8
        rw [if_neg hs, if_neg hs]
        exact ⟨rfl, (I, J, rd, rr), rfl, rfl, hC, fun k hk => ⟨rfl, rfl⟩⟩
end T15
