section T21
variable {G : GT} {l : Launch} {I : HI} {J : HJ} {rd : Option AO} {rr : Nat → Nat} {A : ST}
theorem nL_toInt {n : Nat} (h : n < 2 ^ 63) : (nL n).toInt = (n : Int) := by unfold nL; rw [Int64.toInt_ofNat_of_lt h]
theorem nL_div {x y : Nat} (hx : x < 2 ^ 63) (hy : y < 2 ^ 63) : nL x / nL y = nL (x / y) := by
  have h := Nat.div_le_self x y
  apply Int64.toInt_inj.mp
  rw [Int64.toInt_div, nL_toInt hx, nL_toInt hy, nL_toInt (by omega), Int.tdiv_eq_ediv_of_nonneg (by omega), ← Int.natCast_ediv]
  generalize x / y = w at h ⊢
  rw [Int.bmod_eq_of_le (by omega) (by omega)]
theorem nL_rem {x y : Nat} (hx : x < 2 ^ 63) (hy : y < 2 ^ 63) : nL x - nL x / nL y * nL y = nL (x % y) := by
  rw [nL_div hx hy]
  have e : x = x / y * y + x % y := by rw [Nat.mul_comm]; exact (Nat.div_add_mod x y).symm
  have e2 : nL x = nL (x / y) * nL y + nL (x % y) := by
    rw [nL_mul, nL_add, ← e]
  rw [e2]
  grind
theorem e_lowest {x y : Nat} {pa : Int32} {h : AH} (hx : x < 2 ^ 31) (hy : y < 90) (hy0 : 0 < y) : Ev G l 0 (mt 195) 80 80 [vL (nL x), vL (nL y), vI pa] h (fun r h' => r = some (vL (lowR x y pa)) ∧ h' = h) := by
  have hg : 0 < gcdF 100 x y := gcdF_pos' (j := 99) (a := x) hy0
  have hl := gcdF_lt 100 x y (2 ^ 31) hx (by omega)
  refine Ev_go iM_lowest rfl rfl rfl ⟨Nat.le_refl _, Nat.le_refl _⟩ (fun K hK => ?_)
  have loop : ∀ j a b, b < j → a < 2 ^ 31 → gcdF j a b = gcdF 100 x y → b < 2 ^ 31 → K 80 6 [some (vL (nL x)), none, some (vL (nL y)), none, some (vI pa), some (vL (nL a)), none, some (vL (nL b)), none, none, none] [] h := by
    intro j
    induction j with
    | zero => intro a b hb; exact absurd hb (by omega)
    | succ j ih =>
      intro a b hbj ha hgj hb
      rw [gcdF] at hgj
      refine hK.1 [(6, [true, true, true, true, true, true, true, true, true])] 60 _ _ _ _ _ ?_
      refine And.intro (fun h1 => ?_) (fun h1 => ?_)
      · rw [lg_cmp_0] at h1
        have hb0 : b = 0 := nL_inj (b := 0) (by omega) (by decide) h1
        rw [if_pos hb0] at hgj
        subst hgj
        have hne : ¬ nL (gcdF 100 x y) = 0 := fun e => by have := nL_inj (b := 0) (by omega) (by decide) e; omega
        unfold lowR
        refine And.intro (fun h2 => ?_) (fun h2 => ?_)
        · refine ⟨hne, rfl, ?_, rfl⟩
          rw [if_neg h2, nL_div (by omega) (by omega)]
        · refine ⟨hne, rfl, ?_, rfl⟩
          rw [if_pos h2, nL_div (by omega) (by omega)]
      · rw [lg_cmp_0] at h1
        have hb0 : ¬ b = 0 := fun e => h1 (by rw [e]; rfl)
        rw [if_neg hb0] at hgj
        refine ⟨h1, ?_⟩
        have hm := Nat.mod_lt a (show 0 < b by omega)
        show K 80 6 _ _ _
        refine Kc (ih b (a % b) (by omega) hb hgj (by omega)) ?_ rfl
        rw [nL_rem (by omega) (by omega)]
        rfl
  refine hK.1 [(6, [true, true, true, true, true, true, true, true, true])] 60 _ _ _ _ _ ?_
  show K 80 6 _ _ _
  exact loop 100 x y (by omega) hx rfl (by omega)
end T21
