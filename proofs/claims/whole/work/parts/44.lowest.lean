section T20
variable {G : GT} {l : Launch} {I : HI} {J : HJ} {rd : Option AO} {rr : Nat → Nat} {A : ST}
theorem gcdF_fuel : ∀ (j k a b : Nat), b < j → b < k → gcdF j a b = gcdF k a b
  | 0, _, _, _, h, _ => absurd h (by omega)
  | _ + 1, 0, _, _, _, h => absurd h (by omega)
  | j + 1, k + 1, a, b, h1, h2 => by
    rw [gcdF, gcdF]
    by_cases hb : b = 0
    · rw [if_pos hb, if_pos hb]
    · rw [if_neg hb, if_neg hb]
      have := Nat.mod_lt a (show 0 < b by omega)
      exact gcdF_fuel j k b (a % b) (by omega) (by omega)
theorem gcdF_pos : ∀ (j a b : Nat), 0 < a → 0 < gcdF j a b
  | 0, a, b, h => h
  | j + 1, a, b, h => by
    rw [gcdF]
    by_cases hb : b = 0
    · rw [if_pos hb]; exact h
    · rw [if_neg hb]; exact gcdF_pos j b (a % b) (by omega)
theorem gcdF_pos' {j a b : Nat} (h : 0 < b) : 0 < gcdF (j + 1) a b := by
  rw [gcdF, if_neg (by omega)]
  exact gcdF_pos j b (a % b) h
theorem gcdF_lt : ∀ (j a b N : Nat), a < N → b < N → gcdF j a b < N
  | 0, a, b, N, h, _ => h
  | j + 1, a, b, N, h1, h2 => by
    rw [gcdF]
    by_cases hb : b = 0
    · rw [if_pos hb]; exact h1
    · rw [if_neg hb]
      have := Nat.mod_lt a (show 0 < b by omega)
      exact gcdF_lt j b (a % b) N h2 (by omega)
def lowR (x y : Nat) (pa : Int32) : Int64 := if pa = 0 then nL (x / gcdF 100 x y) else nL (y / gcdF 100 x y)
theorem e_inLowest {x y : Nat} {pa : Int32} {h : AH} (hx : x < 2 ^ 31) (hy : y < 2 ^ 31) (hy0 : 0 < y) : Ev G l 1 (mt 107) 80 80 [vI (nI x), vI (nI y), vI pa] h (fun r h' => r = some (vL (lowR x y pa)) ∧ h' = h) := by
  have hg := gcdF_pos' (j := 99) (a := x) hy0
  have hl := gcdF_lt 100 x y (2 ^ 31) hx hy
  have hxd := Nat.div_le_self x (gcdF 100 x y)
  have hyd := Nat.div_le_self y (gcdF 100 x y)
  refine Ev_go iC_inLowestTerms rfl rfl rfl ⟨Nat.le_refl _, Nat.le_refl _⟩ (fun K hK => hK.1 [] 120 _ _ _ _ _ ?_)
  refine CPd_eq (e_commonDivisor hx hy) (by decide) rfl ?_
  unfold lowR
  refine And.intro (fun h1 => And.intro (fun h2 => ?_) (fun h2 => ?_)) (fun h1 => absurd h1 (nI_ne0 hg hl))
  · refine ⟨h1, rfl, ?_, rfl⟩
    rw [if_neg h2, nI_div hy hl, nL_I (by omega)]
  · refine ⟨h1, rfl, ?_, rfl⟩
    rw [if_pos h2, nI_div hx hl, nL_I (by omega)]
end T20
