/-! lowest terms -/
section T19
variable {G : GT} {l : Launch} {I : HI} {J : HJ} {rd : Option AO} {rr : Nat → Nat} {A : ST}
theorem nI_div {x y : Nat} (hx : x < 2 ^ 31) (hy : y < 2 ^ 31) : nI x / nI y = nI (x / y) := by
  have h := Nat.div_le_self x y
  apply Int32.toInt_inj.mp
  rw [Int32.toInt_div, nI_toInt hx, nI_toInt hy, nI_toInt (by omega), Int.tdiv_eq_ediv_of_nonneg (by omega), ← Int.natCast_ediv]
  generalize x / y = w at h ⊢
  rw [Int.bmod_eq_of_le (by omega) (by omega)]
theorem nI_rem {x y : Nat} (hx : x < 2 ^ 31) (hy : y < 2 ^ 31) : nI x - nI x / nI y * nI y = nI (x % y) := by
  rw [nI_div hx hy]
  have e : x = x / y * y + x % y := by rw [Nat.mul_comm]; exact (Nat.div_add_mod x y).symm
  have e2 : nI x = nI (x / y) * nI y + nI (x % y) := by
    unfold nI
    rw [← Int32.ofNat_mul, ← Int32.ofNat_add, ← e]
  rw [e2]
  grind
/-- the greatest divisor of both, by the rests -/
def gcdF : Nat → Nat → Nat → Nat
  | 0, x, _ => x
  | f + 1, x, y => if y = 0 then x else gcdF f y (x % y)
theorem e_commonDivisor {x y : Nat} {h : AH} (hx : x < 2 ^ 31) (hy : y < 2 ^ 31) : Ev G l 0 (mt 108) 80 80 [vI (nI x), vI (nI y)] h (fun r h' => r = some (vI (nI (gcdF 100 x y))) ∧ h' = h) := by
  refine Ev_go iC_commonDivisor rfl rfl rfl ⟨Nat.le_refl _, Nat.le_refl _⟩ (fun K hK => ?_)
  have loop : ∀ j t a b, t + j = 100 → a < 2 ^ 31 → b < 2 ^ 31 → gcdF j a b = gcdF 100 x y → K 80 7 [none, none, some (vI (nI a)), some (vI (nI b)), some (vI (nI t)), none] [] h := by
    intro j
    induction j with
    | zero =>
      intro t a b ht ha hb hg
      refine hK.1 [] 60 _ _ _ _ _ ?_
      rw [show t = 100 by omega]
      refine And.intro (fun _ => ⟨rfl, by rw [← hg]; rfl, rfl⟩) (fun q => absurd (by decide) q)
    | succ j ih =>
      intro t a b ht ha hb hg
      refine hK.1 [(7, [false, false, true, true, true])] 60 _ _ _ _ _ ?_
      rw [gcdF] at hg
      refine And.intro (fun q => absurd q (nI_ge (a := t) (b := 100) (by omega) (by decide))) (fun _ => And.intro (fun h1 => ?_) (fun h1 => ?_))
      · have hb0 : b = 0 := by
          have := congrArg Int32.toInt h1
          rw [nI_toInt hb, Int32.toInt_zero] at this
          omega
        rw [if_pos hb0] at hg
        exact ⟨rfl, by rw [← hg], rfl⟩
      · have hb0 : ¬ b = 0 := fun e => h1 (by rw [e]; rfl)
        rw [if_neg hb0] at hg
        refine ⟨h1, ?_⟩
        show K 80 7 _ _ _
        refine Kc (ih (t + 1) b (a % b) (by omega) hb (Nat.lt_trans (Nat.mod_lt _ (by omega)) hb) hg) ?_ rfl
        rw [nI_rem ha hb, nI_succ]
        rfl
  refine hK.1 [(7, [false, false, true, true, true])] 60 _ _ _ _ _ ?_
  show K 80 7 _ _ _
  exact loop 100 0 x y rfl hx hy rfl
end T19
