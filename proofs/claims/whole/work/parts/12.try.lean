def bnd (v a b : Int32) : Int32 := if v < a then a else if b < v then b else v
theorem e_bound {G : GT} {l : Launch} {d n : Nat} {h : AH} {a b c : Int32} (hn : n ≤ 80) : Ev G l d (mt 71) n n [vI a, vI b, vI c] h (fun r h' => r = some (vI (bnd a b c)) ∧ h' = h) := by
  refine Ev_go iC_bound rfl rfl rfl ⟨Nat.le_refl _, hn⟩ (fun K hK => hK.1 [] 50 _ _ _ _ _ ?_)
  repeat' first | exact rfl | apply And.intro | intro _
  all_goals trace_state
  all_goals (unfold bnd; grind)
theorem e_isWithin {G : GT} {l : Launch} {d n : Nat} {h : AH} {a b c : Int32} (hn : n ≤ 80) : Ev G l d (mt 56) n n [vI a, vI b, vI c] h (fun r h' => r = some (vI (if b ≤ a ∧ a ≤ c then 1 else 0)) ∧ h' = h) := by
  refine Ev_go iC_isWithin rfl rfl rfl ⟨Nat.le_refl _, hn⟩ (fun K hK => hK.1 [] 50 _ _ _ _ _ ?_)
  repeat' first | exact rfl | apply And.intro | intro _
  all_goals first | exact Or.inl rfl | exact Or.inr rfl | grind
