/-! the class: small things -/
section C1
variable {G : GT} {l : Launch} {I : HI} {J : HJ} {rd : Option AO} {rr : Nat → Nat}
def bnd (v a b : Int32) : Int32 := if v < a then a else if b < v then b else v
theorem e_bound {d n : Nat} {h : AH} {a b c : Int32} (hn : n ≤ 80) : Ev G l d (mt 71) n n [vI a, vI b, vI c] h (fun r h' => r = some (vI (bnd a b c)) ∧ h' = h) := by
  refine Ev_go iC_bound rfl rfl rfl ⟨Nat.le_refl _, hn⟩ (fun K hK => hK.1 [] 50 _ _ _ _ _ ?_)
  repeat' first | exact rfl | exact True.intro | apply And.intro | intro _
  all_goals (unfold bnd; grind)
def iN (p : Prop) [Decidable p] : Int32 := if p then 1 else 0
theorem e_isWithin {d n : Nat} {h : AH} {a b c : Int32} (hn : n ≤ 80) : Ev G l d (mt 56) n n [vI a, vI b, vI c] h (fun r h' => r = some (vI (iN (b ≤ a ∧ a ≤ c))) ∧ h' = h) := by
  refine Ev_go iC_isWithin rfl rfl rfl ⟨Nat.le_refl _, hn⟩ (fun K hK => hK.1 [] 50 _ _ _ _ _ ?_)
  repeat' first | exact rfl | exact True.intro | apply And.intro | intro _
  all_goals first | exact Or.inl rfl | exact Or.inr rfl | (unfold iN; grind)
def layI (I : HI) (v p : Nat) (what x : Int32) : HI := if what = 1 then upI I 19 v p 1 x else if what = 2 then upI I 19 v p 2 x else if what = 3 then upI I 19 v p 3 x else if what = 4 then upI I 19 v p 4 x else if what = 5 then upI I 19 v p 5 x else if what = 6 then upI I 19 v p 6 (if x = 1 then 1 else 0) else I
theorem e_lay {v p : Nat} {what x : Int32} : Ev G l 0 (mt 58) 80 80 [vR 19 v p, vI what, vI x] (mkH I J rd rr) (fun r h' => r = none ∧ h' = mkH (layI I v p what x) J rd rr) := by
  refine Ev_go iP_lay rfl rfl rfl ⟨Nat.le_refl _, Nat.le_refl _⟩ (fun K hK => hK.1 [] 50 _ _ _ _ _ ?_)
  repeat' first | exact rfl | exact True.intro | apply And.intro | intro _

  all_goals first | exact Or.inl rfl | exact Or.inr rfl | (simp_all [layI, setI_mk, swNo]; done)
def attr (P : PP) (p : Nat) (what : Int32) : Int32 := if what = 1 then P p 1 else if what = 2 then P p 2 else if what = 3 then P p 3 else if what = 4 then P p 4 else if what = 5 then P p 5 else if what = 6 then P p 6 else -1000
theorem e_attribute {v p : Nat} {what : Int32} : Ev G l 0 (mt 57) 80 80 [vR 19 v p, vI what] (mkH I J rd rr) (fun r h' => r = some (vI (attr (I 19 v) p what)) ∧ h' = mkH I J rd rr) := by
  refine Ev_go iP_attribute rfl rfl rfl ⟨Nat.le_refl _, Nat.le_refl _⟩ (fun K hK => hK.1 [] 50 _ _ _ _ _ ?_)
  repeat' first | exact rfl | exact True.intro | apply And.intro | intro _
  all_goals first | exact Or.inl rfl | exact Or.inr rfl | (simp_all [attr, getI_mk, swNo]; done)
end C1
