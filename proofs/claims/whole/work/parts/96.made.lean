/-! the world as it is being made: what has been set already -/
section Z3
abbrev DD : Type := Nat → Nat → Nat → Nat → Bool
def RD (rd : Option AO) (D : DD) : HR := fun k i j t => if D k i j t = true then RF rd (fun _ => 0) k i j t else none
def adD (D : DD) (k i j t : Nat) : DD := fun k' i' j' t' => decide (k' = k ∧ i' = i ∧ j' = j ∧ t' = t) || D k' i' j' t'
def mkD (I : HI) (rd : Option AO) (D : DD) : AH := (I, ((fun _ _ _ _ => 0), RD rd D))
/-- what is not yet made is empty -/
def Fr (n : Nat) (I : HI) (D : DD) : Prop := ∀ p, n ≤ p → p < 80 → ∀ t, I (idOf p).1 (idOf p).2.1 (idOf p).2.2 t = 0 ∧ D (idOf p).1 (idOf p).2.1 (idOf p).2.2 t = false
variable {G : GT} {l : Launch} {I : HI} {rd : Option AO} {D : DD}
theorem setR_D {k i j t : Nat} {x : Option AO} (hx : x = RF rd (fun _ => 0) k i j t) : setR (mkD I rd D) k i j t x = mkD I rd (adD D k i j t) := by
  refine congrArg (fun z => (I, ((fun _ _ _ _ => 0), z))) ?_
  funext k' i' j' t'
  show (if _ then _ else RD rd D k' i' j' t') = RD rd (adD D k i j t) k' i' j' t'
  unfold RD adD
  by_cases h : k' = k ∧ i' = i ∧ j' = j ∧ t' = t
  · rw [if_pos h, hx]
    obtain ⟨rfl, rfl, rfl, rfl⟩ := h
    simp
  · rw [if_neg h]
    simp [h]
theorem setI_D {k i j t : Nat} {x : Int32} : setI (mkD I rd D) k i j t x = mkD (upI I k i j t x) rd D := rfl
theorem clr_D {n : Nat} (hF : Fr n I D) (hn : n < 80) : clr (mkD I rd D) (idOf n) = mkD I rd D := by
  unfold clr mkD
  refine congr (congrArg Prod.mk ?_) (congr (congrArg Prod.mk ?_) ?_)
  · funext k i j t
    split
    · rename_i h
      have := (hF n (Nat.le_refl _) hn t).1
      rw [← h] at this
      exact this.symm
    · rfl
  · funext k i j t
    split <;> rfl
  · funext k i j t
    show (if _ then _ else RD rd D k i j t) = RD rd D k i j t
    split
    · rename_i h
      have := (hF n (Nat.le_refl _) hn t).2
      rw [← h] at this
      have this : D k i j t = false := this
      unfold RD
      rw [this]
      rfl
    · rfl
theorem Fr.up {n m : Nat} (hF : Fr n I D) (h : n ≤ m) : Fr m I D := fun p h1 h2 t => hF p (by omega) h2 t
theorem id_ne {p q : Nat} (hp : p < 80) (hq : q < 80) (h : idOf p = idOf q) : p = q := by rw [← pos_idOf p hp, ← pos_idOf q hq, h]
theorem Fr.wI {n q k i j t : Nat} {x : Int32} (hF : Fr n I D) (hq : idOf q = (k, (i, j))) (hqn : q < n) (hn : n ≤ 80) : Fr n (upI I k i j t x) D := fun p h1 h2 t' => ⟨by
  rw [upI_at, if_neg]
  · exact (hF p h1 h2 t').1
  · rintro ⟨a, b, c, _⟩
    have : idOf p = idOf q := by rw [hq, ← a, ← b, ← c]
    have := id_ne h2 (by omega) this
    omega, (hF p h1 h2 t').2⟩
theorem Fr.wD {n q k i j t : Nat} (hF : Fr n I D) (hq : idOf q = (k, (i, j))) (hqn : q < n) (hn : n ≤ 80) : Fr n I (adD D k i j t) := fun p h1 h2 t' => ⟨(hF p h1 h2 t').1, by
  unfold adD
  rw [(hF p h1 h2 t').2, Bool.or_false, decide_eq_false_iff_not]
  rintro ⟨a, b, c, _⟩
  have : idOf p = idOf q := by rw [hq, ← a, ← b, ← c]
  have := id_ne h2 (by omega) this
  omega⟩
variable {d own rt n1 n pc nx k i j : Nat} {tb : Nat → IE} {Q : Option AV → AH → Prop} {K : Nat → Nat → List (Option AV) → List AV → AH → Prop} {L : List (Option AV)} {st : List AV}
theorem al_arr {ty : ArrayType} {a : Int32} (hK : Cl G l d own rt tb n1 Q K) (e1 : tb pc = ie (.newarray ty) nx) (e2 : nx = pc + 2) (id : idOf n = (k, (i, j))) (ht : ty = .int ∧ tagOf k = 0 ∨ ty = .long ∧ tagOf k = 1 ∨ ty = .boolean ∧ tagOf k = 3) (ha : a = Int32.ofNat (lenOf k)) (hl : lenOf k ≤ 2000) (hn : n + 1 ≤ n1) (h80 : n < 80) (hF : Fr n I D) (kk : K (n + 1) nx L (vR k i j :: st) (mkD I rd D)) : K n pc L (vI a :: st) (mkD I rd D) := by
  refine hK.2.2.2.2.1 n pc nx ty a L st _ e1 e2 (by rw [id]; exact ht) (by rw [id]; exact ha) (by rw [id]; exact hl) hn ?_
  rw [clr_D hF h80, id]
  exact kk
theorem al_new {q ci : Nat} (hK : Cl G l d own rt tb n1 Q K) (e1 : tb pc = ie (.new q) nx) (e2 : nx = pc + 3) (id : idOf n = (k, (i, j))) (hc : (own, (q, ci)) ∈ CLk) (ht : clsOf k = ci) (h8 : ci < 8) (hn : n + 1 ≤ n1) (h80 : n < 80) (hF : Fr n I D) (kk : K (n + 1) nx L (vR k i j :: st) (mkD I rd D)) : K n pc L st (mkD I rd D) := by
  refine hK.2.2.2.1 n pc nx q ci L st _ e1 e2 hc (by rw [id]; exact ht) h8 hn ?_
  rw [clr_D hF h80, id]
  exact kk
theorem al_ref {q : Nat} {a : Int32} (hK : Cl G l d own rt tb n1 Q K) (e1 : tb pc = ie (.anewarray q) nx) (e2 : nx = pc + 3) (id : idOf n = (k, (i, j))) (ht : (own, (q, 2)) ∈ CLk ∧ tagOf k = 4 ∨ (own, (q, 3)) ∈ CLk ∧ tagOf k = 5 ∨ (own, (q, 0)) ∈ CLk ∧ tagOf k = 6) (ha : a = Int32.ofNat (lenOf k)) (hl : lenOf k ≤ 2000) (hn : n + 1 ≤ n1) (h80 : n < 80) (hF : Fr n I D) (kk : K (n + 1) nx L (vR k i j :: st) (mkD I rd D)) : K n pc L (vI a :: st) (mkD I rd D) := by
  refine hK.2.2.2.2.2.1 n pc nx q a L st _ e1 e2 (by rw [id]; exact ht) (by rw [id]; exact ha) (by rw [id]; exact hl) hn ?_
  rw [clr_D hF h80, id]
  exact kk
/-- a rule is made -/
theorem x_Rinit {r : Nat} (hr : r < 6) (hF : Fr (12 + 4 * r) I D) : Ev G l 1 (mt 3) (12 + 4 * r) (15 + 4 * r) [vR 11 r 0, vI (nI r)] (mkD I rd D) (fun u h' => u = none ∧ h' = mkD (upI I 11 r 0 0 (nI r)) rd (adD (adD (adD D 11 r 0 1) 11 r 0 3) 11 r 0 4)) := by
  have id : ∀ r, r < 6 → idOf (11 + 4 * r) = (11, (r, 0)) ∧ idOf (12 + 4 * r) = (12, (r, 0)) ∧ idOf (13 + 4 * r) = (13, (r, 0)) ∧ idOf (14 + 4 * r) = (14, (r, 0)) := by decide
  obtain ⟨i0, i1, i2, i3⟩ := id r hr
  refine Ev_go iR_init rfl rfl rfl ⟨by omega, by omega⟩ (fun K hK => ?_)
  refine hK.1 [(1, [true, true]), (8, [true, true]), (15, [true, true]), (23, [true, true])] 50 _ _ _ _ _ ?_
  show K _ 1 [some (vR 11 r 0), some (vI (nI r))] [vR 11 r 0] _
  refine hK.2.2.1 _ 1 4 3 (11, (r, 0)) _ [] _ rfl rfl (by decide) (by decide) (by decide) ?_
  refine hK.1 [(8, [true, true])] 50 _ _ _ _ _ ?_
  show K _ 8 [some (vR 11 r 0), some (vI (nI r))] [vI 160, vR 11 r 0] _
  refine al_arr hK (nx := 10) rfl rfl i1 (Or.inl ⟨rfl, by decide⟩) rfl (by decide) (by omega) (by omega) hF ?_
  refine hK.1 [(15, [true, true])] 50 _ _ _ _ _ ?_
  show K _ 15 [some (vR 11 r 0), some (vI (nI r))] [vI 4, vR 11 r 0] _
  rw [setR_D (show some (12, (r, 0)) = RF rd (fun _ => 0) 11 r 0 1 from rfl)]
  have hF2 : Fr (12 + 4 * r + 1) I (adD D 11 r 0 1) := (hF.up (Nat.le_succ _)).wD i0 (by omega) (by omega)
  refine al_arr hK (nx := 17) rfl rfl (show idOf (12 + 4 * r + 1) = (13, (r, 0)) by rw [show 12 + 4 * r + 1 = 13 + 4 * r by omega]; exact i2) (Or.inl ⟨rfl, by decide⟩) rfl (by decide) (by omega) (by omega) hF2 ?_
  refine hK.1 [(23, [true, true])] 50 _ _ _ _ _ ?_
  show K _ 23 [some (vR 11 r 0), some (vI (nI r))] [vI 48, vR 11 r 0] _
  rw [setR_D (show some (13, (r, 0)) = RF rd (fun _ => 0) 11 r 0 3 from rfl)]
  have hF3 : Fr (12 + 4 * r + 1 + 1) I (adD (adD D 11 r 0 1) 11 r 0 3) := (hF2.up (Nat.le_succ _)).wD i0 (by omega) (by omega)
  refine al_arr hK (nx := 25) rfl rfl (show idOf (12 + 4 * r + 1 + 1) = (14, (r, 0)) by rw [show 12 + 4 * r + 1 + 1 = 14 + 4 * r by omega]; exact i3) (Or.inl ⟨rfl, by decide⟩) rfl (by decide) (by omega) (by omega) hF3 ?_
  refine hK.1 [] 50 _ _ _ _ _ ?_
  refine ⟨by omega, rfl, ?_⟩
  rw [setR_D (show some (14, (r, 0)) = RF rd (fun _ => 0) 11 r 0 4 from rfl)]
  rfl
end Z3
