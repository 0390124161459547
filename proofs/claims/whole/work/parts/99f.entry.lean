/-! what the law's entry gives: the world's numbers -/
section Z11
variable {s : State} {args : Array Value}
theorem arr_of {ty : FieldType} (hty : ∀ C, ty ≠ .object C) (h : (Cond.arrayClass ty).before args s = true) : ∃ cA : ClassId, ArrOfT s cA ty ∧ va_RA s cA ty := by
  obtain ⟨c, k, comp, h1, h2, h3⟩ := Cond.arrayClass_spec h
  refine ⟨c, fun n z => ⟨fun k h => (by cases h), k, h2, comp, h3⟩, ?_⟩
  cases ty with
  | object C => exact absurd rfl (hty C)
  | _ => exact h1
theorem arr_ov {C : String} (h : (Cond.arrayOver (.object C)).before args s = true) : ∃ cA : ClassId, ArrOfT s cA (.object C) ∧ va_RA s cA (.object C) := by
  obtain ⟨comp, c, k, h1, h2, h3, h4, h5⟩ := Cond.arrayOver_spec h
  exact ⟨c, fun n z => ⟨fun k h => (by cases h), k, h3, comp, h4⟩, k, comp, h3, h4, h1, h5⟩
theorem cl_ex (hts : ∀ w ∈ lw_tbl, w.before args s = true) : ∃ D : Nat → ClassId × (Nat → Nat), ∀ (c : Nat) (q : vw_C), CL[c]? = some q → u_Kn s q.1 q.2.1 q.2.2 (D c).1 (D c).2 := by
  have h : ∀ c : Nat, ∃ z : ClassId × (Nat → Nat), ∀ q : vw_C, CL[c]? = some q → u_Kn s q.1 q.2.1 q.2.2 z.1 z.2 := by
    intro c
    cases hc : CL[c]? with
    | none => exact ⟨((0 : Nat), fun _ => 0), fun q hq => by cases hq⟩
    | some q =>
      have hq := List.mem_of_getElem? hc
      obtain ⟨cC, iS, hk⟩ := u_known (ws := lw_tbl) (s := s) (args := args) (C := q.1) (T := q.2.1) (N := q.2.2) (n := q.2.2) hts
        (fun w hw => WS_in w (by unfold WS; simp only [List.mem_append]; exact Or.inr (Or.inr (Or.inr (Or.inr (Or.inr (Or.inl (List.mem_flatMap.mpr ⟨q, hq, hw⟩))))))))
        (hts _ (WS_in _ (WS_h (List.mem_append_right _ (List.mem_append_left _ (List.mem_map.mpr ⟨q, hq, rfl⟩))))))
      exact ⟨(cC, iS), fun q' hq' => by cases hq'; exact hk⟩
  obtain ⟨D, hD⟩ := Classical.axiomOfChoice h
  exact ⟨D, hD⟩
theorem ty_ex (hts : ∀ w ∈ lw_tbl, w.before args s = true) : ∃ A : Nat → ClassId, ∀ (k : Nat) (q : ClassId × FieldType), [(A 0, FieldType.int), (A 1, .long), (A 2, .byte), (A 3, .boolean), (A 4, .object "ListenerIsTired$Rule"), (A 5, .object "ListenerIsTired$Sheet"), (A 6, .object "ListenerIsTired$Person")][k]? = some q → ArrOfT s q.1 q.2 ∧ va_RA s q.1 q.2 := by
  have w : ∀ ty : FieldType, Cond.arrayClass ty ∈ wH → (Cond.arrayClass ty).before args s = true := fun ty h => hts _ (WS_in _ (WS_h h))
  obtain ⟨a0, h0⟩ := arr_of (ty := .int) (fun C h => by cases h) (w .int (List.mem_append_right _ (List.mem_append_right _ (by simp))))
  obtain ⟨a1, h1⟩ := arr_of (ty := .long) (fun C h => by cases h) (w .long (List.mem_append_right _ (List.mem_append_right _ (by simp))))
  obtain ⟨a2, h2⟩ := arr_of (ty := .byte) (fun C h => by cases h) (w .byte (List.mem_append_right _ (List.mem_append_right _ (by simp))))
  obtain ⟨a3, h3⟩ := arr_of (ty := .boolean) (fun C h => by cases h) (w .boolean (List.mem_append_right _ (List.mem_append_right _ (by simp))))
  obtain ⟨a4, h4⟩ := arr_ov (C := "ListenerIsTired$Rule") (hts (.arrayOver (.object "ListenerIsTired$Rule")) (by decide +kernel))
  obtain ⟨a5, h5⟩ := arr_ov (C := "ListenerIsTired$Sheet") (hts (.arrayOver (.object "ListenerIsTired$Sheet")) (by decide +kernel))
  obtain ⟨a6, h6⟩ := arr_ov (C := "ListenerIsTired$Person") (hts (.arrayOver (.object "ListenerIsTired$Person")) (by decide +kernel))
  refine ⟨fun k => [a0, a1, a2, a3, a4, a5, a6].getD k 0, fun k q hq => ?_⟩
  match k, hq with
  | 0, hq => cases hq; exact h0
  | 1, hq => cases hq; exact h1
  | 2, hq => cases hq; exact h2
  | 3, hq => cases hq; exact h3
  | 4, hq => cases hq; exact h4
  | 5, hq => cases hq; exact h5
  | 6, hq => cases hq; exact h6
  | k + 7, hq => cases hq
def sT (i : Nat) : Term := .string "ListenerIsTired$Tape" ((strIdx[i]?).getD 0)
def sOff (i : Nat) : Nat := [42, 262, 82, 92, 103, 116, 127, 142, 157, 172, 190, 209, 225, 243].getD i 0
def sPos (i : Nat) : Nat := [0, 13, 1, 2, 3, 4, 5, 6, 7, 8, 9, 10, 11, 12].getD i 0
theorem s_m1 : ∀ i, i < 14 → (flatC (Jvm.Cond.and given_1 narrow_1))[sOff i]? = some (Cond.exactly (sT i) "java/lang/String") := by decide +kernel
theorem s_m2 : ∀ i, i < 14 → (flatC (Jvm.Cond.and given_1 narrow_1))[sOff i + 1]? = some (Cond.eq (.field (sT i) "java/lang/String" "coder" "B") (.int 0)) := by decide +kernel
theorem s_m3 : ∀ i, i < 14 → (flatC (Jvm.Cond.and given_1 narrow_1))[sOff i + 2]? = some (Cond.arrayOf (.field (sT i) "java/lang/String" "value" "[B") .byte) := by decide +kernel
theorem s_m4 : ∀ i, i < 14 → (flatC (Jvm.Cond.and given_1 narrow_1))[sOff i + 3]? = some (Cond.eq (.length (.field (sT i) "java/lang/String" "value" "[B")) (.int (Int32.ofNat (strLens.getD i 0)))) := by decide +kernel
theorem s_m5 : ∀ i, i < 14 → ∀ j, j < strLens.getD i 0 → (flatC (Jvm.Cond.and given_1 narrow_1))[sOff i + 4 + j]? = some (Cond.eq (.elem (.field (sT i) "java/lang/String" "value" "[B") (.int (Int32.ofNat j))) (.int ((strBytes.getD i []).getD j 0))) := by decide +kernel
theorem s_m6 : ∀ i, i < 14 → ∀ j, j < 14 → sPos i < sPos j → (flatC (Jvm.Cond.and given_1 narrow_1))[sOff j + 4 + strLens.getD j 0 + sPos i]? = some (Cond.not (Cond.eq (sT i) (sT j))) := by decide +kernel
theorem s_m7 : ∀ i, i < 14 → ∀ j, j < 14 → i ≠ j → sPos i < sPos j ∨ sPos j < sPos i := by decide
theorem st_ex (hg : (Jvm.Cond.and given_1 narrow_1).before args s = true) {A : Nat → Prop} (hA : ∀ a : Nat, a < s.heap.size → ¬ A a) : ∃ adK adV : Nat → Nat, vk_S 14 strLens strBytes adK adV A s s.heap ∧ ∀ i : Nat, i < 14 → (sT i).eval args s none [] s = some (.ref (adK i)) := by
  have hs := flat_of_before _ hg
  exact vk_Sof (by decide) (fun i hi => hs _ (List.mem_of_getElem? (s_m1 i hi))) (fun i hi => hs _ (List.mem_of_getElem? (s_m2 i hi))) (fun i hi => hs _ (List.mem_of_getElem? (s_m3 i hi))) (fun i hi => hs _ (List.mem_of_getElem? (s_m4 i hi))) (fun i hi j hj => hs _ (List.mem_of_getElem? (s_m5 i hi j hj))) (fun i j hi hj hij => (s_m7 i hi j hj hij).elim (fun h => Or.inl (hs _ (List.mem_of_getElem? (s_m6 i hi j hj h)))) (fun h => Or.inr (hs _ (List.mem_of_getElem? (s_m6 j hj i hi h))))) hA
end Z11
