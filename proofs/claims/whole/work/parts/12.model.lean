/-! the world once it stands: which thing points to which; the reader's text at hand, the valleys' rules are what moves -/
abbrev PP : Type := Nat → Nat → Int32
def RF (rd : Option AO) (rr : Nat → Nat) : HR := fun k i j t => match k with
  | 0 => (match t with
    | 0 => some (1, 0, 0) | 2 => some (2, 0, 0) | 3 => some (7, 0, 0) | 4 => some (17, 0, 0) | 5 => some (17, 1, 0) | 6 => some (17, 2, 0) | 8 => some (8, 0, 0) | 9 => some (9, 0, 0) | 10 => some (10, 0, 0) | _ => none)
  | 1 => some (11, t, 0)
  | 2 => (match t with | 0 => some (3, 0, 0) | 2 => some (4, 0, 0) | 3 => some (5, 0, 0) | 4 => some (6, 0, 0) | _ => none)
  | 7 => (match i with | 0 => (match j with | 0 => (match t with | 0 => some (2, 0, 0) | 1 => rd | _ => none) | _ => none) | _ => none)
  | 8 => some (15, t, 0)
  | 11 => (match t with | 1 => some (12, i, 0) | 3 => some (13, i, 0) | 4 => some (14, i, 0) | _ => none)
  | 15 => (match t with | 0 => some (16, i, 0) | _ => none)
  | 17 => (match j with | 0 => (match t with | 0 => some (18, i, 0) | 3 => some (11, rr i, 0) | _ => none) | _ => none)
  | 18 => some (19, i, t)
  | 20 => (match t with
    | 1 => some (21, 0, 0) | 2 => some (22, 0, 0) | 5 => some (23, 0, 0) | 8 => some (24, 0, 0) | 9 => some (25, 0, 0) | 26 => some (26, 0, 0) | 27 => some (27, 0, 0) | 28 => some (28, 0, 0) | 30 => some (29, 0, 0) | 31 => some (30, 0, 0) | 35 => some (31, 0, 0) | 39 => some (32, 0, 0) | 40 => some (33, 0, 0) | 41 => some (34, 0, 0) | 42 => some (35, 0, 0) | _ => none)
  | _ => none
def mkH (I : HI) (J : HJ) (rd : Option AO) (rr : Nat → Nat) : AH := (I, (J, RF rd rr))
def upI (I : HI) (k i j t : Nat) (v : Int32) : HI := fun k' i' j' t' => if k' = k ∧ i' = i ∧ j' = j ∧ t' = t then v else I k' i' j' t'
def upJ (J : HJ) (k i j t : Nat) (v : Int64) : HJ := fun k' i' j' t' => if k' = k ∧ i' = i ∧ j' = j ∧ t' = t then v else J k' i' j' t'
theorem getI_mk {I : HI} {J : HJ} {rd : Option AO} {rr : Nat → Nat} {k i j t : Nat} : getI (mkH I J rd rr) k i j t = I k i j t := rfl
theorem getJ_mk {I : HI} {J : HJ} {rd : Option AO} {rr : Nat → Nat} {k i j t : Nat} : getJ (mkH I J rd rr) k i j t = J k i j t := rfl
theorem setI_mk {I : HI} {J : HJ} {rd : Option AO} {rr : Nat → Nat} {k i j t : Nat} {v : Int32} : setI (mkH I J rd rr) k i j t v = mkH (upI I k i j t v) J rd rr := rfl
theorem setJ_mk {I : HI} {J : HJ} {rd : Option AO} {rr : Nat → Nat} {k i j t : Nat} {v : Int64} : setJ (mkH I J rd rr) k i j t v = mkH I (upJ J k i j t v) rd rr := rfl
theorem setR_rd {I : HI} {J : HJ} {rd rd' : Option AO} {rr : Nat → Nat} : setR (mkH I J rd rr) 7 0 0 1 rd' = mkH I J rd' rr := by
  refine congrArg (fun z => (I, (J, z))) ?_
  funext k i j t
  show (if _ then _ else RF rd rr k i j t) = RF rd' rr k i j t
  by_cases h : k = 7 ∧ i = 0 ∧ j = 0 ∧ t = 1
  · rw [if_pos h]
    obtain ⟨rfl, rfl, rfl, rfl⟩ := h
    rfl
  · rw [if_neg h]
    unfold RF
    split <;> try rfl
    split <;> try rfl
    split <;> try rfl
    split <;> try rfl
    exact absurd ⟨rfl, rfl, rfl, rfl⟩ h
theorem setR_rr {I : HI} {J : HJ} {rd : Option AO} {rr : Nat → Nat} {v r : Nat} : setR (mkH I J rd rr) 17 v 0 3 (some (11, r, 0)) = mkH I J rd (va_up rr v r) := by
  refine congrArg (fun z => (I, (J, z))) ?_
  funext k i j t
  show (if _ then _ else RF rd rr k i j t) = RF rd (va_up rr v r) k i j t
  by_cases h : k = 17 ∧ i = v ∧ j = 0 ∧ t = 3
  · rw [if_pos h]
    obtain ⟨rfl, rfl, rfl, rfl⟩ := h
    show _ = some (11, va_up rr i r i, 0)
    simp [va_up]
  · rw [if_neg h]
    unfold RF
    split <;> try rfl
    split <;> try rfl
    split <;> try rfl
    have : i ≠ v := fun q => h ⟨rfl, q, rfl, rfl⟩
    simp [va_up, this]
theorem upI_s {I : HI} {k i j t : Nat} {v : Int32} : upI I k i j t v k i j t = v := by simp [upI]
theorem upI_at {I : HI} {k i j t k' i' j' t' : Nat} {v : Int32} : upI I k i j t v k' i' j' t' = if k' = k ∧ i' = i ∧ j' = j ∧ t' = t then v else I k' i' j' t' := rfl
theorem upJ_at {J : HJ} {k i j t k' i' j' t' : Nat} {v : Int64} : upJ J k i j t v k' i' j' t' = if k' = k ∧ i' = i ∧ j' = j ∧ t' = t then v else J k' i' j' t' := rfl
/-- the bits of who is asleep among the first k -/
def slpB (P : PP) : Nat → Int32
  | 0 => 0
  | k + 1 => if P k 6 = 0 then slpB P k else slpB P k ||| (1 : Int32) <<< (nI k &&& 31)
theorem nI_lt' {a b : Nat} (ha : a < 2 ^ 31) (hb : b < 2 ^ 31) : (nI a < nI b) = (a < b) := propext (nI_ltI ha hb)
