/-! the world's kinds: class (99: a row), a row's kind of items (0 int, 1 long, 3 boolean, 4 5 6 objects; 20 a static row, 21 a text's bytes, 22 the script), a row's length; where it lies -/
def kCls : List Nat := [6, 99, 4, 99, 99, 99, 99, 1, 99, 99, 99, 2, 99, 99, 99, 3, 99, 5, 99, 0, 7, 99, 99, 99, 99, 99, 99, 99, 99, 99, 99, 99, 99, 99, 99, 99, 99, 99, 99, 99, 99, 9]
def kTag : List Nat := [99, 4, 99, 0, 0, 0, 0, 99, 5, 1, 1, 99, 0, 0, 0, 99, 0, 99, 6, 99, 99, 0, 0, 0, 0, 0, 1, 0, 0, 0, 0, 0, 3, 0, 0, 0, 99, 99, 99, 99, 20, 99, 21, 99, 99, 99, 99, 99, 99, 99, 22]
def kLen : List Nat := [0, 6, 0, 160, 161, 161, 161, 0, 4, 61, 61, 0, 160, 4, 48, 0, 40, 0, 5, 0, 0, 960, 6, 160, 5, 30, 1024, 1024, 30, 305, 5, 30, 4, 4, 4, 160]
def kBase : List Nat := [0, 1, 2, 3, 4, 5, 6, 7, 8, 9, 10, 11, 12, 13, 14, 35, 36, 43, 44, 45, 64, 65, 66, 67, 68, 69, 70, 71, 72, 73, 74, 75, 76, 77, 78, 79]
def kSi : List Nat := [0, 0, 0, 0, 0, 0, 0, 0, 0, 0, 0, 4, 4, 4, 4, 2, 2, 7, 7, 7]
def kSj : List Nat := [0, 0, 0, 0, 0, 0, 0, 0, 0, 0, 0, 0, 0, 0, 0, 0, 0, 0, 0, 1]
def clsOf (k : Nat) : Nat := nthD kCls k 99
def tagOf (k : Nat) : Nat := nthD kTag k 99
def lenOf (k : Nat) : Nat := nthD kLen k 0
def pos (o : AO) : Nat := nthD kBase o.1 1000 + nthD kSi o.1 0 * o.2.1 + nthD kSj o.1 0 * o.2.2
def idL : List AO := [(0,0,0),(1,0,0),(2,0,0),(3,0,0),(4,0,0),(5,0,0),(6,0,0),(7,0,0),(8,0,0),(9,0,0),(10,0,0),
  (11,0,0),(12,0,0),(13,0,0),(14,0,0),(11,1,0),(12,1,0),(13,1,0),(14,1,0),(11,2,0),(12,2,0),(13,2,0),(14,2,0),(11,3,0),(12,3,0),(13,3,0),(14,3,0),(11,4,0),(12,4,0),(13,4,0),(14,4,0),(11,5,0),(12,5,0),(13,5,0),(14,5,0),
  (15,0,0),(16,0,0),(15,1,0),(16,1,0),(15,2,0),(16,2,0),(15,3,0),(16,3,0),
  (17,0,0),(18,0,0),(19,0,0),(19,0,1),(19,0,2),(19,0,3),(19,0,4),(17,1,0),(18,1,0),(19,1,0),(19,1,1),(19,1,2),(19,1,3),(19,1,4),(17,2,0),(18,2,0),(19,2,0),(19,2,1),(19,2,2),(19,2,3),(19,2,4),
  (20,0,0),(21,0,0),(22,0,0),(23,0,0),(24,0,0),(25,0,0),(26,0,0),(27,0,0),(28,0,0),(29,0,0),(30,0,0),(31,0,0),(32,0,0),(33,0,0),(34,0,0),(35,0,0)]
def idOf (p : Nat) : AO := idL.getD p (0,0,0)
theorem idL_len : idL.length = 80 := by decide +kernel
theorem pos_idOf : ∀ p, p < 80 → pos (idOf p) = p := by decide +kernel
theorem idOf_kind : ∀ p, p < 80 → (idOf p).1 < 40 := by decide +kernel
/-- a place that stands: of the first n of the world, or static -/
def okO (n : Nat) (o : AO) : Prop := (o.1 < 40 ∧ pos o < n ∧ idOf (pos o) = o) ∨ (o.1 = 40 ∧ o.2 = (0, 0)) ∨ (o.1 = 41 ∧ o.2.1 < 14 ∧ o.2.2 = 0) ∨ (o.1 = 42 ∧ o.2.1 < 14 ∧ o.2.2 = 0) ∨ (o.1 = 43 ∧ o.2 = (0, 0)) ∨ (o.1 = 50 ∧ o.2 = (0, 0))
def okV (n : Nat) (v : AV) : Prop := ∀ o, v = .inr (.inr (some o)) → okO n o
def okS (n : Nat) (st : List AV) : Prop := ∀ v ∈ st, okV n v
def okL (n : Nat) (L : List (Option AV)) : Prop := ∀ v, some v ∈ L → okV n v
/-- the fields of a class: 0 int, 1 long, 2 a reference, 3 boolean -/
def fTag (ci s : Nat) : Nat := nthD (((fTags[ci]?).getD [])) s 99
def isZ (k s : Nat) : Prop := fTag (clsOf k) s = 3 ∨ (tagOf k = 3 ∧ s < lenOf k)
def sN (k : Nat) : Nat := (nFs[clsOf k]?).getD (lenOf k)
def okH (n : Nat) (h : AH) : Prop := ∀ k i j, k < 40 → okO n (k, i, j) → (∀ s o, s < sN k → h.2.2 k i j s = some o → okO n o) ∧ ∀ s, isZ k s → h.1 k i j s = 0 ∨ h.1 k i j s = 1
/-! static things: the texts' bytes, the static row -/
def undL : List Int32 := [-1, 0, 0, 1, 2, 0]
def undr (j : Nat) : Int32 := undL.getD j 0
def strLen (i : Nat) : Nat := nthD strLens i 0
def strB (i j : Nat) : Int32 := (strBytes.getD i []).getD j 0
/-- a switch's cases -/
def swIn (a : Int32) (go : Nat → Prop) : List (Int32 × Nat) → Prop
  | [] => True
  | (b, t) :: l => (a = b → go t) ∧ swIn a go l
def swNo (a : Int32) : List (Int32 × Nat) → Prop
  | [] => True
  | (b, _) :: l => ¬ a = b ∧ swNo a l
def popN : Nat → List AV → List AV → Option (List AV × List AV)
  | 0, st, acc => some (acc, st)
  | n + 1, v :: st, acc => popN n st (v :: acc)
  | _ + 1, [], _ => none
def catR : List AV → Nat
  | [] => 0
  | .inr (.inl _) :: l => catR l + 2
  | _ :: l => catR l + 1
def pushR (r : Option AV) (st : List AV) : List AV := match r with
  | some v => v :: st
  | none => st
theorem popN_eq : ∀ (n : Nat) (st acc avs rest : List AV), popN n st acc = some (avs, rest) → ∃ l, avs = l ++ acc ∧ l.length = n ∧ st = l.reverse ++ rest
  | 0, st, acc, avs, rest, h => by
    simp only [popN, Option.some.injEq, Prod.mk.injEq] at h
    exact ⟨[], by simp [h.1], rfl, by simp [h.2]⟩
  | n + 1, [], acc, avs, rest, h => by simp [popN] at h
  | n + 1, v :: st, acc, avs, rest, h => by
    obtain ⟨l, h1, h2, h3⟩ := popN_eq n st (v :: acc) avs rest h
    refine ⟨l ++ [v], by simp [h1], by simp [h2], ?_⟩
    rw [h3, List.reverse_append]
    rfl
/-! ONE STEP: what has to hold at a place, for what comes behind it -/
def stepW (fo : Option AO) (L0 : Nat) (xs : Nat → Int32) (rt : Nat) (CP : Nat → Nat → List AV → AH → (Option AV → AH → Prop) → Prop) (Q : Option AV → AH → Prop) (stop : Prop) (e : IE) (L : List (Option AV)) (st : List AV) (h : AH) (go : Nat → List (Option AV) → List AV → AH → Prop) : Prop :=
  match e with
  | (ins, (nx, (x, (y, (z, (v, (w, ts))))))) =>
  match Nat.beq nx 0 with
  | true => False
  | false =>
  match ins with
  | .iconst _ => go nx L (.inl v :: st) h
  | .bipush _ => go nx L (.inl v :: st) h
  | .sipush _ => go nx L (.inl v :: st) h
  | .ldc_w _ => go nx L (.inl v :: st) h
  | .ldc _ => (match z with
    | 0 => go nx L (.inl v :: st) h
    | _ => go nx L (.inr (.inr (some (41, y, 0))) :: st) h)
  | .lconst _ => go nx L (.inr (.inl w) :: st) h
  | .ldc2_w _ => go nx L (.inr (.inl w) :: st) h
  | .aconst_null => go nx L (.inr (.inr none) :: st) h
  | .iload_n k => (match nth L k.val with | some (some (.inl a)) => go nx L (.inl a :: st) h | _ => False)
  | .iload k => (match nth L k with | some (some (.inl a)) => go nx L (.inl a :: st) h | _ => False)
  | .lload_n k => (match nth L k.val with | some (some (.inr (.inl a))) => go nx L (.inr (.inl a) :: st) h | _ => False)
  | .lload k => (match nth L k with | some (some (.inr (.inl a))) => go nx L (.inr (.inl a) :: st) h | _ => False)
  | .aload_n k => (match nth L k.val with | some (some (.inr (.inr a))) => go nx L (.inr (.inr a) :: st) h | _ => False)
  | .aload k => (match nth L k with | some (some (.inr (.inr a))) => go nx L (.inr (.inr a) :: st) h | _ => False)
  | .istore_n k => (match st with | .inl a :: st => go nx (stL L k.val (.inl a)) st h | _ => False)
  | .istore k => (match st with | .inl a :: st => go nx (stL L k (.inl a)) st h | _ => False)
  | .lstore_n k => (match st with | .inr (.inl a) :: st => go nx (stL2 L k.val (.inr (.inl a))) st h | _ => False)
  | .lstore k => (match st with | .inr (.inl a) :: st => go nx (stL2 L k (.inr (.inl a))) st h | _ => False)
  | .astore_n k => (match st with | .inr (.inr a) :: st => go nx (stL L k.val (.inr (.inr a))) st h | _ => False)
  | .astore k => (match st with | .inr (.inr a) :: st => go nx (stL L k (.inr (.inr a))) st h | _ => False)
  | .iinc k _ => (match nth L k with | some (some (.inl a)) => go nx (stL L k (.inl (a + v))) st h | _ => False)
  | .iadd => (match st with | .inl b :: .inl a :: st => go nx L (.inl (a + b) :: st) h | _ => False)
  | .isub => (match st with | .inl b :: .inl a :: st => go nx L (.inl (a - b) :: st) h | _ => False)
  | .imul => (match st with | .inl b :: .inl a :: st => go nx L (.inl (a * b) :: st) h | _ => False)
  | .iand => (match st with | .inl b :: .inl a :: st => go nx L (.inl (a &&& b) :: st) h | _ => False)
  | .ior => (match st with | .inl b :: .inl a :: st => go nx L (.inl (a ||| b) :: st) h | _ => False)
  | .ixor => (match st with | .inl b :: .inl a :: st => go nx L (.inl (a ^^^ b) :: st) h | _ => False)
  | .ishl => (match st with | .inl b :: .inl a :: st => go nx L (.inl (a <<< (b &&& 31)) :: st) h | _ => False)
  | .ishr => (match st with | .inl b :: .inl a :: st => go nx L (.inl (a >>> (b &&& 31)) :: st) h | _ => False)
  | .iushr => (match st with | .inl b :: .inl a :: st => go nx L (.inl (a.toUInt32 >>> (b.toUInt32 &&& Int32.toUInt32 31)).toInt32 :: st) h | _ => False)
  | .idiv => (match st with | .inl b :: .inl a :: st => ¬ b = 0 ∧ go nx L (.inl (a / b) :: st) h | _ => False)
  | .irem => (match st with | .inl b :: .inl a :: st => ¬ b = 0 ∧ go nx L (.inl (a - a / b * b) :: st) h | _ => False)
  | .ineg => (match st with | .inl a :: st => go nx L (.inl (-a) :: st) h | _ => False)
  | .ladd => (match st with | .inr (.inl b) :: .inr (.inl a) :: st => go nx L (.inr (.inl (a + b)) :: st) h | _ => False)
  | .lsub => (match st with | .inr (.inl b) :: .inr (.inl a) :: st => go nx L (.inr (.inl (a - b)) :: st) h | _ => False)
  | .lmul => (match st with | .inr (.inl b) :: .inr (.inl a) :: st => go nx L (.inr (.inl (a * b)) :: st) h | _ => False)
  | .lor => (match st with | .inr (.inl b) :: .inr (.inl a) :: st => go nx L (.inr (.inl (a ||| b)) :: st) h | _ => False)
  | .ldiv => (match st with | .inr (.inl b) :: .inr (.inl a) :: st => ¬ b = 0 ∧ go nx L (.inr (.inl (a / b)) :: st) h | _ => False)
  | .lrem => (match st with | .inr (.inl b) :: .inr (.inl a) :: st => ¬ b = 0 ∧ go nx L (.inr (.inl (a - a / b * b)) :: st) h | _ => False)
  | .lshl => (match st with | .inl b :: .inr (.inl a) :: st => go nx L (.inr (.inl (a <<< (b.toInt64 &&& 63))) :: st) h | _ => False)
  | .lushr => (match st with | .inl b :: .inr (.inl a) :: st => go nx L (.inr (.inl (a.toUInt64 >>> (b.toInt64.toUInt64 &&& Int64.toUInt64 63)).toInt64) :: st) h | _ => False)
  | .lcmp => (match st with | .inr (.inl b) :: .inr (.inl a) :: st => go nx L (.inl (lg_cmp a b) :: st) h | _ => False)
  | .i2l => (match st with | .inl a :: st => go nx L (.inr (.inl a.toInt64) :: st) h | _ => False)
  | .l2i => (match st with | .inr (.inl a) :: st => go nx L (.inl a.toInt32 :: st) h | _ => False)
  | .i2b => (match st with | .inl a :: st => go nx L (.inl a.toInt8.toInt32 :: st) h | _ => False)
  | .i2s => (match st with | .inl a :: st => go nx L (.inl a.toInt16.toInt32 :: st) h | _ => False)
  | .i2c => (match st with | .inl a :: st => go nx L (.inl (a.toUInt32 % 65536).toInt32 :: st) h | _ => False)
  | .dup => (match st with | .inl a :: st => go nx L (.inl a :: .inl a :: st) h | .inr (.inr a) :: st => go nx L (.inr (.inr a) :: .inr (.inr a) :: st) h | _ => False)
  | .pop => (match st with | .inl _ :: st => go nx L st h | .inr (.inr _) :: st => go nx L st h | _ => False)
  | .ifCond c _ => (match st with
    | .inl a :: st => (match c with
      | .eq => (a = 0 → go x L st h) ∧ (¬ a = 0 → go nx L st h)
      | .ne => (¬ a = 0 → go x L st h) ∧ (a = 0 → go nx L st h)
      | .lt => (a < 0 → go x L st h) ∧ (¬ a < 0 → go nx L st h)
      | .ge => (0 ≤ a → go x L st h) ∧ (¬ 0 ≤ a → go nx L st h)
      | .gt => (0 < a → go x L st h) ∧ (¬ 0 < a → go nx L st h)
      | .le => (a ≤ 0 → go x L st h) ∧ (¬ a ≤ 0 → go nx L st h))
    | _ => False)
  | .if_icmp c _ => (match st with
    | .inl b :: .inl a :: st => (match c with
      | .eq => (a = b → go x L st h) ∧ (¬ a = b → go nx L st h)
      | .ne => (¬ a = b → go x L st h) ∧ (a = b → go nx L st h)
      | .lt => (a < b → go x L st h) ∧ (¬ a < b → go nx L st h)
      | .ge => (b ≤ a → go x L st h) ∧ (¬ b ≤ a → go nx L st h)
      | .gt => (b < a → go x L st h) ∧ (¬ b < a → go nx L st h)
      | .le => (a ≤ b → go x L st h) ∧ (¬ a ≤ b → go nx L st h))
    | _ => False)
  | .goto _ => go x L st h
  | .ifnonnull _ => (match st with | .inr (.inr (some _)) :: st => go x L st h | .inr (.inr none) :: st => go nx L st h | _ => False)
  | .tableswitch _ _ _ _ => (match st with | .inl a :: st => swIn a (fun t => go t L st h) ts ∧ (swNo a ts → go x L st h) | _ => False)
  | .arraylength => (match st with
    | .inr (.inr (some (k, (i, _)))) :: st => (match tagOf k with
      | 21 => go nx L (.inl (Int32.ofNat (strLen i)) :: st) h
      | 22 => go nx L (.inl (Int32.ofNat L0) :: st) h
      | 99 => False
      | 20 => False
      | _ => go nx L (.inl (Int32.ofNat (lenOf k)) :: st) h)
    | _ => False)
  | .iaload => (match st with
    | .inl a :: .inr (.inr (some (k, (i, j)))) :: st => (match tagOf k with
      | 0 => vp_in a (lenOf k) ∧ go nx L (.inl (getI h k i j a.toNatClampNeg) :: st) h
      | 20 => vp_in a 6 ∧ go nx L (.inl (undr a.toNatClampNeg) :: st) h
      | 22 => vp_in a L0 ∧ go nx L (.inl (xs a.toNatClampNeg) :: st) h
      | _ => False)
    | _ => False)
  | .laload => (match st with
    | .inl a :: .inr (.inr (some (k, (i, j)))) :: st => (match tagOf k with
      | 1 => vp_in a (lenOf k) ∧ go nx L (.inr (.inl (getJ h k i j a.toNatClampNeg)) :: st) h
      | _ => False)
    | _ => False)
  | .baload => (match st with
    | .inl a :: .inr (.inr (some (k, (i, j)))) :: st => (match tagOf k with
      | 3 => vp_in a (lenOf k) ∧ ((getI h k i j a.toNatClampNeg = 0 ∨ getI h k i j a.toNatClampNeg = 1) → go nx L (.inl (getI h k i j a.toNatClampNeg) :: st) h)
      | 21 => vp_in a (strLen i) ∧ go nx L (.inl (strB i a.toNatClampNeg) :: st) h
      | _ => False)
    | _ => False)
  | .aaload => (match st with
    | .inl a :: .inr (.inr (some (k, (i, j)))) :: st => (match tagOf k with
      | 4 => vp_in a (lenOf k) ∧ (match getR h k i j a.toNatClampNeg with | some o => go nx L (.inr (.inr (some o)) :: st) h | none => go nx L (.inr (.inr none) :: st) h)
      | 5 => vp_in a (lenOf k) ∧ (match getR h k i j a.toNatClampNeg with | some o => go nx L (.inr (.inr (some o)) :: st) h | none => go nx L (.inr (.inr none) :: st) h)
      | 6 => vp_in a (lenOf k) ∧ (match getR h k i j a.toNatClampNeg with | some o => go nx L (.inr (.inr (some o)) :: st) h | none => go nx L (.inr (.inr none) :: st) h)
      | _ => False)
    | _ => False)
  | .iastore => (match st with
    | .inl b :: .inl a :: .inr (.inr (some (k, (i, j)))) :: st => (match tagOf k with
      | 0 => vp_in a (lenOf k) ∧ go nx L st (setI h k i j a.toNatClampNeg b)
      | _ => False)
    | _ => False)
  | .lastore => (match st with
    | .inr (.inl b) :: .inl a :: .inr (.inr (some (k, (i, j)))) :: st => (match tagOf k with
      | 1 => vp_in a (lenOf k) ∧ go nx L st (setJ h k i j a.toNatClampNeg b)
      | _ => False)
    | _ => False)
  | .bastore => (match st with
    | .inl b :: .inl a :: .inr (.inr (some (k, (i, j)))) :: st => (match tagOf k with
      | 3 => vp_in a (lenOf k) ∧ (b = 0 ∨ b = 1) ∧ go nx L st (setI h k i j a.toNatClampNeg b)
      | _ => False)
    | _ => False)
  | .aastore => (match st with
    | .inr (.inr (some (k', o'))) :: .inl a :: .inr (.inr (some (k, (i, j)))) :: st => (match tagOf k with
      | 4 => (match clsOf k' with | 2 => vp_in a (lenOf k) ∧ go nx L st (setR h k i j a.toNatClampNeg (some (k', o'))) | _ => False)
      | 5 => (match clsOf k' with | 3 => vp_in a (lenOf k) ∧ go nx L st (setR h k i j a.toNatClampNeg (some (k', o'))) | _ => False)
      | 6 => (match clsOf k' with | 0 => vp_in a (lenOf k) ∧ go nx L st (setR h k i j a.toNatClampNeg (some (k', o'))) | _ => False)
      | _ => False)
    | _ => False)
  | .getfield _ => (match st with
    | .inr (.inr (some (k, (i, j)))) :: st => (match Nat.beq (clsOf k) x with
      | true => (match z with
        | 0 => go nx L (.inl (getI h k i j y) :: st) h
        | 1 => go nx L (.inr (.inl (getJ h k i j y)) :: st) h
        | 2 => (match getR h k i j y with | some o => go nx L (.inr (.inr (some o)) :: st) h | none => go nx L (.inr (.inr none) :: st) h)
        | 3 => ((getI h k i j y = 0 ∨ getI h k i j y = 1) → go nx L (.inl (getI h k i j y) :: st) h)
        | 4 => go nx L (.inr (.inr (some (42, i, 0))) :: st) h
        | 5 => go nx L (.inl 0 :: st) h
        | _ => False)
      | false => False)
    | _ => False)
  | .putfield _ => (match st with
    | .inl b :: .inr (.inr (some (k, (i, j)))) :: st => (match Nat.beq (clsOf k) x with
      | true => (match z with
        | 0 => go nx L st (setI h k i j y b)
        | 3 => (b = 0 ∨ b = 1) ∧ go nx L st (setI h k i j y b)
        | _ => False)
      | false => False)
    | .inr (.inl b) :: .inr (.inr (some (k, (i, j)))) :: st => (match Nat.beq (clsOf k) x with
      | true => (match z with
        | 1 => go nx L st (setJ h k i j y b)
        | _ => False)
      | false => False)
    | .inr (.inr b) :: .inr (.inr (some (k, (i, j)))) :: st => (match Nat.beq (clsOf k) x with
      | true => (match z with
        | 2 => go nx L st (setR h k i j y b)
        | _ => False)
      | false => False)
    | _ => False)
  | .getstatic _ => (match x with
    | 0 => go nx L (.inr (.inr (some (40, (0, 0)))) :: st) h
    | 1 => go nx L (.inl 1 :: st) h
    | 2 => go nx L (.inr (.inr fo) :: st) h
    | _ => False)
  | .invokevirtual _ => (match z with
    | 0 => (match popN y st [] with
      | some (avs, st) => (match Nat.ble (catR st) 8 with
        | true => CP 0 x avs h (fun r h => go nx L (pushR r st) h)
        | false => False)
      | none => False)
    | _ => stop)
  | .invokestatic _ => (match z with
    | 1 => (match popN y st [] with
      | some (avs, st) => (match Nat.ble (catR st) 8 with
        | true => CP 1 x avs h (fun r h => go nx L (pushR r st) h)
        | false => False)
      | none => False)
    | _ => stop)
  | .ireturn => (match st with
    | .inl a :: [] => (match rt with
      | 0 => Q (some (.inl a)) h
      | 1 => (a = 0 ∨ a = 1) ∧ Q (some (.inl a)) h
      | 5 => narrow .byte (.int a) = .int a ∧ Q (some (.inl a)) h
      | 6 => narrow .char (.int a) = .int a ∧ Q (some (.inl a)) h
      | _ => False)
    | _ => False)
  | .lreturn => (match st with | .inr (.inl a) :: [] => (match rt with | 2 => Q (some (.inr (.inl a))) h | _ => False) | _ => False)
  | .areturn => (match st with | .inr (.inr a) :: [] => (match rt with | 4 => Q (some (.inr (.inr a))) h | _ => False) | _ => False)
  | .return_ => (match st with | [] => (match rt with | 3 => Q none h | _ => False) | _ => False)
  | _ => stop
/-- so many steps on, but for the places where one stops -/
def wp (fo : Option AO) (L0 : Nat) (xs : Nat → Int32) (rt : Nat) (tb : Nat → IE) (CP : Nat → Nat → List AV → AH → (Option AV → AH → Prop) → Prop) (Q : Option AV → AH → Prop) (K : Nat → List (Option AV) → List AV → AH → Prop) (stops : List (Nat × List Bool)) : Nat → Nat → List (Option AV) → List AV → AH → Prop
  | 0, pc, L, st, h => K pc L st h
  | f + 1, pc, L, st, h => stepW fo L0 xs rt CP Q (K pc L st h) (tb pc) L st h (fun pc' L' st' h' => match fnd stops pc' with
    | some m => K pc' (mask m L') st' h'
    | none => wp fo L0 xs rt tb CP Q K stops f pc' L' st' h')

/-! THE WORLD over the machine: where it begins, the classes' numbers, the rows' classes, the static row, the texts, a helper of the JDK's, the script -/
abbrev GT : Type := Nat × ((Nat → ClassId) × ((Nat → Nat → Nat) × ((Nat → ClassId) × (Nat × ((Nat → Nat) × ((Nat → Nat) × (Option Nat × (Nat × (Nat × (Nat → Int32))))))))))
abbrev gz (G : GT) : Nat := G.1
abbrev gD (G : GT) : va_G := (G.2.1, G.2.2.1)
abbrev gA (G : GT) : Nat → ClassId := G.2.2.2.1
abbrev gU (G : GT) : Nat := G.2.2.2.2.1
abbrev gK (G : GT) : Nat → Nat := G.2.2.2.2.2.1
abbrev gV (G : GT) : Nat → Nat := G.2.2.2.2.2.2.1
abbrev gF (G : GT) : Option Nat := G.2.2.2.2.2.2.2.1
abbrev gb (G : GT) : Nat := G.2.2.2.2.2.2.2.2.1
abbrev gL (G : GT) : Nat := G.2.2.2.2.2.2.2.2.2.1
abbrev gxs (G : GT) : Nat → Int32 := G.2.2.2.2.2.2.2.2.2.2
def adr (G : GT) (o : AO) : Nat := if o.1 < 40 then gz G + pos o else if o.1 = 40 then gU G else if o.1 = 41 then gK G o.2.1 else if o.1 = 42 then gV G o.2.1 else if o.1 = 43 then (gF G).getD 0 else gb G
def gfo (G : GT) : Option AO := (gF G).map fun _ => (43, (0, 0))
def cv (G : GT) (v : AV) : Value := match v with
  | .inl a => .int a
  | .inr (.inl a) => .long a
  | .inr (.inr o) => va_rf (o.map (adr G))
def fv (G : GT) (h : AH) (o : AO) (ci s : Nat) : Value := match fTag ci s with
  | 1 => .long (h.2.1 o.1 o.2.1 o.2.2 s)
  | 2 => va_rf ((h.2.2 o.1 o.2.1 o.2.2 s).map (adr G))
  | _ => .int (h.1 o.1 o.2.1 o.2.2 s)
def nF (ci : Nat) : Nat := (nFs[ci]?).getD 0
def ent (G : GT) (h : AH) (o : AO) : va_E := match tagOf o.1 with
  | 99 => .inr (clsOf o.1, (List.range (nF (clsOf o.1))).map (fv G h o (clsOf o.1)))
  | 1 => .inl (gA G 1, (lenOf o.1, .inr (.inl (h.2.1 o.1 o.2.1 o.2.2))))
  | 3 => .inl (gA G 3, (lenOf o.1, .inl (h.1 o.1 o.2.1 o.2.2)))
  | 4 => .inl (gA G 4, (lenOf o.1, .inr (.inr (.inr (.inr fun t => (h.2.2 o.1 o.2.1 o.2.2 t).map (adr G))))))
  | 5 => .inl (gA G 5, (lenOf o.1, .inr (.inr (.inr (.inr fun t => (h.2.2 o.1 o.2.1 o.2.2 t).map (adr G))))))
  | 6 => .inl (gA G 6, (lenOf o.1, .inr (.inr (.inr (.inr fun t => (h.2.2 o.1 o.2.1 o.2.2 t).map (adr G))))))
  | _ => .inl (gA G 0, (lenOf o.1, .inl (h.1 o.1 o.2.1 o.2.2)))
def ws (G : GT) (n : Nat) (h : AH) : va_W := (List.range n).map fun p => (gz G + p, ent G h (idOf p))
def tys (G : GT) : List (ClassId × FieldType) := [(gA G 0, .int), (gA G 1, .long), (gA G 2, .byte), (gA G 3, .boolean), (gA G 4, .object "ListenerIsTired$Rule"), (gA G 5, .object "ListenerIsTired$Sheet"), (gA G 6, .object "ListenerIsTired$Person")]
def vA (G : GT) : Nat → Prop := fun q => gz G ≤ q
theorem ws_at {G : GT} {n : Nat} {h : AH} {o : AO} (h1 : pos o < n) (h2 : idOf (pos o) = o) : (ws G n h)[pos o]? = some (gz G + pos o, ent G h o) := by
  unfold ws
  rw [List.getElem?_map, List.getElem?_range h1]
  simp [h2]
theorem ws_get {G : GT} {n : Nat} {h : AH} {i : Nat} {q : Nat × va_E} (hq : (ws G n h)[i]? = some q) : i < n ∧ q = (gz G + i, ent G h (idOf i)) := by
  unfold ws at hq
  rw [List.getElem?_map] at hq
  by_cases hi : i < n
  · rw [List.getElem?_range hi] at hq
    exact ⟨hi, by simpa using hq.symm⟩
  · rw [List.getElem?_eq_none (by simpa using hi)] at hq
    cases hq
theorem ws_D {G : GT} {n : Nat} {h : AH} : va_D (vA G) (ws G n h) := by
  refine ⟨fun i j p q hi hj he => ?_, fun k q hk => ?_⟩
  · obtain ⟨-, rfl⟩ := ws_get hi
    obtain ⟨-, rfl⟩ := ws_get hj
    dsimp only at he
    omega
  · obtain ⟨-, rfl⟩ := ws_get hk
    exact Nat.le_add_right _ _
theorem ent_congr {G : GT} {h h' : AH} {o : AO} (e1 : h'.1 o.1 o.2.1 o.2.2 = h.1 o.1 o.2.1 o.2.2) (e2 : h'.2.1 o.1 o.2.1 o.2.2 = h.2.1 o.1 o.2.1 o.2.2) (e3 : h'.2.2 o.1 o.2.1 o.2.2 = h.2.2 o.1 o.2.1 o.2.2) : ent G h' o = ent G h o := by
  have e4 : fv G h' o (clsOf o.1) = fv G h o (clsOf o.1) := by
    funext s
    unfold fv
    rw [e1, e2, e3]
  unfold ent
  rw [e1, e2, e3, e4]
theorem ws_up {G : GT} {n : Nat} {h h' : AH} {o : AO} {E : va_E} (hn : n ≤ 80) (h1 : pos o < n) (hE : ent G h' o = E) (h2 : idOf (pos o) = o)
    (hs : ∀ o' : AO, o' ≠ o → h'.1 o'.1 o'.2.1 o'.2.2 = h.1 o'.1 o'.2.1 o'.2.2 ∧ h'.2.1 o'.1 o'.2.1 o'.2.2 = h.2.1 o'.1 o'.2.1 o'.2.2 ∧ h'.2.2 o'.1 o'.2.1 o'.2.2 = h.2.2 o'.1 o'.2.1 o'.2.2) : (ws G n h).set (pos o) (gz G + pos o, E) = ws G n h' := by
  apply List.ext_getElem?
  intro i
  have hl : (ws G n h).length = n := by unfold ws; simp
  by_cases hi : i < n
  · have r : ∀ g : AH, (ws G n g)[i]? = some (gz G + i, ent G g (idOf i)) := by
      intro g
      unfold ws
      rw [List.getElem?_map, List.getElem?_range hi]
      rfl
    by_cases hp : i = pos o
    · subst hp
      rw [List.getElem?_set_self (by rw [hl]; exact h1), r, h2, hE]
    · rw [List.getElem?_set_ne (Ne.symm hp), r, r]
      obtain ⟨e1, e2, e3⟩ := hs (idOf i) (fun q => hp (by rw [← q, pos_idOf i (by omega)]))
      rw [ent_congr e1 e2 e3]
  · rw [List.getElem?_eq_none (by simpa [hl] using hi), List.getElem?_eq_none (by unfold ws; simpa using hi)]
theorem setI_off {h : AH} {k i j t : Nat} {v : Int32} {o' : AO} (hne : o' ≠ (k, (i, j))) : (setI h k i j t v).1 o'.1 o'.2.1 o'.2.2 = h.1 o'.1 o'.2.1 o'.2.2 ∧ (setI h k i j t v).2.1 o'.1 o'.2.1 o'.2.2 = h.2.1 o'.1 o'.2.1 o'.2.2 ∧ (setI h k i j t v).2.2 o'.1 o'.2.1 o'.2.2 = h.2.2 o'.1 o'.2.1 o'.2.2 := by
  refine ⟨?_, rfl, rfl⟩
  funext t'
  show (if _ then _ else _) = _
  rw [if_neg]
  rintro ⟨rfl, rfl, rfl, -⟩
  exact hne rfl
theorem setJ_off {h : AH} {k i j t : Nat} {v : Int64} {o' : AO} (hne : o' ≠ (k, (i, j))) : (setJ h k i j t v).1 o'.1 o'.2.1 o'.2.2 = h.1 o'.1 o'.2.1 o'.2.2 ∧ (setJ h k i j t v).2.1 o'.1 o'.2.1 o'.2.2 = h.2.1 o'.1 o'.2.1 o'.2.2 ∧ (setJ h k i j t v).2.2 o'.1 o'.2.1 o'.2.2 = h.2.2 o'.1 o'.2.1 o'.2.2 := by
  refine ⟨rfl, ?_, rfl⟩
  funext t'
  show (if _ then _ else _) = _
  rw [if_neg]
  rintro ⟨rfl, rfl, rfl, -⟩
  exact hne rfl
theorem setR_off {h : AH} {k i j t : Nat} {v : Option AO} {o' : AO} (hne : o' ≠ (k, (i, j))) : (setR h k i j t v).1 o'.1 o'.2.1 o'.2.2 = h.1 o'.1 o'.2.1 o'.2.2 ∧ (setR h k i j t v).2.1 o'.1 o'.2.1 o'.2.2 = h.2.1 o'.1 o'.2.1 o'.2.2 ∧ (setR h k i j t v).2.2 o'.1 o'.2.1 o'.2.2 = h.2.2 o'.1 o'.2.1 o'.2.2 := by
  refine ⟨rfl, rfl, ?_⟩
  funext t'
  show (if _ then _ else _) = _
  rw [if_neg]
  rintro ⟨rfl, rfl, rfl, -⟩
  exact hne rfl
theorem setI_row {h : AH} {k i j t : Nat} {v : Int32} : (setI h k i j t v).1 k i j = upd (h.1 k i j) t v := by
  funext t'
  show (if _ then _ else _) = _
  unfold upd
  by_cases ht : t' = t
  · rw [if_pos ⟨rfl, rfl, rfl, ht⟩, if_pos ht]
  · rw [if_neg (fun q => ht q.2.2.2), if_neg ht]
theorem setJ_row {h : AH} {k i j t : Nat} {v : Int64} : (setJ h k i j t v).2.1 k i j = vp_updL (h.2.1 k i j) t v := by
  funext t'
  show (if _ then _ else _) = _
  unfold vp_updL
  by_cases ht : t' = t
  · rw [if_pos ⟨rfl, rfl, rfl, ht⟩, if_pos ht]
  · rw [if_neg (fun q => ht q.2.2.2), if_neg ht]
theorem setR_row {h : AH} {k i j t : Nat} {v : Option AO} : (setR h k i j t v).2.2 k i j = va_up (h.2.2 k i j) t v := by
  funext t'
  show (if _ then _ else _) = _
  unfold va_up
  by_cases ht : t' = t
  · rw [if_pos ⟨rfl, rfl, rfl, ht⟩, if_pos ht]
  · rw [if_neg (fun q => ht q.2.2.2), if_neg ht]
/-! what is static, at a method's start -/
def SC (G : GT) (s : State) (H : Heap) : Prop :=
  va_K (gD G) CL (tys G) s ∧ (∀ w ∈ NW, va_Nw w s) ∧ va_Z "ListenerIsTired" "UNDER" "[I" (.ref (gU G)) (vA G) s H ∧ va_T .int (gU G) 6 (fun j => .int (undr j)) (vA G) s H ∧
  va_Z "java/lang/String" "COMPACT_STRINGS" "Z" (.int 1) (vA G) s H ∧ va_Z "jdk/internal/util/Preconditions" "SIOOBE_FORMATTER" "Ljava/util/function/BiFunction;" (va_rf (gF G)) (vA G) s H ∧
  vk_S 14 strLens strBytes (gK G) (gV G) (vA G) s H ∧ (∀ i, i < 14 → vk_R "ListenerIsTired$Tape" ((strIdx[i]?).getD 0) ((strTx[i]?).getD "") (gK G i) s) ∧
  (va_AO "ListenerIsTired$Rule" s ∧ va_AO "ListenerIsTired$Sheet" s ∧ va_AO "ListenerIsTired$Person" s) ∧ va_X (gb G) (gL G) (gxs G) s H ∧ ¬ vA G (gb G) ∧ gz G ≤ H.size
theorem SC.kept {G : GT} {s : State} {H H1 : Heap} (h : SC G s H) (hz : H.size ≤ H1.size) (hq : ∀ a : Nat, a < H.size → ¬ vA G a → H1[a]? = H[a]?) : SC G s H1 := by
  obtain ⟨h1, h2, h3, h4, h5, h6, h7, h8, h9, h10, h11, h12⟩ := h
  refine ⟨h1, h2, h3.kept hq, h4.kept hq, h5.kept hq, h6.kept hq, h7.kept hq, h8, h9, h10.kept (hq _ ?_ h11), h11, by omega⟩
  obtain ⟨scr, g1, -⟩ := h10
  exact (Array.getElem?_eq_some_iff.mp g1).1
theorem SC.warm {G : GT} {s U : State} {H : Heap} (hW : s.WarmedH U.vm) (h : SC G s H) : SC G U H := by
  obtain ⟨h1, h2, h3, h4, h5, h6, h7, h8, h9, h10, h11, h12⟩ := h
  refine ⟨h1.moved hW.alike, fun w hw => ?_, h3.moved hW.alike, h4.moved hW.alike, h5.moved hW.alike, h6.moved hW.alike, h7.moved hW.alike, fun i hi => (h8 i hi).warm hW, ⟨h9.1.moved hW.alike, h9.2.1.moved hW.alike, h9.2.2.moved hW.alike⟩, h10.moved hW.alike, h11, h12⟩
  have h := h2 w hw
  unfold NW at hw
  obtain ⟨q, -, rfl⟩ := List.mem_map.mp hw
  exact h.warmM hW
theorem SC.same {G : GT} {u U : State} {H : Heap} (hv : U.vm = u.vm) (h : SC G u H) : SC G U H := by
  have hA : u.vm.Alike U.vm := by rw [hv]; exact Vm.Alike.refl _
  obtain ⟨h1, h2, h3, h4, h5, h6, h7, h8, h9, h10, h11, h12⟩ := h
  refine ⟨h1.moved hA, fun w hw => ?_, h3.moved hA, h4.moved hA, h5.moved hA, h6.moved hA, h7.moved hA, fun i hi => (h8 i hi).same hv, ⟨h9.1.moved hA, h9.2.1.moved hA, h9.2.2.moved hA⟩, h10.moved hA, h11, h12⟩
  have h := h2 w hw
  unfold NW at hw
  obtain ⟨q, -, rfl⟩ := List.mem_map.mp hw
  exact va_Nw.same rfl hv.symm h
/-! locals -/
def lvOf (G : GT) : Nat → List (Option AV) → List (Nat × Value)
  | _, [] => []
  | i, none :: l => lvOf G (i + 1) l
  | i, some v :: l => (i, cv G v) :: lvOf G (i + 1) l
theorem lvOf_mem {G : GT} : ∀ (L : List (Option AV)) (i : Nat) (q : Nat × Value), q ∈ lvOf G i L ↔ ∃ k v, L[k]? = some (some v) ∧ q = (i + k, cv G v)
  | [], i, q => by simp [lvOf]
  | none :: l, i, q => by
    rw [lvOf, lvOf_mem l (i + 1) q]
    constructor
    · rintro ⟨k, v, h1, h2⟩
      exact ⟨k + 1, v, by simpa using h1, by rw [h2]; congr 1; omega⟩
    · rintro ⟨k, v, h1, h2⟩
      cases k with
      | zero => simp at h1
      | succ k => exact ⟨k, v, by simpa using h1, by rw [h2]; congr 1; omega⟩
  | some w :: l, i, q => by
    rw [lvOf, List.mem_cons, lvOf_mem l (i + 1) q]
    constructor
    · rintro (rfl | ⟨k, v, h1, h2⟩)
      · exact ⟨0, w, by simp, rfl⟩
      · exact ⟨k + 1, v, by simpa using h1, by rw [h2]; congr 1; omega⟩
    · rintro ⟨k, v, h1, h2⟩
      cases k with
      | zero =>
        have : w = v := by simpa using h1
        subst this
        exact Or.inl h2
      | succ k => exact Or.inr ⟨k, v, by simpa using h1, by rw [h2]; congr 1; omega⟩
theorem lv_mono {ls : Array Slot} {nL : Nat} {l l' : List (Nat × Value)} (h : lv_has ls nL l) (hs : ∀ q ∈ l', q ∈ l) : lv_has ls nL l' := ⟨h.1, h.2.1, fun q hq => h.2.2 q (hs q hq)⟩
theorem lv_nth {G : GT} {ls : Array Slot} {nL : Nat} {L : List (Option AV)} {k : Nat} {v : AV} (h : lv_has ls nL (lvOf G 0 L)) (hk : nth L k = some (some v)) : ls[k]? = some (.val (cv G v)) := by
  rw [nth_eq] at hk
  have := h.2.2 (k, cv G v) ((lvOf_mem L 0 _).mpr ⟨k, v, hk, by simp⟩)
  exact this
theorem stL_get : ∀ (L : List (Option AV)) (k j : Nat) (v : AV), (stL L k v)[j]? = if j = k then (L[j]?).map (fun _ => some v) else if j + 1 = k then (L[j]?).map inv else L[j]?
  | [], k, j, v => by simp [stL]
  | o :: l, 0, j, v => by
    cases j with
    | zero => simp [stL]
    | succ j => simp [stL]
  | o :: l, 1, j, v => by
    cases j with
    | zero => simp [stL]
    | succ j =>
      rw [stL, List.getElem?_cons_succ, stL_get l 0 j v, List.getElem?_cons_succ]
      simp
  | o :: l, n + 2, j, v => by
    cases j with
    | zero => simp [stL]
    | succ j =>
      rw [stL, List.getElem?_cons_succ, stL_get l (n + 1) j v, List.getElem?_cons_succ]
      simp
theorem stL2_get : ∀ (L : List (Option AV)) (k j : Nat) (v : AV), (stL2 L k v)[j]? = if j = k then (L[j]?).map (fun _ => some v) else if j = k + 1 then (L[j]?).map (fun _ => none) else if j + 1 = k then (L[j]?).map inv else L[j]?
  | [], k, j, v => by simp [stL2]
  | [o], 0, j, v => by
    cases j with
    | zero => simp [stL2]
    | succ j => simp [stL2]
  | o :: o2 :: l, 0, j, v => by
    match j with
    | 0 => simp [stL2]
    | 1 => simp [stL2]
    | j + 2 => simp [stL2]
  | o :: l, 1, j, v => by
    cases j with
    | zero => simp [stL2]
    | succ j =>
      rw [stL2, List.getElem?_cons_succ, stL2_get l 0 j v, List.getElem?_cons_succ]
      simp
  | o :: l, n + 2, j, v => by
    cases j with
    | zero => simp [stL2]
    | succ j =>
      rw [stL2, List.getElem?_cons_succ, stL2_get l (n + 1) j v, List.getElem?_cons_succ]
      simp
theorem stL_len : ∀ (L : List (Option AV)) (k : Nat) (v : AV), (stL L k v).length = L.length
  | [], _, _ => rfl
  | _ :: _, 0, _ => rfl
  | _ :: l, 1, v => by simp [stL, stL_len l 0 v]
  | _ :: l, n + 2, v => by simp [stL, stL_len l (n + 1) v]
theorem stL2_len : ∀ (L : List (Option AV)) (k : Nat) (v : AV), (stL2 L k v).length = L.length
  | [], _, _ => rfl
  | [_], 0, _ => rfl
  | _ :: _ :: _, 0, _ => rfl
  | _ :: l, 1, v => by simp [stL2, stL2_len l 0 v]
  | _ :: l, n + 2, v => by simp [stL2, stL2_len l (n + 1) v]
theorem inv_some {o : Option AV} {v : AV} (h : inv o = some v) : o = some v ∧ ∀ G : GT, ¬ (cv G v).category = 2 := by
  unfold inv at h
  split at h
  · cases h
  · refine ⟨h, fun G => ?_⟩
    subst h
    match v with
    | .inl a => simp [cv, Value.category]
    | .inr (.inl a) => rename_i hx; exact absurd rfl (hx a)
    | .inr (.inr none) => simp [cv, va_rf, Value.category]
    | .inr (.inr (some o)) => simp [cv, va_rf, Value.category]
theorem lv_stL {G : GT} {ls : Array Slot} {nL : Nat} {L : List (Option AV)} {k : Nat} {v : AV} (h : lv_has ls nL ((k, cv G v) :: (lvOf G 0 L).filter (fun q => !(q.1 == k) && !(q.1 + 1 == k && q.2.category == 2)))) : lv_has ls nL (lvOf G 0 (stL L k v)) := by
  refine lv_mono h fun q hq => ?_
  obtain ⟨j, w, h1, rfl⟩ := (lvOf_mem _ _ _).mp hq
  rw [stL_get] at h1
  rw [Nat.zero_add]
  by_cases hj : j = k
  · subst hj
    rw [if_pos rfl] at h1
    cases hL : L[j]? with
    | none => rw [hL] at h1; cases h1
    | some o =>
      rw [hL] at h1
      have : v = w := by simpa using h1
      subst this
      exact List.mem_cons_self
  · rw [if_neg hj] at h1
    refine List.mem_cons_of_mem _ (List.mem_filter.mpr ?_)
    by_cases hj1 : j + 1 = k
    · rw [if_pos hj1] at h1
      cases hL : L[j]? with
      | none => rw [hL] at h1; cases h1
      | some o =>
        rw [hL] at h1
        obtain ⟨ho, hc⟩ := inv_some (by simpa using h1)
        subst ho
        have := hc G
        exact ⟨(lvOf_mem _ _ _).mpr ⟨j, w, hL, by simp⟩, by simp [hj, this]⟩
    · rw [if_neg hj1] at h1
      exact ⟨(lvOf_mem _ _ _).mpr ⟨j, w, h1, by simp⟩, by simp [hj, hj1]⟩
theorem lv_stL2 {G : GT} {ls : Array Slot} {nL : Nat} {L : List (Option AV)} {k : Nat} {v : AV} (h : lv_has ls nL ((k, cv G v) :: (lvOf G 0 L).filter (fun q => !(q.1 == k) && (!(q.1 == k + 1) && !(q.1 + 1 == k && q.2.category == 2))))) : lv_has ls nL (lvOf G 0 (stL2 L k v)) := by
  refine lv_mono h fun q hq => ?_
  obtain ⟨j, w, h1, rfl⟩ := (lvOf_mem _ _ _).mp hq
  rw [stL2_get] at h1
  rw [Nat.zero_add]
  by_cases hj : j = k
  · subst hj
    rw [if_pos rfl] at h1
    cases hL : L[j]? with
    | none => rw [hL] at h1; cases h1
    | some o =>
      rw [hL] at h1
      have : v = w := by simpa using h1
      subst this
      exact List.mem_cons_self
  · rw [if_neg hj] at h1
    refine List.mem_cons_of_mem _ (List.mem_filter.mpr ?_)
    by_cases hj2 : j = k + 1
    · rw [if_pos hj2] at h1
      cases hL : L[j]? with
      | none => rw [hL] at h1; cases h1
      | some o => rw [hL] at h1; simp at h1
    rw [if_neg hj2] at h1
    by_cases hj1 : j + 1 = k
    · rw [if_pos hj1] at h1
      cases hL : L[j]? with
      | none => rw [hL] at h1; cases h1
      | some o =>
        rw [hL] at h1
        obtain ⟨ho, hc⟩ := inv_some (by simpa using h1)
        subst ho
        have := hc G
        exact ⟨(lvOf_mem _ _ _).mpr ⟨j, w, hL, by simp⟩, by simp [hj, hj2, this]⟩
    · rw [if_neg hj1] at h1
      exact ⟨(lvOf_mem _ _ _).mpr ⟨j, w, h1, by simp⟩, by simp [hj, hj2, hj1]⟩
theorem okL_stL {n : Nat} {L : List (Option AV)} {k : Nat} {v : AV} (h : okL n L) (hv : okV n v) : okL n (stL L k v) := by
  intro w hw
  obtain ⟨j, hj⟩ := List.getElem?_of_mem hw
  rw [stL_get] at hj
  split at hj
  · cases hL : L[j]? with
    | none => rw [hL] at hj; cases hj
    | some o => rw [hL] at hj; have : v = w := by simpa using hj
                subst this; exact hv
  · split at hj
    · cases hL : L[j]? with
      | none => rw [hL] at hj; cases hj
      | some o =>
        rw [hL] at hj
        obtain ⟨ho, -⟩ := inv_some (by simpa using hj)
        subst ho
        exact h w (List.mem_of_getElem? hL)
    · exact h w (List.mem_of_getElem? hj)
theorem okL_stL2 {n : Nat} {L : List (Option AV)} {k : Nat} {v : AV} (h : okL n L) (hv : okV n v) : okL n (stL2 L k v) := by
  intro w hw
  obtain ⟨j, hj⟩ := List.getElem?_of_mem hw
  rw [stL2_get] at hj
  split at hj
  · cases hL : L[j]? with
    | none => rw [hL] at hj; cases hj
    | some o => rw [hL] at hj; have : v = w := by simpa using hj
                subst this; exact hv
  · split at hj
    · cases hL : L[j]? with
      | none => rw [hL] at hj; cases hj
      | some o => rw [hL] at hj; simp at hj
    · split at hj
      · cases hL : L[j]? with
        | none => rw [hL] at hj; cases hj
        | some o =>
          rw [hL] at hj
          obtain ⟨ho, -⟩ := inv_some (by simpa using hj)
          subst ho
          exact h w (List.mem_of_getElem? hL)
      · exact h w (List.mem_of_getElem? hj)
theorem mask_get : ∀ (m : List Bool) (L : List (Option AV)) (j : Nat) (v : AV), (mask m L)[j]? = some (some v) → L[j]? = some (some v)
  | _, [], j, v, h => by simp [mask] at h
  | [], o :: l, 0, v, h => by simp [mask] at h
  | [], o :: l, j + 1, v, h => by
    have h : (none :: mask [] l)[j + 1]? = some (some v) := by simpa [mask] using h
    rw [List.getElem?_cons_succ] at h
    rw [List.getElem?_cons_succ]
    exact mask_get [] l j v h
  | b :: m, o :: l, 0, v, h => by
    cases b with
    | true => simpa [mask] using h
    | false => simp [mask] at h
  | b :: m, o :: l, j + 1, v, h => by
    have h : ((match b with | true => o | false => none) :: mask m l)[j + 1]? = some (some v) := by simpa [mask] using h
    rw [List.getElem?_cons_succ] at h
    rw [List.getElem?_cons_succ]
    exact mask_get m l j v h
theorem mask_len : ∀ (m : List Bool) (L : List (Option AV)), (mask m L).length = L.length
  | _, [] => by simp [mask]
  | [], o :: l => by simp [mask, mask_len [] l]
  | b :: m, o :: l => by simp [mask, mask_len m l]
/-! what stands stays -/
theorem okV_i {n : Nat} {a : Int32} : okV n (.inl a) := fun o h => by cases h
theorem okV_l {n : Nat} {a : Int64} : okV n (.inr (.inl a)) := fun o h => by cases h
theorem okV_n {n : Nat} : okV n (.inr (.inr none)) := fun o h => by cases h
theorem okV_r {n : Nat} {o : AO} (h : okO n o) : okV n (.inr (.inr (some o))) := fun o' e => by cases e; exact h
theorem okS_c {n : Nat} {v : AV} {st : List AV} (hv : okV n v) (h : okS n st) : okS n (v :: st) := fun w hw => by
  rcases List.mem_cons.mp hw with rfl | hw
  · exact hv
  · exact h w hw
theorem okS_t {n : Nat} {v : AV} {st : List AV} (h : okS n (v :: st)) : okS n st := fun w hw => h w (List.mem_cons_of_mem _ hw)
theorem okS_h {n : Nat} {v : AV} {st : List AV} (h : okS n (v :: st)) : okV n v := h v List.mem_cons_self
theorem okL_nth {n k : Nat} {L : List (Option AV)} {v : AV} (h : okL n L) (hk : nth L k = some (some v)) : okV n v := by
  rw [nth_eq] at hk
  exact h v (List.mem_of_getElem? hk)
theorem okH_setI {n : Nat} {h : AH} {k i j t : Nat} {v : Int32} (H : okH n h) (hz : isZ k t → v = 0 ∨ v = 1) : okH n (setI h k i j t v) := by
  intro k' i' j' hk ho
  refine ⟨(H k' i' j' hk ho).1, fun s hs => ?_⟩
  show (if _ then _ else _) = _ ∨ (if _ then _ else _) = _
  by_cases hc : k' = k ∧ i' = i ∧ j' = j ∧ s = t
  · rw [if_pos hc, ]
    obtain ⟨rfl, -, -, rfl⟩ := hc
    exact hz hs
  · rw [if_neg hc]
    exact (H k' i' j' hk ho).2 s hs
theorem okH_setJ {n : Nat} {h : AH} {k i j t : Nat} {v : Int64} (H : okH n h) : okH n (setJ h k i j t v) := H
theorem okH_setR {n : Nat} {h : AH} {k i j t : Nat} {v : Option AO} (H : okH n h) (hv : okV n (.inr (.inr v))) : okH n (setR h k i j t v) := by
  intro k' i' j' hk ho
  refine ⟨fun s o hsn hs => ?_, (H k' i' j' hk ho).2⟩
  have hs : (if k' = k ∧ i' = i ∧ j' = j ∧ s = t then v else h.2.2 k' i' j' s) = some o := hs
  by_cases hc : k' = k ∧ i' = i ∧ j' = j ∧ s = t
  · rw [if_pos hc] at hs
    exact hv o (by rw [hs])
  · rw [if_neg hc] at hs
    exact (H k' i' j' hk ho).1 s o hsn hs
/-- of a kind that is a class or a row of the world -/
theorem kind_lt {k : Nat} (h : tagOf k ≠ 99 ∧ tagOf k ≠ 20 ∧ tagOf k ≠ 21 ∧ tagOf k ≠ 22 ∨ clsOf k < 8) : k < 40 := by
  refine Nat.lt_of_not_le fun q => ?_
  have h1 : ∀ j, j < 11 → (tagOf (40 + j) = 99 ∨ tagOf (40 + j) = 20 ∨ tagOf (40 + j) = 21 ∨ tagOf (40 + j) = 22) ∧ 8 ≤ clsOf (40 + j) := by decide +kernel
  have h2 : ∀ (l : List Nat) (n d : Nat), l.length ≤ n → nthD l n d = d := by
    intro l
    induction l with
    | nil => intro n d _; rfl
    | cons a l ih =>
      intro n d hn
      cases n with
      | zero => simp at hn
      | succ n => exact ih n d (by simpa using hn)
  by_cases hk : k < 51
  · obtain ⟨g1, g2⟩ := h1 (k - 40) (by omega)
    rw [show 40 + (k - 40) = k by omega] at g1 g2
    omega
  · have e1 : tagOf k = 99 := h2 kTag k 99 (by show 51 ≤ k; omega)
    have e2 : clsOf k = 99 := h2 kCls k 99 (by show 42 ≤ k; omega)
    omega
theorem okO_lt {n : Nat} {o : AO} (h : okO n o) (hk : o.1 < 40) : pos o < n ∧ idOf (pos o) = o := by
  rcases h with h | h | h | h | h | h
  · exact h.2
  all_goals omega
theorem adr_lt {G : GT} {o : AO} (hk : o.1 < 40) : adr G o = gz G + pos o := by unfold adr; rw [if_pos hk]
