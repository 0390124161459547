/-! so many steps at once -/
section WP
variable {G : GT} {p : Program} {l : Launch} {e : Env} {R : Room} {s : State} {m : MethodId} {args : Array Value} {below : List Frame} {meth : Method} {c : Code} {n0 n1 : Nat} {Z : State → Prop} {mL own : Nat} {isI : Bool} {cc : ByteArray} {n pc : Nat} {L : List (Option AV)} {st : List AV} {h : AH}

theorem okV_sub {n : Nat} {v : AV} (h : okV n v) : okV n v := h
theorem KW.mask {ms : List Bool} (k : KW G p l e R s m args below meth c n0 n1 Z mL n (pc) (mask ms L) (st) (h)) : KW G p l e R s m args below meth c n0 n1 Z mL n (pc) (L) (st) (h) := by
  intro a1 a2 a3 a4 a5 a6 H locs ls a7 a8 a9
  refine k a1 a2 (by rw [mask_len]; exact a3) (fun v hv => ?_) a5 a6 H locs ls a7 a8 (lv_mono a9 fun q hq => ?_)
  · obtain ⟨j, hj⟩ := List.getElem?_of_mem hv
    exact a4 v (List.mem_of_getElem? (mask_get ms L j v hj))
  · obtain ⟨j, v, h1, h2⟩ := (lvOf_mem _ _ _).mp hq
    exact (lvOf_mem _ _ _).mpr ⟨j, v, mask_get ms L j v h1, h2⟩
theorem cs3 : ∀ q ∈ CS, q.1 = 3 → q.2.2.2 ≠ 32 ∧ q.2.2.2 ≠ 33 := by decide +kernel
theorem nthD_out : ∀ (l : List Nat) (n d : Nat), l.length ≤ n → nthD l n d = d
  | [], _, _, _ => rfl
  | _ :: _, 0, _, h => by simp at h
  | _ :: l, n + 1, d, h => nthD_out l n d (by simpa using h)
theorem swIn_mono {a : Int32} {P P' : Nat → Prop} (hp : ∀ t, P t → P' t) : ∀ ts, swIn a P ts → swIn a P' ts
  | [], _ => trivial
  | (_, _) :: ts, h => ⟨fun q => hp _ (h.1 q), swIn_mono hp ts h.2⟩
theorem tag_k21 {k : Nat} (h : tagOf k = 21) : k = 42 := by
  have h1 : ∀ k, k < 51 → tagOf k = 21 → k = 42 := by decide +kernel
  by_cases hk : k < 51
  · exact h1 k hk h
  · have e : tagOf k = 99 := nthD_out kTag k 99 (by show 51 ≤ k; omega)
    omega
theorem tag_k22 {k : Nat} (h : tagOf k = 22) : k = 50 := by
  have h1 : ∀ k, k < 51 → tagOf k = 22 → k = 50 := by decide +kernel
  by_cases hk : k < 51
  · exact h1 k hk h
  · have e : tagOf k = 99 := nthD_out kTag k 99 (by show 51 ≤ k; omega)
    omega
theorem tag_k20 {k : Nat} (h : tagOf k = 20) : k = 40 := by
  have h1 : ∀ k, k < 51 → tagOf k = 20 → k = 40 := by decide +kernel
  by_cases hk : k < 51
  · exact h1 k hk h
  · have e : tagOf k = 99 := nthD_out kTag k 99 (by show 51 ≤ k; omega)
    omega
theorem fld {own q x y z : Nat} (h : (decide ((own, (q, (x, y))) ∈ FT) && (Nat.beq z (nthD ((fTags[x]?).getD []) y 99) && (Nat.ble (x + 1) 8 && Nat.ble (y + 1) ((nFs[x]?).getD 0)))) = true) : (own, (q, (x, y))) ∈ FT ∧ fTag x y = z ∧ x < 8 ∧ y < nF x := by
  simp only [Bool.and_eq_true, decide_eq_true_eq] at h
  exact ⟨h.1, (Nat.eq_of_beq_eq_true h.2.1).symm, Nat.le_of_ble_eq_true h.2.2.1, Nat.le_of_ble_eq_true h.2.2.2⟩
theorem fld2 {own q x y z : Nat} {isI : Bool} (h : (decide ((own, (q, (x, y))) ∈ FT) = true ∧ Nat.beq z (nthD ((fTags[x]?).getD []) y 99) = true ∧ Nat.ble (x + 1) 8 = true ∧ Nat.ble (y + 1) ((nFs[x]?).getD 0) = true ∧ (Nat.beq (nthD ((fFin[x]?).getD []) y 1) 0 || isI && Nat.beq own x) = true)) : (own, (q, (x, y))) ∈ FT ∧ fTag x y = z ∧ x < 8 ∧ y < nF x ∧ (nthD ((fFin[x]?).getD []) y 1 = 0 ∨ (isI = true ∧ own = x)) := by
  refine ⟨of_decide_eq_true h.1, (Nat.eq_of_beq_eq_true h.2.1).symm, Nat.le_of_ble_eq_true h.2.2.1, Nat.le_of_ble_eq_true h.2.2.2.1, ?_⟩
  have h5 := h.2.2.2.2
  simp only [Bool.or_eq_true, Bool.and_eq_true] at h5
  rcases h5 with h5 | h5
  · exact Or.inl (Nat.eq_of_beq_eq_true h5)
  · exact Or.inr ⟨h5.1, Nat.eq_of_beq_eq_true h5.2⟩
set_option maxHeartbeats 4000000 in
theorem stepW_sound {rt d : Nat} {Q : Option AV → AH → Prop} {ee : IE} {stop : Prop} {go : Nat → List (Option AV) → List AV → AH → Prop} (F : FC G p s m args meth c cc own isI mL n1) (hnn1 : n ≤ n1) (rc : RC G p l e R s m args below meth c n0 n1 Z cc rt Q) (hck0 : chk own isI mL cc pc ee = true) (hstop : stop → KW G p l e R s m args below meth c n0 n1 Z mL n (pc) (L) (st) (h)) (hgo : ∀ pc L st h, go pc L st h → KW G p l e R s m args below meth c n0 n1 Z mL n (pc) (L) (st) (h)) (hs0 : n0 < 80 → s.heap.size ≤ gz G + n0) (hR : d ≤ R.frames ∧ 64 * d ≤ R.locals ∧ n1 - n0 ≤ R.cells ∧ slN n1 - slN n0 ≤ R.slots) (hw : stepW (gfo G) (gL G) (gxs G) rt (CPd G l d n) (fun r h => n = n1 ∧ Q r h) stop ee L st h go) : KW G p l e R s m args below meth c n0 n1 Z mL n (pc) (L) (st) (h) := by
  obtain ⟨ins, nx, x, y, z, v, w, ts⟩ := ee
  have hb0 : Nat.beq nx 0 = false := by
    cases hb0 : Nat.beq nx 0 with
    | false => rfl
    | true =>
      have hw : (match (generalizing := false) Nat.beq nx 0 with | true => False | false => _) := hw
      rw [hb0] at hw
      exact False.elim hw
  have hck1 : (Nat.beq nx 0 || (match (generalizing := false) decode cc pc with
    | .ok (i, n) => decide (i = ins) && (Nat.beq nx (pc + n) && chkI own isI mL pc n ins x y z v w ts)
    | .error _ => false)) = true := hck0
  clear hck0
  rw [hb0, Bool.false_or] at hck1
  cases hdd : decode cc pc with
  | error er => rw [hdd] at hck1; cases hck1
  | ok q =>
  obtain ⟨i, len⟩ := q
  rw [hdd] at hck1
  simp only [Bool.and_eq_true, decide_eq_true_eq] at hck1
  obtain ⟨rfl, hnx, hck⟩ := hck1
  have hnx := Nat.eq_of_beq_eq_true hnx
  subst hnx
  cases i with
  | iconst q =>
    simp only [chkI, Bool.and_eq_true, decide_eq_true_eq] at hck
    obtain ⟨hl, hv⟩ := hck
    have hl : len = 1 := Nat.eq_of_beq_eq_true hl
    subst hl
    exact sw_iconst F hdd hv (hgo _ _ _ _ hw)
  | bipush q =>
    simp only [chkI, Bool.and_eq_true, decide_eq_true_eq] at hck
    obtain ⟨hl, hv⟩ := hck
    have hl : len = 2 := Nat.eq_of_beq_eq_true hl
    subst hl
    exact sw_bipush F hdd hv (hgo _ _ _ _ hw)
  | sipush q =>
    simp only [chkI, Bool.and_eq_true, decide_eq_true_eq] at hck
    obtain ⟨hl, hv⟩ := hck
    have hl : len = 3 := Nat.eq_of_beq_eq_true hl
    subst hl
    exact sw_sipush F hdd hv (hgo _ _ _ _ hw)
  | lconst q =>
    simp only [chkI, Bool.and_eq_true, decide_eq_true_eq] at hck
    obtain ⟨hl, hv⟩ := hck
    have hl : len = 1 := Nat.eq_of_beq_eq_true hl
    subst hl
    exact sw_lconst F hdd hv (hgo _ _ _ _ hw)
  | ldc_w q =>
    simp only [chkI, Bool.and_eq_true, decide_eq_true_eq] at hck
    obtain ⟨hl, hv⟩ := hck
    have hl : len = 3 := Nat.eq_of_beq_eq_true hl
    subst hl
    exact sw_ldcw F hdd hv (hgo _ _ _ _ hw)
  | ldc2_w q =>
    simp only [chkI, Bool.and_eq_true, decide_eq_true_eq] at hck
    obtain ⟨hl, hv⟩ := hck
    have hl : len = 3 := Nat.eq_of_beq_eq_true hl
    subst hl
    exact sw_ldc2 F hdd hv (hgo _ _ _ _ hw)
  | ldc q =>
    simp only [chkI, Bool.and_eq_true] at hck
    obtain ⟨hl, hv⟩ := hck
    have hl : len = 2 := Nat.eq_of_beq_eq_true hl
    subst hl
    cases z with
    | zero => exact sw_ldc F hdd (of_decide_eq_true hv) (hgo _ _ _ _ hw)
    | succ z =>
      simp only [Bool.and_eq_true, decide_eq_true_eq] at hv
      exact sw_ldcS F hdd (Nat.eq_of_beq_eq_true hv.1) hv.2.1 (Nat.le_of_ble_eq_true hv.2.2) (hgo _ _ _ _ hw)
  | aconst_null =>
    have hl : len = 1 := Nat.eq_of_beq_eq_true hck
    subst hl
    exact sw_null F hdd (hgo _ _ _ _ hw)
  | iload_n q =>
    have hl : len = 1 := Nat.eq_of_beq_eq_true hck
    subst hl
    have hw : (match (generalizing := false) nth L q.val with | some (some (.inl a)) => go (pc + 1) L (.inl a :: st) h | _ => False) := hw
    split at hw
    · rename_i a hv
      exact sw_iload_n F hdd hv (hgo _ _ _ _ hw)
    · exact hw.elim
  | iload q =>
    have hl : len = 2 := Nat.eq_of_beq_eq_true hck
    subst hl
    have hw : (match (generalizing := false) nth L q with | some (some (.inl a)) => go (pc + 2) L (.inl a :: st) h | _ => False) := hw
    split at hw
    · rename_i a hv
      exact sw_iload F hdd hv (hgo _ _ _ _ hw)
    · exact hw.elim
  | lload_n q =>
    have hl : len = 1 := Nat.eq_of_beq_eq_true hck
    subst hl
    have hw : (match (generalizing := false) nth L q.val with | some (some (.inr (.inl a))) => go (pc + 1) L (.inr (.inl a) :: st) h | _ => False) := hw
    split at hw
    · rename_i a hv
      exact sw_lload_n F hdd hv (hgo _ _ _ _ hw)
    · exact hw.elim
  | lload q =>
    have hl : len = 2 := Nat.eq_of_beq_eq_true hck
    subst hl
    have hw : (match (generalizing := false) nth L q with | some (some (.inr (.inl a))) => go (pc + 2) L (.inr (.inl a) :: st) h | _ => False) := hw
    split at hw
    · rename_i a hv
      exact sw_lload F hdd hv (hgo _ _ _ _ hw)
    · exact hw.elim
  | aload_n q =>
    have hl : len = 1 := Nat.eq_of_beq_eq_true hck
    subst hl
    have hw : (match (generalizing := false) nth L q.val with | some (some (.inr (.inr a))) => go (pc + 1) L (.inr (.inr a) :: st) h | _ => False) := hw
    split at hw
    · rename_i a hv
      exact sw_aload_n F hdd hv (hgo _ _ _ _ hw)
    · exact hw.elim
  | aload q =>
    have hl : len = 2 := Nat.eq_of_beq_eq_true hck
    subst hl
    have hw : (match (generalizing := false) nth L q with | some (some (.inr (.inr a))) => go (pc + 2) L (.inr (.inr a) :: st) h | _ => False) := hw
    split at hw
    · rename_i a hv
      exact sw_aload F hdd hv (hgo _ _ _ _ hw)
    · exact hw.elim
  | istore_n q =>
    simp only [chkI, Bool.and_eq_true] at hck
    obtain ⟨hl, hv⟩ := hck
    have hl : len = 1 := Nat.eq_of_beq_eq_true hl
    have hv := Nat.le_of_ble_eq_true hv
    subst hl
    rcases st with _ | ⟨a | a | a, st⟩ <;> first | exact False.elim hw | exact sw_istore_n F hdd hv (hgo _ _ _ _ hw)
  | istore q =>
    simp only [chkI, Bool.and_eq_true] at hck
    obtain ⟨hl, hv⟩ := hck
    have hl : len = 2 := Nat.eq_of_beq_eq_true hl
    have hv := Nat.le_of_ble_eq_true hv
    subst hl
    rcases st with _ | ⟨a | a | a, st⟩ <;> first | exact False.elim hw | exact sw_istore F hdd hv (hgo _ _ _ _ hw)
  | lstore_n q =>
    simp only [chkI, Bool.and_eq_true] at hck
    obtain ⟨hl, hv⟩ := hck
    have hl : len = 1 := Nat.eq_of_beq_eq_true hl
    have hv := Nat.le_of_ble_eq_true hv
    subst hl
    rcases st with _ | ⟨a | a | a, st⟩ <;> first | exact False.elim hw | exact sw_lstore_n F hdd hv (hgo _ _ _ _ hw)
  | lstore q =>
    simp only [chkI, Bool.and_eq_true] at hck
    obtain ⟨hl, hv⟩ := hck
    have hl : len = 2 := Nat.eq_of_beq_eq_true hl
    have hv := Nat.le_of_ble_eq_true hv
    subst hl
    rcases st with _ | ⟨a | a | a, st⟩ <;> first | exact False.elim hw | exact sw_lstore F hdd hv (hgo _ _ _ _ hw)
  | astore_n q =>
    simp only [chkI, Bool.and_eq_true] at hck
    obtain ⟨hl, hv⟩ := hck
    have hl : len = 1 := Nat.eq_of_beq_eq_true hl
    have hv := Nat.le_of_ble_eq_true hv
    subst hl
    rcases st with _ | ⟨a | a | a, st⟩ <;> first | exact False.elim hw | exact sw_astore_n F hdd hv (hgo _ _ _ _ hw)
  | astore q =>
    simp only [chkI, Bool.and_eq_true] at hck
    obtain ⟨hl, hv⟩ := hck
    have hl : len = 2 := Nat.eq_of_beq_eq_true hl
    have hv := Nat.le_of_ble_eq_true hv
    subst hl
    rcases st with _ | ⟨a | a | a, st⟩ <;> first | exact False.elim hw | exact sw_astore F hdd hv (hgo _ _ _ _ hw)
  | iinc q z2 =>
    simp only [chkI, Bool.and_eq_true, decide_eq_true_eq] at hck
    obtain ⟨hl, hq, hv⟩ := hck
    have hl : len = 3 := Nat.eq_of_beq_eq_true hl
    have hq := Nat.le_of_ble_eq_true hq
    subst hl
    have hw : (match (generalizing := false) nth L q with | some (some (.inl a)) => go (pc + 3) (stL L q (.inl (a + v))) st h | _ => False) := hw
    split at hw
    · rename_i a hn
      exact sw_iinc F hdd hq hv hn (hgo _ _ _ _ hw)
    · exact hw.elim
  | iadd =>
    have hl : len = 1 := Nat.eq_of_beq_eq_true hck
    subst hl
    rcases st with _ | ⟨b | b | b, _ | ⟨a | a | a, st⟩⟩ <;> first | exact False.elim hw | exact sw_iadd F hdd (hgo _ _ _ _ hw)
  | isub =>
    have hl : len = 1 := Nat.eq_of_beq_eq_true hck
    subst hl
    rcases st with _ | ⟨b | b | b, _ | ⟨a | a | a, st⟩⟩ <;> first | exact False.elim hw | exact sw_isub F hdd (hgo _ _ _ _ hw)
  | imul =>
    have hl : len = 1 := Nat.eq_of_beq_eq_true hck
    subst hl
    rcases st with _ | ⟨b | b | b, _ | ⟨a | a | a, st⟩⟩ <;> first | exact False.elim hw | exact sw_imul F hdd (hgo _ _ _ _ hw)
  | iand =>
    have hl : len = 1 := Nat.eq_of_beq_eq_true hck
    subst hl
    rcases st with _ | ⟨b | b | b, _ | ⟨a | a | a, st⟩⟩ <;> first | exact False.elim hw | exact sw_iand F hdd (hgo _ _ _ _ hw)
  | ior =>
    have hl : len = 1 := Nat.eq_of_beq_eq_true hck
    subst hl
    rcases st with _ | ⟨b | b | b, _ | ⟨a | a | a, st⟩⟩ <;> first | exact False.elim hw | exact sw_ior F hdd (hgo _ _ _ _ hw)
  | ixor =>
    have hl : len = 1 := Nat.eq_of_beq_eq_true hck
    subst hl
    rcases st with _ | ⟨b | b | b, _ | ⟨a | a | a, st⟩⟩ <;> first | exact False.elim hw | exact sw_ixor F hdd (hgo _ _ _ _ hw)
  | ishl =>
    have hl : len = 1 := Nat.eq_of_beq_eq_true hck
    subst hl
    rcases st with _ | ⟨b | b | b, _ | ⟨a | a | a, st⟩⟩ <;> first | exact False.elim hw | exact sw_ishl F hdd (hgo _ _ _ _ hw)
  | ishr =>
    have hl : len = 1 := Nat.eq_of_beq_eq_true hck
    subst hl
    rcases st with _ | ⟨b | b | b, _ | ⟨a | a | a, st⟩⟩ <;> first | exact False.elim hw | exact sw_ishr F hdd (hgo _ _ _ _ hw)
  | iushr =>
    have hl : len = 1 := Nat.eq_of_beq_eq_true hck
    subst hl
    rcases st with _ | ⟨b | b | b, _ | ⟨a | a | a, st⟩⟩ <;> first | exact False.elim hw | exact sw_iushr F hdd (hgo _ _ _ _ hw)
  | ladd =>
    have hl : len = 1 := Nat.eq_of_beq_eq_true hck
    subst hl
    rcases st with _ | ⟨b | b | b, _ | ⟨a | a | a, st⟩⟩ <;> first | exact False.elim hw | exact sw_ladd F hdd (hgo _ _ _ _ hw)
  | lsub =>
    have hl : len = 1 := Nat.eq_of_beq_eq_true hck
    subst hl
    rcases st with _ | ⟨b | b | b, _ | ⟨a | a | a, st⟩⟩ <;> first | exact False.elim hw | exact sw_lsub F hdd (hgo _ _ _ _ hw)
  | lmul =>
    have hl : len = 1 := Nat.eq_of_beq_eq_true hck
    subst hl
    rcases st with _ | ⟨b | b | b, _ | ⟨a | a | a, st⟩⟩ <;> first | exact False.elim hw | exact sw_lmul F hdd (hgo _ _ _ _ hw)
  | lor =>
    have hl : len = 1 := Nat.eq_of_beq_eq_true hck
    subst hl
    rcases st with _ | ⟨b | b | b, _ | ⟨a | a | a, st⟩⟩ <;> first | exact False.elim hw | exact sw_lor F hdd (hgo _ _ _ _ hw)
  | lshl =>
    have hl : len = 1 := Nat.eq_of_beq_eq_true hck
    subst hl
    rcases st with _ | ⟨b | b | b, _ | ⟨a | a | a, st⟩⟩ <;> first | exact False.elim hw | exact sw_lshl F hdd (hgo _ _ _ _ hw)
  | lushr =>
    have hl : len = 1 := Nat.eq_of_beq_eq_true hck
    subst hl
    rcases st with _ | ⟨b | b | b, _ | ⟨a | a | a, st⟩⟩ <;> first | exact False.elim hw | exact sw_lushr F hdd (hgo _ _ _ _ hw)
  | lcmp =>
    have hl : len = 1 := Nat.eq_of_beq_eq_true hck
    subst hl
    rcases st with _ | ⟨b | b | b, _ | ⟨a | a | a, st⟩⟩ <;> first | exact False.elim hw | exact sw_lcmp F hdd (hgo _ _ _ _ hw)
  | idiv =>
    have hl : len = 1 := Nat.eq_of_beq_eq_true hck
    subst hl
    rcases st with _ | ⟨b | b | b, _ | ⟨a | a | a, st⟩⟩ <;> first | exact False.elim hw | exact sw_idiv F hdd hw.1 (hgo _ _ _ _ hw.2)
  | irem =>
    have hl : len = 1 := Nat.eq_of_beq_eq_true hck
    subst hl
    rcases st with _ | ⟨b | b | b, _ | ⟨a | a | a, st⟩⟩ <;> first | exact False.elim hw | exact sw_irem F hdd hw.1 (hgo _ _ _ _ hw.2)
  | ldiv =>
    have hl : len = 1 := Nat.eq_of_beq_eq_true hck
    subst hl
    rcases st with _ | ⟨b | b | b, _ | ⟨a | a | a, st⟩⟩ <;> first | exact False.elim hw | exact sw_ldiv F hdd hw.1 (hgo _ _ _ _ hw.2)
  | lrem =>
    have hl : len = 1 := Nat.eq_of_beq_eq_true hck
    subst hl
    rcases st with _ | ⟨b | b | b, _ | ⟨a | a | a, st⟩⟩ <;> first | exact False.elim hw | exact sw_lrem F hdd hw.1 (hgo _ _ _ _ hw.2)
  | ineg =>
    have hl : len = 1 := Nat.eq_of_beq_eq_true hck
    subst hl
    rcases st with _ | ⟨a | a | a, st⟩ <;> first | exact False.elim hw | exact sw_ineg F hdd (hgo _ _ _ _ hw)
  | i2l =>
    have hl : len = 1 := Nat.eq_of_beq_eq_true hck
    subst hl
    rcases st with _ | ⟨a | a | a, st⟩ <;> first | exact False.elim hw | exact sw_i2l F hdd (hgo _ _ _ _ hw)
  | l2i =>
    have hl : len = 1 := Nat.eq_of_beq_eq_true hck
    subst hl
    rcases st with _ | ⟨a | a | a, st⟩ <;> first | exact False.elim hw | exact sw_l2i F hdd (hgo _ _ _ _ hw)
  | i2b =>
    have hl : len = 1 := Nat.eq_of_beq_eq_true hck
    subst hl
    rcases st with _ | ⟨a | a | a, st⟩ <;> first | exact False.elim hw | exact sw_i2b F hdd (hgo _ _ _ _ hw)
  | i2s =>
    have hl : len = 1 := Nat.eq_of_beq_eq_true hck
    subst hl
    rcases st with _ | ⟨a | a | a, st⟩ <;> first | exact False.elim hw | exact sw_i2s F hdd (hgo _ _ _ _ hw)
  | i2c =>
    have hl : len = 1 := Nat.eq_of_beq_eq_true hck
    subst hl
    rcases st with _ | ⟨a | a | a, st⟩ <;> first | exact False.elim hw | exact sw_i2c F hdd (hgo _ _ _ _ hw)
  | dup =>
    have hl : len = 1 := Nat.eq_of_beq_eq_true hck
    subst hl
    rcases st with _ | ⟨a | a | a, st⟩ <;> first | exact False.elim hw | exact sw_dupI F hdd (hgo _ _ _ _ hw) | exact sw_dupR F hdd (hgo _ _ _ _ hw)
  | pop =>
    have hl : len = 1 := Nat.eq_of_beq_eq_true hck
    subst hl
    rcases st with _ | ⟨a | a | a, st⟩ <;> first | exact False.elim hw | exact sw_popI F hdd (hgo _ _ _ _ hw) | exact sw_popR F hdd (hgo _ _ _ _ hw)
  | ifCond cnd off =>
    simp only [chkI, Bool.and_eq_true, decide_eq_true_eq] at hck
    obtain ⟨hl, hv⟩ := hck
    have hl : len = 3 := Nat.eq_of_beq_eq_true hl
    subst hl
    cases cnd <;> rcases st with _ | ⟨a | a | a, st⟩ <;> first | exact False.elim hw | exact sw_if_eq F hdd hv ⟨fun q => hgo _ _ _ _ (hw.1 q), fun q => hgo _ _ _ _ (hw.2 q)⟩ | exact sw_if_ne F hdd hv ⟨fun q => hgo _ _ _ _ (hw.1 q), fun q => hgo _ _ _ _ (hw.2 q)⟩ | exact sw_if_lt F hdd hv ⟨fun q => hgo _ _ _ _ (hw.1 q), fun q => hgo _ _ _ _ (hw.2 q)⟩ | exact sw_if_ge F hdd hv ⟨fun q => hgo _ _ _ _ (hw.1 q), fun q => hgo _ _ _ _ (hw.2 q)⟩ | exact sw_if_gt F hdd hv ⟨fun q => hgo _ _ _ _ (hw.1 q), fun q => hgo _ _ _ _ (hw.2 q)⟩ | exact sw_if_le F hdd hv ⟨fun q => hgo _ _ _ _ (hw.1 q), fun q => hgo _ _ _ _ (hw.2 q)⟩
  | if_icmp cnd off =>
    simp only [chkI, Bool.and_eq_true, decide_eq_true_eq] at hck
    obtain ⟨hl, hv⟩ := hck
    have hl : len = 3 := Nat.eq_of_beq_eq_true hl
    subst hl
    cases cnd <;> rcases st with _ | ⟨b | b | b, _ | ⟨a | a | a, st⟩⟩ <;> first | exact False.elim hw | exact sw_ic_eq F hdd hv ⟨fun q => hgo _ _ _ _ (hw.1 q), fun q => hgo _ _ _ _ (hw.2 q)⟩ | exact sw_ic_ne F hdd hv ⟨fun q => hgo _ _ _ _ (hw.1 q), fun q => hgo _ _ _ _ (hw.2 q)⟩ | exact sw_ic_lt F hdd hv ⟨fun q => hgo _ _ _ _ (hw.1 q), fun q => hgo _ _ _ _ (hw.2 q)⟩ | exact sw_ic_ge F hdd hv ⟨fun q => hgo _ _ _ _ (hw.1 q), fun q => hgo _ _ _ _ (hw.2 q)⟩ | exact sw_ic_gt F hdd hv ⟨fun q => hgo _ _ _ _ (hw.1 q), fun q => hgo _ _ _ _ (hw.2 q)⟩ | exact sw_ic_le F hdd hv ⟨fun q => hgo _ _ _ _ (hw.1 q), fun q => hgo _ _ _ _ (hw.2 q)⟩
  | goto off =>
    simp only [chkI, Bool.and_eq_true, decide_eq_true_eq] at hck
    obtain ⟨hl, hv⟩ := hck
    have hl : len = 3 := Nat.eq_of_beq_eq_true hl
    subst hl
    exact sw_goto F hdd hv (hgo _ _ _ _ hw)
  | ifnonnull off =>
    simp only [chkI, Bool.and_eq_true, decide_eq_true_eq] at hck
    obtain ⟨hl, hv⟩ := hck
    have hl : len = 3 := Nat.eq_of_beq_eq_true hl
    subst hl
    rcases st with _ | ⟨a | a | _ | a, st⟩ <;> first | exact False.elim hw | exact sw_ifnonnull F hdd hv (hgo _ _ _ _ hw) | exact sw_ifnonnullN F hdd (hgo _ _ _ _ hw)
  | tableswitch d lo hi offs =>
    simp only [chkI, Bool.and_eq_true, decide_eq_true_eq] at hck
    obtain ⟨h1, h2, h3⟩ := hck
    have hw : (match (generalizing := false) Nat.beq (pc + len) 0 with
      | true => False
      | false => (match (generalizing := false) st with | .inl a :: st => swIn a (fun t => go t L st h) ts ∧ (swNo a ts → go x L st h) | _ => False)) := hw
    rw [hb0] at hw
    rcases st with _ | ⟨a | a | a, st⟩
    · exact False.elim hw
    · exact sw_table F hdd h1 h2 h3 (swIn_mono (fun t q => hgo _ _ _ _ q) ts hw.1) (fun q => hgo _ _ _ _ (hw.2 q))
    · exact False.elim hw
    · exact False.elim hw
  | arraylength =>
    have hl : len = 1 := Nat.eq_of_beq_eq_true hck
    subst hl
    rcases st with _ | ⟨a | a | _ | ⟨k, i, j⟩, st⟩
    · exact False.elim hw
    · exact False.elim hw
    · exact False.elim hw
    · exact False.elim hw
    · have hw : (match (generalizing := false) tagOf k with
          | 21 => go (pc + 1) L (.inl (Int32.ofNat (strLen i)) :: st) h
          | 22 => go (pc + 1) L (.inl (Int32.ofNat (gL G)) :: st) h
          | 99 => False
          | 20 => False
          | _ => go (pc + 1) L (.inl (Int32.ofNat (lenOf k)) :: st) h) := hw
      split at hw
      · rename_i ht
        obtain rfl := tag_k21 ht
        exact sw_slen F hdd (hgo _ _ _ _ hw)
      · rename_i ht
        obtain rfl := tag_k22 ht
        exact sw_xlen F hdd (hgo _ _ _ _ hw)
      · exact hw.elim
      · exact hw.elim
      · exact sw_alen F hdd (by refine ⟨?_, ?_, ?_, ?_⟩ <;> assumption) (hgo _ _ _ _ hw)
  | iaload =>
    have hl : len = 1 := Nat.eq_of_beq_eq_true hck
    subst hl
    rcases st with _ | ⟨a | a | a, _ | ⟨b | b | _ | ⟨k, i, j⟩, st⟩⟩ <;> try exact False.elim hw
    have hw : (match (generalizing := false) tagOf k with
        | 0 => vp_in a (lenOf k) ∧ go (pc + 1) L (.inl (getI h k i j a.toNatClampNeg) :: st) h
        | 20 => vp_in a 6 ∧ go (pc + 1) L (.inl (undr a.toNatClampNeg) :: st) h
        | 22 => vp_in a (gL G) ∧ go (pc + 1) L (.inl (gxs G a.toNatClampNeg) :: st) h
        | _ => False) := hw
    split at hw
    · rename_i ht
      exact sw_iaload F hdd ht hw.1 (hgo _ _ _ _ hw.2)
    · rename_i ht
      obtain rfl := tag_k20 ht
      exact sw_uaload F hdd hw.1 (hgo _ _ _ _ hw.2)
    · rename_i ht
      obtain rfl := tag_k22 ht
      exact sw_xaload F hdd hw.1 (hgo _ _ _ _ hw.2)
    · exact hw.elim
  | laload =>
    have hl : len = 1 := Nat.eq_of_beq_eq_true hck
    subst hl
    rcases st with _ | ⟨a | a | a, _ | ⟨b | b | _ | ⟨k, i, j⟩, st⟩⟩ <;> try exact False.elim hw
    have hw : (match (generalizing := false) tagOf k with
        | 1 => vp_in a (lenOf k) ∧ go (pc + 1) L (.inr (.inl (getJ h k i j a.toNatClampNeg)) :: st) h
        | _ => False) := hw
    split at hw
    · rename_i ht
      exact sw_laload F hdd ht hw.1 (hgo _ _ _ _ hw.2)
    · exact hw.elim
  | baload =>
    have hl : len = 1 := Nat.eq_of_beq_eq_true hck
    subst hl
    rcases st with _ | ⟨a | a | a, _ | ⟨b | b | _ | ⟨k, i, j⟩, st⟩⟩ <;> try exact False.elim hw
    have hw : (match (generalizing := false) tagOf k with
        | 3 => vp_in a (lenOf k) ∧ ((getI h k i j a.toNatClampNeg = 0 ∨ getI h k i j a.toNatClampNeg = 1) → go (pc + 1) L (.inl (getI h k i j a.toNatClampNeg) :: st) h)
        | 21 => vp_in a (strLen i) ∧ go (pc + 1) L (.inl (strB i a.toNatClampNeg) :: st) h
        | _ => False) := hw
    split at hw
    · rename_i ht
      exact sw_zaload F hdd ht hw.1 (fun q => hgo _ _ _ _ (hw.2 q))
    · rename_i ht
      obtain rfl := tag_k21 ht
      exact sw_saload F hdd hw.1 (hgo _ _ _ _ hw.2)
    · exact hw.elim
  | aaload =>
    have hl : len = 1 := Nat.eq_of_beq_eq_true hck
    subst hl
    rcases st with _ | ⟨a | a | a, _ | ⟨b | b | _ | ⟨k, i, j⟩, st⟩⟩ <;> try exact False.elim hw
    have hw : (match (generalizing := false) tagOf k with
        | 4 => vp_in a (lenOf k) ∧ (match (generalizing := false) getR h k i j a.toNatClampNeg with | some o => go (pc + 1) L (.inr (.inr (some o)) :: st) h | none => go (pc + 1) L (.inr (.inr none) :: st) h)
        | 5 => vp_in a (lenOf k) ∧ (match (generalizing := false) getR h k i j a.toNatClampNeg with | some o => go (pc + 1) L (.inr (.inr (some o)) :: st) h | none => go (pc + 1) L (.inr (.inr none) :: st) h)
        | 6 => vp_in a (lenOf k) ∧ (match (generalizing := false) getR h k i j a.toNatClampNeg with | some o => go (pc + 1) L (.inr (.inr (some o)) :: st) h | none => go (pc + 1) L (.inr (.inr none) :: st) h)
        | _ => False) := hw
    split at hw
    · rename_i ht
      refine sw_aaload4 F hdd ht hw.1 ?_
      have hw := hw.2
      split at hw <;> (rename_i hr; rw [hr]; exact hgo _ _ _ _ hw)
    · rename_i ht
      refine sw_aaload5 F hdd ht hw.1 ?_
      have hw := hw.2
      split at hw <;> (rename_i hr; rw [hr]; exact hgo _ _ _ _ hw)
    · rename_i ht
      refine sw_aaload6 F hdd ht hw.1 ?_
      have hw := hw.2
      split at hw <;> (rename_i hr; rw [hr]; exact hgo _ _ _ _ hw)
    · exact hw.elim
  | iastore =>
    have hl : len = 1 := Nat.eq_of_beq_eq_true hck
    subst hl
    rcases st with _ | ⟨b | b | b, _ | ⟨a | a | a, _ | ⟨d | d | _ | ⟨k, i, j⟩, st⟩⟩⟩ <;> try exact False.elim hw
    have hw : (match (generalizing := false) tagOf k with
        | 0 => vp_in a (lenOf k) ∧ go (pc + 1) L st (setI h k i j a.toNatClampNeg b)
        | _ => False) := hw
    split at hw
    · rename_i ht
      exact sw_iastore F hdd ht hw.1 (hgo _ _ _ _ hw.2)
    · exact hw.elim
  | lastore =>
    have hl : len = 1 := Nat.eq_of_beq_eq_true hck
    subst hl
    rcases st with _ | ⟨b | b | b, _ | ⟨a | a | a, _ | ⟨d | d | _ | ⟨k, i, j⟩, st⟩⟩⟩ <;> try exact False.elim hw
    have hw : (match (generalizing := false) tagOf k with
        | 1 => vp_in a (lenOf k) ∧ go (pc + 1) L st (setJ h k i j a.toNatClampNeg b)
        | _ => False) := hw
    split at hw
    · rename_i ht
      exact sw_lastore F hdd ht hw.1 (hgo _ _ _ _ hw.2)
    · exact hw.elim
  | bastore =>
    have hl : len = 1 := Nat.eq_of_beq_eq_true hck
    subst hl
    rcases st with _ | ⟨b | b | b, _ | ⟨a | a | a, _ | ⟨d | d | _ | ⟨k, i, j⟩, st⟩⟩⟩ <;> try exact False.elim hw
    have hw : (match (generalizing := false) tagOf k with
        | 3 => vp_in a (lenOf k) ∧ (b = 0 ∨ b = 1) ∧ go (pc + 1) L st (setI h k i j a.toNatClampNeg b)
        | _ => False) := hw
    split at hw
    · rename_i ht
      exact sw_zastore F hdd ht hw.1 hw.2.1 (hgo _ _ _ _ hw.2.2)
    · exact hw.elim
  | aastore =>
    have hl : len = 1 := Nat.eq_of_beq_eq_true hck
    subst hl
    rcases st with _ | ⟨b | b | _ | ⟨k2, i2, j2⟩, _ | ⟨a | a | a, _ | ⟨d | d | _ | ⟨k, i, j⟩, st⟩⟩⟩ <;> try exact False.elim hw
    have hw : (match (generalizing := false) tagOf k with
        | 4 => (match (generalizing := false) clsOf k2 with | 2 => vp_in a (lenOf k) ∧ go (pc + 1) L st (setR h k i j a.toNatClampNeg (some (k2, (i2, j2)))) | _ => False)
        | 5 => (match (generalizing := false) clsOf k2 with | 3 => vp_in a (lenOf k) ∧ go (pc + 1) L st (setR h k i j a.toNatClampNeg (some (k2, (i2, j2)))) | _ => False)
        | 6 => (match (generalizing := false) clsOf k2 with | 0 => vp_in a (lenOf k) ∧ go (pc + 1) L st (setR h k i j a.toNatClampNeg (some (k2, (i2, j2)))) | _ => False)
        | _ => False) := hw
    split at hw
    · rename_i ht
      split at hw
      · rename_i hc2
        exact sw_aastore4 F hdd ht hc2 hw.1 (hgo _ _ _ _ hw.2)
      · exact hw.elim
    · rename_i ht
      split at hw
      · rename_i hc2
        exact sw_aastore5 F hdd ht hc2 hw.1 (hgo _ _ _ _ hw.2)
      · exact hw.elim
    · rename_i ht
      split at hw
      · rename_i hc2
        exact sw_aastore6 F hdd ht hc2 hw.1 (hgo _ _ _ _ hw.2)
      · exact hw.elim
    · exact hw.elim
  | getfield q =>
    simp only [chkI, Bool.and_eq_true] at hck
    obtain ⟨hl, hv⟩ := hck
    have hl : len = 3 := Nat.eq_of_beq_eq_true hl
    subst hl
    rcases st with _ | ⟨a | a | _ | ⟨k, i, j⟩, st⟩ <;> try exact False.elim hw
    have hw : (match (generalizing := false) Nat.beq (clsOf k) x with
      | true => (match (generalizing := false) z with
        | 0 => go (pc + 3) L (.inl (getI h k i j y) :: st) h
        | 1 => go (pc + 3) L (.inr (.inl (getJ h k i j y)) :: st) h
        | 2 => (match (generalizing := false) getR h k i j y with | some o => go (pc + 3) L (.inr (.inr (some o)) :: st) h | none => go (pc + 3) L (.inr (.inr none) :: st) h)
        | 3 => ((getI h k i j y = 0 ∨ getI h k i j y = 1) → go (pc + 3) L (.inl (getI h k i j y) :: st) h)
        | 4 => go (pc + 3) L (.inr (.inr (some (42, (i, 0)))) :: st) h
        | 5 => go (pc + 3) L (.inl 0 :: st) h
        | _ => False)
      | false => False) := hw
    split at hw
    rotate_left
    · exact hw.elim
    rename_i hcl
    have hcl := Nat.eq_of_beq_eq_true hcl
    split at hw
    · obtain ⟨g1, g2, g3, g4⟩ := fld hv
      exact sw_getf0 F hdd hcl g1 g2 g3 g4 (hgo _ _ _ _ hw)
    · obtain ⟨g1, g2, g3, g4⟩ := fld hv
      exact sw_getf1 F hdd hcl g1 g2 g3 g4 (hgo _ _ _ _ hw)
    · obtain ⟨g1, g2, g3, g4⟩ := fld hv
      refine sw_getf2 F hdd hcl g1 g2 g3 g4 ?_
      split at hw <;> (rename_i hr; rw [hr]; exact hgo _ _ _ _ hw)
    · obtain ⟨g1, g2, g3, g4⟩ := fld hv
      exact sw_getf3 F hdd hcl g1 g2 g3 g4 (fun q => hgo _ _ _ _ (hw q))
    · simp only [Bool.and_eq_true] at hv
      have e1 := Nat.eq_of_beq_eq_true hv.1
      have e2 := Nat.eq_of_beq_eq_true hv.2.1
      have e3 := Nat.eq_of_beq_eq_true hv.2.2
      rw [e2] at hdd
      exact sw_getS4 F hdd (by rw [hcl, e3]) e1 (hgo _ _ _ _ hw)
    · simp only [Bool.and_eq_true] at hv
      have e1 := Nat.eq_of_beq_eq_true hv.1
      have e2 := Nat.eq_of_beq_eq_true hv.2.1
      have e3 := Nat.eq_of_beq_eq_true hv.2.2
      rw [e2] at hdd
      exact sw_getS5 F hdd (by rw [hcl, e3]) e1 (hgo _ _ _ _ hw)
    · exact hw.elim
  | putfield q =>
    simp only [chkI, Bool.and_eq_true] at hck
    obtain ⟨hl, hv⟩ := hck
    have hl : len = 3 := Nat.eq_of_beq_eq_true hl
    subst hl
    obtain ⟨g1, g2, g3, g4, g5⟩ := fld2 hv
    rcases st with _ | ⟨b | b | b, _ | ⟨a | a | _ | ⟨k, i, j⟩, st⟩⟩ <;> try exact False.elim hw
    · have hw : (match (generalizing := false) Nat.beq (clsOf k) x with
        | true => (match (generalizing := false) z with
          | 0 => go (pc + 3) L st (setI h k i j y b)
          | 3 => (b = 0 ∨ b = 1) ∧ go (pc + 3) L st (setI h k i j y b)
          | _ => False)
        | false => False) := hw
      split at hw
      rotate_left
      · exact hw.elim
      rename_i hcl
      have hcl := Nat.eq_of_beq_eq_true hcl
      split at hw
      · exact sw_putf0 F hdd hcl g1 g2 g3 g4 g5 (hgo _ _ _ _ hw)
      · exact sw_putf3 F hdd hcl g1 g2 g3 g4 g5 hw.1 (hgo _ _ _ _ hw.2)
      · exact hw.elim
    · have hw : (match (generalizing := false) Nat.beq (clsOf k) x with
        | true => (match (generalizing := false) z with
          | 1 => go (pc + 3) L st (setJ h k i j y b)
          | _ => False)
        | false => False) := hw
      split at hw
      rotate_left
      · exact hw.elim
      rename_i hcl
      have hcl := Nat.eq_of_beq_eq_true hcl
      split at hw
      · exact sw_putf1 F hdd hcl g1 g2 g3 g4 g5 (hgo _ _ _ _ hw)
      · exact hw.elim
    · have hw : (match (generalizing := false) Nat.beq (clsOf k) x with
        | true => (match (generalizing := false) z with
          | 2 => go (pc + 3) L st (setR h k i j y b)
          | _ => False)
        | false => False) := hw
      split at hw
      rotate_left
      · exact hw.elim
      rename_i hcl
      have hcl := Nat.eq_of_beq_eq_true hcl
      split at hw
      · exact sw_putf2 F hdd hcl g1 g2 g3 g4 g5 (hgo _ _ _ _ hw)
      · exact hw.elim
  | getstatic q =>
    simp only [chkI, Bool.and_eq_true] at hck
    obtain ⟨hl, hv⟩ := hck
    have hl : len = 3 := Nat.eq_of_beq_eq_true hl
    subst hl
    have hw : (match (generalizing := false) x with
        | 0 => go (pc + 3) L (.inr (.inr (some (40, (0, 0)))) :: st) h
        | 1 => go (pc + 3) L (.inl 1 :: st) h
        | 2 => go (pc + 3) L (.inr (.inr (gfo G)) :: st) h
        | _ => False) := hw
    split at hw
    · simp only [Bool.and_eq_true] at hv
      have e1 := Nat.eq_of_beq_eq_true hv.1
      have e2 := Nat.eq_of_beq_eq_true hv.2
      subst e2
      exact sw_gets0 F hdd e1 (hgo _ _ _ _ hw)
    · simp only [Bool.and_eq_true] at hv
      have e1 := Nat.eq_of_beq_eq_true hv.1
      have e2 := Nat.eq_of_beq_eq_true hv.2
      subst e2
      exact sw_gets1 F hdd e1 (hgo _ _ _ _ hw)
    · simp only [Bool.and_eq_true] at hv
      have e1 := Nat.eq_of_beq_eq_true hv.1
      have e2 := Nat.eq_of_beq_eq_true hv.2
      subst e2
      exact sw_gets2 F hdd e1 (hgo _ _ _ _ hw)
    · exact hw.elim
  | invokevirtual q =>
    simp only [chkI, Bool.and_eq_true] at hck
    obtain ⟨hl, hv⟩ := hck
    have hl : len = 3 := Nat.eq_of_beq_eq_true hl
    subst hl
    have hw : (match (generalizing := false) z with
        | 0 => (match (generalizing := false) popN y st [] with
          | some (avs, st) => (match (generalizing := false) Nat.ble (catR st) 8 with
            | true => CPd G l d n 0 x avs h (fun r h => go (pc + 3) L (pushR r st) h)
            | false => False)
          | none => False)
        | _ => stop) := hw
    split at hw
    · split at hw
      · rename_i avs st2 hp
        split at hw
        · rename_i hct
          have hct := Nat.le_of_ble_eq_true hct
          simp only [Bool.or_eq_true, Bool.and_eq_true, decide_eq_true_eq] at hv
          have hv2 := hv.resolve_left (fun q => by cases q)
          obtain ⟨lq, e1, e2, e3⟩ := popN_eq _ _ _ _ _ hp
          rw [List.append_nil] at e1
          subst e1
          have hx := Nat.le_of_ble_eq_true hv2.2.1
          have hy := Nat.eq_of_beq_eq_true hv2.2.2.1
          rcases hw with ⟨d', Q', g1, g2, g3, g4⟩ | ⟨g1, -⟩
          · have g2 := g2 rfl
            rcases avs with _ | ⟨a | a | _ | ⟨k, i, j⟩, as⟩
            · cases g2
            · cases g2
            · cases g2
            · cases g2
            · simp only [rcvOK, Bool.and_eq_true, Bool.or_eq_true] at g2
              have c1 := Nat.eq_of_beq_eq_true g2.1
              have c2 : clsOf k < 8 ∨ clsOf k = 9 := g2.2.imp (fun q => Nat.le_of_ble_eq_true q) (fun q => Nat.eq_of_beq_eq_true q)
              have c3 : meO (mt x) = nthD mcL x 99 := of_decide_eq_true (List.all_eq_true.mp mc_ok x (List.mem_range.mpr hx))
              have e4 : st = as.reverse ++ .inr (.inr (some (k, (i, j)))) :: st2 := by rw [e3, List.reverse_cons, List.append_assoc]; rfl
              rw [e4]
              exact sw_callV F hs0 hR hdd hx hv2.2.2.2 (by rw [List.length_cons] at e2; omega) ⟨by rw [c3, c1], c2⟩ g1 ⟨Nat.le_refl _, hnn1⟩ hct g3 (fun r h' q => hgo _ _ _ _ (g4 r h' q))
          · cases g1
        · exact hw.elim
      · exact hw.elim
    · exact hstop hw
  | invokestatic q =>
    simp only [chkI, Bool.and_eq_true] at hck
    obtain ⟨hl, hv⟩ := hck
    have hl : len = 3 := Nat.eq_of_beq_eq_true hl
    subst hl
    have hw : (match (generalizing := false) z with
        | 1 => (match (generalizing := false) popN y st [] with
          | some (avs, st) => (match (generalizing := false) Nat.ble (catR st) 8 with
            | true => CPd G l d n 1 x avs h (fun r h => go (pc + 3) L (pushR r st) h)
            | false => False)
          | none => False)
        | _ => stop) := hw
    split at hw
    · split at hw
      · rename_i avs st2 hp
        split at hw
        · rename_i hct
          have hct := Nat.le_of_ble_eq_true hct
          simp only [Bool.or_eq_true, Bool.and_eq_true, decide_eq_true_eq] at hv
          have hv2 := hv.resolve_left (fun q => by cases q)
          obtain ⟨lq, e1, e2, e3⟩ := popN_eq _ _ _ _ _ hp
          rw [List.append_nil] at e1
          subst e1
          have hx := Nat.le_of_ble_eq_true hv2.2.1
          have hy := Nat.eq_of_beq_eq_true hv2.2.2.1
          rw [e3]
          rcases hw with ⟨d', Q', g1, g2, g3, g4⟩ | ⟨g1, g2, ⟨g3, a, b, g4, g5⟩ | ⟨g3, a, b, g4, g5⟩⟩
          · exact sw_callS F hs0 hR hdd hx hv2.2.2.2 (by omega) g1 ⟨Nat.le_refl _, hnn1⟩ hct g3 (fun r h' q => hgo _ _ _ _ (g4 r h' q))
          · subst g4
            refine sw_max F hR hdd ?_ g2 hct (hgo _ _ _ _ g5)
            rw [g3] at hv2
            rcases hv2.2.2.2 with q1 | q1
            · exact q1
            · exact absurd rfl (cs3 _ q1 rfl).1
          · subst g4
            refine sw_min F hR hdd ?_ g2 hct (hgo _ _ _ _ g5)
            rw [g3] at hv2
            rcases hv2.2.2.2 with q1 | q1
            · exact q1
            · exact absurd rfl (cs3 _ q1 rfl).2
        · exact hw.elim
      · exact hw.elim
    · exact hstop hw
  | ireturn =>
    have hl : len = 1 := Nat.eq_of_beq_eq_true hck
    subst hl
    rcases st with _ | ⟨a | a | a, _ | ⟨b, st⟩⟩ <;> try exact False.elim hw
    have hw : (match (generalizing := false) rt with
          | 0 => n = n1 ∧ Q (some (.inl a)) h
          | 1 => (a = 0 ∨ a = 1) ∧ n = n1 ∧ Q (some (.inl a)) h
          | 5 => narrow .byte (.int a) = .int a ∧ n = n1 ∧ Q (some (.inl a)) h
          | 6 => narrow .char (.int a) = .int a ∧ n = n1 ∧ Q (some (.inl a)) h
          | _ => False) := hw
    intro a1 a2 a3 a4 a5 a6 H locs ls a7 a8 a9
    split at hw
    · exact rc.1 n pc a h H locs ls a1 a2 a6 a7 a8 hdd trivial hw.1 hw.2
    · exact rc.1 n pc a h H locs ls a1 a2 a6 a7 a8 hdd hw.1 hw.2.1 hw.2.2
    · exact rc.1 n pc a h H locs ls a1 a2 a6 a7 a8 hdd hw.1 hw.2.1 hw.2.2
    · exact rc.1 n pc a h H locs ls a1 a2 a6 a7 a8 hdd hw.1 hw.2.1 hw.2.2
    · exact hw.elim
  | lreturn =>
    have hl : len = 1 := Nat.eq_of_beq_eq_true hck
    subst hl
    rcases st with _ | ⟨a | a | a, _ | ⟨b, st⟩⟩ <;> try exact False.elim hw
    have hw : (match (generalizing := false) rt with | 2 => n = n1 ∧ Q (some (.inr (.inl a))) h | _ => False) := hw
    intro a1 a2 a3 a4 a5 a6 H locs ls a7 a8 a9
    split at hw
    · exact rc.2.1 n pc a h H locs ls a1 a2 a6 a7 a8 hdd rfl hw.1 hw.2
    · exact hw.elim
  | areturn =>
    have hl : len = 1 := Nat.eq_of_beq_eq_true hck
    subst hl
    rcases st with _ | ⟨a | a | a, _ | ⟨b, st⟩⟩ <;> try exact False.elim hw
    have hw : (match (generalizing := false) rt with | 4 => n = n1 ∧ Q (some (.inr (.inr a))) h | _ => False) := hw
    intro a1 a2 a3 a4 a5 a6 H locs ls a7 a8 a9
    split at hw
    · exact rc.2.2.1 n pc a h H locs ls a1 a2 a6 (okS_h a5) a7 a8 hdd rfl hw.1 hw.2
    · exact hw.elim
  | return_ =>
    have hl : len = 1 := Nat.eq_of_beq_eq_true hck
    subst hl
    rcases st with _ | ⟨a, st⟩ <;> try exact False.elim hw
    have hw : (match (generalizing := false) rt with | 3 => n = n1 ∧ Q none h | _ => False) := hw
    intro a1 a2 a3 a4 a5 a6 H locs ls a7 a8 a9
    split at hw
    · exact rc.2.2.2 n pc h H locs ls a1 a2 a6 a7 a8 hdd rfl hw.1 hw.2
    · exact hw.elim
  | _ =>
    have hw : (match (generalizing := false) Nat.beq (pc + len) 0 with | true => False | false => stop) := hw
    rw [hb0] at hw
    exact hstop hw
end WP
