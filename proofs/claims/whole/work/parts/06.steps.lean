/-! a frame of a method, over the world: from this place the machine comes to its end -/
def slN (n : Nat) : Nat := ((List.range n).map fun p => if tagOf (idOf p).1 = 99 then nF (clsOf (idOf p).1) else lenOf (idOf p).1).sum
def KW (G : GT) (p : Program) (l : Launch) (e : Env) (R : Room) (s : State) (m : MethodId) (args : Array Value) (below : List Frame) (meth : Method) (c : Code) (n0 n1 : Nat) (Z : State → Prop) (mL n pc : Nat) (L : List (Option AV)) (st : List AV) (h : AH) : Prop :=
  n0 ≤ n → n ≤ n1 → L.length = mL → okL n L → okS n st → okH n h → ∀ (H : Heap) (locs : List Loc) (ls : Array Slot), va_P (gD G) CL (ws G n h) H → va_S (vA G) s.heap H locs → lv_has ls mL (lvOf G 0 L) →
    W p l e R s m args below meth c H locs (n - n0) (slN n - slN n0) Z (F0 m pc ls (st.map (cv G)))
/-- what a frame of a method stands on -/
def FC (G : GT) (p : Program) (s : State) (m : MethodId) (args : Array Value) (meth : Method) (c : Code) (cc : ByteArray) (own : Nat) (isI : Bool) (mL n1 : Nat) : Prop :=
  p.tables.exec = Jvm.exec ∧ c.code = cc ∧ c.maxLocals = mL ∧ s.vm.findClass (cn own) = some m.cls ∧ (∀ w ∈ WS, w.before args s = true) ∧ SC G s s.heap ∧ n1 ≤ 80 ∧ (isI = true → meth.name = "<init>")
/-- what its end must be -/
def RC (G : GT) (p : Program) (l : Launch) (e : Env) (R : Room) (s : State) (m : MethodId) (args : Array Value) (below : List Frame) (meth : Method) (c : Code) (n0 n1 : Nat) (Z : State → Prop) (cc : ByteArray) (rt : Nat) (Q : Option AV → AH → Prop) : Prop :=
  (∀ (n pc : Nat) (a : Int32) (h : AH) (H : Heap) (locs : List Loc) (ls : Array Slot), n0 ≤ n → n ≤ n1 → okH n h → va_P (gD G) CL (ws G n h) H → va_S (vA G) s.heap H locs → decode cc pc = .ok (.ireturn, 1) → (match rt with | 0 => True | 1 => a = 0 ∨ a = 1 | 5 => narrow .byte (.int a) = .int a | 6 => narrow .char (.int a) = .int a | _ => False) → n = n1 → Q (some (.inl a)) h → W p l e R s m args below meth c H locs (n - n0) (slN n - slN n0) Z (F0 m pc ls [.int a])) ∧
  (∀ (n pc : Nat) (a : Int64) (h : AH) (H : Heap) (locs : List Loc) (ls : Array Slot), n0 ≤ n → n ≤ n1 → okH n h → va_P (gD G) CL (ws G n h) H → va_S (vA G) s.heap H locs → decode cc pc = .ok (.lreturn, 1) → rt = 2 → n = n1 → Q (some (.inr (.inl a))) h → W p l e R s m args below meth c H locs (n - n0) (slN n - slN n0) Z (F0 m pc ls [.long a])) ∧
  (∀ (n pc : Nat) (a : Option AO) (h : AH) (H : Heap) (locs : List Loc) (ls : Array Slot), n0 ≤ n → n ≤ n1 → okH n h → okV n (.inr (.inr a)) → va_P (gD G) CL (ws G n h) H → va_S (vA G) s.heap H locs → decode cc pc = .ok (.areturn, 1) → rt = 4 → n = n1 → Q (some (.inr (.inr a))) h → W p l e R s m args below meth c H locs (n - n0) (slN n - slN n0) Z (F0 m pc ls [va_rf (a.map (adr G))])) ∧
  (∀ (n pc : Nat) (h : AH) (H : Heap) (locs : List Loc) (ls : Array Slot), n0 ≤ n → n ≤ n1 → okH n h → va_P (gD G) CL (ws G n h) H → va_S (vA G) s.heap H locs → decode cc pc = .ok (.return_, 1) → rt = 3 → n = n1 → Q none h → W p l e R s m args below meth c H locs (n - n0) (slN n - slN n0) Z (F0 m pc ls []))
/-! the classes' words -/
theorem CL_at : ∀ ci, ci < 8 → CL[ci]? = some (cn ci, fT ci, nF ci) := by
  intro ci h
  match ci, h with
  | 0, _ => rfl
  | 1, _ => rfl
  | 2, _ => rfl
  | 3, _ => rfl
  | 4, _ => rfl
  | 5, _ => rfl
  | 6, _ => rfl
  | 7, _ => rfl
  | ci + 8, h => omega
theorem nF_le : ∀ ci, ci < 8 → nF ci ≤ 43 := by decide +kernel
theorem all2 {P : Nat → Nat → Prop} {N : Nat} {f : Nat → Nat} [d : ∀ a b, Decidable (P a b)] (h : ((List.range N).all fun a => (List.range (f a)).all fun b => decide (P a b)) = true) : ∀ a, a < N → ∀ b, b < f a → P a b := fun a ha b hb =>
  of_decide_eq_true (List.all_eq_true.mp (List.all_eq_true.mp h a (List.mem_range.mpr ha)) b (List.mem_range.mpr hb))
theorem fT_1 : ∀ ci, ci < 8 → ∀ y, y < nF ci → (fT ci y).1 = cn ci := all2 (by decide +kernel)
theorem fT_2 : ∀ ci, ci < 8 → ∀ y, y < nF ci → parseFieldDescriptor (fT ci y).2.2.1 = some (fY ci y) := all2 (by decide +kernel)
theorem fT_3 : ∀ ci, ci < 8 → ∀ y, y < nF ci → (fTag ci y = 0 → fY ci y = .int) := all2 (by decide +kernel)
theorem fT_4 : ∀ ci, ci < 8 → ∀ y, y < nF ci → (fTag ci y = 1 → fY ci y = .long) := all2 (by decide +kernel)
theorem fT_5 : ∀ ci, ci < 8 → ∀ y, y < nF ci → (fTag ci y = 3 → fY ci y = .boolean) := all2 (by decide +kernel)
def isRT (t : FieldType) : Bool := match t with | .object _ => true | .array _ => true | _ => false
theorem fT_6 : ∀ ci, ci < 8 → ∀ y, y < nF ci → (fTag ci y = 2 → isRT (fY ci y) = true) := all2 (by decide +kernel)
theorem fT_nm0 : ∀ ci, ci < 8 → ∀ a, a < nF ci → ((List.range (nF ci)).all fun b => decide (a ≠ b → (fT ci a).2.1 ≠ (fT ci b).2.1)) = true := all2 (by decide +kernel)
theorem fT_nm : ∀ ci, ci < 8 → ∀ a, a < nF ci → ∀ b, b < nF ci → a ≠ b → (fT ci a).2.1 ≠ (fT ci b).2.1 := fun ci hc a ha b hb => of_decide_eq_true (List.all_eq_true.mp (fT_nm0 ci hc a ha) b (List.mem_range.mpr hb))
theorem fFin_at : ∀ ci, ci < 8 → ∀ y, y < nF ci → (fT ci y).2.2.2 = (if nthD ((fFin[ci]?).getD []) y 1 = 0 then false else true) := all2 (by decide +kernel)
theorem fT_all {ci y : Nat} (h1 : ci < 8) (h2 : y < nF ci) : (fT ci y).1 = cn ci ∧ parseFieldDescriptor (fT ci y).2.2.1 = some (fY ci y) ∧ (fTag ci y = 0 → fY ci y = .int) ∧ (fTag ci y = 1 → fY ci y = .long) ∧ (fTag ci y = 3 → fY ci y = .boolean) ∧ (fTag ci y = 2 → isRT (fY ci y) = true) := ⟨fT_1 ci h1 y h2, fT_2 ci h1 y h2, fT_3 ci h1 y h2, fT_4 ci h1 y h2, fT_5 ci h1 y h2, fT_6 ci h1 y h2⟩
theorem sN_a {k : Nat} (hk : k < 40) (ht : tagOf k ≠ 99) : sN k = lenOf k := by
  have h1 : ∀ k, k < 40 → tagOf k ≠ 99 → sN k = lenOf k := by decide +kernel
  exact h1 k hk ht
theorem sN_f {k x : Nat} (hc : clsOf k = x) (hx : x < 8) : sN k = nF x := by
  unfold sN nF
  rw [hc]
  have h1 : nFs.length = 8 := rfl
  rw [List.getElem?_eq_getElem (by omega)]
  rfl
theorem WS_f {own i x y : Nat} (h : (own, (i, (x, y))) ∈ FT) : Cond.fieldLink (cn own) i (cn x) (fT x y).2.1 (fT x y).2.2.1 ∈ WS := by
  unfold WS
  refine List.mem_append_right _ (List.mem_append_left _ ?_)
  exact List.mem_map.mpr ⟨_, h, rfl⟩
theorem WS_k {own i : Nat} {v : Int32} (h : (own, (i, v)) ∈ KT) : Cond.constant (cn own) i v ∈ WS := by
  unfold WS
  refine List.mem_append_right _ (List.mem_append_right _ (List.mem_append_right _ (List.mem_append_left _ ?_)))
  exact List.mem_append_left _ (List.mem_map.mpr ⟨_, h, rfl⟩)
theorem WS_kl {own i : Nat} {v : Int64} (h : (own, (i, v)) ∈ KL) : Cond.constantLong (cn own) i v ∈ WS := by
  unfold WS
  refine List.mem_append_right _ (List.mem_append_right _ (List.mem_append_right _ (List.mem_append_left _ ?_)))
  exact List.mem_append_right _ (List.mem_map.mpr ⟨_, h, rfl⟩)
theorem WS_u {ci : Nat} (h : ci < 8) : ∀ w ∈ u_ws (cn ci) (fT ci) (nF ci), w ∈ WS := by
  intro w hw
  unfold WS
  refine List.mem_append_right _ (List.mem_append_right _ (List.mem_append_right _ (List.mem_append_right _ (List.mem_append_right _ (List.mem_append_left _ ?_)))))
  exact List.mem_flatMap.mpr ⟨_, List.mem_of_getElem? (CL_at ci h), hw⟩
theorem WS_j {w : Cond} (h : w ∈ wJ) : w ∈ WS := by
  unfold WS
  exact List.mem_append_right _ (List.mem_append_right _ (List.mem_append_right _ (List.mem_append_right _ (List.mem_append_right _ (List.mem_append_right _ (List.mem_append_right _ (List.mem_append_right _ (List.mem_append_right _ h))))))))
theorem fv_0 {G : GT} {h : AH} {o : AO} {ci s : Nat} (ht : fTag ci s = 0 ∨ fTag ci s = 3) : fv G h o ci s = .int (h.1 o.1 o.2.1 o.2.2 s) := by
  rcases ht with ht | ht <;> simp only [fv, ht]
theorem fv_1 {G : GT} {h : AH} {o : AO} {ci s : Nat} (ht : fTag ci s = 1) : fv G h o ci s = .long (h.2.1 o.1 o.2.1 o.2.2 s) := by
  simp only [fv, ht]
theorem fv_2 {G : GT} {h : AH} {o : AO} {ci s : Nat} (ht : fTag ci s = 2) : fv G h o ci s = va_rf ((h.2.2 o.1 o.2.1 o.2.2 s).map (adr G)) := by
  simp only [fv, ht]
/-- a class's fields, one of them set -/
theorem fv_set {G : GT} {h h' : AH} {o : AO} {ci y : Nat} {v : Value} (hv : fv G h' o ci y = v) (hs : ∀ t, t ≠ y → fv G h' o ci t = fv G h o ci t) : ((List.range (nF ci)).map (fv G h o ci)).set y v = (List.range (nF ci)).map (fv G h' o ci) := by
  apply List.ext_getElem?
  intro i
  by_cases hi : i < nF ci
  · by_cases hp : i = y
    · subst hp
      rw [List.getElem?_set_self (by simpa using hi), List.getElem?_map, List.getElem?_range hi]
      simp [hv]
    · rw [List.getElem?_set_ne (Ne.symm hp), List.getElem?_map, List.getElem?_map, List.getElem?_range hi]
      simp [hs i hp]
  · rw [List.getElem?_eq_none (by simpa using hi), List.getElem?_eq_none (by simpa using hi)]
theorem nthD_cls : ∀ (k ci : Nat), clsOf k = ci → ci < 8 → tagOf k = 99 := by
  intro k ci h hc
  have hk : k < 40 := kind_lt (Or.inr (by omega))
  have h1 : ∀ k, k < 40 → clsOf k < 8 → tagOf k = 99 := by decide +kernel
  exact h1 k hk (by omega)
theorem isZ_f {k y ci : Nat} (hc : clsOf k = ci) (hl : ci < 8) (ht : fTag ci y ≠ 3) : ¬ isZ k y := by
  rintro (h | ⟨h, -⟩)
  · exact ht (by rw [← hc]; exact h)
  · rw [nthD_cls k ci hc hl] at h
    cases h
theorem isZ_a {k y : Nat} (ht : tagOf k ≠ 99) (ht2 : tagOf k ≠ 3) : ¬ isZ k y := by
  rintro (h | ⟨h, -⟩)
  · have h1 : ∀ ci, fTag ci y = 3 → ci < 8 := by
      intro ci h
      refine Nat.lt_of_not_le fun q => ?_
      have e : fTags[ci]? = none := List.getElem?_eq_none q
      unfold fTag at h
      rw [e] at h
      cases h
    exact ht (nthD_cls k _ rfl (h1 _ h))
  · exact ht2 h
section SW
variable {G : GT} {p : Program} {l : Launch} {e : Env} {R : Room} {s : State} {m : MethodId} {args : Array Value} {below : List Frame} {meth : Method} {c : Code} {n0 n1 : Nat} {Z : State → Prop} {mL own : Nat} {isI : Bool} {cc : ByteArray} {n pc : Nat} {L : List (Option AV)} {st : List AV} {h : AH}

theorem sw_iconst {q : Int} {v : Int32} (F : FC G p s m args meth c cc own isI mL n1) (hd : decode cc pc = .ok (.iconst q, 1)) (hv : Int32.ofInt q = v) (k : KW G p l e R s m args below meth c n0 n1 Z mL n (pc + 1) (L) (.inl v :: st) (h)) : KW G p l e R s m args below meth c n0 n1 Z mL n (pc) (L) (st) (h) := by
  intro a1 a2 a3 a4 a5 a6 H locs ls a7 a8 a9
  obtain ⟨hx, hb, hml, hown, hts, hSC, h80, hI⟩ := F
  exact lv_iconst hx hb hd hv (k a1 a2 a3 a4 (okS_c okV_i a5) a6 H locs ls a7 a8 a9)
theorem sw_bipush {q : Int} {v : Int32} (F : FC G p s m args meth c cc own isI mL n1) (hd : decode cc pc = .ok (.bipush q, 2)) (hv : (Int8.ofInt q).toInt32 = v) (k : KW G p l e R s m args below meth c n0 n1 Z mL n (pc + 2) (L) (.inl v :: st) (h)) : KW G p l e R s m args below meth c n0 n1 Z mL n (pc) (L) (st) (h) := by
  intro a1 a2 a3 a4 a5 a6 H locs ls a7 a8 a9
  obtain ⟨hx, hb, hml, hown, hts, hSC, h80, hI⟩ := F
  exact lv_bipush hx hb hd hv (k a1 a2 a3 a4 (okS_c okV_i a5) a6 H locs ls a7 a8 a9)
theorem sw_sipush {q : Int} {v : Int32} (F : FC G p s m args meth c cc own isI mL n1) (hd : decode cc pc = .ok (.sipush q, 3)) (hv : (Int16.ofInt q).toInt32 = v) (k : KW G p l e R s m args below meth c n0 n1 Z mL n (pc + 3) (L) (.inl v :: st) (h)) : KW G p l e R s m args below meth c n0 n1 Z mL n (pc) (L) (st) (h) := by
  intro a1 a2 a3 a4 a5 a6 H locs ls a7 a8 a9
  obtain ⟨hx, hb, hml, hown, hts, hSC, h80, hI⟩ := F
  exact lv_sipush hx hb hd hv (k a1 a2 a3 a4 (okS_c okV_i a5) a6 H locs ls a7 a8 a9)
theorem sw_lconst {q : Fin 2} {v : Int64} (F : FC G p s m args meth c cc own isI mL n1) (hd : decode cc pc = .ok (.lconst q, 1)) (hv : Int64.ofNat (q : Nat) = v) (k : KW G p l e R s m args below meth c n0 n1 Z mL n (pc + 1) (L) (.inr (.inl v) :: st) (h)) : KW G p l e R s m args below meth c n0 n1 Z mL n (pc) (L) (st) (h) := by
  intro a1 a2 a3 a4 a5 a6 H locs ls a7 a8 a9
  obtain ⟨hx, hb, hml, hown, hts, hSC, h80, hI⟩ := F
  exact lv_lconst hx hb hd hv (k a1 a2 a3 a4 (okS_c okV_l a5) a6 H locs ls a7 a8 a9)
theorem sw_ldc {q : Nat} {v : Int32} (F : FC G p s m args meth c cc own isI mL n1) (hd : decode cc pc = .ok (.ldc q, 2)) (hv : (own, (q, v)) ∈ KT) (k : KW G p l e R s m args below meth c n0 n1 Z mL n (pc + 2) (L) (.inl v :: st) (h)) : KW G p l e R s m args below meth c n0 n1 Z mL n (pc) (L) (st) (h) := by
  intro a1 a2 a3 a4 a5 a6 H locs ls a7 a8 a9
  obtain ⟨hx, hb, hml, hown, hts, hSC, h80, hI⟩ := F
  exact lv_ldc hx hb hown (hts _ (WS_k hv)) hd (k a1 a2 a3 a4 (okS_c okV_i a5) a6 H locs ls a7 a8 a9)
theorem sw_ldcw {q : Nat} {v : Int32} (F : FC G p s m args meth c cc own isI mL n1) (hd : decode cc pc = .ok (.ldc_w q, 3)) (hv : (own, (q, v)) ∈ KT) (k : KW G p l e R s m args below meth c n0 n1 Z mL n (pc + 3) (L) (.inl v :: st) (h)) : KW G p l e R s m args below meth c n0 n1 Z mL n (pc) (L) (st) (h) := by
  intro a1 a2 a3 a4 a5 a6 H locs ls a7 a8 a9
  obtain ⟨hx, hb, hml, hown, hts, hSC, h80, hI⟩ := F
  exact lv_ldcw hx hb hown (hts _ (WS_k hv)) hd (k a1 a2 a3 a4 (okS_c okV_i a5) a6 H locs ls a7 a8 a9)
theorem sw_ldc2 {q : Nat} {v : Int64} (F : FC G p s m args meth c cc own isI mL n1) (hd : decode cc pc = .ok (.ldc2_w q, 3)) (hv : (own, (q, v)) ∈ KL) (k : KW G p l e R s m args below meth c n0 n1 Z mL n (pc + 3) (L) (.inr (.inl v) :: st) (h)) : KW G p l e R s m args below meth c n0 n1 Z mL n (pc) (L) (st) (h) := by
  intro a1 a2 a3 a4 a5 a6 H locs ls a7 a8 a9
  obtain ⟨hx, hb, hml, hown, hts, hSC, h80, hI⟩ := F
  exact lv_ldc2 hx hb hown (hts _ (WS_kl hv)) hd (k a1 a2 a3 a4 (okS_c okV_l a5) a6 H locs ls a7 a8 a9)
theorem sw_null  (F : FC G p s m args meth c cc own isI mL n1) (hd : decode cc pc = .ok (.aconst_null, 1)) (k : KW G p l e R s m args below meth c n0 n1 Z mL n (pc + 1) (L) (.inr (.inr none) :: st) (h)) : KW G p l e R s m args below meth c n0 n1 Z mL n (pc) (L) (st) (h) := by
  intro a1 a2 a3 a4 a5 a6 H locs ls a7 a8 a9
  obtain ⟨hx, hb, hml, hown, hts, hSC, h80, hI⟩ := F
  exact lv_null hx hb hd (k a1 a2 a3 a4 (okS_c okV_n a5) a6 H locs ls a7 a8 a9)
theorem sw_ldcS {q y : Nat} (F : FC G p s m args meth c cc own isI mL n1) (hd : decode cc pc = .ok (.ldc q, 2)) (ho : own = 4) (hy : nth strIdx y = some q) (hy2 : y < 14) (k : KW G p l e R s m args below meth c n0 n1 Z mL n (pc + 2) (L) (.inr (.inr (some (41, (y, 0)))) :: st) (h)) : KW G p l e R s m args below meth c n0 n1 Z mL n (pc) (L) (st) (h) := by
  intro a1 a2 a3 a4 a5 a6 H locs ls a7 a8 a9
  obtain ⟨hx, hb, hml, hown, hts, hSC, h80, hI⟩ := F
  obtain ⟨-, -, -, -, -, -, -, hR, -⟩ := hSC
  have h8 := hR y hy2
  rw [nth_eq] at hy
  rw [hy] at h8
  subst ho
  refine va_ldcS (own := "ListenerIsTired$Tape") hx hb hown h8 hd ?_
  exact k a1 a2 a3 a4 (okS_c (okV_r (Or.inr (Or.inr (Or.inl ⟨rfl, hy2, rfl⟩)))) a5) a6 H locs ls a7 a8 a9
theorem sw_iload_n {q : Fin 4} {a : Int32} (F : FC G p s m args meth c cc own isI mL n1) (hd : decode cc pc = .ok (.iload_n q, 1)) (hv : nth L q.val = some (some (.inl a))) (k : KW G p l e R s m args below meth c n0 n1 Z mL n (pc + 1) (L) (.inl a :: st) (h)) : KW G p l e R s m args below meth c n0 n1 Z mL n (pc) (L) (st) (h) := by
  intro a1 a2 a3 a4 a5 a6 H locs ls a7 a8 a9
  obtain ⟨hx, hb, hml, hown, hts, hSC, h80, hI⟩ := F
  exact lv_iload_n hx hb hd rfl (lv_nth a9 hv) (k a1 a2 a3 a4 (okS_c (okL_nth a4 hv) a5) a6 H locs ls a7 a8 a9)
theorem sw_iload {q : Nat} {a : Int32} (F : FC G p s m args meth c cc own isI mL n1) (hd : decode cc pc = .ok (.iload q, 2)) (hv : nth L q = some (some (.inl a))) (k : KW G p l e R s m args below meth c n0 n1 Z mL n (pc + 2) (L) (.inl a :: st) (h)) : KW G p l e R s m args below meth c n0 n1 Z mL n (pc) (L) (st) (h) := by
  intro a1 a2 a3 a4 a5 a6 H locs ls a7 a8 a9
  obtain ⟨hx, hb, hml, hown, hts, hSC, h80, hI⟩ := F
  exact lv_iload hx hb hd (lv_nth a9 hv) (k a1 a2 a3 a4 (okS_c (okL_nth a4 hv) a5) a6 H locs ls a7 a8 a9)
theorem sw_lload_n {q : Fin 4} {a : Int64} (F : FC G p s m args meth c cc own isI mL n1) (hd : decode cc pc = .ok (.lload_n q, 1)) (hv : nth L q.val = some (some (.inr (.inl a)))) (k : KW G p l e R s m args below meth c n0 n1 Z mL n (pc + 1) (L) (.inr (.inl a) :: st) (h)) : KW G p l e R s m args below meth c n0 n1 Z mL n (pc) (L) (st) (h) := by
  intro a1 a2 a3 a4 a5 a6 H locs ls a7 a8 a9
  obtain ⟨hx, hb, hml, hown, hts, hSC, h80, hI⟩ := F
  exact lv_lload_n hx hb hd rfl (lv_nth a9 hv) (k a1 a2 a3 a4 (okS_c (okL_nth a4 hv) a5) a6 H locs ls a7 a8 a9)
theorem sw_lload {q : Nat} {a : Int64} (F : FC G p s m args meth c cc own isI mL n1) (hd : decode cc pc = .ok (.lload q, 2)) (hv : nth L q = some (some (.inr (.inl a)))) (k : KW G p l e R s m args below meth c n0 n1 Z mL n (pc + 2) (L) (.inr (.inl a) :: st) (h)) : KW G p l e R s m args below meth c n0 n1 Z mL n (pc) (L) (st) (h) := by
  intro a1 a2 a3 a4 a5 a6 H locs ls a7 a8 a9
  obtain ⟨hx, hb, hml, hown, hts, hSC, h80, hI⟩ := F
  exact lv_lload hx hb hd (lv_nth a9 hv) (k a1 a2 a3 a4 (okS_c (okL_nth a4 hv) a5) a6 H locs ls a7 a8 a9)
theorem sw_aload_n {q : Fin 4} {a : Option AO} (F : FC G p s m args meth c cc own isI mL n1) (hd : decode cc pc = .ok (.aload_n q, 1)) (hv : nth L q.val = some (some (.inr (.inr a)))) (k : KW G p l e R s m args below meth c n0 n1 Z mL n (pc + 1) (L) (.inr (.inr a) :: st) (h)) : KW G p l e R s m args below meth c n0 n1 Z mL n (pc) (L) (st) (h) := by
  intro a1 a2 a3 a4 a5 a6 H locs ls a7 a8 a9
  obtain ⟨hx, hb, hml, hown, hts, hSC, h80, hI⟩ := F
  cases a with
  | none => exact lv_aload_nN hx hb hd rfl (lv_nth a9 hv) (k a1 a2 a3 a4 (okS_c (okL_nth a4 hv) a5) a6 H locs ls a7 a8 a9)
  | some a => exact lv_aload_n hx hb hd rfl (lv_nth a9 hv) (k a1 a2 a3 a4 (okS_c (okL_nth a4 hv) a5) a6 H locs ls a7 a8 a9)
theorem sw_aload {q : Nat} {a : Option AO} (F : FC G p s m args meth c cc own isI mL n1) (hd : decode cc pc = .ok (.aload q, 2)) (hv : nth L q = some (some (.inr (.inr a)))) (k : KW G p l e R s m args below meth c n0 n1 Z mL n (pc + 2) (L) (.inr (.inr a) :: st) (h)) : KW G p l e R s m args below meth c n0 n1 Z mL n (pc) (L) (st) (h) := by
  intro a1 a2 a3 a4 a5 a6 H locs ls a7 a8 a9
  obtain ⟨hx, hb, hml, hown, hts, hSC, h80, hI⟩ := F
  cases a with
  | none => exact lv_aloadN hx hb hd (lv_nth a9 hv) (k a1 a2 a3 a4 (okS_c (okL_nth a4 hv) a5) a6 H locs ls a7 a8 a9)
  | some a => exact lv_aload hx hb hd (lv_nth a9 hv) (k a1 a2 a3 a4 (okS_c (okL_nth a4 hv) a5) a6 H locs ls a7 a8 a9)
theorem sw_istore_n {q : Fin 4} {a : Int32} (F : FC G p s m args meth c cc own isI mL n1) (hd : decode cc pc = .ok (.istore_n q, 1)) (hq : q.val + 1 ≤ mL) (k : KW G p l e R s m args below meth c n0 n1 Z mL n (pc + 1) (stL L q.val (.inl a)) (st) (h)) : KW G p l e R s m args below meth c n0 n1 Z mL n (pc) (L) (.inl a :: st) (h) := by
  intro a1 a2 a3 a4 a5 a6 H locs ls a7 a8 a9
  obtain ⟨hx, hb, hml, hown, hts, hSC, h80, hI⟩ := F
  refine lv_istore_n (lv' := _) hx hb hd rfl a9 (by omega) rfl (fun ls hl => ?_)
  exact k a1 a2 (by rw [stL_len]; exact a3) (okL_stL a4 (okS_h a5)) (okS_t a5) a6 H locs ls a7 a8 (lv_stL (v := .inl a) hl)
theorem sw_istore {q : Nat} {a : Int32} (F : FC G p s m args meth c cc own isI mL n1) (hd : decode cc pc = .ok (.istore q, 2)) (hq : q + 1 ≤ mL) (k : KW G p l e R s m args below meth c n0 n1 Z mL n (pc + 2) (stL L q (.inl a)) (st) (h)) : KW G p l e R s m args below meth c n0 n1 Z mL n (pc) (L) (.inl a :: st) (h) := by
  intro a1 a2 a3 a4 a5 a6 H locs ls a7 a8 a9
  obtain ⟨hx, hb, hml, hown, hts, hSC, h80, hI⟩ := F
  refine lv_istore (lv' := _) hx hb hd a9 (by omega) rfl (fun ls hl => ?_)
  exact k a1 a2 (by rw [stL_len]; exact a3) (okL_stL a4 (okS_h a5)) (okS_t a5) a6 H locs ls a7 a8 (lv_stL (v := .inl a) hl)
theorem sw_lstore_n {q : Fin 4} {a : Int64} (F : FC G p s m args meth c cc own isI mL n1) (hd : decode cc pc = .ok (.lstore_n q, 1)) (hq : q.val + 2 ≤ mL) (k : KW G p l e R s m args below meth c n0 n1 Z mL n (pc + 1) (stL2 L q.val (.inr (.inl a))) (st) (h)) : KW G p l e R s m args below meth c n0 n1 Z mL n (pc) (L) (.inr (.inl a) :: st) (h) := by
  intro a1 a2 a3 a4 a5 a6 H locs ls a7 a8 a9
  obtain ⟨hx, hb, hml, hown, hts, hSC, h80, hI⟩ := F
  refine lv_lstore_n (lv' := _) hx hb hd rfl a9 (by omega) rfl (fun ls hl => ?_)
  exact k a1 a2 (by rw [stL2_len]; exact a3) (okL_stL2 a4 (okS_h a5)) (okS_t a5) a6 H locs ls a7 a8 (lv_stL2 (v := .inr (.inl a)) hl)
theorem sw_lstore {q : Nat} {a : Int64} (F : FC G p s m args meth c cc own isI mL n1) (hd : decode cc pc = .ok (.lstore q, 2)) (hq : q + 2 ≤ mL) (k : KW G p l e R s m args below meth c n0 n1 Z mL n (pc + 2) (stL2 L q (.inr (.inl a))) (st) (h)) : KW G p l e R s m args below meth c n0 n1 Z mL n (pc) (L) (.inr (.inl a) :: st) (h) := by
  intro a1 a2 a3 a4 a5 a6 H locs ls a7 a8 a9
  obtain ⟨hx, hb, hml, hown, hts, hSC, h80, hI⟩ := F
  refine lv_lstore (lv' := _) hx hb hd a9 (by omega) rfl (fun ls hl => ?_)
  exact k a1 a2 (by rw [stL2_len]; exact a3) (okL_stL2 a4 (okS_h a5)) (okS_t a5) a6 H locs ls a7 a8 (lv_stL2 (v := .inr (.inl a)) hl)
theorem sw_astore_n {q : Fin 4} {a : Option AO} (F : FC G p s m args meth c cc own isI mL n1) (hd : decode cc pc = .ok (.astore_n q, 1)) (hq : q.val + 1 ≤ mL) (k : KW G p l e R s m args below meth c n0 n1 Z mL n (pc + 1) (stL L q.val (.inr (.inr a))) (st) (h)) : KW G p l e R s m args below meth c n0 n1 Z mL n (pc) (L) (.inr (.inr a) :: st) (h) := by
  intro a1 a2 a3 a4 a5 a6 H locs ls a7 a8 a9
  obtain ⟨hx, hb, hml, hown, hts, hSC, h80, hI⟩ := F
  cases a with
  | none =>
    refine lv_astore_nN (lv' := _) hx hb hd rfl a9 (by omega) rfl (fun ls hl => ?_)
    exact k a1 a2 (by rw [stL_len]; exact a3) (okL_stL a4 (okS_h a5)) (okS_t a5) a6 H locs ls a7 a8 (lv_stL (v := .inr (.inr none)) hl)
  | some a =>
    refine lv_astore_n (lv' := _) hx hb hd rfl a9 (by omega) rfl (fun ls hl => ?_)
    exact k a1 a2 (by rw [stL_len]; exact a3) (okL_stL a4 (okS_h a5)) (okS_t a5) a6 H locs ls a7 a8 (lv_stL (v := .inr (.inr (some a))) hl)
theorem sw_astore {q : Nat} {a : Option AO} (F : FC G p s m args meth c cc own isI mL n1) (hd : decode cc pc = .ok (.astore q, 2)) (hq : q + 1 ≤ mL) (k : KW G p l e R s m args below meth c n0 n1 Z mL n (pc + 2) (stL L q (.inr (.inr a))) (st) (h)) : KW G p l e R s m args below meth c n0 n1 Z mL n (pc) (L) (.inr (.inr a) :: st) (h) := by
  intro a1 a2 a3 a4 a5 a6 H locs ls a7 a8 a9
  obtain ⟨hx, hb, hml, hown, hts, hSC, h80, hI⟩ := F
  cases a with
  | none =>
    refine lv_astoreN (lv' := _) hx hb hd a9 (by omega) rfl (fun ls hl => ?_)
    exact k a1 a2 (by rw [stL_len]; exact a3) (okL_stL a4 (okS_h a5)) (okS_t a5) a6 H locs ls a7 a8 (lv_stL (v := .inr (.inr none)) hl)
  | some a =>
    refine lv_astore (lv' := _) hx hb hd a9 (by omega) rfl (fun ls hl => ?_)
    exact k a1 a2 (by rw [stL_len]; exact a3) (okL_stL a4 (okS_h a5)) (okS_t a5) a6 H locs ls a7 a8 (lv_stL (v := .inr (.inr (some a))) hl)
theorem sw_iinc {q : Nat} {z : Int} {a v : Int32} (F : FC G p s m args meth c cc own isI mL n1) (hd : decode cc pc = .ok (.iinc q z, 3)) (hq : q + 1 ≤ mL) (hz : Int32.ofInt z = v) (hv : nth L q = some (some (.inl a))) (k : KW G p l e R s m args below meth c n0 n1 Z mL n (pc + 3) (stL L q (.inl (a + v))) (st) (h)) : KW G p l e R s m args below meth c n0 n1 Z mL n (pc) (L) (st) (h) := by
  intro a1 a2 a3 a4 a5 a6 H locs ls a7 a8 a9
  obtain ⟨hx, hb, hml, hown, hts, hSC, h80, hI⟩ := F
  have hm : (q, Value.int a) ∈ lvOf G 0 L := by
    rw [nth_eq] at hv
    exact (lvOf_mem L 0 _).mpr ⟨q, _, hv, by rw [Nat.zero_add]; rfl⟩
  obtain ⟨k0, hk0⟩ := List.getElem?_of_mem hm
  refine lv_iinc (v := a + v) (lv' := _) hx hb hd a9 (k := k0) hk0 (by rw [hz]) (by omega) rfl (fun ls hl => ?_)
  exact k a1 a2 (by rw [stL_len]; exact a3) (okL_stL a4 okV_i) a5 a6 H locs ls a7 a8 (lv_stL (v := .inl (a + v)) hl)
theorem sw_iadd {a b : Int32} (F : FC G p s m args meth c cc own isI mL n1) (hd : decode cc pc = .ok (.iadd, 1)) (k : KW G p l e R s m args below meth c n0 n1 Z mL n (pc + 1) (L) (.inl (a + b) :: st) (h)) : KW G p l e R s m args below meth c n0 n1 Z mL n (pc) (L) (.inl b :: .inl a :: st) (h) := by
  intro a1 a2 a3 a4 a5 a6 H locs ls a7 a8 a9
  obtain ⟨hx, hb, hml, hown, hts, hSC, h80, hI⟩ := F
  exact lv_iadd hx hb hd (k a1 a2 a3 a4 (okS_c okV_i (okS_t (okS_t a5))) a6 H locs ls a7 a8 a9)
theorem sw_isub {a b : Int32} (F : FC G p s m args meth c cc own isI mL n1) (hd : decode cc pc = .ok (.isub, 1)) (k : KW G p l e R s m args below meth c n0 n1 Z mL n (pc + 1) (L) (.inl (a - b) :: st) (h)) : KW G p l e R s m args below meth c n0 n1 Z mL n (pc) (L) (.inl b :: .inl a :: st) (h) := by
  intro a1 a2 a3 a4 a5 a6 H locs ls a7 a8 a9
  obtain ⟨hx, hb, hml, hown, hts, hSC, h80, hI⟩ := F
  exact lv_isub hx hb hd (k a1 a2 a3 a4 (okS_c okV_i (okS_t (okS_t a5))) a6 H locs ls a7 a8 a9)
theorem sw_imul {a b : Int32} (F : FC G p s m args meth c cc own isI mL n1) (hd : decode cc pc = .ok (.imul, 1)) (k : KW G p l e R s m args below meth c n0 n1 Z mL n (pc + 1) (L) (.inl (a * b) :: st) (h)) : KW G p l e R s m args below meth c n0 n1 Z mL n (pc) (L) (.inl b :: .inl a :: st) (h) := by
  intro a1 a2 a3 a4 a5 a6 H locs ls a7 a8 a9
  obtain ⟨hx, hb, hml, hown, hts, hSC, h80, hI⟩ := F
  exact lv_imul hx hb hd (k a1 a2 a3 a4 (okS_c okV_i (okS_t (okS_t a5))) a6 H locs ls a7 a8 a9)
theorem sw_iand {a b : Int32} (F : FC G p s m args meth c cc own isI mL n1) (hd : decode cc pc = .ok (.iand, 1)) (k : KW G p l e R s m args below meth c n0 n1 Z mL n (pc + 1) (L) (.inl (a &&& b) :: st) (h)) : KW G p l e R s m args below meth c n0 n1 Z mL n (pc) (L) (.inl b :: .inl a :: st) (h) := by
  intro a1 a2 a3 a4 a5 a6 H locs ls a7 a8 a9
  obtain ⟨hx, hb, hml, hown, hts, hSC, h80, hI⟩ := F
  exact lv_iand hx hb hd (k a1 a2 a3 a4 (okS_c okV_i (okS_t (okS_t a5))) a6 H locs ls a7 a8 a9)
theorem sw_ior {a b : Int32} (F : FC G p s m args meth c cc own isI mL n1) (hd : decode cc pc = .ok (.ior, 1)) (k : KW G p l e R s m args below meth c n0 n1 Z mL n (pc + 1) (L) (.inl (a ||| b) :: st) (h)) : KW G p l e R s m args below meth c n0 n1 Z mL n (pc) (L) (.inl b :: .inl a :: st) (h) := by
  intro a1 a2 a3 a4 a5 a6 H locs ls a7 a8 a9
  obtain ⟨hx, hb, hml, hown, hts, hSC, h80, hI⟩ := F
  exact lv_ior hx hb hd (k a1 a2 a3 a4 (okS_c okV_i (okS_t (okS_t a5))) a6 H locs ls a7 a8 a9)
theorem sw_ixor {a b : Int32} (F : FC G p s m args meth c cc own isI mL n1) (hd : decode cc pc = .ok (.ixor, 1)) (k : KW G p l e R s m args below meth c n0 n1 Z mL n (pc + 1) (L) (.inl (a ^^^ b) :: st) (h)) : KW G p l e R s m args below meth c n0 n1 Z mL n (pc) (L) (.inl b :: .inl a :: st) (h) := by
  intro a1 a2 a3 a4 a5 a6 H locs ls a7 a8 a9
  obtain ⟨hx, hb, hml, hown, hts, hSC, h80, hI⟩ := F
  exact lv_ixor hx hb hd (k a1 a2 a3 a4 (okS_c okV_i (okS_t (okS_t a5))) a6 H locs ls a7 a8 a9)
theorem sw_ishl {a b : Int32} (F : FC G p s m args meth c cc own isI mL n1) (hd : decode cc pc = .ok (.ishl, 1)) (k : KW G p l e R s m args below meth c n0 n1 Z mL n (pc + 1) (L) (.inl (a <<< (b &&& 31)) :: st) (h)) : KW G p l e R s m args below meth c n0 n1 Z mL n (pc) (L) (.inl b :: .inl a :: st) (h) := by
  intro a1 a2 a3 a4 a5 a6 H locs ls a7 a8 a9
  obtain ⟨hx, hb, hml, hown, hts, hSC, h80, hI⟩ := F
  exact lv_ishl hx hb hd (k a1 a2 a3 a4 (okS_c okV_i (okS_t (okS_t a5))) a6 H locs ls a7 a8 a9)
theorem sw_ishr {a b : Int32} (F : FC G p s m args meth c cc own isI mL n1) (hd : decode cc pc = .ok (.ishr, 1)) (k : KW G p l e R s m args below meth c n0 n1 Z mL n (pc + 1) (L) (.inl (a >>> (b &&& 31)) :: st) (h)) : KW G p l e R s m args below meth c n0 n1 Z mL n (pc) (L) (.inl b :: .inl a :: st) (h) := by
  intro a1 a2 a3 a4 a5 a6 H locs ls a7 a8 a9
  obtain ⟨hx, hb, hml, hown, hts, hSC, h80, hI⟩ := F
  exact lv_ishr hx hb hd (k a1 a2 a3 a4 (okS_c okV_i (okS_t (okS_t a5))) a6 H locs ls a7 a8 a9)
theorem sw_iushr {a b : Int32} (F : FC G p s m args meth c cc own isI mL n1) (hd : decode cc pc = .ok (.iushr, 1)) (k : KW G p l e R s m args below meth c n0 n1 Z mL n (pc + 1) (L) (.inl (a.toUInt32 >>> (b.toUInt32 &&& Int32.toUInt32 31)).toInt32 :: st) (h)) : KW G p l e R s m args below meth c n0 n1 Z mL n (pc) (L) (.inl b :: .inl a :: st) (h) := by
  intro a1 a2 a3 a4 a5 a6 H locs ls a7 a8 a9
  obtain ⟨hx, hb, hml, hown, hts, hSC, h80, hI⟩ := F
  exact lv_iushr hx hb hd rfl (k a1 a2 a3 a4 (okS_c okV_i (okS_t (okS_t a5))) a6 H locs ls a7 a8 a9)
theorem sw_idiv {a b : Int32} (F : FC G p s m args meth c cc own isI mL n1) (hd : decode cc pc = .ok (.idiv, 1)) (hne : ¬ b = 0) (k : KW G p l e R s m args below meth c n0 n1 Z mL n (pc + 1) (L) (.inl (a / b) :: st) (h)) : KW G p l e R s m args below meth c n0 n1 Z mL n (pc) (L) (.inl b :: .inl a :: st) (h) := by
  intro a1 a2 a3 a4 a5 a6 H locs ls a7 a8 a9
  obtain ⟨hx, hb, hml, hown, hts, hSC, h80, hI⟩ := F
  exact lv_idiv hx hb hd hne (k a1 a2 a3 a4 (okS_c okV_i (okS_t (okS_t a5))) a6 H locs ls a7 a8 a9)
theorem sw_irem {a b : Int32} (F : FC G p s m args meth c cc own isI mL n1) (hd : decode cc pc = .ok (.irem, 1)) (hne : ¬ b = 0) (k : KW G p l e R s m args below meth c n0 n1 Z mL n (pc + 1) (L) (.inl (a - a / b * b) :: st) (h)) : KW G p l e R s m args below meth c n0 n1 Z mL n (pc) (L) (.inl b :: .inl a :: st) (h) := by
  intro a1 a2 a3 a4 a5 a6 H locs ls a7 a8 a9
  obtain ⟨hx, hb, hml, hown, hts, hSC, h80, hI⟩ := F
  exact lv_irem hx hb hd hne (k a1 a2 a3 a4 (okS_c okV_i (okS_t (okS_t a5))) a6 H locs ls a7 a8 a9)
theorem sw_ineg {a : Int32} (F : FC G p s m args meth c cc own isI mL n1) (hd : decode cc pc = .ok (.ineg, 1)) (k : KW G p l e R s m args below meth c n0 n1 Z mL n (pc + 1) (L) (.inl (-a) :: st) (h)) : KW G p l e R s m args below meth c n0 n1 Z mL n (pc) (L) (.inl a :: st) (h) := by
  intro a1 a2 a3 a4 a5 a6 H locs ls a7 a8 a9
  obtain ⟨hx, hb, hml, hown, hts, hSC, h80, hI⟩ := F
  exact lv_ineg hx hb hd (k a1 a2 a3 a4 (okS_c okV_i (okS_t a5)) a6 H locs ls a7 a8 a9)
theorem sw_ladd {a b : Int64} (F : FC G p s m args meth c cc own isI mL n1) (hd : decode cc pc = .ok (.ladd, 1)) (k : KW G p l e R s m args below meth c n0 n1 Z mL n (pc + 1) (L) (.inr (.inl (a + b)) :: st) (h)) : KW G p l e R s m args below meth c n0 n1 Z mL n (pc) (L) (.inr (.inl b) :: .inr (.inl a) :: st) (h) := by
  intro a1 a2 a3 a4 a5 a6 H locs ls a7 a8 a9
  obtain ⟨hx, hb, hml, hown, hts, hSC, h80, hI⟩ := F
  exact lv_ladd hx hb hd (k a1 a2 a3 a4 (okS_c okV_l (okS_t (okS_t a5))) a6 H locs ls a7 a8 a9)
theorem sw_lsub {a b : Int64} (F : FC G p s m args meth c cc own isI mL n1) (hd : decode cc pc = .ok (.lsub, 1)) (k : KW G p l e R s m args below meth c n0 n1 Z mL n (pc + 1) (L) (.inr (.inl (a - b)) :: st) (h)) : KW G p l e R s m args below meth c n0 n1 Z mL n (pc) (L) (.inr (.inl b) :: .inr (.inl a) :: st) (h) := by
  intro a1 a2 a3 a4 a5 a6 H locs ls a7 a8 a9
  obtain ⟨hx, hb, hml, hown, hts, hSC, h80, hI⟩ := F
  exact lv_lsub hx hb hd (k a1 a2 a3 a4 (okS_c okV_l (okS_t (okS_t a5))) a6 H locs ls a7 a8 a9)
theorem sw_lmul {a b : Int64} (F : FC G p s m args meth c cc own isI mL n1) (hd : decode cc pc = .ok (.lmul, 1)) (k : KW G p l e R s m args below meth c n0 n1 Z mL n (pc + 1) (L) (.inr (.inl (a * b)) :: st) (h)) : KW G p l e R s m args below meth c n0 n1 Z mL n (pc) (L) (.inr (.inl b) :: .inr (.inl a) :: st) (h) := by
  intro a1 a2 a3 a4 a5 a6 H locs ls a7 a8 a9
  obtain ⟨hx, hb, hml, hown, hts, hSC, h80, hI⟩ := F
  exact lv_lmul hx hb hd (k a1 a2 a3 a4 (okS_c okV_l (okS_t (okS_t a5))) a6 H locs ls a7 a8 a9)
theorem sw_lor {a b : Int64} (F : FC G p s m args meth c cc own isI mL n1) (hd : decode cc pc = .ok (.lor, 1)) (k : KW G p l e R s m args below meth c n0 n1 Z mL n (pc + 1) (L) (.inr (.inl (a ||| b)) :: st) (h)) : KW G p l e R s m args below meth c n0 n1 Z mL n (pc) (L) (.inr (.inl b) :: .inr (.inl a) :: st) (h) := by
  intro a1 a2 a3 a4 a5 a6 H locs ls a7 a8 a9
  obtain ⟨hx, hb, hml, hown, hts, hSC, h80, hI⟩ := F
  exact lv_lor hx hb hd (k a1 a2 a3 a4 (okS_c okV_l (okS_t (okS_t a5))) a6 H locs ls a7 a8 a9)
theorem sw_ldiv {a b : Int64} (F : FC G p s m args meth c cc own isI mL n1) (hd : decode cc pc = .ok (.ldiv, 1)) (hne : ¬ b = 0) (k : KW G p l e R s m args below meth c n0 n1 Z mL n (pc + 1) (L) (.inr (.inl (a / b)) :: st) (h)) : KW G p l e R s m args below meth c n0 n1 Z mL n (pc) (L) (.inr (.inl b) :: .inr (.inl a) :: st) (h) := by
  intro a1 a2 a3 a4 a5 a6 H locs ls a7 a8 a9
  obtain ⟨hx, hb, hml, hown, hts, hSC, h80, hI⟩ := F
  exact lv_ldiv hx hb hd hne (k a1 a2 a3 a4 (okS_c okV_l (okS_t (okS_t a5))) a6 H locs ls a7 a8 a9)
theorem sw_lrem {a b : Int64} (F : FC G p s m args meth c cc own isI mL n1) (hd : decode cc pc = .ok (.lrem, 1)) (hne : ¬ b = 0) (k : KW G p l e R s m args below meth c n0 n1 Z mL n (pc + 1) (L) (.inr (.inl (a - a / b * b)) :: st) (h)) : KW G p l e R s m args below meth c n0 n1 Z mL n (pc) (L) (.inr (.inl b) :: .inr (.inl a) :: st) (h) := by
  intro a1 a2 a3 a4 a5 a6 H locs ls a7 a8 a9
  obtain ⟨hx, hb, hml, hown, hts, hSC, h80, hI⟩ := F
  exact lv_lrem hx hb hd hne (k a1 a2 a3 a4 (okS_c okV_l (okS_t (okS_t a5))) a6 H locs ls a7 a8 a9)
theorem sw_lshl {a : Int64} {b : Int32} (F : FC G p s m args meth c cc own isI mL n1) (hd : decode cc pc = .ok (.lshl, 1)) (k : KW G p l e R s m args below meth c n0 n1 Z mL n (pc + 1) (L) (.inr (.inl (a <<< (b.toInt64 &&& 63))) :: st) (h)) : KW G p l e R s m args below meth c n0 n1 Z mL n (pc) (L) (.inl b :: .inr (.inl a) :: st) (h) := by
  intro a1 a2 a3 a4 a5 a6 H locs ls a7 a8 a9
  obtain ⟨hx, hb, hml, hown, hts, hSC, h80, hI⟩ := F
  exact lv_lshl hx hb hd rfl (k a1 a2 a3 a4 (okS_c okV_l (okS_t (okS_t a5))) a6 H locs ls a7 a8 a9)
theorem sw_lushr {a : Int64} {b : Int32} (F : FC G p s m args meth c cc own isI mL n1) (hd : decode cc pc = .ok (.lushr, 1)) (k : KW G p l e R s m args below meth c n0 n1 Z mL n (pc + 1) (L) (.inr (.inl (a.toUInt64 >>> (b.toInt64.toUInt64 &&& Int64.toUInt64 63)).toInt64) :: st) (h)) : KW G p l e R s m args below meth c n0 n1 Z mL n (pc) (L) (.inl b :: .inr (.inl a) :: st) (h) := by
  intro a1 a2 a3 a4 a5 a6 H locs ls a7 a8 a9
  obtain ⟨hx, hb, hml, hown, hts, hSC, h80, hI⟩ := F
  exact lv_lushr hx hb hd rfl (k a1 a2 a3 a4 (okS_c okV_l (okS_t (okS_t a5))) a6 H locs ls a7 a8 a9)
theorem sw_lcmp {a b : Int64} (F : FC G p s m args meth c cc own isI mL n1) (hd : decode cc pc = .ok (.lcmp, 1)) (k : KW G p l e R s m args below meth c n0 n1 Z mL n (pc + 1) (L) (.inl (lg_cmp a b) :: st) (h)) : KW G p l e R s m args below meth c n0 n1 Z mL n (pc) (L) (.inr (.inl b) :: .inr (.inl a) :: st) (h) := by
  intro a1 a2 a3 a4 a5 a6 H locs ls a7 a8 a9
  obtain ⟨hx, hb, hml, hown, hts, hSC, h80, hI⟩ := F
  exact W.lcmp hx hb hd (k a1 a2 a3 a4 (okS_c okV_i (okS_t (okS_t a5))) a6 H locs ls a7 a8 a9)
theorem sw_i2l {a : Int32} (F : FC G p s m args meth c cc own isI mL n1) (hd : decode cc pc = .ok (.i2l, 1)) (k : KW G p l e R s m args below meth c n0 n1 Z mL n (pc + 1) (L) (.inr (.inl a.toInt64) :: st) (h)) : KW G p l e R s m args below meth c n0 n1 Z mL n (pc) (L) (.inl a :: st) (h) := by
  intro a1 a2 a3 a4 a5 a6 H locs ls a7 a8 a9
  obtain ⟨hx, hb, hml, hown, hts, hSC, h80, hI⟩ := F
  exact lv_i2l hx hb hd rfl (k a1 a2 a3 a4 (okS_c okV_l (okS_t a5)) a6 H locs ls a7 a8 a9)
theorem sw_l2i {a : Int64} (F : FC G p s m args meth c cc own isI mL n1) (hd : decode cc pc = .ok (.l2i, 1)) (k : KW G p l e R s m args below meth c n0 n1 Z mL n (pc + 1) (L) (.inl a.toInt32 :: st) (h)) : KW G p l e R s m args below meth c n0 n1 Z mL n (pc) (L) (.inr (.inl a) :: st) (h) := by
  intro a1 a2 a3 a4 a5 a6 H locs ls a7 a8 a9
  obtain ⟨hx, hb, hml, hown, hts, hSC, h80, hI⟩ := F
  exact lv_l2i hx hb hd rfl (k a1 a2 a3 a4 (okS_c okV_i (okS_t a5)) a6 H locs ls a7 a8 a9)
theorem sw_i2b {a : Int32} (F : FC G p s m args meth c cc own isI mL n1) (hd : decode cc pc = .ok (.i2b, 1)) (k : KW G p l e R s m args below meth c n0 n1 Z mL n (pc + 1) (L) (.inl a.toInt8.toInt32 :: st) (h)) : KW G p l e R s m args below meth c n0 n1 Z mL n (pc) (L) (.inl a :: st) (h) := by
  intro a1 a2 a3 a4 a5 a6 H locs ls a7 a8 a9
  obtain ⟨hx, hb, hml, hown, hts, hSC, h80, hI⟩ := F
  exact lv_i2b hx hb hd rfl (k a1 a2 a3 a4 (okS_c okV_i (okS_t a5)) a6 H locs ls a7 a8 a9)
theorem sw_i2s {a : Int32} (F : FC G p s m args meth c cc own isI mL n1) (hd : decode cc pc = .ok (.i2s, 1)) (k : KW G p l e R s m args below meth c n0 n1 Z mL n (pc + 1) (L) (.inl a.toInt16.toInt32 :: st) (h)) : KW G p l e R s m args below meth c n0 n1 Z mL n (pc) (L) (.inl a :: st) (h) := by
  intro a1 a2 a3 a4 a5 a6 H locs ls a7 a8 a9
  obtain ⟨hx, hb, hml, hown, hts, hSC, h80, hI⟩ := F
  exact lv_i2s hx hb hd rfl (k a1 a2 a3 a4 (okS_c okV_i (okS_t a5)) a6 H locs ls a7 a8 a9)
theorem sw_i2c {a : Int32} (F : FC G p s m args meth c cc own isI mL n1) (hd : decode cc pc = .ok (.i2c, 1)) (k : KW G p l e R s m args below meth c n0 n1 Z mL n (pc + 1) (L) (.inl (a.toUInt32 % 65536).toInt32 :: st) (h)) : KW G p l e R s m args below meth c n0 n1 Z mL n (pc) (L) (.inl a :: st) (h) := by
  intro a1 a2 a3 a4 a5 a6 H locs ls a7 a8 a9
  obtain ⟨hx, hb, hml, hown, hts, hSC, h80, hI⟩ := F
  exact lv_i2c hx hb hd rfl (k a1 a2 a3 a4 (okS_c okV_i (okS_t a5)) a6 H locs ls a7 a8 a9)
theorem sw_dupI {a : Int32} (F : FC G p s m args meth c cc own isI mL n1) (hd : decode cc pc = .ok (.dup, 1)) (k : KW G p l e R s m args below meth c n0 n1 Z mL n (pc + 1) (L) (.inl a :: .inl a :: st) (h)) : KW G p l e R s m args below meth c n0 n1 Z mL n (pc) (L) (.inl a :: st) (h) := by
  intro a1 a2 a3 a4 a5 a6 H locs ls a7 a8 a9
  obtain ⟨hx, hb, hml, hown, hts, hSC, h80, hI⟩ := F
  exact lv_dup hx hb hd rfl (k a1 a2 a3 a4 (okS_c okV_i a5) a6 H locs ls a7 a8 a9)
theorem cat_rf (r : Option Nat) : (va_rf r).category = 1 := by cases r <;> rfl
theorem sw_dupR {a : Option AO} (F : FC G p s m args meth c cc own isI mL n1) (hd : decode cc pc = .ok (.dup, 1)) (k : KW G p l e R s m args below meth c n0 n1 Z mL n (pc + 1) (L) (.inr (.inr a) :: .inr (.inr a) :: st) (h)) : KW G p l e R s m args below meth c n0 n1 Z mL n (pc) (L) (.inr (.inr a) :: st) (h) := by
  intro a1 a2 a3 a4 a5 a6 H locs ls a7 a8 a9
  obtain ⟨hx, hb, hml, hown, hts, hSC, h80, hI⟩ := F
  exact lv_dup hx hb hd (cat_rf _) (k a1 a2 a3 a4 (okS_c (okS_h a5) a5) a6 H locs ls a7 a8 a9)
theorem sw_popI {a : Int32} (F : FC G p s m args meth c cc own isI mL n1) (hd : decode cc pc = .ok (.pop, 1)) (k : KW G p l e R s m args below meth c n0 n1 Z mL n (pc + 1) (L) (st) (h)) : KW G p l e R s m args below meth c n0 n1 Z mL n (pc) (L) (.inl a :: st) (h) := by
  intro a1 a2 a3 a4 a5 a6 H locs ls a7 a8 a9
  obtain ⟨hx, hb, hml, hown, hts, hSC, h80, hI⟩ := F
  exact lv_pop hx hb hd rfl (k a1 a2 a3 a4 (okS_t a5) a6 H locs ls a7 a8 a9)
theorem sw_popR {a : Option AO} (F : FC G p s m args meth c cc own isI mL n1) (hd : decode cc pc = .ok (.pop, 1)) (k : KW G p l e R s m args below meth c n0 n1 Z mL n (pc + 1) (L) (st) (h)) : KW G p l e R s m args below meth c n0 n1 Z mL n (pc) (L) (.inr (.inr a) :: st) (h) := by
  intro a1 a2 a3 a4 a5 a6 H locs ls a7 a8 a9
  obtain ⟨hx, hb, hml, hown, hts, hSC, h80, hI⟩ := F
  exact lv_pop hx hb hd (cat_rf _) (k a1 a2 a3 a4 (okS_t a5) a6 H locs ls a7 a8 a9)
theorem sw_if_eq {a : Int32} {off : Int} {x : Nat} (F : FC G p s m args meth c cc own isI mL n1) (hd : decode cc pc = .ok (.ifCond .eq off, 3)) (ht : (pc : Int) + off = (x : Int)) (k : (a = 0 → KW G p l e R s m args below meth c n0 n1 Z mL n (x) (L) (st) (h)) ∧ (¬ a = 0 → KW G p l e R s m args below meth c n0 n1 Z mL n (pc + 3) (L) (st) (h))) : KW G p l e R s m args below meth c n0 n1 Z mL n (pc) (L) (.inl a :: st) (h) := by
  intro a1 a2 a3 a4 a5 a6 H locs ls a7 a8 a9
  obtain ⟨hx, hb, hml, hown, hts, hSC, h80, hI⟩ := F
  exact lv_if_eq hx hb hd ht (fun q => k.1 (by first | exact q | exact Decidable.not_not.mp q | simpa using q) a1 a2 a3 a4 (okS_t a5) a6 H locs ls a7 a8 a9) (fun q => k.2 (by first | exact q | exact Decidable.not_not.mp q | simpa using q) a1 a2 a3 a4 (okS_t a5) a6 H locs ls a7 a8 a9)
theorem sw_if_ne {a : Int32} {off : Int} {x : Nat} (F : FC G p s m args meth c cc own isI mL n1) (hd : decode cc pc = .ok (.ifCond .ne off, 3)) (ht : (pc : Int) + off = (x : Int)) (k : (¬ a = 0 → KW G p l e R s m args below meth c n0 n1 Z mL n (x) (L) (st) (h)) ∧ (a = 0 → KW G p l e R s m args below meth c n0 n1 Z mL n (pc + 3) (L) (st) (h))) : KW G p l e R s m args below meth c n0 n1 Z mL n (pc) (L) (.inl a :: st) (h) := by
  intro a1 a2 a3 a4 a5 a6 H locs ls a7 a8 a9
  obtain ⟨hx, hb, hml, hown, hts, hSC, h80, hI⟩ := F
  exact lv_if_ne hx hb hd ht (fun q => k.1 (by first | exact q | exact Decidable.not_not.mp q | simpa using q) a1 a2 a3 a4 (okS_t a5) a6 H locs ls a7 a8 a9) (fun q => k.2 (by first | exact q | exact Decidable.not_not.mp q | simpa using q) a1 a2 a3 a4 (okS_t a5) a6 H locs ls a7 a8 a9)
theorem sw_if_lt {a : Int32} {off : Int} {x : Nat} (F : FC G p s m args meth c cc own isI mL n1) (hd : decode cc pc = .ok (.ifCond .lt off, 3)) (ht : (pc : Int) + off = (x : Int)) (k : (a < 0 → KW G p l e R s m args below meth c n0 n1 Z mL n (x) (L) (st) (h)) ∧ (¬ a < 0 → KW G p l e R s m args below meth c n0 n1 Z mL n (pc + 3) (L) (st) (h))) : KW G p l e R s m args below meth c n0 n1 Z mL n (pc) (L) (.inl a :: st) (h) := by
  intro a1 a2 a3 a4 a5 a6 H locs ls a7 a8 a9
  obtain ⟨hx, hb, hml, hown, hts, hSC, h80, hI⟩ := F
  exact lv_if_lt hx hb hd ht (fun q => k.1 (by first | exact q | exact Decidable.not_not.mp q | simpa using q) a1 a2 a3 a4 (okS_t a5) a6 H locs ls a7 a8 a9) (fun q => k.2 (by first | exact q | exact Decidable.not_not.mp q | simpa using q) a1 a2 a3 a4 (okS_t a5) a6 H locs ls a7 a8 a9)
theorem sw_if_ge {a : Int32} {off : Int} {x : Nat} (F : FC G p s m args meth c cc own isI mL n1) (hd : decode cc pc = .ok (.ifCond .ge off, 3)) (ht : (pc : Int) + off = (x : Int)) (k : (0 ≤ a → KW G p l e R s m args below meth c n0 n1 Z mL n (x) (L) (st) (h)) ∧ (¬ 0 ≤ a → KW G p l e R s m args below meth c n0 n1 Z mL n (pc + 3) (L) (st) (h))) : KW G p l e R s m args below meth c n0 n1 Z mL n (pc) (L) (.inl a :: st) (h) := by
  intro a1 a2 a3 a4 a5 a6 H locs ls a7 a8 a9
  obtain ⟨hx, hb, hml, hown, hts, hSC, h80, hI⟩ := F
  exact lv_if_ge hx hb hd ht (fun q => k.1 (by first | exact q | exact Decidable.not_not.mp q | simpa using q) a1 a2 a3 a4 (okS_t a5) a6 H locs ls a7 a8 a9) (fun q => k.2 (by first | exact q | exact Decidable.not_not.mp q | simpa using q) a1 a2 a3 a4 (okS_t a5) a6 H locs ls a7 a8 a9)
theorem sw_if_gt {a : Int32} {off : Int} {x : Nat} (F : FC G p s m args meth c cc own isI mL n1) (hd : decode cc pc = .ok (.ifCond .gt off, 3)) (ht : (pc : Int) + off = (x : Int)) (k : (0 < a → KW G p l e R s m args below meth c n0 n1 Z mL n (x) (L) (st) (h)) ∧ (¬ 0 < a → KW G p l e R s m args below meth c n0 n1 Z mL n (pc + 3) (L) (st) (h))) : KW G p l e R s m args below meth c n0 n1 Z mL n (pc) (L) (.inl a :: st) (h) := by
  intro a1 a2 a3 a4 a5 a6 H locs ls a7 a8 a9
  obtain ⟨hx, hb, hml, hown, hts, hSC, h80, hI⟩ := F
  exact lv_if_gt hx hb hd ht (fun q => k.1 (by first | exact q | exact Decidable.not_not.mp q | simpa using q) a1 a2 a3 a4 (okS_t a5) a6 H locs ls a7 a8 a9) (fun q => k.2 (by first | exact q | exact Decidable.not_not.mp q | simpa using q) a1 a2 a3 a4 (okS_t a5) a6 H locs ls a7 a8 a9)
theorem sw_if_le {a : Int32} {off : Int} {x : Nat} (F : FC G p s m args meth c cc own isI mL n1) (hd : decode cc pc = .ok (.ifCond .le off, 3)) (ht : (pc : Int) + off = (x : Int)) (k : (a ≤ 0 → KW G p l e R s m args below meth c n0 n1 Z mL n (x) (L) (st) (h)) ∧ (¬ a ≤ 0 → KW G p l e R s m args below meth c n0 n1 Z mL n (pc + 3) (L) (st) (h))) : KW G p l e R s m args below meth c n0 n1 Z mL n (pc) (L) (.inl a :: st) (h) := by
  intro a1 a2 a3 a4 a5 a6 H locs ls a7 a8 a9
  obtain ⟨hx, hb, hml, hown, hts, hSC, h80, hI⟩ := F
  exact lv_if_le hx hb hd ht (fun q => k.1 (by first | exact q | exact Decidable.not_not.mp q | simpa using q) a1 a2 a3 a4 (okS_t a5) a6 H locs ls a7 a8 a9) (fun q => k.2 (by first | exact q | exact Decidable.not_not.mp q | simpa using q) a1 a2 a3 a4 (okS_t a5) a6 H locs ls a7 a8 a9)
theorem sw_ic_eq {a b : Int32} {off : Int} {x : Nat} (F : FC G p s m args meth c cc own isI mL n1) (hd : decode cc pc = .ok (.if_icmp .eq off, 3)) (ht : (pc : Int) + off = (x : Int)) (k : (a = b → KW G p l e R s m args below meth c n0 n1 Z mL n (x) (L) (st) (h)) ∧ (¬ a = b → KW G p l e R s m args below meth c n0 n1 Z mL n (pc + 3) (L) (st) (h))) : KW G p l e R s m args below meth c n0 n1 Z mL n (pc) (L) (.inl b :: .inl a :: st) (h) := by
  intro a1 a2 a3 a4 a5 a6 H locs ls a7 a8 a9
  obtain ⟨hx, hb, hml, hown, hts, hSC, h80, hI⟩ := F
  exact lv_icmp_eq hx hb hd ht (fun q => k.1 (by first | exact q | exact Decidable.not_not.mp q | simpa using q) a1 a2 a3 a4 (okS_t (okS_t a5)) a6 H locs ls a7 a8 a9) (fun q => k.2 (by first | exact q | exact Decidable.not_not.mp q | simpa using q) a1 a2 a3 a4 (okS_t (okS_t a5)) a6 H locs ls a7 a8 a9)
theorem sw_ic_ne {a b : Int32} {off : Int} {x : Nat} (F : FC G p s m args meth c cc own isI mL n1) (hd : decode cc pc = .ok (.if_icmp .ne off, 3)) (ht : (pc : Int) + off = (x : Int)) (k : (¬ a = b → KW G p l e R s m args below meth c n0 n1 Z mL n (x) (L) (st) (h)) ∧ (a = b → KW G p l e R s m args below meth c n0 n1 Z mL n (pc + 3) (L) (st) (h))) : KW G p l e R s m args below meth c n0 n1 Z mL n (pc) (L) (.inl b :: .inl a :: st) (h) := by
  intro a1 a2 a3 a4 a5 a6 H locs ls a7 a8 a9
  obtain ⟨hx, hb, hml, hown, hts, hSC, h80, hI⟩ := F
  exact lv_icmp_ne hx hb hd ht (fun q => k.1 (by first | exact q | exact Decidable.not_not.mp q | simpa using q) a1 a2 a3 a4 (okS_t (okS_t a5)) a6 H locs ls a7 a8 a9) (fun q => k.2 (by first | exact q | exact Decidable.not_not.mp q | simpa using q) a1 a2 a3 a4 (okS_t (okS_t a5)) a6 H locs ls a7 a8 a9)
theorem sw_ic_lt {a b : Int32} {off : Int} {x : Nat} (F : FC G p s m args meth c cc own isI mL n1) (hd : decode cc pc = .ok (.if_icmp .lt off, 3)) (ht : (pc : Int) + off = (x : Int)) (k : (a < b → KW G p l e R s m args below meth c n0 n1 Z mL n (x) (L) (st) (h)) ∧ (¬ a < b → KW G p l e R s m args below meth c n0 n1 Z mL n (pc + 3) (L) (st) (h))) : KW G p l e R s m args below meth c n0 n1 Z mL n (pc) (L) (.inl b :: .inl a :: st) (h) := by
  intro a1 a2 a3 a4 a5 a6 H locs ls a7 a8 a9
  obtain ⟨hx, hb, hml, hown, hts, hSC, h80, hI⟩ := F
  exact lv_icmp_lt hx hb hd ht (fun q => k.1 (by first | exact q | exact Decidable.not_not.mp q | simpa using q) a1 a2 a3 a4 (okS_t (okS_t a5)) a6 H locs ls a7 a8 a9) (fun q => k.2 (by first | exact q | exact Decidable.not_not.mp q | simpa using q) a1 a2 a3 a4 (okS_t (okS_t a5)) a6 H locs ls a7 a8 a9)
theorem sw_ic_ge {a b : Int32} {off : Int} {x : Nat} (F : FC G p s m args meth c cc own isI mL n1) (hd : decode cc pc = .ok (.if_icmp .ge off, 3)) (ht : (pc : Int) + off = (x : Int)) (k : (b ≤ a → KW G p l e R s m args below meth c n0 n1 Z mL n (x) (L) (st) (h)) ∧ (¬ b ≤ a → KW G p l e R s m args below meth c n0 n1 Z mL n (pc + 3) (L) (st) (h))) : KW G p l e R s m args below meth c n0 n1 Z mL n (pc) (L) (.inl b :: .inl a :: st) (h) := by
  intro a1 a2 a3 a4 a5 a6 H locs ls a7 a8 a9
  obtain ⟨hx, hb, hml, hown, hts, hSC, h80, hI⟩ := F
  exact lv_icmp_ge hx hb hd ht (fun q => k.1 (by first | exact q | exact Decidable.not_not.mp q | simpa using q) a1 a2 a3 a4 (okS_t (okS_t a5)) a6 H locs ls a7 a8 a9) (fun q => k.2 (by first | exact q | exact Decidable.not_not.mp q | simpa using q) a1 a2 a3 a4 (okS_t (okS_t a5)) a6 H locs ls a7 a8 a9)
theorem sw_ic_gt {a b : Int32} {off : Int} {x : Nat} (F : FC G p s m args meth c cc own isI mL n1) (hd : decode cc pc = .ok (.if_icmp .gt off, 3)) (ht : (pc : Int) + off = (x : Int)) (k : (b < a → KW G p l e R s m args below meth c n0 n1 Z mL n (x) (L) (st) (h)) ∧ (¬ b < a → KW G p l e R s m args below meth c n0 n1 Z mL n (pc + 3) (L) (st) (h))) : KW G p l e R s m args below meth c n0 n1 Z mL n (pc) (L) (.inl b :: .inl a :: st) (h) := by
  intro a1 a2 a3 a4 a5 a6 H locs ls a7 a8 a9
  obtain ⟨hx, hb, hml, hown, hts, hSC, h80, hI⟩ := F
  exact lv_icmp_gt hx hb hd ht (fun q => k.1 (by first | exact q | exact Decidable.not_not.mp q | simpa using q) a1 a2 a3 a4 (okS_t (okS_t a5)) a6 H locs ls a7 a8 a9) (fun q => k.2 (by first | exact q | exact Decidable.not_not.mp q | simpa using q) a1 a2 a3 a4 (okS_t (okS_t a5)) a6 H locs ls a7 a8 a9)
theorem sw_ic_le {a b : Int32} {off : Int} {x : Nat} (F : FC G p s m args meth c cc own isI mL n1) (hd : decode cc pc = .ok (.if_icmp .le off, 3)) (ht : (pc : Int) + off = (x : Int)) (k : (a ≤ b → KW G p l e R s m args below meth c n0 n1 Z mL n (x) (L) (st) (h)) ∧ (¬ a ≤ b → KW G p l e R s m args below meth c n0 n1 Z mL n (pc + 3) (L) (st) (h))) : KW G p l e R s m args below meth c n0 n1 Z mL n (pc) (L) (.inl b :: .inl a :: st) (h) := by
  intro a1 a2 a3 a4 a5 a6 H locs ls a7 a8 a9
  obtain ⟨hx, hb, hml, hown, hts, hSC, h80, hI⟩ := F
  exact lv_icmp_le hx hb hd ht (fun q => k.1 (by first | exact q | exact Decidable.not_not.mp q | simpa using q) a1 a2 a3 a4 (okS_t (okS_t a5)) a6 H locs ls a7 a8 a9) (fun q => k.2 (by first | exact q | exact Decidable.not_not.mp q | simpa using q) a1 a2 a3 a4 (okS_t (okS_t a5)) a6 H locs ls a7 a8 a9)
theorem sw_goto {off : Int} {x : Nat} (F : FC G p s m args meth c cc own isI mL n1) (hd : decode cc pc = .ok (.goto off, 3)) (ht : (pc : Int) + off = (x : Int)) (k : KW G p l e R s m args below meth c n0 n1 Z mL n (x) (L) (st) (h)) : KW G p l e R s m args below meth c n0 n1 Z mL n (pc) (L) (st) (h) := by
  intro a1 a2 a3 a4 a5 a6 H locs ls a7 a8 a9
  obtain ⟨hx, hb, hml, hown, hts, hSC, h80, hI⟩ := F
  exact lv_goto hx hb hd ht (k a1 a2 a3 a4 a5 a6 H locs ls a7 a8 a9)
theorem sw_ifnonnull {off : Int} {x : Nat} {a : AO} (F : FC G p s m args meth c cc own isI mL n1) (hd : decode cc pc = .ok (.ifnonnull off, 3)) (ht : (pc : Int) + off = (x : Int)) (k : KW G p l e R s m args below meth c n0 n1 Z mL n (x) (L) (st) (h)) : KW G p l e R s m args below meth c n0 n1 Z mL n (pc) (L) (.inr (.inr (some a)) :: st) (h) := by
  intro a1 a2 a3 a4 a5 a6 H locs ls a7 a8 a9
  obtain ⟨hx, hb, hml, hown, hts, hSC, h80, hI⟩ := F
  exact lv_ifnonnull hx hb hd ht (k a1 a2 a3 a4 (okS_t a5) a6 H locs ls a7 a8 a9)
theorem sw_ifnonnullN {off : Int} (F : FC G p s m args meth c cc own isI mL n1) (hd : decode cc pc = .ok (.ifnonnull off, 3)) (k : KW G p l e R s m args below meth c n0 n1 Z mL n (pc + 3) (L) (st) (h)) : KW G p l e R s m args below meth c n0 n1 Z mL n (pc) (L) (.inr (.inr none) :: st) (h) := by
  intro a1 a2 a3 a4 a5 a6 H locs ls a7 a8 a9
  obtain ⟨hx, hb, hml, hown, hts, hSC, h80, hI⟩ := F
  exact lv_ifnonnullN hx hb hd (k a1 a2 a3 a4 (okS_t a5) a6 H locs ls a7 a8 a9)
theorem sw_in {go : Nat → Prop} {a : Int32} {pc : Nat} : ∀ (ts : List (Int32 × Nat)) (lo : Int) (offs : List Int), swChk pc lo offs ts = true → swIn a go ts → ¬ a.toInt < lo → ¬ lo + (offs.length : Int) - 1 < a.toInt → ∃ (off : Int) (t : Nat), offs[(a.toInt - lo).toNat]? = some off ∧ (pc : Int) + off = (t : Int) ∧ go t
  | [], lo, [], _, _, h1, h2 => by simp at h2; omega
  | [], lo, _ :: _, h, _, _, _ => by simp [swChk] at h
  | _ :: _, lo, [], h, _, _, _ => by simp [swChk] at h
  | (b, t) :: ts, lo, o :: offs, h, hw, h1, h2 => by
    simp only [swChk, Bool.and_eq_true, decide_eq_true_eq] at h
    obtain ⟨hb, ht, hr⟩ := h
    obtain ⟨w1, w2⟩ := hw
    by_cases ha : a.toInt = lo
    · refine ⟨o, t, ?_, ht, w1 (Int32.toInt_inj.mp (by rw [ha, hb]))⟩
      rw [ha, Int.sub_self]
      rfl
    · obtain ⟨off, t2, g1, g2, g3⟩ := sw_in ts (lo + 1) offs hr w2 (by omega) (by simp at h2 ⊢; omega)
      refine ⟨off, t2, ?_, g2, g3⟩
      rw [show (a.toInt - lo).toNat = (a.toInt - (lo + 1)).toNat + 1 by omega, List.getElem?_cons_succ]
      exact g1
theorem sw_no {a : Int32} {pc : Nat} : ∀ (ts : List (Int32 × Nat)) (lo : Int) (offs : List Int), swChk pc lo offs ts = true → (a.toInt < lo ∨ lo + (offs.length : Int) - 1 < a.toInt) → swNo a ts
  | [], lo, offs, _, _ => trivial
  | _ :: _, lo, [], h, _ => by simp [swChk] at h
  | (b, t) :: ts, lo, o :: offs, h, hw => by
    simp only [swChk, Bool.and_eq_true, decide_eq_true_eq] at h
    obtain ⟨hb, ht, hr⟩ := h
    refine ⟨fun q => ?_, sw_no ts (lo + 1) offs hr (by simp at hw ⊢; omega)⟩
    rw [q, hb] at hw
    simp at hw
    omega
theorem sw_table {a : Int32} {d lo hi : Int} {offs : Array Int} {len x : Nat} {ts : List (Int32 × Nat)} (F : FC G p s m args meth c cc own isI mL n1) (hd : decode cc pc = .ok (.tableswitch d lo hi offs, len)) (ht : (pc : Int) + d = (x : Int)) (hh : hi = lo + (offs.size : Int) - 1) (hs : swChk pc lo offs.toList ts = true) (k1 : swIn a (fun t => KW G p l e R s m args below meth c n0 n1 Z mL n (t) (L) (st) (h)) ts) (k2 : swNo a ts → KW G p l e R s m args below meth c n0 n1 Z mL n (x) (L) (st) (h)) : KW G p l e R s m args below meth c n0 n1 Z mL n (pc) (L) (.inl a :: st) (h) := by
  intro a1 a2 a3 a4 a5 a6 H locs ls a7 a8 a9
  obtain ⟨hx, hb, hml, hown, hts, hSC, h80, hI⟩ := F
  have hz : (offs.toList.length : Int) = (offs.size : Int) := by rw [Array.length_toList]
  by_cases h1 : a.toInt < lo ∨ hi < a.toInt
  · exact lv_tableOut hx hb hd h1 ht (k2 (sw_no ts lo offs.toList hs (by rw [hz, ← hh]; exact h1)) a1 a2 a3 a4 (okS_t a5) a6 H locs ls a7 a8 a9)
  · obtain ⟨off, t, g1, g2, g3⟩ := sw_in ts lo offs.toList hs k1 (fun q => h1 (Or.inl q)) (fun q => h1 (Or.inr (by rw [hz, ← hh] at q; exact q)))
    exact lv_tableIn hx hb hd (fun q => h1 (Or.inl q)) (fun q => h1 (Or.inr q)) (by rw [← Array.getElem?_toList]; exact g1) g2 (g3 a1 a2 a3 a4 (okS_t a5) a6 H locs ls a7 a8 a9)
theorem sw_iaload {k i j : Nat} {a : Int32} (F : FC G p s m args meth c cc own isI mL n1) (hd : decode cc pc = .ok (.iaload, 1)) (ht : tagOf k = 0) (hin : vp_in a (lenOf k)) (kk : KW G p l e R s m args below meth c n0 n1 Z mL n (pc + 1) (L) (.inl (getI h k i j a.toNatClampNeg) :: st) (h)) : KW G p l e R s m args below meth c n0 n1 Z mL n (pc) (L) (.inl a :: .inr (.inr (some (k, (i, j)))) :: st) (h) := by
  intro a1 a2 a3 a4 a5 a6 H locs ls a7 a8 a9
  obtain ⟨hx, hb, hml, hown, hts, hSC, h80, hI⟩ := F
  have ho : okO n (k, (i, j)) := okS_h (okS_t a5) _ rfl
  have hk : k < 40 := kind_lt (Or.inl (by rw [ht]; decide))
  obtain ⟨h1, h2⟩ := okO_lt ho hk
  have he := ws_at (G := G) (h := h) h1 h2
  have hen : ent G h (k, (i, j)) = .inl (gA G 0, (lenOf k, .inl (h.1 k i j))) := by simp only [ent, ht]
  rw [hen] at he
  have hc : cv G (.inr (.inr (some (k, (i, j))))) = .ref (gz G + pos (k, (i, j))) := by show Value.ref (adr G _) = _; rw [adr_lt hk]
  show W p l e R s m args below meth c H locs (n - n0) (slN n - slN n0) Z (F0 m pc ls (.int a :: cv G (.inr (.inr (some (k, (i, j))))) :: st.map (cv G)))
  rw [hc]
  exact va_iald hx hb hSC.1 a7 (pos (k, (i, j))) 0 he rfl hin hd (kk a1 a2 a3 a4 (okS_c okV_i (okS_t (okS_t a5))) a6 H locs ls a7 a8 a9)
theorem sw_laload {k i j : Nat} {a : Int32} (F : FC G p s m args meth c cc own isI mL n1) (hd : decode cc pc = .ok (.laload, 1)) (ht : tagOf k = 1) (hin : vp_in a (lenOf k)) (kk : KW G p l e R s m args below meth c n0 n1 Z mL n (pc + 1) (L) (.inr (.inl (getJ h k i j a.toNatClampNeg)) :: st) (h)) : KW G p l e R s m args below meth c n0 n1 Z mL n (pc) (L) (.inl a :: .inr (.inr (some (k, (i, j)))) :: st) (h) := by
  intro a1 a2 a3 a4 a5 a6 H locs ls a7 a8 a9
  obtain ⟨hx, hb, hml, hown, hts, hSC, h80, hI⟩ := F
  have ho : okO n (k, (i, j)) := okS_h (okS_t a5) _ rfl
  have hk : k < 40 := kind_lt (Or.inl (by rw [ht]; decide))
  obtain ⟨h1, h2⟩ := okO_lt ho hk
  have he := ws_at (G := G) (h := h) h1 h2
  have hen : ent G h (k, (i, j)) = .inl (gA G 1, (lenOf k, .inr (.inl (h.2.1 k i j)))) := by simp only [ent, ht]
  rw [hen] at he
  have hc : cv G (.inr (.inr (some (k, (i, j))))) = .ref (gz G + pos (k, (i, j))) := by show Value.ref (adr G _) = _; rw [adr_lt hk]
  show W p l e R s m args below meth c H locs (n - n0) (slN n - slN n0) Z (F0 m pc ls (.int a :: cv G (.inr (.inr (some (k, (i, j))))) :: st.map (cv G)))
  rw [hc]
  exact va_lald hx hb hSC.1 a7 (pos (k, (i, j))) 1 he rfl hin hd (kk a1 a2 a3 a4 (okS_c okV_l (okS_t (okS_t a5))) a6 H locs ls a7 a8 a9)
theorem sw_zaload {k i j : Nat} {a : Int32} (F : FC G p s m args meth c cc own isI mL n1) (hd : decode cc pc = .ok (.baload, 1)) (ht : tagOf k = 3) (hin : vp_in a (lenOf k)) (kk : (getI h k i j a.toNatClampNeg = 0 ∨ getI h k i j a.toNatClampNeg = 1) → KW G p l e R s m args below meth c n0 n1 Z mL n (pc + 1) (L) (.inl (getI h k i j a.toNatClampNeg) :: st) (h)) : KW G p l e R s m args below meth c n0 n1 Z mL n (pc) (L) (.inl a :: .inr (.inr (some (k, (i, j)))) :: st) (h) := by
  intro a1 a2 a3 a4 a5 a6 H locs ls a7 a8 a9
  obtain ⟨hx, hb, hml, hown, hts, hSC, h80, hI⟩ := F
  have ho : okO n (k, (i, j)) := okS_h (okS_t a5) _ rfl
  have hk : k < 40 := kind_lt (Or.inl (by rw [ht]; decide))
  obtain ⟨h1, h2⟩ := okO_lt ho hk
  have he := ws_at (G := G) (h := h) h1 h2
  have hen : ent G h (k, (i, j)) = .inl (gA G 3, (lenOf k, .inl (h.1 k i j))) := by simp only [ent, ht]
  rw [hen] at he
  have hc : cv G (.inr (.inr (some (k, (i, j))))) = .ref (gz G + pos (k, (i, j))) := by show Value.ref (adr G _) = _; rw [adr_lt hk]
  have hlt : a.toNatClampNeg < lenOf k := Nat.not_le.mp fun q => hin (Or.inr q)
  have kk := kk ((a6 k i j hk ho).2 _ (Or.inr ⟨ht, hlt⟩))
  show W p l e R s m args below meth c H locs (n - n0) (slN n - slN n0) Z (F0 m pc ls (.int a :: cv G (.inr (.inr (some (k, (i, j))))) :: st.map (cv G)))
  rw [hc]
  exact va_zald hx hb hSC.1 a7 (pos (k, (i, j))) 3 he rfl hin hd (kk a1 a2 a3 a4 (okS_c okV_i (okS_t (okS_t a5))) a6 H locs ls a7 a8 a9)
theorem sw_aaload4 {k i j : Nat} {a : Int32} (F : FC G p s m args meth c cc own isI mL n1) (hd : decode cc pc = .ok (.aaload, 1)) (ht : tagOf k = 4) (hin : vp_in a (lenOf k)) (kk : KW G p l e R s m args below meth c n0 n1 Z mL n (pc + 1) (L) (.inr (.inr (getR h k i j a.toNatClampNeg)) :: st) (h)) : KW G p l e R s m args below meth c n0 n1 Z mL n (pc) (L) (.inl a :: .inr (.inr (some (k, (i, j)))) :: st) (h) := by
  intro a1 a2 a3 a4 a5 a6 H locs ls a7 a8 a9
  obtain ⟨hx, hb, hml, hown, hts, hSC, h80, hI⟩ := F
  have ho : okO n (k, (i, j)) := okS_h (okS_t a5) _ rfl
  have hk : k < 40 := kind_lt (Or.inl (by rw [ht]; decide))
  obtain ⟨h1, h2⟩ := okO_lt ho hk
  have he := ws_at (G := G) (h := h) h1 h2
  have hen : ent G h (k, (i, j)) = .inl (gA G 4, (lenOf k, .inr (.inr (.inr (.inr fun t => (h.2.2 k i j t).map (adr G)))))) := by simp only [ent, ht]
  rw [hen] at he
  have hc : cv G (.inr (.inr (some (k, (i, j))))) = .ref (gz G + pos (k, (i, j))) := by show Value.ref (adr G _) = _; rw [adr_lt hk]
  show W p l e R s m args below meth c H locs (n - n0) (slN n - slN n0) Z (F0 m pc ls (.int a :: cv G (.inr (.inr (some (k, (i, j))))) :: st.map (cv G)))
  rw [hc]
  have hv : okV n (.inr (.inr (getR h k i j a.toNatClampNeg))) := fun o e => (a6 k i j hk ho).1 a.toNatClampNeg o (by rw [sN_a hk (by rw [ht]; decide)]; exact Nat.not_le.mp fun q => hin (Or.inr q)) (Sum.inr.inj (Sum.inr.inj e))
  exact va_aldq hx hb hSC.1 a7 (pos (k, (i, j))) 4 he rfl hin hd (kk a1 a2 a3 a4 (okS_c hv (okS_t (okS_t a5))) a6 H locs ls a7 a8 a9)
theorem sw_aaload5 {k i j : Nat} {a : Int32} (F : FC G p s m args meth c cc own isI mL n1) (hd : decode cc pc = .ok (.aaload, 1)) (ht : tagOf k = 5) (hin : vp_in a (lenOf k)) (kk : KW G p l e R s m args below meth c n0 n1 Z mL n (pc + 1) (L) (.inr (.inr (getR h k i j a.toNatClampNeg)) :: st) (h)) : KW G p l e R s m args below meth c n0 n1 Z mL n (pc) (L) (.inl a :: .inr (.inr (some (k, (i, j)))) :: st) (h) := by
  intro a1 a2 a3 a4 a5 a6 H locs ls a7 a8 a9
  obtain ⟨hx, hb, hml, hown, hts, hSC, h80, hI⟩ := F
  have ho : okO n (k, (i, j)) := okS_h (okS_t a5) _ rfl
  have hk : k < 40 := kind_lt (Or.inl (by rw [ht]; decide))
  obtain ⟨h1, h2⟩ := okO_lt ho hk
  have he := ws_at (G := G) (h := h) h1 h2
  have hen : ent G h (k, (i, j)) = .inl (gA G 5, (lenOf k, .inr (.inr (.inr (.inr fun t => (h.2.2 k i j t).map (adr G)))))) := by simp only [ent, ht]
  rw [hen] at he
  have hc : cv G (.inr (.inr (some (k, (i, j))))) = .ref (gz G + pos (k, (i, j))) := by show Value.ref (adr G _) = _; rw [adr_lt hk]
  show W p l e R s m args below meth c H locs (n - n0) (slN n - slN n0) Z (F0 m pc ls (.int a :: cv G (.inr (.inr (some (k, (i, j))))) :: st.map (cv G)))
  rw [hc]
  have hv : okV n (.inr (.inr (getR h k i j a.toNatClampNeg))) := fun o e => (a6 k i j hk ho).1 a.toNatClampNeg o (by rw [sN_a hk (by rw [ht]; decide)]; exact Nat.not_le.mp fun q => hin (Or.inr q)) (Sum.inr.inj (Sum.inr.inj e))
  exact va_aldq hx hb hSC.1 a7 (pos (k, (i, j))) 5 he rfl hin hd (kk a1 a2 a3 a4 (okS_c hv (okS_t (okS_t a5))) a6 H locs ls a7 a8 a9)
theorem sw_aaload6 {k i j : Nat} {a : Int32} (F : FC G p s m args meth c cc own isI mL n1) (hd : decode cc pc = .ok (.aaload, 1)) (ht : tagOf k = 6) (hin : vp_in a (lenOf k)) (kk : KW G p l e R s m args below meth c n0 n1 Z mL n (pc + 1) (L) (.inr (.inr (getR h k i j a.toNatClampNeg)) :: st) (h)) : KW G p l e R s m args below meth c n0 n1 Z mL n (pc) (L) (.inl a :: .inr (.inr (some (k, (i, j)))) :: st) (h) := by
  intro a1 a2 a3 a4 a5 a6 H locs ls a7 a8 a9
  obtain ⟨hx, hb, hml, hown, hts, hSC, h80, hI⟩ := F
  have ho : okO n (k, (i, j)) := okS_h (okS_t a5) _ rfl
  have hk : k < 40 := kind_lt (Or.inl (by rw [ht]; decide))
  obtain ⟨h1, h2⟩ := okO_lt ho hk
  have he := ws_at (G := G) (h := h) h1 h2
  have hen : ent G h (k, (i, j)) = .inl (gA G 6, (lenOf k, .inr (.inr (.inr (.inr fun t => (h.2.2 k i j t).map (adr G)))))) := by simp only [ent, ht]
  rw [hen] at he
  have hc : cv G (.inr (.inr (some (k, (i, j))))) = .ref (gz G + pos (k, (i, j))) := by show Value.ref (adr G _) = _; rw [adr_lt hk]
  show W p l e R s m args below meth c H locs (n - n0) (slN n - slN n0) Z (F0 m pc ls (.int a :: cv G (.inr (.inr (some (k, (i, j))))) :: st.map (cv G)))
  rw [hc]
  have hv : okV n (.inr (.inr (getR h k i j a.toNatClampNeg))) := fun o e => (a6 k i j hk ho).1 a.toNatClampNeg o (by rw [sN_a hk (by rw [ht]; decide)]; exact Nat.not_le.mp fun q => hin (Or.inr q)) (Sum.inr.inj (Sum.inr.inj e))
  exact va_aldq hx hb hSC.1 a7 (pos (k, (i, j))) 6 he rfl hin hd (kk a1 a2 a3 a4 (okS_c hv (okS_t (okS_t a5))) a6 H locs ls a7 a8 a9)
theorem sw_uaload {i j : Nat} {a : Int32} (F : FC G p s m args meth c cc own isI mL n1) (hd : decode cc pc = .ok (.iaload, 1)) (hin : vp_in a 6) (kk : KW G p l e R s m args below meth c n0 n1 Z mL n (pc + 1) (L) (.inl (undr a.toNatClampNeg) :: st) (h)) : KW G p l e R s m args below meth c n0 n1 Z mL n (pc) (L) (.inl a :: .inr (.inr (some (40, (i, j)))) :: st) (h) := by
  intro a1 a2 a3 a4 a5 a6 H locs ls a7 a8 a9
  obtain ⟨hx, hb, hml, hown, hts, hSC, h80, hI⟩ := F
  refine va_ti hx hb hSC.2.2.2.1 a8 hin rfl hd ?_
  exact kk a1 a2 a3 a4 (okS_c okV_i (okS_t (okS_t a5))) a6 H locs ls a7 a8 a9
theorem sw_xaload {i j : Nat} {a : Int32} (F : FC G p s m args meth c cc own isI mL n1) (hd : decode cc pc = .ok (.iaload, 1)) (hin : vp_in a (gL G)) (kk : KW G p l e R s m args below meth c n0 n1 Z mL n (pc + 1) (L) (.inl (gxs G a.toNatClampNeg) :: st) (h)) : KW G p l e R s m args below meth c n0 n1 Z mL n (pc) (L) (.inl a :: .inr (.inr (some (50, (i, j)))) :: st) (h) := by
  intro a1 a2 a3 a4 a5 a6 H locs ls a7 a8 a9
  obtain ⟨hx, hb, hml, hown, hts, hSC, h80, hI⟩ := F
  obtain ⟨-, -, -, -, -, -, -, -, -, hX, hbA, hz⟩ := hSC
  have hbl : gb G < s.heap.size := by
    obtain ⟨scr, g1, -⟩ := hX
    exact (Array.getElem?_eq_some_iff.mp g1).1
  refine va_sld hx hb hX hbl hbA a8 hin hd ?_
  exact kk a1 a2 a3 a4 (okS_c okV_i (okS_t (okS_t a5))) a6 H locs ls a7 a8 a9
theorem sw_xlen {i j : Nat} (F : FC G p s m args meth c cc own isI mL n1) (hd : decode cc pc = .ok (.arraylength, 1)) (kk : KW G p l e R s m args below meth c n0 n1 Z mL n (pc + 1) (L) (.inl (Int32.ofNat (gL G)) :: st) (h)) : KW G p l e R s m args below meth c n0 n1 Z mL n (pc) (L) (.inr (.inr (some (50, (i, j)))) :: st) (h) := by
  intro a1 a2 a3 a4 a5 a6 H locs ls a7 a8 a9
  obtain ⟨hx, hb, hml, hown, hts, hSC, h80, hI⟩ := F
  obtain ⟨-, -, -, -, -, -, -, -, -, hX, hbA, hz⟩ := hSC
  have hbl : gb G < s.heap.size := by
    obtain ⟨scr, g1, -⟩ := hX
    exact (Array.getElem?_eq_some_iff.mp g1).1
  refine va_slen hx hb hX hbl hbA a8 hd ?_
  exact kk a1 a2 a3 a4 (okS_c okV_i (okS_t a5)) a6 H locs ls a7 a8 a9
theorem str_len : ∀ i, i < 14 → strLens.getD i 0 = strLen i := by decide +kernel
theorem sw_slen {i j : Nat} (F : FC G p s m args meth c cc own isI mL n1) (hd : decode cc pc = .ok (.arraylength, 1)) (kk : KW G p l e R s m args below meth c n0 n1 Z mL n (pc + 1) (L) (.inl (Int32.ofNat (strLen i)) :: st) (h)) : KW G p l e R s m args below meth c n0 n1 Z mL n (pc) (L) (.inr (.inr (some (42, (i, j)))) :: st) (h) := by
  intro a1 a2 a3 a4 a5 a6 H locs ls a7 a8 a9
  obtain ⟨hx, hb, hml, hown, hts, hSC, h80, hI⟩ := F
  have ho := okS_h a5 _ rfl
  have hi : i < 14 := by
    rcases ho with h | h | h | h | h | h
    · have := h.1; dsimp only at this; omega
    · have := h.1; dsimp only at this; omega
    · have := h.1; dsimp only at this; omega
    · exact h.2.1
    · have := h.1; dsimp only at this; omega
    · have := h.1; dsimp only at this; omega
  obtain ⟨-, -, -, hT⟩ := hSC.2.2.2.2.2.2.1.1 i hi
  rw [str_len i hi] at hT
  refine va_tlen hx hb hT a8 rfl hd ?_
  exact kk a1 a2 a3 a4 (okS_c okV_i (okS_t a5)) a6 H locs ls a7 a8 a9
theorem sw_saload {i j : Nat} {a : Int32} (F : FC G p s m args meth c cc own isI mL n1) (hd : decode cc pc = .ok (.baload, 1)) (hin : vp_in a (strLen i)) (kk : KW G p l e R s m args below meth c n0 n1 Z mL n (pc + 1) (L) (.inl (strB i a.toNatClampNeg) :: st) (h)) : KW G p l e R s m args below meth c n0 n1 Z mL n (pc) (L) (.inl a :: .inr (.inr (some (42, (i, j)))) :: st) (h) := by
  intro a1 a2 a3 a4 a5 a6 H locs ls a7 a8 a9
  obtain ⟨hx, hb, hml, hown, hts, hSC, h80, hI⟩ := F
  have ho := okS_h (okS_t a5) _ rfl
  have hi : i < 14 := by
    rcases ho with h | h | h | h | h | h
    · have := h.1; dsimp only at this; omega
    · have := h.1; dsimp only at this; omega
    · have := h.1; dsimp only at this; omega
    · exact h.2.1
    · have := h.1; dsimp only at this; omega
    · have := h.1; dsimp only at this; omega
  obtain ⟨-, -, -, hT⟩ := hSC.2.2.2.2.2.2.1.1 i hi
  rw [str_len i hi] at hT
  refine va_tb hx hb hT a8 hin rfl hd ?_
  exact kk a1 a2 a3 a4 (okS_c okV_i (okS_t (okS_t a5))) a6 H locs ls a7 a8 a9
theorem sw_alen {k i j : Nat} (F : FC G p s m args meth c cc own isI mL n1) (hd : decode cc pc = .ok (.arraylength, 1)) (ht : tagOf k ≠ 99 ∧ tagOf k ≠ 20 ∧ tagOf k ≠ 21 ∧ tagOf k ≠ 22) (kk : KW G p l e R s m args below meth c n0 n1 Z mL n (pc + 1) (L) (.inl (Int32.ofNat (lenOf k)) :: st) (h)) : KW G p l e R s m args below meth c n0 n1 Z mL n (pc) (L) (.inr (.inr (some (k, (i, j)))) :: st) (h) := by
  intro a1 a2 a3 a4 a5 a6 H locs ls a7 a8 a9
  obtain ⟨hx, hb, hml, hown, hts, hSC, h80, hI⟩ := F
  have ho : okO n (k, (i, j)) := okS_h a5 _ rfl
  have hk : k < 40 := kind_lt (Or.inl ht)
  obtain ⟨h1, h2⟩ := okO_lt ho hk
  have he := ws_at (G := G) (h := h) h1 h2
  have hc : cv G (.inr (.inr (some (k, (i, j))))) = .ref (gz G + pos (k, (i, j))) := by show Value.ref (adr G _) = _; rw [adr_lt hk]
  have hen : ∃ (t0 : Nat) (ty : FieldType) (y : _), (tys G)[t0]? = some (gA G t0, ty) ∧ ent G h (k, (i, j)) = .inl (gA G t0, (lenOf k, y)) := by
    have h3 : ∀ k, k < 40 → tagOf k = 0 ∨ tagOf k = 1 ∨ tagOf k = 3 ∨ tagOf k = 4 ∨ tagOf k = 5 ∨ tagOf k = 6 ∨ tagOf k = 99 := by decide +kernel
    rcases h3 k hk with q | q | q | q | q | q | q
    · exact ⟨0, _, _, rfl, by simp only [ent, q]; rfl⟩
    · exact ⟨1, _, _, rfl, by simp only [ent, q]; rfl⟩
    · exact ⟨3, _, _, rfl, by simp only [ent, q]; rfl⟩
    · exact ⟨4, _, _, rfl, by simp only [ent, q]; rfl⟩
    · exact ⟨5, _, _, rfl, by simp only [ent, q]; rfl⟩
    · exact ⟨6, _, _, rfl, by simp only [ent, q]; rfl⟩
    · exact absurd q ht.1
  obtain ⟨t0, ty, y, g1, g2⟩ := hen
  rw [g2] at he
  show W p l e R s m args below meth c H locs (n - n0) (slN n - slN n0) Z (F0 m pc ls (cv G (.inr (.inr (some (k, (i, j))))) :: st.map (cv G)))
  rw [hc]
  exact va_alen hx hb hSC.1 a7 (pos (k, (i, j))) t0 he g1 rfl hd (kk a1 a2 a3 a4 (okS_c okV_i (okS_t a5)) a6 H locs ls a7 a8 a9)
theorem sw_iastore {k i j : Nat} {a : Int32} {b : Int32} (F : FC G p s m args meth c cc own isI mL n1) (hd : decode cc pc = .ok (.iastore, 1)) (ht : tagOf k = 0) (hin : vp_in a (lenOf k)) (kk : KW G p l e R s m args below meth c n0 n1 Z mL n (pc + 1) (L) (st) (setI h k i j a.toNatClampNeg b)) : KW G p l e R s m args below meth c n0 n1 Z mL n (pc) (L) (.inl b :: .inl a :: .inr (.inr (some (k, (i, j)))) :: st) (h) := by
  intro a1 a2 a3 a4 a5 a6 H locs ls a7 a8 a9
  obtain ⟨hx, hb, hml, hown, hts, hSC, h80, hI⟩ := F
  have ho : okO n (k, (i, j)) := okS_h (okS_t (okS_t a5)) _ rfl
  have hk : k < 40 := kind_lt (Or.inl (by rw [ht]; decide))
  obtain ⟨h1, h2⟩ := okO_lt ho hk
  have he := ws_at (G := G) (h := h) h1 h2
  have hen : ent G h (k, (i, j)) = .inl (gA G 0, (lenOf k, .inl (h.1 k i j))) := by simp only [ent, ht]
  rw [hen] at he
  have hc : cv G (.inr (.inr (some (k, (i, j))))) = .ref (gz G + pos (k, (i, j))) := by show Value.ref (adr G _) = _; rw [adr_lt hk]
  have hE : ent G (setI h k i j a.toNatClampNeg b) (k, (i, j)) = .inl (gA G 0, (lenOf k, .inl (upd (h.1 k i j) a.toNatClampNeg b))) := by simp only [ent, ht, setI_row]
  show W p l e R s m args below meth c H locs (n - n0) (slN n - slN n0) Z (F0 m pc ls (.int b :: .int a :: cv G (.inr (.inr (some (k, (i, j))))) :: st.map (cv G)))
  rw [hc]
  refine va_iast hx hb hSC.1 a7 ws_D a8 (pos (k, (i, j))) 0 he rfl hin hd (fun H1 locs1 b1 b2 b3 => ?_)
  rw [ws_up (h' := setI h k i j a.toNatClampNeg b) (by omega) h1 hE h2 (fun o' ho' => setI_off ho')] at b1
  exact kk a1 a2 a3 a4 (okS_t (okS_t (okS_t a5))) (okH_setI a6 (fun q => absurd q (isZ_a (by rw [ht]; decide) (by rw [ht]; decide)))) H1 locs1 ls b1 b3 a9
theorem sw_lastore {k i j : Nat} {a : Int32} {b : Int64} (F : FC G p s m args meth c cc own isI mL n1) (hd : decode cc pc = .ok (.lastore, 1)) (ht : tagOf k = 1) (hin : vp_in a (lenOf k)) (kk : KW G p l e R s m args below meth c n0 n1 Z mL n (pc + 1) (L) (st) (setJ h k i j a.toNatClampNeg b)) : KW G p l e R s m args below meth c n0 n1 Z mL n (pc) (L) (.inr (.inl b) :: .inl a :: .inr (.inr (some (k, (i, j)))) :: st) (h) := by
  intro a1 a2 a3 a4 a5 a6 H locs ls a7 a8 a9
  obtain ⟨hx, hb, hml, hown, hts, hSC, h80, hI⟩ := F
  have ho : okO n (k, (i, j)) := okS_h (okS_t (okS_t a5)) _ rfl
  have hk : k < 40 := kind_lt (Or.inl (by rw [ht]; decide))
  obtain ⟨h1, h2⟩ := okO_lt ho hk
  have he := ws_at (G := G) (h := h) h1 h2
  have hen : ent G h (k, (i, j)) = .inl (gA G 1, (lenOf k, .inr (.inl (h.2.1 k i j)))) := by simp only [ent, ht]
  rw [hen] at he
  have hc : cv G (.inr (.inr (some (k, (i, j))))) = .ref (gz G + pos (k, (i, j))) := by show Value.ref (adr G _) = _; rw [adr_lt hk]
  have hE : ent G (setJ h k i j a.toNatClampNeg b) (k, (i, j)) = .inl (gA G 1, (lenOf k, .inr (.inl (vp_updL (h.2.1 k i j) a.toNatClampNeg b)))) := by simp only [ent, ht, setJ_row]
  show W p l e R s m args below meth c H locs (n - n0) (slN n - slN n0) Z (F0 m pc ls (.long b :: .int a :: cv G (.inr (.inr (some (k, (i, j))))) :: st.map (cv G)))
  rw [hc]
  refine va_last hx hb hSC.1 a7 ws_D a8 (pos (k, (i, j))) 1 he rfl hin hd (fun H1 locs1 b1 b2 b3 => ?_)
  rw [ws_up (h' := setJ h k i j a.toNatClampNeg b) (by omega) h1 hE h2 (fun o' ho' => setJ_off ho')] at b1
  exact kk a1 a2 a3 a4 (okS_t (okS_t (okS_t a5))) (okH_setJ a6) H1 locs1 ls b1 b3 a9
theorem sw_zastore {k i j : Nat} {a : Int32} {b : Int32} (F : FC G p s m args meth c cc own isI mL n1) (hd : decode cc pc = .ok (.bastore, 1)) (ht : tagOf k = 3) (hin : vp_in a (lenOf k)) (hz : b = 0 ∨ b = 1) (kk : KW G p l e R s m args below meth c n0 n1 Z mL n (pc + 1) (L) (st) (setI h k i j a.toNatClampNeg b)) : KW G p l e R s m args below meth c n0 n1 Z mL n (pc) (L) (.inl b :: .inl a :: .inr (.inr (some (k, (i, j)))) :: st) (h) := by
  intro a1 a2 a3 a4 a5 a6 H locs ls a7 a8 a9
  obtain ⟨hx, hb, hml, hown, hts, hSC, h80, hI⟩ := F
  have ho : okO n (k, (i, j)) := okS_h (okS_t (okS_t a5)) _ rfl
  have hk : k < 40 := kind_lt (Or.inl (by rw [ht]; decide))
  obtain ⟨h1, h2⟩ := okO_lt ho hk
  have he := ws_at (G := G) (h := h) h1 h2
  have hen : ent G h (k, (i, j)) = .inl (gA G 3, (lenOf k, .inl (h.1 k i j))) := by simp only [ent, ht]
  rw [hen] at he
  have hc : cv G (.inr (.inr (some (k, (i, j))))) = .ref (gz G + pos (k, (i, j))) := by show Value.ref (adr G _) = _; rw [adr_lt hk]
  have hE : ent G (setI h k i j a.toNatClampNeg b) (k, (i, j)) = .inl (gA G 3, (lenOf k, .inl (upd (h.1 k i j) a.toNatClampNeg b))) := by simp only [ent, ht, setI_row]
  show W p l e R s m args below meth c H locs (n - n0) (slN n - slN n0) Z (F0 m pc ls (.int b :: .int a :: cv G (.inr (.inr (some (k, (i, j))))) :: st.map (cv G)))
  rw [hc]
  refine va_zast hx hb hSC.1 a7 ws_D a8 (pos (k, (i, j))) 3 he rfl hin hd (fun H1 locs1 b1 b2 b3 => ?_)
  have hzz : vp_nar .boolean b = b := by rcases hz with rfl | rfl <;> rfl
  rw [hzz] at b1 b2
  rw [ws_up (h' := setI h k i j a.toNatClampNeg b) (by omega) h1 hE h2 (fun o' ho' => setI_off ho')] at b1
  exact kk a1 a2 a3 a4 (okS_t (okS_t (okS_t a5))) (okH_setI a6 (fun _ => hz)) H1 locs1 ls b1 b3 a9
theorem sw_aastore4 {k i j k2 i2 j2 : Nat} {a : Int32} (F : FC G p s m args meth c cc own isI mL n1) (hd : decode cc pc = .ok (.aastore, 1)) (ht : tagOf k = 4) (hc2 : clsOf k2 = 2) (hin : vp_in a (lenOf k)) (kk : KW G p l e R s m args below meth c n0 n1 Z mL n (pc + 1) (L) (st) (setR h k i j a.toNatClampNeg (some (k2, (i2, j2))))) : KW G p l e R s m args below meth c n0 n1 Z mL n (pc) (L) (.inr (.inr (some (k2, (i2, j2)))) :: .inl a :: .inr (.inr (some (k, (i, j)))) :: st) (h) := by
  intro a1 a2 a3 a4 a5 a6 H locs ls a7 a8 a9
  obtain ⟨hx, hb, hml, hown, hts, hSC, h80, hI⟩ := F
  have ho : okO n (k, (i, j)) := okS_h (okS_t (okS_t a5)) _ rfl
  have hk : k < 40 := kind_lt (Or.inl (by rw [ht]; decide))
  obtain ⟨h1, h2⟩ := okO_lt ho hk
  have he := ws_at (G := G) (h := h) h1 h2
  have hen : ent G h (k, (i, j)) = .inl (gA G 4, (lenOf k, .inr (.inr (.inr (.inr fun t => (h.2.2 k i j t).map (adr G)))))) := by simp only [ent, ht]
  rw [hen] at he
  have hc : cv G (.inr (.inr (some (k, (i, j))))) = .ref (gz G + pos (k, (i, j))) := by show Value.ref (adr G _) = _; rw [adr_lt hk]
  have ho2 : okO n (k2, (i2, j2)) := okS_h a5 _ rfl
  have hk2 : k2 < 40 := kind_lt (Or.inr (by rw [hc2]; decide))
  obtain ⟨h3, h4⟩ := okO_lt ho2 hk2
  have he2 := ws_at (G := G) (h := h) h3 h4
  have ht2 := nthD_cls k2 2 hc2 (by decide)
  have hen2 : ent G h (k2, (i2, j2)) = .inr (2, (List.range (nF 2)).map (fv G h (k2, (i2, j2)) 2)) := by simp only [ent, ht2, hc2]
  rw [hen2] at he2
  have hcv2 : cv G (.inr (.inr (some (k2, (i2, j2))))) = .ref (gz G + pos (k2, (i2, j2))) := by show Value.ref (adr G _) = _; rw [adr_lt hk2]
  have hE : ent G (setR h k i j a.toNatClampNeg (some (k2, (i2, j2)))) (k, (i, j)) = .inl (gA G 4, (lenOf k, .inr (.inr (.inr (.inr (va_up (fun t => (h.2.2 k i j t).map (adr G)) a.toNatClampNeg (some (gz G + pos (k2, (i2, j2))))))))))  := by
    simp only [ent, ht, setR_row]
    refine congrArg (fun f => (Sum.inl (gA G 4, (lenOf k, .inr (.inr (.inr (.inr f))))) : va_E)) ?_
    funext t
    unfold va_up
    by_cases q : t = a.toNatClampNeg
    · rw [if_pos q, if_pos q, Option.map_some, adr_lt hk2]
    · rw [if_neg q, if_neg q]
  show W p l e R s m args below meth c H locs (n - n0) (slN n - slN n0) Z (F0 m pc ls (cv G (.inr (.inr (some (k2, (i2, j2))))) :: .int a :: cv G (.inr (.inr (some (k, (i, j))))) :: st.map (cv G)))
  rw [hc, hcv2]
  refine va_astq (r := (cn 2, fT 2, nF 2)) hx hb hSC.1 a7 ws_D a8 (pos (k, (i, j))) 4 (pos (k2, (i2, j2))) 2 he rfl he2 (CL_at 2 (by decide)) hin hd (fun H1 locs1 b1 b2 b3 => ?_)
  rw [ws_up (h' := setR h k i j a.toNatClampNeg (some (k2, (i2, j2)))) (by omega) h1 hE h2 (fun o' ho' => setR_off ho')] at b1
  exact kk a1 a2 a3 a4 (okS_t (okS_t (okS_t a5))) (okH_setR a6 (okS_h a5)) H1 locs1 ls b1 b3 a9
theorem sw_aastore5 {k i j k2 i2 j2 : Nat} {a : Int32} (F : FC G p s m args meth c cc own isI mL n1) (hd : decode cc pc = .ok (.aastore, 1)) (ht : tagOf k = 5) (hc2 : clsOf k2 = 3) (hin : vp_in a (lenOf k)) (kk : KW G p l e R s m args below meth c n0 n1 Z mL n (pc + 1) (L) (st) (setR h k i j a.toNatClampNeg (some (k2, (i2, j2))))) : KW G p l e R s m args below meth c n0 n1 Z mL n (pc) (L) (.inr (.inr (some (k2, (i2, j2)))) :: .inl a :: .inr (.inr (some (k, (i, j)))) :: st) (h) := by
  intro a1 a2 a3 a4 a5 a6 H locs ls a7 a8 a9
  obtain ⟨hx, hb, hml, hown, hts, hSC, h80, hI⟩ := F
  have ho : okO n (k, (i, j)) := okS_h (okS_t (okS_t a5)) _ rfl
  have hk : k < 40 := kind_lt (Or.inl (by rw [ht]; decide))
  obtain ⟨h1, h2⟩ := okO_lt ho hk
  have he := ws_at (G := G) (h := h) h1 h2
  have hen : ent G h (k, (i, j)) = .inl (gA G 5, (lenOf k, .inr (.inr (.inr (.inr fun t => (h.2.2 k i j t).map (adr G)))))) := by simp only [ent, ht]
  rw [hen] at he
  have hc : cv G (.inr (.inr (some (k, (i, j))))) = .ref (gz G + pos (k, (i, j))) := by show Value.ref (adr G _) = _; rw [adr_lt hk]
  have ho2 : okO n (k2, (i2, j2)) := okS_h a5 _ rfl
  have hk2 : k2 < 40 := kind_lt (Or.inr (by rw [hc2]; decide))
  obtain ⟨h3, h4⟩ := okO_lt ho2 hk2
  have he2 := ws_at (G := G) (h := h) h3 h4
  have ht2 := nthD_cls k2 3 hc2 (by decide)
  have hen2 : ent G h (k2, (i2, j2)) = .inr (3, (List.range (nF 3)).map (fv G h (k2, (i2, j2)) 3)) := by simp only [ent, ht2, hc2]
  rw [hen2] at he2
  have hcv2 : cv G (.inr (.inr (some (k2, (i2, j2))))) = .ref (gz G + pos (k2, (i2, j2))) := by show Value.ref (adr G _) = _; rw [adr_lt hk2]
  have hE : ent G (setR h k i j a.toNatClampNeg (some (k2, (i2, j2)))) (k, (i, j)) = .inl (gA G 5, (lenOf k, .inr (.inr (.inr (.inr (va_up (fun t => (h.2.2 k i j t).map (adr G)) a.toNatClampNeg (some (gz G + pos (k2, (i2, j2))))))))))  := by
    simp only [ent, ht, setR_row]
    refine congrArg (fun f => (Sum.inl (gA G 5, (lenOf k, .inr (.inr (.inr (.inr f))))) : va_E)) ?_
    funext t
    unfold va_up
    by_cases q : t = a.toNatClampNeg
    · rw [if_pos q, if_pos q, Option.map_some, adr_lt hk2]
    · rw [if_neg q, if_neg q]
  show W p l e R s m args below meth c H locs (n - n0) (slN n - slN n0) Z (F0 m pc ls (cv G (.inr (.inr (some (k2, (i2, j2))))) :: .int a :: cv G (.inr (.inr (some (k, (i, j))))) :: st.map (cv G)))
  rw [hc, hcv2]
  refine va_astq (r := (cn 3, fT 3, nF 3)) hx hb hSC.1 a7 ws_D a8 (pos (k, (i, j))) 5 (pos (k2, (i2, j2))) 3 he rfl he2 (CL_at 3 (by decide)) hin hd (fun H1 locs1 b1 b2 b3 => ?_)
  rw [ws_up (h' := setR h k i j a.toNatClampNeg (some (k2, (i2, j2)))) (by omega) h1 hE h2 (fun o' ho' => setR_off ho')] at b1
  exact kk a1 a2 a3 a4 (okS_t (okS_t (okS_t a5))) (okH_setR a6 (okS_h a5)) H1 locs1 ls b1 b3 a9
theorem sw_aastore6 {k i j k2 i2 j2 : Nat} {a : Int32} (F : FC G p s m args meth c cc own isI mL n1) (hd : decode cc pc = .ok (.aastore, 1)) (ht : tagOf k = 6) (hc2 : clsOf k2 = 0) (hin : vp_in a (lenOf k)) (kk : KW G p l e R s m args below meth c n0 n1 Z mL n (pc + 1) (L) (st) (setR h k i j a.toNatClampNeg (some (k2, (i2, j2))))) : KW G p l e R s m args below meth c n0 n1 Z mL n (pc) (L) (.inr (.inr (some (k2, (i2, j2)))) :: .inl a :: .inr (.inr (some (k, (i, j)))) :: st) (h) := by
  intro a1 a2 a3 a4 a5 a6 H locs ls a7 a8 a9
  obtain ⟨hx, hb, hml, hown, hts, hSC, h80, hI⟩ := F
  have ho : okO n (k, (i, j)) := okS_h (okS_t (okS_t a5)) _ rfl
  have hk : k < 40 := kind_lt (Or.inl (by rw [ht]; decide))
  obtain ⟨h1, h2⟩ := okO_lt ho hk
  have he := ws_at (G := G) (h := h) h1 h2
  have hen : ent G h (k, (i, j)) = .inl (gA G 6, (lenOf k, .inr (.inr (.inr (.inr fun t => (h.2.2 k i j t).map (adr G)))))) := by simp only [ent, ht]
  rw [hen] at he
  have hc : cv G (.inr (.inr (some (k, (i, j))))) = .ref (gz G + pos (k, (i, j))) := by show Value.ref (adr G _) = _; rw [adr_lt hk]
  have ho2 : okO n (k2, (i2, j2)) := okS_h a5 _ rfl
  have hk2 : k2 < 40 := kind_lt (Or.inr (by rw [hc2]; decide))
  obtain ⟨h3, h4⟩ := okO_lt ho2 hk2
  have he2 := ws_at (G := G) (h := h) h3 h4
  have ht2 := nthD_cls k2 0 hc2 (by decide)
  have hen2 : ent G h (k2, (i2, j2)) = .inr (0, (List.range (nF 0)).map (fv G h (k2, (i2, j2)) 0)) := by simp only [ent, ht2, hc2]
  rw [hen2] at he2
  have hcv2 : cv G (.inr (.inr (some (k2, (i2, j2))))) = .ref (gz G + pos (k2, (i2, j2))) := by show Value.ref (adr G _) = _; rw [adr_lt hk2]
  have hE : ent G (setR h k i j a.toNatClampNeg (some (k2, (i2, j2)))) (k, (i, j)) = .inl (gA G 6, (lenOf k, .inr (.inr (.inr (.inr (va_up (fun t => (h.2.2 k i j t).map (adr G)) a.toNatClampNeg (some (gz G + pos (k2, (i2, j2))))))))))  := by
    simp only [ent, ht, setR_row]
    refine congrArg (fun f => (Sum.inl (gA G 6, (lenOf k, .inr (.inr (.inr (.inr f))))) : va_E)) ?_
    funext t
    unfold va_up
    by_cases q : t = a.toNatClampNeg
    · rw [if_pos q, if_pos q, Option.map_some, adr_lt hk2]
    · rw [if_neg q, if_neg q]
  show W p l e R s m args below meth c H locs (n - n0) (slN n - slN n0) Z (F0 m pc ls (cv G (.inr (.inr (some (k2, (i2, j2))))) :: .int a :: cv G (.inr (.inr (some (k, (i, j))))) :: st.map (cv G)))
  rw [hc, hcv2]
  refine va_astq (r := (cn 0, fT 0, nF 0)) hx hb hSC.1 a7 ws_D a8 (pos (k, (i, j))) 6 (pos (k2, (i2, j2))) 0 he rfl he2 (CL_at 0 (by decide)) hin hd (fun H1 locs1 b1 b2 b3 => ?_)
  rw [ws_up (h' := setR h k i j a.toNatClampNeg (some (k2, (i2, j2)))) (by omega) h1 hE h2 (fun o' ho' => setR_off ho')] at b1
  exact kk a1 a2 a3 a4 (okS_t (okS_t (okS_t a5))) (okH_setR a6 (okS_h a5)) H1 locs1 ls b1 b3 a9
theorem sw_getf0 {q x y k i j : Nat} (F : FC G p s m args meth c cc own isI mL n1) (hd : decode cc pc = .ok (.getfield q, 3)) (hcl : clsOf k = x) (hf : (own, (q, (x, y))) ∈ FT) (hz : fTag x y = 0) (hx8 : x < 8) (hyn : y < nF x) (kk : KW G p l e R s m args below meth c n0 n1 Z mL n (pc + 3) (L) (.inl (getI h k i j y) :: st) (h)) : KW G p l e R s m args below meth c n0 n1 Z mL n (pc) (L) (.inr (.inr (some (k, (i, j)))) :: st) (h) := by
  intro a1 a2 a3 a4 a5 a6 H locs ls a7 a8 a9
  obtain ⟨hx, hb, hml, hown, hts, hSC, h80, hI⟩ := F
  have ho : okO n (k, (i, j)) := okS_h a5 _ rfl
  have hk : k < 40 := kind_lt (Or.inr (by omega))
  obtain ⟨h1, h2⟩ := okO_lt ho hk
  have he := ws_at (G := G) (h := h) h1 h2
  have htg := nthD_cls k x hcl hx8
  have hen : ent G h (k, (i, j)) = .inr (x, (List.range (nF x)).map (fv G h (k, (i, j)) x)) := by simp only [ent, htg, hcl]
  rw [hen] at he
  have hc : cv G (.inr (.inr (some (k, (i, j))))) = .ref (gz G + pos (k, (i, j))) := by show Value.ref (adr G _) = _; rw [adr_lt hk]
  obtain ⟨f1, f2, f3, f4, f5, f6⟩ := fT_all hx8 hyn
  show W p l e R s m args below meth c H locs (n - n0) (slN n - slN n0) Z (F0 m pc ls (cv G (.inr (.inr (some (k, (i, j))))) :: st.map (cv G)))
  rw [hc]
  refine va_get (C := cn x) (T := fT x) (N := nF x) (ref := cn x) hx hb hts (WS_u hx8) hown hSC.1 a7 (pos (k, (i, j))) he (CL_at x hx8) y hyn (hts _ (WS_f hf)) (by rw [f1]; exact fun _ h => h) (v := fv G h (k, (i, j)) x y) (by rw [List.getElem?_map, List.getElem?_range hyn]; rfl) hd ?_
  rw [fv_0 (Or.inl hz)]
  exact kk a1 a2 a3 a4 (okS_c okV_i (okS_t a5)) a6 H locs ls a7 a8 a9
theorem sw_getf1 {q x y k i j : Nat} (F : FC G p s m args meth c cc own isI mL n1) (hd : decode cc pc = .ok (.getfield q, 3)) (hcl : clsOf k = x) (hf : (own, (q, (x, y))) ∈ FT) (hz : fTag x y = 1) (hx8 : x < 8) (hyn : y < nF x) (kk : KW G p l e R s m args below meth c n0 n1 Z mL n (pc + 3) (L) (.inr (.inl (getJ h k i j y)) :: st) (h)) : KW G p l e R s m args below meth c n0 n1 Z mL n (pc) (L) (.inr (.inr (some (k, (i, j)))) :: st) (h) := by
  intro a1 a2 a3 a4 a5 a6 H locs ls a7 a8 a9
  obtain ⟨hx, hb, hml, hown, hts, hSC, h80, hI⟩ := F
  have ho : okO n (k, (i, j)) := okS_h a5 _ rfl
  have hk : k < 40 := kind_lt (Or.inr (by omega))
  obtain ⟨h1, h2⟩ := okO_lt ho hk
  have he := ws_at (G := G) (h := h) h1 h2
  have htg := nthD_cls k x hcl hx8
  have hen : ent G h (k, (i, j)) = .inr (x, (List.range (nF x)).map (fv G h (k, (i, j)) x)) := by simp only [ent, htg, hcl]
  rw [hen] at he
  have hc : cv G (.inr (.inr (some (k, (i, j))))) = .ref (gz G + pos (k, (i, j))) := by show Value.ref (adr G _) = _; rw [adr_lt hk]
  obtain ⟨f1, f2, f3, f4, f5, f6⟩ := fT_all hx8 hyn
  show W p l e R s m args below meth c H locs (n - n0) (slN n - slN n0) Z (F0 m pc ls (cv G (.inr (.inr (some (k, (i, j))))) :: st.map (cv G)))
  rw [hc]
  refine va_get (C := cn x) (T := fT x) (N := nF x) (ref := cn x) hx hb hts (WS_u hx8) hown hSC.1 a7 (pos (k, (i, j))) he (CL_at x hx8) y hyn (hts _ (WS_f hf)) (by rw [f1]; exact fun _ h => h) (v := fv G h (k, (i, j)) x y) (by rw [List.getElem?_map, List.getElem?_range hyn]; rfl) hd ?_
  rw [fv_1 hz]
  exact kk a1 a2 a3 a4 (okS_c okV_l (okS_t a5)) a6 H locs ls a7 a8 a9
theorem sw_getf2 {q x y k i j : Nat} (F : FC G p s m args meth c cc own isI mL n1) (hd : decode cc pc = .ok (.getfield q, 3)) (hcl : clsOf k = x) (hf : (own, (q, (x, y))) ∈ FT) (hz : fTag x y = 2) (hx8 : x < 8) (hyn : y < nF x) (kk : KW G p l e R s m args below meth c n0 n1 Z mL n (pc + 3) (L) (.inr (.inr (getR h k i j y)) :: st) (h)) : KW G p l e R s m args below meth c n0 n1 Z mL n (pc) (L) (.inr (.inr (some (k, (i, j)))) :: st) (h) := by
  intro a1 a2 a3 a4 a5 a6 H locs ls a7 a8 a9
  obtain ⟨hx, hb, hml, hown, hts, hSC, h80, hI⟩ := F
  have ho : okO n (k, (i, j)) := okS_h a5 _ rfl
  have hk : k < 40 := kind_lt (Or.inr (by omega))
  obtain ⟨h1, h2⟩ := okO_lt ho hk
  have he := ws_at (G := G) (h := h) h1 h2
  have htg := nthD_cls k x hcl hx8
  have hen : ent G h (k, (i, j)) = .inr (x, (List.range (nF x)).map (fv G h (k, (i, j)) x)) := by simp only [ent, htg, hcl]
  rw [hen] at he
  have hc : cv G (.inr (.inr (some (k, (i, j))))) = .ref (gz G + pos (k, (i, j))) := by show Value.ref (adr G _) = _; rw [adr_lt hk]
  obtain ⟨f1, f2, f3, f4, f5, f6⟩ := fT_all hx8 hyn
  show W p l e R s m args below meth c H locs (n - n0) (slN n - slN n0) Z (F0 m pc ls (cv G (.inr (.inr (some (k, (i, j))))) :: st.map (cv G)))
  rw [hc]
  refine va_get (C := cn x) (T := fT x) (N := nF x) (ref := cn x) hx hb hts (WS_u hx8) hown hSC.1 a7 (pos (k, (i, j))) he (CL_at x hx8) y hyn (hts _ (WS_f hf)) (by rw [f1]; exact fun _ h => h) (v := fv G h (k, (i, j)) x y) (by rw [List.getElem?_map, List.getElem?_range hyn]; rfl) hd ?_
  rw [fv_2 hz]
  exact kk a1 a2 a3 a4 (okS_c (fun o e => (a6 k i j hk ho).1 y o (by rw [sN_f hcl hx8]; exact hyn) (Sum.inr.inj (Sum.inr.inj e))) (okS_t a5)) a6 H locs ls a7 a8 a9
theorem sw_getf3 {q x y k i j : Nat} (F : FC G p s m args meth c cc own isI mL n1) (hd : decode cc pc = .ok (.getfield q, 3)) (hcl : clsOf k = x) (hf : (own, (q, (x, y))) ∈ FT) (hz : fTag x y = 3) (hx8 : x < 8) (hyn : y < nF x) (kk : (getI h k i j y = 0 ∨ getI h k i j y = 1) → KW G p l e R s m args below meth c n0 n1 Z mL n (pc + 3) (L) (.inl (getI h k i j y) :: st) (h)) : KW G p l e R s m args below meth c n0 n1 Z mL n (pc) (L) (.inr (.inr (some (k, (i, j)))) :: st) (h) := by
  intro a1 a2 a3 a4 a5 a6 H locs ls a7 a8 a9
  obtain ⟨hx, hb, hml, hown, hts, hSC, h80, hI⟩ := F
  have ho : okO n (k, (i, j)) := okS_h a5 _ rfl
  have hk : k < 40 := kind_lt (Or.inr (by omega))
  obtain ⟨h1, h2⟩ := okO_lt ho hk
  have he := ws_at (G := G) (h := h) h1 h2
  have htg := nthD_cls k x hcl hx8
  have hen : ent G h (k, (i, j)) = .inr (x, (List.range (nF x)).map (fv G h (k, (i, j)) x)) := by simp only [ent, htg, hcl]
  rw [hen] at he
  have hc : cv G (.inr (.inr (some (k, (i, j))))) = .ref (gz G + pos (k, (i, j))) := by show Value.ref (adr G _) = _; rw [adr_lt hk]
  obtain ⟨f1, f2, f3, f4, f5, f6⟩ := fT_all hx8 hyn
  have kk := kk ((a6 k i j hk ho).2 y (Or.inl (by rw [hcl]; exact hz)))
  show W p l e R s m args below meth c H locs (n - n0) (slN n - slN n0) Z (F0 m pc ls (cv G (.inr (.inr (some (k, (i, j))))) :: st.map (cv G)))
  rw [hc]
  refine va_get (C := cn x) (T := fT x) (N := nF x) (ref := cn x) hx hb hts (WS_u hx8) hown hSC.1 a7 (pos (k, (i, j))) he (CL_at x hx8) y hyn (hts _ (WS_f hf)) (by rw [f1]; exact fun _ h => h) (v := fv G h (k, (i, j)) x y) (by rw [List.getElem?_map, List.getElem?_range hyn]; rfl) hd ?_
  rw [fv_0 (Or.inr hz)]
  exact kk a1 a2 a3 a4 (okS_c okV_i (okS_t a5)) a6 H locs ls a7 a8 a9
theorem sw_putf0 {q x y k i j : Nat} {b : Int32} (F : FC G p s m args meth c cc own isI mL n1) (hd : decode cc pc = .ok (.putfield q, 3)) (hcl : clsOf k = x) (hf : (own, (q, (x, y))) ∈ FT) (hz : fTag x y = 0) (hx8 : x < 8) (hyn : y < nF x) (hfin : nthD ((fFin[x]?).getD []) y 1 = 0 ∨ (isI = true ∧ own = x)) (kk : KW G p l e R s m args below meth c n0 n1 Z mL n (pc + 3) (L) (st) (setI h k i j y b)) : KW G p l e R s m args below meth c n0 n1 Z mL n (pc) (L) (.inl b :: .inr (.inr (some (k, (i, j)))) :: st) (h) := by
  intro a1 a2 a3 a4 a5 a6 H locs ls a7 a8 a9
  obtain ⟨hx, hb, hml, hown, hts, hSC, h80, hI⟩ := F
  have ho : okO n (k, (i, j)) := okS_h (okS_t a5) _ rfl
  have hk : k < 40 := kind_lt (Or.inr (by omega))
  obtain ⟨h1, h2⟩ := okO_lt ho hk
  have he := ws_at (G := G) (h := h) h1 h2
  have htg := nthD_cls k x hcl hx8
  have hen : ent G h (k, (i, j)) = .inr (x, (List.range (nF x)).map (fv G h (k, (i, j)) x)) := by simp only [ent, htg, hcl]
  rw [hen] at he
  have hc : cv G (.inr (.inr (some (k, (i, j))))) = .ref (gz G + pos (k, (i, j))) := by show Value.ref (adr G _) = _; rw [adr_lt hk]
  obtain ⟨f1, f2, f3, f4, f5, f6⟩ := fT_all hx8 hyn
  have hset : ((List.range (nF x)).map (fv G h (k, (i, j)) x)).set y (.int b) = (List.range (nF x)).map (fv G (setI h k i j y b) (k, (i, j)) x) := by
    refine fv_set ?_ (fun t ht => ?_)
    · rw [fv_0 (Or.inl hz)]
      show _ = _
      first
        | (show Value.int (if _ then _ else _) = _; rw [if_pos ⟨rfl, rfl, rfl, rfl⟩])
        | (show Value.long (if _ then _ else _) = _; rw [if_pos ⟨rfl, rfl, rfl, rfl⟩])
        | (show va_rf ((if _ then _ else _ : Option AO).map _) = _; rw [if_pos ⟨rfl, rfl, rfl, rfl⟩])
    · unfold fv
      have e1 : (setI h k i j y b).1 k i j t = h.1 k i j t := by
        first
          | rfl
          | (show (if _ then _ else _) = _; rw [if_neg (fun z => ht z.2.2.2)])
      have e2 : (setI h k i j y b).2.1 k i j t = h.2.1 k i j t := by
        first
          | rfl
          | (show (if _ then _ else _) = _; rw [if_neg (fun z => ht z.2.2.2)])
      have e3 : (setI h k i j y b).2.2 k i j t = h.2.2 k i j t := by
        first
          | rfl
          | (show (if _ then _ else _) = _; rw [if_neg (fun z => ht z.2.2.2)])
      rw [e1, e2, e3]
  have hE : ent G (setI h k i j y b) (k, (i, j)) = .inr (x, ((List.range (nF x)).map (fv G h (k, (i, j)) x)).set y (.int b)) := by
    rw [hset]
    simp only [ent, htg, hcl]
  have hfi := fFin_at x hx8 y hyn
  show W p l e R s m args below meth c H locs (n - n0) (slN n - slN n0) Z (F0 m pc ls (.int b :: cv G (.inr (.inr (some (k, (i, j))))) :: st.map (cv G)))
  rw [hc]
  have go : ∀ (H1 : Heap) (locs1 : List Loc), va_P (gD G) CL ((ws G n h).set (pos (k, (i, j))) (gz G + pos (k, (i, j)), .inr (x, ((List.range (nF x)).map (fv G h (k, (i, j)) x)).set y (.int b)))) H1 → va_D (vA G) ((ws G n h).set (pos (k, (i, j))) (gz G + pos (k, (i, j)), .inr (x, ((List.range (nF x)).map (fv G h (k, (i, j)) x)).set y (.int b)))) → va_S (vA G) s.heap H1 locs1 → W p l e R s m args below meth c H1 locs1 (n - n0) (slN n - slN n0) Z (F0 m (pc + 3) ls (st.map (cv G))) := by
    intro H1 locs1 b1 b2 b3
    rw [ws_up (h' := setI h k i j y b) (by omega) h1 hE h2 (fun o' ho' => setI_off ho')] at b1
    exact kk a1 a2 a3 a4 (okS_t (okS_t a5)) (okH_setI a6 (fun q => absurd q (isZ_f hcl hx8 (by rw [hz]; decide)))) H1 locs1 ls b1 b3 a9
  by_cases hfn : nthD ((fFin[x]?).getD []) y 1 = 0
  · rw [if_pos hfn] at hfi
    exact va_put (C := cn x) (T := fT x) (N := nF x) (ref := cn x) hx hb hts (WS_u hx8) (fY x) (fT_2 x hx8) (fT_nm x hx8) hown hSC.1 a7 ws_D a8 (pos (k, (i, j))) he (CL_at x hx8) y hyn (hts _ (WS_f hf)) (by rw [f1]; exact fun _ h => h) hfi f2 (by rw [f3 hz]; rfl) (by rw [f3 hz]; rfl) (by simpa using hyn) hd go
  · obtain ⟨hii, howx⟩ := hfin.resolve_left hfn
    rw [if_neg hfn] at hfi
    exact va_putF (own := cn own) (C := cn x) (T := fT x) (N := nF x) (ref := cn x) hx hb hts (WS_u hx8) (fY x) (fT_2 x hx8) (fT_nm x hx8) hown hSC.1 a7 ws_D a8 (pos (k, (i, j))) he (CL_at x hx8) y hyn (hts _ (WS_f hf)) (by rw [f1]; exact fun _ h => h) hfi (hI hii) (by rw [f1, howx]) f2 (by rw [f3 hz]; rfl) (by rw [f3 hz]; rfl) (by simpa using hyn) hd go
theorem sw_putf1 {q x y k i j : Nat} {b : Int64} (F : FC G p s m args meth c cc own isI mL n1) (hd : decode cc pc = .ok (.putfield q, 3)) (hcl : clsOf k = x) (hf : (own, (q, (x, y))) ∈ FT) (hz : fTag x y = 1) (hx8 : x < 8) (hyn : y < nF x) (hfin : nthD ((fFin[x]?).getD []) y 1 = 0 ∨ (isI = true ∧ own = x)) (kk : KW G p l e R s m args below meth c n0 n1 Z mL n (pc + 3) (L) (st) (setJ h k i j y b)) : KW G p l e R s m args below meth c n0 n1 Z mL n (pc) (L) (.inr (.inl b) :: .inr (.inr (some (k, (i, j)))) :: st) (h) := by
  intro a1 a2 a3 a4 a5 a6 H locs ls a7 a8 a9
  obtain ⟨hx, hb, hml, hown, hts, hSC, h80, hI⟩ := F
  have ho : okO n (k, (i, j)) := okS_h (okS_t a5) _ rfl
  have hk : k < 40 := kind_lt (Or.inr (by omega))
  obtain ⟨h1, h2⟩ := okO_lt ho hk
  have he := ws_at (G := G) (h := h) h1 h2
  have htg := nthD_cls k x hcl hx8
  have hen : ent G h (k, (i, j)) = .inr (x, (List.range (nF x)).map (fv G h (k, (i, j)) x)) := by simp only [ent, htg, hcl]
  rw [hen] at he
  have hc : cv G (.inr (.inr (some (k, (i, j))))) = .ref (gz G + pos (k, (i, j))) := by show Value.ref (adr G _) = _; rw [adr_lt hk]
  obtain ⟨f1, f2, f3, f4, f5, f6⟩ := fT_all hx8 hyn
  have hset : ((List.range (nF x)).map (fv G h (k, (i, j)) x)).set y (.long b) = (List.range (nF x)).map (fv G (setJ h k i j y b) (k, (i, j)) x) := by
    refine fv_set ?_ (fun t ht => ?_)
    · rw [fv_1 hz]
      show _ = _
      first
        | (show Value.int (if _ then _ else _) = _; rw [if_pos ⟨rfl, rfl, rfl, rfl⟩])
        | (show Value.long (if _ then _ else _) = _; rw [if_pos ⟨rfl, rfl, rfl, rfl⟩])
        | (show va_rf ((if _ then _ else _ : Option AO).map _) = _; rw [if_pos ⟨rfl, rfl, rfl, rfl⟩])
    · unfold fv
      have e1 : (setJ h k i j y b).1 k i j t = h.1 k i j t := by
        first
          | rfl
          | (show (if _ then _ else _) = _; rw [if_neg (fun z => ht z.2.2.2)])
      have e2 : (setJ h k i j y b).2.1 k i j t = h.2.1 k i j t := by
        first
          | rfl
          | (show (if _ then _ else _) = _; rw [if_neg (fun z => ht z.2.2.2)])
      have e3 : (setJ h k i j y b).2.2 k i j t = h.2.2 k i j t := by
        first
          | rfl
          | (show (if _ then _ else _) = _; rw [if_neg (fun z => ht z.2.2.2)])
      rw [e1, e2, e3]
  have hE : ent G (setJ h k i j y b) (k, (i, j)) = .inr (x, ((List.range (nF x)).map (fv G h (k, (i, j)) x)).set y (.long b)) := by
    rw [hset]
    simp only [ent, htg, hcl]
  have hfi := fFin_at x hx8 y hyn
  show W p l e R s m args below meth c H locs (n - n0) (slN n - slN n0) Z (F0 m pc ls (.long b :: cv G (.inr (.inr (some (k, (i, j))))) :: st.map (cv G)))
  rw [hc]
  have go : ∀ (H1 : Heap) (locs1 : List Loc), va_P (gD G) CL ((ws G n h).set (pos (k, (i, j))) (gz G + pos (k, (i, j)), .inr (x, ((List.range (nF x)).map (fv G h (k, (i, j)) x)).set y (.long b)))) H1 → va_D (vA G) ((ws G n h).set (pos (k, (i, j))) (gz G + pos (k, (i, j)), .inr (x, ((List.range (nF x)).map (fv G h (k, (i, j)) x)).set y (.long b)))) → va_S (vA G) s.heap H1 locs1 → W p l e R s m args below meth c H1 locs1 (n - n0) (slN n - slN n0) Z (F0 m (pc + 3) ls (st.map (cv G))) := by
    intro H1 locs1 b1 b2 b3
    rw [ws_up (h' := setJ h k i j y b) (by omega) h1 hE h2 (fun o' ho' => setJ_off ho')] at b1
    exact kk a1 a2 a3 a4 (okS_t (okS_t a5)) (okH_setJ a6) H1 locs1 ls b1 b3 a9
  by_cases hfn : nthD ((fFin[x]?).getD []) y 1 = 0
  · rw [if_pos hfn] at hfi
    exact va_put (C := cn x) (T := fT x) (N := nF x) (ref := cn x) hx hb hts (WS_u hx8) (fY x) (fT_2 x hx8) (fT_nm x hx8) hown hSC.1 a7 ws_D a8 (pos (k, (i, j))) he (CL_at x hx8) y hyn (hts _ (WS_f hf)) (by rw [f1]; exact fun _ h => h) hfi f2 (by rw [f4 hz]; rfl) (by rw [f4 hz]; rfl) (by simpa using hyn) hd go
  · obtain ⟨hii, howx⟩ := hfin.resolve_left hfn
    rw [if_neg hfn] at hfi
    exact va_putF (own := cn own) (C := cn x) (T := fT x) (N := nF x) (ref := cn x) hx hb hts (WS_u hx8) (fY x) (fT_2 x hx8) (fT_nm x hx8) hown hSC.1 a7 ws_D a8 (pos (k, (i, j))) he (CL_at x hx8) y hyn (hts _ (WS_f hf)) (by rw [f1]; exact fun _ h => h) hfi (hI hii) (by rw [f1, howx]) f2 (by rw [f4 hz]; rfl) (by rw [f4 hz]; rfl) (by simpa using hyn) hd go
theorem sw_putf2 {q x y k i j : Nat} {b : Option AO} (F : FC G p s m args meth c cc own isI mL n1) (hd : decode cc pc = .ok (.putfield q, 3)) (hcl : clsOf k = x) (hf : (own, (q, (x, y))) ∈ FT) (hz : fTag x y = 2) (hx8 : x < 8) (hyn : y < nF x) (hfin : nthD ((fFin[x]?).getD []) y 1 = 0 ∨ (isI = true ∧ own = x)) (kk : KW G p l e R s m args below meth c n0 n1 Z mL n (pc + 3) (L) (st) (setR h k i j y b)) : KW G p l e R s m args below meth c n0 n1 Z mL n (pc) (L) (.inr (.inr b) :: .inr (.inr (some (k, (i, j)))) :: st) (h) := by
  intro a1 a2 a3 a4 a5 a6 H locs ls a7 a8 a9
  obtain ⟨hx, hb, hml, hown, hts, hSC, h80, hI⟩ := F
  have ho : okO n (k, (i, j)) := okS_h (okS_t a5) _ rfl
  have hk : k < 40 := kind_lt (Or.inr (by omega))
  obtain ⟨h1, h2⟩ := okO_lt ho hk
  have he := ws_at (G := G) (h := h) h1 h2
  have htg := nthD_cls k x hcl hx8
  have hen : ent G h (k, (i, j)) = .inr (x, (List.range (nF x)).map (fv G h (k, (i, j)) x)) := by simp only [ent, htg, hcl]
  rw [hen] at he
  have hc : cv G (.inr (.inr (some (k, (i, j))))) = .ref (gz G + pos (k, (i, j))) := by show Value.ref (adr G _) = _; rw [adr_lt hk]
  obtain ⟨f1, f2, f3, f4, f5, f6⟩ := fT_all hx8 hyn
  have hnf : narrow (fY x y) (va_rf (b.map (adr G))) = va_rf (b.map (adr G)) ∧ fits (fY x y) (va_rf (b.map (adr G))) = true := by
    have h6 := f6 hz
    cases hty : fY x y <;> rw [hty] at h6 <;> first | exact absurd h6 (by decide) | (cases b <;> exact ⟨rfl, rfl⟩)
  have hset : ((List.range (nF x)).map (fv G h (k, (i, j)) x)).set y (va_rf (b.map (adr G))) = (List.range (nF x)).map (fv G (setR h k i j y b) (k, (i, j)) x) := by
    refine fv_set ?_ (fun t ht => ?_)
    · rw [fv_2 hz]
      show _ = _
      first
        | (show Value.int (if _ then _ else _) = _; rw [if_pos ⟨rfl, rfl, rfl, rfl⟩])
        | (show Value.long (if _ then _ else _) = _; rw [if_pos ⟨rfl, rfl, rfl, rfl⟩])
        | (show va_rf ((if _ then _ else _ : Option AO).map _) = _; rw [if_pos ⟨rfl, rfl, rfl, rfl⟩])
    · unfold fv
      have e1 : (setR h k i j y b).1 k i j t = h.1 k i j t := by
        first
          | rfl
          | (show (if _ then _ else _) = _; rw [if_neg (fun z => ht z.2.2.2)])
      have e2 : (setR h k i j y b).2.1 k i j t = h.2.1 k i j t := by
        first
          | rfl
          | (show (if _ then _ else _) = _; rw [if_neg (fun z => ht z.2.2.2)])
      have e3 : (setR h k i j y b).2.2 k i j t = h.2.2 k i j t := by
        first
          | rfl
          | (show (if _ then _ else _) = _; rw [if_neg (fun z => ht z.2.2.2)])
      rw [e1, e2, e3]
  have hE : ent G (setR h k i j y b) (k, (i, j)) = .inr (x, ((List.range (nF x)).map (fv G h (k, (i, j)) x)).set y (va_rf (b.map (adr G)))) := by
    rw [hset]
    simp only [ent, htg, hcl]
  have hfi := fFin_at x hx8 y hyn
  show W p l e R s m args below meth c H locs (n - n0) (slN n - slN n0) Z (F0 m pc ls (va_rf (b.map (adr G)) :: cv G (.inr (.inr (some (k, (i, j))))) :: st.map (cv G)))
  rw [hc]
  have go : ∀ (H1 : Heap) (locs1 : List Loc), va_P (gD G) CL ((ws G n h).set (pos (k, (i, j))) (gz G + pos (k, (i, j)), .inr (x, ((List.range (nF x)).map (fv G h (k, (i, j)) x)).set y (va_rf (b.map (adr G)))))) H1 → va_D (vA G) ((ws G n h).set (pos (k, (i, j))) (gz G + pos (k, (i, j)), .inr (x, ((List.range (nF x)).map (fv G h (k, (i, j)) x)).set y (va_rf (b.map (adr G)))))) → va_S (vA G) s.heap H1 locs1 → W p l e R s m args below meth c H1 locs1 (n - n0) (slN n - slN n0) Z (F0 m (pc + 3) ls (st.map (cv G))) := by
    intro H1 locs1 b1 b2 b3
    rw [ws_up (h' := setR h k i j y b) (by omega) h1 hE h2 (fun o' ho' => setR_off ho')] at b1
    exact kk a1 a2 a3 a4 (okS_t (okS_t a5)) (okH_setR a6 (okS_h a5)) H1 locs1 ls b1 b3 a9
  by_cases hfn : nthD ((fFin[x]?).getD []) y 1 = 0
  · rw [if_pos hfn] at hfi
    exact va_put (C := cn x) (T := fT x) (N := nF x) (ref := cn x) hx hb hts (WS_u hx8) (fY x) (fT_2 x hx8) (fT_nm x hx8) hown hSC.1 a7 ws_D a8 (pos (k, (i, j))) he (CL_at x hx8) y hyn (hts _ (WS_f hf)) (by rw [f1]; exact fun _ h => h) hfi f2 hnf.1 hnf.2 (by simpa using hyn) hd go
  · obtain ⟨hii, howx⟩ := hfin.resolve_left hfn
    rw [if_neg hfn] at hfi
    exact va_putF (own := cn own) (C := cn x) (T := fT x) (N := nF x) (ref := cn x) hx hb hts (WS_u hx8) (fY x) (fT_2 x hx8) (fT_nm x hx8) hown hSC.1 a7 ws_D a8 (pos (k, (i, j))) he (CL_at x hx8) y hyn (hts _ (WS_f hf)) (by rw [f1]; exact fun _ h => h) hfi (hI hii) (by rw [f1, howx]) f2 hnf.1 hnf.2 (by simpa using hyn) hd go
theorem sw_putf3 {q x y k i j : Nat} {b : Int32} (F : FC G p s m args meth c cc own isI mL n1) (hd : decode cc pc = .ok (.putfield q, 3)) (hcl : clsOf k = x) (hf : (own, (q, (x, y))) ∈ FT) (hz : fTag x y = 3) (hx8 : x < 8) (hyn : y < nF x) (hfin : nthD ((fFin[x]?).getD []) y 1 = 0 ∨ (isI = true ∧ own = x)) (hb01 : b = 0 ∨ b = 1) (kk : KW G p l e R s m args below meth c n0 n1 Z mL n (pc + 3) (L) (st) (setI h k i j y b)) : KW G p l e R s m args below meth c n0 n1 Z mL n (pc) (L) (.inl b :: .inr (.inr (some (k, (i, j)))) :: st) (h) := by
  intro a1 a2 a3 a4 a5 a6 H locs ls a7 a8 a9
  obtain ⟨hx, hb, hml, hown, hts, hSC, h80, hI⟩ := F
  have ho : okO n (k, (i, j)) := okS_h (okS_t a5) _ rfl
  have hk : k < 40 := kind_lt (Or.inr (by omega))
  obtain ⟨h1, h2⟩ := okO_lt ho hk
  have he := ws_at (G := G) (h := h) h1 h2
  have htg := nthD_cls k x hcl hx8
  have hen : ent G h (k, (i, j)) = .inr (x, (List.range (nF x)).map (fv G h (k, (i, j)) x)) := by simp only [ent, htg, hcl]
  rw [hen] at he
  have hc : cv G (.inr (.inr (some (k, (i, j))))) = .ref (gz G + pos (k, (i, j))) := by show Value.ref (adr G _) = _; rw [adr_lt hk]
  obtain ⟨f1, f2, f3, f4, f5, f6⟩ := fT_all hx8 hyn
  have hset : ((List.range (nF x)).map (fv G h (k, (i, j)) x)).set y (.int b) = (List.range (nF x)).map (fv G (setI h k i j y b) (k, (i, j)) x) := by
    refine fv_set ?_ (fun t ht => ?_)
    · rw [fv_0 (Or.inr hz)]
      show _ = _
      first
        | (show Value.int (if _ then _ else _) = _; rw [if_pos ⟨rfl, rfl, rfl, rfl⟩])
        | (show Value.long (if _ then _ else _) = _; rw [if_pos ⟨rfl, rfl, rfl, rfl⟩])
        | (show va_rf ((if _ then _ else _ : Option AO).map _) = _; rw [if_pos ⟨rfl, rfl, rfl, rfl⟩])
    · unfold fv
      have e1 : (setI h k i j y b).1 k i j t = h.1 k i j t := by
        first
          | rfl
          | (show (if _ then _ else _) = _; rw [if_neg (fun z => ht z.2.2.2)])
      have e2 : (setI h k i j y b).2.1 k i j t = h.2.1 k i j t := by
        first
          | rfl
          | (show (if _ then _ else _) = _; rw [if_neg (fun z => ht z.2.2.2)])
      have e3 : (setI h k i j y b).2.2 k i j t = h.2.2 k i j t := by
        first
          | rfl
          | (show (if _ then _ else _) = _; rw [if_neg (fun z => ht z.2.2.2)])
      rw [e1, e2, e3]
  have hE : ent G (setI h k i j y b) (k, (i, j)) = .inr (x, ((List.range (nF x)).map (fv G h (k, (i, j)) x)).set y (.int b)) := by
    rw [hset]
    simp only [ent, htg, hcl]
  have hfi := fFin_at x hx8 y hyn
  show W p l e R s m args below meth c H locs (n - n0) (slN n - slN n0) Z (F0 m pc ls (.int b :: cv G (.inr (.inr (some (k, (i, j))))) :: st.map (cv G)))
  rw [hc]
  have go : ∀ (H1 : Heap) (locs1 : List Loc), va_P (gD G) CL ((ws G n h).set (pos (k, (i, j))) (gz G + pos (k, (i, j)), .inr (x, ((List.range (nF x)).map (fv G h (k, (i, j)) x)).set y (.int b)))) H1 → va_D (vA G) ((ws G n h).set (pos (k, (i, j))) (gz G + pos (k, (i, j)), .inr (x, ((List.range (nF x)).map (fv G h (k, (i, j)) x)).set y (.int b)))) → va_S (vA G) s.heap H1 locs1 → W p l e R s m args below meth c H1 locs1 (n - n0) (slN n - slN n0) Z (F0 m (pc + 3) ls (st.map (cv G))) := by
    intro H1 locs1 b1 b2 b3
    rw [ws_up (h' := setI h k i j y b) (by omega) h1 hE h2 (fun o' ho' => setI_off ho')] at b1
    exact kk a1 a2 a3 a4 (okS_t (okS_t a5)) (okH_setI a6 (fun _ => hb01)) H1 locs1 ls b1 b3 a9
  by_cases hfn : nthD ((fFin[x]?).getD []) y 1 = 0
  · rw [if_pos hfn] at hfi
    exact va_put (C := cn x) (T := fT x) (N := nF x) (ref := cn x) hx hb hts (WS_u hx8) (fY x) (fT_2 x hx8) (fT_nm x hx8) hown hSC.1 a7 ws_D a8 (pos (k, (i, j))) he (CL_at x hx8) y hyn (hts _ (WS_f hf)) (by rw [f1]; exact fun _ h => h) hfi f2 (by rw [f5 hz]; rcases hb01 with rfl | rfl <;> rfl) (by rw [f5 hz]; rcases hb01 with rfl | rfl <;> rfl) (by simpa using hyn) hd go
  · obtain ⟨hii, howx⟩ := hfin.resolve_left hfn
    rw [if_neg hfn] at hfi
    exact va_putF (own := cn own) (C := cn x) (T := fT x) (N := nF x) (ref := cn x) hx hb hts (WS_u hx8) (fY x) (fT_2 x hx8) (fT_nm x hx8) hown hSC.1 a7 ws_D a8 (pos (k, (i, j))) he (CL_at x hx8) y hyn (hts _ (WS_f hf)) (by rw [f1]; exact fun _ h => h) hfi (hI hii) (by rw [f1, howx]) f2 (by rw [f5 hz]; rcases hb01 with rfl | rfl <;> rfl) (by rw [f5 hz]; rcases hb01 with rfl | rfl <;> rfl) (by simpa using hyn) hd go
theorem str_i {n k i j : Nat} (ho : okO n (k, (i, j))) (hk : clsOf k = 9) : k = 41 ∧ i < 14 := by
  have h1 : ∀ k, k < 40 → clsOf k ≠ 9 := by decide +kernel
  rcases ho with h | h | h | h | h | h
  · exact absurd hk (h1 k h.1)
  · have := h.1; dsimp only at this; subst this; exact absurd hk (by decide)
  · exact ⟨h.1, h.2.1⟩
  · have := h.1; dsimp only at this; subst this; exact absurd hk (by decide)
  · have := h.1; dsimp only at this; subst this; exact absurd hk (by decide)
  · have := h.1; dsimp only at this; subst this; exact absurd hk (by decide)
theorem sw_getS4 {k i j : Nat} (F : FC G p s m args meth c cc own isI mL n1) (hd : decode cc pc = .ok (.getfield 9, 3)) (hcl : clsOf k = 9) (ho9 : own = 9) (kk : KW G p l e R s m args below meth c n0 n1 Z mL n (pc + 3) (L) (.inr (.inr (some (42, (i, 0)))) :: st) (h)) : KW G p l e R s m args below meth c n0 n1 Z mL n (pc) (L) (.inr (.inr (some (k, (i, j)))) :: st) (h) := by
  intro a1 a2 a3 a4 a5 a6 H locs ls a7 a8 a9
  obtain ⟨hx, hb, hml, hown, hts, hSC, h80, hI⟩ := F
  obtain ⟨rfl, hi⟩ := str_i (okS_h a5 _ rfl) hcl
  obtain ⟨-, -, hV, -⟩ := hSC.2.2.2.2.2.2.1.1 i hi
  subst ho9
  refine vk_getf (own := "java/lang/String") (ref := "java/lang/String") hx hb hV a8 hown (hts _ (WS_j (by decide +kernel))) (fun _ h => h) hd ?_
  exact kk a1 a2 a3 a4 (okS_c (okV_r (Or.inr (Or.inr (Or.inr (Or.inl ⟨rfl, hi, rfl⟩))))) (okS_t a5)) a6 H locs ls a7 a8 a9
theorem sw_getS5 {k i j : Nat} (F : FC G p s m args meth c cc own isI mL n1) (hd : decode cc pc = .ok (.getfield 15, 3)) (hcl : clsOf k = 9) (ho9 : own = 9) (kk : KW G p l e R s m args below meth c n0 n1 Z mL n (pc + 3) (L) (.inl 0 :: st) (h)) : KW G p l e R s m args below meth c n0 n1 Z mL n (pc) (L) (.inr (.inr (some (k, (i, j)))) :: st) (h) := by
  intro a1 a2 a3 a4 a5 a6 H locs ls a7 a8 a9
  obtain ⟨hx, hb, hml, hown, hts, hSC, h80, hI⟩ := F
  obtain ⟨rfl, hi⟩ := str_i (okS_h a5 _ rfl) hcl
  obtain ⟨-, hV, -, -⟩ := hSC.2.2.2.2.2.2.1.1 i hi
  subst ho9
  refine vk_getf (own := "java/lang/String") (ref := "java/lang/String") hx hb hV a8 hown (hts _ (WS_j (by decide +kernel))) (fun _ h => h) hd ?_
  exact kk a1 a2 a3 a4 (okS_c okV_i (okS_t a5)) a6 H locs ls a7 a8 a9
theorem sw_gets0 (F : FC G p s m args meth c cc own isI mL n1) (hd : decode cc pc = .ok (.getstatic 296, 3)) (ho9 : own = 6) (kk : KW G p l e R s m args below meth c n0 n1 Z mL n (pc + 3) (L) (.inr (.inr (some (40, (0, 0)))) :: st) (h)) : KW G p l e R s m args below meth c n0 n1 Z mL n (pc) (L) (st) (h) := by
  intro a1 a2 a3 a4 a5 a6 H locs ls a7 a8 a9
  obtain ⟨hx, hb, hml, hown, hts, hSC, h80, hI⟩ := F
  obtain ⟨-, -, hV, -⟩ := hSC
  subst ho9
  refine va_gets (own := "ListenerIsTired") (ref := "ListenerIsTired") hx hb hV a8 hown (hts _ (WS_j (by decide +kernel))) (fun _ h => h) hd ?_
  exact kk a1 a2 a3 a4 (okS_c (okV_r (Or.inr (Or.inl ⟨rfl, rfl⟩))) a5) a6 H locs ls a7 a8 a9
theorem sw_gets1 (F : FC G p s m args meth c cc own isI mL n1) (hd : decode cc pc = .ok (.getstatic 38, 3)) (ho9 : own = 9) (kk : KW G p l e R s m args below meth c n0 n1 Z mL n (pc + 3) (L) (.inl 1 :: st) (h)) : KW G p l e R s m args below meth c n0 n1 Z mL n (pc) (L) (st) (h) := by
  intro a1 a2 a3 a4 a5 a6 H locs ls a7 a8 a9
  obtain ⟨hx, hb, hml, hown, hts, hSC, h80, hI⟩ := F
  obtain ⟨-, -, -, -, hV, -⟩ := hSC
  subst ho9
  refine va_gets (own := "java/lang/String") (ref := "java/lang/String") hx hb hV a8 hown (hts _ (WS_j (by decide +kernel))) (fun _ h => h) hd ?_
  exact kk a1 a2 a3 a4 (okS_c okV_i a5) a6 H locs ls a7 a8 a9
theorem sw_gets2 (F : FC G p s m args meth c cc own isI mL n1) (hd : decode cc pc = .ok (.getstatic 1053, 3)) (ho9 : own = 9) (kk : KW G p l e R s m args below meth c n0 n1 Z mL n (pc + 3) (L) (.inr (.inr (gfo G)) :: st) (h)) : KW G p l e R s m args below meth c n0 n1 Z mL n (pc) (L) (st) (h) := by
  intro a1 a2 a3 a4 a5 a6 H locs ls a7 a8 a9
  obtain ⟨hx, hb, hml, hown, hts, hSC, h80, hI⟩ := F
  obtain ⟨-, -, -, -, -, hV, -⟩ := hSC
  subst ho9
  refine va_gets (own := "java/lang/String") (ref := "jdk/internal/util/Preconditions") hx hb hV a8 hown (hts _ (WS_j (by decide +kernel))) (fun _ h => h) hd ?_
  have hv : okV n (.inr (.inr (gfo G))) ∧ cv G (.inr (.inr (gfo G))) = va_rf (gF G) := by
    show okV n (.inr (.inr ((gF G).map _))) ∧ va_rf (((gF G).map _).map (adr G)) = va_rf (gF G)
    cases hf : gF G with
    | none => exact ⟨okV_n, rfl⟩
    | some f => exact ⟨okV_r (Or.inr (Or.inr (Or.inr (Or.inr (Or.inl ⟨rfl, rfl⟩))))), by show Value.ref (adr G _) = Value.ref f; simp [adr, hf]⟩
  rw [← hv.2]
  exact kk a1 a2 a3 a4 (okS_c hv.1 a5) a6 H locs ls a7 a8 a9
end SW
