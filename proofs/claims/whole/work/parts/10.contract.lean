/-! A METHOD BY ITS TABLE ALONE: K is where the machine comes to its end; all that one may use of it -/
section OF
variable {G : GT} {p : Program} {l : Launch} {e : Env} {R : Room} {s : State} {m : MethodId} {args : Array Value} {below : List Frame} {meth : Method} {c : Code} {n0 n1 : Nat} {Z : State → Prop} {mL own : Nat} {isI : Bool} {cc : ByteArray} {n pc : Nat} {L : List (Option AV)} {st : List AV} {h : AH}

theorem wp_sound {rt d : Nat} {Q : Option AV → AH → Prop} {tb : Nat → IE} {stops : List (Nat × List Bool)} (F : FC G p s m args meth c cc own isI mL n1) (rc : RC G p l e R s m args below meth c n0 n1 Z cc rt Q) (hck : ∀ pc, chk own isI mL cc pc (tb pc) = true) (hs0 : n0 < 80 → s.heap.size ≤ gz G + n0) (hR : d ≤ R.frames ∧ 64 * d ≤ R.locals ∧ n1 - n0 ≤ R.cells ∧ slN n1 - slN n0 ≤ R.slots) : ∀ (f pc : Nat) (L : List (Option AV)) (st : List AV) (h : AH), wp (gfo G) (gL G) (gxs G) rt tb (CPd G l d n) (fun r h => n = n1 ∧ Q r h) (fun pc L st h => KW G p l e R s m args below meth c n0 n1 Z mL n (pc) (L) (st) (h)) stops f pc L st h → KW G p l e R s m args below meth c n0 n1 Z mL n (pc) (L) (st) (h)
  | 0, pc, L, st, h, hw => hw
  | f + 1, pc, L, st, h, hw => fun a1 a2 => stepW_sound F a2 rc (hck pc) (fun q => q) (fun pc' L' st' h' q => by
      have q : (match fnd stops pc' with
        | some m => _
        | none => _) := q
      cases hf : fnd stops pc' with
      | some ms => rw [hf] at q; exact KW.mask q
      | none => rw [hf] at q; exact wp_sound F rc hck hs0 hR f pc' L' st' h' q) hs0 hR hw a1 a2

/-- what one may use of the end of a method's frame -/
def Cl (G : GT) (l : Launch) (d : Nat) (own : Nat) (rt : Nat) (tb : Nat → IE) (n1 : Nat) (Q : Option AV → AH → Prop) (K : Nat → Nat → List (Option AV) → List AV → AH → Prop) : Prop :=
  (∀ (stops : List (Nat × List Bool)) (f n pc : Nat) (L : List (Option AV)) (st : List AV) (h : AH), wp (gfo G) (gL G) (gxs G) rt tb (CPd G l d n) (fun r h => n = n1 ∧ Q r h) (K n) stops f pc L st h → K n pc L st h) ∧
  (∀ (n n' pc nx q mi d' k i j : Nat) (L : List (Option AV)) (st as : List AV) (h : AH) (Q' : Option AV → AH → Prop), tb pc = ie (.invokespecial q) nx → nx = pc + 3 → mi < 209 → ((2, (own, (q, mi))) ∈ CS ∨ (4, (own, (q, mi))) ∈ CS) → (meN (mt mi)).name = "<init>" ∧ meR (mt mi) = none → nthD naL mi 99 = as.length → d' < d → n ≤ n' ∧ n' ≤ n1 → catR st ≤ 8 → Ev G l d' (mt mi) n n' (.inr (.inr (some (k, (i, j)))) :: as) h Q' → (∀ r h', Q' r h' → K n' nx L (pushR r st) h') → K n pc L (as.reverse ++ .inr (.inr (some (k, (i, j)))) :: st) h) ∧
  (∀ (n pc nx q : Nat) (a : AO) (L : List (Option AV)) (st : List AV) (h : AH), tb pc = ie (.invokespecial q) nx → nx = pc + 3 → (own, q) ∈ OI → 1 ≤ d → catR st ≤ 8 → K n nx L st h → K n pc L (.inr (.inr (some a)) :: st) h) ∧
  (∀ (n pc nx q ci : Nat) (L : List (Option AV)) (st : List AV) (h : AH), tb pc = ie (.new q) nx → nx = pc + 3 → (own, (q, ci)) ∈ CLk → clsOf (idOf n).1 = ci → ci < 8 → n + 1 ≤ n1 → K (n + 1) nx L (.inr (.inr (some (idOf n))) :: st) (clr h (idOf n)) → K n pc L st h) ∧
  (∀ (n pc nx : Nat) (ty : ArrayType) (a : Int32) (L : List (Option AV)) (st : List AV) (h : AH), tb pc = ie (.newarray ty) nx → nx = pc + 2 → (ty = .int ∧ tagOf (idOf n).1 = 0 ∨ ty = .long ∧ tagOf (idOf n).1 = 1 ∨ ty = .boolean ∧ tagOf (idOf n).1 = 3) → a = Int32.ofNat (lenOf (idOf n).1) → lenOf (idOf n).1 ≤ 2000 → n + 1 ≤ n1 → K (n + 1) nx L (.inr (.inr (some (idOf n))) :: st) (clr h (idOf n)) → K n pc L (.inl a :: st) h) ∧
  (∀ (n pc nx q : Nat) (a : Int32) (L : List (Option AV)) (st : List AV) (h : AH), tb pc = ie (.anewarray q) nx → nx = pc + 3 → ((own, (q, 2)) ∈ CLk ∧ tagOf (idOf n).1 = 4 ∨ (own, (q, 3)) ∈ CLk ∧ tagOf (idOf n).1 = 5 ∨ (own, (q, 0)) ∈ CLk ∧ tagOf (idOf n).1 = 6) → a = Int32.ofNat (lenOf (idOf n).1) → lenOf (idOf n).1 ≤ 2000 → n + 1 ≤ n1 → K (n + 1) nx L (.inr (.inr (some (idOf n))) :: st) (clr h (idOf n)) → K n pc L (.inl a :: st) h) ∧
  (∀ (n pc nx k i j k2 i2 j2 : Nat) (sp dp nn : Int32) (L : List (Option AV)) (st : List AV) (h : AH), tb pc = ieF (.invokestatic 287) nx 0 0 9 → nx = pc + 3 → own = 6 → tagOf k = 0 → tagOf k2 = 0 → ¬ sp < 0 → ¬ dp < 0 → ¬ nn < 0 → sp.toNatClampNeg + nn.toNatClampNeg ≤ lenOf k → dp.toNatClampNeg + nn.toNatClampNeg ≤ lenOf k2 → 1 ≤ d → catR st ≤ 8 → K n nx L st (cpyI h k i j k2 i2 j2 sp.toNatClampNeg dp.toNatClampNeg nn.toNatClampNeg) → K n pc L (.inl nn :: .inl dp :: .inr (.inr (some (k2, (i2, j2)))) :: .inl sp :: .inr (.inr (some (k, (i, j)))) :: st) h) ∧
  (∀ (n pc : Nat) (L : List (Option AV)) (st : List AV) (h h' : AH), eqH n h h' → K n pc L st h' → K n pc L st h)
theorem dec_of {own mL pc : Nat} {isI : Bool} {cc : ByteArray} {ee : IE} (h : chk own isI mL cc pc ee = true) (h0 : Nat.beq ee.2.1 0 = false) : ∃ len, decode cc pc = .ok (ee.1, len) ∧ ee.2.1 = pc + len := by
  obtain ⟨ins, nx, x, y, z, v, w, ts⟩ := ee
  have hck1 : (Nat.beq nx 0 || (match decode cc pc with
    | .ok (i, n) => decide (i = ins) && (Nat.beq nx (pc + n) && chkI own isI mL pc n ins x y z v w ts)
    | .error _ => false)) = true := h
  have h0 : Nat.beq nx 0 = false := h0
  rw [h0, Bool.false_or] at hck1
  cases hdd : decode cc pc with
  | error er => rw [hdd] at hck1; cases hck1
  | ok q =>
    obtain ⟨i, len⟩ := q
    rw [hdd] at hck1
    simp only [Bool.and_eq_true, decide_eq_true_eq] at hck1
    exact ⟨len, by rw [hck1.1], Nat.eq_of_beq_eq_true hck1.2.1⟩
theorem dec_at {own mL pc k : Nat} {isI : Bool} {cc : ByteArray} {tb : Nat → IE} (hck : ∀ pc, chk own isI mL cc pc (tb pc) = true) {ee : IE} (he : tb pc = ee) (hn : ee.2.1 = pc + (k + 1)) : decode cc pc = .ok (ee.1, k + 1) := by
  have h1 := hck pc
  rw [he] at h1
  obtain ⟨len, h2, h3⟩ := dec_of h1 (by rw [hn]; rfl)
  rw [h2, show len = k + 1 by omega]
theorem Cl_of {rt d : Nat} {Q : Option AV → AH → Prop} {tb : Nat → IE} (F : FC G p s m args meth c cc own isI mL n1) (rc : RC G p l e R s m args below meth c n0 n1 Z cc rt Q) (hck : ∀ pc, chk own isI mL cc pc (tb pc) = true) (hs0 : n0 < 80 → s.heap.size ≤ gz G + n0) (hR : d ≤ R.frames ∧ 64 * d ≤ R.locals ∧ n1 - n0 ≤ R.cells ∧ slN n1 - slN n0 ≤ R.slots) : Cl G l d own rt tb n1 Q (fun n pc L st h => KW G p l e R s m args below meth c n0 n1 Z mL n (pc) (L) (st) (h)) := by
  refine ⟨fun stops f n pc L st h hw => wp_sound F rc hck hs0 hR f pc L st h hw, ?_, ?_, ?_, ?_, ?_, ?_, ?_⟩
  · intro n n' pc nx q mi d' k i j L st as h Q' e1 e2 e3 e4 e5 e6 e7 e8 e9 E kk
    subst e2
    exact sw_callI F hs0 hR (dec_at hck e1 rfl) e3 e4 e5 e6 e7 e8 e9 E kk
  · intro n pc nx q a L st h e1 e2 e3 e4 e5 k
    subst e2
    exact sw_objinit F hs0 hR (dec_at hck e1 rfl) e3 e4 e5 k
  · intro n pc nx q ci L st h e1 e2 e3 e4 e5 e6 k
    subst e2
    exact sw_new F hs0 hR (dec_at hck e1 rfl) e3 e4 e5 e6 k
  · intro n pc nx ty a L st h e1 e2 e3 e4 e5 e6 k
    subst e2
    rcases e3 with ⟨rfl, e3⟩ | ⟨rfl, e3⟩ | ⟨rfl, e3⟩
    · exact sw_newa_int F hs0 hR (dec_at hck e1 rfl) e3 e4 e5 e6 k
    · exact sw_newa_long F hs0 hR (dec_at hck e1 rfl) e3 e4 e5 e6 k
    · exact sw_newa_boolean F hs0 hR (dec_at hck e1 rfl) e3 e4 e5 e6 k
  · intro n pc nx q a L st h e1 e2 e3 e4 e5 e6 k
    subst e2
    rcases e3 with ⟨e0, e3⟩ | ⟨e0, e3⟩ | ⟨e0, e3⟩
    · exact sw_anew4 F hs0 hR (dec_at hck e1 rfl) e0 e3 e4 e5 e6 k
    · exact sw_anew5 F hs0 hR (dec_at hck e1 rfl) e0 e3 e4 e5 e6 k
    · exact sw_anew6 F hs0 hR (dec_at hck e1 rfl) e0 e3 e4 e5 e6 k
  · intro n pc nx k i j k2 i2 j2 sp dp nn L st h e1 e2 e3 e4 e5 e6 e7 e8 e9 e10 e11 e12 kk
    subst e2
    exact sw_copy F hs0 hR (dec_at hck e1 rfl) e3 e4 e5 e6 e7 e8 e9 e10 e11 e12 kk
  · intro n pc L st h h' he k
    exact sw_eqH F.2.2.2.2.2.2.1 he k
/-- the locals at a method's start -/
def flat : List AV → List (Option AV)
  | [] => []
  | .inr (.inl a) :: l => some (.inr (.inl a)) :: none :: flat l
  | v :: l => some v :: flat l
def initL (mL : Nat) (av : List AV) : List (Option AV) := flat av ++ List.replicate (mL - (flat av).length) none
theorem flat_mem : ∀ (av : List AV) (v : AV), some v ∈ flat av → v ∈ av
  | [], v, h => by simp [flat] at h
  | .inr (.inl a) :: l, v, h => by
    simp only [flat, List.mem_cons] at h
    rcases h with h | h | h
    · cases h; exact List.mem_cons_self
    · cases h
    · exact List.mem_cons_of_mem _ (flat_mem l v h)
  | .inl a :: l, v, h => by
    simp only [flat, List.mem_cons] at h
    rcases h with h | h
    · cases h; exact List.mem_cons_self
    · exact List.mem_cons_of_mem _ (flat_mem l v h)
  | .inr (.inr a) :: l, v, h => by
    simp only [flat, List.mem_cons] at h
    rcases h with h | h
    · cases h; exact List.mem_cons_self
    · exact List.mem_cons_of_mem _ (flat_mem l v h)
theorem lvOf_none (G : GT) : ∀ (n i : Nat), lvOf G i (List.replicate n none) = []
  | 0, _ => rfl
  | n + 1, i => by
    rw [List.replicate_succ]
    exact lvOf_none G n (i + 1)
theorem lvOf_flat (G : GT) : ∀ (av : List AV) (i n : Nat), lvOf G i (flat av ++ List.replicate n none) = lv_args i (av.map (cv G))
  | [], i, n => lvOf_none G n i
  | .inl a :: l, i, n => by
    show (i, cv G (.inl a)) :: lvOf G (i + 1) (flat l ++ _) = (i, cv G (.inl a)) :: lv_args (if _ then _ else _) _
    rw [lvOf_flat G l (i + 1) n]
    rfl
  | .inr (.inl a) :: l, i, n => by
    show (i, cv G (.inr (.inl a))) :: lvOf G (i + 1 + 1) (flat l ++ _) = (i, cv G (.inr (.inl a))) :: lv_args (if _ then _ else _) _
    rw [lvOf_flat G l (i + 1 + 1) n]
    rfl
  | .inr (.inr a) :: l, i, n => by
    show (i, cv G (.inr (.inr a))) :: lvOf G (i + 1) (flat l ++ _) = (i, cv G (.inr (.inr a))) :: lv_args (if _ then _ else _) _
    rw [lvOf_flat G l (i + 1) n]
    have h : ¬ (cv G (.inr (.inr a))).category = 2 := by show ¬ (va_rf _).category = 2; rw [cat_rf]; decide
    rw [if_neg h]
theorem flat_len (G : GT) : ∀ (av : List AV), (lg_sl (av.map (cv G))).length = (flat av).length
  | [] => rfl
  | .inl a :: l => by
    show (lg_sl (.int a :: l.map (cv G))).length = (flat l).length + 1
    rw [← flat_len G l]
    simp [lg_sl, Value.category]
  | .inr (.inl a) :: l => by
    show (lg_sl (.long a :: l.map (cv G))).length = (flat l).length + 1 + 1
    rw [← flat_len G l]
    simp [lg_sl, Value.category]
  | .inr (.inr a) :: l => by
    have h : ¬ (cv G (.inr (.inr a))).category = 2 := by show ¬ (va_rf _).category = 2; rw [cat_rf]; decide
    show (lg_sl (cv G (.inr (.inr a)) :: l.map (cv G))).length = (flat l).length + 1
    rw [← flat_len G l]
    simp only [lg_sl, List.flatMap_cons, if_neg h, List.length_append, List.length_cons, List.length_nil]
    omega
theorem plain_ok : ((List.range 209).all fun i => plainName (meN (mt i)).cls || decide (i = 32 ∨ i = 33)) = true := by decide +kernel
/-- A METHOD'S CONTRACT, FROM ITS TABLE -/
theorem Ev_of {d mi : Nat} {av : List AV} {Q : Option AV → AH → Prop} (hm : mi < 209) (hmm : ¬ (mi = 32 ∨ mi = 33)) (hck : chkM (mt mi) = true) (hl : (flat av).length ≤ meL (mt mi)) (h80 : n0 ≤ n1 ∧ n1 ≤ 80)
    (k : ∀ K, Cl G l d (meO (mt mi)) (meT (mt mi)) (meTab (mt mi)) n1 Q K → K n0 0 (initL (meL (mt mi)) av) [] h) : Ev G l d (mt mi) n0 n1 av h Q := by
  intro okav okh
  obtain ⟨y1, y2, y3, y4, y5, y6⟩ := nm_at hm
  have hpl : plainName (meN (mt mi)).cls = true := by
    have h1 := List.all_eq_true.mp plain_ok mi (List.mem_range.mpr hm)
    simp only [Bool.or_eq_true, decide_eq_true_eq] at h1
    exact h1.resolve_right hmm
  have hrt : rtOf (meT (mt mi)) (meR (mt mi)) = true := List.all_eq_true.mp rt_ok mi (List.mem_range.mpr hm)
  refine Met.ofW (cc := meB (mt mi)) (maxL := meL (mt mi)) (ret := meR (mt mi)) hpl rfl ?_
  intro p e s m args below meth c s₁ B hml hv
  obtain ⟨rfl, hSC, hP, hsz⟩ := hv
  have hts : ∀ w ∈ mWs (mt mi), w.before (av.map (cv G)).toArray s = true := atoms_spec (ws := mWs (mt mi)) B.pre
  have hlocks := B.notSynchronized
  have F : FC G p s m (av.map (cv G)).toArray meth c (meB (mt mi)) (meO (mt mi)) (meI (mt mi)) (meL (mt mi)) n1 := ⟨B.exec, B.bytes, hml, by rw [← y3]; exact findClass_of_methodNamed B.named, fun w hw => hts w (List.mem_cons_of_mem _ hw), hSC, h80.2, fun hi => by rw [(name_of_methodNamed B.named B.method).1]; exact y6 hi⟩
  have hr := B.returns
  have rc : RC G p l e (headSpec (mWs (mt mi)) (rmOf d n0 n1)).room s m (av.map (cv G)).toArray below meth c n0 n1 (MQ below (fun _ st oc t => Pst G n1 Q st oc t) (av.map (cv G)).toArray s (n1 - n0) (slN n1 - slN n0) (vA G)) (meB (mt mi)) (meT (mt mi)) Q := by
    have pst : ∀ (r : Option AV) (h : AH) (H : Heap) (locs : List Loc), okH n1 h → (∀ v, r = some v → okV n1 v) → va_P (gD G) CL (ws G n1 h) H → va_S (vA G) s.heap H locs → Q r h → ∀ t : State, t.heap = H → Pst G n1 Q s (.returned (r.map (cv G))) t := fun r h H locs b2 b3 b4 b5 b6 t ht => ⟨⟨r, h, rfl, b6, b3, b2, by rw [ht]; exact b4⟩, b5.F ht⟩
    have rtd : ∀ k, meT (mt mi) = k → rtOf k (meR (mt mi)) = true := fun k hk => by rw [← hk]; exact hrt
    refine ⟨?_, ?_, ?_, ?_⟩
    · intro n pc a h H locs ls b1 b2 b3 b4 b5 b6 b7 b8 b9
      subst b8
      have hq : ∀ t : State, t.heap = H → s.WarmedH t.vm → Pst G n Q s (.returned (some (.int a))) t := fun t ht _ => pst (some (.inl a)) h H locs b3 (fun v hv => by cases hv; exact okV_i) b4 b5 b9 t ht
      split at b7
      · rename_i ht
        have h1 := rtd _ ht
        exact W.iret B.exec B.bytes (by rw [hr]; exact of_decide_eq_true h1) hq b5.2.2 b6
      · rename_i ht
        have h1 := rtd _ ht
        exact W.zret B.exec B.bytes (by rw [hr]; exact of_decide_eq_true h1) (by rcases b7 with rfl | rfl <;> rfl) hq b5.2.2 b6
      · rename_i ht
        have h1 := rtd _ ht
        exact W.zret B.exec B.bytes (by rw [hr]; exact of_decide_eq_true h1) b7 hq b5.2.2 b6
      · rename_i ht
        have h1 := rtd _ ht
        exact W.zret B.exec B.bytes (by rw [hr]; exact of_decide_eq_true h1) b7 hq b5.2.2 b6
      · exact b7.elim
    · intro n pc a h H locs ls b1 b2 b3 b4 b5 b6 b7 b8 b9
      subst b8
      have h1 := rtd _ b7
      exact W.lret B.exec B.bytes (by rw [hr]; exact of_decide_eq_true h1) (fun t ht _ => pst (some (.inr (.inl a))) h H locs b3 (fun v hv => by cases hv; exact okV_l) b4 b5 b9 t ht) b5.2.2 b6
    · intro n pc a h H locs ls b1 b2 b3 b3' b4 b5 b6 b7 b8 b9
      subst b8
      have h1 := rtd _ b7
      have h2 : ∃ C, meR (mt mi) = some (.object C) := by
        cases hre : meR (mt mi) with
        | none => rw [hre] at h1; cases h1
        | some ty =>
          rw [hre] at h1
          cases ty <;> first | exact ⟨_, rfl⟩ | cases h1
      obtain ⟨C, h2⟩ := h2
      refine W.aret (rt := .object C) B.exec B.bytes (by rw [hr]; exact h2) (Or.inl ⟨_, rfl⟩) ?_ (fun t ht _ => pst (some (.inr (.inr a))) h H locs b3 (fun v hv => by cases hv; exact b3') b4 b5 b9 t ht) b5.2.2 b6
      cases a with
      | none => exact Or.inl rfl
      | some a => exact Or.inr ⟨_, rfl⟩
    · intro n pc h H locs ls b1 b2 b3 b4 b5 b6 b7 b8 b9
      subst b8
      have h1 := rtd _ b7
      exact W.vret B.exec B.bytes (by rw [hr]; exact of_decide_eq_true h1) (fun t ht _ => pst none h H locs b3 (fun v hv => by cases hv) b4 b5 b9 t ht) b5.2.2 b6
  have hcl := Cl_of (l := l) (e := e) (R := (headSpec (mWs (mt mi)) (rmOf d n0 n1)).room) (below := below) (rt := meT (mt mi)) (d := d) (Q := Q) (tb := meTab (mt mi)) F rc (chkM_at hck) hsz ⟨Nat.le_refl _, Nat.le_refl _, Nat.le_refl _, Nat.le_refl _⟩
  have hkw := k _ hcl
  rw [lg_entry_eq]
  have hen := lv_entry (av.map (cv G)) (n := meL (mt mi)) (by rw [flat_len G]; exact hl)
  have hlL : (initL (meL (mt mi)) av).length = meL (mt mi) := by
    unfold initL
    rw [List.length_append, List.length_replicate]
    omega
  have hres := hkw (Nat.le_refl _) h80.1 hlL (fun v hv => by
      unfold initL at hv
      rcases List.mem_append.mp hv with hv | hv
      · exact okav v (flat_mem av v hv)
      · exact absurd (List.eq_of_mem_replicate hv) (by simp)) (fun v hv => by cases hv) okh s.heap [] _ hP va_S.rf (by
      unfold initL
      rw [lvOf_flat]
      exact hen)
  rw [Nat.sub_self, Nat.sub_self] at hres
  exact hres
end OF
