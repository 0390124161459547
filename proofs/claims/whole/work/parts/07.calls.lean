/-! calls by contract -/
theorem na_ok : ((List.range 209).all fun i => decide ((parseMethodDescriptor (meN (mt i)).desc).map (fun d => d.parameters.length) = some (nthD naL i 99))) = true := by decide +kernel
theorem nm_ok : ((List.range 209).all fun i => decide ((meN (mt i)).cls ≠ "java/lang/invoke/MethodHandle" ∧ (meN (mt i)).cls ≠ "java/lang/invoke/VarHandle" ∧ (meN (mt i)).cls = cn (meO (mt i)) ∧ meO (mt i) < 15 ∧ meL (mt i) ≤ 12 ∧ (meI (mt i) = true → (meN (mt i)).name = "<init>"))) = true := by decide +kernel
def rtOf (rt : Nat) (r : Option FieldType) : Bool := match rt with
  | 0 => decide (r = some .int)
  | 1 => decide (r = some .boolean)
  | 2 => decide (r = some .long)
  | 3 => decide (r = none)
  | 4 => (match r with | some (.object _) => true | _ => false)
  | 5 => decide (r = some .byte)
  | 6 => decide (r = some .char)
  | _ => false
theorem rt_ok : ((List.range 209).all fun i => rtOf (meT (mt i)) (meR (mt i))) = true := by decide +kernel
theorem MTs_len : MTs.length = 209 := by decide +kernel
theorem mt_in {mi : Nat} (h : mi < 209) : mt mi ∈ MTs := by
  unfold mt
  rw [nth_eq, List.getElem?_eq_getElem (by rw [MTs_len]; exact h)]
  exact List.getElem_mem _
theorem WS_a {me : ME} (h : me ∈ MTs) : Cond.code (meN me) (meB me) (meL me) (meR me) ∈ WS := by
  unfold WS
  exact List.mem_append_left _ (List.mem_map.mpr ⟨_, h, rfl⟩)
theorem WS_c {q : Nat × (Nat × (Nat × Nat))} (h : q ∈ CS) : ∀ w, w ∈ csW q → w ∈ WS := by
  intro w hw
  unfold WS
  exact List.mem_append_right _ (List.mem_append_right _ (List.mem_append_left _ (List.mem_flatMap.mpr ⟨q, h, hw⟩)))
theorem WS_e {k : Nat} (h : k < 16) : Cond.initialized (cn k) ∈ WS := by
  unfold WS
  refine List.mem_append_right _ (List.mem_append_right _ (List.mem_append_right _ (List.mem_append_right _ (List.mem_append_left _ ?_))))
  refine List.mem_map.mpr ⟨cn k, ?_, rfl⟩
  unfold cn
  rw [nth_eq, List.getElem?_eq_getElem (by show k < 16; exact h)]
  exact List.getElem_mem _
theorem WS_gd : ∀ w ∈ WS, (w.onTables && w.keeps) = true ∨ ∃ ty, w = .arrayClass ty := fun w hw => good_of_word (List.all_eq_true.mp WS_good w hw)
/-- a method's own words -/
noncomputable def mWs (me : ME) : List Cond := Cond.code (meN me) (meB me) (meL me) (meR me) :: WS
theorem mWs_good {me : ME} (h : me ∈ MTs) : GoodIn WS (mWs me) := fun w hw => by
  have hw2 : w ∈ WS := by
    rcases List.mem_cons.mp hw with rfl | hw
    · exact WS_a h
    · exact hw
  exact ⟨hw2, WS_gd w hw2⟩
def rmOf (d n0 n1 : Nat) : Room := { frames := d, cells := n1 - n0, slots := slN n1 - slN n0, locals := 64 * d }
def Pre (G : GT) (n0 : Nat) (h : AH) (U : State) : Prop := SC G U U.heap ∧ va_P (gD G) CL (ws G n0 h) U.heap ∧ (n0 < 80 → U.heap.size ≤ gz G + n0)
def Pst (G : GT) (n1 : Nat) (Q : Option AV → AH → Prop) (st : State) (oc : Outcome) (t : State) : Prop := (∃ (r : Option AV) (h' : AH), oc = .returned (r.map (cv G)) ∧ Q r h' ∧ (∀ v, r = some v → okV n1 v) ∧ okH n1 h' ∧ va_P (gD G) CL (ws G n1 h') t.heap) ∧ va_F (vA G) st t
/-- A METHOD'S CONTRACT over the world: called with these in the heap h, it returns with Q -/
def Ev (G : GT) (l : Launch) (d : Nat) (me : ME) (n0 n1 : Nat) (av : List AV) (h : AH) (Q : Option AV → AH → Prop) : Prop :=
  okS n0 av → okH n0 h → Met l (meN me) (mWs me) (rmOf d n0 n1) (va_Pc (av.map (cv G)) (Pre G n0 h)) (fun _ st oc t => Pst G n1 Q st oc t) (n1 - n0) (slN n1 - slN n0) (vA G)
theorem Pre_blind {G : GT} {n0 : Nat} {h : AH} {vs : List Value} : FrameBlind (va_Pc vs (Pre G n0 h)) := fun a U g mk q => ⟨q.1, SC.same (u := U) rfl q.2.1, q.2.2.1, q.2.2.2⟩
theorem slN_mono {a b : Nat} (h : a ≤ b) : slN a ≤ slN b := by
  induction b with
  | zero => rw [Nat.le_zero.mp h]; exact Nat.le_refl _
  | succ b ih =>
    by_cases hb : a ≤ b
    · refine Nat.le_trans (ih hb) ?_
      unfold slN
      rw [List.range_succ, List.map_append, List.sum_append]
      exact Nat.le_add_right _ _
    · rw [show a = b + 1 by omega]
      exact Nat.le_refl _
section CALLS
variable {G : GT} {p : Program} {l : Launch} {e : Env} {R : Room} {s : State} {m : MethodId} {args : Array Value} {below : List Frame} {meth : Method} {c : Code} {n0 n1 : Nat} {Z : State → Prop} {mL own : Nat} {isI : Bool} {cc : ByteArray} {n pc : Nat} {L : List (Option AV)} {st : List AV} {h : AH}

theorem W_size {cells slots : Nat} {H : Heap} {locs : List Loc} {g : JFrame} (k : H.size ≤ s.heap.size + cells → W p l e R s m args below meth c H locs cells slots Z g) : W p l e R s m args below meth c H locs cells slots Z g := fun T hT X => k (by rw [← hT]; exact X.heapSize) T hT X
/-- behind a call -/
theorem KW_run {n' : Nat} {st0 : List Value} {ls : Array Slot} {H : Heap} {locs : List Loc} {Q' : Option AV → AH → Prop} (hn1 : n' ≤ n1) (hnn : n ≤ n') (a1 : n0 ≤ n) (a3 : L.length = mL) (a4 : okL n L) (a5 : okS n st) (a8 : va_S (vA G) s.heap H locs) (a9 : lv_has ls mL (lvOf G 0 L))
    (hr : va_Run p l e R s m args below meth c H locs (n - n0) (slN n - slN n0) (n' - n) (slN n' - slN n) (F0 m pc ls st0) (st.map (cv G)) (fun st oc t => Pst G n' Q' st oc t) (vA G))
    (kk : ∀ r h', Q' r h' → KW G p l e R s m args below meth c n0 n1 Z mL n' (pc + 3) (L) (pushR r st) (h')) : W p l e R s m args below meth c H locs (n - n0) (slN n - slN n0) Z (F0 m pc ls st0) := by
  intro T hT X
  obtain ⟨v, st₀, t, T', Lq, e0, X', hL, e1, e2, ⟨⟨r, h', hv, hQ, hrv, hok, hP⟩, hF⟩, stp⟩ := hr T hT X
  cases hv
  have s1 := slN_mono a1
  have s2 := slN_mono hnn
  have c1 : n - n0 + (n' - n) = n' - n0 := by omega
  have c2 : slN n - slN n0 + (slN n' - slN n) = slN n' - slN n0 := by omega
  rw [c1, c2] at X'
  have up : ∀ o, okO n o → okO n' o := fun o ho => by
    rcases ho with ho | ho
    · exact Or.inl ⟨ho.1, by omega, ho.2.2⟩
    · exact Or.inr ho
  have hS' : va_S (vA G) s.heap T'.heap (locs ++ Lq) := by
    refine ⟨Nat.le_trans a8.1 (by rw [e1, ← e0]; exact hF.1), fun q q1 q2 => ?_, fun q hq => ?_⟩
    · rw [e1, hF.2 q (by rw [e0]; exact Nat.lt_of_lt_of_le q1 a8.1) q2, e0]
      exact a8.2.1 q q1 q2
    · rcases List.mem_append.mp hq with q3 | q3
      · exact a8.2.2 q q3
      · exact hL q q3
  have hst : okS n' (pushR r st) := by
    have q1 : okS n' st := fun w hw o ho => up o (a5 w hw o ho)
    cases r with
    | none => exact q1
    | some v => exact okS_c (hrv v rfl) q1
  obtain ⟨t2, b1, b2⟩ := kk r h' hQ (by omega) hn1 a3 (fun w hw o ho => up o (a4 w hw o ho)) hst hok T'.heap (locs ++ Lq) ls (by rw [e1]; exact hP) hS' a9 T' rfl X'
  refine ⟨t2, stp t2 ?_, b2⟩
  have e3 : (pushR r st).map (cv G) = (r.map (cv G)).toList ++ st.map (cv G) := by cases r <;> rfl
  rw [e3] at b1
  exact b1
theorem catS_eq : ∀ (st : List AV), ((st.map (cv G)).map fun v => v.category).sum = catR st
  | [] => rfl
  | .inl a :: l => by
    rw [List.map_cons, List.map_cons, List.sum_cons, catS_eq l]
    exact Nat.add_comm _ _
  | .inr (.inl a) :: l => by
    rw [List.map_cons, List.map_cons, List.sum_cons, catS_eq l]
    exact Nat.add_comm _ _
  | .inr (.inr o) :: l => by
    rw [List.map_cons, List.map_cons, List.sum_cons, catS_eq l]
    show (va_rf _).category + _ = catR l + 1
    rw [cat_rf]
    exact Nat.add_comm _ _
theorem call_pre {av : List AV} {H : Heap} {locs : List Loc} (F : FC G p s m args meth c cc own isI mL n1) (hs0 : n0 < 80 → s.heap.size ≤ gz G + n0) (a1 : n0 ≤ n) (hz : H.size ≤ s.heap.size + (n - n0)) (a7 : va_P (gD G) CL (ws G n h) H) (a8 : va_S (vA G) s.heap H locs) : ∀ U : State, U.heap = H → s.WarmedH U.vm → va_Pc (av.map (cv G)) (Pre G n h) (av.map (cv G)).toArray U := by
  intro U hU hW
  refine ⟨rfl, ?_, by rw [hU]; exact a7, fun q => by rw [hU]; have := hs0 (by omega); omega⟩
  obtain ⟨-, -, -, -, -, hSC, -⟩ := F
  rw [hU]
  exact (hSC.kept a8.1 a8.2.1).warm hW
theorem nm_at {mi : Nat} (h : mi < 209) : (meN (mt mi)).cls ≠ "java/lang/invoke/MethodHandle" ∧ (meN (mt mi)).cls ≠ "java/lang/invoke/VarHandle" ∧ (meN (mt mi)).cls = cn (meO (mt mi)) ∧ meO (mt mi) < 15 ∧ meL (mt mi) ≤ 12 ∧ (meI (mt mi) = true → (meN (mt mi)).name = "<init>") := of_decide_eq_true (List.all_eq_true.mp nm_ok mi (List.mem_range.mpr h))
theorem na_at {mi : Nat} (h : mi < 209) : (parseMethodDescriptor (meN (mt mi)).desc).map (fun d => d.parameters.length) = some (nthD naL mi 99) := of_decide_eq_true (List.all_eq_true.mp na_ok mi (List.mem_range.mpr h))
/-- the receiver's class -/
theorem recv_at {k i j : Nat} {H : Heap} {locs : List Loc} (F : FC G p s m args meth c cc own isI mL n1) (ho : okO n (k, (i, j))) (hc : clsOf k < 8 ∨ clsOf k = 9) (a7 : va_P (gD G) CL (ws G n h) H) (a8 : va_S (vA G) s.heap H locs) : ∃ (b : Nat) (cell : Cell), cv G (.inr (.inr (some (k, (i, j))))) = .ref b ∧ H[b]? = some cell ∧ cell.vm.isStatics = false ∧ s.vm.findClass (cn (clsOf k)) = some cell.cls := by
  obtain ⟨-, -, -, -, -, hSC, -⟩ := F
  rcases hc with hc | hc
  · have hk : k < 40 := kind_lt (Or.inr hc)
    obtain ⟨h1, h2⟩ := okO_lt ho hk
    have he := ws_at (G := G) (h := h) h1 h2
    have htg := nthD_cls k _ rfl hc
    have hen : ent G h (k, (i, j)) = .inr (clsOf k, (List.range (nF (clsOf k))).map (fv G h (k, (i, j)) (clsOf k))) := by simp only [ent, htg]
    rw [hen] at he
    obtain ⟨cell, g1, g2, g3⟩ := va_recv hSC.1 a7 (CL_at _ hc) he
    exact ⟨_, cell, by show Value.ref (adr G _) = _; rw [adr_lt hk], g1, g2, g3⟩
  · obtain ⟨rfl, hi⟩ := str_i ho hc
    obtain ⟨cell, g1, g2, g3⟩ := vk_recv hSC.2.2.2.2.2.2.1 hi a8
    exact ⟨_, cell, rfl, g1, g2, g3⟩
/-- a call of an object's method -/
theorem sw_callV {d d' mi q k i j n' : Nat} {as : List AV} {Q' : Option AV → AH → Prop} (F : FC G p s m args meth c cc own isI mL n1) (hs0 : n0 < 80 → s.heap.size ≤ gz G + n0) (hR : d ≤ R.frames ∧ 64 * d ≤ R.locals ∧ n1 - n0 ≤ R.cells ∧ slN n1 - slN n0 ≤ R.slots) (hd : decode cc pc = .ok (.invokevirtual q, 3)) (hm : mi < 209) (hcs : (0, (own, (q, mi))) ∈ CS) (hna : nthD naL mi 99 = as.length) (hcl : meO (mt mi) = clsOf k ∧ (clsOf k < 8 ∨ clsOf k = 9)) (hdd : d' < d) (hnn : n ≤ n' ∧ n' ≤ n1) (hct : catR st ≤ 8)
    (E : Ev G l d' (mt mi) n n' (.inr (.inr (some (k, (i, j)))) :: as) h Q') (kk : ∀ r h', Q' r h' → KW G p l e R s m args below meth c n0 n1 Z mL n' (pc + 3) (L) (pushR r st) (h')) : KW G p l e R s m args below meth c n0 n1 Z mL n (pc) (L) (as.reverse ++ .inr (.inr (some (k, (i, j)))) :: st) (h) := by
  intro a1 a2 a3 a4 a5 a6 H locs ls a7 a8 a9
  refine W_size fun hz => ?_
  have F0' := F
  obtain ⟨hx, hb, hml, hown, hts, hSC, h80, hI⟩ := F
  obtain ⟨y1, y2, y3, y4, y5, -⟩ := nm_at hm
  have ho5 : okS n (.inr (.inr (some (k, (i, j)))) :: as) := fun w hw => a5 w (by
    rcases List.mem_cons.mp hw with rfl | hw
    · exact List.mem_append_right _ List.mem_cons_self
    · exact List.mem_append_left _ (List.mem_reverse.mpr hw))
  have ho : okO n (k, (i, j)) := ho5 _ List.mem_cons_self _ rfl
  obtain ⟨b, cell, g1, g2, g3, g4⟩ := recv_at F0' ho hcl.2 a7 a8
  have hcw := WS_c hcs
  have y3' : (meN (mt mi)).cls = cn (clsOf k) := by rw [y3, hcl.1]
  have s1 := slN_mono a1
  have s2 := slN_mono hnn.1
  have s3 := slN_mono hnn.2
  have hCW : CallW R s args (cn own) (meN (mt mi)).cls q (meN (mt mi)) (meB (mt mi)) (meL (mt mi)) (meR (mt mi)) (mWs (mt mi)) (rmOf d' n n') (n' - n) (slN n' - slN n) as.length := by
    refine cwV as.length hts (fun w hw => ?_) rfl rfl rfl ⟨rfl, y1, y2, by rw [na_at hm, hna]⟩ ⟨?_, ?_⟩
    · have hw2 : w ∈ WS := by
        unfold wsV at hw
        rcases List.mem_append.mp hw with hw | hw
        · simp only [List.mem_cons, List.not_mem_nil, or_false] at hw
          rcases hw with rfl | rfl | rfl | rfl
          · exact hcw _ (by simp [csW])
          · exact hcw _ (by simp [csW])
          · exact hcw _ (by simp [csW])
          · rw [y3]; exact WS_e (by omega)
        · exact (mWs_good (mt_in hm) w hw).1
      exact ⟨hw2, WS_gd w hw2⟩
    · show d' + 1 ≤ R.frames; omega
    · show 8 + (meL (mt mi) + 11) + 64 * d' ≤ R.locals; omega
  have hM := E ho5 a6
  have hstk : ((as.reverse ++ .inr (.inr (some (k, (i, j)))) :: st).map (cv G)) = (as.map (cv G)).reverse ++ Value.ref b :: st.map (cv G) := by
    rw [List.map_append, List.map_cons, g1, List.map_reverse]
  have hrun : va_Run p l e R s m args below meth c H locs (n - n0) (slN n - slN n0) (n' - n) (slN n' - slN n) (F0 m pc ls ((as.reverse ++ .inr (.inr (some (k, (i, j)))) :: st).map (cv G))) (st.map (cv G)) (fun st oc t => Pst G n' Q' st oc t) (vA G) := va_runV (locs := locs) (cells := n - n0) (slots := slN n - slN n0) (As := as.map (cv G)) (rest := st.map (cv G)) (g := F0 m pc ls ((as.reverse ++ .inr (.inr (some (k, (i, j)))) :: st).map (cv G))) ⟨hx, hb, hml, hown, hts⟩ hM hCW ⟨Pre_blind, ⟨cell, g2, g3, by rw [y3']; exact g4⟩, fun U hU hW => by
      have h5 := call_pre (av := .inr (.inr (some (k, (i, j)))) :: as) F0' hs0 a1 hz a7 a8 U hU hW
      have e5 : ((.inr (.inr (some (k, (i, j)))) :: as).map (cv G)).toArray = (Value.ref b :: as.map (cv G)).toArray := by rw [List.map_cons, g1]
      rw [← e5]
      exact h5⟩ rfl (by rw [List.length_map]) a9.1 hstk (by show 2 * 0 + _ ≤ 8; rw [catS_eq]; omega) hd ⟨by omega, by omega⟩
  exact KW_run hnn.2 hnn.1 a1 a3 a4 (fun w hw => a5 w (List.mem_append_right _ (List.mem_cons_of_mem _ hw))) a8 a9 hrun kk
/-- a call of a static method -/
theorem sw_callS {d d' mi q n' : Nat} {as : List AV} {Q' : Option AV → AH → Prop} (F : FC G p s m args meth c cc own isI mL n1) (hs0 : n0 < 80 → s.heap.size ≤ gz G + n0) (hR : d ≤ R.frames ∧ 64 * d ≤ R.locals ∧ n1 - n0 ≤ R.cells ∧ slN n1 - slN n0 ≤ R.slots) (hd : decode cc pc = .ok (.invokestatic q, 3)) (hm : mi < 209) (hcs : (1, (own, (q, mi))) ∈ CS ∨ (3, (own, (q, mi))) ∈ CS) (hna : nthD naL mi 99 = as.length) (hdd : d' < d) (hnn : n ≤ n' ∧ n' ≤ n1) (hct : catR st ≤ 8)
    (E : Ev G l d' (mt mi) n n' as h Q') (kk : ∀ r h', Q' r h' → KW G p l e R s m args below meth c n0 n1 Z mL n' (pc + 3) (L) (pushR r st) (h')) : KW G p l e R s m args below meth c n0 n1 Z mL n (pc) (L) (as.reverse ++ st) (h) := by
  intro a1 a2 a3 a4 a5 a6 H locs ls a7 a8 a9
  refine W_size fun hz => ?_
  have F0' := F
  obtain ⟨hx, hb, hml, hown, hts, hSC, h80, hI⟩ := F
  obtain ⟨y1, y2, y3, y4, y5, -⟩ := nm_at hm
  have ho5 : okS n as := fun w hw => a5 w (List.mem_append_left _ (List.mem_reverse.mpr hw))
  have s1 := slN_mono a1
  have s2 := slN_mono hnn.1
  have s3 := slN_mono hnn.2
  have hM := E ho5 a6
  have hstk : ((as.reverse ++ st).map (cv G)) = (as.map (cv G)).reverse ++ st.map (cv G) := by
    rw [List.map_append, List.map_reverse]
  have hini : Cond.initialized (meN (mt mi)).cls ∈ WS := by rw [y3]; exact WS_e (by omega)
  have hp : PreS s H (va_Pc (as.map (cv G)) (Pre G n h)) (as.map (cv G)) := ⟨Pre_blind, fun U hU hW => call_pre F0' hs0 a1 hz a7 a8 U hU hW⟩
  have hrun : va_Run p l e R s m args below meth c H locs (n - n0) (slN n - slN n0) (n' - n) (slN n' - slN n) (F0 m pc ls ((as.reverse ++ st).map (cv G))) (st.map (cv G)) (fun st oc t => Pst G n' Q' st oc t) (vA G) := by
    rcases hcs with hcs | hcs
    · have hcw := WS_c hcs
      have hCW : CallB R s args (cn own) q (meN (mt mi)) (meB (mt mi)) (meL (mt mi)) (meR (mt mi)) (mWs (mt mi)) (rmOf d' n n') (n' - n) (slN n' - slN n) as.length ∧ (Cond.static (meN (mt mi))).before args s = true := by
        refine va_cwS as.length hts (fun w hw => ?_) rfl rfl rfl ⟨y1, y2, by rw [na_at hm, hna]⟩ ⟨?_, ?_⟩
        · have hw2 : w ∈ WS := by
            unfold va_wsS at hw
            rcases List.mem_append.mp hw with hw | hw
            · simp only [List.mem_cons, List.not_mem_nil, or_false] at hw
              rcases hw with rfl | rfl | rfl
              · exact hcw _ (by simp [csW])
              · exact hcw _ (by simp [csW])
              · exact hini
            · exact (mWs_good (mt_in hm) w hw).1
          exact ⟨hw2, WS_gd w hw2⟩
        · show d' + 1 ≤ R.frames; omega
        · show 8 + (meL (mt mi) + 11) + 64 * d' ≤ R.locals; omega
      exact va_runS (As := as.map (cv G)) (rest := st.map (cv G)) ⟨hx, hb, hml, hown, hts⟩ hM hCW hp rfl (by rw [List.length_map]) a9.1 hstk (by show 2 * 0 + _ ≤ 8; rw [catS_eq]; omega) hd ⟨by omega, by omega⟩
    · have hcw := WS_c hcs
      have hnw : va_Nw (Cond.methodLinkNest (cn own) q (meN (mt mi)) "ListenerIsTired") s := hSC.2.1 _ (by
        unfold NW
        exact List.mem_map.mpr ⟨_, List.mem_filter.mpr ⟨hcs, rfl⟩, rfl⟩)
      have hCW := va_cnB (R := R) (rm := rmOf d' n n') (mc := n' - n) (ms := slN n' - slN n) as.length hts (mWs_good (mt_in hm)) rfl rfl rfl hnw (hts _ hini) ⟨y1, y2, by rw [na_at hm, hna]⟩ ⟨by show d' + 1 ≤ R.frames; omega, by show 8 + (meL (mt mi) + 11) + 64 * d' ≤ R.locals; omega⟩
      exact va_runSN (As := as.map (cv G)) (rest := st.map (cv G)) ⟨hx, hb, hml, hown, hts⟩ hM ⟨hCW, hts _ (hcw _ (by simp [csW])), trivial⟩ hp rfl (by rw [List.length_map]) a9.1 hstk (by show 2 * 0 + _ ≤ 8; rw [catS_eq]; omega) hd ⟨by omega, by omega⟩
  exact KW_run hnn.2 hnn.1 a1 a3 a4 (fun w hw => a5 w (List.mem_append_right _ hw)) a8 a9 hrun kk
/-- a call of a constructor -/
theorem sw_callI {d d' mi q k i j n' : Nat} {as : List AV} {Q' : Option AV → AH → Prop} (F : FC G p s m args meth c cc own isI mL n1) (hs0 : n0 < 80 → s.heap.size ≤ gz G + n0) (hR : d ≤ R.frames ∧ 64 * d ≤ R.locals ∧ n1 - n0 ≤ R.cells ∧ slN n1 - slN n0 ≤ R.slots) (hd : decode cc pc = .ok (.invokespecial q, 3)) (hm : mi < 209) (hcs : (2, (own, (q, mi))) ∈ CS ∨ (4, (own, (q, mi))) ∈ CS) (hni : (meN (mt mi)).name = "<init>" ∧ meR (mt mi) = none) (hna : nthD naL mi 99 = as.length) (hdd : d' < d) (hnn : n ≤ n' ∧ n' ≤ n1) (hct : catR st ≤ 8)
    (E : Ev G l d' (mt mi) n n' (.inr (.inr (some (k, (i, j)))) :: as) h Q') (kk : ∀ r h', Q' r h' → KW G p l e R s m args below meth c n0 n1 Z mL n' (pc + 3) (L) (pushR r st) (h')) : KW G p l e R s m args below meth c n0 n1 Z mL n (pc) (L) (as.reverse ++ .inr (.inr (some (k, (i, j)))) :: st) (h) := by
  intro a1 a2 a3 a4 a5 a6 H locs ls a7 a8 a9
  refine W_size fun hz => ?_
  have F0' := F
  obtain ⟨hx, hb, hml, hown, hts, hSC, h80, hI⟩ := F
  obtain ⟨y1, y2, y3, y4, y5, -⟩ := nm_at hm
  have ho5 : okS n (.inr (.inr (some (k, (i, j)))) :: as) := fun w hw => a5 w (by
    rcases List.mem_cons.mp hw with rfl | hw
    · exact List.mem_append_right _ List.mem_cons_self
    · exact List.mem_append_left _ (List.mem_reverse.mpr hw))
  have s1 := slN_mono a1
  have s2 := slN_mono hnn.1
  have s3 := slN_mono hnn.2
  have hM := E ho5 a6
  have g1 : cv G (.inr (.inr (some (k, (i, j))))) = .ref (adr G (k, (i, j))) := rfl
  have hstk : ((as.reverse ++ .inr (.inr (some (k, (i, j)))) :: st).map (cv G)) = (as.map (cv G)).reverse ++ Value.ref (adr G (k, (i, j))) :: st.map (cv G) := by
    rw [List.map_append, List.map_cons, g1, List.map_reverse]
  have hini : Cond.initialized (meN (mt mi)).cls ∈ WS := by rw [y3]; exact WS_e (by omega)
  have hp : PreS s H (va_Pc ((.inr (.inr (some (k, (i, j)))) :: as).map (cv G)) (Pre G n h)) (.ref (adr G (k, (i, j))) :: as.map (cv G)) := ⟨Pre_blind, fun U hU hW => call_pre (av := .inr (.inr (some (k, (i, j)))) :: as) F0' hs0 a1 hz a7 a8 U hU hW⟩
  have hwr : mWs (mt mi) = Cond.code (meN (mt mi)) (meB (mt mi)) (meL (mt mi)) none :: WS := by unfold mWs; rw [hni.2]
  have hrun : va_Run p l e R s m args below meth c H locs (n - n0) (slN n - slN n0) (n' - n) (slN n' - slN n) (F0 m pc ls ((as.reverse ++ .inr (.inr (some (k, (i, j)))) :: st).map (cv G))) (st.map (cv G)) (fun st oc t => Pst G n' Q' st oc t) (vA G) := by
    rcases hcs with hcs | hcs
    · have hcw := WS_c hcs
      have hCW := cwI (R := R) (bytes := meB (mt mi)) (maxL := meL (mt mi)) (own := cn own) (index := q) (rm := rmOf d' n n') (mc := n' - n) (ms := slN n' - slN n) (ws' := WS) as.length hts (mWs_good (mt_in hm)) hwr rfl rfl (hts _ hini) (hts _ (hcw _ (by simp [csW]))) (hts _ (hcw _ (by simp [csW]))) hni.1 ⟨y1, y2, by rw [na_at hm, hna]⟩ ⟨by show d' + 1 ≤ R.frames; omega, by show 8 + (meL (mt mi) + 11) + 64 * d' ≤ R.locals; omega⟩
      exact va_runI (As := as.map (cv G)) (rest := st.map (cv G)) ⟨hx, hb, hml, hown, hts⟩ hM hCW hp rfl (by rw [List.length_map]) a9.1 hstk (by show 2 * 0 + _ ≤ 8; rw [catS_eq]; omega) hd ⟨by omega, by omega⟩
    · have hcw := WS_c hcs
      have hnw : va_Nw (Cond.methodLinkNest (cn own) q (meN (mt mi)) "ListenerIsTired") s := hSC.2.1 _ (by
        unfold NW
        exact List.mem_map.mpr ⟨_, List.mem_filter.mpr ⟨hcs, rfl⟩, rfl⟩)
      have hCW := va_cnB (R := R) (bytes := meB (mt mi)) (maxL := meL (mt mi)) (ret := none) (rm := rmOf d' n n') (mc := n' - n) (ms := slN n' - slN n) (ws' := WS) as.length hts (mWs_good (mt_in hm)) hwr rfl rfl hnw (hts _ hini) ⟨y1, y2, by rw [na_at hm, hna]⟩ ⟨by show d' + 1 ≤ R.frames; omega, by show 8 + (meL (mt mi) + 11) + 64 * d' ≤ R.locals; omega⟩
      exact va_runIN (As := as.map (cv G)) (rest := st.map (cv G)) ⟨hx, hb, hml, hown, hts⟩ hM ⟨hCW, hni.1, hts _ (hcw _ (by simp [csW]))⟩ hp rfl (by rw [List.length_map]) a9.1 hstk (by show 2 * 0 + _ ≤ 8; rw [catS_eq]; omega) hd ⟨by omega, by omega⟩
  exact KW_run hnn.2 hnn.1 a1 a3 a4 (fun w hw => a5 w (List.mem_append_right _ (List.mem_cons_of_mem _ hw))) a8 a9 hrun kk
theorem max_ok : (meN (mt 32) = Lib.Math.max.name ∧ meB (mt 32) = Lib.Math.max.code ∧ meL (mt 32) = 2 ∧ meR (mt 32) = some .int) ∧ (meN (mt 33) = Lib.Math.min.name ∧ meB (mt 33) = Lib.Math.min.code ∧ meL (mt 33) = 2 ∧ meR (mt 33) = some .int) := by decide +kernel
/-- Math.max, Math.min -/
theorem sw_max {d q : Nat} {a b : Int32} (F : FC G p s m args meth c cc own isI mL n1) (hR : d ≤ R.frames ∧ 64 * d ≤ R.locals ∧ n1 - n0 ≤ R.cells ∧ slN n1 - slN n0 ≤ R.slots) (hd : decode cc pc = .ok (.invokestatic q, 3)) (hcs : (1, (own, (q, 32))) ∈ CS) (hdd : 1 ≤ d) (hct : catR st ≤ 8) (kk : KW G p l e R s m args below meth c n0 n1 Z mL n (pc + 3) (L) (.inl (if a < b then b else a) :: st) (h)) : KW G p l e R s m args below meth c n0 n1 Z mL n (pc) (L) (.inl b :: .inl a :: st) (h) := by
  intro a1 a2 a3 a4 a5 a6 H locs ls a7 a8 a9
  obtain ⟨hx, hb, hml, hown, hts, hSC, h80, hI⟩ := F
  obtain ⟨⟨e1, e2, e3, e4⟩, -⟩ := max_ok
  have hcw := WS_c hcs
  have hc := WS_a (mt_in (mi := 32) (by decide))
  rw [e1, e2, e3, e4] at hc
  have s1 := slN_mono a1
  have s2 := slN_mono a2
  refine va_mmax (own := cn own) hx hb (hml.trans a9.1.symm) hown (hts _ (hcw _ (by rw [← e1]; simp [csW]))) (hts _ (hcw _ (by rw [← e1]; simp [csW]))) (hts _ (WS_e (k := 13) (by decide))) (hts _ hc) (by omega) (by rw [catS_eq]; omega) (by omega) (by omega) hd ?_
  exact kk a1 a2 a3 a4 (okS_c okV_i (okS_t (okS_t a5))) a6 H locs ls a7 a8 a9
theorem sw_min {d q : Nat} {a b : Int32} (F : FC G p s m args meth c cc own isI mL n1) (hR : d ≤ R.frames ∧ 64 * d ≤ R.locals ∧ n1 - n0 ≤ R.cells ∧ slN n1 - slN n0 ≤ R.slots) (hd : decode cc pc = .ok (.invokestatic q, 3)) (hcs : (1, (own, (q, 33))) ∈ CS) (hdd : 1 ≤ d) (hct : catR st ≤ 8) (kk : KW G p l e R s m args below meth c n0 n1 Z mL n (pc + 3) (L) (.inl (if b < a then b else a) :: st) (h)) : KW G p l e R s m args below meth c n0 n1 Z mL n (pc) (L) (.inl b :: .inl a :: st) (h) := by
  intro a1 a2 a3 a4 a5 a6 H locs ls a7 a8 a9
  obtain ⟨hx, hb, hml, hown, hts, hSC, h80, hI⟩ := F
  obtain ⟨-, ⟨e1, e2, e3, e4⟩⟩ := max_ok
  have hcw := WS_c hcs
  have hc := WS_a (mt_in (mi := 33) (by decide))
  rw [e1, e2, e3, e4] at hc
  have s1 := slN_mono a1
  have s2 := slN_mono a2
  refine va_mmin (own := cn own) hx hb (hml.trans a9.1.symm) hown (hts _ (hcw _ (by rw [← e1]; simp [csW]))) (hts _ (hcw _ (by rw [← e1]; simp [csW]))) (hts _ (WS_e (k := 13) (by decide))) (hts _ hc) (by omega) (by rw [catS_eq]; omega) (by omega) (by omega) hd ?_
  exact kk a1 a2 a3 a4 (okS_c okV_i (okS_t (okS_t a5))) a6 H locs ls a7 a8 a9
/-- the class of who is asked -/
def rcvOK (mi : Nat) (avs : List AV) : Bool := match avs with
  | .inr (.inr (some (k, _))) :: _ => Nat.beq (nthD mcL mi 99) (clsOf k) && (Nat.ble (clsOf k + 1) 8 || Nat.beq (clsOf k) 9)
  | _ => false
theorem mc_ok : ((List.range 209).all fun i => decide (meO (mt i) = nthD mcL i 99)) = true := by decide +kernel
/-- what a call is worth: by the method's contract -/
def CPd (G : GT) (l : Launch) (d n : Nat) (z mi : Nat) (avs : List AV) (h : AH) (post : Option AV → AH → Prop) : Prop :=
  (∃ (d' : Nat) (Q' : Option AV → AH → Prop), d' < d ∧ (z = 0 → rcvOK mi avs = true) ∧ Ev G l d' (mt mi) n n avs h Q' ∧ ∀ r h', Q' r h' → post r h') ∨
  (z = 1 ∧ 1 ≤ d ∧ ((mi = 32 ∧ ∃ a b : Int32, avs = [.inl a, .inl b] ∧ post (some (.inl (if a < b then b else a))) h) ∨ (mi = 33 ∧ ∃ a b : Int32, avs = [.inl a, .inl b] ∧ post (some (.inl (if b < a then b else a))) h)))
end CALLS
