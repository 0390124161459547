/-! what makes things; a row copied; another reading of the same world -/
def clr (h : AH) (o : AO) : AH := (fun k i j t => if (k, (i, j)) = o then 0 else h.1 k i j t, (fun k i j t => if (k, (i, j)) = o then 0 else h.2.1 k i j t, fun k i j t => if (k, (i, j)) = o then none else h.2.2 k i j t))
def cpyI (h : AH) (k i j k2 i2 j2 sp dp nn : Nat) : AH := (fun k' i' j' t => if (k', (i', j')) = ((k2, (i2, j2)) : AO) then (if dp ≤ t ∧ t < dp + nn then h.1 k i j (sp + (t - dp)) else h.1 k2 i2 j2 t) else h.1 k' i' j' t, h.2)
/-- the same, as far as the first n things of the world go -/
def eqH (n : Nat) (h h' : AH) : Prop := ∀ p, p < n → ∀ t, h'.1 (idOf p).1 (idOf p).2.1 (idOf p).2.2 t = h.1 (idOf p).1 (idOf p).2.1 (idOf p).2.2 t ∧ h'.2.1 (idOf p).1 (idOf p).2.1 (idOf p).2.2 t = h.2.1 (idOf p).1 (idOf p).2.1 (idOf p).2.2 t ∧ (t < sN (idOf p).1 → h'.2.2 (idOf p).1 (idOf p).2.1 (idOf p).2.2 t = h.2.2 (idOf p).1 (idOf p).2.1 (idOf p).2.2 t)
theorem okO_up {n n' : Nat} {o : AO} (h : okO n o) (hn : n ≤ n') : okO n' o := by
  rcases h with h | h
  · exact Or.inl ⟨h.1, by omega, h.2.2⟩
  · exact Or.inr h
theorem arrV_ext {cA : ClassId} {N : Nat} {f g : Nat → Value} (h : ∀ t, t < N → f t = g t) : arrV cA N f = arrV cA N g := by
  unfold arrV
  congr 2
  funext j
  exact h j.val j.isLt
theorem va_at_eq {G : GT} {h h' : AH} {o : AO} {a : Nat} {H : Heap} (hk : o.1 < 36) (e1 : h'.1 o.1 o.2.1 o.2.2 = h.1 o.1 o.2.1 o.2.2) (e2 : h'.2.1 o.1 o.2.1 o.2.2 = h.2.1 o.1 o.2.1 o.2.2) (e3 : ∀ t, t < sN o.1 → h'.2.2 o.1 o.2.1 o.2.2 t = h.2.2 o.1 o.2.1 o.2.2 t) (ha : va_at (gD G) CL (a, ent G h o) H) : va_at (gD G) CL (a, ent G h' o) H := by
  have h3 : ∀ k, k < 36 → tagOf k = 0 ∨ tagOf k = 1 ∨ tagOf k = 3 ∨ tagOf k = 4 ∨ tagOf k = 5 ∨ tagOf k = 6 ∨ (tagOf k = 99 ∧ clsOf k < 8) := by decide +kernel
  have arr : ∀ t0, tagOf o.1 = t0 → t0 ≠ 99 → (∀ g : AH, ent G g o = .inl (gA G t0, (lenOf o.1, .inr (.inr (.inr (.inr fun t => (g.2.2 o.1 o.2.1 o.2.2 t).map (adr G))))))) → va_at (gD G) CL (a, ent G h' o) H := by
    intro t0 q q9 hen
    rw [hen h] at ha
    rw [hen h']
    have ha : H[a]? = some (arrV (gA G t0) (lenOf o.1) (fun t => va_rf ((h.2.2 o.1 o.2.1 o.2.2 t).map (adr G)))) := ha
    show H[a]? = some (arrV (gA G t0) (lenOf o.1) (fun t => va_rf ((h'.2.2 o.1 o.2.1 o.2.2 t).map (adr G))))
    rw [ha]
    exact congrArg some (arrV_ext fun t ht => by rw [e3 t (by rw [sN_a (by omega) (by rw [q]; exact q9)]; exact ht)])
  rcases h3 o.1 hk with q | q | q | q | q | q | ⟨q, qc⟩
  · have hen : ∀ g : AH, ent G g o = .inl (gA G 0, (lenOf o.1, .inl (g.1 o.1 o.2.1 o.2.2))) := fun g => by simp only [ent, q]
    rw [hen, e1, ← hen]; exact ha
  · have hen : ∀ g : AH, ent G g o = .inl (gA G 1, (lenOf o.1, .inr (.inl (g.2.1 o.1 o.2.1 o.2.2)))) := fun g => by simp only [ent, q]
    rw [hen, e2, ← hen]; exact ha
  · have hen : ∀ g : AH, ent G g o = .inl (gA G 3, (lenOf o.1, .inl (g.1 o.1 o.2.1 o.2.2))) := fun g => by simp only [ent, q]
    rw [hen, e1, ← hen]; exact ha
  · exact arr 4 q (by decide) (fun g => by simp only [ent, q])
  · exact arr 5 q (by decide) (fun g => by simp only [ent, q])
  · exact arr 6 q (by decide) (fun g => by simp only [ent, q])
  · have hen : ent G h' o = ent G h o := by
      simp only [ent, q]
      refine congrArg (fun l => (Sum.inr (clsOf o.1, l) : va_E)) (List.map_congr_left fun s hs => ?_)
      have hs := List.mem_range.mp hs
      have e4 := e3 s (by rw [sN_f rfl qc]; exact hs)
      unfold fv
      rw [e1, e2, e4]
    rw [hen]; exact ha
theorem idOf_kind2 : ∀ p, p < 80 → (idOf p).1 < 36 := by decide +kernel
theorem va_P_eq {G : GT} {n : Nat} {h h' : AH} {H : Heap} (hn : n ≤ 80) (he : eqH n h h') (hP : va_P (gD G) CL (ws G n h) H) : va_P (gD G) CL (ws G n h') H := by
  intro k q hq
  obtain ⟨hk, rfl⟩ := ws_get hq
  have h1 : (ws G n h)[k]? = some (gz G + k, ent G h (idOf k)) := by
    unfold ws
    rw [List.getElem?_map, List.getElem?_range hk]
    rfl
  exact va_at_eq (idOf_kind2 k (by omega)) (funext fun t => (he k hk t).1) (funext fun t => (he k hk t).2.1) (fun t ht => (he k hk t).2.2 ht) (hP k _ h1)
theorem okH_eq {n : Nat} {h h' : AH} (he : eqH n h h') (H : okH n h) : okH n h' := by
  intro k i j hk ho
  obtain ⟨h1, h2⟩ := H k i j hk ho
  obtain ⟨g1, g2⟩ := okO_lt ho hk
  have e := he _ g1
  rw [g2] at e
  refine ⟨fun s o hsn hs => h1 s o hsn (by rw [← (e s).2.2 hsn]; exact hs), fun s hz => ?_⟩
  have e1 : h'.1 k i j s = h.1 k i j s := (e s).1
  rw [e1]
  exact h2 s hz
theorem ws_push {G : GT} {n : Nat} {h h' : AH} {H H' : Heap} (hn : n < 80) (hP : va_P (gD G) CL (ws G n h) H) (hk : ∀ q, q < H.size → H'[q]? = H[q]?) (he : eqH n h h') (ha : va_at (gD G) CL (gz G + n, ent G h' (idOf n)) H') : va_P (gD G) CL (ws G (n + 1) h') H' := by
  have hP := va_P_eq (by omega) he hP
  intro k q hq
  obtain ⟨hk1, rfl⟩ := ws_get hq
  by_cases hkn : k < n
  · have h1 : (ws G n h')[k]? = some (gz G + k, ent G h' (idOf k)) := by
      unfold ws
      rw [List.getElem?_map, List.getElem?_range hkn]
      rfl
    exact (hP k _ h1).kept (hk _ (hP k _ h1).lt)
  · rw [show k = n by omega]
    exact ha
theorem clr_eq {n : Nat} {h : AH} (hn : n < 80) : eqH n h (clr h (idOf n)) := by
  intro p hp t
  have hne : ¬ ((idOf p).1, ((idOf p).2.1, (idOf p).2.2)) = idOf n := fun q => by
    have q2 : idOf p = idOf n := q
    have q3 := congrArg pos q2
    rw [pos_idOf p (by omega), pos_idOf n hn] at q3
    omega
  exact ⟨if_neg hne, if_neg hne, fun _ => if_neg hne⟩
theorem okH_clr {n : Nat} {h : AH} (hn : n < 80) (H : okH n h) : okH (n + 1) (clr h (idOf n)) := by
  intro k i j hk ho
  obtain ⟨g1, g2⟩ := okO_lt ho hk
  by_cases hp : pos (k, (i, j)) = n
  · have e : (k, (i, j)) = idOf n := by rw [← g2, hp]
    refine ⟨fun s o _ hs => ?_, fun s _ => Or.inl ?_⟩
    · have hs : (if (k, (i, j)) = idOf n then none else h.2.2 k i j s) = some o := hs
      rw [if_pos e] at hs
      cases hs
    · exact if_pos e
  · have ho' : okO n (k, (i, j)) := Or.inl ⟨hk, by omega, g2⟩
    have h' := okH_eq (clr_eq hn) H k i j hk ho'
    exact ⟨fun s o hsn hs => okO_up (h'.1 s o hsn hs) (by omega), h'.2⟩
theorem okO_new {n : Nat} (hn : n < 80) : okO (n + 1) (idOf n) := Or.inl ⟨idOf_kind n hn, by rw [pos_idOf n hn]; omega, by rw [pos_idOf n hn]⟩
theorem slN_succ (n : Nat) : slN (n + 1) = slN n + (if tagOf (idOf n).1 = 99 then nF (clsOf (idOf n).1) else lenOf (idOf n).1) := by
  unfold slN
  rw [List.range_succ, List.map_append, List.sum_append]
  simp
theorem fT_7 : ∀ ci, ci < 8 → ∀ y, y < nF ci → fTag ci y = 0 ∨ fTag ci y = 1 ∨ fTag ci y = 2 ∨ fTag ci y = 3 := all2 (by decide +kernel)
theorem WS_g {w : Cond} (h : w ∈ wG) : w ∈ WS := by
  unfold WS
  exact List.mem_append_right _ (List.mem_append_right _ (List.mem_append_right _ (List.mem_append_right _ (List.mem_append_right _ (List.mem_append_right _ (List.mem_append_left _ h))))))
theorem WS_h {w : Cond} (h : w ∈ wH) : w ∈ WS := by
  unfold WS
  exact List.mem_append_right _ (List.mem_append_right _ (List.mem_append_right _ (List.mem_append_right _ (List.mem_append_right _ (List.mem_append_right _ (List.mem_append_right _ (List.mem_append_left _ h)))))))
theorem WS_i {w : Cond} (h : w ∈ wI) : w ∈ WS := by
  unfold WS
  exact List.mem_append_right _ (List.mem_append_right _ (List.mem_append_right _ (List.mem_append_right _ (List.mem_append_right _ (List.mem_append_right _ (List.mem_append_right _ (List.mem_append_right _ (List.mem_append_left _ h))))))))
section MAKE
variable {G : GT} {p : Program} {l : Launch} {e : Env} {R : Room} {s : State} {m : MethodId} {args : Array Value} {below : List Frame} {meth : Method} {c : Code} {n0 n1 : Nat} {Z : State → Prop} {mL own : Nat} {isI : Bool} {cc : ByteArray} {n pc : Nat} {L : List (Option AV)} {st : List AV} {h : AH}

theorem H_size {H : Heap} {locs : List Loc} (F : FC G p s m args meth c cc own isI mL n1) (hs0 : n0 < 80 → s.heap.size ≤ gz G + n0) (a1 : n0 ≤ n) (hn : n < 80) (a7 : va_P (gD G) CL (ws G n h) H) (a8 : va_S (vA G) s.heap H locs) (hz : H.size ≤ s.heap.size + (n - n0)) : H.size = gz G + n := by
  obtain ⟨-, -, -, -, -, hSC, -⟩ := F
  have h1 := hs0 (by omega)
  have h2 : gz G ≤ s.heap.size := hSC.2.2.2.2.2.2.2.2.2.2.2
  have h3 := a8.1
  cases n with
  | zero => omega
  | succ n =>
    have h4 : (ws G (n + 1) h)[n]? = some (gz G + n, ent G h (idOf n)) := by
      unfold ws
      rw [List.getElem?_map, List.getElem?_range (by omega)]
      rfl
    have h5 := (a7 n _ h4).lt
    dsimp only at h5
    omega
theorem sw_objinit {d q : Nat} {a : AO} (F : FC G p s m args meth c cc own isI mL n1) (hs0 : n0 < 80 → s.heap.size ≤ gz G + n0) (hR : d ≤ R.frames ∧ 64 * d ≤ R.locals ∧ n1 - n0 ≤ R.cells ∧ slN n1 - slN n0 ≤ R.slots) (hd : decode cc pc = .ok (.invokespecial q, 3)) (hq : (own, q) ∈ OI) (hdd : 1 ≤ d) (hct : catR st ≤ 8) (k : KW G p l e R s m args below meth c n0 n1 Z mL n (pc + 3) (L) (st) (h)) : KW G p l e R s m args below meth c n0 n1 Z mL n (pc) (L) (.inr (.inr (some a)) :: st) (h) := by
  intro a1 a2 a3 a4 a5 a6 H locs ls a7 a8 a9
  obtain ⟨hx, hb, hml, hown, hts, hSC, h80, hI⟩ := F
  refine W.objInit (own := cn own) (idx := q) (a := adr G a) (rest := st.map (cv G)) hx hb hown (hts _ (WS_g (List.mem_append_left _ (List.mem_map.mpr ⟨_, hq, rfl⟩)))) (hts _ (WS_g (List.mem_append_right _ List.mem_cons_self))) (hts _ (WS_g (List.mem_append_right _ (List.mem_cons_of_mem _ List.mem_cons_self)))) (g := F0 m pc ls ((.inr (.inr (some a)) :: st).map (cv G))) rfl (by rw [hml]; exact a9.1) rfl hd (Nat.le_trans hdd hR.1) (by have h5 := catS_eq (G := G) st; have h6 := hR.2.1; show 2 * 0 + ((st.map (cv G)).map fun v => v.category).sum + 12 ≤ R.locals; omega) ?_
  exact k a1 a2 a3 a4 (okS_t a5) a6 H locs ls a7 a8 a9
theorem sw_new {d q ci : Nat} (F : FC G p s m args meth c cc own isI mL n1) (hs0 : n0 < 80 → s.heap.size ≤ gz G + n0) (hR : d ≤ R.frames ∧ 64 * d ≤ R.locals ∧ n1 - n0 ≤ R.cells ∧ slN n1 - slN n0 ≤ R.slots) (hd : decode cc pc = .ok (.new q, 3)) (hq : (own, (q, ci)) ∈ CLk) (hid : clsOf (idOf n).1 = ci) (hci : ci < 8) (hnn : n + 1 ≤ n1) (kk : KW G p l e R s m args below meth c n0 n1 Z mL (n + 1) (pc + 3) (L) (.inr (.inr (some (idOf n))) :: st) (clr h (idOf n))) : KW G p l e R s m args below meth c n0 n1 Z mL n (pc) (L) (st) (h) := by
  intro a1 a2 a3 a4 a5 a6 H locs ls a7 a8 a9
  refine W_size fun hz => ?_
  have hz := H_size F hs0 a1 (by have := F.2.2.2.2.2.2.1; omega) a7 a8 hz
  obtain ⟨hx, hb, hml, hown, hts, hSC, h80, hI⟩ := F
  have hcls := CL_at ci hci
  have hKn := hSC.1.1 ci _ hcls
  have htg := nthD_cls _ ci hid hci
  have hsl : slN (n + 1) = slN n + nF ci := by rw [slN_succ, if_pos htg, hid]
  have s1 := slN_mono a1
  have s2 := slN_mono hnn
  refine W.newcK (own := cn own) (C := cn ci) (n := nF ci) (cC := (gD G).1 ci) (h := gz G + n) hx hb hown (hts _ (WS_h (List.mem_append_left _ (List.mem_map.mpr ⟨_, hq, rfl⟩)))) (hts _ (WS_h (List.mem_append_right _ (List.mem_append_left _ (List.mem_map.mpr ⟨_, List.mem_of_getElem? hcls, rfl⟩))))) (hts _ (WS_e (by omega))) rfl hd (by omega) (by omega) hKn.2.1 hz (fun H' kC hkC e1 z1 o1 => ?_)
  have ho1 : ∀ q, q < H.size → H'[q]? = H[q]? := fun q hq => o1 q (by omega)
  have hat : va_at (gD G) CL (gz G + n, ent G (clr h (idOf n)) (idOf n)) H' := by
    have hen : ent G (clr h (idOf n)) (idOf n) = .inr (ci, (List.range (nF ci)).map (fv G (clr h (idOf n)) (idOf n) ci)) := by simp only [ent, htg, hid]
    rw [hen]
    refine ⟨_, hcls, (u_born (fY ci) hts (WS_u hci) hKn hkC e1 (fT_2 ci hci)).to (fun y hy => ?_)⟩
    have e2 : vp_V ((List.range (nF ci)).map (fv G (clr h (idOf n)) (idOf n) ci)) y = fv G (clr h (idOf n)) (idOf n) ci y := by
      unfold vp_V
      rw [List.getD_eq_getElem?_getD, List.getElem?_map, List.getElem?_range hy]
      rfl
    rw [e2]
    have z1 : (clr h (idOf n)).1 (idOf n).1 (idOf n).2.1 (idOf n).2.2 y = 0 := if_pos rfl
    have z2 : (clr h (idOf n)).2.1 (idOf n).1 (idOf n).2.1 (idOf n).2.2 y = 0 := if_pos rfl
    have z3 : (clr h (idOf n)).2.2 (idOf n).1 (idOf n).2.1 (idOf n).2.2 y = none := if_pos rfl
    rcases fT_7 ci hci y hy with t | t | t | t
    · rw [fv_0 (Or.inl t), fT_3 ci hci y hy t, z1]; rfl
    · rw [fv_1 t, fT_4 ci hci y hy t, z2]; rfl
    · rw [fv_2 t, z3]
      have h6 := fT_6 ci hci y hy t
      cases hty : fY ci y <;> rw [hty] at h6 <;> first | exact absurd h6 (by decide) | rfl
    · rw [fv_0 (Or.inr t), fT_5 ci hci y hy t, z1]; rfl
  have hn80 : n < 80 := by omega
  have hP' := ws_push hn80 a7 ho1 (clr_eq hn80) hat
  have hkw := kk (by omega) hnn a3 (fun v hv o ho => okO_up (a4 v hv o ho) (by omega)) (okS_c (okV_r (okO_new hn80)) (fun v hv o ho => okO_up (a5 v hv o ho) (by omega))) (okH_clr hn80 a6) H' locs ls hP' ⟨by have := a8.1; omega, fun q q1 q2 => by rw [ho1 q (Nat.lt_of_lt_of_le q1 a8.1)]; exact a8.2.1 q q1 q2, a8.2.2⟩ a9
  rw [show n + 1 - n0 = n - n0 + 1 by omega, show slN (n + 1) - slN n0 = slN n - slN n0 + nF ci by omega] at hkw
  have e3 : (.inr (.inr (some (idOf n))) :: st).map (cv G) = Value.ref (gz G + n) :: st.map (cv G) := by
    show Value.ref (adr G (idOf n)) :: _ = _
    rw [adr_lt (idOf_kind n hn80), pos_idOf n hn80]
  rw [e3] at hkw
  exact hkw
theorem sw_newa_int {d : Nat} {a : Int32} (F : FC G p s m args meth c cc own isI mL n1) (hs0 : n0 < 80 → s.heap.size ≤ gz G + n0) (hR : d ≤ R.frames ∧ 64 * d ≤ R.locals ∧ n1 - n0 ≤ R.cells ∧ slN n1 - slN n0 ≤ R.slots) (hd : decode cc pc = .ok (.newarray .int, 2)) (hid : tagOf (idOf n).1 = 0) (ha : a = Int32.ofNat (lenOf (idOf n).1)) (hl : lenOf (idOf n).1 ≤ 2000) (hnn : n + 1 ≤ n1) (kk : KW G p l e R s m args below meth c n0 n1 Z mL (n + 1) (pc + 2) (L) (.inr (.inr (some (idOf n))) :: st) (clr h (idOf n))) : KW G p l e R s m args below meth c n0 n1 Z mL n (pc) (L) (.inl a :: st) (h) := by
  intro a1 a2 a3 a4 a5 a6 H locs ls a7 a8 a9
  refine W_size fun hz => ?_
  have hz := H_size F hs0 a1 (by have := F.2.2.2.2.2.2.1; omega) a7 a8 hz
  obtain ⟨hx, hb, hml, hown, hts, hSC, h80, hI⟩ := F
  have hsl : slN (n + 1) = slN n + lenOf (idOf n).1 := by rw [slN_succ, if_neg (by rw [hid]; decide)]
  have s1 := slN_mono a1
  have s2 := slN_mono hnn
  have hn80 : n < 80 := by omega
  have ha1 : ¬ a < 0 := by rw [ha]; exact nI_pos (by omega)
  have ha2 : a.toNatClampNeg = lenOf (idOf n).1 := by rw [ha]; exact nI_clamp (by omega)
  refine va_newaK (atype := .int) (N := lenOf (idOf n).1) (h := gz G + n) hx hb (hts _ (WS_h (List.mem_append_right _ (List.mem_append_right _ (by show Cond.arrayClass .int ∈ _; simp))))) rfl hd rfl ha1 ha2 (by show _ * 4 ≤ _; omega) (by omega) (by omega) hz (fun H' cA e1 z0 o1 hAr hNm => ?_)
  have hcA : cA = gA G 0 := by
    have q : s.vm.findClass ("[" ++ (.int : FieldType).toString) = some (gA G 0) := (hSC.1.2 0 _ rfl).2
    exact Option.some.inj (hNm.symm.trans q)
  have ho1 : ∀ q, q < H.size → H'[q]? = H[q]? := fun q hq => o1 q (by omega)
  have hat : va_at (gD G) CL (gz G + n, ent G (clr h (idOf n)) (idOf n)) H' := by
    have z1 : (clr h (idOf n)).1 (idOf n).1 (idOf n).2.1 (idOf n).2.2 = fun _ => 0 := funext fun _ => if_pos rfl
    have z2 : (clr h (idOf n)).2.1 (idOf n).1 (idOf n).2.1 (idOf n).2.2 = fun _ => 0 := funext fun _ => if_pos rfl
    have hen : ent G (clr h (idOf n)) (idOf n) = .inl (gA G 0, (lenOf (idOf n).1, .inl (fun _ => 0))) := by simp only [ent, hid, z1]
    rw [hen]
    show H'[gz G + n]? = some _
    rw [e1, hcA]
    rfl
  have hP' := ws_push hn80 a7 ho1 (clr_eq hn80) hat
  have hkw := kk (by omega) hnn a3 (fun v hv o ho => okO_up (a4 v hv o ho) (by omega)) (okS_c (okV_r (okO_new hn80)) (fun v hv o ho => okO_up (a5 v (List.mem_cons_of_mem _ hv) o ho) (by omega))) (okH_clr hn80 a6) H' locs ls hP' ⟨by have := a8.1; omega, fun q q1 q2 => by rw [ho1 q (Nat.lt_of_lt_of_le q1 a8.1)]; exact a8.2.1 q q1 q2, a8.2.2⟩ a9
  rw [show n + 1 - n0 = n - n0 + 1 by omega, show slN (n + 1) - slN n0 = slN n - slN n0 + lenOf (idOf n).1 by omega] at hkw
  have e3 : (.inr (.inr (some (idOf n))) :: st).map (cv G) = Value.ref (gz G + n) :: st.map (cv G) := by
    show Value.ref (adr G (idOf n)) :: _ = _
    rw [adr_lt (idOf_kind n hn80), pos_idOf n hn80]
  rw [e3] at hkw
  exact hkw
theorem sw_newa_long {d : Nat} {a : Int32} (F : FC G p s m args meth c cc own isI mL n1) (hs0 : n0 < 80 → s.heap.size ≤ gz G + n0) (hR : d ≤ R.frames ∧ 64 * d ≤ R.locals ∧ n1 - n0 ≤ R.cells ∧ slN n1 - slN n0 ≤ R.slots) (hd : decode cc pc = .ok (.newarray .long, 2)) (hid : tagOf (idOf n).1 = 1) (ha : a = Int32.ofNat (lenOf (idOf n).1)) (hl : lenOf (idOf n).1 ≤ 2000) (hnn : n + 1 ≤ n1) (kk : KW G p l e R s m args below meth c n0 n1 Z mL (n + 1) (pc + 2) (L) (.inr (.inr (some (idOf n))) :: st) (clr h (idOf n))) : KW G p l e R s m args below meth c n0 n1 Z mL n (pc) (L) (.inl a :: st) (h) := by
  intro a1 a2 a3 a4 a5 a6 H locs ls a7 a8 a9
  refine W_size fun hz => ?_
  have hz := H_size F hs0 a1 (by have := F.2.2.2.2.2.2.1; omega) a7 a8 hz
  obtain ⟨hx, hb, hml, hown, hts, hSC, h80, hI⟩ := F
  have hsl : slN (n + 1) = slN n + lenOf (idOf n).1 := by rw [slN_succ, if_neg (by rw [hid]; decide)]
  have s1 := slN_mono a1
  have s2 := slN_mono hnn
  have hn80 : n < 80 := by omega
  have ha1 : ¬ a < 0 := by rw [ha]; exact nI_pos (by omega)
  have ha2 : a.toNatClampNeg = lenOf (idOf n).1 := by rw [ha]; exact nI_clamp (by omega)
  refine va_newaK (atype := .long) (N := lenOf (idOf n).1) (h := gz G + n) hx hb (hts _ (WS_h (List.mem_append_right _ (List.mem_append_right _ (by show Cond.arrayClass .long ∈ _; simp))))) rfl hd rfl ha1 ha2 (by show _ * 8 ≤ _; omega) (by omega) (by omega) hz (fun H' cA e1 z0 o1 hAr hNm => ?_)
  have hcA : cA = gA G 1 := by
    have q : s.vm.findClass ("[" ++ (.long : FieldType).toString) = some (gA G 1) := (hSC.1.2 1 _ rfl).2
    exact Option.some.inj (hNm.symm.trans q)
  have ho1 : ∀ q, q < H.size → H'[q]? = H[q]? := fun q hq => o1 q (by omega)
  have hat : va_at (gD G) CL (gz G + n, ent G (clr h (idOf n)) (idOf n)) H' := by
    have z1 : (clr h (idOf n)).1 (idOf n).1 (idOf n).2.1 (idOf n).2.2 = fun _ => 0 := funext fun _ => if_pos rfl
    have z2 : (clr h (idOf n)).2.1 (idOf n).1 (idOf n).2.1 (idOf n).2.2 = fun _ => 0 := funext fun _ => if_pos rfl
    have hen : ent G (clr h (idOf n)) (idOf n) = .inl (gA G 1, (lenOf (idOf n).1, .inr (.inl (fun _ => 0)))) := by simp only [ent, hid, z2]
    rw [hen]
    show H'[gz G + n]? = some _
    rw [e1, hcA]
    rfl
  have hP' := ws_push hn80 a7 ho1 (clr_eq hn80) hat
  have hkw := kk (by omega) hnn a3 (fun v hv o ho => okO_up (a4 v hv o ho) (by omega)) (okS_c (okV_r (okO_new hn80)) (fun v hv o ho => okO_up (a5 v (List.mem_cons_of_mem _ hv) o ho) (by omega))) (okH_clr hn80 a6) H' locs ls hP' ⟨by have := a8.1; omega, fun q q1 q2 => by rw [ho1 q (Nat.lt_of_lt_of_le q1 a8.1)]; exact a8.2.1 q q1 q2, a8.2.2⟩ a9
  rw [show n + 1 - n0 = n - n0 + 1 by omega, show slN (n + 1) - slN n0 = slN n - slN n0 + lenOf (idOf n).1 by omega] at hkw
  have e3 : (.inr (.inr (some (idOf n))) :: st).map (cv G) = Value.ref (gz G + n) :: st.map (cv G) := by
    show Value.ref (adr G (idOf n)) :: _ = _
    rw [adr_lt (idOf_kind n hn80), pos_idOf n hn80]
  rw [e3] at hkw
  exact hkw
theorem sw_newa_boolean {d : Nat} {a : Int32} (F : FC G p s m args meth c cc own isI mL n1) (hs0 : n0 < 80 → s.heap.size ≤ gz G + n0) (hR : d ≤ R.frames ∧ 64 * d ≤ R.locals ∧ n1 - n0 ≤ R.cells ∧ slN n1 - slN n0 ≤ R.slots) (hd : decode cc pc = .ok (.newarray .boolean, 2)) (hid : tagOf (idOf n).1 = 3) (ha : a = Int32.ofNat (lenOf (idOf n).1)) (hl : lenOf (idOf n).1 ≤ 2000) (hnn : n + 1 ≤ n1) (kk : KW G p l e R s m args below meth c n0 n1 Z mL (n + 1) (pc + 2) (L) (.inr (.inr (some (idOf n))) :: st) (clr h (idOf n))) : KW G p l e R s m args below meth c n0 n1 Z mL n (pc) (L) (.inl a :: st) (h) := by
  intro a1 a2 a3 a4 a5 a6 H locs ls a7 a8 a9
  refine W_size fun hz => ?_
  have hz := H_size F hs0 a1 (by have := F.2.2.2.2.2.2.1; omega) a7 a8 hz
  obtain ⟨hx, hb, hml, hown, hts, hSC, h80, hI⟩ := F
  have hsl : slN (n + 1) = slN n + lenOf (idOf n).1 := by rw [slN_succ, if_neg (by rw [hid]; decide)]
  have s1 := slN_mono a1
  have s2 := slN_mono hnn
  have hn80 : n < 80 := by omega
  have ha1 : ¬ a < 0 := by rw [ha]; exact nI_pos (by omega)
  have ha2 : a.toNatClampNeg = lenOf (idOf n).1 := by rw [ha]; exact nI_clamp (by omega)
  refine va_newaK (atype := .boolean) (N := lenOf (idOf n).1) (h := gz G + n) hx hb (hts _ (WS_h (List.mem_append_right _ (List.mem_append_right _ (by show Cond.arrayClass .boolean ∈ _; simp))))) rfl hd rfl ha1 ha2 (by show _ * 1 ≤ _; omega) (by omega) (by omega) hz (fun H' cA e1 z0 o1 hAr hNm => ?_)
  have hcA : cA = gA G 3 := by
    have q : s.vm.findClass ("[" ++ (.boolean : FieldType).toString) = some (gA G 3) := (hSC.1.2 3 _ rfl).2
    exact Option.some.inj (hNm.symm.trans q)
  have ho1 : ∀ q, q < H.size → H'[q]? = H[q]? := fun q hq => o1 q (by omega)
  have hat : va_at (gD G) CL (gz G + n, ent G (clr h (idOf n)) (idOf n)) H' := by
    have z1 : (clr h (idOf n)).1 (idOf n).1 (idOf n).2.1 (idOf n).2.2 = fun _ => 0 := funext fun _ => if_pos rfl
    have z2 : (clr h (idOf n)).2.1 (idOf n).1 (idOf n).2.1 (idOf n).2.2 = fun _ => 0 := funext fun _ => if_pos rfl
    have hen : ent G (clr h (idOf n)) (idOf n) = .inl (gA G 3, (lenOf (idOf n).1, .inl (fun _ => 0))) := by simp only [ent, hid, z1]
    rw [hen]
    show H'[gz G + n]? = some _
    rw [e1, hcA]
    rfl
  have hP' := ws_push hn80 a7 ho1 (clr_eq hn80) hat
  have hkw := kk (by omega) hnn a3 (fun v hv o ho => okO_up (a4 v hv o ho) (by omega)) (okS_c (okV_r (okO_new hn80)) (fun v hv o ho => okO_up (a5 v (List.mem_cons_of_mem _ hv) o ho) (by omega))) (okH_clr hn80 a6) H' locs ls hP' ⟨by have := a8.1; omega, fun q q1 q2 => by rw [ho1 q (Nat.lt_of_lt_of_le q1 a8.1)]; exact a8.2.1 q q1 q2, a8.2.2⟩ a9
  rw [show n + 1 - n0 = n - n0 + 1 by omega, show slN (n + 1) - slN n0 = slN n - slN n0 + lenOf (idOf n).1 by omega] at hkw
  have e3 : (.inr (.inr (some (idOf n))) :: st).map (cv G) = Value.ref (gz G + n) :: st.map (cv G) := by
    show Value.ref (adr G (idOf n)) :: _ = _
    rw [adr_lt (idOf_kind n hn80), pos_idOf n hn80]
  rw [e3] at hkw
  exact hkw
theorem sw_anew4 {d q : Nat} {a : Int32} (F : FC G p s m args meth c cc own isI mL n1) (hs0 : n0 < 80 → s.heap.size ≤ gz G + n0) (hR : d ≤ R.frames ∧ 64 * d ≤ R.locals ∧ n1 - n0 ≤ R.cells ∧ slN n1 - slN n0 ≤ R.slots) (hd : decode cc pc = .ok (.anewarray q, 3)) (hq : (own, (q, 2)) ∈ CLk) (hid : tagOf (idOf n).1 = 4) (ha : a = Int32.ofNat (lenOf (idOf n).1)) (hl : lenOf (idOf n).1 ≤ 2000) (hnn : n + 1 ≤ n1) (kk : KW G p l e R s m args below meth c n0 n1 Z mL (n + 1) (pc + 3) (L) (.inr (.inr (some (idOf n))) :: st) (clr h (idOf n))) : KW G p l e R s m args below meth c n0 n1 Z mL n (pc) (L) (.inl a :: st) (h) := by
  intro a1 a2 a3 a4 a5 a6 H locs ls a7 a8 a9
  refine W_size fun hz => ?_
  have hz := H_size F hs0 a1 (by have := F.2.2.2.2.2.2.1; omega) a7 a8 hz
  obtain ⟨hx, hb, hml, hown, hts, hSC, h80, hI⟩ := F
  have hsl : slN (n + 1) = slN n + lenOf (idOf n).1 := by rw [slN_succ, if_neg (by rw [hid]; decide)]
  have s1 := slN_mono a1
  have s2 := slN_mono hnn
  have hn80 : n < 80 := by omega
  have ha1 : ¬ a < 0 := by rw [ha]; exact nI_pos (by omega)
  have ha2 : a.toNatClampNeg = lenOf (idOf n).1 := by rw [ha]; exact nI_clamp (by omega)
  refine W.anew (own := cn own) (C := cn 2) (index := q) hx hb hown (hts _ (WS_h (List.mem_append_left _ (List.mem_map.mpr ⟨_, hq, rfl⟩)))) hSC.2.2.2.2.2.2.2.2.1.1 rfl hd (n := a) (rest := st.map (cv G)) rfl ha1 (by rw [ha2]; omega) (by omega) (by rw [ha2]; omega) (fun cA kA comp f1 f2 f3 f4 => ?_)
  rw [ha2]
  generalize hH1 : H.push ({ cls := cA, slots := Array.replicate (lenOf (idOf n).1) .null, vm := .none } : Cell) = H'
  have z0 : H'.size = H.size + 1 := by rw [← hH1, Array.size_push]
  have e1 : H'[H.size]? = some (arrV cA (lenOf (idOf n).1) (fun _ => .null)) := by rw [← hH1, Array.getElem?_push_size, ← arrV_new]
  have ho1 : ∀ q, q < H.size → H'[q]? = H[q]? := fun q hq => by rw [← hH1, Array.getElem?_push, if_neg (Nat.ne_of_lt hq)]
  have hcA : cA = gA G 4 := by
    obtain ⟨kA', comp', -, -, -, q⟩ := (hSC.1.2 4 _ rfl).2
    exact Option.some.inj (f1.symm.trans q)
  have hat : va_at (gD G) CL (gz G + n, ent G (clr h (idOf n)) (idOf n)) H' := by
    have z3 : ∀ t, (clr h (idOf n)).2.2 (idOf n).1 (idOf n).2.1 (idOf n).2.2 t = none := fun _ => if_pos rfl
    have hen : ent G (clr h (idOf n)) (idOf n) = .inl (gA G 4, (lenOf (idOf n).1, .inr (.inr (.inr (.inr (fun _ => none)))))) := by simp only [ent, hid, z3, Option.map_none]
    rw [hen]
    show H'[gz G + n]? = some _
    rw [← hz, e1, hcA]
    rfl
  have hP' := ws_push hn80 a7 ho1 (clr_eq hn80) hat
  have hkw := kk (by omega) hnn a3 (fun v hv o ho => okO_up (a4 v hv o ho) (by omega)) (okS_c (okV_r (okO_new hn80)) (fun v hv o ho => okO_up (a5 v (List.mem_cons_of_mem _ hv) o ho) (by omega))) (okH_clr hn80 a6) H' locs ls hP' ⟨by have := a8.1; omega, fun q q1 q2 => by rw [ho1 q (Nat.lt_of_lt_of_le q1 a8.1)]; exact a8.2.1 q q1 q2, a8.2.2⟩ a9
  rw [show n + 1 - n0 = n - n0 + 1 by omega, show slN (n + 1) - slN n0 = slN n - slN n0 + lenOf (idOf n).1 by omega] at hkw
  have e3 : (.inr (.inr (some (idOf n))) :: st).map (cv G) = Value.ref H.size :: st.map (cv G) := by
    show Value.ref (adr G (idOf n)) :: _ = _
    rw [adr_lt (idOf_kind n hn80), pos_idOf n hn80, hz]
  rw [e3] at hkw
  exact hkw
theorem sw_anew5 {d q : Nat} {a : Int32} (F : FC G p s m args meth c cc own isI mL n1) (hs0 : n0 < 80 → s.heap.size ≤ gz G + n0) (hR : d ≤ R.frames ∧ 64 * d ≤ R.locals ∧ n1 - n0 ≤ R.cells ∧ slN n1 - slN n0 ≤ R.slots) (hd : decode cc pc = .ok (.anewarray q, 3)) (hq : (own, (q, 3)) ∈ CLk) (hid : tagOf (idOf n).1 = 5) (ha : a = Int32.ofNat (lenOf (idOf n).1)) (hl : lenOf (idOf n).1 ≤ 2000) (hnn : n + 1 ≤ n1) (kk : KW G p l e R s m args below meth c n0 n1 Z mL (n + 1) (pc + 3) (L) (.inr (.inr (some (idOf n))) :: st) (clr h (idOf n))) : KW G p l e R s m args below meth c n0 n1 Z mL n (pc) (L) (.inl a :: st) (h) := by
  intro a1 a2 a3 a4 a5 a6 H locs ls a7 a8 a9
  refine W_size fun hz => ?_
  have hz := H_size F hs0 a1 (by have := F.2.2.2.2.2.2.1; omega) a7 a8 hz
  obtain ⟨hx, hb, hml, hown, hts, hSC, h80, hI⟩ := F
  have hsl : slN (n + 1) = slN n + lenOf (idOf n).1 := by rw [slN_succ, if_neg (by rw [hid]; decide)]
  have s1 := slN_mono a1
  have s2 := slN_mono hnn
  have hn80 : n < 80 := by omega
  have ha1 : ¬ a < 0 := by rw [ha]; exact nI_pos (by omega)
  have ha2 : a.toNatClampNeg = lenOf (idOf n).1 := by rw [ha]; exact nI_clamp (by omega)
  refine W.anew (own := cn own) (C := cn 3) (index := q) hx hb hown (hts _ (WS_h (List.mem_append_left _ (List.mem_map.mpr ⟨_, hq, rfl⟩)))) hSC.2.2.2.2.2.2.2.2.1.2.1 rfl hd (n := a) (rest := st.map (cv G)) rfl ha1 (by rw [ha2]; omega) (by omega) (by rw [ha2]; omega) (fun cA kA comp f1 f2 f3 f4 => ?_)
  rw [ha2]
  generalize hH1 : H.push ({ cls := cA, slots := Array.replicate (lenOf (idOf n).1) .null, vm := .none } : Cell) = H'
  have z0 : H'.size = H.size + 1 := by rw [← hH1, Array.size_push]
  have e1 : H'[H.size]? = some (arrV cA (lenOf (idOf n).1) (fun _ => .null)) := by rw [← hH1, Array.getElem?_push_size, ← arrV_new]
  have ho1 : ∀ q, q < H.size → H'[q]? = H[q]? := fun q hq => by rw [← hH1, Array.getElem?_push, if_neg (Nat.ne_of_lt hq)]
  have hcA : cA = gA G 5 := by
    obtain ⟨kA', comp', -, -, -, q⟩ := (hSC.1.2 5 _ rfl).2
    exact Option.some.inj (f1.symm.trans q)
  have hat : va_at (gD G) CL (gz G + n, ent G (clr h (idOf n)) (idOf n)) H' := by
    have z3 : ∀ t, (clr h (idOf n)).2.2 (idOf n).1 (idOf n).2.1 (idOf n).2.2 t = none := fun _ => if_pos rfl
    have hen : ent G (clr h (idOf n)) (idOf n) = .inl (gA G 5, (lenOf (idOf n).1, .inr (.inr (.inr (.inr (fun _ => none)))))) := by simp only [ent, hid, z3, Option.map_none]
    rw [hen]
    show H'[gz G + n]? = some _
    rw [← hz, e1, hcA]
    rfl
  have hP' := ws_push hn80 a7 ho1 (clr_eq hn80) hat
  have hkw := kk (by omega) hnn a3 (fun v hv o ho => okO_up (a4 v hv o ho) (by omega)) (okS_c (okV_r (okO_new hn80)) (fun v hv o ho => okO_up (a5 v (List.mem_cons_of_mem _ hv) o ho) (by omega))) (okH_clr hn80 a6) H' locs ls hP' ⟨by have := a8.1; omega, fun q q1 q2 => by rw [ho1 q (Nat.lt_of_lt_of_le q1 a8.1)]; exact a8.2.1 q q1 q2, a8.2.2⟩ a9
  rw [show n + 1 - n0 = n - n0 + 1 by omega, show slN (n + 1) - slN n0 = slN n - slN n0 + lenOf (idOf n).1 by omega] at hkw
  have e3 : (.inr (.inr (some (idOf n))) :: st).map (cv G) = Value.ref H.size :: st.map (cv G) := by
    show Value.ref (adr G (idOf n)) :: _ = _
    rw [adr_lt (idOf_kind n hn80), pos_idOf n hn80, hz]
  rw [e3] at hkw
  exact hkw
theorem sw_anew6 {d q : Nat} {a : Int32} (F : FC G p s m args meth c cc own isI mL n1) (hs0 : n0 < 80 → s.heap.size ≤ gz G + n0) (hR : d ≤ R.frames ∧ 64 * d ≤ R.locals ∧ n1 - n0 ≤ R.cells ∧ slN n1 - slN n0 ≤ R.slots) (hd : decode cc pc = .ok (.anewarray q, 3)) (hq : (own, (q, 0)) ∈ CLk) (hid : tagOf (idOf n).1 = 6) (ha : a = Int32.ofNat (lenOf (idOf n).1)) (hl : lenOf (idOf n).1 ≤ 2000) (hnn : n + 1 ≤ n1) (kk : KW G p l e R s m args below meth c n0 n1 Z mL (n + 1) (pc + 3) (L) (.inr (.inr (some (idOf n))) :: st) (clr h (idOf n))) : KW G p l e R s m args below meth c n0 n1 Z mL n (pc) (L) (.inl a :: st) (h) := by
  intro a1 a2 a3 a4 a5 a6 H locs ls a7 a8 a9
  refine W_size fun hz => ?_
  have hz := H_size F hs0 a1 (by have := F.2.2.2.2.2.2.1; omega) a7 a8 hz
  obtain ⟨hx, hb, hml, hown, hts, hSC, h80, hI⟩ := F
  have hsl : slN (n + 1) = slN n + lenOf (idOf n).1 := by rw [slN_succ, if_neg (by rw [hid]; decide)]
  have s1 := slN_mono a1
  have s2 := slN_mono hnn
  have hn80 : n < 80 := by omega
  have ha1 : ¬ a < 0 := by rw [ha]; exact nI_pos (by omega)
  have ha2 : a.toNatClampNeg = lenOf (idOf n).1 := by rw [ha]; exact nI_clamp (by omega)
  refine W.anew (own := cn own) (C := cn 0) (index := q) hx hb hown (hts _ (WS_h (List.mem_append_left _ (List.mem_map.mpr ⟨_, hq, rfl⟩)))) hSC.2.2.2.2.2.2.2.2.1.2.2 rfl hd (n := a) (rest := st.map (cv G)) rfl ha1 (by rw [ha2]; omega) (by omega) (by rw [ha2]; omega) (fun cA kA comp f1 f2 f3 f4 => ?_)
  rw [ha2]
  generalize hH1 : H.push ({ cls := cA, slots := Array.replicate (lenOf (idOf n).1) .null, vm := .none } : Cell) = H'
  have z0 : H'.size = H.size + 1 := by rw [← hH1, Array.size_push]
  have e1 : H'[H.size]? = some (arrV cA (lenOf (idOf n).1) (fun _ => .null)) := by rw [← hH1, Array.getElem?_push_size, ← arrV_new]
  have ho1 : ∀ q, q < H.size → H'[q]? = H[q]? := fun q hq => by rw [← hH1, Array.getElem?_push, if_neg (Nat.ne_of_lt hq)]
  have hcA : cA = gA G 6 := by
    obtain ⟨kA', comp', -, -, -, q⟩ := (hSC.1.2 6 _ rfl).2
    exact Option.some.inj (f1.symm.trans q)
  have hat : va_at (gD G) CL (gz G + n, ent G (clr h (idOf n)) (idOf n)) H' := by
    have z3 : ∀ t, (clr h (idOf n)).2.2 (idOf n).1 (idOf n).2.1 (idOf n).2.2 t = none := fun _ => if_pos rfl
    have hen : ent G (clr h (idOf n)) (idOf n) = .inl (gA G 6, (lenOf (idOf n).1, .inr (.inr (.inr (.inr (fun _ => none)))))) := by simp only [ent, hid, z3, Option.map_none]
    rw [hen]
    show H'[gz G + n]? = some _
    rw [← hz, e1, hcA]
    rfl
  have hP' := ws_push hn80 a7 ho1 (clr_eq hn80) hat
  have hkw := kk (by omega) hnn a3 (fun v hv o ho => okO_up (a4 v hv o ho) (by omega)) (okS_c (okV_r (okO_new hn80)) (fun v hv o ho => okO_up (a5 v (List.mem_cons_of_mem _ hv) o ho) (by omega))) (okH_clr hn80 a6) H' locs ls hP' ⟨by have := a8.1; omega, fun q q1 q2 => by rw [ho1 q (Nat.lt_of_lt_of_le q1 a8.1)]; exact a8.2.1 q q1 q2, a8.2.2⟩ a9
  rw [show n + 1 - n0 = n - n0 + 1 by omega, show slN (n + 1) - slN n0 = slN n - slN n0 + lenOf (idOf n).1 by omega] at hkw
  have e3 : (.inr (.inr (some (idOf n))) :: st).map (cv G) = Value.ref H.size :: st.map (cv G) := by
    show Value.ref (adr G (idOf n)) :: _ = _
    rw [adr_lt (idOf_kind n hn80), pos_idOf n hn80, hz]
  rw [e3] at hkw
  exact hkw
/-- a row of ints copied -/
theorem sw_copy {d k i j k2 i2 j2 : Nat} {sp dp nn : Int32} (F : FC G p s m args meth c cc own isI mL n1) (hs0 : n0 < 80 → s.heap.size ≤ gz G + n0) (hR : d ≤ R.frames ∧ 64 * d ≤ R.locals ∧ n1 - n0 ≤ R.cells ∧ slN n1 - slN n0 ≤ R.slots) (hd : decode cc pc = .ok (.invokestatic 287, 3)) (ho6 : own = 6) (ht : tagOf k = 0) (ht2 : tagOf k2 = 0) (h1 : ¬ sp < 0) (h2 : ¬ dp < 0) (h3 : ¬ nn < 0) (h4 : sp.toNatClampNeg + nn.toNatClampNeg ≤ lenOf k) (h5 : dp.toNatClampNeg + nn.toNatClampNeg ≤ lenOf k2) (hdd : 1 ≤ d) (hct : catR st ≤ 8) (kk : KW G p l e R s m args below meth c n0 n1 Z mL n (pc + 3) (L) (st) (cpyI h k i j k2 i2 j2 sp.toNatClampNeg dp.toNatClampNeg nn.toNatClampNeg)) : KW G p l e R s m args below meth c n0 n1 Z mL n (pc) (L) (.inl nn :: .inl dp :: .inr (.inr (some (k2, (i2, j2)))) :: .inl sp :: .inr (.inr (some (k, (i, j)))) :: st) (h) := by
  intro a1 a2 a3 a4 a5 a6 H locs ls a7 a8 a9
  obtain ⟨hx, hb, hml, hown, hts, hSC, h80, hI⟩ := F
  have hoA : okO n (k, (i, j)) := a5 (.inr (.inr (some (k, (i, j))))) (by simp) _ rfl
  have hoB : okO n (k2, (i2, j2)) := a5 (.inr (.inr (some (k2, (i2, j2))))) (by simp) _ rfl
  have hk : k < 40 := kind_lt (Or.inl (by rw [ht]; decide))
  have hk2 : k2 < 40 := kind_lt (Or.inl (by rw [ht2]; decide))
  obtain ⟨p1, p2⟩ := okO_lt hoA hk
  obtain ⟨p3, p4⟩ := okO_lt hoB hk2
  have heA := ws_at (G := G) (h := h) p1 p2
  have heB := ws_at (G := G) (h := h) p3 p4
  rw [show ent G h (k, (i, j)) = .inl (gA G 0, (lenOf k, .inl (h.1 k i j))) by simp only [ent, ht]] at heA
  rw [show ent G h (k2, (i2, j2)) = .inl (gA G 0, (lenOf k2, .inl (h.1 k2 i2 j2))) by simp only [ent, ht2]] at heB
  have hcA : cv G (.inr (.inr (some (k, (i, j))))) = .ref (gz G + pos (k, (i, j))) := by show Value.ref (adr G _) = _; rw [adr_lt hk]
  have hcB : cv G (.inr (.inr (some (k2, (i2, j2))))) = .ref (gz G + pos (k2, (i2, j2))) := by show Value.ref (adr G _) = _; rw [adr_lt hk2]
  subst ho6
  show W p l e R s m args below meth c H locs (n - n0) (slN n - slN n0) Z (F0 m pc ls (.int nn :: .int dp :: cv G (.inr (.inr (some (k2, (i2, j2))))) :: .int sp :: cv G (.inr (.inr (some (k, (i, j))))) :: st.map (cv G)))
  rw [hcA, hcB]
  have hi1 : Cond.methodLink "ListenerIsTired" 287 arraycopyName ∈ WS := WS_i (by unfold wI; simp)
  have hi2 : Cond.static arraycopyName ∈ WS := WS_i (by unfold wI; simp)
  have hi3 : Cond.native arraycopyName ∈ WS := WS_i (by unfold wI; simp)
  refine va_copyi (own := "ListenerIsTired") (ty := .int) hx hb (hml.trans a9.1.symm) hown (hts _ hi1) (hts _ hi3) (hts _ hi2) (hts _ (WS_e (k := 15) (by decide))) hSC.1 a7 ws_D a8 (pos (k, (i, j))) (pos (k2, (i2, j2))) 0 0 heA heB rfl rfl rfl h1 h2 h3 h4 h5 (fun _ _ => rfl) (by omega) (by have h5 := catS_eq (G := G) st; have h6 : nativeFrameWords "java/lang/System" "arraycopy" 5 = 7 := (by decide +kernel); have h7 := hR.2.1; omega) hd (fun H1 locs1 b1 b2 b3 => ?_)
  have hE : ent G (cpyI h k i j k2 i2 j2 sp.toNatClampNeg dp.toNatClampNeg nn.toNatClampNeg) (k2, (i2, j2)) = .inl (gA G 0, (lenOf k2, .inl (va_cpy (h.1 k i j) (h.1 k2 i2 j2) sp.toNatClampNeg dp.toNatClampNeg nn.toNatClampNeg))) := by
    have e : (cpyI h k i j k2 i2 j2 sp.toNatClampNeg dp.toNatClampNeg nn.toNatClampNeg).1 k2 i2 j2 = va_cpy (h.1 k i j) (h.1 k2 i2 j2) sp.toNatClampNeg dp.toNatClampNeg nn.toNatClampNeg := by
      funext t
      show (if _ then _ else _) = _
      rw [if_pos rfl]
      rfl
    simp only [ent, ht2, e]
  rw [ws_up (h' := cpyI h k i j k2 i2 j2 sp.toNatClampNeg dp.toNatClampNeg nn.toNatClampNeg) (by omega) p3 hE p4 (fun o' ho' => ⟨funext fun t => if_neg ho', rfl, rfl⟩)] at b1
  have hok : okH n (cpyI h k i j k2 i2 j2 sp.toNatClampNeg dp.toNatClampNeg nn.toNatClampNeg) := by
    intro k' i' j' hk' ho'
    refine ⟨(a6 k' i' j' hk' ho').1, fun t hz => ?_⟩
    have hne : ¬ ((k', (i', j')) : AO) = (k2, (i2, j2)) := fun q => by
      have q1 : k' = k2 := congrArg Prod.fst q
      rw [q1] at hz
      exact isZ_a (by rw [ht2]; decide) (by rw [ht2]; decide) hz
    show (if _ then _ else _) = _ ∨ (if _ then _ else _) = _
    rw [if_neg hne]
    exact (a6 k' i' j' hk' ho').2 t hz
  exact kk a1 a2 a3 a4 (okS_t (okS_t (okS_t (okS_t (okS_t a5))))) hok H1 locs1 ls b1 b3 a9
/-- another reading of the same world -/
theorem sw_eqH {h' : AH} (h80 : n1 ≤ 80) (he : eqH n h h') (k : KW G p l e R s m args below meth c n0 n1 Z mL n (pc) (L) (st) (h')) : KW G p l e R s m args below meth c n0 n1 Z mL n (pc) (L) (st) (h) := by
  intro a1 a2 a3 a4 a5 a6 H locs ls a7 a8 a9
  exact k a1 a2 a3 a4 a5 (okH_eq he a6) H locs ls (va_P_eq (by omega) he a7) a8 a9
end MAKE
