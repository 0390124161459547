/-! the class reads the whole text to a rule -/
section Y9
theorem sq_le {N : Nat} {R : PR} {k : Nat → PR} (h : R.2.2 ≤ N) (hk : ∀ j, j ≤ N → (k j).2.2 ≤ N) : (sq R k).2.2 ≤ N := by
  cases hr : R.1 with
  | true => rw [sq_t hr]; exact hk _ h
  | false => rw [sq_f hr]; exact h
/-- whether or not it can stand so: no token behind the end is passed -/
theorem prs_le {T M : Nat → Int32} {N : Nat} (hT : ∀ i, T i ≠ 0 → i < N) : ∀ f lv o i, i ≤ N → (prs T M f lv o i).2.2 ≤ N
  | 0, _, _, _, h => h
  | f + 1, 0, o, i, h => sq_le (prs_le hT f 1 o i h) (fun j hj => prs_le hT f 7 o j hj)
  | f + 1, 1, o, i, h => sq_le (prs_le hT f 2 o i h) (fun j hj => prs_le hT f 8 o j hj)
  | f + 1, 2, o, i, h => by
    show (if T i = 1011 then (if 5 ≤ o then nO i else sq (prs T M f 2 (o + 1) (i + 1)) (em (-11) oK)) else prs T M f 3 o i).2.2 ≤ N
    split
    · rename_i c
      split
      · exact h
      · exact sq_le (prs_le hT f 2 (o + 1) (i + 1) (hT i (ne0 c (by decide)))) (fun j hj => hj)
    · exact prs_le hT f 3 o i h
  | f + 1, 3, o, i, h => by
    refine sq_le (prs_le hT f 4 o i h) (fun j hj => ?_)
    show (if T j = 60 then sq (prs T M f 4 o (j + 1)) (em (-23) oK) else if T j = 61 then sq (prs T M f 4 o (j + 1)) (em (-24) oK) else oK j).2.2 ≤ N
    split
    · rename_i c
      exact sq_le (prs_le hT f 4 o (j + 1) (hT j (ne0 c (by decide)))) (fun j hj => hj)
    · split
      · rename_i c
        exact sq_le (prs_le hT f 4 o (j + 1) (hT j (ne0 c (by decide)))) (fun j hj => hj)
      · exact hj
  | f + 1, 4, o, i, h => sq_le (prs_le hT f 5 o i h) (fun j hj => prs_le hT f 9 o j hj)
  | f + 1, 5, o, i, h => sq_le (prs_le hT f 6 o i h) (fun j hj => prs_le hT f 10 o j hj)
  | f + 1, 6, o, i, h => by
    show (if T i = 2 ∨ T i = 3 then (true, ([M i], i + 1)) else if T i = 40 then (if 5 ≤ o then nO i else sq (prs T M f 0 (o + 1) (i + 1)) (fun j => if T j = 41 then oK (j + 1) else nO j)) else if T i = 45 then (if 5 ≤ o then nO i else sq (prs T M f 6 (o + 1) (i + 1)) (em (-10) oK)) else nO i).2.2 ≤ N
    split
    · rename_i c
      refine hT i ?_
      rcases c with c | c
      · exact ne0 c (by decide)
      · exact ne0 c (by decide)
    · split
      · rename_i c
        split
        · exact h
        · refine sq_le (prs_le hT f 0 (o + 1) (i + 1) (hT i (ne0 c (by decide)))) (fun j hj => ?_)
          show (if T j = 41 then oK (j + 1) else nO j).2.2 ≤ N
          split
          · rename_i c
            exact hT j (ne0 c (by decide))
          · exact hj
      · split
        · rename_i c
          split
          · exact h
          · exact sq_le (prs_le hT f 6 (o + 1) (i + 1) (hT i (ne0 c (by decide)))) (fun j hj => hj)
        · exact h
  | f + 1, 7, o, i, h => by
    show (if T i = 1009 then sq (prs T M f 1 o (i + 1)) (em (-26) (prs T M f 7 o)) else oK i).2.2 ≤ N
    split
    · rename_i c
      exact sq_le (prs_le hT f 1 o (i + 1) (hT i (ne0 c (by decide)))) (fun j hj => prs_le hT f 7 o j hj)
    · exact h
  | f + 1, 8, o, i, h => by
    show (if T i = 1010 then sq (prs T M f 2 o (i + 1)) (em (-25) (prs T M f 8 o)) else oK i).2.2 ≤ N
    split
    · rename_i c
      exact sq_le (prs_le hT f 2 o (i + 1) (hT i (ne0 c (by decide)))) (fun j hj => prs_le hT f 8 o j hj)
    · exact h
  | f + 1, 9, o, i, h => by
    show (if T i = 43 then sq (prs T M f 5 o (i + 1)) (em (-20) (prs T M f 9 o)) else if T i = 45 then sq (prs T M f 5 o (i + 1)) (em (-21) (prs T M f 9 o)) else oK i).2.2 ≤ N
    split
    · rename_i c
      exact sq_le (prs_le hT f 5 o (i + 1) (hT i (ne0 c (by decide)))) (fun j hj => prs_le hT f 9 o j hj)
    · split
      · rename_i c
        exact sq_le (prs_le hT f 5 o (i + 1) (hT i (ne0 c (by decide)))) (fun j hj => prs_le hT f 9 o j hj)
      · exact h
  | f + 1, lv + 10, o, i, h => by
    show (if T i = 42 then sq (prs T M f 6 o (i + 1)) (em (-22) (prs T M f 10 o)) else oK i).2.2 ≤ N
    split
    · rename_i c
      exact sq_le (prs_le hT f 6 o (i + 1) (hT i (ne0 c (by decide)))) (fun j hj => prs_le hT f 10 o j hj)
    · exact h
variable {G : GT} {l : Launch} {I : HI} {J : HJ} {R0 : HR} {n : Nat} {b : Nat → Nat} {z m r : Nat}
theorem pt_le {key : Int32} {i : Nat} (hz : z ≤ 160) (hk : key ≠ 0) (h : i ≤ 160) : (ptS (tkC b z) (tkM b z) key i).2.2 ≤ 160 := by
  have hT : ∀ i, tkC b z i ≠ 0 → i < 160 := fun i q => tk_i hz q
  unfold ptS
  split
  · rename_i c
    refine sq_le (prs_le hT pF 0 0 (i + 1) (hT i (ne0 c hk))) (fun j hj => ?_)
    show (if tkC b z j = 59 then oK (j + 1) else nO j).2.2 ≤ 160
    split
    · rename_i c
      exact hT j (ne0 c (by decide))
    · exact hj
  · exact h
theorem setR_X {rd rd' : Option AO} : setR (mkX I J R0 rd) 7 0 0 1 rd' = mkX I J R0 rd' := by
  refine congrArg (fun z => (I, (J, z))) ?_
  funext k i j t
  show (if _ then _ else RX R0 rd k i j t) = RX R0 rd' k i j t
  by_cases h : k = 7 ∧ i = 0 ∧ j = 0 ∧ t = 1
  · rw [if_pos h]
    obtain ⟨rfl, rfl, rfl, rfl⟩ := h
    rfl
  · rw [if_neg h]
    unfold RX
    split <;> try rfl
    split <;> try rfl
    split <;> try rfl
    split <;> try rfl
    exact absurd ⟨rfl, rfl, rfl, rfl⟩ h
theorem x_fill13 {rd : Option AO} (hn : n ≤ 80) : Ev G l 0 (mt 16) n n [vR 13 r 0, vI 0] (mkX I J R0 rd) (fun u h' => u = none ∧ h' = mkX (fillI I 13 r 4) J R0 rd) := by
  refine Ev_go iJ_fill rfl rfl rfl ⟨Nat.le_refl _, hn⟩ (fun K hK => ?_)
  have loop : ∀ j k, k + j = 4 → K n 5 [some (vR 13 r 0), some (vI 0), some (vI (nI k)), some (vI 4)] [] (mkX (fillI I 13 r k) J R0 rd) := by
    intro j
    induction j with
    | zero =>
      intro k hk
      refine hK.1 [] 60 _ _ _ _ _ ?_
      rw [show k = 4 by omega]
      exact And.intro (fun _ => ⟨rfl, rfl, rfl⟩) (fun q => absurd (by decide) q)
    | succ j ih =>
      intro k hk
      refine hK.1 [(5, [true, true, true, true])] 60 _ _ _ _ _ ?_
      refine And.intro (fun q => absurd q (nI_ge (a := k) (b := 4) (by omega) (by decide))) (fun _ => ⟨nI_in (N := 4) (by omega) (by decide), ?_⟩)
      show K n 5 _ _ _
      refine Kc (ih (k + 1) (by omega)) (by rw [nI_succ]; rfl) ?_
      rw [nI_clamp (by omega)]
      show mkX (fillI I 13 r (k + 1)) J R0 rd = mkX (upI (fillI I 13 r k) 13 r 0 k 0) J R0 rd
      rw [fill_s]
  refine hK.1 [(5, [true, true, true, true])] 60 _ _ _ _ _ ?_
  show K n 5 _ _ _
  refine Kc (loop 4 0 rfl) rfl ?_
  rw [fill_0]
theorem x_beEmpty {d : Nat} {rd : Option AO} {post : Option AV → AH → Prop} (hn : n ≤ 80) (hd : 1 < d) (k : post none (mkX (fillI (upI I 11 r 0 2 0) 13 r 4) J R0 rd)) : CPd G l d n 0 15 [vR 11 r 0] (mkX I J R0 rd) post := by
  have E : Ev G l 1 (mt 15) n n [vR 11 r 0] (mkX I J R0 rd) (fun u h' => u = none ∧ h' = mkX (fillI (upI I 11 r 0 2 0) 13 r 4) J R0 rd) := by
    refine Ev_go iR_beEmpty rfl rfl rfl ⟨Nat.le_refl _, hn⟩ (fun K hK => hK.1 [] 50 _ _ _ _ _ ?_)
    refine CPd_eq (x_fill13 (I := upI I 11 r 0 2 0) hn) (by decide) rfl ?_
    exact ⟨rfl, rfl, rfl⟩
  exact CPd_eq E hd rfl k
/-- what reading a text into a rule may change -/
def FrI (r : Nat) (I I' : HI) : Prop := ∀ k i j t, k ≠ 4 → k ≠ 5 → k ≠ 6 → k ≠ 7 → ¬ (k = 2 ∧ ¬ (i = 0 ∧ j = 0 ∧ t ≠ 5)) → ¬ (k = 12 ∧ i = r) → ¬ (k = 13 ∧ i = r) → ¬ (k = 11 ∧ i = r ∧ t = 2) → I' k i j t = I k i j t
theorem FrI.tr {I' I'' : HI} (h : FrI r I I') (h' : FrI r I' I'') : FrI r I I'' := fun k i j t a1 a2 a3 a4 a5 a6 a7 a8 => (h' k i j t a1 a2 a3 a4 a5 a6 a7 a8).trans (h k i j t a1 a2 a3 a4 a5 a6 a7 a8)
theorem FrD.i {I' : HI} (h : FrD r I I') : FrI r I I' := fun k i j t _ _ _ a4 _ a6 _ a8 => h k i j t a4 a6 a8
theorem frT.i {I' : HI} (h : frT I I') : FrI r I I' := fun k i j t a1 a2 a3 a4 a5 a6 a7 a8 => by
  by_cases e : k = 2
  · subst e
    have e2 : i = 0 ∧ j = 0 ∧ t ≠ 5 := Classical.byContradiction fun c => a5 ⟨rfl, c⟩
    obtain ⟨rfl, rfl, h5⟩ := e2
    exact h.2 t h5
  · rw [h.1 k e a1 a2 a3]
theorem fri_13 {t : Nat} {x : Int32} : FrI r I (upI I 13 r 0 t x) := fun k i j t' _ _ _ _ _ _ a7 _ => by simp only [upI]; rw [if_neg (fun q => a7 ⟨q.1, q.2.1⟩)]
/-- the first w parts stand in the rule -/
def StK (b : Nat → Nat) (z r w s : Nat) (I : HI) : Prop := I 13 r 0 w = nI s ∧ ∀ v, v < w → ∃ a, I 13 r 0 v = nI a ∧ I 13 r 0 (v + 1) = nI (a + (txW b z v).length) ∧ a + (txW b z v).length ≤ s ∧ seg (I 12 r 0) a (txW b z v).length = txW b z v
theorem st_next {w s : Nat} {R : PR} {u : Int32} {I' : HI} (h : StK b z r w s I) (ho : OutD b z r s R u I I') (hR : R.1 = true) (hw : txW b z w = R.2.1) : StK b z r (w + 1) (s + R.2.1.length) (upI I' 13 r 0 (w + 1) (I' 11 r 0 2)) := by
  obtain ⟨g1, g2, _⟩ := ho
  obtain ⟨_, hA, a3, a4⟩ := g2 hR
  obtain ⟨h1, h2⟩ := h
  have e13 : I' 13 = I 13 := g1.k (by decide) (by decide) (by decide)
  have e12 : upI I' 13 r 0 (w + 1) (I' 11 r 0 2) 12 = I' 12 := by funext i j t; simp only [upI]; rw [if_neg (by omega)]
  have e13n : ∀ t, t ≠ w + 1 → upI I' 13 r 0 (w + 1) (I' 11 r 0 2) 13 r 0 t = I 13 r 0 t := fun t ht => by rw [upI_at, if_neg (fun q => ht q.2.2.2), e13]
  refine ⟨by rw [upI_s]; exact hA.2.2, fun v hv => ?_⟩
  rw [e12]
  by_cases e : v = w
  · subst e
    refine ⟨s, (e13n v (by omega)).trans h1, ?_, ?_, ?_⟩
    · rw [upI_s, hw]; exact hA.2.2
    · rw [hw]; exact Nat.le_refl _
    · rw [hw]; exact a3
  · obtain ⟨a, b1, b2, b3, b4⟩ := h2 v (by omega)
    refine ⟨a, (e13n v (by omega)).trans b1, (e13n (v + 1) (by omega)).trans b2, by omega, ?_⟩
    rw [seg_congr (f := I' 12 r 0) (g := I 12 r 0) _ _ (fun t _ h2 => a4 t (by omega))]
    exact b4
theorem st_ruk {s : Nat} {B : BT} (hs : s ≤ 160) (h : StK b z r 3 s I) (hB : ∀ w, w < 3 → ∀ E, rpn E (txW b z w) [] = some [B w E]) : RuK I r B := by
  intro part hp
  obtain ⟨a, h1, h2, h3, h4⟩ := h.2 part hp
  refine ⟨a, (txW b z part).length, h1, h2, by omega, fun E => ?_⟩
  rw [h4]
  exact hB part hp E
theorem e_readInto {rd : Option AO} (hn : n ≤ 80) (hT : TP b z I) : Ev G l 52 (mt 14) n n [vR 7 0 0, vR 11 r 0] (mkX I J R0 rd) (fun u h' => ∃ q : HI, h' = mkX q J R0 (some (11, r, 0)) ∧ FrI r I q ∧ ((txF b z = none ∧ u = some (vI (-1)) ∧ ∃ s, s ≤ 160 ∧ StK b z r 3 s q) ∨ ∃ k, txF b z = some k ∧ u = some (vI (nI (psA b z k))))) := by
  have hz := hT.2.1
  have tp : ∀ {I'}, FrI r I I' → TP b z I' := fun {I'} h => ⟨(h 2 0 0 1 (by decide) (by decide) (by decide) (by decide) (fun q => q.2 ⟨rfl, rfl, by decide⟩) (fun q => absurd q.1 (by decide)) (fun q => absurd q.1 (by decide)) (fun q => absurd q.1 (by decide))).trans hT.1, hz, fun i hi => ⟨(hT.2.2 i hi).1, (h 3 0 0 i (by decide) (by decide) (by decide) (by decide) (fun q => absurd q.1 (by decide)) (fun q => absurd q.1 (by decide)) (fun q => absurd q.1 (by decide)) (fun q => absurd q.1 (by decide))).trans (hT.2.2 i hi).2⟩⟩
  refine Ev_go iD_readInto rfl rfl rfl ⟨Nat.le_refl _, hn⟩ (fun K hK => ?_)
  have fault : ∀ I' k m, FrI r I I' → TkR b z m I' → I' 7 0 0 2 = nI k → k ≤ 160 → txF b z = some k → K n 74 [some (vR 7 0 0), some (vR 11 r 0), none] [] (mkX I' J R0 (some (11, r, 0))) := by
    intro I' k m hf hR h7 hk hF
    refine hK.1 [] 60 _ _ _ _ _ ?_
    refine And.intro (fun _ => ?_) (fun q => absurd rfl q)
    show CPd _ _ _ _ _ _ _ _ _
    rw [show getI (mkX I' J R0 (some (11, r, 0))) 7 0 0 2 = nI k from h7]
    refine x_place hn (tp hf) hR (by omega) (by decide) ?_
    exact ⟨rfl, I', rfl, hf, Or.inr ⟨k, hF, rfl⟩⟩
  refine hK.1 [(74, [true, true, false])] 80 _ _ _ _ _ ?_
  show CPd _ _ _ _ _ _ _ _ _
  rw [setR_X]
  refine x_beEmpty hn (by decide) ?_
  have hf0 : FrI r I (fillI (upI I 11 r 0 2 0) 13 r 4) := fun k i j t a1 a2 a3 a4 a5 a6 a7 a8 => by
    simp only [fillI, upI]
    rw [if_neg (fun q => a7 ⟨q.1, q.2.1⟩), if_neg (fun q => a8 ⟨q.1, q.2.1, q.2.2.2⟩)]
  have z0 : (fillI (upI I 11 r 0 2 0) 13 r 4) 11 r 0 2 = nI 0 ∧ (fillI (upI I 11 r 0 2 0) 13 r 4) 13 r 0 0 = nI 0 := by
    constructor
    · rw [fill_k (by decide), upI_s]; rfl
    · show (if 13 = 13 ∧ r = r ∧ 0 = 0 ∧ 0 < 4 then (0 : Int32) else _) = nI 0; rw [if_pos ⟨rfl, rfl, rfl, by decide⟩]; rfl
  generalize fillI (upI I 11 r 0 2 0) 13 r 4 = I1 at hf0 z0
  refine CPd_exc (e_findTokens hn (tp hf0)) (by decide) rfl (fun q hq => ?_)
  obtain ⟨hR, hfT⟩ := hq
  have hf1 := hf0.tr (frT.i (r := r) hfT)
  refine x_lookAt (i := 0) hn hR (by decide) (by decide) ?_
  have g2 : FrD r q.1 (upI (upI q.1 7 0 0 2 (nI 0)) 7 0 0 3 (tkC b z 0)) := FrD.up7.tr FrD.up7
  have hA : DA b z r 0 0 (upI (upI q.1 7 0 0 2 (nI 0)) 7 0 0 3 (tkC b z 0)) := by
    refine ⟨?_, upI_s, ?_⟩
    · rw [upI_at, if_neg (by omega), upI_s]
    · rw [upI_at, if_neg (by omega), upI_at, if_neg (by omega), hfT.1 11 (by decide) (by decide) (by decide) (by decide)]
      exact z0.1
  have h13 : (upI (upI q.1 7 0 0 2 (nI 0)) 7 0 0 3 (tkC b z 0)) 13 r 0 0 = nI 0 := by
    rw [upI_at, if_neg (by omega), upI_at, if_neg (by omega), hfT.1 13 (by decide) (by decide) (by decide) (by decide)]
    exact z0.2
  generalize upI (upI q.1 7 0 0 2 (nI 0)) 7 0 0 3 (tkC b z 0) = I3 at g2 hA h13
  have hf3 := hf1.tr g2.i
  have hR3 := rt_same hR g2.tr6
  have st0 : StK b z r 0 0 I3 := ⟨h13, fun v hv => absurd hv (by omega)⟩
  have r13 : ∀ {I' : HI} {t : Nat} {x : Int32}, TkR b z q.2 I' → TkR b z q.2 (upI I' 13 r 0 t x) := fun {I' t x} h => rt_same h (fun k hk => by funext i j t'; simp only [upI]; rw [if_neg (by omega)])
  have d13 : ∀ {I' : HI} {t i s : Nat} {x : Int32}, DA b z r i s I' → DA b z r i s (upI I' 13 r 0 t x) := fun {I' t i s x} h => ⟨by rw [upI_at, if_neg (by omega)]; exact h.1, by rw [upI_at, if_neg (by omega)]; exact h.2.1, by rw [upI_at, if_neg (by omega)]; exact h.2.2⟩
  -- does
  refine x_readPart (w := 0) hn hz hR3 hA (Nat.le_refl _) (by decide) (by decide) (by decide) (by decide) (fun u0 I4 ho0 => ?_)
  have l0 := pt_le (b := b) (z := z) (key := 1006) (i := 0) hz (by decide) (by decide)
  cases hr0 : (tx0 b z).1 with
  | false =>
    obtain ⟨d1, d2⟩ := ho0.2.2 hr0
    rw [d1, if_neg (by decide)]
    refine And.intro (fun _ => ?_) (fun q => absurd rfl q)
    show K n 74 _ _ _
    exact fault I4 (tx0 b z).2.2 q.2 (hf3.tr ho0.1.i) (rt_same hR3 ho0.1.tr6) d2 l0 (by unfold txF; rw [if_pos hr0])
  | true =>
    obtain ⟨d1, d2, d3, d4⟩ := ho0.2.1 hr0
    have b0 := pt_b hz hr0
    rw [d1, if_pos rfl]
    refine And.intro (fun q => absurd q (by decide)) (fun _ => ?_)
    have st1 := st_next (w := 0) st0 ho0 hr0 rfl
    have hf4 := (hf3.tr ho0.1.i).tr (fri_13 (t := 0 + 1) (x := I4 11 r 0 2))
    have hR4 := r13 (t := 0 + 1) (x := I4 11 r 0 2) (rt_same hR3 ho0.1.tr6)
    have hA4 := d13 (t := 0 + 1) (x := I4 11 r 0 2) d2
    generalize upI I4 13 r 0 (0 + 1) (I4 11 r 0 2) = I5 at st1 hf4 hR4 hA4
    refine x_readPart (w := 1) hn hz hR4 hA4 (by omega) b0.2.1 (by decide) (by decide) (by decide) (fun u1 I6 ho1 => ?_)
    have l1 := pt_le (b := b) (z := z) (key := 1007) (i := (tx0 b z).2.2) hz (by decide) b0.2.1
    cases hr1 : (tx1 b z).1 with
    | false =>
      obtain ⟨d1, d2⟩ := ho1.2.2 hr1
      rw [d1, if_neg (by decide)]
      refine And.intro (fun _ => ?_) (fun q => absurd rfl q)
      show K n 74 _ _ _
      exact fault I6 (tx1 b z).2.2 q.2 (hf4.tr ho1.1.i) (rt_same hR4 ho1.1.tr6) d2 l1 (by unfold txF; rw [hr0, hr1, if_neg (by decide), if_pos rfl])
    | true =>
      obtain ⟨e1, e2, e3, e4⟩ := ho1.2.1 hr1
      have b1 := pt_b hz hr1
      rw [e1, if_pos rfl]
      refine And.intro (fun q => absurd q (by decide)) (fun _ => ?_)
      have st2 := st_next (w := 1) st1 ho1 hr1 rfl
      have hf6 := (hf4.tr ho1.1.i).tr (fri_13 (t := 1 + 1) (x := I6 11 r 0 2))
      have hR6 := r13 (t := 1 + 1) (x := I6 11 r 0 2) (rt_same hR4 ho1.1.tr6)
      have hA6 := d13 (t := 1 + 1) (x := I6 11 r 0 2) e2
      generalize upI I6 13 r 0 (1 + 1) (I6 11 r 0 2) = I7 at st2 hf6 hR6 hA6
      have hs2 : 0 + (tx0 b z).2.1.length + (tx1 b z).2.1.length ≤ (tx1 b z).2.2 := by
        have g0 : (tx0 b z).2.1.length ≤ (tx0 b z).2.2 - 0 := b0.2.2
        have g1 : (tx1 b z).2.1.length ≤ (tx1 b z).2.2 - (tx0 b z).2.2 := b1.2.2
        have k1 : (tx0 b z).2.2 < (tx1 b z).2.2 := b1.1
        omega
      refine x_readPart (w := 2) hn hz hR6 hA6 hs2 b1.2.1 (by decide) (by decide) (by decide) (fun u2 I8 ho2 => ?_)
      have l2 := pt_le (b := b) (z := z) (key := 1008) (i := (tx1 b z).2.2) hz (by decide) b1.2.1
      cases hr2 : (tx2 b z).1 with
      | false =>
        obtain ⟨d1, d2⟩ := ho2.2.2 hr2
        rw [d1, if_neg (by decide)]
        refine And.intro (fun _ => ?_) (fun q => absurd rfl q)
        show K n 74 _ _ _
        exact fault I8 (tx2 b z).2.2 q.2 (hf6.tr ho2.1.i) (rt_same hR6 ho2.1.tr6) d2 l2 (by unfold txF; rw [hr0, hr1, hr2, if_neg (by decide), if_neg (by decide), if_pos rfl])
      | true =>
        obtain ⟨i1, i2, i3, i4⟩ := ho2.2.1 hr2
        have b2 := pt_b hz hr2
        rw [i1, if_pos rfl]
        refine And.intro (fun q => absurd q (by decide)) (fun _ => ?_)
        have st3 := st_next (w := 2) st2 ho2 hr2 rfl
        have hf8 := (hf6.tr ho2.1.i).tr (fri_13 (t := 2 + 1) (x := I8 11 r 0 2))
        have hR8 := r13 (t := 2 + 1) (x := I8 11 r 0 2) (rt_same hR6 ho2.1.tr6)
        have hA8 := d13 (t := 2 + 1) (x := I8 11 r 0 2) i2
        generalize upI I8 13 r 0 (2 + 1) (I8 11 r 0 2) = I9 at st3 hf8 hR8 hA8
        have e3 : getI (mkX I9 J R0 (some (11, r, 0))) 7 0 0 3 = tkC b z (tx2 b z).2.2 := hA8.2.1
        refine And.intro (fun w => ?_) (fun w => ?_)
        · rw [e3] at w
          show K n 74 _ _ _
          exact fault I9 (tx2 b z).2.2 q.2 hf8 hR8 hA8.1 l2 (by unfold txF; rw [hr0, hr1, hr2, if_neg (by decide), if_neg (by decide), if_neg (by decide), if_neg w])
        · have w : tkC b z (tx2 b z).2.2 = 0 := by
            refine Classical.byContradiction (fun c => ?_)
            rw [e3] at w
            exact absurd w (by simpa using c)
          refine And.intro (fun q => absurd q (by decide)) (fun _ => ?_)
          refine ⟨rfl, I9, rfl, hf8, Or.inl ⟨?_, rfl, _, ?_, st3⟩⟩
          · unfold txF; rw [hr0, hr1, hr2, if_neg (by decide), if_neg (by decide), if_neg (by decide), if_pos w]
          · have := b0.2.2; have := b1.2.2; have := b2.2.2
            have := b0.1; have := b1.1; have := b2.1; have := b2.2.1
            have g0 : (tx0 b z).2.1.length ≤ (tx0 b z).2.2 - 0 := b0.2.2
            have g1 : (tx1 b z).2.1.length ≤ (tx1 b z).2.2 - (tx0 b z).2.2 := b1.2.2
            have g2 : (tx2 b z).2.1.length ≤ (tx2 b z).2.2 - (tx1 b z).2.2 := b2.2.2
            have k1 : (tx0 b z).2.2 < (tx1 b z).2.2 := b1.1
            have k2 : (tx1 b z).2.2 < (tx2 b z).2.2 := b2.1
            have k3 : (tx2 b z).2.2 ≤ 160 := b2.2.1
            show 0 + (tx0 b z).2.1.length + (tx1 b z).2.1.length + (tx2 b z).2.1.length ≤ 160
            omega
end Y9
