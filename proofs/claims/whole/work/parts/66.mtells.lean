section T42
variable {G : GT} {l : Launch} {I : HI} {J : HJ} {rd : Option AO} {rr : Nat → Nat} {A : ST}
def svP (A : ST) (b w : Nat) (x : Int32) : PP := if w = 1 then upP (aP A) b 0 x else if w = 2 then upP (aP A) b 1 x else if w = 3 then upP (aP A) b 3 x else if w = 5 then upP (aP A) b 4 x else aP A
def svX (w v : Nat) : Int32 := if w = 5 then (if v = 5 then -1 else nI v) else nI v
def ofW (w : Nat) : Nat := if w = 1 then 7 else if w = 2 then 1 else if w = 3 then 3 else if w = 5 then 4 else 8
def wasV (A : ST) (b w : Nat) : Int32 := if w = 1 then aP A b 0 else if w = 2 then aP A b 1 else if w = 3 then aP A b 3 else if w = 5 then aP A b 4 else nI (aN A 2)
theorem su_sv {b w v : Nat} : suP A b w v = svP A b w (svX w v) := by
  unfold suP svP svX
  by_cases h5 : w = 5
  · subst h5; rfl
  · rw [if_neg h5, if_neg h5, if_neg h5]
theorem upP_id {P : PP} {p a : Nat} : upP P p a (P p a) = P := by
  funext q b
  unfold upP
  by_cases h : q = p ∧ b = a
  · rw [if_pos h, h.1, h.2]
  · rw [if_neg h]
theorem sv_was {b w : Nat} : svP A b w (wasV A b w) = aP A := by
  unfold svP wasV
  by_cases h1 : w = 1
  · rw [if_pos h1, if_pos h1, upP_id]
  · by_cases h2 : w = 2
    · rw [if_neg h1, if_pos h2, if_neg h1, if_pos h2, upP_id]
    · by_cases h3 : w = 3
      · rw [if_neg h1, if_neg h2, if_pos h3, if_neg h1, if_neg h2, if_pos h3, upP_id]
      · by_cases h5 : w = 5
        · rw [if_neg h1, if_neg h2, if_neg h3, if_pos h5, if_neg h1, if_neg h2, if_neg h3, if_pos h5, upP_id]
        · rw [if_neg h1, if_neg h2, if_neg h3, if_neg h5]
theorem c_laysK {d p : Nat} {z : Int32} {P : PP} {S : HI} {T : HJ} {post : Option AV → AH → Prop} (hp : p < 5) (hd : 0 < d) (k : post none (mf I J rd rr (upP P p 0 z) S T)) : CPd G l d 80 0 166 [vR 20 0 0, vI 7, vI (nI p), vI z] (mf I J rd rr P S T) post := by
  have E : Ev G l 0 (mt 166) 80 80 [vR 20 0 0, vI 7, vI (nI p), vI z] (mf I J rd rr P S T) (fun r h' => r = none ∧ h' = mf I J rd rr (upP P p 0 z) S T) := by
    refine Ev_go iM_lays rfl rfl rfl ⟨Nat.le_refl _, Nat.le_refl _⟩ (fun K hK => hK.1 [] 120 _ _ _ _ _ ?_)
    refine And.intro (fun _ => ?_) (fun h => absurd h (by decide))
    refine And.intro (fun h => absurd rfl h) (fun _ => ?_)
    refine ⟨nI_in (N := 5) (by omega) (by decide), rfl, rfl, ?_⟩
    rw [nI_clamp (n := p) (by omega), mf_wk]
  exact CPd_eq E hd rfl k
theorem c_laysR {d : Nat} {x z : Int32} {P : PP} {S : HI} {T : HJ} {post : Option AV → AH → Prop} (hd : 0 < d) (k : post none (mf (upI I 20 0 0 4 z) J rd rr P S T)) : CPd G l d 80 0 166 [vR 20 0 0, vI 8, vI x, vI z] (mf I J rd rr P S T) post := by
  have E : Ev G l 0 (mt 166) 80 80 [vR 20 0 0, vI 8, vI x, vI z] (mf I J rd rr P S T) (fun r h' => r = none ∧ h' = mf (upI I 20 0 0 4 z) J rd rr P S T) := by
    refine Ev_go iM_lays rfl rfl rfl ⟨Nat.le_refl _, Nat.le_refl _⟩ (fun K hK => hK.1 [] 120 _ _ _ _ _ ?_)
    refine And.intro (fun _ => ?_) (fun h => absurd h (by decide))
    refine And.intro (fun _ => ?_) (fun h => absurd h (by decide))
    refine And.intro (fun h => absurd rfl h) (fun _ => ?_)
    exact ⟨rfl, rfl, mf_wI (by decide)⟩
  exact CPd_eq E hd rfl k
theorem r_lays {d b w r r' : Nat} {x y : Int32} {Q : PP} {S : HI} {T : HJ} {post : Option AV → AH → Prop} (hw : w = 1 ∨ w = 2 ∨ w = 3 ∨ w = 5 ∨ w = 6) (hb : b < aN A 0) (h5 : aN A 0 ≤ 5) (h : MF G l I Q S T (xsA A (svP A b w y) r)) (hr : w ≠ 6 → r = r') (hx : w = 6 → x = nI r') (hd : 0 < d)
    (k : ∀ I' Q', frM I I' → MF G l I' Q' S T (xsA A (svP A b w x) r') → post none (mf I' J rd rr Q' S T)) : CPd G l d 80 0 166 [vR 20 0 0, vI (nI (ofW w)), vI (nI b), vI x] (mf I J rd rr Q S T) post := by
  have hI : w ≠ 6 → upI I 20 0 0 4 (nI r') = I := fun hn => upI_id (by rw [← hr hn]; exact h.1.2.2.1)
  have row : ∀ a, 1 ≤ a → a < 7 → nI (ofW w) = nI a → w ≠ 6 → svP A b w y = upP (aP A) b a y → svP A b w x = upP (aP A) b a x → CPd G l d 80 0 166 [vR 20 0 0, vI (nI (ofW w)), vI (nI b), vI x] (mf I J rd rr Q S T) post := by
    intro a a1 a7 ho hn e1 e2
    refine c_lays (p := b) (w := a) rfl ho (by omega) ⟨a1, by omega⟩ hd (k I _ frM.r ?_)
    rw [← hI hn]
    refine h.XX ?_
    have hA : Ag (aN A 0) Q (svP A b w y) := h.1.2.2.2
    rw [e1] at hA
    rw [e2]
    have := hA.up (p := b) (a := a) (x := x) rfl
    rw [upP_upP] at this
    exact this
  rcases hw with rfl | rfl | rfl | rfl | rfl
  · refine c_laysK (p := b) (by omega) hd (k I _ frM.r ?_)
    rw [← hI (by decide)]
    refine h.XX ?_
    have hA : Ag (aN A 0) Q (upP (aP A) b 0 y) := h.1.2.2.2
    have := hA.up (p := b) (a := 0) (x := x) rfl
    rw [upP_upP] at this
    exact this
  · exact row 1 (by decide) (by decide) rfl (by decide) rfl rfl
  · exact row 3 (by decide) (by decide) rfl (by decide) rfl rfl
  · exact row 4 (by decide) (by decide) rfl (by decide) rfl rfl
  · refine c_laysR hd (k _ Q (frM.up (by decide)) ?_)
    rw [hx rfl]
    exact h.XX h.1.2.2.2
theorem or_com {a b c : Int32} : (a ||| b) ||| c = a ||| (c ||| b) := by rw [Int32.or_assoc, Int32.or_comm b c]
/-- the loop over all that may be supposed -/
theorem r_tells {s p b w : Nat} {ww N : Nat} {K : Nat → Nat → List (Option AV) → List AV → AH → Prop} (ok : OKA A) (hs : s < 4) (hs0 : aS A s 0 ≠ -1) (hp : p < aN A 0) (hb : b < aN A 0) (hww : ww = 1 ∨ ww = 2 ∨ ww = 3 ∨ ww = 5 ∨ ww = 6) (hwd : (ww ≠ 3 ∧ w = ww) ∨ (ww = 3 ∧ (w = 3 ∨ w = 4))) (hN : N = limS A ww) (hN100 : N ≤ 100)
    {V : Int32} (hV1 : ww ≠ 3 → V = bsU (tlG A s p b ww) N) (hV2 : w = 3 → V = cnU (tlG A s p b ww) N) (hV3 : w = 4 → V = ffU (tlG A s p b ww) N 0)
    (hK : Cl G l 101 7 0 (mkT 410 tM_tells) 80 (fun v h' => ∃ x : XM, v = some (vI V) ∧ h' = mf x.1 J rd rr x.2.1 x.2.2.1 x.2.2.2 ∧ MF G l x.1 x.2.1 x.2.2.1 x.2.2.2 A ∧ frM I x.1) K) :
    ∀ (v j : Nat) (x : XM) (r : Nat) (y set n least : Int32), v + j = N → MF G l x.1 x.2.1 x.2.2.1 x.2.2.2 (xsA A (svP A b ww y) r) → (ww ≠ 6 → r = aN A 2) → frM I x.1 → (ww ≠ 3 → set ||| bsU (tlG A s p b ww) v = bsU (tlG A s p b ww) N) → n + cnU (tlG A s p b ww) v = cnU (tlG A s p b ww) N → least = ffU (tlG A s p b ww) j v →
      K 80 277 [some (vR 20 0 0), some (vI (nI s)), some (vI (nI p)), some (vI (nI b)), some (vI (nI w)), some (vI set), some (vI (nI (ofW ww))), some (vI (wasV A b ww)), none, some (vI n), some (vI least), some (vI (nI v + -1))] [] (mf x.1 J rd rr x.2.1 x.2.2.1 x.2.2.2) := by
  have h5 := ok.1.1
  have h36 := ok.1.2.2.2.1
  intro v
  induction v with
  | zero =>
    intro j x r y set n least hv hC hr hf hset hn hl
    refine hK.1 [] 100 _ _ _ _ _ ?_
    refine And.intro (fun _ => ?_) (fun h => absurd (by decide) h)
    refine r_lays (r' := aN A 2) hww hb h5 hC hr (fun e => by unfold wasV; subst e; rfl) (by decide) (fun I' Q' hf' hC' => ?_)
    rw [sv_was] at hC'
    have hC2 : MF G l I' Q' x.2.2.1 x.2.2.2 A := by
      have h1 := hC'.frX hC'.1.2.2.2
      rw [upI_id (show I' 20 0 0 4 = nI (aN A 2) from hC'.1.2.2.1)] at h1
      exact h1
    have hff : frM I I' := fun k hk => (hf' k hk).trans (hf k hk)
    have done : ∀ u, u = V → ∃ z : XM, some (vI u) = some (vI V) ∧ mf I' J rd rr Q' x.2.2.1 x.2.2.2 = mf z.1 J rd rr z.2.1 z.2.2.1 z.2.2.2 ∧ MF G l z.1 z.2.1 z.2.2.1 z.2.2.2 A ∧ frM I z.1 := fun u hu => ⟨(I', Q', x.2.2.1, x.2.2.2), by rw [hu], rfl, hC2, hff⟩
    have hof3 : nI (ofW ww) = 3 ↔ ww = 3 := by
      rcases hww with rfl | rfl | rfl | rfl | rfl <;> decide
    refine And.intro (fun h3 => ?_) (fun h3 => ?_)
    · have hw3 := hof3.mp h3
      have hw34 := (hwd.resolve_left (fun q => q.1 hw3)).2
      refine And.intro (fun h4 => ?_) (fun h4 => ?_)
      · have hw4 : w = 4 := hw34.resolve_left (fun e => h4 (by rw [e]; rfl))
        refine ⟨rfl, done _ ?_⟩
        rw [hV3 hw4, hl, show j = N by omega]
      · have hw3' : w = 3 := hw34.resolve_right (fun e => by rw [e] at h4; exact absurd h4 (by decide))
        refine ⟨rfl, done _ ?_⟩
        rw [hV2 hw3', ← hn]
        exact (Int32.add_zero _).symm
    · have hw3 : ww ≠ 3 := fun e => h3 (hof3.mpr e)
      refine ⟨rfl, done _ ?_⟩
      rw [hV1 hw3, ← hset hw3]
      exact Int32.or_zero.symm
  | succ v ih =>
    intro j x r y set n least hv hC hr hf hset hn hl
    -- what comes behind
    have next : ∀ (z : XM) (r : Nat) (y set' n' least' : Int32), MF G l z.1 z.2.1 z.2.2.1 z.2.2.2 (xsA A (svP A b ww y) r) → (ww ≠ 6 → r = aN A 2) → frM I z.1 → (ww ≠ 3 → set' ||| bsU (tlG A s p b ww) v = bsU (tlG A s p b ww) N) → n' + cnU (tlG A s p b ww) v = cnU (tlG A s p b ww) N → least' = ffU (tlG A s p b ww) (j + 1) v → K 80 370 [some (vR 20 0 0), some (vI (nI s)), some (vI (nI p)), some (vI (nI b)), some (vI (nI w)), some (vI set'), some (vI (nI (ofW ww))), some (vI (wasV A b ww)), none, some (vI n'), some (vI least'), some (vI (nI v))] [] (mf z.1 J rd rr z.2.1 z.2.2.1 z.2.2.2) := by
      intro z r y set' n' least' h1 h2 h3 h4 h5 h6
      refine hK.1 [(277, [true, true, true, true, true, true, true, true, false, true, true, true])] 100 _ _ _ _ _ ?_
      show K 80 277 _ _ _
      exact ih (j + 1) z r y set' n' least' (by omega) h1 h2 h3 h4 h5 h6
    rw [bsU] at hset
    rw [cnU] at hn
    have no : ∀ (z : XM) (r : Nat) (y : Int32), MF G l z.1 z.2.1 z.2.2.1 z.2.2.2 (xsA A (svP A b ww y) r) → (ww ≠ 6 → r = aN A 2) → frM I z.1 → tlG A s p b ww v = false → K 80 370 [some (vR 20 0 0), some (vI (nI s)), some (vI (nI p)), some (vI (nI b)), some (vI (nI w)), some (vI set), some (vI (nI (ofW ww))), some (vI (wasV A b ww)), none, some (vI n), some (vI least), some (vI (nI v))] [] (mf z.1 J rd rr z.2.1 z.2.2.1 z.2.2.2) := by
      intro z r y h1 h2 h3 h4
      rw [h4, if_neg (show ¬ (false = true) by decide)] at hset hn
      exact next z r y set n least h1 h2 h3 hset hn (by rw [ffU, h4, if_neg (show ¬ (false = true) by decide), hl])
    have hof4 : nI (ofW ww) = 4 ↔ ww = 5 := by
      rcases hww with rfl | rfl | rfl | rfl | rfl <;> decide
    have hof3 : nI (ofW ww) = 3 ↔ ww = 3 := by
      rcases hww with rfl | rfl | rfl | rfl | rfl <;> decide
    -- supposed
    have mid : suOK A b ww v → K 80 309 [some (vR 20 0 0), some (vI (nI s)), some (vI (nI p)), some (vI (nI b)), some (vI (nI w)), some (vI set), some (vI (nI (ofW ww))), some (vI (wasV A b ww)), none, some (vI n), some (vI least), some (vI (nI v))] [] (mf x.1 J rd rr x.2.1 x.2.2.1 x.2.2.2) := by
      intro hok
      refine hK.1 [(334, [true, true, true, true, true, true, true, true, false, true, true, true])] 100 _ _ _ _ _ ?_
      have hsuR : suR A ww v < aN A 3 := su_R ok (by omega) hww
      have hsuW : WF (suP A b ww v) (aN A 0) := su_WF ok (by omega) hok
      have go : ∀ u, u = svX ww v → CPd G l 101 80 0 166 [vR 20 0 0, vI (nI (ofW ww)), vI (nI b), vI u] (mf x.1 J rd rr x.2.1 x.2.2.1 x.2.2.2) (fun rv h => K 80 334 [some (vR 20 0 0), some (vI (nI s)), some (vI (nI p)), some (vI (nI b)), some (vI (nI w)), some (vI set), some (vI (nI (ofW ww))), some (vI (wasV A b ww)), none, some (vI n), some (vI least), some (vI (nI v))] (pushR rv []) h) := by
        rintro u rfl
        refine r_lays (r' := suR A ww v) hww hb h5 hC (fun e => by rw [hr e]; unfold suR; rw [if_neg e]) (fun e => by subst e; rfl) (by decide) (fun I' Q' hf' hC' => ?_)
        rw [← su_sv] at hC'
        show K 80 334 _ [] _
        refine hK.1 [(370, [true, true, true, true, true, true, true, true, false, true, true, true])] 100 _ _ _ _ _ ?_
        have hff : frM I I' := fun k hk => (hf' k hk).trans (hf k hk)
        refine CPd_exc (m_firstOther (A := xsA A (suP A b ww v) (suR A ww v)) (s := s) (p := p) (ok_xs ok hsuW hsuR) hs hs0 hp I' J rd rr Q' x.2.2.1 x.2.2.2 hC') (by decide) rfl (fun z hz => ?_)
        have hz1 := hz.1
        rw [su_sv] at hz1
        have hzf : frM I z.1 := fun k hk => (hz.2 k hk).trans (hff k hk)
        have hg : tlG A s p b ww v = decide (foV (xsA A (suP A b ww v) (suR A ww v)) s (aN (xsA A (suP A b ww v) (suR A ww v)) 2) (aP (xsA A (suP A b ww v) (suR A ww v))) p = -1) := by
          unfold tlG
          rw [decide_eq_true hok]
          rfl
        have hsr : ww ≠ 6 → suR A ww v = aN A 2 := fun e => by unfold suR; rw [if_neg e]
        refine And.intro (fun h7 => ?_) (fun h7 => ?_)
        · show K 80 370 _ _ _
          exact no z _ _ hz1 hsr hzf (by rw [hg, decide_eq_false h7])
        · have hgt : tlG A s p b ww v = true := by rw [hg, decide_eq_true h7]
          rw [hgt, if_pos rfl] at hset hn
          refine And.intro (fun h8 => ?_) (fun h8 => ?_)
          · have hw3 : ww ≠ 3 := fun e => h8 (hof3.mpr e)
            show K 80 370 _ _ _
            exact next z _ _ _ _ _ hz1 hsr hzf (fun e => by rw [or_com]; exact hset e) (by rw [← hn]; grind) (by rw [ffU, hgt, if_pos rfl])
          · have hw3 := hof3.mp h8
            show K 80 370 _ _ _
            exact next z _ _ _ _ _ hz1 hsr hzf (fun e => absurd hw3 e) (by rw [← hn]; grind) (by rw [ffU, hgt, if_pos rfl])
      refine And.intro (fun h7 => ?_) (fun h7 => And.intro (fun h8 => ?_) (fun h8 => ?_))
      · refine go (nI v) ?_
        unfold svX
        rw [if_neg (fun e => h7 (hof4.mpr e))]
      · refine go (nI v) ?_
        unfold svX
        rw [if_pos (hof4.mp h7), if_neg (fun e => h8 (by rw [e]; rfl))]
      · refine go (-1) ?_
        unfold svX
        rw [if_pos (hof4.mp h7), if_pos (nI_ij (b := 5) h8 (by omega) (by decide))]
    refine hK.1 [(309, [true, true, true, true, true, true, true, true, false, true, true, true]), (370, [true, true, true, true, true, true, true, true, false, true, true, true])] 100 _ _ _ _ _ ?_
    rw [nI_m1]
    have hm : x.1 20 0 0 10 = nI (aN A 0) := hC.1.1
    have noK : ¬ suOK A b ww v → tlG A s p b ww v = false := fun q => by unfold tlG; rw [decide_eq_false q]; rfl
    refine And.intro (fun h => absurd h (nI_pos (by omega))) (fun _ => And.intro (fun h7 => ?_) (fun h7 => And.intro (fun h8 => ?_) (fun h8 => ?_)))
    · show K 80 309 _ _ _
      exact mid (Or.inl (fun e => h7 (hof4.mpr e)))
    · show K 80 309 _ _ _
      exact mid (Or.inr (Or.inl (nI_ij (b := 5) h8 (by omega) (by decide))))
    · have hw5 := hof4.mp h7
      have hv5 : v ≠ 5 := fun e => h8 (by rw [e]; rfl)
      refine c_isOne hm h5 (by decide) ?_
      refine And.intro (fun h9 => ?_) (fun h9 => And.intro (fun h10 => ?_) (fun h10 => ?_))
      · show K 80 370 _ _ _
        refine no x r y hC hr hf (noK ?_)
        rintro (q | q | q)
        · exact q hw5
        · exact hv5 q
        · exact iN_n h9 ⟨nI_pos' (by omega), nI_lt q.2 (by omega)⟩
      · show K 80 370 _ _ _
        refine no x r y hC hr hf (noK ?_)
        rintro (q | q | q)
        · exact q hw5
        · exact hv5 q
        · exact q.1 (nI_ij h10 (by omega) (by omega))
      · show K 80 309 _ _ _
        have h9 := (iN_y h9).2
        rw [nI_lt' (by omega) (by omega)] at h9
        exact mid (Or.inr (Or.inr ⟨fun e => h10 (by rw [e]), h9⟩))
end T42
