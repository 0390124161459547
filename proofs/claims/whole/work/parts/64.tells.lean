/-! what a row told -/
section T40
variable {G : GT} {l : Launch} {I : HI} {J : HJ} {rd : Option AO} {rr : Nat → Nat} {A : ST}
/-- by v of what is asked, all would be so -/
def tlG (A : ST) (s p b w v : Nat) : Bool := decide (suOK A b w v) && decide (foV A s (suR A w v) (suP A b w v) p = -1)
def bsU (g : Nat → Bool) : Nat → Int32
  | 0 => 0
  | k + 1 => if g k = true then bsU g k ||| (1 : Int32) <<< (nI k &&& 31) else bsU g k
def cnU (g : Nat → Bool) : Nat → Int32
  | 0 => 0
  | k + 1 => if g k = true then cnU g k + 1 else cnU g k
/-- the first of j from k on -/
def ffU (g : Nat → Bool) : Nat → Nat → Int32
  | 0, _ => -1
  | j + 1, k => if g k = true then nI k else ffU g j (k + 1)
def pwG (A : ST) (s p : Nat) : Bool := decide (foV A s (aN A 2) (aP A) p = -1)
def tellsV (A : ST) (s p b w : Nat) : Int32 := if w = 0 then foV A s (aN A 2) (aP A) p else if w = 3 then cnU (tlG A s p b 3) 100 else if w = 4 then ffU (tlG A s p b 3) 100 0 else if w = 7 then bsU (pwG A s) (aN A 0) else bsU (tlG A s p b w) (limS A w)
def tellsR (A : ST) (s one b w : Int32) : Int32 := if (0 ≤ s ∧ s ≤ 3) ∧ (0 ≤ one ∧ one < nI (aN A 0)) ∧ (0 ≤ b ∧ b < nI (aN A 0)) ∧ 0 ≤ w ∧ w ≤ 7 then (if aS A s.toNatClampNeg 0 = -1 then -11 else if aS A s.toNatClampNeg 1 ≤ 20 then tellsV A s.toNatClampNeg one.toNatClampNeg b.toNatClampNeg w.toNatClampNeg else -2) else -2
theorem frC.tr {I' I'' : HI} {J' J'' : HJ} (h : frC I I' J J') (h' : frC I' I'' J' J'') : frC I I'' J J'' := fun k hk => ⟨((h' k hk).1).trans (h k hk).1, ((h' k hk).2).trans (h k hk).2⟩
/-- firstOtherwise tells V there -/
def FO (G : GT) (l : Launch) (I : HI) (J : HJ) (A : ST) (s p : Nat) (h : AH) (V : Int32) : Prop := ∀ (d : Nat) (post : Option AV → AH → Prop), 4 < d → (∀ y : XC, CF y.1 y.2.2.2 A → frC I y.1 J y.2.1 → post (some (vI V)) (mkH y.1 y.2.1 y.2.2.1 y.2.2.2)) → CPd G l d 80 0 114 [vR 0 0 0, vR 15 s 0, vI (nI p)] h post
theorem FO_of {s p z r : Nat} {P P0 : PP} {O : Nat → Nat → Nat → Int32} (hC : CF I rr A) (ok : OKA A) (hs : s < 4) (hz : aS A s 1 = nI z) (hz40 : z ≤ 40) (hr : r < aN A 3) (hp : p < aN A 0) (hA : Ag (aN A 0) P P0) (hW : WF P0 (aN A 0)) : FO G l I J A s p (TX I J rd rr A r (dy A) P O) (foV A s r P0 p) := by
  intro d post hd k
  refine CPd_of (e_firstOtherwise hC ok hs hz hz40 hr hp hA hW) hd rfl (fun v h' q => ?_)
  obtain ⟨y2, rfl, rfl⟩ := q
  exact k (_, J, rd, _) hC.th frC.th
/-- what is supposed -/
theorem k_suppose {d s p b w v z : Nat} {post : Option AV → AH → Prop} (hC : CF I rr A) (ok : OKA A) (hs : s < 4) (hz : aS A s 1 = nI z) (hz40 : z ≤ 40) (hp : p < aN A 0) (hb : b < aN A 0) (hw : w = 1 ∨ w = 2 ∨ w = 3 ∨ w = 5 ∨ w = 6) (hv : v < limS A w) (hd : 4 < d)
    (k1 : ∀ x : XC, CF x.1 x.2.2.2 A → frC I x.1 J x.2.1 → tlG A s p b w v = false → post (some (vI 0)) (mkH x.1 x.2.1 x.2.2.1 x.2.2.2))
    (k2 : ∀ h, tlG A s p b w v = decide (foV A s (suR A w v) (suP A b w v) p = -1) → FO G l I J A s p h (foV A s (suR A w v) (suP A b w v) p) → post (some (vI 1)) h) :
    CPd G l d 80 0 113 [vR 0 0 0, vI (nI b), vI (nI w), vI (nI v)] (mkH I J rd rr) post := by
  refine CPd_of (e_canSuppose hC ok hb hw hv) hd rfl (fun r h' q => ?_)
  obtain ⟨y, rfl, rfl, hy⟩ := q
  by_cases hok : suOK A b w v
  · unfold iN
    rw [if_pos hok]
    refine k2 _ ?_ (FO_of hC ok hs hz hz40 (su_R ok hv hw) hp (hy hok) (su_WF ok hv hok))
    unfold tlG
    rw [decide_eq_true hok]
    rfl
  · unfold iN
    rw [if_neg hok]
    refine k1 (_, J, rd, _) hC.th frC.th ?_
    unfold tlG
    rw [decide_eq_false hok]
    rfl
theorem e_bitsByWhich {s p b w n z : Nat} (hC : CF I rr A) (ok : OKA A) (hs : s < 4) (hz : aS A s 1 = nI z) (hz40 : z ≤ 40) (hp : p < aN A 0) (hb : b < aN A 0) (hw : w = 1 ∨ w = 2 ∨ w = 5 ∨ w = 6) (hn : n = limS A w) :
    Ev G l 5 (mt 112) 80 80 [vR 0 0 0, vR 15 s 0, vI (nI p), vI (nI b), vI (nI w), vI (nI n)] (mkH I J rd rr) (fun r h' => ∃ x : XC, r = some (vI (bsU (tlG A s p b w) n)) ∧ h' = mkH x.1 x.2.1 x.2.2.1 x.2.2.2 ∧ CF x.1 x.2.2.2 A ∧ frC I x.1 J x.2.1) := by
  have hn10 : n ≤ 10 := by
    subst hn
    have h36 := ok.1.2.2.2.1
    rcases hw with rfl | rfl | rfl | rfl
    · show 6 ≤ 10; decide
    · show 10 ≤ 10; decide
    · show 6 ≤ 10; decide
    · show aN A 3 ≤ 10; omega
  have hw' : w = 1 ∨ w = 2 ∨ w = 3 ∨ w = 5 ∨ w = 6 := by omega
  refine Ev_go iC_bitsByWhich rfl rfl rfl ⟨Nat.le_refl _, Nat.le_refl _⟩ (fun K hK => ?_)
  have loop : ∀ j v (x : XC), v + j = n → CF x.1 x.2.2.2 A → frC I x.1 J x.2.1 → K 80 6 [some (vR 0 0 0), some (vR 15 s 0), some (vI (nI p)), some (vI (nI b)), some (vI (nI w)), some (vI (nI n)), some (vI (bsU (tlG A s p b w) v)), some (vI (nI v))] [] (mkH x.1 x.2.1 x.2.2.1 x.2.2.2) := by
    intro j
    induction j with
    | zero =>
      intro v x hv hC1 hf
      refine hK.1 [] 60 _ _ _ _ _ ?_
      rw [show v = n by omega]
      exact And.intro (fun _ => ⟨rfl, x, rfl, rfl, hC1, hf⟩) (fun h => absurd (nI_le (Nat.le_refl _) (by omega)) h)
    | succ j ih =>
      intro v x hv hC1 hf
      refine hK.1 [(6, [true, true, true, true, true, true, true, true])] 60 _ _ _ _ _ ?_
      have no : ∀ y : XC, CF y.1 y.2.2.2 A → frC I y.1 J y.2.1 → tlG A s p b w v = false → K 80 6 [some (vR 0 0 0), some (vR 15 s 0), some (vI (nI p)), some (vI (nI b)), some (vI (nI w)), some (vI (nI n)), some (vI (bsU (tlG A s p b w) v)), some (vI (nI v + 1))] [] (mkH y.1 y.2.1 y.2.2.1 y.2.2.2) := by
        intro y h1 h2 h3
        have := ih (v + 1) y (by omega) h1 h2
        rw [bsU, h3, if_neg (by decide), nI_succ] at this
        exact this
      refine And.intro (fun h => absurd h (nI_ge (by omega) (by omega))) (fun _ => ?_)
      refine k_suppose hC1 ok hs hz hz40 hp hb hw' (by omega) (by decide) (fun y h1 h2 h3 => ?_) (fun h hg hFO => ?_)
      · refine And.intro (fun _ => ?_) (fun q => absurd rfl q)
        show K 80 6 _ _ _
        exact no y h1 (hf.tr h2) h3
      · refine And.intro (fun q => absurd q (by decide)) (fun _ => ?_)
        refine hFO _ _ (by decide) (fun y h1 h2 => ?_)
        refine And.intro (fun h7 => ?_) (fun h7 => ?_)
        · show K 80 6 _ _ _
          exact no y h1 (hf.tr h2) (by rw [hg, decide_eq_false h7])
        · show K 80 6 _ _ _
          have := ih (v + 1) y (by omega) h1 (hf.tr h2)
          rw [bsU, hg, decide_eq_true h7, if_pos rfl, nI_succ] at this
          exact this
  refine hK.1 [(6, [true, true, true, true, true, true, true, true])] 60 _ _ _ _ _ ?_
  show K 80 6 _ _ _
  exact loop n 0 (I, J, rd, rr) (by omega) hC (fun k hk => ⟨rfl, rfl⟩)
theorem e_storiesByWhich {s p b z N : Nat} {q : Int32} (hN : N = 100) (hC : CF I rr A) (ok : OKA A) (hs : s < 4) (hz : aS A s 1 = nI z) (hz40 : z ≤ 40) (hp : p < aN A 0) (hb : b < aN A 0) :
    Ev G l 5 (mt 115) 80 80 [vR 0 0 0, vR 15 s 0, vI (nI p), vI (nI b), vI q] (mkH I J rd rr) (fun r h' => ∃ x : XC, r = some (vI (if q = 0 then cnU (tlG A s p b 3) N else ffU (tlG A s p b 3) N 0)) ∧ h' = mkH x.1 x.2.1 x.2.2.1 x.2.2.2 ∧ CF x.1 x.2.2.2 A ∧ frC I x.1 J x.2.1) := by
  have hlim : limS A 3 = 100 := rfl
  refine Ev_go iC_storiesByWhich rfl rfl rfl ⟨Nat.le_refl _, Nat.le_refl _⟩ (fun K hK => ?_)
  have loop : ∀ j v (x : XC), v + j = N → CF x.1 x.2.2.2 A → frC I x.1 J x.2.1 → (¬ q = 0 → ffU (tlG A s p b 3) j v = ffU (tlG A s p b 3) N 0) → K 80 6 [some (vR 0 0 0), some (vR 15 s 0), some (vI (nI p)), some (vI (nI b)), some (vI q), some (vI (if q = 0 then cnU (tlG A s p b 3) v else 0)), some (vI (nI v))] [] (mkH x.1 x.2.1 x.2.2.1 x.2.2.2) := by
    intro j
    induction j with
    | zero =>
      intro v x hv hC1 hf hR
      refine hK.1 [] 60 _ _ _ _ _ ?_
      rw [show v = N by omega]
      refine And.intro (fun _ => And.intro (fun h6 => ?_) (fun h6 => ?_)) (fun h => absurd (by rw [hN]; decide) h)
      · refine ⟨rfl, x, ?_, rfl, hC1, hf⟩
        rw [if_pos h6, if_pos h6]
      · refine ⟨rfl, x, ?_, rfl, hC1, hf⟩
        rw [if_neg h6, ← hR h6]
        rfl
    | succ j ih =>
      intro v x hv hC1 hf hR
      refine hK.1 [(6, [true, true, true, true, true, true, true])] 60 _ _ _ _ _ ?_
      rw [ffU] at hR
      have no : ∀ y : XC, CF y.1 y.2.2.2 A → frC I y.1 J y.2.1 → tlG A s p b 3 v = false → K 80 6 [some (vR 0 0 0), some (vR 15 s 0), some (vI (nI p)), some (vI (nI b)), some (vI q), some (vI (if q = 0 then cnU (tlG A s p b 3) v else 0)), some (vI (nI v + 1))] [] (mkH y.1 y.2.1 y.2.2.1 y.2.2.2) := by
        intro y h1 h2 h3
        have := ih (v + 1) y (by omega) h1 h2 (fun h => by have := hR h; rw [h3, if_neg (show ¬ (false = true) by decide)] at this; exact this)
        rw [cnU, h3, if_neg (show ¬ (false = true) by decide), nI_succ] at this
        exact this
      refine And.intro (fun h => absurd h (by
        intro q
        have := Int32.lt_iff_toInt_lt.mp q
        rw [nI_toInt (by omega)] at this
        have h5' : (99 : Int32).toInt = 99 := by decide
        omega)) (fun _ => ?_)
      refine k_suppose (w := 3) hC1 ok hs hz hz40 hp hb (by decide) (by rw [hlim]; omega) (by decide) (fun y h1 h2 h3 => ?_) (fun h hg hFO => ?_)
      · refine And.intro (fun _ => ?_) (fun q => absurd rfl q)
        show K 80 6 _ _ _
        exact no y h1 (hf.tr h2) h3
      · refine And.intro (fun q => absurd q (by decide)) (fun _ => ?_)
        refine hFO _ _ (by decide) (fun y h1 h2 => ?_)
        refine And.intro (fun h7 => ?_) (fun h7 => ?_)
        · show K 80 6 _ _ _
          exact no y h1 (hf.tr h2) (by rw [hg, decide_eq_false h7])
        · have hg1 : tlG A s p b 3 v = true := by rw [hg, decide_eq_true h7]
          refine And.intro (fun h8 => ?_) (fun h8 => ?_)
          · show K 80 6 _ _ _
            have := ih (v + 1) y (by omega) h1 (hf.tr h2) (fun h => absurd h8 h)
            rw [cnU, hg1, if_pos (show true = true from rfl), nI_succ, if_pos h8] at this
            rw [if_pos h8]
            exact this
          · refine ⟨rfl, y, ?_, rfl, h1, hf.tr h2⟩
            rw [if_neg h8, ← hR h8, hg1, if_pos rfl]
  refine hK.1 [(6, [true, true, true, true, true, true, true])] 60 _ _ _ _ _ ?_
  show K 80 6 _ _ _
  refine Kc (loop N 0 (I, J, rd, rr) (by omega) hC (fun k hk => ⟨rfl, rfl⟩) (fun _ => rfl)) ?_ rfl
  rw [show (if q = 0 then cnU (tlG A s p b 3) 0 else 0) = 0 by split <;> rfl]
  rfl
theorem k_thinkFO {d s p z : Nat} {post : Option AV → AH → Prop} (hC : CF I rr A) (ok : OKA A) (hs : s < 4) (hz : aS A s 1 = nI z) (hz40 : z ≤ 40) (hp : p < aN A 0) (hd : 1 < d) (k : ∀ h, FO G l I J A s p h (foV A s (aN A 2) (aP A) p) → post none h) : CPd G l d 80 0 88 [vR 17 1 0, vR 17 0 0] (mkH I J rd rr) post := by
  refine k_think hC ok hd (fun P hP => k _ ?_)
  exact FO_of (r := aN A 2) hC ok hs hz hz40 ok.1.2.2.1 hp hP ok.1.2.2.2.2
theorem e_peopleOfWhom {s z : Nat} (hC : CF I rr A) (ok : OKA A) (hs : s < 4) (hz : aS A s 1 = nI z) (hz40 : z ≤ 40) :
    Ev G l 5 (mt 116) 80 80 [vR 0 0 0, vR 15 s 0] (mkH I J rd rr) (fun r h' => ∃ x : XC, r = some (vI (bsU (pwG A s) (aN A 0))) ∧ h' = mkH x.1 x.2.1 x.2.2.1 x.2.2.2 ∧ CF x.1 x.2.2.2 A ∧ frC I x.1 J x.2.1) := by
  have h5 := ok.1.1
  refine Ev_go iC_peopleOfWhom rfl rfl rfl ⟨Nat.le_refl _, Nat.le_refl _⟩ (fun K hK => ?_)
  have loop : ∀ j v (x : XC), v + j = aN A 0 → CF x.1 x.2.2.2 A → frC I x.1 J x.2.1 → K 80 4 [some (vR 0 0 0), some (vR 15 s 0), some (vI (bsU (pwG A s) v)), some (vI (nI v))] [] (mkH x.1 x.2.1 x.2.2.1 x.2.2.2) := by
    intro j
    induction j with
    | zero =>
      intro v x hv hC1 hf
      refine hK.1 [] 60 _ _ _ _ _ ?_
      rw [show v = aN A 0 by omega]
      refine And.intro (fun _ => ⟨rfl, x, rfl, rfl, hC1, hf⟩) (fun h => absurd ?_ h)
      rw [getI_mk, hC1.1.1]
      exact nI_le (Nat.le_refl _) (by omega)
    | succ j ih =>
      intro v x hv hC1 hf
      refine hK.1 [(4, [true, true, true, true])] 60 _ _ _ _ _ ?_
      refine And.intro (fun h => absurd h ?_) (fun _ => ?_)
      · rw [getI_mk, hC1.1.1]
        exact nI_ge (by omega) (by omega)
      · refine k_thinkFO hC1 ok hs hz hz40 (p := v) (by omega) (by decide) (fun h hFO => ?_)
        refine hFO _ _ (by decide) (fun y h1 h2 => ?_)
        have e := ih (v + 1) y (by omega) h1 (hf.tr h2)
        refine And.intro (fun h7 => ?_) (fun h7 => ?_)
        · show K 80 4 _ _ _
          rw [bsU, show pwG A s v = false from decide_eq_false h7, if_neg (by decide), nI_succ] at e
          exact e
        · show K 80 4 _ _ _
          rw [bsU, show pwG A s v = true from decide_eq_true h7, if_pos rfl, nI_succ] at e
          exact e
  refine hK.1 [(4, [true, true, true, true])] 60 _ _ _ _ _ ?_
  show K 80 4 _ _ _
  exact loop (aN A 0) 0 (I, J, rd, rr) (by omega) hC (fun k hk => ⟨rfl, rfl⟩)
theorem c_tells {s one b w : Int32} (ok : OKA A) : CC G l 109 6 [vI s, vI one, vI b, vI w] A (vI (tellsR A s one b w)) A := by
  intro I J rd rr hC
  obtain ⟨h1, h2, h3, h4⟩ := hC.1
  have h5 := ok.1.1
  refine Ev_go iC_tells rfl rfl rfl ⟨Nat.le_refl _, Nat.le_refl _⟩ (fun K hK => hK.1 [] 200 _ _ _ _ _ ?_)
  unfold tellsR
  refine k_isSheet (by decide) ?_
  refine And.intro (fun h6 => ?_) (fun h6 => ?_)
  · rw [if_neg (fun q => iN_n h6 q.1)]
    exact ⟨rfl, (I, J, rd, rr), rfl, rfl, hC, fun k hk => ⟨rfl, rfl⟩⟩
  · refine k_isThere h1 (by decide) ?_
    refine And.intro (fun h7 => ?_) (fun h7 => ?_)
    · rw [if_neg (fun q => iN_n h7 q.2.1)]
      exact ⟨rfl, (I, J, rd, rr), rfl, rfl, hC, fun k hk => ⟨rfl, rfl⟩⟩
    · refine k_isThere h1 (by decide) ?_
      refine And.intro (fun h8 => ?_) (fun h8 => ?_)
      · rw [if_neg (fun q => iN_n h8 q.2.2.1)]
        exact ⟨rfl, (I, J, rd, rr), rfl, rfl, hC, fun k hk => ⟨rfl, rfl⟩⟩
      · refine k_isWithin (by decide) ?_
        refine And.intro (fun h9 => ?_) (fun h9 => ?_)
        · have hc := And.intro (iN_y h6) (And.intro (iN_y h7) (And.intro (iN_y h8) (iN_y h9)))
          rw [if_pos hc]
          obtain ⟨s, hs, rfl⟩ := rg_of (n := 3) hc.1.1 hc.1.2 (by decide)
          obtain ⟨p, hp, rfl⟩ := nI_ex hc.2.1.1 hc.2.1.2 (by omega)
          obtain ⟨b, hb, rfl⟩ := nI_ex hc.2.2.1.1 hc.2.2.1.2 (by omega)
          obtain ⟨w, hw, rfl⟩ := rg_of (n := 7) hc.2.2.2.1 hc.2.2.2.2 (by decide)
          clear h6 h7 h8 h9 hc
          rw [nI_clamp (n := s) (by omega), nI_clamp (n := p) (by omega), nI_clamp (n := b) (by omega), nI_clamp (n := w) (by omega)]
          obtain ⟨z, hz, ez⟩ := sz_ex ok (s := s) (by omega)
          have gs := hC.2.2.2.2.1 s (by omega)
          show vp_in _ _ ∧ _
          refine ⟨nI_in (N := 4) (by omega) (by decide), ?_⟩
          rw [nI_clamp (n := s) (by omega)]
          refine k_missing (by decide) ?_
          rw [gs.1]
          refine And.intro (fun h10 => ?_) (fun h10 => ?_)
          · rw [if_neg (iN_n h10)]
            have hle : (aS A s 1 ≤ 20) ↔ z ≤ 20 := by
              rw [ez, Int32.le_iff_toInt_le, nI_toInt (by omega)]
              have h5' : (20 : Int32).toInt = 20 := by decide
              omega
            refine And.intro (fun h11 => ?_) (fun h11 => ?_)
            · rw [getI_mk, gs.2.1] at h11
              rw [if_pos h11]
              match w, hw with
              | 0, _ =>
                rw [show tellsV A s p b 0 = foV A s (aN A 2) (aP A) p by unfold tellsV; rw [if_pos rfl]]
                refine And.intro ⟨fun h => absurd h (by decide), fun h => absurd h (by decide), fun h => absurd h (by decide), fun h => absurd h (by decide), fun h => absurd h (by decide), fun h => absurd h (by decide), fun h => absurd h (by decide), True.intro⟩ (fun _ => ?_)
                refine k_thinkFO hC ok (s := s) (by omega) ez hz hp (by decide) (fun h hFO => ?_)
                refine hFO _ _ (by decide) (fun y h1 h2 => ?_)
                exact ⟨rfl, y, rfl, rfl, h1, h2⟩
              | 1, _ =>
                rw [show tellsV A s p b 1 = bsU (tlG A s p b 1) (limS A 1) by unfold tellsV; rw [if_neg (by decide), if_neg (by decide), if_neg (by decide), if_neg (by decide)]]
                refine And.intro ⟨fun _ => ?_, fun h => absurd h (by decide), fun h => absurd h (by decide), fun h => absurd h (by decide), fun h => absurd h (by decide), fun h => absurd h (by decide), fun h => absurd h (by decide), True.intro⟩ (fun h => absurd rfl h.1)
                refine CPd_exc (e_bitsByWhich (w := 1) (n := 6) hC ok (by omega) ez hz hp hb (by decide) rfl) (by decide) rfl (fun x hx => ?_)
                exact ⟨rfl, x, rfl, rfl, hx⟩
              | 2, _ =>
                rw [show tellsV A s p b 2 = bsU (tlG A s p b 2) (limS A 2) by unfold tellsV; rw [if_neg (by decide), if_neg (by decide), if_neg (by decide), if_neg (by decide)]]
                refine And.intro ⟨fun h => absurd h (by decide), fun _ => ?_, fun h => absurd h (by decide), fun h => absurd h (by decide), fun h => absurd h (by decide), fun h => absurd h (by decide), fun h => absurd h (by decide), True.intro⟩ (fun h => absurd rfl h.2.1)
                refine CPd_exc (e_bitsByWhich (w := 2) (n := 10) hC ok (by omega) ez hz hp hb (by decide) rfl) (by decide) rfl (fun x hx => ?_)
                exact ⟨rfl, x, rfl, rfl, hx⟩
              | 3, _ =>
                rw [show tellsV A s p b 3 = cnU (tlG A s p b 3) 100 by unfold tellsV; rw [if_neg (by decide), if_pos rfl]]
                refine And.intro ⟨fun h => absurd h (by decide), fun h => absurd h (by decide), fun _ => ?_, fun h => absurd h (by decide), fun h => absurd h (by decide), fun h => absurd h (by decide), fun h => absurd h (by decide), True.intro⟩ (fun h => absurd rfl h.2.2.1)
                refine And.intro (fun _ => ?_) (fun h => absurd h (by decide))
                refine CPd_exc (e_storiesByWhich (N := 100) rfl hC ok (by omega) ez hz hp hb) (by decide) rfl (fun x hx => ?_)
                exact ⟨rfl, x, by rw [if_pos rfl], rfl, hx⟩
              | 4, _ =>
                rw [show tellsV A s p b 4 = ffU (tlG A s p b 3) 100 0 by unfold tellsV; rw [if_neg (by decide), if_neg (by decide), if_pos rfl]]
                refine And.intro ⟨fun h => absurd h (by decide), fun h => absurd h (by decide), fun h => absurd h (by decide), fun _ => ?_, fun h => absurd h (by decide), fun h => absurd h (by decide), fun h => absurd h (by decide), True.intro⟩ (fun h => absurd rfl h.2.2.2.1)
                refine And.intro (fun h => absurd rfl h) (fun _ => ?_)
                refine CPd_exc (e_storiesByWhich (N := 100) rfl hC ok (by omega) ez hz hp hb) (by decide) rfl (fun x hx => ?_)
                exact ⟨rfl, x, by rw [if_neg (by decide)], rfl, hx⟩
              | 5, _ =>
                rw [show tellsV A s p b 5 = bsU (tlG A s p b 5) (limS A 5) by unfold tellsV; rw [if_neg (by decide), if_neg (by decide), if_neg (by decide), if_neg (by decide)]]
                refine And.intro ⟨fun h => absurd h (by decide), fun h => absurd h (by decide), fun h => absurd h (by decide), fun h => absurd h (by decide), fun _ => ?_, fun h => absurd h (by decide), fun h => absurd h (by decide), True.intro⟩ (fun h => absurd rfl h.2.2.2.2.1)
                refine CPd_exc (e_bitsByWhich (w := 5) (n := 6) hC ok (by omega) ez hz hp hb (by decide) rfl) (by decide) rfl (fun x hx => ?_)
                exact ⟨rfl, x, rfl, rfl, hx⟩
              | 6, _ =>
                rw [show tellsV A s p b 6 = bsU (tlG A s p b 6) (limS A 6) by unfold tellsV; rw [if_neg (by decide), if_neg (by decide), if_neg (by decide), if_neg (by decide)]]
                refine And.intro ⟨fun h => absurd h (by decide), fun h => absurd h (by decide), fun h => absurd h (by decide), fun h => absurd h (by decide), fun h => absurd h (by decide), fun _ => ?_, fun h => absurd h (by decide), True.intro⟩ (fun h => absurd rfl h.2.2.2.2.2.1)
                show CPd _ _ _ _ _ _ _ _ _
                rw [getI_mk, hC.2.1.1]
                refine CPd_exc (e_bitsByWhich (w := 6) (n := aN A 3) hC ok (by omega) ez hz hp hb (by decide) rfl) (by decide) rfl (fun x hx => ?_)
                exact ⟨rfl, x, rfl, rfl, hx⟩
              | 7, _ =>
                rw [show tellsV A s p b 7 = bsU (pwG A s) (aN A 0) by unfold tellsV; rw [if_neg (by decide), if_neg (by decide), if_neg (by decide), if_pos rfl]]
                refine And.intro ⟨fun h => absurd h (by decide), fun h => absurd h (by decide), fun h => absurd h (by decide), fun h => absurd h (by decide), fun h => absurd h (by decide), fun h => absurd h (by decide), fun _ => ?_, True.intro⟩ (fun h => absurd rfl h.2.2.2.2.2.2.1)
                refine CPd_exc (e_peopleOfWhom hC ok (by omega) ez hz) (by decide) rfl (fun x hx => ?_)
                exact ⟨rfl, x, rfl, rfl, hx⟩
            · rw [getI_mk, gs.2.1] at h11
              rw [if_neg h11]
              exact ⟨rfl, (I, J, rd, rr), rfl, rfl, hC, fun k hk => ⟨rfl, rfl⟩⟩
          · rw [if_pos (iN_y h10)]
            exact ⟨rfl, (I, J, rd, rr), rfl, rfl, hC, fun k hk => ⟨rfl, rfl⟩⟩
        · rw [if_neg (fun q => iN_n h9 q.2.2.2)]
          exact ⟨rfl, (I, J, rd, rr), rfl, rfl, hC, fun k hk => ⟨rfl, rfl⟩⟩
end T40
