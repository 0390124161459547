/-! what a part of a text tells: steps over a stack -/
section C3
variable {G : GT} {l : Launch} {I : HI} {J : HJ} {rd : Option AO} {rr : Nat → Nat}
def nmd (E : Nat → Int32) (c : Int32) : Int32 := if c = -5 then E 5 else if c = -4 then E 4 else if c = -3 then E 3 else if c = -2 then E 2 else if c = -1 then E 1 else E 6
def jnd (c a b : Int32) : Int32 := if c = -20 then a + b else if c = -21 then a - b else if c = -22 then a * b else if c = -23 then iN (a < b) else if c = -24 then iN (a = b) else if c = -25 then iN (a ≠ 0 ∧ b ≠ 0) else iN (a ≠ 0 ∨ b ≠ 0)
def ngt (c a : Int32) : Int32 := if c = -10 then -a else iN (a = 0)
def stp (E : Nat → Int32) (c : Int32) (st : List Int32) : Option (List Int32) :=
  if c ≤ -10 then (if -11 ≤ c then (match st with | a :: st => some (ngt c a :: st) | [] => none) else (match st with | b :: a :: st => some (jnd c a b :: st) | _ => none))
  else (if st.length < 48 then some ((if 0 ≤ c then c else nmd E c) :: st) else none)
def rpn (E : Nat → Int32) : List Int32 → List Int32 → Option (List Int32)
  | [], st => some st
  | c :: cs, st => (match stp E c st with | some st => rpn E cs st | none => none)
def seg (f : Nat → Int32) (a : Nat) : Nat → List Int32
  | 0 => []
  | n + 1 => f a :: seg f (a + 1) n
def envS (R : Nat → Int32) (day asl : Int32) : Nat → Int32 := fun i => if i = 1 then R 2 else if i = 2 then R 3 else if i = 3 then R 1 else if i = 4 then day else if i = 5 then asl else R 5
def tpS : List Int32 → Int32
  | [] => -1
  | _ :: st => nI st.length
def stO (O : Nat → Int32) : List Int32 → Prop
  | [] => True
  | a :: st => O st.length = a ∧ stO O st
def updO (O : Nat → Nat → Nat → Int32) (r k : Nat) (x : Int32) : Nat → Nat → Nat → Int32 := fun i j t => if i = r ∧ j = 0 ∧ t = k then x else O i j t
theorem upI_14 {O : Nat → Nat → Nat → Int32} {r k : Nat} {x : Int32} : upI (setO I O) 14 r 0 k x = setO I (updO O r k x) := by
  funext k i j t
  simp only [upI, setO, updO]
  grind
theorem setO_14 {O : Nat → Nat → Nat → Int32} {r k : Nat} : setO I O 14 r 0 k = O r 0 k := by simp [setO]
theorem stO_up {O : Nat → Nat → Nat → Int32} {r k : Nat} {x : Int32} : ∀ {st : List Int32}, st.length ≤ k → stO (O r 0) st → stO (updO O r k x r 0) st
  | [], _, _ => True.intro
  | a :: st, h, q => by
    refine ⟨?_, stO_up (by simp at h; omega) q.2⟩
    have : st.length ≠ k := by simp at h; omega
    simp only [updO, this, and_false, ↓reduceIte]
    exact q.1
theorem updO_s {O : Nat → Nat → Nat → Int32} {r k : Nat} {x : Int32} : updO O r k x r 0 k = x := by simp [updO]
theorem tpS_succ : ∀ (st : List Int32), tpS st + 1 = nI st.length
  | [] => by decide
  | a :: st => by rw [List.length_cons, nI_succ]; rfl
theorem nI_dec {k : Nat} : nI k + 1 + -1 = nI k := by grind
theorem e_named {d v p : Nat} {c x y : Int32} : Ev G l d (mt 68) 80 80 [vI c, vR 19 v p, vI x, vI y] (mkH I J rd rr) (fun r h' => r = some (vI (nmd (envS (I 19 v p) x y) c)) ∧ h' = mkH I J rd rr) := by
  refine Ev_go iR_named rfl rfl rfl ⟨Nat.le_refl _, Nat.le_refl _⟩ (fun K hK => hK.1 [] 120 _ _ _ _ _ ?_)
  repeat' first | exact rfl | exact True.intro | apply And.intro | intro _
  all_goals first | (simp_all [nmd, envS, getI_mk, swNo]; done)
theorem e_joined {d : Nat} {c a b : Int32} {h : AH} : Ev G l d (mt 70) 80 80 [vI c, vI a, vI b] h (fun r h' => r = some (vI (jnd c a b)) ∧ h' = h) := by
  refine Ev_go iR_joined rfl rfl rfl ⟨Nat.le_refl _, Nat.le_refl _⟩ (fun K hK => hK.1 [] 120 _ _ _ _ _ ?_)
  repeat' first | exact rfl | exact True.intro | apply And.intro | intro _
  all_goals first | (simp_all [jnd, iN, swNo]; done) | (simp_all [jnd, iN, swNo]; grind)
theorem e_oneIf {d : Nat} {a : Int32} {h : AH} : Ev G l d (mt 69) 80 80 [vI a] h (fun r h' => r = some (vI (iN (¬ a = 0))) ∧ h' = h) := by
  refine Ev_go iR_oneIf rfl rfl rfl ⟨Nat.le_refl _, Nat.le_refl _⟩ (fun K hK => hK.1 [] 120 _ _ _ _ _ ?_)
  repeat' first | exact rfl | exact True.intro | apply And.intro | intro _
  all_goals first | (simp_all [iN]; done)
theorem e_value {r v p part a n : Nat} {day asl x : Int32} (hp : part < 3) (ha : I 13 r 0 part = nI a) (hb : I 13 r 0 (part + 1) = nI (a + n)) (h160 : a + n ≤ 160) (he : rpn (envS (I 19 v p) day asl) (seg (I 12 r 0) a n) [] = some [x]) :
    Ev G l 1 (mt 67) 80 80 [vR 11 r 0, vI (nI part), vR 19 v p, vI day, vI asl] (mkH I J rd rr) (fun rt h' => ∃ O, rt = some (vI (bnd x 0 99)) ∧ h' = mkH (setO I O) J rd rr) := by
  refine Ev_go iR_value rfl rfl rfl ⟨Nat.le_refl _, Nat.le_refl _⟩ (fun K hK => ?_)
  have loop : ∀ n' a' st O, a' + n' = a + n → rpn (envS (I 19 v p) day asl) (seg (I 12 r 0) a' n') st = some [x] → stO (O r 0) st → st.length ≤ 48 → K 80 32 [some (vR 11 r 0), none, some (vR 19 v p), some (vI day), some (vI asl), some (vI (nI (a + n))), some (vI (tpS st)), some (vI (nI a')), none] [] (mkH (setO I O) J rd rr) := by
    intro n'
    induction n' with
    | zero =>
      intro a' st O hk hr hs hl
      simp only [seg, rpn, Option.some.injEq] at hr
      subst hr
      refine hK.1 [] 60 _ _ _ _ _ ?_
      refine And.intro (fun h1 => ?_) (fun h1 => absurd (nI_le (by omega) (by omega)) h1)
      refine And.intro (fun h2 => ?_) (fun h2 => absurd (by show (0 : Int32) ≤ nI 0; decide) h2)
      refine ⟨nI_in (N := 48) (by decide) (by decide), ?_⟩
      refine CPd_eq (e_bound (Nat.le_refl 80)) (Nat.lt_succ_self 0) rfl ?_
      refine ⟨rfl, O, ?_, rfl⟩
      rw [getI_mk]
      show some (vI (bnd (setO I O 14 r 0 (nI 0).toNatClampNeg) 0 99)) = _
      rw [nI_clamp (by decide), setO_14]
      have := hs.1
      simp only [List.length_nil] at this
      rw [this]
    | succ n' ih =>
      intro a' st O hk hr hs hl
      simp only [seg, rpn] at hr
      cases hst : stp (envS (I 19 v p) day asl) (I 12 r 0 a') st with
      | none => rw [hst] at hr; cases hr
      | some st' =>
        rw [hst] at hr
        have hr : rpn (envS (I 19 v p) day asl) (seg (I 12 r 0) (a' + 1) n') st' = some [x] := hr
        have hI : nI (a' + 1) = nI a' + 1 := nI_succ a'
        refine hK.1 [(32, [true, false, true, true, true, true, true, true])] 60 _ _ _ _ _ ?_
        refine And.intro (fun h1 => absurd h1 (nI_ge (by omega) (by omega))) (fun h1 => ⟨nI_in (N := 160) (by omega) (by decide), ?_⟩)
        rw [getI_mk, nI_clamp (by omega), setO_k (by decide)]
        unfold stp at hst
        refine And.intro (fun h2 => ?_) (fun h2 => ?_)
        · rw [if_pos h2] at hst
          refine And.intro (fun h3 => ?_) (fun h3 => ?_)
          · rw [if_neg (by grind)] at hst
            match st, hst, hs, hl with
            | y :: z :: st, hst, hs, hl =>
              have hst : some (jnd (I 12 r 0 a') z y :: st) = some st' := hst
              simp only [Option.some.injEq] at hst
              subst hst
              simp only [List.length_cons] at hl
              have hA : O r 0 st.length = z := hs.2.1
              have hB : O r 0 (st.length + 1) = y := hs.1
              rw [show tpS (y :: z :: st) = nI st.length + 1 from nI_succ _]
              refine And.intro (fun h4 => ?_) (fun h4 => ?_)
              · rw [nI_dec]
                refine ⟨nI_in (N := 48) (by omega) (by decide), by rw [← nI_succ]; exact nI_in (N := 48) (by omega) (by decide), ?_⟩
                rw [← nI_succ, nI_clamp (n := st.length) (by omega), nI_clamp (n := st.length + 1) (by omega), getI_mk, getI_mk, setO_14, setO_14, hA, hB]
                refine CPd_eq e_joined (Nat.lt_succ_self 0) rfl ?_
                refine ⟨nI_in (N := 48) (by omega) (by decide), ?_⟩
                rw [nI_clamp (n := st.length) (by omega), setI_mk, upI_14]
                have e := ih (a' + 1) (jnd (I 12 r 0 a') z y :: st) (updO O r st.length (jnd (I 12 r 0 a') z y)) (by omega) hr ⟨updO_s, stO_up (Nat.le_refl _) hs.2.2⟩ (by simp; omega)
                rw [hI] at e
                exact e
              · rw [nI_dec] at h4
                exact absurd (nI_pos' (by omega)) h4
          · rw [if_pos (by grind)] at hst
            match st, hst, hs, hl with
            | y :: st, hst, hs, hl =>
              have hst : some (ngt (I 12 r 0 a') y :: st) = some st' := hst
              simp only [Option.some.injEq] at hst
              subst hst
              simp only [List.length_cons] at hl
              have hA : O r 0 st.length = y := hs.1
              rw [show tpS (y :: st) = nI st.length from rfl]
              have e := ih (a' + 1) (ngt (I 12 r 0 a') y :: st) (updO O r st.length (ngt (I 12 r 0 a') y)) (by omega) hr ⟨updO_s, stO_up (Nat.le_refl _) hs.2⟩ (by simp; omega)
              rw [hI] at e
              refine And.intro (fun h4 => ?_) (fun h4 => absurd (nI_pos' (by omega)) h4)
              refine And.intro (fun h5 => ?_) (fun h5 => ?_)
              · refine ⟨nI_in (N := 48) (by omega) (by decide), ?_⟩
                rw [nI_clamp (n := st.length) (by omega), getI_mk, setO_14, hA]
                refine And.intro (fun h6 => ?_) (fun h6 => ?_)
                · refine CPd_eq e_oneIf (Nat.lt_succ_self 0) rfl ?_
                  refine ⟨nI_in (N := 48) (by omega) (by decide), ?_⟩
                  rw [nI_clamp (n := st.length) (by omega), setI_mk, upI_14]
                  refine Kc e rfl ?_
                  rw [show ngt (I 12 r 0 a') y = 0 by simp [ngt, h5, h6, iN]]
                  rfl
                · refine CPd_eq e_oneIf (Nat.lt_succ_self 0) rfl ?_
                  refine ⟨nI_in (N := 48) (by omega) (by decide), ?_⟩
                  rw [nI_clamp (n := st.length) (by omega), setI_mk, upI_14]
                  refine Kc e rfl ?_
                  rw [show ngt (I 12 r 0 a') y = 1 by simp [ngt, h5, h6, iN]]
                  rfl
              · refine ⟨nI_in (N := 48) (by omega) (by decide), ?_⟩
                rw [nI_clamp (n := st.length) (by omega), getI_mk, setO_14, hA]
                refine ⟨nI_in (N := 48) (by omega) (by decide), ?_⟩
                rw [nI_clamp (n := st.length) (by omega), setI_mk, upI_14]
                refine Kc e rfl ?_
                rw [show ngt (I 12 r 0 a') y = -y by simp [ngt, h5]]
        · rw [if_neg h2] at hst
          by_cases hlt : st.length < 48
          · rw [if_pos hlt] at hst
            simp only [Option.some.injEq] at hst
            subst hst
            have e := ih (a' + 1) _ (updO O r st.length (if 0 ≤ I 12 r 0 a' then I 12 r 0 a' else nmd (envS (I 19 v p) day asl) (I 12 r 0 a'))) (by omega) hr ⟨updO_s, stO_up (Nat.le_refl _) hs⟩ (by simp; omega)
            rw [hI] at e
            refine And.intro (fun h4 => ?_) (fun h4 => absurd (by rw [tpS_succ]; exact nI_lt hlt (by decide)) h4)
            rw [tpS_succ]
            refine And.intro (fun h5 => ?_) (fun h5 => ?_)
            · refine CPd_eq e_named (Nat.lt_succ_self 0) rfl ?_
              refine ⟨nI_in (N := 48) (by omega) (by decide), ?_⟩
              rw [nI_clamp (n := st.length) (by omega), setI_mk, upI_14]
              refine Kc e rfl ?_
              rw [if_neg (by grind), setO_k (by decide)]
            · refine ⟨nI_in (N := 48) (by omega) (by decide), ?_⟩
              rw [nI_clamp (n := st.length) (by omega), setI_mk, upI_14]
              refine Kc e rfl ?_
              rw [if_pos (by grind)]
          · rw [if_neg hlt] at hst
            cases hst
  refine hK.1 [(32, [true, false, true, true, true, true, true, true])] 60 _ _ _ _ _ ?_
  refine And.intro (fun h1 => absurd h1 (nI_pos (by omega))) (fun h1 => And.intro (fun h2 => ?_) (fun h2 => absurd (nI_lt hp (by decide)) h2))
  refine ⟨by rw [← nI_succ]; exact nI_in (N := 4) (by omega) (by decide), nI_in (N := 4) (by omega) (by decide), ?_⟩
  rw [getI_mk, getI_mk, ← nI_succ, nI_clamp (n := part) (by omega), nI_clamp (n := part + 1) (by omega), ha, hb]
  refine Kc (loop n a [] (I 14) rfl he True.intro (by simp)) rfl ?_
  rw [setO_self]
end C3
