/-! the class: one of PEOPLE, a valley -/
section C2
variable {G : GT} {l : Launch} {I : HI} {J : HJ} {rd : Option AO} {rr : Nat → Nat}
def upP (P : PP) (p a : Nat) (x : Int32) : PP := fun p' a' => if p' = p ∧ a' = a then x else P p' a'
def setP (I : HI) (v : Nat) (P : PP) : HI := fun k i j t => if k = 19 ∧ i = v then P j t else I k i j t
def setO (I : HI) (O : Nat → Nat → Nat → Int32) : HI := fun k i j t => if k = 14 then O i j t else I k i j t
theorem upI_P {v p a : Nat} {x : Int32} : upI I 19 v p a x = setP I v (upP (I 19 v) p a x) := by
  funext k i j t
  simp only [upI, setP, upP]
  grind
theorem setP_19 {v : Nat} {P : PP} : (setP I v P) 19 v = P := by funext j t; simp [setP]
theorem setP_19' {v w : Nat} {P : PP} (h : w ≠ v) : (setP I v P) 19 w = I 19 w := by funext j t; simp [setP, h]
theorem setP_k {v k : Nat} {P : PP} (h : k ≠ 19) : (setP I v P) k = I k := by funext i j t; simp [setP, h]
theorem setP_P {v : Nat} {P Q : PP} : setP (setP I v P) v Q = setP I v Q := by funext k i j t; simp only [setP]; grind
theorem setP_self {v : Nat} : setP I v (I 19 v) = I := by funext k i j t; simp only [setP]; grind
theorem setO_k {O : Nat → Nat → Nat → Int32} {k : Nat} (h : k ≠ 14) : (setO I O) k = I k := by funext i j t; simp [setO, h]
theorem setO_O {O O' : Nat → Nat → Nat → Int32} : setO (setO I O) O' = setO I O' := by funext k i j t; simp only [setO]; grind
theorem setO_self : setO I (I 14) = I := by funext k i j t; simp only [setO]; grind
theorem setP_O {O : Nat → Nat → Nat → Int32} {v : Nat} {P : PP} : setP (setO I O) v P = setO (setP I v P) O := by funext k i j t; simp only [setO, setP]; grind
theorem upI_O {O : Nat → Nat → Nat → Int32} {k i j t : Nat} {x : Int32} (h : k ≠ 14) : upI (setO I O) k i j t x = setO (upI I k i j t x) O := by funext k i j t; simp only [setO, upI]; grind
theorem upP_s {P : PP} {p a : Nat} {x : Int32} : upP P p a x p a = x := by simp [upP]
theorem upP_a {P : PP} {p q a b : Nat} {x : Int32} (h : b ≠ a) : upP P p a x q b = P q b := by simp [upP, h]
theorem upP_p {P : PP} {p q a b : Nat} {x : Int32} (h : q ≠ p) : upP P p a x q b = P q b := by simp [upP, h]
def comeS (P : PP) (p : Nat) (k n : Int32) : PP := upP (upP (upP (upP (upP (upP (upP P p 0 k) p 1 n) p 2 0) p 3 0) p 4 (-1)) p 5 0) p 6 0
theorem e_comeAs {v p : Nat} {k n : Int32} : Ev G l 0 (mt 61) 80 80 [vR 19 v p, vI k, vI n] (mkH I J rd rr) (fun r h' => r = none ∧ h' = mkH (setP I v (comeS (I 19 v) p k n)) J rd rr) := by
  refine Ev_go iP_comeAs rfl rfl rfl ⟨Nat.le_refl _, Nat.le_refl _⟩ (fun K hK => hK.1 [] 120 _ _ _ _ _ ?_)
  refine ⟨Or.inl rfl, rfl, rfl, ?_⟩
  simp only [setI_mk, upI_P, setP_19, setP_P, comeS]
def copP (P : PP) (p : Nat) (R : Nat → Int32) : PP := upP (upP (upP (upP (upP (upP (upP P p 0 (R 0)) p 1 (R 1)) p 2 (R 2)) p 3 (R 3)) p 4 (R 4)) p 5 (R 5)) p 6 (R 6)
theorem e_pbecome {v p w q : Nat} (hvw : w ≠ v) : Ev G l 0 (mt 89) 80 80 [vR 19 v p, vR 19 w q] (mkH I J rd rr) (fun r h' => r = none ∧ h' = mkH (setP I v (copP (I 19 v) p (I 19 w q))) J rd rr) := by
  refine Ev_go iP_become rfl rfl rfl ⟨Nat.le_refl _, Nat.le_refl _⟩ (fun K hK => hK.1 [] 120 _ _ _ _ _ ?_)
  intro hz
  refine ⟨hz, rfl, rfl, ?_⟩
  simp only [setI_mk, getI_mk, upI_P, setP_19, setP_19' hvw, setP_P, copP]
def doingS (R : Nat → Int32) (v : Int32) : Int32 := if R 0 = 1 then v / 2 else if R 0 = 2 then bnd (v + R 1) 0 99 else if R 0 = 3 then (if 50 ≤ R 2 then 0 else v / 2) else if R 0 = 4 then 0 else v
def weighS (R : Nat → Int32) (v : Int32) : Int32 := if R 0 = 1 then R 3 else if R 0 = 2 then bnd (2 * (R 3 + v)) (-99) 99 else if R 0 = 3 then bnd (R 3 - R 1) 0 99 else if R 0 = 4 then 0 else if R 0 = 5 then -(R 3 / 2) else bnd (R 3 + v) (-99) 99
def hearS (R : Nat → Int32) (ld v : Int32) : Int32 := if ld ≤ 0 then ld else if R 0 = 1 then bnd ((if ld ≤ v then 0 else ld - v) + R 1) (-99) 99 else if R 0 = 2 then 0 else if R 0 = 3 then bnd ((if R 3 = 0 then 2 else 1) * ((if ld ≤ v then 0 else ld - v) + R 1)) (-99) 99 else if R 0 = 4 then ld / 2 else if ld ≤ v then 0 else ld - v
theorem CPd_eq {d n z mi d' : Nat} {avs : List AV} {h H : AH} {R : Option AV} {post : Option AV → AH → Prop} (E : Ev G l d' (mt mi) n n avs h (fun r h' => r = R ∧ h' = H)) (hd : d' < d) (hr : (Nat.beq z 1 || rcvOK mi avs) = true) (kk : post R H) : CPd G l d n z mi avs h post :=
  CPd_of E hd hr (fun r h' q => by obtain ⟨rfl, rfl⟩ := q; exact kk)
theorem CPd_ex {α : Type} {d n z mi d' : Nat} {avs : List AV} {h : AH} {H : α → AH} {R : α → Option AV} {post : Option AV → AH → Prop} (E : Ev G l d' (mt mi) n n avs h (fun r h' => ∃ x, r = R x ∧ h' = H x)) (hd : d' < d) (hr : (Nat.beq z 1 || rcvOK mi avs) = true) (kk : ∀ x, post (R x) (H x)) : CPd G l d n z mi avs h post :=
  CPd_of E hd hr (fun r h' q => by obtain ⟨x, rfl, rfl⟩ := q; exact kk x)
theorem e_doing {v p : Nat} {x : Int32} : Ev G l 1 (mt 72) 80 80 [vR 19 v p, vI x] (mkH I J rd rr) (fun r h' => r = some (vI (doingS (I 19 v p) x)) ∧ h' = mkH I J rd rr) := by
  refine Ev_go iP_doing rfl rfl rfl ⟨Nat.le_refl _, Nat.le_refl _⟩ (fun K hK => hK.1 [] 120 _ _ _ _ _ ?_)
  repeat' first | exact rfl | exact True.intro | apply And.intro | intro _ | refine CPd_eq (e_bound (Nat.le_refl 80)) (Nat.lt_succ_self _) rfl ?_
  all_goals first | (simp_all [doingS, getI_mk, swNo]; done) | (simp_all [doingS, getI_mk, swNo]; grind)
theorem e_weighing {v p : Nat} {x : Int32} : Ev G l 1 (mt 74) 80 80 [vR 19 v p, vI x] (mkH I J rd rr) (fun r h' => r = some (vI (weighS (I 19 v p) x)) ∧ h' = mkH I J rd rr) := by
  refine Ev_go iP_weighing rfl rfl rfl ⟨Nat.le_refl _, Nat.le_refl _⟩ (fun K hK => hK.1 [] 120 _ _ _ _ _ ?_)
  repeat' first | exact rfl | exact True.intro | apply And.intro | intro _ | refine CPd_eq (e_bound (Nat.le_refl 80)) (Nat.lt_succ_self _) rfl ?_
  all_goals first | (simp_all [weighS, getI_mk, swNo]; done)
theorem e_hearing {v p : Nat} {x y : Int32} : Ev G l 1 (mt 77) 80 80 [vR 19 v p, vI x, vI y] (mkH I J rd rr) (fun r h' => r = some (vI (hearS (I 19 v p) x y)) ∧ h' = mkH I J rd rr) := by
  refine Ev_go iP_hearing rfl rfl rfl ⟨Nat.le_refl _, Nat.le_refl _⟩ (fun K hK => hK.1 [] 120 _ _ _ _ _ ?_)
  repeat' first | exact rfl | exact True.intro | apply And.intro | intro _ | refine CPd_eq (e_bound (Nat.le_refl 80)) (Nat.lt_succ_self _) rfl ?_
  all_goals first | (simp_all [hearS, getI_mk, swNo]; done) | (simp_all [hearS, getI_mk, swNo]; grind)
def isTh (m x : Int32) : Prop := 0 ≤ x ∧ x < m
theorem e_isThere {d v : Nat} {x : Int32} : Ev G l d (mt 54) 80 80 [vR 17 v 0, vI x] (mkH I J rd rr) (fun r h' => r = some (vI (iN (0 ≤ x ∧ x < I 17 v 0 1))) ∧ h' = mkH I J rd rr) := by
  refine Ev_go iV_isThere rfl rfl rfl ⟨Nat.le_refl _, Nat.le_refl _⟩ (fun K hK => hK.1 [] 120 _ _ _ _ _ ?_)
  repeat' first | exact rfl | exact True.intro | apply And.intro | intro _
  all_goals first | exact Or.inl rfl | exact Or.inr rfl | ((try simp only [getI_mk] at *); unfold iN; grind)
theorem iN_0 {p : Prop} [Decidable p] : (iN p = 0) = ¬ p := by unfold iN; by_cases h : p <;> simp [h]
theorem iN_1 {p : Prop} [Decidable p] : (iN p = 1) = p := by unfold iN; by_cases h : p <;> simp [h]
theorem e_areTwo {v : Nat} {x y : Int32} : Ev G l 1 (mt 82) 80 80 [vR 17 v 0, vI x, vI y] (mkH I J rd rr) (fun r h' => r = some (vI (iN (x ≠ y ∧ (0 ≤ x ∧ x < I 17 v 0 1) ∧ (0 ≤ y ∧ y < I 17 v 0 1)))) ∧ h' = mkH I J rd rr) := by
  refine Ev_go iV_areTwo rfl rfl rfl ⟨Nat.le_refl _, Nat.le_refl _⟩ (fun K hK => hK.1 [] 120 _ _ _ _ _ ?_)
  repeat' first | exact rfl | exact True.intro | apply And.intro | intro _ | refine CPd_eq e_isThere (Nat.lt_succ_self 0) rfl ?_
  all_goals first | exact Or.inl rfl | exact Or.inr rfl | ((try simp only [iN_0] at *); refine congrArg (fun z => some (vI z)) ?_; unfold iN; grind)
theorem nI_in' {a N : Nat} (h : a < N) (hN : N < 2 ^ 31) : vp_in (nI a) N := nI_in h hN
theorem Kc {K : Nat → Nat → List (Option AV) → List AV → AH → Prop} {n pc : Nat} {L L' : List (Option AV)} {st : List AV} {h h' : AH} (k : K n pc L st h) (e1 : L = L') (e2 : h = h') : K n pc L' st h' := by rw [← e1, ← e2]; exact k
theorem slpB_t {P : PP} {k : Nat} (h : P k 6 = 0) : slpB P (k + 1) = slpB P k := by simp [slpB, h]
theorem slpB_f {P : PP} {k : Nat} (h : ¬ P k 6 = 0) : slpB P (k + 1) = (slpB P k ||| (1 : Int32) <<< (nI k &&& 31)) := by simp [slpB, h]
theorem e_asleepBits {d v m : Nat} (hm : I 17 v 0 1 = nI m) (h5 : m ≤ 5) : Ev G l d (mt 65) 80 80 [vR 17 v 0] (mkH I J rd rr) (fun r h' => r = some (vI (slpB (I 19 v) m)) ∧ h' = mkH I J rd rr) := by
  refine Ev_go iV_asleepBits rfl rfl rfl ⟨Nat.le_refl _, Nat.le_refl _⟩ (fun K hK => ?_)
  have loop : ∀ j k, k + j = m → K 80 4 [some (vR 17 v 0), some (vI (slpB (I 19 v) k)), some (vI (nI k))] [] (mkH I J rd rr) := by
    intro j
    induction j with
    | zero =>
      intro k hk
      refine hK.1 [] 50 _ _ _ _ _ ?_
      refine And.intro (fun h1 => ⟨rfl, ?_, rfl⟩) (fun h1 => ?_)
      · rw [show k = m by omega]
      · exact absurd (by rw [getI_mk, hm, show k = m by omega]; exact nI_le (Nat.le_refl _) (by omega)) h1
    | succ j ih =>
      intro k hk
      refine hK.1 [(4, [true, true, true])] 50 _ _ _ _ _ ?_
      refine And.intro (fun h1 => absurd h1 ?_) (fun h1 => ⟨nI_in (N := 5) (by omega) (by decide), ?_⟩)
      · rw [getI_mk, hm]; exact nI_ge (by omega) (by omega)
      · rw [nI_clamp (by omega)]
        refine fun hz => And.intro (fun h2 => ?_) (fun h2 => ?_)
        · have e := ih (k + 1) (by omega)
          rw [nI_succ, slpB_t (show I 19 v k 6 = 0 from h2)] at e
          exact e
        · have e := ih (k + 1) (by omega)
          rw [nI_succ, slpB_f (show ¬ I 19 v k 6 = 0 from h2)] at e
          exact e
  exact hK.1 [(4, [true, true, true])] 50 _ _ _ _ _ (loop m 0 (by omega))
def uShr (a b : Int32) : Int32 := (a.toUInt32 >>> (b.toUInt32 &&& Int32.toUInt32 31)).toInt32
def bitC1 (x : Int32) : Int32 := x - (uShr x 1 &&& 1431655765)
def bitC2 (x : Int32) : Int32 := (x &&& 858993459) + (uShr x 2 &&& 858993459)
def bitC3 (x : Int32) : Int32 := (x + uShr x 4) &&& 252645135
def bitC4 (x : Int32) : Int32 := x + uShr x 8
def bitC5 (x : Int32) : Int32 := (x + uShr x 16) &&& 63
def bitC (x : Int32) : Int32 := bitC5 (bitC4 (bitC3 (bitC2 (bitC1 x))))
theorem e_bitCount {d : Nat} {x : Int32} {h : AH} : Ev G l d (mt 66) 80 80 [vI x] h (fun r h' => r = some (vI (bitC x)) ∧ h' = h) := by
  refine Ev_go iJ_bitCount rfl rfl rfl ⟨Nat.le_refl _, Nat.le_refl _⟩ (fun K hK => hK.1 [] 120 _ _ _ _ _ ?_)
  exact ⟨rfl, rfl, rfl⟩
/-- how many of the first k are asleep -/
def aslS (P : PP) : Nat → Int32
  | 0 => 0
  | k + 1 => aslS P k + P k 6
def sumT (P : PP) : Nat → Int32
  | 0 => 0
  | k + 1 => sumT P k + P k 2
theorem bitC_slpB {P : PP} {m : Nat} (h5 : m ≤ 5) (hb : ∀ p, p < m → P p 6 = 0 ∨ P p 6 = 1) : bitC (slpB P m) = aslS P m := by
  have h0 : ∀ p, p < m → P p 6 = 0 ∨ P p 6 = 1 := hb
  match m, h5 with
  | 0, _ => simp only [slpB, aslS]; decide
  | 1, _ => rcases hb 0 (by omega) with a | a <;> simp only [slpB, aslS, a] <;> decide
  | 2, _ => rcases hb 0 (by omega) with a | a <;> rcases hb 1 (by omega) with b | b <;> simp only [slpB, aslS, a, b] <;> decide
  | 3, _ => rcases hb 0 (by omega) with a | a <;> rcases hb 1 (by omega) with b | b <;> rcases hb 2 (by omega) with c | c <;> simp only [slpB, aslS, a, b, c] <;> decide
  | 4, _ => rcases hb 0 (by omega) with a | a <;> rcases hb 1 (by omega) with b | b <;> rcases hb 2 (by omega) with c | c <;> rcases hb 3 (by omega) with d | d <;> simp only [slpB, aslS, a, b, c, d] <;> decide
  | 5, _ => rcases hb 0 (by omega) with a | a <;> rcases hb 1 (by omega) with b | b <;> rcases hb 2 (by omega) with c | c <;> rcases hb 3 (by omega) with d | d <;> rcases hb 4 (by omega) with e | e <;> simp only [slpB, aslS, a, b, c, d, e] <;> decide
theorem e_asleepCount {v m : Nat} (hm : I 17 v 0 1 = nI m) (h5 : m ≤ 5) (hb : ∀ p, p < m → I 19 v p 6 = 0 ∨ I 19 v p 6 = 1) : Ev G l 1 (mt 64) 80 80 [vR 17 v 0] (mkH I J rd rr) (fun r h' => r = some (vI (aslS (I 19 v) m)) ∧ h' = mkH I J rd rr) := by
  refine Ev_go iV_asleepCount rfl rfl rfl ⟨Nat.le_refl _, Nat.le_refl _⟩ (fun K hK => hK.1 [] 120 _ _ _ _ _ ?_)
  refine CPd_eq (e_asleepBits hm h5) (Nat.lt_succ_self 0) rfl ?_
  refine CPd_eq e_bitCount (Nat.lt_succ_self 0) rfl ?_
  exact ⟨rfl, by rw [bitC_slpB h5 hb], rfl⟩
theorem e_tiredTogether {d v m : Nat} (hm : I 17 v 0 1 = nI m) (h5 : m ≤ 5) : Ev G l d (mt 91) 80 80 [vR 17 v 0] (mkH I J rd rr) (fun r h' => r = some (vI (sumT (I 19 v) m)) ∧ h' = mkH I J rd rr) := by
  refine Ev_go iV_tiredTogether rfl rfl rfl ⟨Nat.le_refl _, Nat.le_refl _⟩ (fun K hK => ?_)
  have loop : ∀ j k, k + j = m → K 80 4 [some (vR 17 v 0), some (vI (sumT (I 19 v) k)), some (vI (nI k))] [] (mkH I J rd rr) := by
    intro j
    induction j with
    | zero =>
      intro k hk
      refine hK.1 [] 50 _ _ _ _ _ ?_
      refine And.intro (fun h1 => ⟨rfl, ?_, rfl⟩) (fun h1 => ?_)
      · rw [show k = m by omega]
      · exact absurd (by rw [getI_mk, hm, show k = m by omega]; exact nI_le (Nat.le_refl _) (by omega)) h1
    | succ j ih =>
      intro k hk
      refine hK.1 [(4, [true, true, true])] 50 _ _ _ _ _ ?_
      refine And.intro (fun h1 => absurd h1 ?_) (fun h1 => ⟨nI_in (N := 5) (by omega) (by decide), ?_⟩)
      · rw [getI_mk, hm]; exact nI_ge (by omega) (by omega)
      · rw [nI_clamp (by omega)]
        have e := ih (k + 1) (by omega)
        rw [nI_succ, sumT] at e
        exact e
  exact hK.1 [(4, [true, true, true])] 50 _ _ _ _ _ (loop m 0 (by omega))
/-- the first k become as those of another valley -/
def becP (P Q : PP) : Nat → PP
  | 0 => P
  | k + 1 => copP (becP P Q k) k (Q k)
theorem e_vbecome {v w m : Nat} (hvw : w ≠ v) (hm : I 17 w 0 1 = nI m) (h5 : m ≤ 5) : Ev G l 1 (mt 88) 80 80 [vR 17 v 0, vR 17 w 0] (mkH I J rd rr) (fun r h' => r = none ∧ h' = mkH (setP (upI (upI I 17 v 0 1 (nI m)) 17 v 0 2 (I 17 w 0 2)) v (becP (I 19 v) (I 19 w) m)) J rd (va_up rr v (rr w))) := by
  refine Ev_go iV_become rfl rfl rfl ⟨Nat.le_refl _, Nat.le_refl _⟩ (fun K hK => ?_)
  have loop : ∀ j k, k + j = m → K 80 26 [some (vR 17 v 0), some (vR 17 w 0), some (vI (nI k))] [] (mkH (setP (upI (upI I 17 v 0 1 (nI m)) 17 v 0 2 (I 17 w 0 2)) v (becP (I 19 v) (I 19 w) k)) J rd (va_up rr v (rr w))) := by
    intro j
    induction j with
    | zero =>
      intro k hk
      refine hK.1 [] 50 _ _ _ _ _ ?_
      have hk : k = m := by omega
      subst hk
      refine And.intro (fun h1 => ⟨rfl, rfl, rfl⟩) (fun h1 => absurd ?_ h1)
      rw [getI_mk, setP_k (by decide), upI_at, upI_at]
      simp
    | succ j ih =>
      intro k hk
      refine hK.1 [(26, [true, true, true])] 50 _ _ _ _ _ ?_
      refine And.intro (fun h1 => absurd h1 ?_) (fun h1 => ⟨nI_in (N := 5) (by omega) (by decide), nI_in (N := 5) (by omega) (by decide), ?_⟩)
      · rw [getI_mk, setP_k (by decide), upI_at, upI_at]
        simp only [Nat.reduceEqDiff, and_false, and_true, ↓reduceIte]
        exact nI_ge (by omega) (by omega)
      · rw [nI_clamp (by omega)]
        refine CPd_eq (e_pbecome hvw) (Nat.lt_succ_self 0) rfl ?_
        have e := ih (k + 1) (by omega)
        rw [nI_succ] at e
        refine Kc e rfl ?_
        rw [setP_P, setP_19, setP_19' hvw]
        rfl
  refine hK.1 [(26, [true, true, true])] 50 _ _ _ _ _ ?_
  show K 80 26 _ _ _
  refine Kc (loop m 0 (by omega)) rfl ?_
  show _ = setR (mkH _ J rd rr) 17 v 0 3 (some (11, rr w, 0))
  rw [setR_rr]
  refine congrArg (fun z => mkH z J rd (va_up rr v (rr w))) ?_
  show setP _ v (I 19 v) = upI (upI I 17 v 0 1 _) 17 v 0 2 (upI I 17 v 0 1 _ 17 w 0 2)
  rw [upI_at, if_neg (by simp), getI_mk, hm]
  have e := setP_self (I := upI (upI I 17 v 0 1 (nI m)) 17 v 0 2 (I 17 w 0 2)) (v := v)
  exact e
end C2
