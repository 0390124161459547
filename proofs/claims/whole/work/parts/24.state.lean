/-! rows that are alike; the whole state -/
theorem Ag.refl {m : Nat} {P : PP} : Ag m P P := fun _ _ _ _ => rfl
theorem Ag.symm {m : Nat} {P Q : PP} (h : Ag m P Q) : Ag m Q P := fun p hp a ha => (h p hp a ha).symm
theorem Ag.trans {m : Nat} {P Q R : PP} (h : Ag m P Q) (h' : Ag m Q R) : Ag m P R := fun p hp a ha => (h p hp a ha).trans (h' p hp a ha)
theorem Ag.le {m n : Nat} {P Q : PP} (h : Ag n P Q) (hm : m ≤ n) : Ag m P Q := fun p hp a ha => h p (by omega) a ha
theorem Ag.up {m p a : Nat} {P Q : PP} {x y : Int32} (h : Ag m P Q) (hx : x = y) : Ag m (upP P p a x) (upP Q p a y) := by
  subst hx
  intro q hq b hb
  unfold upP
  rw [h q hq b hb]
theorem env_Ag {m p : Nat} {P Q : PP} {d s : Int32} (h : Ag m P Q) (hp : p < m) : envS (P p) d s = envS (Q p) d s := by
  unfold envS
  rw [h p hp 2 (by omega), h p hp 3 (by omega), h p hp 1 (by omega), h p hp 5 (by omega)]
theorem does_Ag {m p : Nat} {B : BT} {P Q : PP} {d s : Int32} (h : Ag m P Q) (hp : p < m) : doesS B P p d s = doesS B Q p d s := by
  unfold doesS doingS
  rw [env_Ag h hp, h p hp 0 (by omega), h p hp 1 (by omega), h p hp 2 (by omega)]
theorem weighs_Ag {m p : Nat} {B : BT} {P Q : PP} {d s : Int32} (h : Ag m P Q) (hp : p < m) : weighsS B P p d s = weighsS B Q p d s := by
  unfold weighsS weighS
  rw [env_Ag h hp, h p hp 0 (by omega), h p hp 1 (by omega), h p hp 3 (by omega)]
theorem hears_Ag {m p : Nat} {B : BT} {P Q : PP} {ld d s : Int32} (h : Ag m P Q) (hp : p < m) : hearsS B P p ld d s = hearsS B Q p ld d s := by
  unfold hearsS hearS
  rw [env_Ag h hp, h p hp 0 (by omega), h p hp 1 (by omega), h p hp 3 (by omega)]
theorem tiredBy_Ag {m p : Nat} {B : BT} {P Q : PP} {ld d s : Int32} (h : Ag m P Q) (hp : p < m) : tiredByS B P p ld d s = tiredByS B Q p ld d s := by
  unfold tiredByS
  rw [hears_Ag h hp, h p hp 2 (by omega)]
theorem tell_Ag {m t o : Nat} {B : BT} {P Q : PP} {d s : Int32} (h : Ag m P Q) (ht : t < m) (ho : o < m) : Ag m (tellS B d s P t o) (tellS B d s Q t o) := by
  unfold tellS
  rw [weighs_Ag h ht, tiredBy_Ag h ho, h o ho 5 (by omega)]
  exact ((h.up rfl).up rfl).up rfl
theorem asl_Ag {P Q : PP} : ∀ (m n : Nat), Ag n P Q → m ≤ n → aslS P m = aslS Q m
  | 0, _, _, _ => rfl
  | m + 1, n, h, hn => by rw [aslS, aslS, asl_Ag m n h (by omega), h m (by omega) 6 (by omega)]
theorem sum_Ag {P Q : PP} : ∀ (m n : Nat), Ag n P Q → m ≤ n → sumT P m = sumT Q m
  | 0, _, _, _ => rfl
  | m + 1, n, h, hn => by rw [sumT, sumT, sum_Ag m n h (by omega), h m (by omega) 2 (by omega)]
theorem slpB_Ag {P Q : PP} : ∀ (m n : Nat), Ag n P Q → m ≤ n → slpB P m = slpB Q m
  | 0, _, _, _ => rfl
  | m + 1, n, h, hn => by rw [slpB, slpB, slpB_Ag m n h (by omega), h m (by omega) 6 (by omega)]
theorem act_Ag {m i : Nat} {B : BT} {P Q : PP} {d s : Int32} (h : Ag m P Q) (hm : m ≤ 5) (hi : i < m) : Ag m (actS B d s m P i) (actS B d s m Q i) := by
  unfold actS
  have e4 : P i 4 = Q i 4 := h i hi 4 (by omega)
  rw [does_Ag h hi, e4, h i hi 6 (by omega), h i hi 3 (by omega), h i hi 2 (by omega)]
  by_cases h6 : Q i 6 = 0
  · rw [if_pos h6, if_pos h6]
    by_cases hc : 0 ≤ Q i 4 ∧ Q i 4 < nI m
    · obtain ⟨o, ho, hoe⟩ := nI_ex hc.1 hc.2 (by omega)
      rw [hoe] at hc
      rw [hoe, nI_clamp (by omega), h o ho 6 (by omega)]
      by_cases hz : Q o 6 = 0
      · rw [if_pos ⟨hc, hz⟩, if_pos ⟨hc, hz⟩]
        exact tell_Ag (h.up rfl) hi ho
      · rw [if_neg (fun q => hz q.2), if_neg (fun q => hz q.2)]
        exact h.up rfl
    · rw [if_neg (fun q => hc q.1), if_neg (fun q => hc q.1)]
      exact h.up rfl
  · rw [if_neg h6, if_neg h6]
    exact h.up rfl
theorem acts_Ag {m : Nat} {B : BT} {P Q : PP} {d s : Int32} (h : Ag m P Q) (hm : m ≤ 5) : ∀ k, k ≤ m → Ag m (actsS B d s m P k) (actsS B d s m Q k)
  | 0, _ => h
  | k + 1, hk => act_Ag (acts_Ag h hm k (by omega)) hm (by omega)
theorem slw_Ag {m : Nat} {P Q : PP} (h : Ag m P Q) : ∀ k, k ≤ m → Ag m (slwP P k) (slwP Q k)
  | 0, _ => h
  | k + 1, hk => by
    have ih := slw_Ag h k (by omega)
    rw [slwP, slwP]
    exact ih.up (by rw [ih k (by omega) 2 (by omega), ih k (by omega) 6 (by omega)])
theorem day_Ag {m : Nat} {B : BT} {P Q : PP} {d : Int32} (h : Ag m P Q) (hm : m ≤ 5) : Ag m (dayS B d m P) (dayS B d m Q) := by
  unfold dayS
  rw [asl_Ag m m h (Nat.le_refl _)]
  exact slw_Ag (acts_Ag h hm m (Nat.le_refl _)) m (Nat.le_refl _)
theorem dayN_Ag {m : Nat} {B : BT} {P Q : PP} {d : Int32} (h : Ag m P Q) (hm : m ≤ 5) : ∀ k, Ag m (dayN B d m P k) (dayN B d m Q k)
  | 0 => h
  | k + 1 => day_Ag (dayN_Ag h hm k) hm
theorem WF.Ag {m : Nat} {P Q : PP} (h : Ag m P Q) (hw : WF P m) : WF Q m := by
  intro p hp
  rw [← h p hp 0 (by omega), ← h p hp 1 (by omega), ← h p hp 2 (by omega), ← h p hp 3 (by omega), ← h p hp 4 (by omega), ← h p hp 5 (by omega), ← h p hp 6 (by omega)]
  exact hw p hp
theorem cop_Ag {p q a : Nat} {P : PP} {R : Nat → Int32} (ha : a < 7) : copP P p R q a = if q = p then R a else P q a := by
  unfold copP upP
  by_cases h : q = p
  · subst h
    rw [if_pos rfl]
    match a, ha with
    | 0, _ => simp
    | 1, _ => simp
    | 2, _ => simp
    | 3, _ => simp
    | 4, _ => simp
    | 5, _ => simp
    | 6, _ => simp
  · simp [h]
theorem bec_Ag {P Q : PP} : ∀ (m : Nat), Ag m (becP P Q m) Q
  | 0 => fun p hp => absurd hp (by omega)
  | m + 1 => by
    intro p hp a ha
    rw [becP, cop_Ag ha]
    by_cases h : p = m
    · rw [if_pos h, h]
    · rw [if_neg h]
      exact bec_Ag m p (by omega) a ha
theorem dayN_a {B : BT} {P : PP} {m p : Nat} {d : Int32} : ∀ k, dayN B d m P k p 0 = P p 0
  | 0 => rfl
  | k + 1 => by
    rw [dayN, dayS, slw_a (by decide), acts_a (by decide) (by decide) (by decide), dayN_a k]
/-! the state: numbers (0 people, 1 the day, 2 the rule, 3 texts, 4 the tape, 5 whether kept, 6 7 8 what was kept), people, people kept, the tape, the sheets, what texts tell -/
abbrev ST : Type := (Nat → Nat) × (PP × (PP × ((Nat → Int32) × ((Nat → Nat → Int32) × (Nat → BT)))))
def aN (A : ST) : Nat → Nat := A.1
def aP (A : ST) : PP := A.2.1
def aK (A : ST) : PP := A.2.2.1
def aT (A : ST) : Nat → Int32 := A.2.2.2.1
def aS (A : ST) : Nat → Nat → Int32 := A.2.2.2.2.1
def aB (A : ST) : Nat → BT := A.2.2.2.2.2
def OKA (A : ST) : Prop := (aN A 0 ≤ 5 ∧ aN A 1 ≤ 999 ∧ aN A 2 < aN A 3 ∧ aN A 3 ≤ 6 ∧ WF (aP A) (aN A 0)) ∧
  (aN A 5 ≤ 1 ∧ (aN A 5 = 1 → aN A 6 ≤ aN A 0 ∧ aN A 7 ≤ 999 ∧ aN A 8 < aN A 3 ∧ WF (aK A) (aN A 6) ∧ ∀ p, p < aN A 6 → aK A p 0 = aP A p 0)) ∧
  (aN A 4 ≤ 160 ∧ ∀ t, t < aN A 4 → ∃ q, q < 256 ∧ aT A t = nI q) ∧
  (∀ s, s < 4 → (aS A s 0 = -1 ∧ aS A s 1 = 0) ∨ ((∃ q, q < 3 ∧ aS A s 0 = nI q) ∧ ∃ q, q ≤ 40 ∧ aS A s 1 = nI q))
/-- the class's part of the world shows a state -/
def CF (I : HI) (rr : Nat → Nat) (A : ST) : Prop :=
  (I 17 0 0 1 = nI (aN A 0) ∧ I 17 0 0 2 = nI (aN A 1) ∧ rr 0 = aN A 2 ∧ Ag (aN A 0) (I 19 0) (aP A)) ∧
  (I 0 0 0 1 = nI (aN A 3) ∧ ∀ t, t < aN A 3 → RuK I t (aB A t)) ∧
  (I 0 0 0 7 = nI (aN A 5) ∧ (aN A 5 = 1 → I 17 2 0 1 = nI (aN A 6) ∧ I 17 2 0 2 = nI (aN A 7) ∧ rr 2 = aN A 8 ∧ Ag (aN A 6) (I 19 2) (aK A))) ∧
  (I 2 0 0 1 = nI (aN A 4) ∧ ∀ t, t < aN A 4 → I 3 0 0 t = aT A t) ∧
  (∀ s, s < 4 → I 15 s 0 1 = aS A s 0 ∧ I 15 s 0 2 = aS A s 1 ∧ ∀ i q, q ≤ 40 → aS A s 1 = nI q → i < q → I 16 s 0 i = aS A s (2 + i)) ∧
  ∀ t, t < 6 → I 11 t 0 0 = nI t
/-- the reference's part shows it -/
def MF (G : GT) (l : Launch) (I : HI) (Q : PP) (S : HI) (T : HJ) (A : ST) : Prop :=
  (I 20 0 0 10 = nI (aN A 0) ∧ I 20 0 0 7 = nI (aN A 1) ∧ I 20 0 0 4 = nI (aN A 2) ∧ Ag (aN A 0) Q (aP A)) ∧
  (I 20 0 0 3 = nI (aN A 3) ∧ HRd G l (aN A 3) (aB A) I ∧ MOK (aN A 3) (aB A) S T) ∧
  ((aN A 5 = 0 → I 20 0 0 36 = -1) ∧ (aN A 5 = 1 → I 20 0 0 36 = nI (aN A 6) ∧ I 20 0 0 37 = nI (aN A 7) ∧ I 20 0 0 38 = nI (aN A 8) ∧ ∀ p, p < aN A 6 → ∀ a, a < 6 → I 31 0 0 (6 * p + a) = aK A p (a + 1))) ∧
  (I 20 0 0 6 = nI (aN A 4) ∧ ∀ t, t < aN A 4 → I 23 0 0 t = aT A t) ∧
  (∀ s, s < 4 → (aS A s 0 = -1 → I 32 0 0 s = 0) ∧ (aS A s 0 ≠ -1 → I 32 0 0 s = 1 ∧ I 33 0 0 s = aS A s 0 ∧ I 34 0 0 s = aS A s 1 ∧ ∀ i q, q ≤ 40 → aS A s 1 = nI q → i < q → I 35 0 0 (40 * s + i) = aS A s (2 + i)))
/-- the class's steps leave the reference's part; and the other way -/
def frC (I I' : HI) (J J' : HJ) : Prop := ∀ k, 20 ≤ k → I' k = I k ∧ J' k = J k
def frM (I I' : HI) : Prop := ∀ k, k < 20 → I' k = I k
theorem getQ_set {I S : HI} {Q : PP} : getQ (setS (setQ I Q) S) = fun p a => if 7 ≤ a then Q ((6 * p + (a - 1)) / 6) ((6 * p + (a - 1)) % 6 + 1) else Q p a := by
  funext p a
  unfold getQ setS setQ
  by_cases h0 : a = 0
  · subst h0; simp
  · simp only [h0, ↓reduceIte, Nat.reduceEqDiff, false_and, or_self, and_self]
    split
    · rfl
    · rw [show (6 * p + (a - 1)) / 6 = p by omega, show (6 * p + (a - 1)) % 6 + 1 = a by omega]
theorem MF.law {G : GT} {l : Launch} {I I' : HI} {Q : PP} {S : HI} {J J' T : HJ} {A : ST} (h : MF G l I Q S T A) (f : frC (setS (setQ I Q) S) I' (setT J T) J') : MF G l I' (getQ I') I' J' A := by
  have e : ∀ k, 20 ≤ k → I' k = (setS (setQ I Q) S) k := fun k hk => (f k hk).1
  have e2 : ∀ k, 28 ≤ k → I' k = I k := by
    intro k hk
    rw [e k (by omega)]
    funext i j t
    simp only [setS, setQ]
    rw [if_neg (by omega), if_neg (by omega), if_neg (by omega)]
  have e3 : ∀ k, 21 ≤ k → k ≤ 23 → I' k = I k := by
    intro k hk hk'
    rw [e k (by omega)]
    funext i j t
    simp only [setS, setQ]
    rw [if_neg (by omega), if_neg (by omega), if_neg (by omega)]
  have e4 : ∀ t, ¬ (11 ≤ t ∧ t ≤ 25) → I' 20 0 0 t = I 20 0 0 t := by
    intro t ht
    rw [e 20 (by omega)]
    simp only [setS, setQ]
    rw [if_neg (by omega), if_neg (by omega), if_neg (by omega)]
  have eQ : getQ I' = getQ (setS (setQ I Q) S) := by unfold getQ; rw [e 24 (by omega), e 25 (by omega)]
  unfold MF at *
  rw [e4 10 (by omega), e4 7 (by omega), e4 4 (by omega), e4 3 (by omega), e4 36 (by omega), e4 37 (by omega), e4 38 (by omega), e4 6 (by omega), e2 31 (by omega), e3 23 (by omega) (by omega), e2 32 (by omega), e2 33 (by omega), e2 34 (by omega), e2 35 (by omega)]
  refine ⟨⟨h.1.1, h.1.2.1, h.1.2.2.1, ?_⟩, ⟨h.2.1.1, h.2.1.2.1.same (by rw [e3 21 (by omega) (by omega)]) (by rw [e3 22 (by omega) (by omega)]), ?_⟩, h.2.2⟩
  · rw [eQ, getQ_set]
    intro p hp a ha
    have := h.1.2.2.2 p hp a ha
    show (if 7 ≤ a then _ else _) = _
    rw [if_neg (by omega)]
    exact this
  · refine h.2.1.2.2.same ?_ ?_
    · rw [e 27 (by omega)]
      funext i j t
      simp [setS]
    · rw [(f 26 (by omega)).2]
      funext i j t
      simp [setT]
theorem CF.fr {I I' : HI} {rr : Nat → Nat} {A : ST} (h : CF I rr A) (f : frM I I') : CF I' rr A := by
  unfold CF RuK at *
  rw [f 17 (by omega), f 19 (by omega), f 0 (by omega), f 13 (by omega), f 12 (by omega), f 2 (by omega), f 3 (by omega), f 15 (by omega), f 16 (by omega), f 11 (by omega)]
  exact h
theorem CF.O {I : HI} {rr : Nat → Nat} {A : ST} {O : Nat → Nat → Nat → Int32} (h : CF I rr A) : CF (setO I O) rr A := by
  unfold CF RuK at *
  simp only [setO_k (k := 17) (by decide), setO_k (k := 19) (by decide), setO_k (k := 0) (by decide), setO_k (k := 13) (by decide), setO_k (k := 12) (by decide), setO_k (k := 2) (by decide), setO_k (k := 3) (by decide), setO_k (k := 15) (by decide), setO_k (k := 16) (by decide), setO_k (k := 11) (by decide)]
  exact h
theorem frC.O {I : HI} {J : HJ} {O : Nat → Nat → Nat → Int32} : frC I (setO I O) J J := fun k hk => ⟨setO_k (by omega), rfl⟩
/-- an operation of the class, of the reference -/
abbrev XC : Type := HI × (HJ × (Option AO × (Nat → Nat)))
def CC (G : GT) (l : Launch) (mi d : Nat) (avs : List AV) (A : ST) (R : AV) (A' : ST) : Prop := ∀ (I : HI) (J : HJ) (rd : Option AO) (rr : Nat → Nat), CF I rr A →
  Ev G l d (mt mi) 80 80 (vR 0 0 0 :: avs) (mkH I J rd rr) (fun v h' => ∃ x : XC, v = some R ∧ h' = mkH x.1 x.2.1 x.2.2.1 x.2.2.2 ∧ CF x.1 x.2.2.2 A' ∧ frC I x.1 J x.2.1)
abbrev XM : Type := HI × (PP × (HI × HJ))
def MC (G : GT) (l : Launch) (mi d : Nat) (avs : List AV) (A : ST) (R : AV) (A' : ST) : Prop := ∀ (I : HI) (J : HJ) (rd : Option AO) (rr : Nat → Nat) (Q : PP) (S : HI) (T : HJ), MF G l I Q S T A →
  Ev G l d (mt mi) 80 80 (vR 20 0 0 :: avs) (mf I J rd rr Q S T) (fun v h' => ∃ x : XM, v = some R ∧ h' = mf x.1 J rd rr x.2.1 x.2.2.1 x.2.2.2 ∧ MF G l x.1 x.2.1 x.2.2.1 x.2.2.2 A' ∧ frM I x.1)
def stN (A : ST) (i x : Nat) : ST := (fun k => if k = i then x else aN A k, A.2)
def stP (A : ST) (P : PP) : ST := (A.1, (P, A.2.2))
