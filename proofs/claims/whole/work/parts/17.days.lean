/-! a day passes, days pass -/
section C5
variable {G : GT} {l : Launch} {I : HI} {J : HJ} {rd : Option AO} {rr : Nat → Nat}
theorem nf_wI {v k i j a : Nat} {P : PP} {O : Nat → Nat → Nat → Int32} {x : Int32} (h : k ≠ 14 ∧ k ≠ 19) : setI (nf I J rd rr v P O) k i j a x = nf (upI I k i j a x) J rd rr v P O := by
  unfold nf
  rw [setI_mk, upI_O h.1]
  have : upI (setP I v P) k i j a x = setP (upI I k i j a x) v P := by
    funext k' i' j' t'
    simp only [upI, setP]
    grind
  rw [this]
theorem upI_upI {k i j a : Nat} {x y : Int32} : upI (upI I k i j a x) k i j a y = upI I k i j a y := by
  funext k' i' j' t'
  simp only [upI]
  grind
def slw1 (t s : Int32) : Int32 := if 80 ≤ t then 1 else if t < 40 then 0 else s
def slwP (P : PP) : Nat → PP
  | 0 => P
  | k + 1 => upP (slwP P k) k 6 (slw1 (slwP P k k 2) (slwP P k k 6))
def actS (B : BT) (day asl : Int32) (m : Nat) (P : PP) (i : Nat) : PP :=
  if P i 6 = 0 then
    (if (0 ≤ P i 4 ∧ P i 4 < nI m) ∧ P (P i 4).toNatClampNeg 6 = 0 then tellS B day asl (upP P i 3 (bnd (P i 3 + doesS B P i day asl) 0 99)) i (P i 4).toNatClampNeg
    else upP P i 3 (bnd (P i 3 + doesS B P i day asl) 0 99))
  else upP P i 2 (bnd (P i 2 - 20) 0 99)
def actsS (B : BT) (day asl : Int32) (m : Nat) (P : PP) : Nat → PP
  | 0 => P
  | k + 1 => actS B day asl m (actsS B day asl m P k) k
def dayS (B : BT) (day : Int32) (m : Nat) (P : PP) : PP := slwP (actsS B day (aslS P m) m P m) m
def dayN (B : BT) (day : Int32) (m : Nat) (P : PP) : Nat → PP
  | 0 => P
  | k + 1 => dayS B (day + nI k) m (dayN B day m P k)
theorem act_a {B : BT} {day asl : Int32} {m i p a : Nat} {P : PP} (h2 : a ≠ 2) (h3 : a ≠ 3) (h5 : a ≠ 5) : actS B day asl m P i p a = P p a := by
  unfold actS tellS
  split
  · split
    · rw [upP_a h3, upP_a h5, upP_a h2, upP_a h3]
    · rw [upP_a h3]
  · rw [upP_a h2]
theorem acts_a {B : BT} {day asl : Int32} {m p a : Nat} {P : PP} (h2 : a ≠ 2) (h3 : a ≠ 3) (h5 : a ≠ 5) : ∀ k, actsS B day asl m P k p a = P p a
  | 0 => rfl
  | k + 1 => by rw [actsS, act_a h2 h3 h5, acts_a h2 h3 h5 k]
theorem slw_a {p a : Nat} {P : PP} (h : a ≠ 6) : ∀ k, slwP P k p a = P p a
  | 0 => rfl
  | k + 1 => by rw [slwP, upP_a h, slw_a h k]
theorem slw_6 {p : Nat} {P : PP} : ∀ k, slwP P k p 6 = if p < k then slw1 (P p 2) (P p 6) else P p 6
  | 0 => by rw [if_neg (by omega)]; rfl
  | k + 1 => by
    rw [slwP]
    by_cases h : p = k
    · subst h
      rw [upP_s, slw_a (by decide), slw_6 p, if_neg (by omega), if_pos (by omega)]
    · rw [upP_p h, slw_6 k]
      by_cases h2 : p < k
      · rw [if_pos h2, if_pos (by omega)]
      · rw [if_neg h2, if_neg (by omega)]
theorem slw1_b {t s : Int32} (h : s = 0 ∨ s = 1) : slw1 t s = 0 ∨ slw1 t s = 1 := by unfold slw1; grind
theorem day_6 {B : BT} {day : Int32} {m p : Nat} {P : PP} (h : P p 6 = 0 ∨ P p 6 = 1) : dayS B day m P p 6 = 0 ∨ dayS B day m P p 6 = 1 := by
  unfold dayS
  rw [slw_6, acts_a (a := 6) (by decide) (by decide) (by decide)]
  split
  · exact slw1_b h
  · exact h
theorem dayN_6 {B : BT} {day : Int32} {m p : Nat} {P : PP} (h : P p 6 = 0 ∨ P p 6 = 1) : ∀ k, dayN B day m P k p 6 = 0 ∨ dayN B day m P k p 6 = 1
  | 0 => h
  | k + 1 => day_6 (dayN_6 h k)
theorem e_sleepOrWake {d v m : Nat} {P : PP} {O : Nat → Nat → Nat → Int32} (hm : I 17 v 0 1 = nI m) (h5 : m ≤ 5) : Ev G l d (mt 86) 80 80 [vR 17 v 0] (nf I J rd rr v P O) (fun r h' => r = none ∧ h' = nf I J rd rr v (slwP P m) O) := by
  refine Ev_go iV_sleepOrWake rfl rfl rfl ⟨Nat.le_refl _, Nat.le_refl _⟩ (fun K hK => ?_)
  have loop : ∀ j k, k + j = m → K 80 2 [some (vR 17 v 0), some (vI (nI k)), none] [] (nf I J rd rr v (slwP P k) O) := by
    intro j
    induction j with
    | zero =>
      intro k hk
      refine hK.1 [] 50 _ _ _ _ _ ?_
      refine And.intro (fun h1 => ⟨rfl, rfl, ?_⟩) (fun h1 => ?_)
      · rw [show k = m by omega]
      · exact absurd (by rw [nf_I (by decide), hm, show k = m by omega]; exact nI_le (Nat.le_refl _) (by omega)) h1
    | succ j ih =>
      intro k hk
      refine hK.1 [(2, [true, true])] 50 _ _ _ _ _ ?_
      have e := ih (k + 1) (by omega)
      rw [nI_succ, slwP] at e
      refine And.intro (fun h1 => absurd h1 ?_) (fun h1 => ⟨nI_in (N := 5) (by omega) (by decide), ?_⟩)
      · rw [nf_I (by decide), hm]; exact nI_ge (by omega) (by omega)
      · rw [nI_clamp (by omega)]
        refine And.intro (fun h2 => ?_) (fun h2 => ?_)
        · rw [nf_P] at h2
          refine And.intro (fun h3 => ?_) (fun h3 => ?_)
          · rw [nf_P] at h3
            refine Kc e rfl ?_
            rw [show slw1 (slwP P k k 2) (slwP P k k 6) = slwP P k k 6 by unfold slw1; grind]
            refine congrArg (fun z => nf I J rd rr v z O) ?_
            funext p a
            simp only [upP]
            grind
          · rw [nf_P] at h3
            refine ⟨Or.inl rfl, ?_⟩
            rw [nf_w]
            refine Kc e rfl ?_
            rw [show slw1 (slwP P k k 2) (slwP P k k 6) = 0 by unfold slw1; grind]
        · rw [nf_P] at h2
          refine ⟨Or.inr rfl, ?_⟩
          rw [nf_w]
          refine Kc e rfl ?_
          rw [show slw1 (slwP P k k 2) (slwP P k k 6) = 1 by unfold slw1; grind]
  exact hK.1 [(2, [true, true])] 50 _ _ _ _ _ (loop m 0 (by omega))
theorem nI_ex {x : Int32} {m : Nat} (h1 : 0 ≤ x) (h2 : x < nI m) (hm : m < 2 ^ 31) : ∃ q, q < m ∧ x = nI q := by
  have a := Int32.le_iff_toInt_le.mp h1
  have b := Int32.lt_iff_toInt_lt.mp h2
  rw [nI_toInt hm] at b
  rw [Int32.toInt_zero] at a
  refine ⟨x.toInt.toNat, by omega, ?_⟩
  apply Int32.toInt_inj.mp
  rw [nI_toInt (by omega)]
  omega
theorem c_isThere {d v m : Nat} {x : Int32} {P : PP} {O : Nat → Nat → Nat → Int32} {post : Option AV → AH → Prop} (hm : I 17 v 0 1 = nI m) (hd : 0 < d) (k : post (some (vI (iN (0 ≤ x ∧ x < nI m)))) (nf I J rd rr v P O)) : CPd G l d 80 0 54 [vR 17 v 0, vI x] (nf I J rd rr v P O) post := by
  refine CPd_eq e_isThere hd rfl ?_
  rw [setO_k (by decide), setP_k (by decide), hm]
  exact k
theorem e_passDay {v m : Nat} {B : BT} {P : PP} {O : Nat → Nat → Nat → Int32} (hB : RuK I (rr v) B) (hm : I 17 v 0 1 = nI m) (h5 : m ≤ 5) (hb : ∀ p, p < m → P p 6 = 0 ∨ P p 6 = 1) : Ev G l 3 (mt 85) 80 80 [vR 17 v 0] (nf I J rd rr v P O) (fun r h' => ∃ O', r = none ∧ h' = nf (upI I 17 v 0 2 (I 17 v 0 2 + 1)) J rd rr v (dayS B (I 17 v 0 2) m P) O') := by
  refine Ev_go iV_passDay rfl rfl rfl ⟨Nat.le_refl _, Nat.le_refl _⟩ (fun K hK => ?_)
  have loop : ∀ j k O, k + j = m → K 80 7 [some (vR 17 v 0), some (vI (aslS P m)), some (vI (nI k)), none, none] [] (nf I J rd rr v (actsS B (I 17 v 0 2) (aslS P m) m P k) O) := by
    intro j
    induction j with
    | zero =>
      intro k O hk
      refine hK.1 [] 50 _ _ _ _ _ ?_
      refine And.intro (fun h1 => ?_) (fun h1 => ?_)
      · rw [show k = m by omega]
        refine CPd_eq (e_sleepOrWake hm h5) (Nat.lt_succ_of_lt (Nat.lt_succ_of_lt (Nat.lt_succ_self 0))) rfl ?_
        refine ⟨rfl, O, rfl, ?_⟩
        rw [nf_I (by decide), nf_wI (by decide)]
        rfl
      · exact absurd (by rw [nf_I (by decide), hm, show k = m by omega]; exact nI_le (Nat.le_refl _) (by omega)) h1
    | succ j ih =>
      intro k O hk
      refine hK.1 [(7, [true, true, true])] 60 _ _ _ _ _ ?_
      have e := fun O => ih (k + 1) O (by omega)
      simp only [nI_succ, actsS] at e
      generalize actsS B (I 17 v 0 2) (aslS P m) m P k = R at e
      refine And.intro (fun h1 => absurd h1 ?_) (fun h1 => ⟨nI_in (N := 5) (by omega) (by decide), ?_⟩)
      · rw [nf_I (by decide), hm]; exact nI_ge (by omega) (by omega)
      · rw [nI_clamp (by omega)]
        intro hz
        refine And.intro (fun h2 => ?_) (fun h2 => ?_)
        · rw [nf_P] at h2
          refine c_val hB (by decide) rfl (by decide) (fun O1 => ?_)
          refine c_doing (by decide) ?_
          refine c_bound (by decide) ?_
          show CPd _ _ _ _ _ _ _ _ _
          simp only [nf_w, nf_P, nf_I (k := 17) (by decide)]
          refine c_isThere hm (by decide) ?_
          have hx : ∀ x, upP R k 3 x k 4 = R k 4 := fun x => upP_a (by decide)
          rw [hx]
          refine And.intro (fun h3 => ?_) (fun h3 => ?_)
          · show K 80 7 _ _ _
            rw [iN_0] at h3
            refine Kc (e O1) rfl ?_
            rw [actS, if_pos h2, if_neg (fun q => h3 q.1)]
            rfl
          · rw [iN_0, Classical.not_not] at h3
            obtain ⟨q, hq, hqe⟩ := nI_ex h3.1 h3.2 (by omega)
            have hx2 : ∀ x, upP R k 3 x q 6 = R q 6 := fun x => upP_a (by decide)
            show vp_in _ _ ∧ _
            rw [nf_P, hx, hqe, nI_clamp (by omega)]
            refine ⟨nI_in (N := 5) (by omega) (by decide), fun _ => ?_⟩
            rw [nf_P, hx2]
            refine And.intro (fun h4 => ?_) (fun h4 => ?_)
            · show K 80 7 _ _ _
              refine Kc (e O1) rfl ?_
              rw [actS, if_pos h2, hqe, nI_clamp (by omega), if_neg (fun q => h4 q.2)]
              rfl
            · show vp_in _ _ ∧ _
              rw [nf_P, hx, hqe, nI_clamp (by omega)]
              refine ⟨nI_in (N := 5) (by omega) (by decide), ?_⟩
              refine CPd_ex (e_tellTo hB) (by decide) rfl (fun O2 => ?_)
              show K 80 7 _ _ _
              refine Kc (e O2) rfl ?_
              rw [actS, if_pos h2, hqe, nI_clamp (by omega), if_pos ⟨⟨nI_pos' (by omega), nI_lt hq (by omega)⟩, h4⟩]
              rfl
        · rw [nf_P] at h2
          refine c_bound (by decide) ?_
          show K 80 7 _ _ _
          rw [nf_w, nf_P]
          refine Kc (e O) rfl ?_
          rw [actS, if_neg h2]
  refine hK.1 [(7, [true, true, true])] 60 _ _ _ _ _ ?_
  refine c_asleepCount hm h5 hb (by decide) ?_
  exact loop m 0 O (by omega)
theorem e_passDays {v m n : Nat} {B : BT} {P : PP} {O : Nat → Nat → Nat → Int32} {x : Int32} (hB : RuK I (rr v) B) (hm : I 17 v 0 1 = nI m) (h5 : m ≤ 5) (hb : ∀ p, p < m → P p 6 = 0 ∨ P p 6 = 1) (hx : x = nI n) (hn : n ≤ 100) : Ev G l 4 (mt 90) 80 80 [vR 17 v 0, vI x] (nf I J rd rr v P O) (fun r h' => ∃ O', r = none ∧ h' = nf (upI I 17 v 0 2 (I 17 v 0 2 + nI n)) J rd rr v (dayN B (I 17 v 0 2) m P n) O') := by
  subst hx
  refine Ev_go iV_passDays rfl rfl rfl ⟨Nat.le_refl _, Nat.le_refl _⟩ (fun K hK => ?_)
  have hm' : ∀ x, upI I 17 v 0 2 x 17 v 0 1 = nI m := fun x => by rw [upI_at, if_neg (by simp), hm]
  have loop : ∀ j k O, k + j = n → K 80 2 [some (vR 17 v 0), some (vI (nI n)), some (vI (nI k))] [] (nf (upI I 17 v 0 2 (I 17 v 0 2 + nI k)) J rd rr v (dayN B (I 17 v 0 2) m P k) O) := by
    intro j
    induction j with
    | zero =>
      intro k O hk
      refine hK.1 [] 50 _ _ _ _ _ ?_
      rw [show k = n by omega]
      exact And.intro (fun h1 => ⟨rfl, O, rfl, rfl⟩) (fun h1 => absurd (nI_le (Nat.le_refl _) (by omega)) h1)
    | succ j ih =>
      intro k O hk
      refine hK.1 [(2, [true, true, true])] 60 _ _ _ _ _ ?_
      refine And.intro (fun h1 => absurd h1 (nI_ge (by omega) (by omega))) (fun h1 => ?_)
      refine CPd_ex (e_passDay (B := B) (m := m) hB (hm' _) h5 (fun p hp => dayN_6 (hb p hp) k)) (by decide) rfl (fun O2 => ?_)
      show K 80 2 _ _ _
      refine Kc (ih (k + 1) O2 (by omega)) ?_ ?_
      · rw [nI_succ]; rfl
      · rw [upI_upI, upI_s, dayN, nI_succ, Int32.add_assoc]
  refine hK.1 [(2, [true, true, true])] 60 _ _ _ _ _ ?_
  show K 80 2 _ _ _
  refine Kc (loop n 0 O (by omega)) rfl ?_
  rw [show I 17 v 0 2 + nI 0 = I 17 v 0 2 from Int32.add_zero _]
  have : upI I 17 v 0 2 (I 17 v 0 2) = I := by
    funext k i j t
    simp only [upI]
    grind
  rw [this]
  rfl
end C5
