/-! the reference: rows of people -/
section M1
variable {G : GT} {l : Launch} {I : HI} {J : HJ} {rd : Option AO} {rr : Nat → Nat}
def setQ (I : HI) (P : PP) : HI := fun k i j t => if k = 25 ∧ i = 0 ∧ j = 0 then P (t / 6) (t % 6 + 1) else if k = 24 ∧ i = 0 ∧ j = 0 then P t 0 else I k i j t
def scK (k t : Nat) : Prop := k = 27 ∨ (k = 20 ∧ 11 ≤ t ∧ t ≤ 25)
def setS (I S : HI) : HI := fun k i j t => if k = 27 ∨ (k = 20 ∧ 11 ≤ t ∧ t ≤ 25) then S k i j t else I k i j t
def setT (J T : HJ) : HJ := fun k i j t => if k = 26 ∨ (k = 20 ∧ t = 22) then T k i j t else J k i j t
def mf (I : HI) (J : HJ) (rd : Option AO) (rr : Nat → Nat) (P : PP) (S : HI) (T : HJ) : AH := mkH (setS (setQ I P) S) (setT J T) rd rr
def getQ (I : HI) : PP := fun p a => if a = 0 then I 24 0 0 p else I 25 0 0 (6 * p + (a - 1))
theorem setQ_self : setQ I (getQ I) = I := by
  funext k i j t
  simp only [setQ, getQ]
  split
  · rename_i h
    obtain ⟨rfl, rfl, rfl⟩ := h
    rw [if_neg (by omega), show 6 * (t / 6) + (t % 6 + 1 - 1) = t by omega]
  · split
    · rename_i h
      obtain ⟨rfl, rfl, rfl⟩ := h
      rfl
    · rfl
theorem mf_of : mkH I J rd rr = mf I J rd rr (getQ I) I J := by
  unfold mf
  rw [setQ_self]
  have h1 : setS I I = I := by funext k i j t; simp [setS]
  have h2 : setT J J = J := by funext k i j t; simp [setT]
  rw [h1, h2]
theorem mf_k {p : Nat} {P : PP} {S : HI} {T : HJ} : getI (mf I J rd rr P S T) 24 0 0 p = P p 0 := by
  unfold mf; rw [getI_mk]; simp [setS, setQ]
theorem mf_r {t : Nat} {P : PP} {S : HI} {T : HJ} : getI (mf I J rd rr P S T) 25 0 0 t = P (t / 6) (t % 6 + 1) := by
  unfold mf; rw [getI_mk]; simp [setS, setQ]
theorem mf_I {k i j t : Nat} {P : PP} {S : HI} {T : HJ} (h : k ≠ 25 ∧ k ≠ 24 ∧ k ≠ 27 ∧ ¬ (k = 20 ∧ 11 ≤ t ∧ t ≤ 25)) : getI (mf I J rd rr P S T) k i j t = I k i j t := by
  unfold mf; rw [getI_mk]; simp only [setS, setQ]
  rw [if_neg (fun q => q.elim h.2.2.1 h.2.2.2), if_neg (fun q => h.1 q.1), if_neg (fun q => h.2.1 q.1)]
theorem mf_S {k i j t : Nat} {P : PP} {S : HI} {T : HJ} (h : k = 27 ∨ (k = 20 ∧ 11 ≤ t ∧ t ≤ 25)) : getI (mf I J rd rr P S T) k i j t = S k i j t := by
  unfold mf; rw [getI_mk]; simp only [setS]
  rw [if_pos h]
theorem mf_T {k i j t : Nat} {P : PP} {S : HI} {T : HJ} (h : k = 26 ∨ (k = 20 ∧ t = 22)) : getJ (mf I J rd rr P S T) k i j t = T k i j t := by
  unfold mf; rw [getJ_mk]; simp only [setT]
  rw [if_pos h]
theorem mf_wr {p a t : Nat} {P : PP} {S : HI} {T : HJ} {x : Int32} (ht : t = 6 * p + a) (h : a < 6) : setI (mf I J rd rr P S T) 25 0 0 t x = mf I J rd rr (upP P p (a + 1) x) S T := by
  unfold mf
  rw [setI_mk]
  refine congrArg (fun z => mkH z (setT J T) rd rr) ?_
  funext k i j t'
  simp only [upI, setS, setQ, upP]
  by_cases hk : k = 25 ∧ i = 0 ∧ j = 0
  · obtain ⟨rfl, rfl, rfl⟩ := hk
    simp only [true_and, Nat.reduceEqDiff, false_and, or_self, ↓reduceIte]
    by_cases h2 : t' = t
    · rw [if_pos h2, if_pos (by omega)]
    · rw [if_neg h2, if_neg (by omega)]
  · rw [if_neg (fun q => hk ⟨q.1, q.2.1, q.2.2.1⟩)]
    by_cases hs : k = 27 ∨ (k = 20 ∧ 11 ≤ t' ∧ t' ≤ 25)
    · rw [if_pos hs, if_pos hs]
    · rw [if_neg hs, if_neg hs, if_neg hk, if_neg hk]
      by_cases hk4 : k = 24 ∧ i = 0 ∧ j = 0
      · rw [if_pos hk4, if_pos hk4, if_neg (fun q => by omega)]
      · rw [if_neg hk4, if_neg hk4]
theorem mf_wk {p : Nat} {P : PP} {S : HI} {T : HJ} {x : Int32} : setI (mf I J rd rr P S T) 24 0 0 p x = mf I J rd rr (upP P p 0 x) S T := by
  unfold mf
  rw [setI_mk]
  refine congrArg (fun z => mkH z (setT J T) rd rr) ?_
  funext k i j t'
  simp only [upI, setS, setQ, upP]
  grind
theorem mf_wI {k i j t : Nat} {P : PP} {S : HI} {T : HJ} {x : Int32} (h : k ≠ 25 ∧ k ≠ 24 ∧ k ≠ 27 ∧ ¬ (k = 20 ∧ 11 ≤ t ∧ t ≤ 25)) : setI (mf I J rd rr P S T) k i j t x = mf (upI I k i j t x) J rd rr P S T := by
  unfold mf
  rw [setI_mk]
  refine congrArg (fun z => mkH z (setT J T) rd rr) ?_
  funext k i j t'
  simp only [upI, setS, setQ]
  grind
theorem mf_wS {k i j t : Nat} {P : PP} {S : HI} {T : HJ} {x : Int32} (h : k = 27 ∨ (k = 20 ∧ 11 ≤ t ∧ t ≤ 25)) : setI (mf I J rd rr P S T) k i j t x = mf I J rd rr P (upI S k i j t x) T := by
  unfold mf
  rw [setI_mk]
  refine congrArg (fun z => mkH z (setT J T) rd rr) ?_
  funext k i j t'
  simp only [upI, setS, setQ]
  grind
theorem mf_wT {k i j t : Nat} {P : PP} {S : HI} {T : HJ} {x : Int64} (h : k = 26 ∨ (k = 20 ∧ t = 22)) : setJ (mf I J rd rr P S T) k i j t x = mf I J rd rr P S (upJ T k i j t x) := by
  unfold mf
  rw [setJ_mk]
  refine congrArg (fun z => mkH (setS (setQ I P) S) z rd rr) ?_
  funext k i j t'
  simp only [upJ, setT]
  grind
theorem e_in {d n : Nat} {a b c : Int64} {h : AH} (hn : n ≤ 80) : Ev G l d (mt 139) n n [vL a, vL b, vL c] h (fun r h' => r = some (vI (iN (b ≤ a ∧ a ≤ c))) ∧ h' = h) := by
  refine Ev_go iM_in rfl rfl rfl ⟨Nat.le_refl _, hn⟩ (fun K hK => hK.1 [] 50 _ _ _ _ _ ?_)
  repeat' first | exact rfl | exact True.intro | apply And.intro | intro _
  all_goals first | exact Or.inl rfl | exact Or.inr rfl | (unfold iN lg_cmp at *; grind)
theorem e_within {d n : Nat} {h : AH} {a b c : Int32} (hn : n ≤ 80) : Ev G l d (mt 164) n n [vI a, vI b, vI c] h (fun r h' => r = some (vI (bnd a b c)) ∧ h' = h) := by
  refine Ev_go iM_within rfl rfl rfl ⟨Nat.le_refl _, hn⟩ (fun K hK => hK.1 [] 50 _ _ _ _ _ ?_)
  repeat' first | exact rfl | exact True.intro | apply And.intro | intro _
  all_goals (unfold bnd; grind)
theorem c_within {d : Nat} {a b c : Int32} {h : AH} {post : Option AV → AH → Prop} (hd : 0 < d) (k : post (some (vI (bnd a b c))) h) : CPd G l d 80 1 164 [vI a, vI b, vI c] h post := CPd_eq (e_within (Nat.le_refl 80)) hd rfl k
theorem iN_congr {p q : Prop} [Decidable p] [Decidable q] (h : p ↔ q) : iN p = iN q := by unfold iN; simp only [h]
theorem i64_le {a b : Int32} : (a.toInt64 ≤ b.toInt64) = (a ≤ b) := by
  rw [Int64.le_iff_toInt_le, Int32.le_iff_toInt_le, Int32.toInt_toInt64, Int32.toInt_toInt64]
theorem c_in {d : Nat} {a b' c' : Int32} {b c : Int64} {h : AH} {post : Option AV → AH → Prop} (hb : b = b'.toInt64) (hc : c = c'.toInt64) (hd : 0 < d) (k : post (some (vI (iN (b' ≤ a ∧ a ≤ c')))) h) : CPd G l d 80 1 139 [vL a.toInt64, vL b, vL c] h post := by
  subst hb hc
  refine CPd_eq (e_in (Nat.le_refl 80)) hd rfl ?_
  simp only [i64_le]
  exact k
theorem nI_le' {x : Int32} {m : Nat} (hm : m < 2 ^ 31) : (x ≤ nI m - 1) = (x < nI m) := by
  have h1 := nI_toInt hm
  have h2 : (nI m - 1).toInt = (m : Int) - 1 := by
    rw [Int32.toInt_sub, h1]
    show Int.bmod (m - 1) (2 ^ 32) = _
    rw [Int.bmod_eq_of_le] <;> omega
  rw [Int32.le_iff_toInt_le, Int32.lt_iff_toInt_lt, h1, h2]
  refine propext ?_
  omega
theorem c_isOne {d m : Nat} {x : Int32} {P : PP} {S : HI} {T : HJ} {post : Option AV → AH → Prop} (hm : I 20 0 0 10 = nI m) (h5 : m ≤ 5) (hd : 1 < d) (k : post (some (vI (iN (0 ≤ x ∧ x < nI m)))) (mf I J rd rr P S T)) : CPd G l d 80 0 140 [vR 20 0 0, vI x] (mf I J rd rr P S T) post := by
  have E : Ev G l 1 (mt 140) 80 80 [vR 20 0 0, vI x] (mf I J rd rr P S T) (fun r h' => r = some (vI (iN (0 ≤ x ∧ x < nI m))) ∧ h' = mf I J rd rr P S T) := by
    refine Ev_go iM_isOne rfl rfl rfl ⟨Nat.le_refl _, Nat.le_refl _⟩ (fun K hK => hK.1 [] 120 _ _ _ _ _ ?_)
    refine c_in (b' := 0) (c' := nI m - 1) rfl (by rw [mf_I (by decide), hm]) (by decide) ?_
    rw [iN_congr (p := 0 ≤ x ∧ x ≤ nI m - 1) (q := 0 ≤ x ∧ x < nI m) (by rw [nI_le' (by omega)])]
    refine ⟨?_, rfl, rfl, rfl⟩
    unfold iN
    grind
  exact CPd_eq E hd rfl k
theorem nI_row {p w : Nat} (hw : 1 ≤ w) : (6 : Int32) * nI p + nI w - 1 = nI (6 * p + (w - 1)) := by
  obtain ⟨w', rfl⟩ : ∃ w', w = w' + 1 := ⟨w - 1, by omega⟩
  rw [nI_succ]
  unfold nI
  rw [Int32.ofNat_add, Int32.ofNat_mul]
  have : Int32.ofNat 6 = 6 := rfl
  rw [this]
  have : w' + 1 - 1 = w' := by omega
  rw [this]
  grind
theorem c_its {d p w : Nat} {x y : Int32} {P : PP} {S : HI} {T : HJ} {post : Option AV → AH → Prop} (hx : x = nI p) (hy : y = nI w) (hp : p < 5) (hw : 1 ≤ w ∧ w ≤ 6) (hd : 0 < d) (k : post (some (vI (P p w))) (mf I J rd rr P S T)) : CPd G l d 80 0 143 [vR 20 0 0, vI x, vI y] (mf I J rd rr P S T) post := by
  subst hx hy
  have E : Ev G l 0 (mt 143) 80 80 [vR 20 0 0, vI (nI p), vI (nI w)] (mf I J rd rr P S T) (fun r h' => r = some (vI (P p w)) ∧ h' = mf I J rd rr P S T) := by
    refine Ev_go iM_its rfl rfl rfl ⟨Nat.le_refl _, Nat.le_refl _⟩ (fun K hK => hK.1 [] 120 _ _ _ _ _ ?_)
    show vp_in (6 * nI p + nI w - 1) 30 ∧ _
    rw [nI_row hw.1]
    refine ⟨nI_in (by omega) (by decide), rfl, ?_, rfl⟩
    rw [nI_clamp (by omega), mf_r, show (6 * p + (w - 1)) / 6 = p by omega, show (6 * p + (w - 1)) % 6 + 1 = w by omega]
  exact CPd_eq E hd rfl k
theorem c_lays {d p w : Nat} {x y z : Int32} {P : PP} {S : HI} {T : HJ} {post : Option AV → AH → Prop} (hx : x = nI p) (hy : y = nI w) (hp : p < 5) (hw : 1 ≤ w ∧ w ≤ 6) (hd : 0 < d) (k : post none (mf I J rd rr (upP P p w z) S T)) : CPd G l d 80 0 166 [vR 20 0 0, vI y, vI x, vI z] (mf I J rd rr P S T) post := by
  subst hx hy
  have E : Ev G l 0 (mt 166) 80 80 [vR 20 0 0, vI (nI w), vI (nI p), vI z] (mf I J rd rr P S T) (fun r h' => r = none ∧ h' = mf I J rd rr (upP P p w z) S T) := by
    refine Ev_go iM_lays rfl rfl rfl ⟨Nat.le_refl _, Nat.le_refl _⟩ (fun K hK => hK.1 [] 120 _ _ _ _ _ ?_)
    have hn : ∀ a : Nat, a < 10 → a ≠ w → ¬ nI w = nI a := by
      intro a h1 h2 h3
      have := congrArg Int32.toInt h3
      rw [nI_toInt (by omega), nI_toInt (by omega)] at this
      omega
    refine And.intro (fun _ => ?_) (fun h => absurd h (hn 0 (by omega) (by omega)))
    refine And.intro (fun _ => ?_) (fun h => absurd h (hn 7 (by omega) (by omega)))
    refine And.intro (fun _ => ?_) (fun h => absurd h (hn 8 (by omega) (by omega)))
    show vp_in (6 * nI p + nI w - 1) 30 ∧ _
    rw [nI_row hw.1]
    refine ⟨nI_in (by omega) (by decide), rfl, rfl, ?_⟩
    rw [nI_clamp (by omega), mf_wr rfl (by omega), show w - 1 + 1 = w by omega]
  exact CPd_eq E hd rfl k
end M1
