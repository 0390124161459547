/-! the reference reads the next token -/
section X1
variable {G : GT} {l : Launch} {I : HI} {J : HJ} {rd : Option AO} {rr : Nat → Nat}
theorem skp_f {p : Nat → Bool} {b : Nat → Nat} {n a : Nat} (h : ¬ (a < n ∧ p (b a) = true)) : ∀ f, skp p b n f a = a
  | 0 => rfl
  | f + 1 => by rw [skp, if_neg h]
theorem skA_f {p : Nat → Bool} {b : Nat → Nat} {n a : Nat} (h : ¬ (a < n ∧ p (b a) = true)) : skA p b n a = a := skp_f h _
theorem skA_t {p : Nat → Bool} {b : Nat → Nat} {n a : Nat} (h : a < n ∧ p (b a) = true) : skA p b n a = skA p b n (a + 1) := by
  unfold skA
  rw [show n - a = (n - (a + 1)) + 1 by omega, skp, if_pos h]
theorem skA_ind {p : Nat → Bool} {b : Nat → Nat} {n : Nat} : ∀ f a, n - a ≤ f → a ≤ n → a ≤ skA p b n a ∧ skA p b n a ≤ n ∧ ¬ (skA p b n a < n ∧ p (b (skA p b n a)) = true) ∧ ∀ i, a ≤ i → i < skA p b n a → p (b i) = true
  | 0, a, h1, h2 => by
    rw [skA_f (fun q => by omega)]
    exact ⟨Nat.le_refl _, h2, fun q => by omega, fun i h3 h4 => by omega⟩
  | f + 1, a, h1, h2 => by
    by_cases h : a < n ∧ p (b a) = true
    · rw [skA_t h]
      obtain ⟨g1, g2, g3, g4⟩ := skA_ind (p := p) (b := b) (n := n) f (a + 1) (by omega) (by omega)
      refine ⟨by omega, g2, g3, fun i h3 h4 => ?_⟩
      by_cases e : i = a
      · rw [e]; exact h.2
      · exact g4 i (by omega) h4
    · rw [skA_f h]
      exact ⟨Nat.le_refl _, h2, h, fun i h3 h4 => by omega⟩
theorem skA_p {p : Nat → Bool} {b : Nat → Nat} {n a : Nat} (h : a ≤ n) : a ≤ skA p b n a ∧ skA p b n a ≤ n ∧ ¬ (skA p b n a < n ∧ p (b (skA p b n a)) = true) ∧ ∀ i, a ≤ i → i < skA p b n a → p (b i) = true := skA_ind _ a (Nat.le_refl _) h
/-- a text at hand -/
def TXh (b : Nat → Nat) (n base : Nat) (I S : HI) : Prop := n ≤ 160 ∧ base + n ≤ 960 ∧ S 20 0 0 17 = nI base ∧ S 20 0 0 18 = nI n ∧ ∀ i, i < n → b i < 256 ∧ I 21 0 0 (base + i) = nI (b i)
def FrN (S S' : HI) (T T' : HJ) : Prop := S' 27 = S 27 ∧ T' 26 = T 26 ∧ ∀ t, 11 ≤ t → t ≤ 18 → S' 20 0 0 t = S 20 0 0 t
def FrX (S S' : HI) (T T' : HJ) : Prop := FrN S S' T T' ∧ S' 20 0 0 23 = S 20 0 0 23 ∧ S' 20 0 0 24 = S 20 0 0 24 ∧ S' 20 0 0 25 = S 20 0 0 25
theorem FrN.r {S : HI} {T : HJ} : FrN S S T T := ⟨rfl, rfl, fun _ _ _ => rfl⟩
theorem FrN.tr {S S' S'' : HI} {T T' T'' : HJ} (h : FrN S S' T T') (h' : FrN S' S'' T' T'') : FrN S S'' T T'' := ⟨h'.1.trans h.1, h'.2.1.trans h.2.1, fun t a b => (h'.2.2 t a b).trans (h.2.2 t a b)⟩
theorem FrX.r {S : HI} {T : HJ} : FrX S S T T := ⟨FrN.r, rfl, rfl, rfl⟩
theorem FrX.tr {S S' S'' : HI} {T T' T'' : HJ} (h : FrX S S' T T') (h' : FrX S' S'' T' T'') : FrX S S'' T T'' := ⟨h.1.tr h'.1, h'.2.1.trans h.2.1, h'.2.2.1.trans h.2.2.1, h'.2.2.2.trans h.2.2.2⟩
theorem FrX.up {S : HI} {T : HJ} {t : Nat} {x : Int32} (h : t = 19 ∨ t = 20 ∨ t = 21) : FrX S (upI S 20 0 0 t x) T T := by
  refine ⟨⟨up20 (by decide), rfl, fun t' h1 h2 => up20t (by omega)⟩, up20t (by omega), up20t (by omega), up20t (by omega)⟩
theorem FrX.upT {S : HI} {T : HJ} {x : Int64} : FrX S S T (upJ T 20 0 0 22 x) := ⟨⟨rfl, by funext i j t; simp [upJ], fun _ _ _ => rfl⟩, rfl, rfl, rfl⟩
theorem TXh.fr {b : Nat → Nat} {n base : Nat} {S S' : HI} {T T' : HJ} (h : TXh b n base I S) (f : FrN S S' T T') : TXh b n base I S' := by
  obtain ⟨h1, h2, h3, h4, h5⟩ := h
  exact ⟨h1, h2, (f.2.2 17 (by decide) (by decide)).trans h3, (f.2.2 18 (by decide) (by decide)).trans h4, h5⟩
theorem mf_up {P : PP} {S : HI} {T : HJ} {t : Nat} {x : Int32} (h : 11 ≤ t ∧ t ≤ 25) : setI (mf I J rd rr P S T) 20 0 0 t x = mf I J rd rr P (upI S 20 0 0 t x) T := mf_wS (Or.inr ⟨rfl, h⟩)
theorem mf_ge {P : PP} {S : HI} {T : HJ} {t : Nat} (h : 11 ≤ t ∧ t ≤ 25) : getI (mf I J rd rr P S T) 20 0 0 t = S 20 0 0 t := mf_S (Or.inr ⟨rfl, h⟩)
def byI (b : Nat → Nat) (n i : Nat) : Int32 := if i < n then nI (b i) else -1
theorem c_byteAt {d i base n : Nat} {b : Nat → Nat} {P : PP} {S : HI} {T : HJ} {x : Int32} {post : Option AV → AH → Prop} (h : TXh b n base I S) (hx : x = nI i) (hi : i < 400) (hd : 0 < d) (k : post (some (vI (byI b n i))) (mf I J rd rr P S T)) : CPd G l d 80 0 150 [vR 20 0 0, vI x] (mf I J rd rr P S T) post := by
  subst hx
  obtain ⟨h1, h2, h3, h4, h5⟩ := h
  have E : Ev G l 0 (mt 150) 80 80 [vR 20 0 0, vI (nI i)] (mf I J rd rr P S T) (fun r h' => r = some (vI (byI b n i)) ∧ h' = mf I J rd rr P S T) := by
    refine Ev_go iM_byteAt rfl rfl rfl ⟨Nat.le_refl _, Nat.le_refl _⟩ (fun K hK => hK.1 [] 120 _ _ _ _ _ ?_)
    refine And.intro (fun h6 => ?_) (fun h6 => ?_)
    · rw [mf_ge (by decide), h4] at h6
      refine ⟨rfl, ?_, rfl⟩
      unfold byI
      rw [if_neg (fun q => absurd h6 (nI_ge q (by omega)))]
    · rw [mf_ge (by decide), h4] at h6
      have hin : i < n := by
        refine Classical.byContradiction fun e => h6 (nI_le (by omega) (by omega))
      show vp_in _ _ ∧ _
      rw [mf_ge (by decide), h3, nI_plus]
      refine ⟨nI_in (N := 960) (by omega) (by decide), rfl, ?_, rfl⟩
      rw [nI_clamp (n := base + i) (by omega), mf_I (by simp), (h5 i hin).2]
      unfold byI
      rw [if_pos hin]
  exact CPd_eq E hd rfl k
/-- the token that stands at a is at hand -/
def TkA (b : Nat → Nat) (n a : Nat) (S : HI) (T : HJ) : Prop := S 20 0 0 21 = nI a ∧ (n ≤ a → S 20 0 0 20 = 0) ∧ (a < n →
  (isLe (b a) = true → S 20 0 0 20 = 1 ∧ S 20 0 0 19 = nI (skA isLe b n a)) ∧
  (isLe (b a) = false → isDi (b a) = true → S 20 0 0 20 = (if 4 < skA isDi b n a - a then 4 else 2) ∧ S 20 0 0 19 = nI (skA isDi b n a) ∧ (¬ 4 < skA isDi b n a - a → (T 20 0 0 22).toInt32 = nbI b a (skA isDi b n a - a))) ∧
  (isLe (b a) = false → isDi (b a) = false → isSg (b a) = true → S 20 0 0 20 = 3 ∧ S 20 0 0 19 = nI (a + 1) ∧ T 20 0 0 22 = nL (b a)) ∧
  (isLe (b a) = false → isDi (b a) = false → isSg (b a) = false → S 20 0 0 20 = 4))
theorem by_in {b : Nat → Nat} {n i lo hi : Nat} (hb : i < n → b i < 256) (h1 : lo < 256) (h2 : hi < 256) : ((nI lo ≤ byI b n i ∧ byI b n i ≤ nI hi) ↔ (i < n ∧ lo ≤ b i ∧ b i ≤ hi)) := by
  unfold byI
  by_cases h : i < n
  · have hb := hb h
    rw [if_pos h]
    rw [Int32.le_iff_toInt_le, Int32.le_iff_toInt_le, nI_toInt (by omega), nI_toInt (by omega), nI_toInt (by omega)]
    omega
  · rw [if_neg h]
    constructor
    · rintro ⟨a, _⟩
      rw [Int32.le_iff_toInt_le, nI_toInt (by omega)] at a
      have h5' : (-1 : Int32).toInt = -1 := by decide
      omega
    · exact fun q => absurd q.1 h
theorem by_eq {b : Nat → Nat} {n i c : Nat} (hb : i < n → b i < 256) (h1 : c < 256) : (byI b n i = nI c ↔ (i < n ∧ b i = c)) := by
  unfold byI
  by_cases h : i < n
  · have hb := hb h
    rw [if_pos h]
    exact ⟨fun q => ⟨h, nI_ij q (by omega) (by omega)⟩, fun q => by rw [q.2]⟩
  · rw [if_neg h]
    constructor
    · intro a
      have := congrArg Int32.toInt a
      rw [nI_toInt (by omega)] at this
      have h5' : (-1 : Int32).toInt = -1 := by decide
      omega
    · exact fun q => absurd q.1 h
def nbN (b : Nat → Nat) (a : Nat) : Nat → Nat
  | 0 => 0
  | k + 1 => 10 * nbN b a k + (b (a + k) - 48)
theorem nb_eq {b : Nat → Nat} {a : Nat} : ∀ k, (∀ i, i < k → isDi (b (a + i)) = true) → nbI b a k = nI (nbN b a k)
  | 0, _ => rfl
  | k + 1, h => by
    have hd := of_decide_eq_true (h k (by omega))
    rw [nbI, nbN, nb_eq k (fun i hi => h i (by omega)), show (10 : Int32) = nI 10 from rfl, nI_mul, nI_plus, show (48 : Int32) = nI 48 from rfl, nI_minus (by omega)]
    exact congrArg nI (by omega)
theorem nb_lt {b : Nat → Nat} {a : Nat} (hb : ∀ i, b i < 256) : ∀ k, k ≤ 4 → nbN b a k < 1000000
  | 0, _ => by show 0 < 1000000; decide
  | 1, _ => by have := hb (a + 0); simp only [nbN]; omega
  | 2, _ => by have := hb (a + 0); have := hb (a + 1); simp only [nbN]; omega
  | 3, _ => by have := hb (a + 0); have := hb (a + 1); have := hb (a + 2); simp only [nbN]; omega
  | 4, _ => by have := hb (a + 0); have := hb (a + 1); have := hb (a + 2); have := hb (a + 3); simp only [nbN]; omega
theorem nL_minus {a b : Nat} (h : b ≤ a) : nL a - nL b = nL (a - b) := by
  have e := nL_add (a - b) b
  rw [show a - b + b = a by omega] at e
  rw [← e]
  grind
theorem nL_32 {n : Nat} : (nL n).toInt32 = nI n := Int64.toInt32_ofNat'
theorem e_next {b : Nat → Nat} {n base h0 a : Nat} {P : PP} {S : HI} {T : HJ} (h : TXh b n base I S) (hh : S 20 0 0 19 = nI h0) (h0n : h0 ≤ n) (ha : skA isBl b n h0 = a) :
    Ev G l 1 (mt 149) 80 80 [vR 20 0 0] (mf I J rd rr P S T) (fun r h' => ∃ q : HI × HJ, r = none ∧ h' = mf I J rd rr P q.1 q.2 ∧ FrX S q.1 T q.2 ∧ TkA b n a q.1 q.2) := by
  have hn := h.1
  have hb : ∀ i, i < n → b i < 256 := fun i hi => (h.2.2.2.2 i hi).1
  have hskb := skA_p (p := isBl) (b := b) h0n
  rw [ha] at hskb
  obtain ⟨b1, b2, b3, -⟩ := hskb
  have inc : ∀ x : Nat, nI x + 1 = nI (x + 1) := fun x => (nI_succ x).symm
  refine Ev_go iM_next rfl rfl rfl ⟨Nat.le_refl _, Nat.le_refl _⟩ (fun K hK => ?_)
  -- letters
  have lets : ∀ f i S', n - i ≤ f → i ≤ n → FrX S S' T T → S' 20 0 0 21 = nI a → S' 20 0 0 20 = 1 → S' 20 0 0 19 = nI i → skA isLe b n i = skA isLe b n a → a < n → isLe (b a) = true → K 80 100 [some (vR 20 0 0), none, none] [] (mf I J rd rr P S' T) := by
    intro f
    induction f with
    | zero =>
      intro i S' hf hi hS h21 h20 h19 hsk han hle
      refine hK.1 [] 60 _ _ _ _ _ ?_
      refine c_byteAt (h.fr hS.1) ((mf_ge (by decide)).trans h19) (by omega) (by decide) ?_
      refine c_in (b' := nI 97) (c' := nI 122) rfl rfl (by decide) ?_
      rw [iN_congr (by_in (hb i) (by decide) (by decide))]
      refine And.intro (fun _ => ?_) (fun q => absurd (iN_y q).1 (by omega))
      refine ⟨rfl, (S', T), rfl, rfl, hS, h21, fun q => absurd q (by omega), fun _ => ⟨fun _ => ⟨h20, ?_⟩, fun q => absurd hle (by rw [q]; decide), fun q => absurd hle (by rw [q]; decide), fun q => absurd hle (by rw [q]; decide)⟩⟩
      show S' 20 0 0 19 = _
      rw [h19, ← hsk, skA_f (fun q => by omega)]
    | succ f ih =>
      intro i S' hf hi hS h21 h20 h19 hsk han hle
      refine hK.1 [(100, [true, false, false])] 60 _ _ _ _ _ ?_
      refine c_byteAt (h.fr hS.1) ((mf_ge (by decide)).trans h19) (by omega) (by decide) ?_
      refine c_in (b' := nI 97) (c' := nI 122) rfl rfl (by decide) ?_
      rw [iN_congr (by_in (hb i) (by decide) (by decide))]
      refine And.intro (fun q => ?_) (fun q => ?_)
      · have hno := iN_n q
        refine ⟨rfl, (S', T), rfl, rfl, hS, h21, fun q => absurd q (by omega), fun _ => ⟨fun _ => ⟨h20, ?_⟩, fun q => absurd hle (by rw [q]; decide), fun q => absurd hle (by rw [q]; decide), fun q => absurd hle (by rw [q]; decide)⟩⟩
        show S' 20 0 0 19 = _
        rw [h19, ← hsk, skA_f (fun q => hno ⟨q.1, of_decide_eq_true q.2⟩)]
      · have hyes := iN_y q
        have hst : skA isLe b n i = skA isLe b n (i + 1) := skA_t ⟨hyes.1, decide_eq_true hyes.2⟩
        show K 80 100 _ _ _
        rw [mf_ge (by decide), h19, inc, mf_up (by decide)]
        exact ih (i + 1) _ (by omega) (by omega) (hS.tr (FrX.up (by decide))) (by rw [up20t (by decide)]; exact h21) (by rw [up20t (by decide)]; exact h20) upI_s (hst ▸ hsk) han hle
  -- digits
  have digs : ∀ f i k S' T', n - i < f → i ≤ n → i = a + k → FrX S S' T T' → S' 20 0 0 21 = nI a → S' 20 0 0 19 = nI i → T' 20 0 0 22 = nL (nbN b a (if k ≤ 4 then k else 4)) → (∀ j, j < k → isDi (b (a + j)) = true) → skA isDi b n i = skA isDi b n a → a < n → isLe (b a) = false → isDi (b a) = true → K 80 160 [some (vR 20 0 0), none, some (vI (nI k))] [] (mf I J rd rr P S' T') := by
    intro f
    induction f with
    | zero => intro i k S' T' hf; exact absurd hf (by omega)
    | succ f ih =>
      intro i k S' T' hf hi hik hS h21 h19 hT hall hsk han hle hdi
      -- the end of the digits
      have fin : skA isDi b n i = i → ∃ q : HI × HJ, (none : Option AV) = none ∧ mf I J rd rr P (upI S' 20 0 0 20 (if 4 < k then 4 else 2)) T' = mf I J rd rr P q.1 q.2 ∧ FrX S q.1 T q.2 ∧ TkA b n a q.1 q.2 := by
        intro hend
        have hk : skA isDi b n a - a = k := by rw [← hsk, hend]; omega
        refine ⟨(upI S' 20 0 0 20 (if 4 < k then 4 else 2), T'), rfl, rfl, hS.tr (FrX.up (by decide)), ?_, fun q => absurd q (by omega), fun _ => ⟨fun q => absurd hle (by rw [q]; decide), fun _ _ => ⟨?_, ?_, fun h4 => ?_⟩, fun _ q => absurd hdi (by rw [q]; decide), fun _ q => absurd hdi (by rw [q]; decide)⟩⟩
        · show upI S' 20 0 0 20 (if 4 < k then 4 else 2) 20 0 0 21 = _
          rw [up20t (by decide)]; exact h21
        · rw [hk]
          show upI S' 20 0 0 20 (if 4 < k then 4 else 2) 20 0 0 20 = _
          exact upI_s
        · show upI S' 20 0 0 20 (if 4 < k then 4 else 2) 20 0 0 19 = _
          rw [up20t (by decide), h19, ← hsk, hend]
        · rw [hk] at h4 ⊢
          show (T' 20 0 0 22).toInt32 = _
          rw [hT, if_pos (by omega), nL_32, nb_eq k hall]
      refine hK.1 [(160, [true, false, true])] 100 _ _ _ _ _ ?_
      refine c_byteAt (h.fr hS.1) ((mf_ge (by decide)).trans h19) (by omega) (by decide) ?_
      refine c_in (b' := nI 48) (c' := nI 57) rfl rfl (by decide) ?_
      rw [iN_congr (by_in (hb i) (by decide) (by decide))]
      refine And.intro (fun q => ?_) (fun q => ?_)
      · have hno := iN_n q
        have hf := fin (skA_f (fun q => hno ⟨q.1, of_decide_eq_true q.2⟩))
        have hk4 : (nI k ≤ 4) ↔ k ≤ 4 := by
          rw [Int32.le_iff_toInt_le, nI_toInt (by omega)]
          have h5' : (4 : Int32).toInt = 4 := by decide
          omega
        refine And.intro (fun q => ?_) (fun q => ?_)
        · rw [if_neg (by have := hk4.mp q; omega)] at hf
          refine ⟨rfl, ?_⟩
          rw [mf_up (by decide)]
          exact hf
        · rw [if_pos (by have hh : ¬ _ := fun z => q (hk4.mpr z); omega)] at hf
          refine ⟨rfl, ?_⟩
          rw [mf_up (by decide)]
          exact hf
      · have hyes := iN_y q
        have hd : isDi (b i) = true := decide_eq_true hyes.2
        have hst : skA isDi b n i = skA isDi b n (i + 1) := skA_t ⟨hyes.1, hd⟩
        have hall' : ∀ j, j < k + 1 → isDi (b (a + j)) = true := fun j hj => by
          by_cases e : j = k
          · rw [e, ← hik]; exact hd
          · exact hall j (by omega)
        have hk4 : (4 ≤ nI k) ↔ 4 ≤ k := by
          rw [Int32.le_iff_toInt_le, nI_toInt (by omega)]
          have h5' : (4 : Int32).toInt = 4 := by decide
          omega
        refine And.intro (fun q => ?_) (fun q => ?_)
        · have h4k := hk4.mp q
          show K 80 160 _ _ _
          rw [mf_T (Or.inr ⟨rfl, rfl⟩), mf_wT (Or.inr ⟨rfl, rfl⟩), mf_ge (by decide), h19, inc i, mf_up (by decide)]
          refine Kc (ih (i + 1) (k + 1) (upI S' 20 0 0 19 (nI (i + 1))) (upJ T' 20 0 0 22 (T' 20 0 0 22)) (by omega) (by omega) (by omega) ((hS.tr FrX.upT).tr (FrX.up (by decide))) (by rw [up20t (by decide)]; exact h21) upI_s ?_ hall' (hst ▸ hsk) han hle hdi) (by rw [nI_succ]; rfl) rfl
          rw [if_neg (by omega)]
          show upJ T' 20 0 0 22 (T' 20 0 0 22) 20 0 0 22 = _
          rw [upJ_at, if_pos ⟨rfl, rfl, rfl, rfl⟩, hT]
          by_cases e : k ≤ 4
          · rw [if_pos e, show k = 4 by omega]
          · rw [if_neg e]
        · have h4k : k < 4 := by have hh : ¬ _ := fun z => q (hk4.mpr z); omega
          refine c_byteAt (h.fr hS.1) ((mf_ge (by decide)).trans h19) (by omega) (by decide) ?_
          show K 80 160 _ _ _
          have hv : (10 : Int64) * getJ (mf I J rd rr P S' T') 20 0 0 22 + (byI b n i).toInt64 - 48 = nL (nbN b a (k + 1)) := by
            rw [mf_T (Or.inr ⟨rfl, rfl⟩), hT, if_pos (by omega)]
            unfold byI
            have hbi := hb i hyes.1
            rw [if_pos hyes.1, nL_I (by omega), show (10 : Int64) = nL 10 from rfl, show (48 : Int64) = nL 48 from rfl, nL_mul, nL_add, nL_minus (by omega), nbN, ← hik]
            exact congrArg nL (by omega)
          rw [hv, mf_wT (Or.inr ⟨rfl, rfl⟩), mf_ge (by decide), h19, inc i, mf_up (by decide)]
          refine Kc (ih (i + 1) (k + 1) (upI S' 20 0 0 19 (nI (i + 1))) (upJ T' 20 0 0 22 (nL (nbN b a (k + 1)))) (by omega) (by omega) (by omega) ((hS.tr FrX.upT).tr (FrX.up (by decide))) (by rw [up20t (by decide)]; exact h21) upI_s ?_ hall' (hst ▸ hsk) han hle hdi) (by rw [nI_succ]; rfl) rfl
          rw [if_pos (by omega)]
          show upJ T' 20 0 0 22 _ 20 0 0 22 = _
          rw [upJ_at, if_pos ⟨rfl, rfl, rfl, rfl⟩]
  -- the token begins at a
  have mid : ∀ S', FrX S S' T T → S' 20 0 0 19 = nI a → K 80 39 [some (vR 20 0 0), none, none] [] (mf I J rd rr P S' T) := by
    intro S' hS h19
    refine hK.1 [(100, [true, false, false]), (160, [true, false, true])] 100 _ _ _ _ _ ?_
    show CPd _ _ _ _ _ _ _ _ _
    rw [mf_ge (by decide), h19, mf_up (by decide)]
    have hS1 : FrX S (upI S' 20 0 0 21 (nI a)) T T := hS.tr (FrX.up (by decide))
    have h191 : (upI S' 20 0 0 21 (nI a)) 20 0 0 19 = nI a := by rw [up20t (by decide)]; exact h19
    have h211 : (upI S' 20 0 0 21 (nI a)) 20 0 0 21 = nI a := upI_s
    generalize upI S' 20 0 0 21 (nI a) = S1 at hS1 h191 h211
    refine c_byteAt (h.fr hS1.1) ((mf_ge (by decide)).trans h191) (by omega) (by decide) ?_
    have put : ∀ (x : Int32), FrX S (upI S1 20 0 0 20 x) T T ∧ (upI S1 20 0 0 20 x) 20 0 0 19 = nI a ∧ (upI S1 20 0 0 20 x) 20 0 0 21 = nI a ∧ (upI S1 20 0 0 20 x) 20 0 0 20 = x :=
      fun x => ⟨hS1.tr (FrX.up (by decide)), by rw [up20t (by decide)]; exact h191, by rw [up20t (by decide)]; exact h211, upI_s⟩
    have e44 : ∀ x y : Int32, upI (upI S1 20 0 0 20 x) 20 0 0 20 y = upI S1 20 0 0 20 y := fun x y => upI_upI
    by_cases han : a < n
    · have hba := hb a han
      have hby : byI b n a = nI (b a) := by unfold byI; rw [if_pos han]
      rw [hby]
      refine And.intro (fun _ => ?_) (fun q => absurd (nI_pos' (by omega)) q)
      rw [mf_up (by decide)]
      refine c_in (b' := nI 97) (c' := nI 122) rfl rfl (by decide) ?_
      have hin := fun lo hi (h1 : lo < 256) (h2 : hi < 256) => by_in (b := b) (n := n) (i := a) (lo := lo) (hi := hi) (hb a) h1 h2
      rw [hby] at hin
      rw [iN_congr (hin 97 122 (by decide) (by decide))]
      refine And.intro (fun q => ?_) (fun q => ?_)
      · have hnl := iN_n q
        have hle : isLe (b a) = false := decide_eq_false (fun q => hnl ⟨han, q⟩)
        refine c_in (b' := nI 48) (c' := nI 57) rfl rfl (by decide) ?_
        rw [iN_congr (hin 48 57 (by decide) (by decide))]
        refine And.intro (fun q => ?_) (fun q => ?_)
        · have hnd := iN_n q
          have hdi : isDi (b a) = false := decide_eq_false (fun q => hnd ⟨han, q⟩)
          have sign : isSg (b a) = true → ∃ q : HI × HJ, (none : Option AV) = none ∧ mf I J rd rr P (upI (upI (upI S1 20 0 0 20 4) 20 0 0 20 3) 20 0 0 19 (nI a + 1)) (upJ T 20 0 0 22 (nI (b a)).toInt64) = mf I J rd rr P q.1 q.2 ∧ FrX S q.1 T q.2 ∧ TkA b n a q.1 q.2 := by
            intro hsg
            refine ⟨(upI (upI (upI S1 20 0 0 20 4) 20 0 0 20 3) 20 0 0 19 (nI a + 1), upJ T 20 0 0 22 (nI (b a)).toInt64), rfl, rfl, ?_, ?_, fun q => absurd q (by omega), fun _ => ⟨fun q => absurd hle (by rw [q]; decide), fun _ q => absurd hdi (by rw [q]; decide), fun _ _ _ => ⟨?_, ?_, ?_⟩, fun _ _ q => absurd hsg (by rw [q]; decide)⟩⟩
            · rw [e44]
              exact ((put 3).1.tr (FrX.up (by decide))).tr FrX.upT
            · show upI (upI (upI S1 20 0 0 20 4) 20 0 0 20 3) 20 0 0 19 (nI a + 1) 20 0 0 21 = _
              rw [e44, up20t (by decide)]
              exact (put 3).2.2.1
            · show upI (upI (upI S1 20 0 0 20 4) 20 0 0 20 3) 20 0 0 19 (nI a + 1) 20 0 0 20 = _
              rw [e44, up20t (by decide)]
              exact (put 3).2.2.2
            · show upI (upI (upI S1 20 0 0 20 4) 20 0 0 20 3) 20 0 0 19 (nI a + 1) 20 0 0 19 = _
              rw [upI_s, inc]
            · show upJ T 20 0 0 22 (nI (b a)).toInt64 20 0 0 22 = _
              rw [upJ_at, if_pos ⟨rfl, rfl, rfl, rfl⟩, nL_I (by omega)]
          have done : isSg (b a) = true → ∃ q : HI × HJ, (none : Option AV) = none ∧ setI (setJ (setI (mf I J rd rr P (upI S1 20 0 0 20 4) T) 20 0 0 20 3) 20 0 0 22 (nI (b a)).toInt64) 20 0 0 19 (getI (setJ (setI (mf I J rd rr P (upI S1 20 0 0 20 4) T) 20 0 0 20 3) 20 0 0 22 (nI (b a)).toInt64) 20 0 0 19 + 1) = mf I J rd rr P q.1 q.2 ∧ FrX S q.1 T q.2 ∧ TkA b n a q.1 q.2 := by
            intro hsg
            have hs := sign hsg
            rw [mf_up (by decide), mf_wT (Or.inr ⟨rfl, rfl⟩), mf_ge (by decide), show upI (upI S1 20 0 0 20 4) 20 0 0 20 3 20 0 0 19 = nI a by rw [e44]; exact (put 3).2.1, mf_up (by decide)]
            exact hs
          have sg : ∀ c, (c = 40 ∨ c = 41 ∨ c = 59 ∨ c = 43 ∨ c = 45 ∨ c = 42 ∨ c = 60 ∨ c = 61) → nI (b a) = nI c → isSg (b a) = true := by
            intro c hc he
            have := nI_ij he (by omega) (by omega)
            rw [this]
            exact decide_eq_true hc
          refine And.intro (fun q => ⟨rfl, done (sg 40 (by decide) q)⟩) (fun q1 => And.intro (fun q => ⟨rfl, done (sg 41 (by decide) q)⟩) (fun q2 => And.intro (fun q => ⟨rfl, done (sg 59 (by decide) q)⟩) (fun q3 => And.intro (fun q => ⟨rfl, done (sg 43 (by decide) q)⟩) (fun q4 => And.intro (fun q => ⟨rfl, done (sg 45 (by decide) q)⟩) (fun q5 => And.intro (fun q => ⟨rfl, done (sg 42 (by decide) q)⟩) (fun q6 => And.intro (fun q => ⟨rfl, done (sg 60 (by decide) q)⟩) (fun q7 => And.intro (fun q8 => ?_) (fun q => ⟨rfl, done (sg 61 (by decide) q)⟩))))))))
          have hsg : isSg (b a) = false := by
            refine decide_eq_false ?_
            rintro (e | e | e | e | e | e | e | e)
            · exact q1 (by rw [e]; rfl)
            · exact q2 (by rw [e]; rfl)
            · exact q3 (by rw [e]; rfl)
            · exact q4 (by rw [e]; rfl)
            · exact q5 (by rw [e]; rfl)
            · exact q6 (by rw [e]; rfl)
            · exact q7 (by rw [e]; rfl)
            · exact q8 (by rw [e]; rfl)
          exact ⟨rfl, (upI S1 20 0 0 20 4, T), rfl, rfl, (put 4).1, (put 4).2.2.1, fun q => absurd q (by omega), fun _ => ⟨fun q => absurd hle (by rw [q]; decide), fun _ q => absurd hdi (by rw [q]; decide), fun _ _ q => absurd hsg (by rw [q]; decide), fun _ _ _ => (put 4).2.2.2⟩⟩
        · have hdi : isDi (b a) = true := decide_eq_true (iN_y q).2
          show K 80 160 _ _ _
          rw [mf_up (by decide), mf_wT (Or.inr ⟨rfl, rfl⟩), e44]
          exact digs (n - a + 1) a 0 (upI S1 20 0 0 20 2) (upJ T 20 0 0 22 0) (by omega) (by omega) rfl ((put 2).1.tr FrX.upT) (put 2).2.2.1 (put 2).2.1 (by rw [upJ_at, if_pos ⟨rfl, rfl, rfl, rfl⟩]; rfl) (fun j hj => absurd hj (by omega)) rfl han hle hdi
      · have hle : isLe (b a) = true := decide_eq_true (iN_y q).2
        show K 80 100 _ _ _
        rw [mf_up (by decide), e44]
        exact lets (n - a) a (upI S1 20 0 0 20 1) (by omega) (by omega) (put 1).1 (put 1).2.2.1 (put 1).2.2.2 (put 1).2.1 rfl han hle
    · have hby : byI b n a = -1 := by unfold byI; rw [if_neg han]
      rw [hby]
      refine And.intro (fun q => absurd q (by decide)) (fun _ => ?_)
      rw [mf_up (by decide)]
      refine ⟨rfl, ?_⟩
      rw [mf_up (by decide), e44, mf_ge (by decide), show upI S1 20 0 0 20 0 20 0 0 18 = nI n by rw [up20t (by decide)]; exact (h.fr hS1.1).2.2.2.1, mf_up (by decide)]
      refine ⟨(upI (upI S1 20 0 0 20 0) 20 0 0 21 (nI n), T), rfl, rfl, (put 0).1.tr (FrX.up (by decide)), ?_, fun _ => ?_, fun q => absurd q han⟩
      · show upI (upI S1 20 0 0 20 0) 20 0 0 21 (nI n) 20 0 0 21 = nI a
        rw [upI_s, show a = n by omega]
      · show upI (upI S1 20 0 0 20 0) 20 0 0 21 (nI n) 20 0 0 20 = 0
        rw [up20t (by decide)]
        exact (put 0).2.2.2
  -- blanks
  have blank : ∀ f i S', n - i < f → i ≤ n → FrX S S' T T → S' 20 0 0 19 = nI i → skA isBl b n i = a → K 80 0 [some (vR 20 0 0), none, none] [] (mf I J rd rr P S' T) := by
    intro f
    induction f with
    | zero => intro i S' hf; exact absurd hf (by omega)
    | succ f ih =>
      intro i S' hf hi hS h19 hsk
      refine hK.1 [(39, [true, false, false]), (0, [true, false, false])] 60 _ _ _ _ _ ?_
      have go : i < n → isBl (b i) = true → K 80 0 [some (vR 20 0 0), none, none] [] (setI (mf I J rd rr P S' T) 20 0 0 19 (getI (mf I J rd rr P S' T) 20 0 0 19 + 1)) := by
        intro hin hbl
        rw [mf_ge (by decide), h19, inc, mf_up (by decide)]
        refine ih (i + 1) _ (by omega) (by omega) (hS.tr (FrX.up (by decide))) upI_s ?_
        rw [← hsk]
        exact (skA_t ⟨hin, hbl⟩).symm
      refine c_byteAt (h.fr hS.1) ((mf_ge (by decide)).trans h19) (by omega) (by decide) ?_
      refine And.intro (fun q => ?_) (fun q1 => ?_)
      · have := (by_eq (c := 32) (hb i) (by decide)).mp q
        show K 80 0 _ _ _
        exact go this.1 (decide_eq_true (Or.inl this.2))
      · refine c_byteAt (h.fr hS.1) ((mf_ge (by decide)).trans h19) (by omega) (by decide) ?_
        refine And.intro (fun q2 => ?_) (fun q => ?_)
        · have hend : skA isBl b n i = i := skA_f (fun q => by
            rcases of_decide_eq_true q.2 with e | e
            · exact q1 ((by_eq (c := 32) (hb i) (by decide)).mpr ⟨q.1, e⟩)
            · exact q2 ((by_eq (c := 10) (hb i) (by decide)).mpr ⟨q.1, e⟩))
          show K 80 39 _ _ _
          rw [hend] at hsk
          subst hsk
          exact mid S' hS h19
        · have := (by_eq (c := 10) (hb i) (by decide)).mp q
          show K 80 0 _ _ _
          exact go this.1 (decide_eq_true (Or.inr this.2))
  exact blank (n + 1) h0 S (by omega) h0n FrX.r hh ha
end X1
