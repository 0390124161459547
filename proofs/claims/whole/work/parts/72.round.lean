/-! round: what each showed, in two ways -/
section T48
variable {G : GT} {l : Launch} {I : HI} {J : HJ} {rd : Option AO} {rr : Nat → Nat} {A : ST}
/-- two rows of PEOPLE are alike in how TIRED, in STORY, in who is ASLEEP -/
def alk (P Q : PP) (p : Nat) : Bool := decide (P p 2 = Q p 2 ∧ P p 3 = Q p 3 ∧ P p 6 = Q p 6)
def alkM (P Q : PP) : Nat → Bool
  | 0 => true
  | m + 1 => alkM P Q m && alk P Q m
theorem alkM_at {P Q : PP} : ∀ m, alkM P Q m = true ↔ ∀ p, p < m → alk P Q p = true
  | 0 => ⟨fun _ p hp => absurd hp (by omega), fun _ => rfl⟩
  | m + 1 => by
    rw [alkM, Bool.and_eq_true, alkM_at m]
    constructor
    · rintro ⟨a, b⟩ p hp
      by_cases e : p = m
      · rw [e]; exact b
      · exact a p (by omega)
    · exact fun h => ⟨fun p hp => h p (by omega), h m (by omega)⟩
/-- some of the first u was like the t-th -/
def wbF (A : ST) (t : Nat) : Nat → Bool
  | 0 => false
  | u + 1 => wbF A t u || alkM (runP A u) (runP A t) (aN A 0)
def rndF (A : ST) : Nat → Nat → Int32
  | 0, _ => -1
  | j + 1, t => if wbF A t t = true then nI t else rndF A j (t + 1)
def roundR (A : ST) : Int32 := rndF A 61 0
theorem wbF_up {t u : Nat} (h : wbF A t u = true) : ∀ j, wbF A t (u + j) = true
  | 0 => h
  | j + 1 => by rw [show u + (j + 1) = (u + j) + 1 by omega, wbF, wbF_up h j]; rfl
/-! the packed numbers -/
def pkT (P : PP) : Nat → Nat
  | 0 => 0
  | k + 1 => pkT P k * 256 + ((P k 2).toNatClampNeg * 2 + (P k 6).toNatClampNeg)
def pkS (P : PP) : Nat → Nat
  | 0 => 0
  | k + 1 => pkS P k * 256 + (P k 3).toNatClampNeg
theorem pkTS_lt {P : PP} : ∀ m, WF P m → ∀ k, k ≤ m → pkT P k < 256 ^ k ∧ pkS P k < 256 ^ k
  | m, h, 0, _ => ⟨Nat.zero_lt_one, Nat.zero_lt_one⟩
  | m, h, k + 1, hk => by
    obtain ⟨h1, h2⟩ := pkTS_lt m h k (by omega)
    have hq := h k (by omega)
    obtain ⟨a, ha, ea⟩ := hq.2.2.1
    obtain ⟨b, hb, eb⟩ := hq.2.2.2.1
    have h6 : (P k 6).toNatClampNeg ≤ 1 := by rcases hq.2.2.2.2.2.2 with e | e <;> rw [e] <;> decide
    rw [pkT, pkS, ea, eb, nI_clamp (by omega), nI_clamp (by omega), Nat.pow_succ]
    constructor <;> omega
theorem pk_alk {P Q : PP} {m : Nat} (hP : WF P m) (hQ : WF Q m) : ∀ k, k ≤ m → (pkT P k = pkT Q k ∧ pkS P k = pkS Q k ↔ alkM P Q k = true)
  | 0, _ => ⟨fun _ => rfl, fun _ => ⟨rfl, rfl⟩⟩
  | k + 1, hk => by
    have ih := pk_alk hP hQ k (by omega)
    have hp := hP k (by omega)
    have hq := hQ k (by omega)
    obtain ⟨a, ha, ea⟩ := hp.2.2.1
    obtain ⟨b, hb, eb⟩ := hp.2.2.2.1
    obtain ⟨a', ha', ea'⟩ := hq.2.2.1
    obtain ⟨b', hb', eb'⟩ := hq.2.2.2.1
    obtain ⟨s, hs, es⟩ : ∃ s, s ≤ 1 ∧ P k 6 = nI s := by rcases hp.2.2.2.2.2.2 with e | e; exact ⟨0, by omega, e⟩; exact ⟨1, by omega, e⟩
    obtain ⟨s', hs', es'⟩ : ∃ s, s ≤ 1 ∧ Q k 6 = nI s := by rcases hq.2.2.2.2.2.2 with e | e; exact ⟨0, by omega, e⟩; exact ⟨1, by omega, e⟩
    rw [alkM, Bool.and_eq_true, ← ih]
    unfold alk
    rw [decide_eq_true_iff, pkT, pkT, pkS, pkS, ea, eb, es, ea', eb', es', nI_clamp (by omega), nI_clamp (by omega), nI_clamp (by omega), nI_clamp (by omega), nI_clamp (by omega), nI_clamp (by omega)]
    constructor
    · rintro ⟨h1, h2⟩
      have e1 : pkT P k = pkT Q k := by omega
      have e2 : pkS P k = pkS Q k := by omega
      have e3 : a = a' := by omega
      have e4 : b = b' := by omega
      have e5 : s = s' := by omega
      exact ⟨⟨e1, e2⟩, by rw [e3], by rw [e4], by rw [e5]⟩
    · rintro ⟨⟨h1, h2⟩, h3, h4, h5⟩
      have e3 := nI_ij h3 (by omega) (by omega)
      have e4 := nI_ij h4 (by omega) (by omega)
      have e5 := nI_ij h5 (by omega) (by omega)
      rw [h1, h2, e3, e4, e5]
      exact ⟨rfl, rfl⟩
theorem pk_Ag {P Q : PP} : ∀ m n, Ag n P Q → m ≤ n → pkT P m = pkT Q m ∧ pkS P m = pkS Q m
  | 0, _, _, _ => ⟨rfl, rfl⟩
  | m + 1, n, h, hn => by
    obtain ⟨a, b⟩ := pk_Ag m n h (by omega)
    rw [pkT, pkS, pkT, pkS, a, b, h m (by omega) 2 (by omega), h m (by omega) 3 (by omega), h m (by omega) 6 (by omega)]
    exact ⟨rfl, rfl⟩
theorem nL_bv {n : Nat} : (nL n).toBitVec = BitVec.ofNat 64 n := rfl
theorem shl8 {n : Nat} : nL n <<< ((8 : Int32).toInt64 &&& 63) = nL (n * 256) := by
  rw [show (8 : Int32).toInt64 &&& 63 = 8 by decide]
  have e : nL n <<< (8 : Int64) = nL n * 256 := by
    apply Int64.toBitVec_inj.mp
    rw [Int64.toBitVec_shiftLeft, Int64.toBitVec_mul]
    show (nL n).toBitVec <<< (8 : Nat) = (nL n).toBitVec * (256 : Int64).toBitVec
    rw [BitVec.shiftLeft_eq_mul_twoPow]
    rfl
  rw [e]
  exact nL_mul n 256
theorem or8 {n x : Nat} (h : n < 2 ^ 50) (hx : x < 256) : nL (n * 256) ||| nL x = nL (n * 256 + x) := by
  apply Int64.toBitVec_inj.mp
  rw [Int64.toBitVec_or, nL_bv, nL_bv, nL_bv]
  apply BitVec.eq_of_toNat_eq
  rw [BitVec.toNat_or, BitVec.toNat_ofNat, BitVec.toNat_ofNat, BitVec.toNat_ofNat, Nat.mod_eq_of_lt (by omega), Nat.mod_eq_of_lt (by omega), Nat.mod_eq_of_lt (by omega)]
  have := Nat.two_pow_add_eq_or_of_lt (i := 8) (b := x) (by omega) n
  rw [Nat.mul_comm n 256]
  exact this.symm
theorem or2 : ∀ a, a < 100 → ∀ s, s < 2 → (nI a <<< ((1 : Int32) &&& 31)).toInt64 = nL (a * 2) ∧ nL (a * 2) ||| nL s = nL (a * 2 + s) := by decide +kernel
theorem t_packT {d : Nat} {dd : Int32} {P : PP} {O : Nat → Nat → Nat → Int32} {post : Option AV → AH → Prop} (ok : OKA A) (hW : WF P (aN A 0)) (hd : 0 < d) (k : post (some (vL (nL (pkT P (aN A 0))))) (TF I J rd rr A dd P O)) : CPd G l d 80 0 94 [vR 17 1 0] (TF I J rd rr A dd P O) post := by
  have h5 := ok.1.1
  have hsz : getI (TF I J rd rr A dd P O) 17 1 0 1 = nI (aN A 0) := by
    show getI (nf (tI I (nI (aN A 0)) dd) J rd (va_up rr 1 (aN A 2)) 1 P O) 17 1 0 1 = _
    rw [nf_I (by decide), tI_1]
  have E : Ev G l 0 (mt 94) 80 80 [vR 17 1 0] (TF I J rd rr A dd P O) (fun r h' => r = some (vL (nL (pkT P (aN A 0)))) ∧ h' = TF I J rd rr A dd P O) := by
    refine Ev_go iV_tiredAndAsleep rfl rfl rfl ⟨Nat.le_refl _, Nat.le_refl _⟩ (fun K hK => ?_)
    have loop : ∀ j i, i + j = aN A 0 → K 80 4 [some (vR 17 1 0), some (vL (nL (pkT P i))), none, some (vI (nI i))] [] (TF I J rd rr A dd P O) := by
      intro j
      induction j with
      | zero =>
        intro i hi
        refine hK.1 [] 60 _ _ _ _ _ ?_
        rw [show i = aN A 0 by omega]
        refine And.intro (fun _ => ⟨rfl, rfl, rfl⟩) (fun h => absurd ?_ h)
        rw [hsz]
        exact nI_le (Nat.le_refl _) (by omega)
      | succ j ih =>
        intro i hi
        refine hK.1 [(4, [true, true, false, true])] 60 _ _ _ _ _ ?_
        refine And.intro (fun h => absurd h ?_) (fun _ => ?_)
        · rw [hsz]
          exact nI_ge (by omega) (by omega)
        · refine ⟨nI_in (N := 5) (by omega) (by decide), nI_in (N := 5) (by omega) (by decide), ?_⟩
          rw [nI_clamp (n := i) (by omega)]
          have hq := hW i (by omega)
          obtain ⟨a, ha, ea⟩ := hq.2.2.1
          have e := ih (i + 1) (by omega)
          have hlt := (pkTS_lt _ hW i (by omega)).1
          have h256 : ∀ i, i < 5 → 256 ^ i < 2 ^ 50 := by decide
          have hlt2 := h256 i (by omega)
          rw [pkT, ea, nI_clamp (by omega)] at e
          intro hz
          refine And.intro (fun h7 => ?_) (fun h7 => ?_)
          · rw [TF_P] at h7
            show K 80 4 _ _ _
            rw [h7] at e
            refine Kc e ?_ rfl
            show _ = [some (vR 17 1 0), some (vL (nL (pkT P i) <<< ((8 : Int32).toInt64 &&& 63) ||| (getI (TF I J rd rr A dd P O) 19 1 i 2 <<< ((1 : Int32) &&& 31)).toInt64 ||| (0 : Int32).toInt64)), none, some (vI (nI i + 1))]
            rw [TF_P, ea, (or2 a (by omega) 0 (by omega)).1, shl8, show (0 : Int32).toInt64 = nL 0 from rfl, Int64.or_assoc, (or2 a (by omega) 0 (by omega)).2, or8 (by omega) (by omega), nI_succ]
            rfl
          · have h71 : P i 6 = 1 := by rw [TF_P] at hz h7; exact hz.resolve_left h7
            show K 80 4 _ _ _
            rw [h71] at e
            refine Kc e ?_ rfl
            show _ = [some (vR 17 1 0), some (vL (nL (pkT P i) <<< ((8 : Int32).toInt64 &&& 63) ||| (getI (TF I J rd rr A dd P O) 19 1 i 2 <<< ((1 : Int32) &&& 31)).toInt64 ||| (1 : Int32).toInt64)), none, some (vI (nI i + 1))]
            rw [TF_P, ea, (or2 a (by omega) 0 (by omega)).1, shl8, show (1 : Int32).toInt64 = nL 1 from rfl, Int64.or_assoc, (or2 a (by omega) 1 (by omega)).2, or8 (by omega) (by omega), nI_succ]
            rfl
    refine hK.1 [(4, [true, true, false, true])] 60 _ _ _ _ _ ?_
    show K 80 4 _ _ _
    exact loop (aN A 0) 0 (by omega)
  exact CPd_eq E hd rfl k
theorem t_packS {d : Nat} {dd : Int32} {P : PP} {O : Nat → Nat → Nat → Int32} {post : Option AV → AH → Prop} (ok : OKA A) (hW : WF P (aN A 0)) (hd : 0 < d) (k : post (some (vL (nL (pkS P (aN A 0))))) (TF I J rd rr A dd P O)) : CPd G l d 80 0 95 [vR 17 1 0] (TF I J rd rr A dd P O) post := by
  have h5 := ok.1.1
  have hsz : getI (TF I J rd rr A dd P O) 17 1 0 1 = nI (aN A 0) := by
    show getI (nf (tI I (nI (aN A 0)) dd) J rd (va_up rr 1 (aN A 2)) 1 P O) 17 1 0 1 = _
    rw [nf_I (by decide), tI_1]
  have E : Ev G l 0 (mt 95) 80 80 [vR 17 1 0] (TF I J rd rr A dd P O) (fun r h' => r = some (vL (nL (pkS P (aN A 0)))) ∧ h' = TF I J rd rr A dd P O) := by
    refine Ev_go iV_stories rfl rfl rfl ⟨Nat.le_refl _, Nat.le_refl _⟩ (fun K hK => ?_)
    have loop : ∀ j i, i + j = aN A 0 → K 80 4 [some (vR 17 1 0), some (vL (nL (pkS P i))), none, some (vI (nI i))] [] (TF I J rd rr A dd P O) := by
      intro j
      induction j with
      | zero =>
        intro i hi
        refine hK.1 [] 60 _ _ _ _ _ ?_
        rw [show i = aN A 0 by omega]
        refine And.intro (fun _ => ⟨rfl, rfl, rfl⟩) (fun h => absurd ?_ h)
        rw [hsz]
        exact nI_le (Nat.le_refl _) (by omega)
      | succ j ih =>
        intro i hi
        refine hK.1 [(4, [true, true, false, true])] 60 _ _ _ _ _ ?_
        refine And.intro (fun h => absurd h ?_) (fun _ => ?_)
        · rw [hsz]
          exact nI_ge (by omega) (by omega)
        · refine ⟨nI_in (N := 5) (by omega) (by decide), ?_⟩
          rw [nI_clamp (n := i) (by omega)]
          obtain ⟨a, ha, ea⟩ := (hW i (by omega)).2.2.2.1
          have e := ih (i + 1) (by omega)
          have hlt := (pkTS_lt _ hW i (by omega)).2
          have h256 : ∀ i, i < 5 → 256 ^ i < 2 ^ 50 := by decide
          have hlt2 := h256 i (by omega)
          rw [pkS, ea, nI_clamp (by omega)] at e
          show K 80 4 _ _ _
          refine Kc e ?_ rfl
          show _ = [some (vR 17 1 0), some (vL (nL (pkS P i) <<< ((8 : Int32).toInt64 &&& 63) ||| (getI (TF I J rd rr A dd P O) 19 1 i 3).toInt64)), none, some (vI (nI i + 1))]
          rw [TF_P, ea, shl8, nL_I (by omega), or8 (by omega) (by omega), nI_succ]
    refine hK.1 [(4, [true, true, false, true])] 60 _ _ _ _ _ ?_
    show K 80 4 _ _ _
    exact loop (aN A 0) 0 (by omega)
  exact CPd_eq E hd rfl k
end T48
