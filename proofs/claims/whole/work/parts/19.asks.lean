/-! the reference: what a text tells, kept by what was asked -/
section M2
variable {G : GT} {l : Launch} {I : HI} {J : HJ} {rd : Option AO} {rr : Nat → Nat}
theorem c_asleepMany {d m : Nat} {P : PP} {S : HI} {T : HJ} {post : Option AV → AH → Prop} (hm : I 20 0 0 10 = nI m) (h5 : m ≤ 5) (hd : 1 < d) (k : post (some (vI (aslS P m))) (mf I J rd rr P S T)) : CPd G l d 80 0 146 [vR 20 0 0] (mf I J rd rr P S T) post := by
  have E : Ev G l 1 (mt 146) 80 80 [vR 20 0 0] (mf I J rd rr P S T) (fun r h' => r = some (vI (aslS P m)) ∧ h' = mf I J rd rr P S T) := by
    refine Ev_go iM_asleepMany rfl rfl rfl ⟨Nat.le_refl _, Nat.le_refl _⟩ (fun K hK => ?_)
    have loop : ∀ j k, k + j = m → K 80 4 [some (vR 20 0 0), some (vI (aslS P k)), some (vI (nI k))] [] (mf I J rd rr P S T) := by
      intro j
      induction j with
      | zero =>
        intro k hk
        refine hK.1 [] 50 _ _ _ _ _ ?_
        rw [show k = m by omega]
        refine And.intro (fun h1 => ⟨rfl, rfl, rfl⟩) (fun h1 => absurd ?_ h1)
        rw [mf_I (by decide), hm]; exact nI_le (Nat.le_refl _) (by omega)
      | succ j ih =>
        intro k hk
        refine hK.1 [(4, [true, true, true])] 50 _ _ _ _ _ ?_
        refine And.intro (fun h1 => absurd h1 ?_) (fun h1 => ?_)
        · rw [mf_I (by decide), hm]; exact nI_ge (by omega) (by omega)
        · refine c_its rfl (w := 6) rfl (by omega) (by decide) (by decide) ?_
          show K 80 4 _ _ _
          have e := ih (k + 1) (by omega)
          rw [nI_succ, aslS] at e
          exact e
    exact hK.1 [(4, [true, true, true])] 50 _ _ _ _ _ (loop m 0 (by omega))
  exact CPd_eq E hd rfl k
theorem c_tiredAll {d m : Nat} {P : PP} {S : HI} {T : HJ} {post : Option AV → AH → Prop} (hm : I 20 0 0 10 = nI m) (h5 : m ≤ 5) (hd : 1 < d) (k : post (some (vI (sumT P m))) (mf I J rd rr P S T)) : CPd G l d 80 0 182 [vR 20 0 0] (mf I J rd rr P S T) post := by
  have E : Ev G l 1 (mt 182) 80 80 [vR 20 0 0] (mf I J rd rr P S T) (fun r h' => r = some (vI (sumT P m)) ∧ h' = mf I J rd rr P S T) := by
    refine Ev_go iM_tiredAll rfl rfl rfl ⟨Nat.le_refl _, Nat.le_refl _⟩ (fun K hK => ?_)
    have loop : ∀ j k, k + j = m → K 80 4 [some (vR 20 0 0), some (vI (sumT P k)), some (vI (nI k))] [] (mf I J rd rr P S T) := by
      intro j
      induction j with
      | zero =>
        intro k hk
        refine hK.1 [] 50 _ _ _ _ _ ?_
        rw [show k = m by omega]
        refine And.intro (fun h1 => ⟨rfl, rfl, rfl⟩) (fun h1 => absurd ?_ h1)
        rw [mf_I (by decide), hm]; exact nI_le (Nat.le_refl _) (by omega)
      | succ j ih =>
        intro k hk
        refine hK.1 [(4, [true, true, true])] 50 _ _ _ _ _ ?_
        refine And.intro (fun h1 => absurd h1 ?_) (fun h1 => ?_)
        · rw [mf_I (by decide), hm]; exact nI_ge (by omega) (by omega)
        · refine c_its rfl (w := 2) rfl (by omega) (by decide) (by decide) ?_
          show K 80 4 _ _ _
          have e := ih (k + 1) (by omega)
          rw [nI_succ, sumT] at e
          exact e
    exact hK.1 [(4, [true, true, true])] 50 _ _ _ _ _ (loop m 0 (by omega))
  exact CPd_eq E hd rfl k
theorem c_asleepSet {d m : Nat} {P : PP} {S : HI} {T : HJ} {post : Option AV → AH → Prop} (hm : I 20 0 0 10 = nI m) (h5 : m ≤ 5) (hb : ∀ p, p < m → P p 6 = 0 ∨ P p 6 = 1) (hd : 1 < d) (k : post (some (vI (slpB P m))) (mf I J rd rr P S T)) : CPd G l d 80 0 179 [vR 20 0 0] (mf I J rd rr P S T) post := by
  have E : Ev G l 1 (mt 179) 80 80 [vR 20 0 0] (mf I J rd rr P S T) (fun r h' => r = some (vI (slpB P m)) ∧ h' = mf I J rd rr P S T) := by
    refine Ev_go iM_asleepSet rfl rfl rfl ⟨Nat.le_refl _, Nat.le_refl _⟩ (fun K hK => ?_)
    have loop : ∀ j k, k + j = m → K 80 4 [some (vR 20 0 0), some (vI (slpB P k)), some (vI (nI k))] [] (mf I J rd rr P S T) := by
      intro j
      induction j with
      | zero =>
        intro k hk
        refine hK.1 [] 50 _ _ _ _ _ ?_
        rw [show k = m by omega]
        refine And.intro (fun h1 => ⟨rfl, rfl, rfl⟩) (fun h1 => absurd ?_ h1)
        rw [mf_I (by decide), hm]; exact nI_le (Nat.le_refl _) (by omega)
      | succ j ih =>
        intro k hk
        refine hK.1 [(4, [true, true, true])] 50 _ _ _ _ _ ?_
        refine And.intro (fun h1 => absurd h1 ?_) (fun h1 => ?_)
        · rw [mf_I (by decide), hm]; exact nI_ge (by omega) (by omega)
        · refine c_its rfl (w := 6) rfl (by omega) (by decide) (by decide) ?_
          show K 80 4 _ _ _
          refine Kc (ih (k + 1) (by omega)) ?_ rfl
          rcases hb k (by omega) with q | q
          · rw [nI_succ, slpB_t q, q]
            show _ = [_, some (vI (slpB P k ||| 0 <<< (nI k &&& 31))), _]
            rw [show (0 : Int32) <<< (nI k &&& 31) = 0 by simp, Int32.or_zero]
            rfl
          · rw [nI_succ, slpB_f (by rw [q]; decide), q]
            rfl
    exact hK.1 [(4, [true, true, true])] 50 _ _ _ _ _ (loop m 0 (by omega))
  exact CPd_eq E hd rfl k
/-! the key of what was asked -/
def nL (n : Nat) : Int64 := Int64.ofNat n
theorem nL_I {n : Nat} (h : n < 2 ^ 31) : (nI n).toInt64 = nL n := by
  apply Int64.toInt_inj.mp
  rw [Int32.toInt_toInt64, nI_toInt h]
  unfold nL
  rw [Int64.toInt_ofNat_of_lt (by omega)]
theorem nL_add (a b : Nat) : nL a + nL b = nL (a + b) := by unfold nL; rw [Int64.ofNat_add]
theorem nL_mul (a b : Nat) : nL a * nL b = nL (a * b) := by unfold nL; rw [Int64.ofNat_mul]
theorem nL_inj {a b : Nat} (ha : a < 2 ^ 63) (hb : b < 2 ^ 63) (h : nL a = nL b) : a = b := by
  have := congrArg Int64.toInt h
  unfold nL at this
  rw [Int64.toInt_ofNat_of_lt ha, Int64.toInt_ofNat_of_lt hb] at this
  omega
def keyN (r w a b c d e f : Nat) : Nat := ((((((r * 3 + w) * 128 + a) * 128 + b) * 16 + c) * 2048 + d) * 8 + e) * 128 + f + 1
theorem keyN_inj {r w a b c d e f r' w' a' b' c' d' e' f' : Nat} (hw : w < 3) (ha : a < 128) (hb : b < 128) (hc : c < 16) (hd : d < 2048) (he : e < 8) (hf : f < 128) (hw' : w' < 3) (ha' : a' < 128) (hb' : b' < 128) (hc' : c' < 16) (hd' : d' < 2048) (he' : e' < 8) (hf' : f' < 128)
    (h : keyN r w a b c d e f = keyN r' w' a' b' c' d' e' f') : r = r' ∧ w = w' ∧ a = a' ∧ b = b' ∧ c = c' ∧ d = d' ∧ e = e' ∧ f = f' := by
  unfold keyN at h
  omega
theorem keyN_lt {r w a b c d e f : Nat} (hr : r < 6) (hw : w < 3) (ha : a < 128) (hb : b < 128) (hc : c < 16) (hd : d < 2048) (he : e < 8) (hf : f < 128) : 0 < keyN r w a b c d e f ∧ keyN r w a b c d e f < 2 ^ 63 := by
  unfold keyN
  omega
def mkE (a b c d e f : Nat) : Nat → Int32 := fun i => if i = 1 then nI a else if i = 2 then nI b else if i = 3 then nI c else if i = 4 then nI d else if i = 5 then nI e else nI f
def okK (n r w a b c d e f : Nat) : Prop := r < n ∧ w < 3 ∧ a < 128 ∧ b < 128 ∧ c < 16 ∧ d < 2048 ∧ e < 8 ∧ f < 128
def MOK (n : Nat) (Bs : Nat → BT) (S : HI) (T : HJ) : Prop := ∀ q, q < 1024 → T 26 0 0 q = 0 ∨ ∃ r w a b c d e f, okK n r w a b c d e f ∧ T 26 0 0 q = nL (keyN r w a b c d e f) ∧ S 27 0 0 q = Bs r w (mkE a b c d e f)
theorem lg_cmp_0 {a b : Int64} : (lg_cmp a b = 0) = (a = b) := by unfold lg_cmp; grind
theorem place_ok (z : Int64) : ∃ q, q < 1024 ∧ ((z.toUInt64 >>> ((54 : Int32).toInt64.toUInt64 &&& Int64.toUInt64 63)).toInt64).toInt32 = nI q := by
  refine ⟨z.toUInt64.toNat / 2 ^ 54, ?_, ?_⟩
  · have := z.toUInt64.toNat_lt
    omega
  · rw [show (54 : Int32).toInt64.toUInt64 &&& Int64.toUInt64 63 = 54 by decide]
    have h1 : (z.toUInt64 >>> (54 : UInt64)).toNat = z.toUInt64.toNat / 2 ^ 54 := by
      rw [UInt64.toNat_shiftRight, Nat.shiftRight_eq_div_pow]
      rfl
    rw [← h1]
    generalize z.toUInt64 >>> (54 : UInt64) = y
    have h2 : y = UInt64.ofNat y.toNat := UInt64.ofNat_toNat.symm
    rw [h2, UInt64.toInt64_ofNat', Int64.toInt32_ofNat', ← h2]
    rfl
end M2
