/-! the first text -/
section Z5
variable {G : GT} {l : Launch} {I : HI} {J : HJ} {R0 : HR} {rd : Option AO} {n : Nat}
def fL : List Nat := [100, 111, 101, 115, 32, 49, 48, 32, 59, 32, 119, 101, 105, 103, 104, 115, 32, 48, 32, 59, 32, 115, 112, 97, 114, 101, 115, 32, 110, 117, 109, 98, 101, 114, 32, 59]
def fB (i : Nat) : Nat := if i < 36 then fL.getD i 0 else 32
theorem f_none : txF fB 40 = none := by decide +kernel
theorem f_none' : txF fB 36 = none := by decide +kernel
theorem f_same : ∀ w, w < 3 → txW fB 36 w = txW fB 40 w := by decide +kernel
theorem fB_lt : ∀ i, fB i < 256 := by
  intro i
  unfold fB
  by_cases h : i < 36
  · rw [if_pos h]
    have : ∀ i, i < 36 → fL.getD i 0 < 256 := by decide
    exact this i h
  · rw [if_neg h]
    decide
theorem first_ex : ∃ B : BT, ∀ w, w < 3 → ∀ E, rpn E (txW fB 40 w) [] = some [B w E] := tx_B (fun i _ => fB_lt i) f_none
theorem x_takes {d z : Nat} {x : Int32} {post : Option AV → AH → Prop} (hn : n ≤ 80) (hz : I 2 0 0 1 = nI z) (h160 : z < 160) (hd : 0 < d) (k : post (some (vI 1)) (mkX (upI (upI I 3 0 0 z x) 2 0 0 1 (nI (z + 1))) J R0 rd)) : CPd G l d n 0 13 [vR 2 0 0, vI x] (mkX I J R0 rd) post := by
  have E : Ev G l 0 (mt 13) n n [vR 2 0 0, vI x] (mkX I J R0 rd) (fun u h' => u = some (vI 1) ∧ h' = mkX (upI (upI I 3 0 0 z x) 2 0 0 1 (nI (z + 1))) J R0 rd) := by
    refine Ev_go iT_takes rfl rfl rfl ⟨Nat.le_refl _, hn⟩ (fun K hK => hK.1 [] 50 _ _ _ _ _ ?_)
    refine And.intro (fun _ => ?_) (fun q => absurd (by show I 2 0 0 1 < nI 160; rw [hz]; exact nI_lt h160 (by decide)) q)
    show vp_in (I 2 0 0 1) 160 ∧ _
    rw [hz]
    refine ⟨nI_in (N := 160) (by omega) (by decide), Or.inr rfl, rfl, rfl, ?_⟩
    show mkX (upI (upI I 3 0 0 (I 2 0 0 1).toNatClampNeg x) 2 0 0 1 (upI I 3 0 0 (I 2 0 0 1).toNatClampNeg x 2 0 0 1 + 1)) J R0 rd = _
    rw [hz, nI_clamp (n := z) (by omega), upI_at, if_neg (by omega), hz, nI_succ]
  exact CPd_eq E hd rfl k
theorem fB_ch : ∀ j, j < 36 → ((strB 0 j &&& 255).toUInt32 % 65536).toInt32 = nI (fB j) := by decide +kernel
theorem e_layFirst (hn : n ≤ 80) (h0 : I 2 0 0 1 = 0) : Ev G l 4 (mt 5) n n [vR 2 0 0] (mkX I J R0 rd) (fun u h' => ∃ q : HI, u = none ∧ h' = mkX q J R0 rd ∧ TP fB 36 q ∧ (∀ k, k ≠ 2 → k ≠ 3 → q k = I k) ∧ (∀ i j t, ¬ (i = 0 ∧ j = 0 ∧ t = 1) → q 2 i j t = I 2 i j t)) := by
  refine Ev_go iT_layFirstText rfl rfl rfl ⟨Nat.le_refl _, hn⟩ (fun K hK => ?_)
  have loop : ∀ j i q, i + j = 36 → q 2 0 0 1 = nI i → (∀ t, t < i → q 3 0 0 t = nI (fB t)) → (∀ k, k ≠ 2 → k ≠ 3 → q k = I k) → (∀ i j t, ¬ (i = 0 ∧ j = 0 ∧ t = 1) → q 2 i j t = I 2 i j t) → K n 2 [some (vR 2 0 0), some (vI (nI i))] [] (mkX q J R0 rd) := by
    intro j
    induction j with
    | zero =>
      intro i q hi h1 h2 h3 h4
      obtain rfl : i = 36 := by omega
      refine hK.1 [] 60 _ _ _ _ _ ?_
      refine x_length hn (by decide) (by decide) ?_
      exact And.intro (fun _ => ⟨rfl, q, rfl, rfl, ⟨h1, by decide, fun t ht => ⟨fB_lt t, h2 t ht⟩⟩, h3, h4⟩) (fun w => absurd (by decide) w)
    | succ j ih =>
      intro i q hi h1 h2 h3 h4
      refine hK.1 [(2, [true, true])] 60 _ _ _ _ _ ?_
      refine x_length hn (by decide) (by decide) ?_
      refine And.intro (fun w => absurd w (nI_ge (a := i) (b := 36) (by omega) (by decide))) (fun _ => ?_)
      refine x_charAt hn (by decide) (by show i < 36; omega) (by decide) (by decide) ?_
      show CPd _ _ _ _ _ _ _ _ _
      rw [fB_ch i (by omega)]
      refine x_takes hn h1 (by omega) (by decide) ?_
      show K n 2 _ _ _
      refine Kc (ih (i + 1) (upI (upI q 3 0 0 i (nI (fB i))) 2 0 0 1 (nI (i + 1))) (by omega) upI_s (fun t ht => ?_) (fun k h2' h3' => ?_) (fun i' j' t' hne => ?_)) (by rw [nI_succ]; rfl) rfl
      · rw [upI_at, if_neg (by omega), upI_at]
        by_cases e : t = i
        · rw [if_pos ⟨rfl, rfl, rfl, e⟩, e]
        · rw [if_neg (fun w => e w.2.2.2)]
          exact h2 t (by omega)
      · rw [← h3 k h2' h3']
        funext i' j' t'
        simp only [upI]
        rw [if_neg (fun w => h2' w.1), if_neg (fun w => h3' w.1)]
      · rw [upI_at, if_neg (fun w => hne w.2), upI_at, if_neg (by omega)]
        exact h4 i' j' t' hne
  refine hK.1 [(2, [true, true])] 60 _ _ _ _ _ ?_
  show K n 2 _ _ _
  exact loop 36 0 I rfl h0 (fun t ht => absurd ht (Nat.not_lt_zero _)) (fun _ _ _ => rfl) (fun _ _ _ _ => rfl)
end Z5
