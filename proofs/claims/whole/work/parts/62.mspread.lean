section T38
variable {G : GT} {l : Launch} {I : HI} {J : HJ} {rd : Option AO} {rr : Nat → Nat} {A : ST}
theorem div_le99 {x : Int32} {n : Nat} (hx : x ≤ 99) (hn : n ≤ 5) : x / nI n ≤ 99 := by
  have hb := i32_lt x
  have hx' := Int32.le_iff_toInt_le.mp hx
  have h99 : (99 : Int32).toInt = 99 := by decide
  rw [h99] at hx'
  rw [Int32.le_iff_toInt_le, h99, Int32.toInt_div, nI_toInt (by omega)]
  by_cases h : 0 ≤ x.toInt
  · obtain ⟨a, ha⟩ := Int.eq_ofNat_of_zero_le h
    rw [ha, ← Int.ofNat_tdiv]
    have := Nat.div_le_self a n
    generalize a / n = q at this
    rw [Int.bmod_eq_of_le (by omega) (by omega)]
    omega
  · obtain ⟨a, ha⟩ := Int.eq_ofNat_of_zero_le (show 0 ≤ -x.toInt by omega)
    rw [show x.toInt = -(a : Int) by omega, Int.neg_tdiv, ← Int.ofNat_tdiv]
    have := Nat.div_le_self a n
    generalize a / n = q at this
    rw [Int.bmod_eq_of_le (by omega) (by omega)]
    omega
def clrN (x : Nat) : Nat := x &&& (x - 1)
theorem clr_ok : ∀ x, x < 32 → 0 < x → nI x &&& (nI x - 1) = nI (clrN x) ∧ clrN x < x ∧ pcN (clrN x) + 1 = pcN x := by decide +kernel
theorem e_bitsOf {s : Nat} {h : AH} (hs : s < 32) : Ev G l 0 (mt 190) 80 80 [vI (nI s)] h (fun r h' => r = some (vI (nI (pcN s))) ∧ h' = h) := by
  refine Ev_go iM_bitsOf rfl rfl rfl ⟨Nat.le_refl _, Nat.le_refl _⟩ (fun K hK => ?_)
  have loop : ∀ f x n, x < f → x < 32 → n + pcN x = pcN s → K 80 4 [none, some (vI (nI n)), some (vI (nI x))] [] h := by
    intro f
    induction f with
    | zero => intro x n hx; exact absurd hx (by omega)
    | succ f ih =>
      intro x n hx h32 hn
      refine hK.1 [(4, [false, true, true])] 60 _ _ _ _ _ ?_
      refine And.intro (fun h1 => ?_) (fun h1 => ?_)
      · have hx0 : x = 0 := by
          have := congrArg Int32.toInt h1
          rw [nI_toInt (by omega), Int32.toInt_zero] at this
          omega
        subst hx0
        exact ⟨rfl, by rw [← hn]; rfl, rfl⟩
      · have hx0 : 0 < x := by
          refine Classical.byContradiction fun e => h1 ?_
          rw [show x = 0 by omega]
          rfl
        obtain ⟨c1, c2, c3⟩ := clr_ok x h32 hx0
        show K 80 4 _ _ _
        refine Kc (ih (clrN x) (n + 1) (by omega) (by omega) (by omega)) ?_ rfl
        rw [nI_succ, ← c1]
        rfl
  refine hK.1 [(4, [false, true, true])] 60 _ _ _ _ _ ?_
  show K 80 4 _ _ _
  exact loop (s + 1) s 0 (by omega) hs (by omega)
def bnB (c : Nat → Bool) (s : Nat) : Nat → Bool
  | 0 => true
  | k + 1 => bnB c s k && (!s.testBit k || c k)
theorem bnB_f {c : Nat → Bool} {s k : Nat} (h : bnB c s k = false) : ∀ j, bnB c s (k + j) = false
  | 0 => h
  | j + 1 => by rw [show k + (j + 1) = (k + j) + 1 by omega, bnB, bnB_f h j]; rfl
theorem bnB_at {c : Nat → Bool} {s : Nat} : ∀ m, bnB c s m = true ↔ ∀ k, k < m → s.testBit k = true → c k = true
  | 0 => ⟨fun _ k hk => absurd hk (by omega), fun _ => rfl⟩
  | m + 1 => by
    rw [bnB, Bool.and_eq_true, bnB_at m]
    constructor
    · rintro ⟨a, b⟩ k hk hs
      by_cases e : k = m
      · subst e
        rw [hs] at b
        exact b
      · exact a k (by omega) hs
    · intro a
      refine ⟨fun k hk hs => a k (by omega) hs, ?_⟩
      cases hs : s.testBit m with
      | false => rfl
      | true => rw [a m (by omega) hs]; rfl
def bnC (B : BT) (P : PP) (sh d asl : Int32) (k : Nat) : Bool := decide (P k 6 = 0 ∧ tiredByS B P k sh d asl < 80)
theorem e_isBorne {n m r dd s : Nat} {sh : Int32} {Bs : Nat → BT} {P : PP} {S : HI} {T : HJ} (hE : RE G l n Bs I m r dd) (hM : MOK n Bs S T) (hW : WF P m) (hs : s < 32) (hsh : sh ≤ 99) : Ev G l 64 (mt 191) 80 80 [vR 20 0 0, vI (nI s), vI sh] (mf I J rd rr P S T) (fun v h' => ∃ q : HI × HJ, v = some (vI (iN (bnB (bnC (Bs r) P sh (nI dd) (aslS P m)) s m = true))) ∧ h' = mf I J rd rr P q.1 q.2 ∧ MOK n Bs q.1 q.2) := by
  have hm := hE.2.2.2.2.2.2.1
  have h5 := hE.2.2.2.2.2.2.2
  refine Ev_go iM_isBorne rfl rfl rfl ⟨Nat.le_refl _, Nat.le_refl _⟩ (fun K hK => ?_)
  have loop : ∀ j k S T, k + j = m → MOK n Bs S T → bnB (bnC (Bs r) P sh (nI dd) (aslS P m)) s k = true → K 80 2 [some (vR 20 0 0), some (vI (nI s)), some (vI sh), some (vI (nI k))] [] (mf I J rd rr P S T) := by
    intro j
    induction j with
    | zero =>
      intro k S T hk hM hb
      refine hK.1 [] 60 _ _ _ _ _ ?_
      rw [show k = m by omega] at hb ⊢
      refine And.intro (fun _ => ?_) (fun h => absurd ?_ h)
      · exact ⟨Or.inr rfl, rfl, (S, T), by unfold iN; rw [if_pos hb], rfl, hM⟩
      · rw [mf_I (by decide), hm]
        exact nI_le (Nat.le_refl _) (by omega)
    | succ j ih =>
      intro k S T hk hM hb
      refine hK.1 [(2, [true, true, true, true])] 60 _ _ _ _ _ ?_
      have e := fun S T hM => ih (k + 1) S T (by omega) hM
      rw [bnB, hb, Bool.true_and, nI_succ] at e
      have bad : (!s.testBit k || bnC (Bs r) P sh (nI dd) (aslS P m) k) = false → ∀ S T, MOK n Bs S T → ∃ q : HI × HJ, some (vI 0) = some (vI (iN (bnB (bnC (Bs r) P sh (nI dd) (aslS P m)) s m = true))) ∧ mf I J rd rr P S T = mf I J rd rr P q.1 q.2 ∧ MOK n Bs q.1 q.2 := by
        intro hf S T hM
        have h1 : bnB (bnC (Bs r) P sh (nI dd) (aslS P m)) s (k + 1) = false := by rw [bnB, hb, hf]; rfl
        have h2 := bnB_f h1 j
        rw [show k + 1 + j = m by omega] at h2
        exact ⟨(S, T), by unfold iN; rw [h2, if_neg (by decide)], rfl, hM⟩
      refine And.intro (fun h => absurd h ?_) (fun _ => ?_)
      · rw [mf_I (by decide), hm]
        exact nI_ge (by omega) (by omega)
      · have hbit := bit_at s hs k (by omega)
        refine And.intro (fun h6 => ?_) (fun h6 => ?_)
        · rw [hbit] at h6
          have ht : s.testBit k = false := by
            cases hh : s.testBit k with
            | false => rfl
            | true => rw [hh, if_pos rfl] at h6; exact absurd rfl h6
          show K 80 2 _ _ _
          exact e S T hM (by rw [ht]; rfl)
        · rw [hbit] at h6
          have ht : s.testBit k = true := by
            cases hh : s.testBit k with
            | false => rw [hh, if_neg (by decide)] at h6; exact absurd h6 (by decide)
            | true => rfl
          rw [ht] at e bad
          refine c_its rfl (w := 6) rfl (by omega) (by decide) (by decide) ?_
          have hz := hW.b k (by omega)
          refine And.intro (fun h7 => ?_) (fun h7 => ?_)
          · refine ⟨Or.inl rfl, rfl, bad ?_ S T hM⟩
            unfold bnC
            rw [decide_eq_false (fun q => by rw [h7] at q; exact absurd q.1 (by decide))]
            rfl
          · have h70 := hz.resolve_right h7
            refine c_its rfl (w := 2) rfl (by omega) (by decide) (by decide) ?_
            refine CPd_exc (e_mhearsOf hE hM hW (show k < m by omega) hsh) (by decide) rfl (fun u hu => ?_)
            refine c_within (by decide) ?_
            refine And.intro (fun h8 => ?_) (fun h8 => ?_)
            · show K 80 2 _ _ _
              refine e u.1 u.2 hu ?_
              unfold bnC
              rw [decide_eq_true ⟨h70, h8⟩]
              rfl
            · refine ⟨Or.inl rfl, rfl, bad ?_ u.1 u.2 hu⟩
              unfold bnC
              rw [decide_eq_false (fun q => h8 q.2)]
              rfl
  refine hK.1 [(2, [true, true, true, true])] 60 _ _ _ _ _ ?_
  show K 80 2 _ _ _
  exact loop m 0 S T (by omega) hM rfl
/-- good: without the one, and borne by all -/
theorem sp_good {p s : Nat} {Q : PP} (h4 : Ag (aN A 0) Q (aP A)) (h5 : aN A 0 ≤ 5) (hs : s < 2 ^ aN A 0) : spG A p s = true ↔ s.testBit p = false ∧ bnB (bnC (bO A) Q (ldS A p / nI (pcN s)) (dy A) (aslS Q (aN A 0))) s (aN A 0) = true := by
  have hc : ∀ k, k < aN A 0 → (bnC (bO A) Q (ldS A p / nI (pcN s)) (dy A) (aslS Q (aN A 0)) k = true ↔ aP A k 6 = 0 ∧ tiredByS (bO A) (aP A) k (ldS A p / nI (pcN s)) (dy A) (asl A) < 80) := by
    intro k hk
    unfold bnC asl
    rw [decide_eq_true_iff, h4 k hk 6 (by omega), asl_Ag _ _ h4 (Nat.le_refl _), tiredBy_Ag h4 hk]
  have hbig : ∀ k, aN A 0 ≤ k → s.testBit k = false := fun k hk => Nat.testBit_lt_two_pow (Nat.lt_of_lt_of_le hs (Nat.pow_le_pow_right (by decide) hk))
  rw [bnB_at]
  constructor
  · intro h
    have h : subB (spC A p (ldS A p / nI (pcN s))) s = true := h
    have hk5 : ∀ k, s.testBit k = true → (k < aN A 0 ∧ k ≠ p) ∧ aP A k 6 = 0 ∧ tiredByS (bO A) (aP A) k (ldS A p / nI (pcN s)) (dy A) (asl A) < 80 := by
      intro k hk
      have hkm : k < aN A 0 := by
        refine Classical.byContradiction fun q => ?_
        rw [hbig k (by omega)] at hk
        cases hk
      have := subB_at h (by omega) hk
      exact of_decide_eq_true this
    refine ⟨?_, fun k hk hb => (hc k hk).mpr (hk5 k hb).2⟩
    cases hp : s.testBit p with
    | false => rfl
    | true => exact absurd rfl (hk5 p hp).1.2
  · rintro ⟨h1, h2⟩
    show subB (spC A p (ldS A p / nI (pcN s))) s = true
    refine subB_mk (fun k hk hb => ?_)
    have hkm : k < aN A 0 := by
      refine Classical.byContradiction fun q => ?_
      rw [hbig k (by omega)] at hb
      cases hb
    unfold spC
    refine decide_eq_true ⟨⟨hkm, fun e => ?_⟩, (hc k hkm).mp (h2 k hkm hb)⟩
    rw [← e, hb] at h1
    cases h1
theorem sp_lim {p : Nat} (h5 : aN A 0 ≤ 5) (hp : p < aN A 0) : ∀ s, 1 ≤ s → s < 32 → spG A p s = true → pcN s ≤ aN A 0 - 1 ∧ s < 2 ^ aN A 0 := by
  intro s h1 h2 h3
  refine sub_m _ h5 p hp s h2 (subB_mk (fun k hk hb => ?_))
  have h3 : subB (spC A p (ldS A p / nI (pcN s))) s = true := h3
  have := subB_at h3 hk hb
  exact decide_eq_true (of_decide_eq_true this).1
theorem m_spread {one w : Int32} (ok : OKA A) : MC G l 189 100 [vI one, vI w] A (vI (spreadR A one w)) A := by
  intro I J rd rr Q S T hC
  obtain ⟨h1, h2, h3, h4⟩ := hC.1
  have h5 := ok.1.1
  have hd9 := ok.1.2.1
  refine Ev_go iM_spread rfl rfl rfl ⟨Nat.le_refl _, Nat.le_refl _⟩ (fun K hK => ?_)
  refine hK.1 [(36, [true, true, true, true, true, true, true, false, false])] 100 _ _ _ _ _ ?_
  unfold spreadR at hK
  unfold spreadR
  refine c_isOne h1 h5 (by decide) ?_
  refine And.intro (fun h6 => ?_) (fun h6 => ?_)
  · rw [if_neg (fun q => iN_n h6 q.1)]
    exact ⟨rfl, (I, Q, S, T), rfl, rfl, hC, frM.r⟩
  · refine c_in (b' := 0) (c' := 1) rfl rfl (by decide) ?_
    refine And.intro (fun h7 => ?_) (fun h7 => ?_)
    · have hc := And.intro (iN_y h6) (iN_y h7)
      rw [if_pos hc] at hK
      obtain ⟨p, hp, rfl⟩ := nI_ex hc.1.1 hc.1.2 (by omega)
      rw [nI_clamp (n := p) (by omega)] at hK
      have hWQ : WF Q (aN A 0) := hC.W ok
      have hld : weighsS (aB A (aN A 2)) Q p (nI (aN A 1)) (aslS Q (aN A 0)) = ldS A p := by
        unfold ldS asl
        rw [asl_Ag _ _ h4 (Nat.le_refl _), weighs_Ag h4 hp]
        rfl
      have hld99 : ldS A p ≤ 99 := by rw [← hld]; exact weigh_le hWQ hp
      have h32 : ∀ m, m ≤ 5 → 2 ^ m ≤ 32 ∧ 1 ≤ 2 ^ m := by decide
      have hm32 := h32 (aN A 0) h5
      refine CPd_exc (e_mweighsOf (hC.E ok) hC.2.1.2.2 hWQ hp) (by decide) rfl (fun u hu => ?_)
      rw [hld]
      have hF : ∀ S' T', MOK (aN A 3) (aB A) S' T' → MF G l I Q S' T' A := fun S' T' hM => hC.ext (fun t ht => rfl) (fun k h1 h2 h3 h4 => rfl) h4 hM
      have loop : ∀ j s S' T', s + 1 + j = 2 ^ aN A 0 → MOK (aN A 3) (aB A) S' T' → K 80 36 [some (vR 20 0 0), some (vI (nI p)), some (vI w), some (vI (ldS A p)), some (vI (opI (rfN (spG A p) s))), some (vI (opI ((rfN (spG A p) s).map pcN))), some (vI (nI (s + 1))), none, none] [] (mf I J rd rr Q S' T') := by
        intro j
        induction j with
        | zero =>
          intro s S' T' hs hM
          refine hK.1 [] 60 _ _ _ _ _ ?_
          rw [show s + 1 = 2 ^ aN A 0 by omega, show s = 2 ^ aN A 0 - 1 by omega]
          refine And.intro (fun _ => ?_) (fun h => absurd ?_ h)
          · have hsr := sp_rf h5 (by omega) (sp_lim (A := A) (p := p) h5 hp)
            rw [← hsr.2, ← hsr.1]
            have hv : spV A p w = if w = 0 then opI ((spN (spG A p) (aN A 0 - 1) 1).map Prod.fst) else opI ((spN (spG A p) (aN A 0 - 1) 1).map Prod.snd) := by
              unfold spV
              cases spN (spG A p) (aN A 0 - 1) 1 with
              | none => show (-1 : Int32) = if w = 0 then -1 else -1; split <;> rfl
              | some q => rfl
            rw [hv]
            refine And.intro (fun h8 => ?_) (fun h8 => ?_)
            · rw [if_neg h8]
              exact ⟨rfl, (I, Q, S', T'), rfl, rfl, hF S' T' hM, frM.r⟩
            · rw [if_pos h8]
              exact ⟨rfl, (I, Q, S', T'), rfl, rfl, hF S' T' hM, frM.r⟩
          · rw [mf_I (by decide), h1, two_pow _ h5]
            exact nI_le (Nat.le_refl _) (by omega)
        | succ j ih =>
          intro s S' T' hs hM
          refine hK.1 [(36, [true, true, true, true, true, true, true, false, false]), (79, [true, true, true, true, true, true, true, true, true])] 60 _ _ _ _ _ ?_
          have e := fun S' T' hM => ih (s + 1) S' T' (by omega) hM
          rw [nI_succ (s + 1)] at e
          have skip : ∀ S' T', MOK (aN A 3) (aB A) S' T' → rfN (spG A p) (s + 1) = rfN (spG A p) s → K 80 36 [some (vR 20 0 0), some (vI (nI p)), some (vI w), some (vI (ldS A p)), some (vI (opI (rfN (spG A p) s))), some (vI (opI ((rfN (spG A p) s).map pcN))), some (vI (nI (s + 1) + 1)), none, none] [] (mf I J rd rr Q S' T') := by
            intro S' T' hM he
            have := e S' T' hM
            rw [he] at this
            exact this
          have take : ∀ S' T', MOK (aN A 3) (aB A) S' T' → rfN (spG A p) (s + 1) = some (s + 1) → K 80 36 [some (vR 20 0 0), some (vI (nI p)), some (vI w), some (vI (ldS A p)), some (vI (nI (s + 1))), some (vI (nI (pcN (s + 1)))), some (vI (nI (s + 1) + 1)), none, none] [] (mf I J rd rr Q S' T') := by
            intro S' T' hM he
            have := e S' T' hM
            rw [he] at this
            exact this
          refine And.intro (fun h => absurd h ?_) (fun _ => ?_)
          · rw [mf_I (by decide), h1, two_pow _ h5]
            exact nI_ge (by omega) (by omega)
          · refine CPd_eq (e_bitsOf (s := s + 1) (by omega)) (by decide) rfl ?_
            have hpc0 : 1 ≤ pcN (s + 1) := pcN_1 (s + 1) (by omega) (by omega)
            have hpc5 : pcN (s + 1) ≤ 5 := pcN_5 (s + 1) (by omega)
            have hbit := bit_at (s + 1) (by omega) p (by omega)
            have hgood := sp_good (p := p) h4 h5 (show s + 1 < 2 ^ aN A 0 by omega)
            have less : rfN (spG A p) (s + 1) = (if spG A p (s + 1) = true then some (s + 1) else rfN (spG A p) s) → K 80 79 [some (vR 20 0 0), some (vI (nI p)), some (vI w), some (vI (ldS A p)), some (vI (opI (rfN (spG A p) s))), some (vI (opI ((rfN (spG A p) s).map pcN))), some (vI (nI (s + 1))), some (vI (nI (pcN (s + 1)))), some (vI 1)] [] (mf I J rd rr Q S' T') := by
              intro hr
              refine hK.1 [(36, [true, true, true, true, true, true, true, false, false])] 60 _ _ _ _ _ ?_
              refine And.intro (fun h9 => ?_) (fun h9 => ?_)
              · rw [hbit] at h9
                show K 80 36 _ _ _
                refine skip S' T' hM ?_
                rw [hr, if_neg]
                intro q
                rw [(hgood.mp q).1] at h9
                exact absurd rfl h9
              · rw [hbit] at h9
                have ht : (s + 1).testBit p = false := by
                  cases hh : (s + 1).testBit p with
                  | false => rfl
                  | true => rw [hh, if_pos rfl] at h9; exact absurd h9 (by decide)
                refine ⟨nI_ne0 (by omega) (by omega), ?_⟩
                refine CPd_exc (e_isBorne (hC.E ok) hM hWQ (show s + 1 < 32 by omega) (div_le99 hld99 hpc5)) (by decide) rfl (fun y hy => ?_)
                refine And.intro (fun h10 => ?_) (fun h10 => ?_)
                · have h10 := iN_n h10
                  show K 80 36 _ _ _
                  refine skip y.1 y.2 hy ?_
                  rw [hr, if_neg]
                  exact fun q => h10 (hgood.mp q).2
                · have h10 := iN_y h10
                  show K 80 36 _ _ _
                  refine take y.1 y.2 hy ?_
                  rw [hr, if_pos (hgood.mpr ⟨ht, h10⟩)]
            cases hrf : rfN (spG A p) s with
            | none =>
              have hr : rfN (spG A p) (s + 1) = (if spG A p (s + 1) = true then some (s + 1) else none) := by rw [rfN, hrf]
              rw [hrf] at less
              refine And.intro (fun _ => ?_) (fun h => absurd rfl h)
              refine And.intro (fun h => absurd h (by decide)) (fun _ => ?_)
              show K 80 79 _ _ _
              exact less hr
            | some b =>
              have hr : rfN (spG A p) (s + 1) = (if pcN (s + 1) < pcN b ∧ spG A p (s + 1) = true then some (s + 1) else some b) := by rw [rfN, hrf]
              have hb := best_rf (g := spG A p) s
              rw [hrf] at hb less skip
              have hb : (1 ≤ b ∧ b < s + 1 ∧ spG A p b = true) ∧ _ := hb
              have hb5 : pcN b ≤ 5 := pcN_5 b (by omega)
              have hne : ¬ opI (some b) = -1 := by
                intro e
                have e : nI b = -1 := e
                have := congrArg Int32.toInt e
                rw [nI_toInt (by omega)] at this
                have h5' : (-1 : Int32).toInt = -1 := by decide
                omega
              refine And.intro (fun h => absurd h hne) (fun _ => ?_)
              refine And.intro (fun h8 => ?_) (fun h8 => ?_)
              · refine And.intro (fun _ => ?_) (fun h => absurd rfl h)
                show K 80 36 _ _ _
                refine skip S' T' hM ?_
                rw [hr, if_neg]
                exact fun q => absurd h8 (nI_ge q.1 (by omega))
              · refine And.intro (fun h => absurd h (by decide)) (fun _ => ?_)
                show K 80 79 _ _ _
                refine less ?_
                have hlt : pcN (s + 1) < pcN b := Classical.byContradiction fun q => h8 (nI_le (by omega) (by omega))
                rw [hr]
                by_cases hg : spG A p (s + 1) = true
                · rw [if_pos ⟨hlt, hg⟩, if_pos hg]
                · rw [if_neg (fun q => hg q.2), if_neg hg]
      show K 80 36 _ _ _
      exact loop (2 ^ aN A 0 - 1) 0 u.1 u.2 (by omega) hu
    · rw [if_neg (fun q => iN_n h7 q.2)]
      exact ⟨rfl, (I, Q, S, T), rfl, rfl, hC, frM.r⟩
end T38
