section T26
variable {G : GT} {l : Launch} {I : HI} {J : HJ} {rd : Option AO} {rr : Nat → Nat} {A : ST}
/-- items from lo to hi of the place b on are those of the place a on -/
def wrC (I : HI) (a b lo hi : Nat) : HI := fun k i j t => if k = 35 ∧ i = 0 ∧ j = 0 ∧ b + lo ≤ t ∧ t < b + hi then I 35 0 0 (a + (t - b)) else I k i j t
theorem wrC_0 {a b lo : Nat} : wrC I a b lo lo = I := by
  funext k i j t
  unfold wrC
  rw [if_neg (by omega)]
theorem wrC_k {a b lo hi k : Nat} (h : k ≠ 35) : wrC I a b lo hi k = I k := by
  funext i j t
  unfold wrC
  rw [if_neg (by omega)]
theorem wrC_at {a b lo hi t : Nat} : wrC I a b lo hi 35 0 0 t = if b + lo ≤ t ∧ t < b + hi then I 35 0 0 (a + (t - b)) else I 35 0 0 t := by
  unfold wrC
  simp
theorem wrC_up {a b hi : Nat} (h : ¬ (b ≤ a + hi ∧ a + hi < b + hi)) : upI (wrC I a b 0 hi) 35 0 0 (b + hi) (wrC I a b 0 hi 35 0 0 (a + hi)) = wrC I a b 0 (hi + 1) := by
  rw [wrC_at, if_neg (by omega)]
  funext k i j t
  unfold upI wrC
  by_cases hk : k = 35 ∧ i = 0 ∧ j = 0
  · obtain ⟨rfl, rfl, rfl⟩ := hk
    by_cases ht : t = b + hi
    · rw [if_pos ⟨rfl, rfl, rfl, ht⟩, if_pos (by omega), show a + (t - b) = a + hi by omega]
    · rw [if_neg (fun q => ht q.2.2.2)]
      by_cases h2 : b + 0 ≤ t ∧ t < b + hi
      · rw [if_pos ⟨rfl, rfl, rfl, h2⟩, if_pos (by omega)]
      · rw [if_neg (fun q => h2 q.2.2.2), if_neg (by omega)]
  · rw [if_neg (fun q => hk ⟨q.1, q.2.1, q.2.2.1⟩), if_neg (fun q => hk ⟨q.1, q.2.1, q.2.2.1⟩), if_neg (fun q => hk ⟨q.1, q.2.1, q.2.2.1⟩)]
theorem wrC_dn {a b lo hi : Nat} (h : a < b) (hl : lo < hi) : upI (wrC I a b (lo + 1) hi) 35 0 0 (b + lo) (wrC I a b (lo + 1) hi 35 0 0 (a + lo)) = wrC I a b lo hi := by
  rw [wrC_at, if_neg (by omega)]
  funext k i j t
  unfold upI wrC
  by_cases hk : k = 35 ∧ i = 0 ∧ j = 0
  · obtain ⟨rfl, rfl, rfl⟩ := hk
    by_cases ht : t = b + lo
    · rw [if_pos ⟨rfl, rfl, rfl, ht⟩, if_pos (by omega), show a + (t - b) = a + lo by omega]
    · rw [if_neg (fun q => ht q.2.2.2)]
      by_cases h2 : b + (lo + 1) ≤ t ∧ t < b + hi
      · rw [if_pos ⟨rfl, rfl, rfl, h2⟩, if_pos (by omega)]
      · rw [if_neg (fun q => h2 q.2.2.2), if_neg (by omega)]
  · rw [if_neg (fun q => hk ⟨q.1, q.2.1, q.2.2.1⟩), if_neg (fun q => hk ⟨q.1, q.2.1, q.2.2.1⟩), if_neg (fun q => hk ⟨q.1, q.2.1, q.2.2.1⟩)]
theorem MF.copy {Q : PP} {S : HI} {T : HJ} {s i o j n zs zo : Nat} (h : MF G l I Q S T A) (hs : s < 4) (ho : o < 4) (hs0 : aS A s 0 ≠ -1) (ho0 : aS A o 0 ≠ -1) (es : aS A s 1 = nI zs) (hzs : zs ≤ 40) (hi : i + n ≤ zs) (eo : aS A o 1 = nI zo) (hzo : zo ≤ 40) (hj : j + n ≤ zo) : MF G l (wrC I (40 * s + i) (40 * o + j) 0 n) Q S T (stS A o (copF A s i o j n)) := by
  obtain ⟨g1, g2, g3, g4⟩ := (h.2.2.2.2 s hs).2 hs0
  obtain ⟨f1, f2, f3, f4⟩ := (h.2.2.2.2 o ho).2 ho0
  have e0 : copF A s i o j n 0 = aS A o 0 := by unfold copF; rw [if_neg (by omega)]
  have e1 : copF A s i o j n 1 = aS A o 1 := by unfold copF; rw [if_neg (by omega)]
  refine h.S (fun k h1 h2 => wrC_k (by omega)) (fun s' hs' hne => ⟨by rw [wrC_k (by decide)], by rw [wrC_k (by decide)], by rw [wrC_k (by decide)], fun t ht => ?_⟩) ⟨fun e => absurd (e0.symm.trans e) ho0, fun _ => ⟨?_, ?_, ?_, fun t q hq he ht => ?_⟩⟩
  · rw [wrC_at, if_neg (by omega)]
  · rw [wrC_k (by decide)]; exact f1
  · rw [wrC_k (by decide), e0]; exact f2
  · rw [wrC_k (by decide), e1]; exact f3
  · rw [e1] at he
    have hqz : q = zo := by
      rw [eo] at he
      have := congrArg Int32.toInt he
      rw [nI_toInt (by omega), nI_toInt (by omega)] at this
      omega
    subst hqz
    rw [wrC_at]
    unfold copF
    by_cases hc : j ≤ t ∧ t < j + n
    · rw [if_pos (by omega), if_pos (by omega)]
      have := g4 (i + (t - j)) zs hzs es (by omega)
      rw [show 40 * s + i + (40 * o + t - (40 * o + j)) = 40 * s + (i + (t - j)) by omega, this]
      exact congrArg (aS A s) (by omega)
    · rw [if_neg (by omega), if_neg (by omega)]
      exact f4 t q hq he ht
theorem m_copy {s i o j n : Int32} (ok : OKA A) : MC G l 207 100 [vI s, vI i, vI o, vI j, vI n] A (vI (copyR A s i o j n)) (copyA A s i o j n) := by
  intro I J rd rr Q S T hC
  refine Ev_go iM_copy rfl rfl rfl ⟨Nat.le_refl _, Nat.le_refl _⟩ (fun K hK => ?_)
  refine hK.1 [(121, [true, true, true, true, true, true, true, true, false])] 150 _ _ _ _ _ ?_
  unfold copyR copyA at hK
  unfold copyR copyA
  refine k_misSheet (by decide) ?_
  refine And.intro (fun h6 => ?_) (fun h6 => ?_)
  · rw [if_neg (fun q => iN_n h6 q.1), if_neg (fun q => iN_n h6 q.1)]
    exact ⟨rfl, (I, Q, S, T), rfl, rfl, hC, frM.r⟩
  · refine k_misSheet (by decide) ?_
    refine And.intro (fun h7 => ?_) (fun h7 => ?_)
    · have hc := And.intro (iN_y h6) (iN_y h7)
      rw [if_pos hc, if_pos hc] at hK ⊢
      obtain ⟨s, hs, rfl⟩ := rg_of (n := 3) hc.1.1 hc.1.2 (by decide)
      obtain ⟨o, ho, rfl⟩ := rg_of (n := 3) hc.2.1 hc.2.2 (by decide)
      have hhs := hC.2.2.2.2 s (by omega)
      have hho := hC.2.2.2.2 o (by omega)
      obtain ⟨zs, hzs, es⟩ := sz_ex ok (s := s) (by omega)
      obtain ⟨zo, hzo, eo⟩ := sz_ex ok (s := o) (by omega)
      rw [nI_clamp (n := s) (by omega), nI_clamp (n := o) (by omega), es, eo, nI_clamp (n := zs) (by omega), nI_clamp (n := zo) (by omega)] at hK ⊢
      refine ⟨nI_in (N := 4) (by omega) (by decide), fun _ => ?_⟩
      rw [nI_clamp (n := s) (by omega), mf_I (by simp)]
      refine And.intro (fun h8 => ?_) (fun h8 => ?_)
      · have hm : aS A s 0 = -1 ∨ aS A o 0 = -1 := by
          refine Or.inl (Classical.byContradiction fun e => ?_)
          have := (hhs.2 e).1
          rw [h8] at this
          exact absurd this (by decide)
        rw [if_pos hm, if_pos hm]
        exact ⟨rfl, (I, Q, S, T), rfl, rfl, hC, frM.r⟩
      · have hs0 : aS A s 0 ≠ -1 := fun e => h8 (hhs.1 e)
        refine ⟨nI_in (N := 4) (by omega) (by decide), fun _ => ?_⟩
        rw [nI_clamp (n := o) (by omega), mf_I (by simp)]
        refine And.intro (fun h9 => ?_) (fun h9 => ?_)
        · have ho0 : aS A o 0 ≠ -1 := fun e => h9 (hho.1 e)
          have hm : ¬ (aS A s 0 = -1 ∨ aS A o 0 = -1) := fun q => q.elim hs0 ho0
          rw [if_neg hm, if_neg hm] at hK ⊢
          obtain ⟨g1, g2, g3, g4⟩ := hhs.2 hs0
          obtain ⟨f1, f2, f3, f4⟩ := hho.2 ho0
          show vp_in _ _ ∧ _
          refine ⟨nI_in (N := 4) (by omega) (by decide), nI_in (N := 4) (by omega) (by decide), ?_⟩
          rw [nI_clamp (n := s) (by omega), nI_clamp (n := o) (by omega), mf_I (by simp), mf_I (by simp), g2, f2]
          refine And.intro (fun h10 => ?_) (fun h10 => ?_)
          · rw [if_pos h10, if_pos h10] at hK ⊢
            have bad : ¬ (rmP zs i n ∧ rmP zo j n) → ∃ x : XM, some (vI (-12)) = some (vI (if rmP zs i n ∧ rmP zo j n then n else -12)) ∧ mf I J rd rr Q S T = mf x.1 J rd rr x.2.1 x.2.2.1 x.2.2.2 ∧ MF G l x.1 x.2.1 x.2.2.1 x.2.2.2 (if rmP zs i n ∧ rmP zo j n then stS A o (copF A s i.toNatClampNeg o j.toNatClampNeg n.toNatClampNeg) else A) ∧ frM I x.1 := by
              intro hb
              rw [if_neg hb, if_neg hb]
              exact ⟨(I, Q, S, T), rfl, rfl, hC, frM.r⟩
            refine And.intro (fun h11 => ⟨rfl, bad (fun q => ?_)⟩) (fun h11 => And.intro (fun h12 => ⟨rfl, bad (fun q => ?_)⟩) (fun h12 => And.intro (fun h13 => ⟨rfl, bad (fun q => ?_)⟩) (fun h13 => ?_)))
            · have := q.1.2.1; grind
            · have := q.1.1; grind
            · have := q.2.1; grind
            have n0 : 0 ≤ n := by grind
            have i0 : 0 ≤ i := by grind
            have j0 : 0 ≤ j := by grind
            show vp_in _ _ ∧ _
            refine ⟨nI_in (N := 4) (by omega) (by decide), ?_⟩
            rw [nI_clamp (n := s) (by omega), mf_I (by simp), g3, es]
            refine And.intro (fun h14 => ⟨rfl, bad (fun q => ?_)⟩) (fun h14 => ?_)
            · have := (rm_m hzs n0).mpr q.1.2.2; grind
            show vp_in _ _ ∧ _
            refine ⟨nI_in (N := 4) (by omega) (by decide), ?_⟩
            rw [nI_clamp (n := o) (by omega), mf_I (by simp), f3, eo]
            refine And.intro (fun h15 => ?_) (fun h15 => ⟨rfl, bad (fun q => h15 ((rm_m hzo n0).mpr q.2.2.2))⟩)
            have hr : rmP zs i n ∧ rmP zo j n := ⟨⟨i0, n0, (rm_m hzs n0).mp (by grind)⟩, ⟨j0, n0, (rm_m hzo n0).mp h15⟩⟩
            rw [if_pos hr, if_pos hr] at hK
            clear bad
            obtain ⟨a, b, rfl, rfl, hab⟩ := rm_ex hr.1 hzs
            obtain ⟨c, b', rfl, hb', hcb⟩ := rm_ex hr.2 hzo
            have hbb : b = b' := by
              have := congrArg Int32.toInt hb'
              rw [nI_toInt (by omega), nI_toInt (by omega)] at this
              omega
            subst hbb
            rw [nI_clamp (n := a) (by omega), nI_clamp (n := b) (by omega), nI_clamp (n := c) (by omega)] at hK
            have fin : ∀ (u x : Int32) (W : HI), W = wrC I (40 * s + a) (40 * o + c) 0 b → K 80 121 [some (vR 20 0 0), some (vI (nI s)), some (vI (nI a)), some (vI (nI o)), some (vI (nI c)), some (vI (nI b)), some (vI u), some (vI (nI b)), none] [] (mf W J rd rr Q S T) := by
              rintro u x W rfl
              refine hK.1 [] 100 _ _ _ _ _ ?_
              refine And.intro (fun _ => ?_) (fun h => absurd (nI_le (Nat.le_refl _) (by omega)) h)
              exact ⟨rfl, (_, Q, S, T), rfl, rfl, hC.copy (by omega) (by omega) hs0 ho0 es hzs hab eo hzo hcb, fun k hk => wrC_k (by omega)⟩
            have ea : ∀ q, (40 : Int32) * nI s + nI a + nI q = nI (40 * s + a + q) := fun q => by rw [nI_40, nI_plus]
            have ec : ∀ q, (40 : Int32) * nI o + nI c + nI q = nI (40 * o + c + q) := fun q => by rw [nI_40, nI_plus]
            have up : ¬ (s = o ∧ a < c) → ∀ j k, k + j = b → K 80 121 [some (vR 20 0 0), some (vI (nI s)), some (vI (nI a)), some (vI (nI o)), some (vI (nI c)), some (vI (nI b)), some (vI 0), some (vI (nI k)), none] [] (mf (wrC I (40 * s + a) (40 * o + c) 0 k) J rd rr Q S T) := by
              intro hno j
              induction j with
              | zero =>
                intro k hk
                rw [show k = b by omega]
                exact fin 0 0 _ rfl
              | succ j ih =>
                intro k hk
                refine hK.1 [(121, [true, true, true, true, true, true, true, true, false])] 100 _ _ _ _ _ ?_
                refine And.intro (fun h => absurd h (nI_ge (by omega) (by omega))) (fun _ => And.intro (fun _ => ?_) (fun h => absurd rfl h))
                show vp_in _ _ ∧ vp_in _ _ ∧ _
                rw [ea, ec]
                refine ⟨nI_in (N := 160) (by omega) (by decide), nI_in (N := 160) (by omega) (by decide), ?_⟩
                rw [nI_clamp (n := 40 * s + a + k) (by omega), nI_clamp (n := 40 * o + c + k) (by omega), mf_I (by simp), mf_wI (by simp), wrC_up (by omega)]
                show K 80 121 _ _ _
                exact Kc (ih (k + 1) (by omega)) (by rw [nI_succ]; rfl) rfl
            have dn : s = o ∧ a < c → ∀ j k, k + j = b → K 80 121 [some (vR 20 0 0), some (vI (nI s)), some (vI (nI a)), some (vI (nI o)), some (vI (nI c)), some (vI (nI b)), some (vI 1), some (vI (nI k)), none] [] (mf (wrC I (40 * s + a) (40 * o + c) j b) J rd rr Q S T) := by
              intro hyes j
              induction j with
              | zero =>
                intro k hk
                rw [show k = b by omega]
                exact fin 1 0 _ rfl
              | succ j ih =>
                intro k hk
                refine hK.1 [(121, [true, true, true, true, true, true, true, true, false])] 100 _ _ _ _ _ ?_
                refine And.intro (fun h => absurd h (nI_ge (by omega) (by omega))) (fun _ => And.intro (fun h => absurd h (by decide)) (fun _ => ?_))
                have ej : nI b - 1 - nI k = nI j := by
                  rw [show (1 : Int32) = nI 1 from rfl, nI_minus (by omega), nI_minus (by omega)]
                  exact congrArg nI (by omega)
                show vp_in _ _ ∧ vp_in _ _ ∧ _
                rw [ej, ea, ec]
                refine ⟨nI_in (N := 160) (by omega) (by decide), nI_in (N := 160) (by omega) (by decide), ?_⟩
                rw [nI_clamp (n := 40 * s + a + j) (by omega), nI_clamp (n := 40 * o + c + j) (by omega), mf_I (by simp), mf_wI (by simp), wrC_dn (by omega) (by omega)]
                show K 80 121 _ _ _
                exact Kc (ih (k + 1) (by omega)) (by rw [nI_succ]; rfl) rfl
            have hso : ∀ x, x < 4 → ∀ y, y < 4 → (nI x = nI y) → x = y := by decide
            refine And.intro (fun h16 => ?_) (fun h16 => And.intro (fun h17 => ?_) (fun h17 => ?_))
            · show K 80 121 _ _ _
              refine Kc (up (fun q => h16 (by rw [q.1])) b 0 (by omega)) rfl ?_
              rw [wrC_0]
            · show K 80 121 _ _ _
              refine Kc (up (fun q => absurd h17 (nI_ge q.2 (by omega))) b 0 (by omega)) rfl ?_
              rw [wrC_0]
            · show K 80 121 _ _ _
              have hac : a < c := by
                refine Classical.byContradiction fun e => h17 (nI_le (by omega) (by omega))
              refine Kc (dn ⟨hso s (by omega) o (by omega) h16, hac⟩ b 0 (by omega)) rfl ?_
              rw [wrC_0]
          · rw [if_neg h10, if_neg h10]
            exact ⟨rfl, (I, Q, S, T), rfl, rfl, hC, frM.r⟩
        · have hm : aS A s 0 = -1 ∨ aS A o 0 = -1 := by
            refine Or.inr (Classical.byContradiction fun e => ?_)
            have := (hho.2 e).1
            rw [h9] at this
            exact absurd this (by decide)
          rw [if_pos hm, if_pos hm]
          exact ⟨rfl, (I, Q, S, T), rfl, rfl, hC, frM.r⟩
    · rw [if_neg (fun q => iN_n h7 q.2), if_neg (fun q => iN_n h7 q.2)]
      exact ⟨rfl, (I, Q, S, T), rfl, rfl, hC, frM.r⟩
end T26
