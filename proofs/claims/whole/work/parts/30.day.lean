section T6
variable {G : GT} {l : Launch} {I : HI} {J : HJ} {rd : Option AO} {rr : Nat → Nat} {A : ST}
theorem m_tell {x y : Int32} (ok : OKA A) : MC G l 175 100 [vI x, vI y] A (vI (tellR A x y)) (tellA A x y) := by
  intro I J rd rr Q S T hC
  obtain ⟨h1, h2, h3, h4⟩ := hC.1
  have h5 := ok.1.1
  refine Ev_go iM_tell rfl rfl rfl ⟨Nat.le_refl _, Nat.le_refl _⟩ (fun K hK => hK.1 [] 120 _ _ _ _ _ ?_)
  unfold tellR tellA
  refine c_isOne h1 h5 (by decide) ?_
  refine And.intro (fun h6 => ?_) (fun h6 => ?_)
  · have hc : ¬ ((0 ≤ x ∧ x < nI (aN A 0)) ∧ (0 ≤ y ∧ y < nI (aN A 0)) ∧ x ≠ y) := fun q => iN_n h6 q.1
    rw [if_neg hc, if_neg hc]
    exact ⟨rfl, (I, Q, S, T), rfl, rfl, hC, frM.r⟩
  · refine c_isOne h1 h5 (by decide) ?_
    refine And.intro (fun h7 => ?_) (fun h7 => And.intro (fun h8 => ?_) (fun h8 => ?_))
    · have hc : ¬ ((0 ≤ x ∧ x < nI (aN A 0)) ∧ (0 ≤ y ∧ y < nI (aN A 0)) ∧ x ≠ y) := fun q => iN_n h7 q.2.1
      rw [if_neg hc, if_neg hc]
      exact ⟨rfl, (I, Q, S, T), rfl, rfl, hC, frM.r⟩
    · have hcc := And.intro (iN_y h6) (And.intro (iN_y h7) h8)
      obtain ⟨p, hp, rfl⟩ := nI_ex hcc.1.1 hcc.1.2 (by omega)
      obtain ⟨q, hq, rfl⟩ := nI_ex hcc.2.1.1 hcc.2.1.2 (by omega)
      have hcc : (0 ≤ nI p ∧ nI p < nI (aN A 0)) ∧ (0 ≤ nI q ∧ nI q < nI (aN A 0)) ∧ nI p ≠ nI q := hcc
      rw [if_pos hcc, if_pos hcc, nI_clamp (n := p) (by omega), nI_clamp (n := q) (by omega)]
      have e6 : ∀ p, p < aN A 0 → Q p 6 = aP A p 6 := fun p hp => h4 p hp 6 (by omega)
      refine c_its rfl (w := 6) rfl (by omega) (by decide) (by decide) ?_
      refine And.intro (fun h9 => ?_) (fun h9 => ?_)
      · have hs : aP A p 6 = 1 ∨ aP A q 6 = 1 := Or.inl (by rw [← e6 p hp]; exact h9)
        rw [if_pos hs, if_pos hs]
        exact ⟨rfl, (I, Q, S, T), rfl, rfl, hC, frM.r⟩
      · refine c_its rfl (w := 6) rfl (by omega) (by decide) (by decide) ?_
        refine And.intro (fun h10 => ?_) (fun h10 => ?_)
        · have hs : ¬ (aP A p 6 = 1 ∨ aP A q 6 = 1) := by
            rw [← e6 p hp, ← e6 q hq]
            exact fun z => z.elim h9 h10
          rw [if_neg hs, if_neg hs]
          refine CPd_exc (e_goes (hC.E ok) hC.2.1.2.2 (hC.W ok) hp hq) (by decide) rfl (fun z hz => ?_)
          refine c_its rfl (w := 2) rfl (by omega) (by decide) (by decide) ?_
          have ha : aslS Q (aN A 0) = asl A := asl_Ag _ _ h4 (Nat.le_refl _)
          have hA : Ag (aN A 0) (tellS (aB A (aN A 2)) (nI (aN A 1)) (aslS Q (aN A 0)) Q p q) (tellP A (nI p) (nI q)) := by
            rw [ha]
            unfold tellP
            rw [nI_clamp (n := p) (by omega), nI_clamp (n := q) (by omega)]
            exact tell_Ag h4 hp hq
          refine ⟨rfl, (I, tellS (aB A (aN A 2)) (nI (aN A 1)) (aslS Q (aN A 0)) Q p q, z.1, z.2), ?_, rfl, (hC.M hz).P hA, frM.r⟩
          exact congrArg (fun z => some (vI z)) (hA q hq 2 (by omega))
        · have hs : aP A p 6 = 1 ∨ aP A q 6 = 1 := Or.inr (by rw [← e6 q hq]; exact h10)
          rw [if_pos hs, if_pos hs]
          exact ⟨rfl, (I, Q, S, T), rfl, rfl, hC, frM.r⟩
    · have hc : ¬ ((0 ≤ x ∧ x < nI (aN A 0)) ∧ (0 ≤ y ∧ y < nI (aN A 0)) ∧ x ≠ y) := fun q => q.2.2 h8
      rw [if_neg hc, if_neg hc]
      exact ⟨rfl, (I, Q, S, T), rfl, rfl, hC, frM.r⟩
def dayP (A : ST) : PP := dayS (bO A) (dy A) (aN A 0) (aP A)
def dayR (A : ST) : Int32 := if aN A 1 < 999 then slpB (dayP A) (aN A 0) else -3
def dayA (A : ST) : ST := if aN A 1 < 999 then stP (stN A 1 (aN A 1 + 1)) (dayP A) else A
theorem day_0 {B : BT} {P : PP} {m p : Nat} {d : Int32} : dayS B d m P p 0 = P p 0 := by
  rw [dayS, slw_a (by decide), acts_a (by decide) (by decide) (by decide)]
theorem ok_day (ok : OKA A) : OKA (dayA A) := by
  unfold dayA
  split
  · exact (ok.day (x := aN A 1 + 1) (by omega)).P (day_WF ok.1.2.2.2.2) (fun p _ => day_0)
  · exact ok
theorem nI_lt_iff {a b : Nat} (ha : a < 2 ^ 31) (hb : b < 2 ^ 31) : nI a < nI b ↔ a < b := by rw [nI_lt' ha hb]
theorem c_day (ok : OKA A) : CC G l 84 5 [] A (vI (dayR A)) (dayA A) := by
  intro I J rd rr hC
  obtain ⟨h1, h2, h3, h4⟩ := hC.1
  have h5 := ok.1.1
  have hd := ok.1.2.1
  have hB := hC.B ok
  have hb := (hC.W ok).b
  refine Ev_go iC_day rfl rfl rfl ⟨Nat.le_refl _, Nat.le_refl _⟩ (fun K hK => hK.1 [] 120 _ _ _ _ _ ?_)
  unfold dayR dayA
  refine And.intro (fun h6 => ?_) (fun h6 => ?_)
  · rw [getI_mk, h2] at h6
    have hc : aN A 1 < 999 := (nI_lt_iff (b := 999) (by omega) (by decide)).mp h6
    rw [if_pos hc, if_pos hc]
    rw [nf_of (v := 0)]
    refine CPd_ex (e_passDay hB h1 h5 hb) (by decide) rfl (fun O => ?_)
    have hA : Ag (aN A 0) (dayS (aB A (aN A 2)) (I 17 0 0 2) (aN A 0) (I 19 0)) (dayP A) := by
      rw [h2]; exact day_Ag h4 h5
    have hm : (setO (setP (upI I 17 0 0 2 (I 17 0 0 2 + 1)) 0 (dayS (aB A (aN A 2)) (I 17 0 0 2) (aN A 0) (I 19 0))) O) 17 0 0 1 = nI (aN A 0) := by
      rw [setO_k (by decide), setP_k (by decide), upI_at, if_neg (by simp)]
      exact h1
    refine CPd_eq (e_asleepBits (d := 0) hm h5) (by decide) rfl ?_
    refine ⟨rfl, (_, J, rd, rr), ?_, rfl, ?_, ?_⟩
    · rw [setO_k (by decide), setP_19, slpB_Ag _ _ hA (Nat.le_refl _)]
    · refine CF.O ?_
      rw [h2, show nI (aN A 1) + 1 = nI (aN A 1 + 1) from (nI_succ _).symm]
      rw [h2] at hA
      exact (hC.day (x := aN A 1 + 1)).P hA
    · intro k hk
      exact ⟨by show setO _ _ k = I k; rw [setO_k (by omega), setP_k (by omega), up17 (by omega)], rfl⟩
  · rw [getI_mk, h2] at h6
    have hc : ¬ aN A 1 < 999 := fun q => h6 ((nI_lt_iff (b := 999) (by omega) (by decide)).mpr q)
    rw [if_neg hc, if_neg hc]
    exact ⟨rfl, (I, J, rd, rr), rfl, rfl, hC, fun k hk => ⟨rfl, rfl⟩⟩
theorem m_day (ok : OKA A) : MC G l 177 100 [] A (vI (dayR A)) (dayA A) := by
  intro I J rd rr Q S T hC
  obtain ⟨h1, h2, h3, h4⟩ := hC.1
  have h5 := ok.1.1
  have hd := ok.1.2.1
  refine Ev_go iM_day rfl rfl rfl ⟨Nat.le_refl _, Nat.le_refl _⟩ (fun K hK => hK.1 [] 120 _ _ _ _ _ ?_)
  unfold dayR dayA
  refine And.intro (fun h6 => ?_) (fun h6 => ?_)
  · rw [mf_I (by decide), h2] at h6
    have hc : aN A 1 < 999 := by
      have : aN A 1 ≠ 999 := fun e => h6 (by rw [e]; rfl)
      omega
    rw [if_pos hc, if_pos hc]
    refine CPd_exc (e_passes (hC.E ok) hC.2.1.2.2 (hC.W ok)) (by decide) rfl (fun z hz => ?_)
    have hA : Ag (aN A 0) (dayS (aB A (aN A 2)) (nI (aN A 1)) (aN A 0) Q) (dayP A) := day_Ag h4 h5
    refine c_asleepSet (m := aN A 0) (by rw [up20t (by decide)]; exact h1) h5 (day_WF (hC.W ok)).b (by decide) ?_
    refine ⟨rfl, (_, _, z.1, z.2), ?_, rfl, ?_, frM.up (by decide)⟩
    · rw [slpB_Ag _ _ hA (Nat.le_refl _)]
    · exact ((hC.M hz).day (x := aN A 1 + 1)).P hA
  · rw [mf_I (by decide), h2] at h6
    have hc : ¬ aN A 1 < 999 := by
      intro q
      have := congrArg Int32.toInt h6
      rw [nI_toInt (by omega)] at this
      have h5' : (999 : Int32).toInt = 999 := by decide
      omega
    rw [if_neg hc, if_neg hc]
    exact ⟨rfl, (I, Q, S, T), rfl, rfl, hC, frM.r⟩
end T6
