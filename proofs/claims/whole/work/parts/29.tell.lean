/-! tell, day -/
section T5
variable {G : GT} {l : Launch} {I : HI} {J : HJ} {rd : Option AO} {rr : Nat → Nat} {A : ST}
theorem mk_nf {v : Nat} {P : PP} {O : Nat → Nat → Nat → Int32} : nf I J rd rr v P O = mkH (setO (setP I v P) O) J rd rr := rfl
theorem asB_Ag (h : Ag (aN A 0) (I 19 0) (aP A)) : aslS (I 19 0) (aN A 0) = asl A := asl_Ag _ _ h (Nat.le_refl _)
def twoC (A : ST) (x y : Int32) : Prop := (0 ≤ x ∧ x < nI (aN A 0)) ∧ (0 ≤ y ∧ y < nI (aN A 0)) ∧ x ≠ y
def tellP (A : ST) (x y : Int32) : PP := tellS (bO A) (dy A) (asl A) (aP A) x.toNatClampNeg y.toNatClampNeg
def tellR (A : ST) (x y : Int32) : Int32 := if (0 ≤ x ∧ x < nI (aN A 0)) ∧ (0 ≤ y ∧ y < nI (aN A 0)) ∧ x ≠ y then
  (if aP A x.toNatClampNeg 6 = 1 ∨ aP A y.toNatClampNeg 6 = 1 then -3 else tellP A x y y.toNatClampNeg 2) else -2
def tellA (A : ST) (x y : Int32) : ST := if (0 ≤ x ∧ x < nI (aN A 0)) ∧ (0 ≤ y ∧ y < nI (aN A 0)) ∧ x ≠ y then
  (if aP A x.toNatClampNeg 6 = 1 ∨ aP A y.toNatClampNeg 6 = 1 then A else stP A (tellP A x y)) else A
theorem tell_0 {B : BT} {d s : Int32} {P : PP} {t o p : Nat} : tellS B d s P t o p 0 = P p 0 := by
  unfold tellS
  rw [upP_a (by decide), upP_a (by decide), upP_a (by decide)]
theorem ok_tell {x y : Int32} (ok : OKA A) : OKA (tellA A x y) := by
  unfold tellA
  split
  · split
    · exact ok
    · exact ok.P (tell_WF ok.1.2.2.2.2) (fun p _ => tell_0)
  · exact ok
theorem c_tell {x y : Int32} (ok : OKA A) : CC G l 81 5 [vI x, vI y] A (vI (tellR A x y)) (tellA A x y) := by
  intro I J rd rr hC
  obtain ⟨h1, h2, h3, h4⟩ := hC.1
  have h5 := ok.1.1
  have hB := hC.B ok
  have hb := (hC.W ok).b
  refine Ev_go iC_tell rfl rfl rfl ⟨Nat.le_refl _, Nat.le_refl _⟩ (fun K hK => hK.1 [] 120 _ _ _ _ _ ?_)
  unfold tellR tellA
  refine CPd_eq e_areTwo (by decide) rfl ?_
  rw [h1]
  refine And.intro (fun h6 => ?_) (fun h6 => ?_)
  · have hc := iN_y h6
    obtain ⟨p, hp, rfl⟩ := nI_ex hc.2.1.1 hc.2.1.2 (by omega)
    obtain ⟨q, hq, rfl⟩ := nI_ex hc.2.2.1 hc.2.2.2 (by omega)
    have hcc : (0 ≤ nI p ∧ nI p < nI (aN A 0)) ∧ (0 ≤ nI q ∧ nI q < nI (aN A 0)) ∧ nI p ≠ nI q := ⟨hc.2.1, hc.2.2, hc.1⟩
    rw [if_pos hcc, if_pos hcc, nI_clamp (n := p) (by omega), nI_clamp (n := q) (by omega)]
    show vp_in _ _ ∧ _
    refine ⟨nI_in (N := 5) (by omega) (by decide), nI_in (N := 5) (by omega) (by decide), fun z1 => ?_⟩
    rw [nI_clamp (n := p) (by omega), getI_mk] at z1
    rw [nI_clamp (n := p) (by omega), getI_mk]
    have e6 : ∀ p, p < aN A 0 → I 19 0 p 6 = aP A p 6 := fun p hp => h4 p hp 6 (by omega)
    refine And.intro (fun h7 => ?_) (fun h7 => ?_)
    · have hs : aP A p 6 = 1 := by rw [← e6 p hp]; exact z1.resolve_left h7
      rw [if_pos (Or.inl hs), if_pos (Or.inl hs)]
      exact ⟨rfl, (I, J, rd, rr), rfl, rfl, hC, fun k hk => ⟨rfl, rfl⟩⟩
    · refine fun z2 => ?_
      rw [nI_clamp (n := q) (by omega), getI_mk] at z2
      rw [nI_clamp (n := q) (by omega), getI_mk]
      refine And.intro (fun h8 => ?_) (fun h8 => ?_)
      · have hs : ¬ (aP A p 6 = 1 ∨ aP A q 6 = 1) := by
          rw [← e6 p hp, ← e6 q hq, h7, h8]
          decide
        rw [if_neg hs, if_neg hs]
        rw [nf_of (v := 0)]
        refine c_asleepCount h1 h5 hb (by decide) ?_
        refine CPd_ex (e_tellTo hB) (by decide) rfl (fun O => ?_)
        refine ⟨rfl, (setO (setP I 0 (tellS (bO A) (I 17 0 0 2) (aslS (I 19 0) (aN A 0)) (I 19 0) p q)) O, J, rd, rr), ?_, rfl, ?_, ?_⟩
        · rw [nf_P, h2, asB_Ag h4]
          unfold tellP
          rw [nI_clamp (n := p) (by omega), nI_clamp (n := q) (by omega)]
          exact congrArg (fun z => some (vI z)) (tell_Ag h4 hp hq q hq 2 (by omega))
        · refine CF.O (hC.P ?_)
          rw [h2, asB_Ag h4]
          unfold tellP
          rw [nI_clamp (n := p) (by omega), nI_clamp (n := q) (by omega)]
          exact tell_Ag h4 hp hq
        · intro k hk
          exact ⟨by show setO _ _ k = I k; rw [setO_k (by omega), setP_k (by omega)], rfl⟩
      · have hs : aP A q 6 = 1 := by rw [← e6 q hq]; exact z2.resolve_left h8
        have hs' : aP A p 6 = 1 ∨ aP A q 6 = 1 := Or.inr hs
        rw [if_pos hs', if_pos hs']
        exact ⟨rfl, (I, J, rd, rr), rfl, rfl, hC, fun k hk => ⟨rfl, rfl⟩⟩
  · have hc : ¬ ((0 ≤ x ∧ x < nI (aN A 0)) ∧ (0 ≤ y ∧ y < nI (aN A 0)) ∧ x ≠ y) := fun q => iN_n h6 ⟨q.2.2, q.1, q.2.1⟩
    rw [if_neg hc, if_neg hc]
    exact ⟨rfl, (I, J, rd, rr), rfl, rfl, hC, fun k hk => ⟨rfl, rfl⟩⟩
end T5
