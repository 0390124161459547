/-! thinking ahead: the class in its thought, the reference in place and back -/
section T10
variable {G : GT} {l : Launch} {I : HI} {J : HJ} {rd : Option AO} {rr : Nat → Nat} {A : ST}
def tI (I : HI) (m d : Int32) : HI := upI (upI I 17 1 0 1 m) 17 1 0 2 d
def TF (I : HI) (J : HJ) (rd : Option AO) (rr : Nat → Nat) (A : ST) (d : Int32) (P : PP) (O : Nat → Nat → Nat → Int32) : AH := nf (tI I (nI (aN A 0)) d) J rd (va_up rr 1 (aN A 2)) 1 P O
theorem tI_k {m d : Int32} {k : Nat} (h : k ≠ 17) : tI I m d k = I k := by unfold tI; rw [up17 h, up17 h]
theorem tI_17 {m d : Int32} {u t : Nat} (h : u ≠ 1) : tI I m d 17 u 0 t = I 17 u 0 t := by unfold tI; simp [upI, h]
theorem tI_1 {m d : Int32} : tI I m d 17 1 0 1 = m := by unfold tI; simp [upI]
theorem tI_2 {m d : Int32} : tI I m d 17 1 0 2 = d := by unfold tI; simp [upI]
theorem tI_d {m d e : Int32} : upI (tI I m d) 17 1 0 2 e = tI I m e := by unfold tI; rw [upI_upI]
theorem CF.th {m d : Int32} {r : Nat} {P : PP} {O : Nat → Nat → Nat → Int32} (h : CF I rr A) : CF (setO (setP (tI I m d) 1 P) O) (va_up rr 1 r) A := by
  refine CF.O ?_
  unfold CF RuK
  rw [setP_19' (show (0 : Nat) ≠ 1 by decide), setP_19' (show (2 : Nat) ≠ 1 by decide), setP_k (k := 17) (by decide), setP_k (k := 0) (by decide), setP_k (k := 13) (by decide), setP_k (k := 12) (by decide), setP_k (k := 2) (by decide), setP_k (k := 3) (by decide), setP_k (k := 15) (by decide), setP_k (k := 16) (by decide), setP_k (k := 11) (by decide)]
  rw [tI_k (k := 19) (by decide), tI_k (k := 0) (by decide), tI_k (k := 13) (by decide), tI_k (k := 12) (by decide), tI_k (k := 2) (by decide), tI_k (k := 3) (by decide), tI_k (k := 15) (by decide), tI_k (k := 16) (by decide), tI_k (k := 11) (by decide), tI_17 (by decide), tI_17 (by decide), tI_17 (by decide), tI_17 (by decide)]
  rw [show va_up rr 1 r 0 = rr 0 by simp [va_up], show va_up rr 1 r 2 = rr 2 by simp [va_up]]
  exact h
theorem frC.th {m d : Int32} {P : PP} {O : Nat → Nat → Nat → Int32} : frC I (setO (setP (tI I m d) 1 P) O) J J := fun k hk => ⟨by rw [setO_k (by omega), setP_k (by omega), tI_k (by omega)], rfl⟩
theorem k_think {d : Nat} {post : Option AV → AH → Prop} (hC : CF I rr A) (ok : OKA A) (hd : 1 < d) (k : ∀ P, Ag (aN A 0) P (aP A) → post none (TF I J rd rr A (dy A) P (I 14))) : CPd G l d 80 0 88 [vR 17 1 0, vR 17 0 0] (mkH I J rd rr) post := by
  obtain ⟨h1, h2, h3, h4⟩ := hC.1
  refine CPd_eq (e_vbecome (v := 1) (w := 0) (by decide) h1 ok.1.1) hd rfl ?_
  have e := k (becP (I 19 1) (I 19 0) (aN A 0)) ((bec_Ag _).trans h4)
  unfold TF nf tI at e
  rw [h3, h2]
  have e2 : setO (setP (upI (upI I 17 1 0 1 (nI (aN A 0))) 17 1 0 2 (dy A)) 1 (becP (I 19 1) (I 19 0) (aN A 0))) (I 14) = setP (upI (upI I 17 1 0 1 (nI (aN A 0))) 17 1 0 2 (dy A)) 1 (becP (I 19 1) (I 19 0) (aN A 0)) := by
    have : I 14 = (setP (upI (upI I 17 1 0 1 (nI (aN A 0))) 17 1 0 2 (dy A)) 1 (becP (I 19 1) (I 19 0) (aN A 0))) 14 := by
      rw [setP_k (by decide), up17 (by decide), up17 (by decide)]
    rw [this]
    exact setO_self
  rw [e2] at e
  exact e
theorem tB (hC : CF I rr A) (ok : OKA A) {d : Int32} : RuK (tI I (nI (aN A 0)) d) (va_up rr 1 (aN A 2) 1) (bO A) := by
  rw [show va_up rr 1 (aN A 2) 1 = aN A 2 by simp [va_up]]
  unfold RuK
  rw [tI_k (k := 13) (by decide), tI_k (k := 12) (by decide)]
  exact hC.2.1.2 _ ok.1.2.2.1
theorem t_passDay {d : Nat} {dd : Int32} {P : PP} {O : Nat → Nat → Nat → Int32} {post : Option AV → AH → Prop} (hC : CF I rr A) (ok : OKA A) (hW : WF P (aN A 0)) (hd : 3 < d) (k : ∀ O', post none (TF I J rd rr A (dd + 1) (dayS (bO A) dd (aN A 0) P) O')) : CPd G l d 80 0 85 [vR 17 1 0] (TF I J rd rr A dd P O) post := by
  refine CPd_ex (e_passDay (tB hC ok) tI_1 ok.1.1 hW.b) hd rfl (fun O' => ?_)
  rw [tI_2, tI_d]
  exact k O'
theorem t_passDays {d n : Nat} {dd x : Int32} {P : PP} {O : Nat → Nat → Nat → Int32} {post : Option AV → AH → Prop} (hC : CF I rr A) (ok : OKA A) (hW : WF P (aN A 0)) (hx : x = nI n) (hn : n ≤ 100) (hd : 4 < d) (k : ∀ O', post none (TF I J rd rr A (dd + nI n) (dayN (bO A) dd (aN A 0) P n) O')) : CPd G l d 80 0 90 [vR 17 1 0, vI x] (TF I J rd rr A dd P O) post := by
  refine CPd_ex (e_passDays (tB hC ok) tI_1 ok.1.1 hW.b hx hn) hd rfl (fun O' => ?_)
  rw [tI_2, tI_d]
  exact k O'
theorem t_asleepBits {d : Nat} {dd : Int32} {P : PP} {O : Nat → Nat → Nat → Int32} {post : Option AV → AH → Prop} (ok : OKA A) (hd : 0 < d) (k : post (some (vI (slpB P (aN A 0)))) (TF I J rd rr A dd P O)) : CPd G l d 80 0 65 [vR 17 1 0] (TF I J rd rr A dd P O) post := by
  refine CPd_eq (e_asleepBits (d := 0) (m := aN A 0) (by rw [setO_k (by decide), setP_k (by decide)]; exact tI_1) ok.1.1) hd rfl ?_
  rw [setO_k (by decide), setP_19]
  exact k
theorem t_asleepCount {d : Nat} {dd : Int32} {P : PP} {O : Nat → Nat → Nat → Int32} {post : Option AV → AH → Prop} (ok : OKA A) (hW : WF P (aN A 0)) (hd : 1 < d) (k : post (some (vI (aslS P (aN A 0)))) (TF I J rd rr A dd P O)) : CPd G l d 80 0 64 [vR 17 1 0] (TF I J rd rr A dd P O) post :=
  c_asleepCount tI_1 ok.1.1 hW.b hd k
theorem t_tired {d : Nat} {dd : Int32} {P : PP} {O : Nat → Nat → Nat → Int32} {post : Option AV → AH → Prop} (ok : OKA A) (hd : 0 < d) (k : post (some (vI (sumT P (aN A 0)))) (TF I J rd rr A dd P O)) : CPd G l d 80 0 91 [vR 17 1 0] (TF I J rd rr A dd P O) post := by
  refine CPd_eq (e_tiredTogether (d := 0) (m := aN A 0) (by rw [setO_k (by decide), setP_k (by decide)]; exact tI_1) ok.1.1) hd rfl ?_
  rw [setO_k (by decide), setP_19]
  exact k
theorem TF_P {p a : Nat} {dd : Int32} {P : PP} {O : Nat → Nat → Nat → Int32} : getI (TF I J rd rr A dd P O) 19 1 p a = P p a := nf_P
theorem TF_at {R R' : Int32} {dd : Int32} {P : PP} {O : Nat → Nat → Nat → Int32} (hC : CF I rr A) (h : R = R') : ∃ x : XC, some (vI R) = some (vI R') ∧ TF I J rd rr A dd P O = mkH x.1 x.2.1 x.2.2.1 x.2.2.2 ∧ CF x.1 x.2.2.2 A ∧ frC I x.1 J x.2.1 :=
  ⟨(_, J, rd, _), by rw [h], rfl, hC.th, frC.th⟩
/-! run */ -/
def runP (A : ST) (n : Nat) : PP := dayN (bO A) (dy A) (aN A 0) (aP A) n
def runV (A : ST) (P : PP) (p : Nat) (w : Int32) : Int32 := if w = 0 then P p 2 else if w = 1 then P p 3 else if w = 2 then slpB P (aN A 0) else if w = 3 then sumT P (aN A 0) else P p 5
def runR (A : ST) (one n w : Int32) : Int32 := if (0 ≤ one ∧ one < nI (aN A 0)) ∧ (0 ≤ n ∧ n ≤ 40) ∧ (0 ≤ w ∧ w ≤ 4) then runV A (runP A n.toNatClampNeg) one.toNatClampNeg w else -2
theorem runV_Ag {P Q : PP} {p : Nat} {w : Int32} (h : Ag (aN A 0) P Q) (hp : p < aN A 0) : runV A P p w = runV A Q p w := by
  unfold runV
  rw [h p hp 2 (by omega), h p hp 3 (by omega), h p hp 5 (by omega), slpB_Ag _ _ h (Nat.le_refl _), sum_Ag _ _ h (Nat.le_refl _)]
theorem c_run {one n w : Int32} (ok : OKA A) : CC G l 87 6 [vI one, vI n, vI w] A (vI (runR A one n w)) A := by
  intro I J rd rr hC
  obtain ⟨h1, h2, h3, h4⟩ := hC.1
  have h5 := ok.1.1
  have bad : ∀ R', ¬ ((0 ≤ one ∧ one < nI (aN A 0)) ∧ (0 ≤ n ∧ n ≤ 40) ∧ (0 ≤ w ∧ w ≤ 4)) → R' = runR A one n w → R' = -2 := fun R' h e => by rw [e, runR, if_neg h]
  refine Ev_go iC_run rfl rfl rfl ⟨Nat.le_refl _, Nat.le_refl _⟩ (fun K hK => hK.1 [] 120 _ _ _ _ _ ?_)
  unfold runR
  refine k_isThere h1 (by decide) ?_
  refine And.intro (fun h6 => ?_) (fun h6 => ?_)
  · rw [if_neg (fun q => iN_n h6 q.1)]
    exact ⟨rfl, (I, J, rd, rr), rfl, rfl, hC, fun k hk => ⟨rfl, rfl⟩⟩
  · refine k_isWithin (by decide) ?_
    refine And.intro (fun h7 => ?_) (fun h7 => ?_)
    · rw [if_neg (fun q => iN_n h7 q.2.1)]
      exact ⟨rfl, (I, J, rd, rr), rfl, rfl, hC, fun k hk => ⟨rfl, rfl⟩⟩
    · refine k_isWithin (by decide) ?_
      refine And.intro (fun h8 => ?_) (fun h8 => ?_)
      · have hc := And.intro (iN_y h6) (And.intro (iN_y h7) (iN_y h8))
        rw [if_pos hc]
        obtain ⟨p, hp, rfl⟩ := nI_ex hc.1.1 hc.1.2 (by omega)
        obtain ⟨z, hz, rfl⟩ := rg_of (n := 40) hc.2.1.1 hc.2.1.2 (by decide)
        rw [nI_clamp (n := p) (by omega), nI_clamp (n := z) (by omega)]
        refine k_think hC ok (by decide) (fun P hP => ?_)
        have hW : WF P (aN A 0) := WF.Ag hP.symm ok.1.2.2.2.2
        refine t_passDays hC ok hW rfl (by omega) (by decide) (fun O' => ?_)
        have hA : Ag (aN A 0) (dayN (bO A) (dy A) (aN A 0) P z) (runP A z) := dayN_Ag hP h5 z
        rw [← runV_Ag hA hp]
        unfold runV
        refine And.intro ⟨fun h => ?_, fun h => ?_, fun h => ?_, fun h => ?_, True.intro⟩ (fun h => ?_)
        · show vp_in _ _ ∧ _
          refine ⟨nI_in (N := 5) (by omega) (by decide), rfl, TF_at hC ?_⟩
          rw [nI_clamp (n := p) (by omega), TF_P, if_pos h]
        · show vp_in _ _ ∧ _
          refine ⟨nI_in (N := 5) (by omega) (by decide), rfl, TF_at hC ?_⟩
          rw [nI_clamp (n := p) (by omega), TF_P]
          simp [h]
        · refine t_asleepBits ok (by decide) ⟨rfl, TF_at hC ?_⟩
          simp [h]
        · refine t_tired ok (by decide) ⟨rfl, TF_at hC ?_⟩
          simp [h]
        · show vp_in _ _ ∧ _
          refine ⟨nI_in (N := 5) (by omega) (by decide), rfl, TF_at hC ?_⟩
          rw [nI_clamp (n := p) (by omega), TF_P]
          simp only [swNo] at h
          simp [h]
      · rw [if_neg (fun q => iN_n h8 q.2.2)]
        exact ⟨rfl, (I, J, rd, rr), rfl, rfl, hC, fun k hk => ⟨rfl, rfl⟩⟩
end T10
