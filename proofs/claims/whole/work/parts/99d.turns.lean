/-! the law: a turn of each kind -/
section Z9
variable {G : GT} {l : Launch} {I : HI} {J : HJ} {rd : Option AO} {rr : Nat → Nat} {K : Nat → Nat → List (Option AV) → List AV → AH → Prop} {Q : Option AV → AH → Prop}
/-- both show the same state -/
def Rel (G : GT) (l : Launch) (I : HI) (J : HJ) (rr : Nat → Nat) : Prop := ∃ A, OKA A ∧ CF I rr A ∧ MF G l I (getQ I) I J A
theorem MF.step {I' : HI} {J' : HJ} {A : ST} (h : MF G l I (getQ I) I J A) (f : frC I I' J J') : MF G l I' (getQ I') I' J' A := by
  refine MF.law (J := J) h ?_
  have h1 : setS (setQ I (getQ I)) I = I := by rw [setQ_self]; funext k i j t; simp [setS]
  have h2 : setT J J = J := by funext k i j t; simp [setT]
  rw [h1, h2]
  exact f
theorem frM.mf {I2 S : HI} {Q : PP} (f : frM I I2) : frM I (setS (setQ I2 Q) S) := fun k hk => by
  rw [← f k hk]
  funext i j t
  simp only [setS, setQ]
  rw [if_neg (by omega), if_neg (by omega), if_neg (by omega)]
theorem frC.r : frC I I J J := fun _ _ => ⟨rfl, rfl⟩
def LW (k : Nat) : List (Option AV) := [some (vR 50 0 0), some (vR 0 0 0), some (vR 20 0 0), some (vI (nI (6 * k)))]
theorem vin {L k i : Nat} (hk : 6 * k + 6 ≤ L) (hL : L ≤ 3072) (hi : i < 6) : vp_in (nI (6 * k) + nI i) L := by
  rw [nI_plus]
  exact nI_in' (by omega) (by omega)
theorem cs_set {k : Nat} (hK : Cl G l 102 8 1 (mkT 1121 tL_law) 80 Q K) (hk : 6 * k + 6 ≤ gL G) (hL : gL G ≤ 3072) (h : Rel G l I J rr) (next : ∀ I' J' rd' rr', Rel G l I' J' rr' → K 80 1113 (LW k) [] (mkH I' J' rd' rr')) : K 80 164 (LW k) [] (mkH I J rd rr) := by
  obtain ⟨A, ok, hC, hM⟩ := h
  refine hK.1 [(1113, [true, true, true, true])] 100 _ _ _ _ _ ?_
  show vp_in _ _ ∧ _
  refine ⟨vin (i := 1) hk hL (by decide), ?_⟩
  show vp_in _ _ ∧ _
  refine ⟨vin (i := 2) hk hL (by decide), ?_⟩
  show vp_in _ _ ∧ _
  refine ⟨vin (i := 3) hk hL (by decide), ?_⟩
  refine CPd_of (c_set ok I J rd rr hC) (by decide) rfl (fun v h' hq => ?_)
  obtain ⟨⟨I1, J1, rd1, rr1⟩, rfl, rfl, hC1, fr1⟩ := hq
  have hM1 : MF G l I1 (getQ I1) I1 J1 A := hM.step fr1
  show vp_in _ _ ∧ _
  refine ⟨vin (i := 1) hk hL (by decide), ?_⟩
  show vp_in _ _ ∧ _
  refine ⟨vin (i := 2) hk hL (by decide), ?_⟩
  show vp_in _ _ ∧ _
  refine ⟨vin (i := 3) hk hL (by decide), ?_⟩
  show CPd G l 102 80 0 138 _ (mkH I1 J1 rd1 rr1) _
  rw [mf_of]
  refine CPd_of (m_set ok I1 J1 rd1 rr1 (getQ I1) I1 J1 hM1) (by decide) rfl (fun v h' hq => ?_)
  obtain ⟨⟨I2, Q2, S2, T2⟩, rfl, rfl, hM2, fr2⟩ := hq
  refine And.intro (fun _ => ?_) (fun w => absurd rfl w)
  show K 80 1113 (LW k) [] (mkH (setS (setQ I2 Q2) S2) (setT J1 T2) rd1 rr1)
  exact next _ _ _ _ ⟨_, (ok_set ok), hC1.fr (frM.mf fr2), hM2.law frC.r⟩
theorem cs_person {k : Nat} (hK : Cl G l 102 8 1 (mkT 1121 tL_law) 80 Q K) (hk : 6 * k + 6 ≤ gL G) (hL : gL G ≤ 3072) (h : Rel G l I J rr) (next : ∀ I' J' rd' rr', Rel G l I' J' rr' → K 80 1113 (LW k) [] (mkH I' J' rd' rr')) : K 80 207 (LW k) [] (mkH I J rd rr) := by
  obtain ⟨A, ok, hC, hM⟩ := h
  refine hK.1 [(1113, [true, true, true, true])] 100 _ _ _ _ _ ?_
  show vp_in _ _ ∧ _
  refine ⟨vin (i := 1) hk hL (by decide), ?_⟩
  show vp_in _ _ ∧ _
  refine ⟨vin (i := 2) hk hL (by decide), ?_⟩
  refine CPd_of (c_person ok I J rd rr hC) (by decide) rfl (fun v h' hq => ?_)
  obtain ⟨⟨I1, J1, rd1, rr1⟩, rfl, rfl, hC1, fr1⟩ := hq
  have hM1 : MF G l I1 (getQ I1) I1 J1 A := hM.step fr1
  show vp_in _ _ ∧ _
  refine ⟨vin (i := 1) hk hL (by decide), ?_⟩
  show vp_in _ _ ∧ _
  refine ⟨vin (i := 2) hk hL (by decide), ?_⟩
  show CPd G l 102 80 0 167 _ (mkH I1 J1 rd1 rr1) _
  rw [mf_of]
  refine CPd_of (m_person ok I1 J1 rd1 rr1 (getQ I1) I1 J1 hM1) (by decide) rfl (fun v h' hq => ?_)
  obtain ⟨⟨I2, Q2, S2, T2⟩, rfl, rfl, hM2, fr2⟩ := hq
  refine And.intro (fun _ => ?_) (fun w => absurd rfl w)
  show K 80 1113 (LW k) [] (mkH (setS (setQ I2 Q2) S2) (setT J1 T2) rd1 rr1)
  exact next _ _ _ _ ⟨_, (ok_person ok), hC1.fr (frM.mf fr2), hM2.law frC.r⟩
theorem cs_told {k : Nat} (hK : Cl G l 102 8 1 (mkT 1121 tL_law) 80 Q K) (hk : 6 * k + 6 ≤ gL G) (hL : gL G ≤ 3072) (h : Rel G l I J rr) (next : ∀ I' J' rd' rr', Rel G l I' J' rr' → K 80 1113 (LW k) [] (mkH I' J' rd' rr')) : K 80 240 (LW k) [] (mkH I J rd rr) := by
  obtain ⟨A, ok, hC, hM⟩ := h
  refine hK.1 [(1113, [true, true, true, true])] 100 _ _ _ _ _ ?_
  show vp_in _ _ ∧ _
  refine ⟨vin (i := 1) hk hL (by decide), ?_⟩
  show vp_in _ _ ∧ _
  refine ⟨vin (i := 2) hk hL (by decide), ?_⟩
  refine CPd_of (c_told ok I J rd rr hC) (by decide) rfl (fun v h' hq => ?_)
  obtain ⟨⟨I1, J1, rd1, rr1⟩, rfl, rfl, hC1, fr1⟩ := hq
  have hM1 : MF G l I1 (getQ I1) I1 J1 A := hM.step fr1
  show vp_in _ _ ∧ _
  refine ⟨vin (i := 1) hk hL (by decide), ?_⟩
  show vp_in _ _ ∧ _
  refine ⟨vin (i := 2) hk hL (by decide), ?_⟩
  show CPd G l 102 80 0 142 _ (mkH I1 J1 rd1 rr1) _
  rw [mf_of]
  refine CPd_of (m_told ok I1 J1 rd1 rr1 (getQ I1) I1 J1 hM1) (by decide) rfl (fun v h' hq => ?_)
  obtain ⟨⟨I2, Q2, S2, T2⟩, rfl, rfl, hM2, fr2⟩ := hq
  refine And.intro (fun _ => ?_) (fun w => absurd rfl w)
  show K 80 1113 (LW k) [] (mkH (setS (setQ I2 Q2) S2) (setT J1 T2) rd1 rr1)
  exact next _ _ _ _ ⟨_, ok, hC1.fr (frM.mf fr2), hM2.law frC.r⟩
theorem cs_hears {k : Nat} (hK : Cl G l 102 8 1 (mkT 1121 tL_law) 80 Q K) (hk : 6 * k + 6 ≤ gL G) (hL : gL G ≤ 3072) (h : Rel G l I J rr) (next : ∀ I' J' rd' rr', Rel G l I' J' rr' → K 80 1113 (LW k) [] (mkH I' J' rd' rr')) : K 80 273 (LW k) [] (mkH I J rd rr) := by
  obtain ⟨A, ok, hC, hM⟩ := h
  refine hK.1 [(1113, [true, true, true, true])] 100 _ _ _ _ _ ?_
  show vp_in _ _ ∧ _
  refine ⟨vin (i := 1) hk hL (by decide), ?_⟩
  show vp_in _ _ ∧ _
  refine ⟨vin (i := 2) hk hL (by decide), ?_⟩
  refine CPd_of (c_hears ok I J rd rr hC) (by decide) rfl (fun v h' hq => ?_)
  obtain ⟨⟨I1, J1, rd1, rr1⟩, rfl, rfl, hC1, fr1⟩ := hq
  have hM1 : MF G l I1 (getQ I1) I1 J1 A := hM.step fr1
  show vp_in _ _ ∧ _
  refine ⟨vin (i := 1) hk hL (by decide), ?_⟩
  show vp_in _ _ ∧ _
  refine ⟨vin (i := 2) hk hL (by decide), ?_⟩
  show CPd G l 102 80 0 168 _ (mkH I1 J1 rd1 rr1) _
  rw [mf_of]
  refine CPd_of (m_hears ok I1 J1 rd1 rr1 (getQ I1) I1 J1 hM1) (by decide) rfl (fun v h' hq => ?_)
  obtain ⟨⟨I2, Q2, S2, T2⟩, rfl, rfl, hM2, fr2⟩ := hq
  refine And.intro (fun _ => ?_) (fun w => absurd rfl w)
  show K 80 1113 (LW k) [] (mkH (setS (setQ I2 Q2) S2) (setT J1 T2) rd1 rr1)
  exact next _ _ _ _ ⟨_, ok, hC1.fr (frM.mf fr2), hM2.law frC.r⟩
theorem cs_feed {k : Nat} (hK : Cl G l 102 8 1 (mkT 1121 tL_law) 80 Q K) (hk : 6 * k + 6 ≤ gL G) (hL : gL G ≤ 3072) (h : Rel G l I J rr) (next : ∀ I' J' rd' rr', Rel G l I' J' rr' → K 80 1113 (LW k) [] (mkH I' J' rd' rr')) : K 80 306 (LW k) [] (mkH I J rd rr) := by
  obtain ⟨A, ok, hC, hM⟩ := h
  refine hK.1 [(1113, [true, true, true, true])] 100 _ _ _ _ _ ?_
  show vp_in _ _ ∧ _
  refine ⟨vin (i := 1) hk hL (by decide), ?_⟩
  refine CPd_of (c_feed ok I J rd rr hC) (by decide) rfl (fun v h' hq => ?_)
  obtain ⟨⟨I1, J1, rd1, rr1⟩, rfl, rfl, hC1, fr1⟩ := hq
  have hM1 : MF G l I1 (getQ I1) I1 J1 A := hM.step fr1
  show vp_in _ _ ∧ _
  refine ⟨vin (i := 1) hk hL (by decide), ?_⟩
  show CPd G l 102 80 0 170 _ (mkH I1 J1 rd1 rr1) _
  rw [mf_of]
  refine CPd_of (m_feed ok I1 J1 rd1 rr1 (getQ I1) I1 J1 hM1) (by decide) rfl (fun v h' hq => ?_)
  obtain ⟨⟨I2, Q2, S2, T2⟩, rfl, rfl, hM2, fr2⟩ := hq
  refine And.intro (fun _ => ?_) (fun w => absurd rfl w)
  show K 80 1113 (LW k) [] (mkH (setS (setQ I2 Q2) S2) (setT J1 T2) rd1 rr1)
  exact next _ _ _ _ ⟨_, (ok_feed ok), hC1.fr (frM.mf fr2), hM2.law frC.r⟩
theorem cs_text {k : Nat} (hK : Cl G l 102 8 1 (mkT 1121 tL_law) 80 Q K) (hk : 6 * k + 6 ≤ gL G) (hL : gL G ≤ 3072) (h : Rel G l I J rr) (next : ∀ I' J' rd' rr', Rel G l I' J' rr' → K 80 1113 (LW k) [] (mkH I' J' rd' rr')) : K 80 329 (LW k) [] (mkH I J rd rr) := by
  obtain ⟨A, ok, hC, hM⟩ := h
  refine hK.1 [(1113, [true, true, true, true])] 100 _ _ _ _ _ ?_
  refine CPd_of (c_text ok I J rd rr hC) (by decide) rfl (fun v h' hq => ?_)
  obtain ⟨⟨I1, J1, rd1, rr1⟩, rfl, rfl, hC1, fr1⟩ := hq
  have hM1 : MF G l I1 (getQ I1) I1 J1 A := hM.step fr1
  show CPd G l 102 80 0 171 _ (mkH I1 J1 rd1 rr1) _
  rw [mf_of]
  refine CPd_of (m_text ok I1 J1 rd1 rr1 (getQ I1) I1 J1 hM1) (by decide) rfl (fun v h' hq => ?_)
  obtain ⟨⟨I2, Q2, S2, T2⟩, rfl, rfl, hM2, fr2⟩ := hq
  refine And.intro (fun _ => ?_) (fun w => absurd rfl w)
  show K 80 1113 (LW k) [] (mkH (setS (setQ I2 Q2) S2) (setT J1 T2) rd1 rr1)
  exact next _ _ _ _ ⟨_, (ok_text ok), hC1.fr (frM.mf fr2), hM2.law frC.r⟩
theorem cs_force {k : Nat} (hK : Cl G l 102 8 1 (mkT 1121 tL_law) 80 Q K) (hk : 6 * k + 6 ≤ gL G) (hL : gL G ≤ 3072) (h : Rel G l I J rr) (next : ∀ I' J' rd' rr', Rel G l I' J' rr' → K 80 1113 (LW k) [] (mkH I' J' rd' rr')) : K 80 342 (LW k) [] (mkH I J rd rr) := by
  obtain ⟨A, ok, hC, hM⟩ := h
  refine hK.1 [(1113, [true, true, true, true])] 100 _ _ _ _ _ ?_
  show vp_in _ _ ∧ _
  refine ⟨vin (i := 1) hk hL (by decide), ?_⟩
  refine CPd_of (c_force ok I J rd rr hC) (by decide) rfl (fun v h' hq => ?_)
  obtain ⟨⟨I1, J1, rd1, rr1⟩, rfl, rfl, hC1, fr1⟩ := hq
  have hM1 : MF G l I1 (getQ I1) I1 J1 A := hM.step fr1
  show vp_in _ _ ∧ _
  refine ⟨vin (i := 1) hk hL (by decide), ?_⟩
  show CPd G l 102 80 0 172 _ (mkH I1 J1 rd1 rr1) _
  rw [mf_of]
  refine CPd_of (m_force ok I1 J1 rd1 rr1 (getQ I1) I1 J1 hM1) (by decide) rfl (fun v h' hq => ?_)
  obtain ⟨⟨I2, Q2, S2, T2⟩, rfl, rfl, hM2, fr2⟩ := hq
  refine And.intro (fun _ => ?_) (fun w => absurd rfl w)
  show K 80 1113 (LW k) [] (mkH (setS (setQ I2 Q2) S2) (setT J1 T2) rd1 rr1)
  exact next _ _ _ _ ⟨_, (ok_force ok), hC1.fr (frM.mf fr2), hM2.law frC.r⟩
theorem cs_tell {k : Nat} (hK : Cl G l 102 8 1 (mkT 1121 tL_law) 80 Q K) (hk : 6 * k + 6 ≤ gL G) (hL : gL G ≤ 3072) (h : Rel G l I J rr) (next : ∀ I' J' rd' rr', Rel G l I' J' rr' → K 80 1113 (LW k) [] (mkH I' J' rd' rr')) : K 80 365 (LW k) [] (mkH I J rd rr) := by
  obtain ⟨A, ok, hC, hM⟩ := h
  refine hK.1 [(1113, [true, true, true, true])] 100 _ _ _ _ _ ?_
  show vp_in _ _ ∧ _
  refine ⟨vin (i := 1) hk hL (by decide), ?_⟩
  show vp_in _ _ ∧ _
  refine ⟨vin (i := 2) hk hL (by decide), ?_⟩
  refine CPd_of (c_tell ok I J rd rr hC) (by decide) rfl (fun v h' hq => ?_)
  obtain ⟨⟨I1, J1, rd1, rr1⟩, rfl, rfl, hC1, fr1⟩ := hq
  have hM1 : MF G l I1 (getQ I1) I1 J1 A := hM.step fr1
  show vp_in _ _ ∧ _
  refine ⟨vin (i := 1) hk hL (by decide), ?_⟩
  show vp_in _ _ ∧ _
  refine ⟨vin (i := 2) hk hL (by decide), ?_⟩
  show CPd G l 102 80 0 175 _ (mkH I1 J1 rd1 rr1) _
  rw [mf_of]
  refine CPd_of (m_tell ok I1 J1 rd1 rr1 (getQ I1) I1 J1 hM1) (by decide) rfl (fun v h' hq => ?_)
  obtain ⟨⟨I2, Q2, S2, T2⟩, rfl, rfl, hM2, fr2⟩ := hq
  refine And.intro (fun _ => ?_) (fun w => absurd rfl w)
  show K 80 1113 (LW k) [] (mkH (setS (setQ I2 Q2) S2) (setT J1 T2) rd1 rr1)
  exact next _ _ _ _ ⟨_, (ok_tell ok), hC1.fr (frM.mf fr2), hM2.law frC.r⟩
theorem cs_day {k : Nat} (hK : Cl G l 102 8 1 (mkT 1121 tL_law) 80 Q K) (hk : 6 * k + 6 ≤ gL G) (hL : gL G ≤ 3072) (h : Rel G l I J rr) (next : ∀ I' J' rd' rr', Rel G l I' J' rr' → K 80 1113 (LW k) [] (mkH I' J' rd' rr')) : K 80 398 (LW k) [] (mkH I J rd rr) := by
  obtain ⟨A, ok, hC, hM⟩ := h
  refine hK.1 [(1113, [true, true, true, true])] 100 _ _ _ _ _ ?_
  refine CPd_of (c_day ok I J rd rr hC) (by decide) rfl (fun v h' hq => ?_)
  obtain ⟨⟨I1, J1, rd1, rr1⟩, rfl, rfl, hC1, fr1⟩ := hq
  have hM1 : MF G l I1 (getQ I1) I1 J1 A := hM.step fr1
  show CPd G l 102 80 0 177 _ (mkH I1 J1 rd1 rr1) _
  rw [mf_of]
  refine CPd_of (m_day ok I1 J1 rd1 rr1 (getQ I1) I1 J1 hM1) (by decide) rfl (fun v h' hq => ?_)
  obtain ⟨⟨I2, Q2, S2, T2⟩, rfl, rfl, hM2, fr2⟩ := hq
  refine And.intro (fun _ => ?_) (fun w => absurd rfl w)
  show K 80 1113 (LW k) [] (mkH (setS (setQ I2 Q2) S2) (setT J1 T2) rd1 rr1)
  exact next _ _ _ _ ⟨_, (ok_day ok), hC1.fr (frM.mf fr2), hM2.law frC.r⟩
theorem cs_run {k : Nat} (hK : Cl G l 102 8 1 (mkT 1121 tL_law) 80 Q K) (hk : 6 * k + 6 ≤ gL G) (hL : gL G ≤ 3072) (h : Rel G l I J rr) (next : ∀ I' J' rd' rr', Rel G l I' J' rr' → K 80 1113 (LW k) [] (mkH I' J' rd' rr')) : K 80 411 (LW k) [] (mkH I J rd rr) := by
  obtain ⟨A, ok, hC, hM⟩ := h
  refine hK.1 [(1113, [true, true, true, true])] 100 _ _ _ _ _ ?_
  show vp_in _ _ ∧ _
  refine ⟨vin (i := 1) hk hL (by decide), ?_⟩
  show vp_in _ _ ∧ _
  refine ⟨vin (i := 2) hk hL (by decide), ?_⟩
  show vp_in _ _ ∧ _
  refine ⟨vin (i := 3) hk hL (by decide), ?_⟩
  refine CPd_of (c_run ok I J rd rr hC) (by decide) rfl (fun v h' hq => ?_)
  obtain ⟨⟨I1, J1, rd1, rr1⟩, rfl, rfl, hC1, fr1⟩ := hq
  have hM1 : MF G l I1 (getQ I1) I1 J1 A := hM.step fr1
  show vp_in _ _ ∧ _
  refine ⟨vin (i := 1) hk hL (by decide), ?_⟩
  show vp_in _ _ ∧ _
  refine ⟨vin (i := 2) hk hL (by decide), ?_⟩
  show vp_in _ _ ∧ _
  refine ⟨vin (i := 3) hk hL (by decide), ?_⟩
  show CPd G l 102 80 0 180 _ (mkH I1 J1 rd1 rr1) _
  rw [mf_of]
  refine CPd_of (m_run ok I1 J1 rd1 rr1 (getQ I1) I1 J1 hM1) (by decide) rfl (fun v h' hq => ?_)
  obtain ⟨⟨I2, Q2, S2, T2⟩, rfl, rfl, hM2, fr2⟩ := hq
  refine And.intro (fun _ => ?_) (fun w => absurd rfl w)
  show K 80 1113 (LW k) [] (mkH (setS (setQ I2 Q2) S2) (setT J1 T2) rd1 rr1)
  exact next _ _ _ _ ⟨_, ok, hC1.fr (frM.mf fr2), hM2.law frC.r⟩
theorem cs_sleeps {k : Nat} (hK : Cl G l 102 8 1 (mkT 1121 tL_law) 80 Q K) (hk : 6 * k + 6 ≤ gL G) (hL : gL G ≤ 3072) (h : Rel G l I J rr) (next : ∀ I' J' rd' rr', Rel G l I' J' rr' → K 80 1113 (LW k) [] (mkH I' J' rd' rr')) : K 80 454 (LW k) [] (mkH I J rd rr) := by
  obtain ⟨A, ok, hC, hM⟩ := h
  refine hK.1 [(1113, [true, true, true, true])] 100 _ _ _ _ _ ?_
  show vp_in _ _ ∧ _
  refine ⟨vin (i := 1) hk hL (by decide), ?_⟩
  refine CPd_of (c_sleeps ok I J rd rr hC) (by decide) rfl (fun v h' hq => ?_)
  obtain ⟨⟨I1, J1, rd1, rr1⟩, rfl, rfl, hC1, fr1⟩ := hq
  have hM1 : MF G l I1 (getQ I1) I1 J1 A := hM.step fr1
  show vp_in _ _ ∧ _
  refine ⟨vin (i := 1) hk hL (by decide), ?_⟩
  show CPd G l 102 80 0 184 _ (mkH I1 J1 rd1 rr1) _
  rw [mf_of]
  refine CPd_of (m_sleeps ok I1 J1 rd1 rr1 (getQ I1) I1 J1 hM1) (by decide) rfl (fun v h' hq => ?_)
  obtain ⟨⟨I2, Q2, S2, T2⟩, rfl, rfl, hM2, fr2⟩ := hq
  refine And.intro (fun _ => ?_) (fun w => absurd rfl w)
  show K 80 1113 (LW k) [] (mkH (setS (setQ I2 Q2) S2) (setT J1 T2) rd1 rr1)
  exact next _ _ _ _ ⟨_, ok, hC1.fr (frM.mf fr2), hM2.law frC.r⟩
theorem cs_round {k : Nat} (hK : Cl G l 102 8 1 (mkT 1121 tL_law) 80 Q K) (hk : 6 * k + 6 ≤ gL G) (hL : gL G ≤ 3072) (h : Rel G l I J rr) (next : ∀ I' J' rd' rr', Rel G l I' J' rr' → K 80 1113 (LW k) [] (mkH I' J' rd' rr')) : K 80 477 (LW k) [] (mkH I J rd rr) := by
  obtain ⟨A, ok, hC, hM⟩ := h
  refine hK.1 [(1113, [true, true, true, true])] 100 _ _ _ _ _ ?_
  refine CPd_of (c_round ok I J rd rr hC) (by decide) rfl (fun v h' hq => ?_)
  obtain ⟨⟨I1, J1, rd1, rr1⟩, rfl, rfl, hC1, fr1⟩ := hq
  have hM1 : MF G l I1 (getQ I1) I1 J1 A := hM.step fr1
  show CPd G l 102 80 0 185 _ (mkH I1 J1 rd1 rr1) _
  rw [mf_of]
  refine CPd_of (m_round ok I1 J1 rd1 rr1 (getQ I1) I1 J1 hM1) (by decide) rfl (fun v h' hq => ?_)
  obtain ⟨⟨I2, Q2, S2, T2⟩, rfl, rfl, hM2, fr2⟩ := hq
  refine And.intro (fun _ => ?_) (fun w => absurd rfl w)
  show K 80 1113 (LW k) [] (mkH (setS (setQ I2 Q2) S2) (setT J1 T2) rd1 rr1)
  exact next _ _ _ _ ⟨_, ok, hC1.fr (frM.mf fr2), hM2.law frC.r⟩
theorem cs_ears {k : Nat} (hK : Cl G l 102 8 1 (mkT 1121 tL_law) 80 Q K) (hk : 6 * k + 6 ≤ gL G) (hL : gL G ≤ 3072) (h : Rel G l I J rr) (next : ∀ I' J' rd' rr', Rel G l I' J' rr' → K 80 1113 (LW k) [] (mkH I' J' rd' rr')) : K 80 490 (LW k) [] (mkH I J rd rr) := by
  obtain ⟨A, ok, hC, hM⟩ := h
  refine hK.1 [(1113, [true, true, true, true])] 100 _ _ _ _ _ ?_
  show vp_in _ _ ∧ _
  refine ⟨vin (i := 1) hk hL (by decide), ?_⟩
  show vp_in _ _ ∧ _
  refine ⟨vin (i := 2) hk hL (by decide), ?_⟩
  refine CPd_of (c_ears ok I J rd rr hC) (by decide) rfl (fun v h' hq => ?_)
  obtain ⟨⟨I1, J1, rd1, rr1⟩, rfl, rfl, hC1, fr1⟩ := hq
  have hM1 : MF G l I1 (getQ I1) I1 J1 A := hM.step fr1
  show vp_in _ _ ∧ _
  refine ⟨vin (i := 1) hk hL (by decide), ?_⟩
  show vp_in _ _ ∧ _
  refine ⟨vin (i := 2) hk hL (by decide), ?_⟩
  show CPd G l 102 80 0 187 _ (mkH I1 J1 rd1 rr1) _
  rw [mf_of]
  refine CPd_of (m_ears ok I1 J1 rd1 rr1 (getQ I1) I1 J1 hM1) (by decide) rfl (fun v h' hq => ?_)
  obtain ⟨⟨I2, Q2, S2, T2⟩, rfl, rfl, hM2, fr2⟩ := hq
  refine And.intro (fun _ => ?_) (fun w => absurd rfl w)
  show K 80 1113 (LW k) [] (mkH (setS (setQ I2 Q2) S2) (setT J1 T2) rd1 rr1)
  exact next _ _ _ _ ⟨_, ok, hC1.fr (frM.mf fr2), hM2.law frC.r⟩
theorem cs_spread {k : Nat} (hK : Cl G l 102 8 1 (mkT 1121 tL_law) 80 Q K) (hk : 6 * k + 6 ≤ gL G) (hL : gL G ≤ 3072) (h : Rel G l I J rr) (next : ∀ I' J' rd' rr', Rel G l I' J' rr' → K 80 1113 (LW k) [] (mkH I' J' rd' rr')) : K 80 523 (LW k) [] (mkH I J rd rr) := by
  obtain ⟨A, ok, hC, hM⟩ := h
  refine hK.1 [(1113, [true, true, true, true])] 100 _ _ _ _ _ ?_
  show vp_in _ _ ∧ _
  refine ⟨vin (i := 1) hk hL (by decide), ?_⟩
  show vp_in _ _ ∧ _
  refine ⟨vin (i := 2) hk hL (by decide), ?_⟩
  refine CPd_of (c_spread ok I J rd rr hC) (by decide) rfl (fun v h' hq => ?_)
  obtain ⟨⟨I1, J1, rd1, rr1⟩, rfl, rfl, hC1, fr1⟩ := hq
  have hM1 : MF G l I1 (getQ I1) I1 J1 A := hM.step fr1
  show vp_in _ _ ∧ _
  refine ⟨vin (i := 1) hk hL (by decide), ?_⟩
  show vp_in _ _ ∧ _
  refine ⟨vin (i := 2) hk hL (by decide), ?_⟩
  show CPd G l 102 80 0 189 _ (mkH I1 J1 rd1 rr1) _
  rw [mf_of]
  refine CPd_of (m_spread ok I1 J1 rd1 rr1 (getQ I1) I1 J1 hM1) (by decide) rfl (fun v h' hq => ?_)
  obtain ⟨⟨I2, Q2, S2, T2⟩, rfl, rfl, hM2, fr2⟩ := hq
  refine And.intro (fun _ => ?_) (fun w => absurd rfl w)
  show K 80 1113 (LW k) [] (mkH (setS (setQ I2 Q2) S2) (setT J1 T2) rd1 rr1)
  exact next _ _ _ _ ⟨_, ok, hC1.fr (frM.mf fr2), hM2.law frC.r⟩
theorem cs_aunt {k : Nat} (hK : Cl G l 102 8 1 (mkT 1121 tL_law) 80 Q K) (hk : 6 * k + 6 ≤ gL G) (hL : gL G ≤ 3072) (h : Rel G l I J rr) (next : ∀ I' J' rd' rr', Rel G l I' J' rr' → K 80 1113 (LW k) [] (mkH I' J' rd' rr')) : K 80 556 (LW k) [] (mkH I J rd rr) := by
  obtain ⟨A, ok, hC, hM⟩ := h
  refine hK.1 [(1113, [true, true, true, true])] 100 _ _ _ _ _ ?_
  show vp_in _ _ ∧ _
  refine ⟨vin (i := 1) hk hL (by decide), ?_⟩
  show vp_in _ _ ∧ _
  refine ⟨vin (i := 2) hk hL (by decide), ?_⟩
  refine CPd_of (c_aunt ok I J rd rr hC) (by decide) rfl (fun v h' hq => ?_)
  obtain ⟨⟨I1, J1, rd1, rr1⟩, rfl, rfl, hC1, fr1⟩ := hq
  have hM1 : MF G l I1 (getQ I1) I1 J1 A := hM.step fr1
  show vp_in _ _ ∧ _
  refine ⟨vin (i := 1) hk hL (by decide), ?_⟩
  show vp_in _ _ ∧ _
  refine ⟨vin (i := 2) hk hL (by decide), ?_⟩
  show CPd G l 102 80 0 192 _ (mkH I1 J1 rd1 rr1) _
  rw [mf_of]
  refine CPd_of (m_aunt ok I1 J1 rd1 rr1 (getQ I1) I1 J1 hM1) (by decide) rfl (fun v h' hq => ?_)
  obtain ⟨⟨I2, Q2, S2, T2⟩, rfl, rfl, hM2, fr2⟩ := hq
  refine And.intro (fun _ => ?_) (fun w => absurd rfl w)
  show K 80 1113 (LW k) [] (mkH (setS (setQ I2 Q2) S2) (setT J1 T2) rd1 rr1)
  exact next _ _ _ _ ⟨_, ok, hC1.fr (frM.mf fr2), hM2.law frC.r⟩
theorem cs_bears {k : Nat} (hK : Cl G l 102 8 1 (mkT 1121 tL_law) 80 Q K) (hk : 6 * k + 6 ≤ gL G) (hL : gL G ≤ 3072) (h : Rel G l I J rr) (next : ∀ I' J' rd' rr', Rel G l I' J' rr' → K 80 1113 (LW k) [] (mkH I' J' rd' rr')) : K 80 589 (LW k) [] (mkH I J rd rr) := by
  obtain ⟨A, ok, hC, hM⟩ := h
  refine hK.1 [(1113, [true, true, true, true])] 100 _ _ _ _ _ ?_
  show vp_in _ _ ∧ _
  refine ⟨vin (i := 1) hk hL (by decide), ?_⟩
  show vp_in _ _ ∧ _
  refine ⟨vin (i := 2) hk hL (by decide), ?_⟩
  refine CPd_of (c_bears ok I J rd rr hC) (by decide) rfl (fun v h' hq => ?_)
  obtain ⟨⟨I1, J1, rd1, rr1⟩, rfl, rfl, hC1, fr1⟩ := hq
  have hM1 : MF G l I1 (getQ I1) I1 J1 A := hM.step fr1
  show vp_in _ _ ∧ _
  refine ⟨vin (i := 1) hk hL (by decide), ?_⟩
  show vp_in _ _ ∧ _
  refine ⟨vin (i := 2) hk hL (by decide), ?_⟩
  show CPd G l 102 80 0 193 _ (mkH I1 J1 rd1 rr1) _
  rw [mf_of]
  refine CPd_of (m_bears ok I1 J1 rd1 rr1 (getQ I1) I1 J1 hM1) (by decide) rfl (fun v h' hq => ?_)
  obtain ⟨⟨I2, Q2, S2, T2⟩, rfl, rfl, hM2, fr2⟩ := hq
  refine And.intro (fun _ => ?_) (fun w => absurd rfl w)
  show K 80 1113 (LW k) [] (mkH (setS (setQ I2 Q2) S2) (setT J1 T2) rd1 rr1)
  exact next _ _ _ _ ⟨_, ok, hC1.fr (frM.mf fr2), hM2.law frC.r⟩
theorem cs_mean {k : Nat} (hK : Cl G l 102 8 1 (mkT 1121 tL_law) 80 Q K) (hk : 6 * k + 6 ≤ gL G) (hL : gL G ≤ 3072) (h : Rel G l I J rr) (next : ∀ I' J' rd' rr', Rel G l I' J' rr' → K 80 1113 (LW k) [] (mkH I' J' rd' rr')) : K 80 622 (LW k) [] (mkH I J rd rr) := by
  obtain ⟨A, ok, hC, hM⟩ := h
  refine hK.1 [(1113, [true, true, true, true])] 100 _ _ _ _ _ ?_
  show vp_in _ _ ∧ _
  refine ⟨vin (i := 1) hk hL (by decide), ?_⟩
  refine CPd_of (c_mean ok I J rd rr hC) (by decide) rfl (fun v h' hq => ?_)
  obtain ⟨⟨I1, J1, rd1, rr1⟩, rfl, rfl, hC1, fr1⟩ := hq
  have hM1 : MF G l I1 (getQ I1) I1 J1 A := hM.step fr1
  show vp_in _ _ ∧ _
  refine ⟨vin (i := 1) hk hL (by decide), ?_⟩
  show CPd G l 102 80 0 194 _ (mkH I1 J1 rd1 rr1) _
  rw [mf_of]
  refine CPd_of (m_mean ok I1 J1 rd1 rr1 (getQ I1) I1 J1 hM1) (by decide) rfl (fun v h' hq => ?_)
  obtain ⟨⟨I2, Q2, S2, T2⟩, rfl, rfl, hM2, fr2⟩ := hq
  refine And.intro (fun _ => ?_) (fun w => absurd (by rw [lg_cmp_0]) w)
  show K 80 1113 (LW k) [] (mkH (setS (setQ I2 Q2) S2) (setT J1 T2) rd1 rr1)
  exact next _ _ _ _ ⟨_, ok, hC1.fr (frM.mf fr2), hM2.law frC.r⟩
theorem cs_tells {k : Nat} (hK : Cl G l 102 8 1 (mkT 1121 tL_law) 80 Q K) (hk : 6 * k + 6 ≤ gL G) (hL : gL G ≤ 3072) (h : Rel G l I J rr) (next : ∀ I' J' rd' rr', Rel G l I' J' rr' → K 80 1113 (LW k) [] (mkH I' J' rd' rr')) : K 80 646 (LW k) [] (mkH I J rd rr) := by
  obtain ⟨A, ok, hC, hM⟩ := h
  refine hK.1 [(1113, [true, true, true, true])] 100 _ _ _ _ _ ?_
  show vp_in _ _ ∧ _
  refine ⟨vin (i := 1) hk hL (by decide), ?_⟩
  show vp_in _ _ ∧ _
  refine ⟨vin (i := 2) hk hL (by decide), ?_⟩
  show vp_in _ _ ∧ _
  refine ⟨vin (i := 3) hk hL (by decide), ?_⟩
  show vp_in _ _ ∧ _
  refine ⟨vin (i := 4) hk hL (by decide), ?_⟩
  refine CPd_of (c_tells ok I J rd rr hC) (by decide) rfl (fun v h' hq => ?_)
  obtain ⟨⟨I1, J1, rd1, rr1⟩, rfl, rfl, hC1, fr1⟩ := hq
  have hM1 : MF G l I1 (getQ I1) I1 J1 A := hM.step fr1
  show vp_in _ _ ∧ _
  refine ⟨vin (i := 1) hk hL (by decide), ?_⟩
  show vp_in _ _ ∧ _
  refine ⟨vin (i := 2) hk hL (by decide), ?_⟩
  show vp_in _ _ ∧ _
  refine ⟨vin (i := 3) hk hL (by decide), ?_⟩
  show vp_in _ _ ∧ _
  refine ⟨vin (i := 4) hk hL (by decide), ?_⟩
  show CPd G l 102 80 0 196 _ (mkH I1 J1 rd1 rr1) _
  rw [mf_of]
  refine CPd_of (m_tells ok I1 J1 rd1 rr1 (getQ I1) I1 J1 hM1) (by decide) rfl (fun v h' hq => ?_)
  obtain ⟨⟨I2, Q2, S2, T2⟩, rfl, rfl, hM2, fr2⟩ := hq
  refine And.intro (fun _ => ?_) (fun w => absurd rfl w)
  show K 80 1113 (LW k) [] (mkH (setS (setQ I2 Q2) S2) (setT J1 T2) rd1 rr1)
  exact next _ _ _ _ ⟨_, ok, hC1.fr (frM.mf fr2), hM2.law frC.r⟩
theorem cs_film {k : Nat} (hK : Cl G l 102 8 1 (mkT 1121 tL_law) 80 Q K) (hk : 6 * k + 6 ≤ gL G) (hL : gL G ≤ 3072) (h : Rel G l I J rr) (next : ∀ I' J' rd' rr', Rel G l I' J' rr' → K 80 1113 (LW k) [] (mkH I' J' rd' rr')) : K 80 699 (LW k) [] (mkH I J rd rr) := by
  obtain ⟨A, ok, hC, hM⟩ := h
  refine hK.1 [(1113, [true, true, true, true])] 100 _ _ _ _ _ ?_
  show vp_in _ _ ∧ _
  refine ⟨vin (i := 1) hk hL (by decide), ?_⟩
  show vp_in _ _ ∧ _
  refine ⟨vin (i := 2) hk hL (by decide), ?_⟩
  show vp_in _ _ ∧ _
  refine ⟨vin (i := 3) hk hL (by decide), ?_⟩
  refine CPd_of (c_film ok I J rd rr hC) (by decide) rfl (fun v h' hq => ?_)
  obtain ⟨⟨I1, J1, rd1, rr1⟩, rfl, rfl, hC1, fr1⟩ := hq
  have hM1 : MF G l I1 (getQ I1) I1 J1 A := hM.step fr1
  show vp_in _ _ ∧ _
  refine ⟨vin (i := 1) hk hL (by decide), ?_⟩
  show vp_in _ _ ∧ _
  refine ⟨vin (i := 2) hk hL (by decide), ?_⟩
  show vp_in _ _ ∧ _
  refine ⟨vin (i := 3) hk hL (by decide), ?_⟩
  show CPd G l 102 80 0 199 _ (mkH I1 J1 rd1 rr1) _
  rw [mf_of]
  refine CPd_of (m_film ok I1 J1 rd1 rr1 (getQ I1) I1 J1 hM1) (by decide) rfl (fun v h' hq => ?_)
  obtain ⟨⟨I2, Q2, S2, T2⟩, rfl, rfl, hM2, fr2⟩ := hq
  refine And.intro (fun _ => ?_) (fun w => absurd rfl w)
  show K 80 1113 (LW k) [] (mkH (setS (setQ I2 Q2) S2) (setT J1 T2) rd1 rr1)
  exact next _ _ _ _ ⟨_, (ok_film ok), hC1.fr (frM.mf fr2), hM2.law frC.r⟩
theorem cs_drawn {k : Nat} (hK : Cl G l 102 8 1 (mkT 1121 tL_law) 80 Q K) (hk : 6 * k + 6 ≤ gL G) (hL : gL G ≤ 3072) (h : Rel G l I J rr) (next : ∀ I' J' rd' rr', Rel G l I' J' rr' → K 80 1113 (LW k) [] (mkH I' J' rd' rr')) : K 80 742 (LW k) [] (mkH I J rd rr) := by
  obtain ⟨A, ok, hC, hM⟩ := h
  refine hK.1 [(1113, [true, true, true, true])] 100 _ _ _ _ _ ?_
  show vp_in _ _ ∧ _
  refine ⟨vin (i := 1) hk hL (by decide), ?_⟩
  show vp_in _ _ ∧ _
  refine ⟨vin (i := 2) hk hL (by decide), ?_⟩
  refine CPd_of (c_drawn ok I J rd rr hC) (by decide) rfl (fun v h' hq => ?_)
  obtain ⟨⟨I1, J1, rd1, rr1⟩, rfl, rfl, hC1, fr1⟩ := hq
  have hM1 : MF G l I1 (getQ I1) I1 J1 A := hM.step fr1
  show vp_in _ _ ∧ _
  refine ⟨vin (i := 1) hk hL (by decide), ?_⟩
  show vp_in _ _ ∧ _
  refine ⟨vin (i := 2) hk hL (by decide), ?_⟩
  show CPd G l 102 80 0 201 _ (mkH I1 J1 rd1 rr1) _
  rw [mf_of]
  refine CPd_of (m_drawn ok I1 J1 rd1 rr1 (getQ I1) I1 J1 hM1) (by decide) rfl (fun v h' hq => ?_)
  obtain ⟨⟨I2, Q2, S2, T2⟩, rfl, rfl, hM2, fr2⟩ := hq
  refine And.intro (fun _ => ?_) (fun w => absurd rfl w)
  show K 80 1113 (LW k) [] (mkH (setS (setQ I2 Q2) S2) (setT J1 T2) rd1 rr1)
  exact next _ _ _ _ ⟨_, ok, hC1.fr (frM.mf fr2), hM2.law frC.r⟩
theorem cs_chance {k : Nat} (hK : Cl G l 102 8 1 (mkT 1121 tL_law) 80 Q K) (hk : 6 * k + 6 ≤ gL G) (hL : gL G ≤ 3072) (h : Rel G l I J rr) (next : ∀ I' J' rd' rr', Rel G l I' J' rr' → K 80 1113 (LW k) [] (mkH I' J' rd' rr')) : K 80 775 (LW k) [] (mkH I J rd rr) := by
  obtain ⟨A, ok, hC, hM⟩ := h
  refine hK.1 [(1113, [true, true, true, true])] 100 _ _ _ _ _ ?_
  show vp_in _ _ ∧ _
  refine ⟨vin (i := 1) hk hL (by decide), ?_⟩
  show vp_in _ _ ∧ _
  refine ⟨vin (i := 2) hk hL (by decide), ?_⟩
  show vp_in _ _ ∧ _
  refine ⟨vin (i := 3) hk hL (by decide), ?_⟩
  show vp_in _ _ ∧ _
  refine ⟨vin (i := 4) hk hL (by decide), ?_⟩
  refine CPd_of (c_chance ok I J rd rr hC) (by decide) rfl (fun v h' hq => ?_)
  obtain ⟨⟨I1, J1, rd1, rr1⟩, rfl, rfl, hC1, fr1⟩ := hq
  have hM1 : MF G l I1 (getQ I1) I1 J1 A := hM.step fr1
  show vp_in _ _ ∧ _
  refine ⟨vin (i := 1) hk hL (by decide), ?_⟩
  show vp_in _ _ ∧ _
  refine ⟨vin (i := 2) hk hL (by decide), ?_⟩
  show vp_in _ _ ∧ _
  refine ⟨vin (i := 3) hk hL (by decide), ?_⟩
  show vp_in _ _ ∧ _
  refine ⟨vin (i := 4) hk hL (by decide), ?_⟩
  show CPd G l 102 80 0 202 _ (mkH I1 J1 rd1 rr1) _
  rw [mf_of]
  refine CPd_of (m_chance ok I1 J1 rd1 rr1 (getQ I1) I1 J1 hM1) (by decide) rfl (fun v h' hq => ?_)
  obtain ⟨⟨I2, Q2, S2, T2⟩, rfl, rfl, hM2, fr2⟩ := hq
  refine And.intro (fun _ => ?_) (fun w => absurd (by rw [lg_cmp_0]) w)
  show K 80 1113 (LW k) [] (mkH (setS (setQ I2 Q2) S2) (setT J1 T2) rd1 rr1)
  exact next _ _ _ _ ⟨_, ok, hC1.fr (frM.mf fr2), hM2.law frC.r⟩
theorem cs_image {k : Nat} (hK : Cl G l 102 8 1 (mkT 1121 tL_law) 80 Q K) (hk : 6 * k + 6 ≤ gL G) (hL : gL G ≤ 3072) (h : Rel G l I J rr) (next : ∀ I' J' rd' rr', Rel G l I' J' rr' → K 80 1113 (LW k) [] (mkH I' J' rd' rr')) : K 80 829 (LW k) [] (mkH I J rd rr) := by
  obtain ⟨A, ok, hC, hM⟩ := h
  refine hK.1 [(1113, [true, true, true, true])] 100 _ _ _ _ _ ?_
  refine CPd_of (c_image ok I J rd rr hC) (by decide) rfl (fun v h' hq => ?_)
  obtain ⟨⟨I1, J1, rd1, rr1⟩, rfl, rfl, hC1, fr1⟩ := hq
  have hM1 : MF G l I1 (getQ I1) I1 J1 A := hM.step fr1
  show CPd G l 102 80 0 203 _ (mkH I1 J1 rd1 rr1) _
  rw [mf_of]
  refine CPd_of (m_image ok I1 J1 rd1 rr1 (getQ I1) I1 J1 hM1) (by decide) rfl (fun v h' hq => ?_)
  obtain ⟨⟨I2, Q2, S2, T2⟩, rfl, rfl, hM2, fr2⟩ := hq
  refine And.intro (fun _ => ?_) (fun w => absurd rfl w)
  show K 80 1113 (LW k) [] (mkH (setS (setQ I2 Q2) S2) (setT J1 T2) rd1 rr1)
  exact next _ _ _ _ ⟨_, (ok_image ok), hC1.fr (frM.mf fr2), hM2.law frC.r⟩
theorem cs_back {k : Nat} (hK : Cl G l 102 8 1 (mkT 1121 tL_law) 80 Q K) (hk : 6 * k + 6 ≤ gL G) (hL : gL G ≤ 3072) (h : Rel G l I J rr) (next : ∀ I' J' rd' rr', Rel G l I' J' rr' → K 80 1113 (LW k) [] (mkH I' J' rd' rr')) : K 80 842 (LW k) [] (mkH I J rd rr) := by
  obtain ⟨A, ok, hC, hM⟩ := h
  refine hK.1 [(1113, [true, true, true, true])] 100 _ _ _ _ _ ?_
  refine CPd_of (c_back ok I J rd rr hC) (by decide) rfl (fun v h' hq => ?_)
  obtain ⟨⟨I1, J1, rd1, rr1⟩, rfl, rfl, hC1, fr1⟩ := hq
  have hM1 : MF G l I1 (getQ I1) I1 J1 A := hM.step fr1
  show CPd G l 102 80 0 204 _ (mkH I1 J1 rd1 rr1) _
  rw [mf_of]
  refine CPd_of (m_back ok I1 J1 rd1 rr1 (getQ I1) I1 J1 hM1) (by decide) rfl (fun v h' hq => ?_)
  obtain ⟨⟨I2, Q2, S2, T2⟩, rfl, rfl, hM2, fr2⟩ := hq
  refine And.intro (fun _ => ?_) (fun w => absurd rfl w)
  show K 80 1113 (LW k) [] (mkH (setS (setQ I2 Q2) S2) (setT J1 T2) rd1 rr1)
  exact next _ _ _ _ ⟨_, (ok_back ok), hC1.fr (frM.mf fr2), hM2.law frC.r⟩
theorem cs_count {k : Nat} (hK : Cl G l 102 8 1 (mkT 1121 tL_law) 80 Q K) (hk : 6 * k + 6 ≤ gL G) (hL : gL G ≤ 3072) (h : Rel G l I J rr) (next : ∀ I' J' rd' rr', Rel G l I' J' rr' → K 80 1113 (LW k) [] (mkH I' J' rd' rr')) : K 80 855 (LW k) [] (mkH I J rd rr) := by
  obtain ⟨A, ok, hC, hM⟩ := h
  refine hK.1 [(1113, [true, true, true, true])] 100 _ _ _ _ _ ?_
  show vp_in _ _ ∧ _
  refine ⟨vin (i := 1) hk hL (by decide), ?_⟩
  refine CPd_of (c_count ok I J rd rr hC) (by decide) rfl (fun v h' hq => ?_)
  obtain ⟨⟨I1, J1, rd1, rr1⟩, rfl, rfl, hC1, fr1⟩ := hq
  have hM1 : MF G l I1 (getQ I1) I1 J1 A := hM.step fr1
  show vp_in _ _ ∧ _
  refine ⟨vin (i := 1) hk hL (by decide), ?_⟩
  show CPd G l 102 80 0 205 _ (mkH I1 J1 rd1 rr1) _
  rw [mf_of]
  refine CPd_of (m_count ok I1 J1 rd1 rr1 (getQ I1) I1 J1 hM1) (by decide) rfl (fun v h' hq => ?_)
  obtain ⟨⟨I2, Q2, S2, T2⟩, rfl, rfl, hM2, fr2⟩ := hq
  refine And.intro (fun _ => ?_) (fun w => absurd rfl w)
  show K 80 1113 (LW k) [] (mkH (setS (setQ I2 Q2) S2) (setT J1 T2) rd1 rr1)
  exact next _ _ _ _ ⟨_, ok, hC1.fr (frM.mf fr2), hM2.law frC.r⟩
theorem cs_sheet {k : Nat} (hK : Cl G l 102 8 1 (mkT 1121 tL_law) 80 Q K) (hk : 6 * k + 6 ≤ gL G) (hL : gL G ≤ 3072) (h : Rel G l I J rr) (next : ∀ I' J' rd' rr', Rel G l I' J' rr' → K 80 1113 (LW k) [] (mkH I' J' rd' rr')) : K 80 878 (LW k) [] (mkH I J rd rr) := by
  obtain ⟨A, ok, hC, hM⟩ := h
  refine hK.1 [(1113, [true, true, true, true])] 100 _ _ _ _ _ ?_
  show vp_in _ _ ∧ _
  refine ⟨vin (i := 1) hk hL (by decide), ?_⟩
  show vp_in _ _ ∧ _
  refine ⟨vin (i := 2) hk hL (by decide), ?_⟩
  show vp_in _ _ ∧ _
  refine ⟨vin (i := 3) hk hL (by decide), ?_⟩
  refine CPd_of (c_sheet ok I J rd rr hC) (by decide) rfl (fun v h' hq => ?_)
  obtain ⟨⟨I1, J1, rd1, rr1⟩, rfl, rfl, hC1, fr1⟩ := hq
  have hM1 : MF G l I1 (getQ I1) I1 J1 A := hM.step fr1
  show vp_in _ _ ∧ _
  refine ⟨vin (i := 1) hk hL (by decide), ?_⟩
  show vp_in _ _ ∧ _
  refine ⟨vin (i := 2) hk hL (by decide), ?_⟩
  show vp_in _ _ ∧ _
  refine ⟨vin (i := 3) hk hL (by decide), ?_⟩
  show CPd G l 102 80 0 200 _ (mkH I1 J1 rd1 rr1) _
  rw [mf_of]
  refine CPd_of (m_sheet I1 J1 rd1 rr1 (getQ I1) I1 J1 hM1) (by decide) rfl (fun v h' hq => ?_)
  obtain ⟨⟨I2, Q2, S2, T2⟩, rfl, rfl, hM2, fr2⟩ := hq
  refine And.intro (fun _ => ?_) (fun w => absurd rfl w)
  show K 80 1113 (LW k) [] (mkH (setS (setQ I2 Q2) S2) (setT J1 T2) rd1 rr1)
  exact next _ _ _ _ ⟨_, (ok_sheet ok), hC1.fr (frM.mf fr2), hM2.law frC.r⟩
theorem cs_cell {k : Nat} (hK : Cl G l 102 8 1 (mkT 1121 tL_law) 80 Q K) (hk : 6 * k + 6 ≤ gL G) (hL : gL G ≤ 3072) (h : Rel G l I J rr) (next : ∀ I' J' rd' rr', Rel G l I' J' rr' → K 80 1113 (LW k) [] (mkH I' J' rd' rr')) : K 80 921 (LW k) [] (mkH I J rd rr) := by
  obtain ⟨A, ok, hC, hM⟩ := h
  refine hK.1 [(1113, [true, true, true, true])] 100 _ _ _ _ _ ?_
  show vp_in _ _ ∧ _
  refine ⟨vin (i := 1) hk hL (by decide), ?_⟩
  show vp_in _ _ ∧ _
  refine ⟨vin (i := 2) hk hL (by decide), ?_⟩
  show vp_in _ _ ∧ _
  refine ⟨vin (i := 3) hk hL (by decide), ?_⟩
  refine CPd_of (c_cell ok I J rd rr hC) (by decide) rfl (fun v h' hq => ?_)
  obtain ⟨⟨I1, J1, rd1, rr1⟩, rfl, rfl, hC1, fr1⟩ := hq
  have hM1 : MF G l I1 (getQ I1) I1 J1 A := hM.step fr1
  show vp_in _ _ ∧ _
  refine ⟨vin (i := 1) hk hL (by decide), ?_⟩
  show vp_in _ _ ∧ _
  refine ⟨vin (i := 2) hk hL (by decide), ?_⟩
  show vp_in _ _ ∧ _
  refine ⟨vin (i := 3) hk hL (by decide), ?_⟩
  show CPd G l 102 80 0 206 _ (mkH I1 J1 rd1 rr1) _
  rw [mf_of]
  refine CPd_of (m_cell ok I1 J1 rd1 rr1 (getQ I1) I1 J1 hM1) (by decide) rfl (fun v h' hq => ?_)
  obtain ⟨⟨I2, Q2, S2, T2⟩, rfl, rfl, hM2, fr2⟩ := hq
  refine And.intro (fun _ => ?_) (fun w => absurd rfl w)
  show K 80 1113 (LW k) [] (mkH (setS (setQ I2 Q2) S2) (setT J1 T2) rd1 rr1)
  exact next _ _ _ _ ⟨_, (ok_cell ok), hC1.fr (frM.mf fr2), hM2.law frC.r⟩
theorem cs_copy {k : Nat} (hK : Cl G l 102 8 1 (mkT 1121 tL_law) 80 Q K) (hk : 6 * k + 6 ≤ gL G) (hL : gL G ≤ 3072) (h : Rel G l I J rr) (next : ∀ I' J' rd' rr', Rel G l I' J' rr' → K 80 1113 (LW k) [] (mkH I' J' rd' rr')) : K 80 964 (LW k) [] (mkH I J rd rr) := by
  obtain ⟨A, ok, hC, hM⟩ := h
  refine hK.1 [(1113, [true, true, true, true])] 100 _ _ _ _ _ ?_
  show vp_in _ _ ∧ _
  refine ⟨vin (i := 1) hk hL (by decide), ?_⟩
  show vp_in _ _ ∧ _
  refine ⟨vin (i := 2) hk hL (by decide), ?_⟩
  show vp_in _ _ ∧ _
  refine ⟨vin (i := 3) hk hL (by decide), ?_⟩
  show vp_in _ _ ∧ _
  refine ⟨vin (i := 4) hk hL (by decide), ?_⟩
  show vp_in _ _ ∧ _
  refine ⟨vin (i := 5) hk hL (by decide), ?_⟩
  refine CPd_of (c_copy ok I J rd rr hC) (by decide) rfl (fun v h' hq => ?_)
  obtain ⟨⟨I1, J1, rd1, rr1⟩, rfl, rfl, hC1, fr1⟩ := hq
  have hM1 : MF G l I1 (getQ I1) I1 J1 A := hM.step fr1
  show vp_in _ _ ∧ _
  refine ⟨vin (i := 1) hk hL (by decide), ?_⟩
  show vp_in _ _ ∧ _
  refine ⟨vin (i := 2) hk hL (by decide), ?_⟩
  show vp_in _ _ ∧ _
  refine ⟨vin (i := 3) hk hL (by decide), ?_⟩
  show vp_in _ _ ∧ _
  refine ⟨vin (i := 4) hk hL (by decide), ?_⟩
  show vp_in _ _ ∧ _
  refine ⟨vin (i := 5) hk hL (by decide), ?_⟩
  show CPd G l 102 80 0 207 _ (mkH I1 J1 rd1 rr1) _
  rw [mf_of]
  refine CPd_of (m_copy ok I1 J1 rd1 rr1 (getQ I1) I1 J1 hM1) (by decide) rfl (fun v h' hq => ?_)
  obtain ⟨⟨I2, Q2, S2, T2⟩, rfl, rfl, hM2, fr2⟩ := hq
  refine And.intro (fun _ => ?_) (fun w => absurd rfl w)
  show K 80 1113 (LW k) [] (mkH (setS (setQ I2 Q2) S2) (setT J1 T2) rd1 rr1)
  exact next _ _ _ _ ⟨_, (ok_copy ok), hC1.fr (frM.mf fr2), hM2.law frC.r⟩
theorem cs_valley {k : Nat} (hK : Cl G l 102 8 1 (mkT 1121 tL_law) 80 Q K) (hk : 6 * k + 6 ≤ gL G) (hL : gL G ≤ 3072) (h : Rel G l I J rr) (next : ∀ I' J' rd' rr', Rel G l I' J' rr' → K 80 1113 (LW k) [] (mkH I' J' rd' rr')) : K 80 1027 (LW k) [] (mkH I J rd rr) := by
  obtain ⟨A, ok, hC, hM⟩ := h
  refine hK.1 [(1113, [true, true, true, true])] 100 _ _ _ _ _ ?_
  show vp_in _ _ ∧ _
  refine ⟨vin (i := 1) hk hL (by decide), ?_⟩
  show vp_in _ _ ∧ _
  refine ⟨vin (i := 2) hk hL (by decide), ?_⟩
  show vp_in _ _ ∧ _
  refine ⟨vin (i := 3) hk hL (by decide), ?_⟩
  show vp_in _ _ ∧ _
  refine ⟨vin (i := 4) hk hL (by decide), ?_⟩
  refine CPd_of (c_valley ok I J rd rr hC) (by decide) rfl (fun v h' hq => ?_)
  obtain ⟨⟨I1, J1, rd1, rr1⟩, rfl, rfl, hC1, fr1⟩ := hq
  have hM1 : MF G l I1 (getQ I1) I1 J1 A := hM.step fr1
  show vp_in _ _ ∧ _
  refine ⟨vin (i := 1) hk hL (by decide), ?_⟩
  show vp_in _ _ ∧ _
  refine ⟨vin (i := 2) hk hL (by decide), ?_⟩
  show vp_in _ _ ∧ _
  refine ⟨vin (i := 3) hk hL (by decide), ?_⟩
  show vp_in _ _ ∧ _
  refine ⟨vin (i := 4) hk hL (by decide), ?_⟩
  show CPd G l 102 80 0 208 _ (mkH I1 J1 rd1 rr1) _
  rw [mf_of]
  refine CPd_of (m_valley ok I1 J1 rd1 rr1 (getQ I1) I1 J1 hM1) (by decide) rfl (fun v h' hq => ?_)
  obtain ⟨⟨I2, Q2, S2, T2⟩, rfl, rfl, hM2, fr2⟩ := hq
  refine And.intro (fun _ => ?_) (fun w => absurd rfl w)
  show K 80 1113 (LW k) [] (mkH (setS (setQ I2 Q2) S2) (setT J1 T2) rd1 rr1)
  exact next _ _ _ _ ⟨_, (ok_valley ok), hC1.fr (frM.mf fr2), hM2.law frC.r⟩
theorem cs_taken {k : Nat} (hK : Cl G l 102 8 1 (mkT 1121 tL_law) 80 Q K) (hk : 6 * k + 6 ≤ gL G) (hL : gL G ≤ 3072) (h : Rel G l I J rr) (next : ∀ I' J' rd' rr', Rel G l I' J' rr' → K 80 1113 (LW k) [] (mkH I' J' rd' rr')) : K 80 1080 (LW k) [] (mkH I J rd rr) := by
  obtain ⟨A, ok, hC, hM⟩ := h
  refine hK.1 [(1113, [true, true, true, true])] 100 _ _ _ _ _ ?_
  show vp_in _ _ ∧ _
  refine ⟨vin (i := 1) hk hL (by decide), ?_⟩
  show vp_in _ _ ∧ _
  refine ⟨vin (i := 2) hk hL (by decide), ?_⟩
  refine CPd_of (c_taken ok I J rd rr hC) (by decide) rfl (fun v h' hq => ?_)
  obtain ⟨⟨I1, J1, rd1, rr1⟩, rfl, rfl, hC1, fr1⟩ := hq
  have hM1 : MF G l I1 (getQ I1) I1 J1 A := hM.step fr1
  show vp_in _ _ ∧ _
  refine ⟨vin (i := 1) hk hL (by decide), ?_⟩
  show vp_in _ _ ∧ _
  refine ⟨vin (i := 2) hk hL (by decide), ?_⟩
  show CPd G l 102 80 0 173 _ (mkH I1 J1 rd1 rr1) _
  rw [mf_of]
  refine CPd_of (m_taken ok I1 J1 rd1 rr1 (getQ I1) I1 J1 hM1) (by decide) rfl (fun v h' hq => ?_)
  obtain ⟨⟨I2, Q2, S2, T2⟩, rfl, rfl, hM2, fr2⟩ := hq
  refine And.intro (fun _ => ?_) (fun w => absurd rfl w)
  show K 80 1113 (LW k) [] (mkH (setS (setQ I2 Q2) S2) (setT J1 T2) rd1 rr1)
  exact next _ _ _ _ ⟨_, ok, hC1.fr (frM.mf fr2), hM2.law frC.r⟩
end Z9
