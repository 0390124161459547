/-! the reference: a day passes -/
section M5
variable {G : GT} {l : Launch} {I : HI} {J : HJ} {rd : Option AO} {rr : Nat → Nat}
theorem asl_congr {P Q : PP} : ∀ (m : Nat), (∀ p, Q p 6 = P p 6) → aslS Q m = aslS P m
  | 0, _ => rfl
  | m + 1, h => by rw [aslS, aslS, asl_congr m h, h]
theorem act_WF {B : BT} {P : PP} {m i : Nat} {day asl : Int32} (h : WF P m) : WF (actS B day asl m P i) m := by
  unfold actS
  split
  · split
    · exact tell_WF (h.up (Or.inr (Or.inl rfl)) rg_bnd)
    · exact h.up (Or.inr (Or.inl rfl)) rg_bnd
  · exact h.up (Or.inl rfl) rg_bnd
theorem acts_WF {B : BT} {P : PP} {m : Nat} {day asl : Int32} (h : WF P m) : ∀ k, WF (actsS B day asl m P k) m
  | 0 => h
  | k + 1 => act_WF (acts_WF h k)
theorem slw_WF {P : PP} {m : Nat} (h : WF P m) : ∀ k, WF (slwP P k) m := by
  intro k p hp
  have hp' := h p hp
  rw [slw_a (by decide), slw_a (by decide), slw_a (by decide), slw_a (by decide), slw_a (by decide), slw_a (by decide), slw_6]
  refine ⟨hp'.1, hp'.2.1, hp'.2.2.1, hp'.2.2.2.1, hp'.2.2.2.2.1, hp'.2.2.2.2.2.1, ?_⟩
  split
  · exact slw1_b hp'.2.2.2.2.2.2
  · exact hp'.2.2.2.2.2.2
theorem day_WF {B : BT} {P : PP} {m : Nat} {day : Int32} (h : WF P m) : WF (dayS B day m P) m := slw_WF (acts_WF h m) m
theorem dayN_WF {B : BT} {P : PP} {m : Nat} {day : Int32} (h : WF P m) : ∀ k, WF (dayN B day m P k) m
  | 0 => h
  | k + 1 => day_WF (dayN_WF h k)
theorem RE.day {n m r dd dd' : Nat} {Bs : Nat → BT} (h : RE G l n Bs I m r dd) (hd : dd' < 2048) : RE G l n Bs (upI I 20 0 0 7 (nI dd')) m r dd' := by
  obtain ⟨h1, h2, h3, h4, h5, h6, h7, h8⟩ := h
  refine ⟨h1.same (by funext t; simp [upI]) (by funext t; simp [upI]), h2, h3, by rw [upI_at, if_neg (by simp)]; exact h4, upI_s, hd, by rw [upI_at, if_neg (by simp)]; exact h7, h8⟩
theorem e_passes {n m r dd : Nat} {Bs : Nat → BT} {P : PP} {S : HI} {T : HJ} (hE : RE G l n Bs I m r dd) (hM : MOK n Bs S T) (hW : WF P m) :
    Ev G l 65 (mt 178) 80 80 [vR 20 0 0] (mf I J rd rr P S T) (fun v h' => ∃ q : HI × HJ, v = none ∧ h' = mf (upI I 20 0 0 7 (nI (dd + 1))) J rd rr (dayS (Bs r) (nI dd) m P) q.1 q.2 ∧ MOK n Bs q.1 q.2) := by
  obtain ⟨hR, hn, hr, hI4, hI7, hdd, hm, h5⟩ := id hE
  refine Ev_go iM_passes rfl rfl rfl ⟨Nat.le_refl _, Nat.le_refl _⟩ (fun K hK => ?_)
  have loop2 : ∀ j k S T, k + j = m → MOK n Bs S T → K 80 105 [some (vR 20 0 0), some (vI (nI k)), none] [] (mf I J rd rr (slwP (actsS (Bs r) (nI dd) (aslS P m) m P m) k) S T) := by
    intro j
    induction j with
    | zero =>
      intro k S T hk hM
      refine hK.1 [] 50 _ _ _ _ _ ?_
      rw [show k = m by omega]
      refine And.intro (fun h1 => ?_) (fun h1 => absurd ?_ h1)
      · refine ⟨rfl, (S, T), rfl, ?_, hM⟩
        rw [mf_I (by decide), hI7, mf_wI (by decide), nI_succ]
        rfl
      · rw [mf_I (by decide), hm]; exact nI_le (Nat.le_refl _) (by omega)
    | succ j ih =>
      intro k S T hk hM
      have e := ih (k + 1) S T (by omega) hM
      rw [nI_succ, slwP] at e
      generalize slwP (actsS (Bs r) (nI dd) (aslS P m) m P m) k = R at e
      refine hK.1 [(105, [true, true])] 60 _ _ _ _ _ ?_
      refine And.intro (fun h1 => absurd h1 ?_) (fun h1 => ?_)
      · rw [mf_I (by decide), hm]; exact nI_ge (by omega) (by omega)
      · refine c_its rfl (w := 2) rfl (by omega) (by decide) (by decide) ?_
        refine And.intro (fun h2 => ?_) (fun h2 => ?_)
        · refine And.intro (fun h3 => ?_) (fun h3 => ?_)
          · refine c_its rfl (w := 6) rfl (by omega) (by decide) (by decide) ?_
            refine c_lays rfl (w := 6) rfl (by omega) (by decide) (by decide) ?_
            show K 80 105 _ _ _
            refine Kc e rfl ?_
            rw [show slw1 (R k 2) (R k 6) = R k 6 by unfold slw1; grind]
          · refine c_lays rfl (w := 6) rfl (by omega) (by decide) (by decide) ?_
            show K 80 105 _ _ _
            refine Kc e rfl ?_
            rw [show slw1 (R k 2) (R k 6) = 0 by unfold slw1; grind]
        · refine c_lays rfl (w := 6) rfl (by omega) (by decide) (by decide) ?_
          show K 80 105 _ _ _
          refine Kc e rfl ?_
          rw [show slw1 (R k 2) (R k 6) = 1 by unfold slw1; grind]
  have loop : ∀ j k S T, k + j = m → MOK n Bs S T → K 80 2 [some (vR 20 0 0), some (vI (nI k)), none] [] (mf I J rd rr (actsS (Bs r) (nI dd) (aslS P m) m P k) S T) := by
    intro j
    induction j with
    | zero =>
      intro k S T hk hM
      refine hK.1 [(105, [true, true])] 50 _ _ _ _ _ ?_
      rw [show k = m by omega]
      refine And.intro (fun h1 => ?_) (fun h1 => absurd ?_ h1)
      · exact loop2 m 0 S T (by omega) hM
      · rw [mf_I (by decide), hm]; exact nI_le (Nat.le_refl _) (by omega)
    | succ j ih =>
      intro k S T hk hM
      have e := fun S T hM => ih (k + 1) S T (by omega) hM
      simp only [nI_succ, actsS] at e
      have hWR : WF (actsS (Bs r) (nI dd) (aslS P m) m P k) m := acts_WF hW k
      have haR : aslS (actsS (Bs r) (nI dd) (aslS P m) m P k) m = aslS P m := asl_congr m (fun p => acts_a (by decide) (by decide) (by decide) k)
      generalize actsS (Bs r) (nI dd) (aslS P m) m P k = R at e hWR haR
      have hb := hWR.b k (by omega)
      refine hK.1 [(2, [true, true])] 60 _ _ _ _ _ ?_
      refine And.intro (fun h1 => absurd h1 ?_) (fun h1 => ?_)
      · rw [mf_I (by decide), hm]; exact nI_ge (by omega) (by omega)
      · refine c_its rfl (w := 6) rfl (by omega) (by decide) (by decide) ?_
        refine And.intro (fun h2 => ?_) (fun h2 => ?_)
        · have h2' : R k 6 = 0 := hb.resolve_right h2
          refine c_its rfl (w := 3) rfl (by omega) (by decide) (by decide) ?_
          refine CPd_exc (e_mdoesOf hE hM hWR (by omega)) (by decide) rfl (fun q hq => ?_)
          rw [haR]
          refine c_within (by decide) ?_
          refine c_lays rfl (w := 3) rfl (by omega) (by decide) (by decide) ?_
          refine c_its rfl (w := 4) rfl (by omega) (by decide) (by decide) ?_
          rw [upP_a (by decide)]
          refine And.intro (fun h3 => ?_) (fun h3 => ?_)
          · show K 80 2 _ _ _
            refine Kc (e q.1 q.2 hq) rfl ?_
            rw [actS, if_pos h2', if_neg (by rw [h3]; exact fun z => absurd z.1.1 (by decide))]
          · obtain ⟨o, ho, hoe⟩ := (hWR k (by omega)).2.2.2.2.1.resolve_left h3
            refine c_its hoe (w := 6) rfl (by omega) (by decide) (by decide) ?_
            rw [upP_a (by decide)]
            refine And.intro (fun h4 => ?_) (fun h4 => ?_)
            · show K 80 2 _ _ _
              refine Kc (e q.1 q.2 hq) rfl ?_
              rw [actS, if_pos h2', hoe, nI_clamp (by omega), if_neg (fun z => h4 z.2)]
            · rw [hoe]
              refine CPd_exc (e_goes hE hq (hWR.up (Or.inr (Or.inl rfl)) rg_bnd) (by omega) ho) (by decide) rfl (fun q' hq' => ?_)
              show K 80 2 _ _ _
              refine Kc (e q'.1 q'.2 hq') rfl ?_
              rw [actS, if_pos h2', hoe, nI_clamp (by omega), if_pos ⟨⟨nI_pos' (by omega), nI_lt ho (by omega)⟩, h4⟩, asl_congr (P := R) m (fun p => upP_a (by decide)), haR]
        · refine c_its rfl (w := 2) rfl (by omega) (by decide) (by decide) ?_
          refine c_within (by decide) ?_
          refine c_lays rfl (w := 2) rfl (by omega) (by decide) (by decide) ?_
          show K 80 2 _ _ _
          refine Kc (e S T hM) rfl ?_
          rw [actS, if_neg (by rw [h2]; decide)]
  exact hK.1 [(2, [true, true])] 60 _ _ _ _ _ (loop m 0 S T (by omega) hM)
end M5
