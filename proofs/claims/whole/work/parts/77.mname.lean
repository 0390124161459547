/-! the reference's words, names; what is open */ -/
section X3
variable {G : GT} {l : Launch} {I : HI} {J : HJ} {rd : Option AO} {rr : Nat → Nat}
def ltB (b : Nat → Nat) (a e j c : Nat) : Prop := if a + j < e then b (a + j) = c else c = 0
theorem c_isLetter {d j a e base n c : Nat} {b : Nat → Nat} {x y : Int32} {P : PP} {S : HI} {T : HJ} {post : Option AV → AH → Prop} (h : TXh b n base I S) (h21 : S 20 0 0 21 = nI a) (h19 : S 20 0 0 19 = nI e) (ha : a ≤ n) (he : e ≤ n) (hx : x = nI j) (hj : j < 8) (hy : y = nI c) (hc : c < 256) (hd : 1 < d)
    (k0 : ¬ ltB b a e j c → post (some (vI 0)) (mf I J rd rr P S T)) (k1 : ltB b a e j c → post (some (vI 1)) (mf I J rd rr P S T)) : CPd G l d 80 0 152 [vR 20 0 0, vI x, vI y] (mf I J rd rr P S T) post := by
  subst hx hy
  have hn := h.1
  have E : Ev G l 1 (mt 152) 80 80 [vR 20 0 0, vI (nI j), vI (nI c)] (mf I J rd rr P S T) (fun r h' => ∃ u : Int32, r = some (vI u) ∧ h' = mf I J rd rr P S T ∧ ((u = 0 ∧ ¬ ltB b a e j c) ∨ (u = 1 ∧ ltB b a e j c))) := by
    refine Ev_go iM_isLetter rfl rfl rfl ⟨Nat.le_refl _, Nat.le_refl _⟩ (fun K hK => hK.1 [] 120 _ _ _ _ _ ?_)
    have e1 : getI (mf I J rd rr P S T) 20 0 0 21 + nI j = nI (a + j) := by rw [mf_ge (by decide), h21, nI_plus]
    have e2 : getI (mf I J rd rr P S T) 20 0 0 19 = nI e := by rw [mf_ge (by decide), h19]
    refine And.intro (fun q => ?_) (fun q => ?_)
    · rw [e1, e2] at q
      have hge : ¬ a + j < e := fun z => absurd q (nI_ge z (by omega))
      refine And.intro (fun q2 => ?_) (fun q2 => ?_)
      · refine ⟨Or.inl rfl, rfl, 0, rfl, rfl, Or.inl ⟨rfl, ?_⟩⟩
        unfold ltB
        rw [if_neg hge]
        exact fun z => q2 (by rw [z]; rfl)
      · refine ⟨Or.inr rfl, rfl, 1, rfl, rfl, Or.inr ⟨rfl, ?_⟩⟩
        unfold ltB
        rw [if_neg hge]
        exact nI_ij (b := 0) q2 (by omega) (by decide)
    · rw [e1, e2] at q
      have hlt : a + j < e := by
        refine Classical.byContradiction fun z => q (nI_le (by omega) (by omega))
      refine c_byteAt h e1 (by omega) (by decide) ?_
      have hby : byI b n (a + j) = nI (b (a + j)) := by unfold byI; rw [if_pos (by omega)]
      have hbb := (h.2.2.2.2 (a + j) (by omega)).1
      rw [hby]
      refine And.intro (fun q2 => ?_) (fun q2 => ?_)
      · refine ⟨Or.inl rfl, rfl, 0, rfl, rfl, Or.inl ⟨rfl, ?_⟩⟩
        unfold ltB
        rw [if_pos hlt]
        exact fun z => q2 (by rw [z])
      · refine ⟨Or.inr rfl, rfl, 1, rfl, rfl, Or.inr ⟨rfl, ?_⟩⟩
        unfold ltB
        rw [if_pos hlt]
        exact nI_ij q2 (by omega) (by omega)
  refine CPd_of E hd rfl (fun r h' q => ?_)
  obtain ⟨u, rfl, rfl, q⟩ := q
  rcases q with ⟨rfl, q⟩ | ⟨rfl, q⟩
  · exact k0 q
  · exact k1 q
theorem wd_lt {b : Nat → Nat} {a e k : Nat} (hk : k < 12) (hae : a ≤ e) (hnz : ∀ i, a ≤ i → i < e → b i ≠ 0) : wdM b a e k = true ↔ e ≤ a + 8 ∧ ∀ j, j < 8 → ltB b a e j ((wdL k).getD j 0) := by
  obtain ⟨⟨w6, w1⟩, wf⟩ := wd_facts k hk
  rw [wdM_at]
  constructor
  · rintro ⟨h1, h2⟩
    refine ⟨by omega, fun j hj => ?_⟩
    unfold ltB
    by_cases hjl : j < (wdL k).length
    · rw [if_pos (by omega)]
      exact h2 j hjl
    · rw [if_neg (by omega)]
      exact (wf j hj).2 (by omega)
  · rintro ⟨h1, h2⟩
    have hlow : ∀ j, j < (wdL k).length → a + j < e ∧ b (a + j) = (wdL k).getD j 0 := by
      intro j hj
      have := h2 j (by omega)
      unfold ltB at this
      by_cases hlt : a + j < e
      · rw [if_pos hlt] at this
        exact ⟨hlt, this⟩
      · rw [if_neg hlt] at this
        exact absurd this ((wf j (by omega)).1 hj).1
    have hend : ¬ a + (wdL k).length < e := by
      intro hlt
      have := h2 (wdL k).length (by omega)
      unfold ltB at this
      rw [if_pos hlt, (wf _ (by omega)).2 (Nat.le_refl _)] at this
      exact hnz _ (by omega) hlt this
    have h3 := (hlow ((wdL k).length - 1) (by omega)).1
    exact ⟨by omega, fun j hj => (hlow j hj).2⟩
/-- the k-th word is the i-th token -/
def isWd (b : Nat → Nat) (n i k : Nat) : Prop := psA b n i < n ∧ isLe (b (psA b n i)) = true ∧ wdM b (psA b n i) (skA isLe b n (psA b n i)) k = true
theorem isWd_key {b : Nat → Nat} {n i k : Nat} (hb : ∀ i, i < n → b i < 256) (hk : k < 12) (h6 : 6 ≤ k) : isWd b n i k ↔ tkC b n i = nI (1000 + k) := by
  have hns : ∀ k, k < 12 → nI (1000 + k) ≠ 0 ∧ nI (1000 + k) ≠ 1 ∧ nI (1000 + k) ≠ 2 := by decide
  obtain ⟨n0, n1, n2⟩ := hns k hk
  unfold isWd
  by_cases hlt : psA b n i < n
  · cases hl : isLe (b (psA b n i)) with
    | true =>
      rw [(tk_le hlt hl).1, ← wdF_some hk]
      constructor
      · rintro ⟨-, -, h⟩
        rw [h]
        exact (wdC_k k hk k hk h6).mpr rfl
      · intro h
        refine ⟨hlt, rfl, ?_⟩
        cases hw : wdF b (psA b n i) (skA isLe b n (psA b n i)) 12 with
        | none => rw [hw] at h; exact absurd h.symm n1
        | some m =>
          rw [hw] at h
          rw [(wdC_k m (wdF_lt 12 hw).1 k hk h6).mp h]
    | false =>
      refine ⟨fun q => absurd q.2.1 (by decide), fun h => ?_⟩
      cases hd : isDi (b (psA b n i)) with
      | true =>
        rw [(tk_di hlt hl hd).1] at h
        split at h
        · exact absurd h.symm n1
        · exact absurd h.symm n2
      | false =>
        have hbs := hb _ hlt
        rw [(tk_sg hlt hl hd).1] at h
        split at h
        · have := nI_ij h (by omega) (by omega)
          omega
        · exact absurd h.symm n1
  · refine ⟨fun q => absurd q.1 hlt, fun h => ?_⟩
    rw [tk_end hlt] at h
    exact absurd h.symm n0
theorem c_isWord {d i k base n : Nat} {b : Nat → Nat} {x0 x1 x2 x3 x4 x5 x6 x7 : Int32} {P : PP} {S : HI} {T : HJ} {post : Option AV → AH → Prop} (h : TXh b n base I S) (ht : TkS b n i S T) (h24 : S 20 0 0 24 = 0) (hk : k < 12)
    (hx : x0 = nI ((wdL k).getD 0 0) ∧ x1 = nI ((wdL k).getD 1 0) ∧ x2 = nI ((wdL k).getD 2 0) ∧ x3 = nI ((wdL k).getD 3 0) ∧ x4 = nI ((wdL k).getD 4 0) ∧ x5 = nI ((wdL k).getD 5 0) ∧ x6 = nI ((wdL k).getD 6 0) ∧ x7 = nI ((wdL k).getD 7 0)) (hd : 2 < d)
    (k0 : ¬ isWd b n i k → post (some (vI 0)) (mf I J rd rr P S T)) (k1 : isWd b n i k → post (some (vI 1)) (mf I J rd rr P S T)) :
    CPd G l d 80 0 151 [vR 20 0 0, vI x0, vI x1, vI x2, vI x3, vI x4, vI x5, vI x6, vI x7] (mf I J rd rr P S T) post := by
  obtain ⟨hx0, hx1, hx2, hx3, hx4, hx5, hx6, hx7⟩ := hx
  have hn := h.1
  have hwf := (wd_facts k hk).2
  have hc : ∀ j, j < 8 → (wdL k).getD j 0 < 256 := fun j hj => by
    by_cases q : j < (wdL k).length
    · exact ((hwf j hj).1 q).2
    · rw [(hwf j hj).2 (by omega)]; decide
  have E : Ev G l 2 (mt 151) 80 80 [vR 20 0 0, vI x0, vI x1, vI x2, vI x3, vI x4, vI x5, vI x6, vI x7] (mf I J rd rr P S T) (fun r h' => ∃ u : Int32, r = some (vI u) ∧ h' = mf I J rd rr P S T ∧ ((u = 0 ∧ ¬ isWd b n i k) ∨ (u = 1 ∧ isWd b n i k))) := by
    refine Ev_go iM_isWord rfl rfl rfl ⟨Nat.le_refl _, Nat.le_refl _⟩ (fun K hK => hK.1 [] 120 _ _ _ _ _ ?_)
    have bad : ¬ isWd b n i k → ((0 : Int32) = 0 ∨ (0 : Int32) = 1) ∧ 80 = 80 ∧ ∃ u : Int32, some (vI 0) = some (vI u) ∧ mf I J rd rr P S T = mf I J rd rr P S T ∧ ((u = 0 ∧ ¬ isWd b n i k) ∨ (u = 1 ∧ isWd b n i k)) := fun q => ⟨Or.inl rfl, rfl, 0, rfl, rfl, Or.inl ⟨rfl, q⟩⟩
    have e20 : getI (mf I J rd rr P S T) 20 0 0 20 = S 20 0 0 20 := mf_ge (by decide)
    intro _
    refine And.intro (fun q => absurd ((mf_ge (by decide)).trans h24) q) (fun _ => And.intro (fun q => ?_) (fun q => ?_))
    · rw [e20] at q
      refine bad (fun z => q ?_)
      exact ((ht.2.2 z.1).1 z.2.1).1
    · rw [e20] at q
      -- a word is at hand
      have hlt : psA b n i < n := by
        refine Classical.byContradiction fun z => ?_
        rw [ht.2.1 (by omega)] at q
        exact absurd q (by decide)
      obtain ⟨g1, g2, g3, g4⟩ := ht.2.2 hlt
      have hl : isLe (b (psA b n i)) = true := by
        cases hl : isLe (b (psA b n i)) with
        | true => rfl
        | false =>
          cases hdd : isDi (b (psA b n i)) with
          | true =>
            rw [(g2 hl hdd).1] at q
            split at q <;> exact absurd q (by decide)
          | false =>
            cases hs : isSg (b (psA b n i)) with
            | true => rw [(g3 hl hdd hs).1] at q; exact absurd q (by decide)
            | false => rw [g4 hl hdd hs] at q; exact absurd q (by decide)
      have h19 := (g1 hl).2
      have h21 := ht.1
      have hsk := skA_p (p := isLe) (b := b) (n := n) (a := psA b n i) (by omega)
      have hnz : ∀ j, psA b n i ≤ j → j < skA isLe b n (psA b n i) → b j ≠ 0 := fun j q1 q2 => by
        have := of_decide_eq_true (hsk.2.2.2 j q1 q2)
        omega
      have hwd : isWd b n i k ↔ skA isLe b n (psA b n i) ≤ psA b n i + 8 ∧ ∀ j, j < 8 → ltB b (psA b n i) (skA isLe b n (psA b n i)) j ((wdL k).getD j 0) := by
        unfold isWd
        rw [wd_lt hk hsk.1 hnz]
        exact ⟨fun z => z.2.2, fun z => ⟨hlt, hl, z⟩⟩
      have nope : ∀ j, j < 8 → ¬ ltB b (psA b n i) (skA isLe b n (psA b n i)) j ((wdL k).getD j 0) → ¬ isWd b n i k := fun j hj q z => q ((hwd.mp z).2 j hj)
      have e1 : getI (mf I J rd rr P S T) 20 0 0 21 + 8 = nI (psA b n i + 8) := by
        rw [mf_ge (by decide), h21, show (8 : Int32) = nI 8 from rfl, nI_plus]
      have e2 : getI (mf I J rd rr P S T) 20 0 0 19 = nI (skA isLe b n (psA b n i)) := (mf_ge (by decide)).trans h19
      refine And.intro (fun q2 => ?_) (fun q2 => ?_)
      · rw [e1, e2, nI_lt' (by omega) (by omega)] at q2
        exact bad (fun z => by have := (hwd.mp z).1; omega)
      · rw [e1, e2, nI_lt' (by omega) (by omega)] at q2
        have L : ∀ {d j : Nat} {x y : Int32} {post : Option AV → AH → Prop}, x = nI j → j < 8 → y = nI ((wdL k).getD j 0) → 1 < d → (¬ ltB b (psA b n i) (skA isLe b n (psA b n i)) j ((wdL k).getD j 0) → post (some (vI 0)) (mf I J rd rr P S T)) → (ltB b (psA b n i) (skA isLe b n (psA b n i)) j ((wdL k).getD j 0) → post (some (vI 1)) (mf I J rd rr P S T)) → CPd G l d 80 0 152 [vR 20 0 0, vI x, vI y] (mf I J rd rr P S T) post :=
          fun hx hj hy hd k0 k1 => c_isLetter h h21 h19 (by omega) hsk.2.1 hx hj hy (hc _ hj) hd k0 k1
        refine L (j := 0) rfl (by decide) hx0 (by decide) (fun z => And.intro (fun _ => bad (nope 0 (by decide) z)) (fun z => absurd rfl z)) (fun z0 => And.intro (fun z => absurd z (by decide)) (fun _ => ?_))
        refine L (j := 1) rfl (by decide) hx1 (by decide) (fun z => And.intro (fun _ => bad (nope 1 (by decide) z)) (fun z => absurd rfl z)) (fun z1 => And.intro (fun z => absurd z (by decide)) (fun _ => ?_))
        refine L (j := 2) rfl (by decide) hx2 (by decide) (fun z => And.intro (fun _ => bad (nope 2 (by decide) z)) (fun z => absurd rfl z)) (fun z2 => And.intro (fun z => absurd z (by decide)) (fun _ => ?_))
        refine L (j := 3) rfl (by decide) hx3 (by decide) (fun z => And.intro (fun _ => bad (nope 3 (by decide) z)) (fun z => absurd rfl z)) (fun z3 => And.intro (fun z => absurd z (by decide)) (fun _ => ?_))
        refine L (j := 4) rfl (by decide) hx4 (by decide) (fun z => And.intro (fun _ => bad (nope 4 (by decide) z)) (fun z => absurd rfl z)) (fun z4 => And.intro (fun z => absurd z (by decide)) (fun _ => ?_))
        refine L (j := 5) rfl (by decide) hx5 (by decide) (fun z => And.intro (fun _ => bad (nope 5 (by decide) z)) (fun z => absurd rfl z)) (fun z5 => And.intro (fun z => absurd z (by decide)) (fun _ => ?_))
        refine L (j := 6) rfl (by decide) hx6 (by decide) (fun z => And.intro (fun _ => bad (nope 6 (by decide) z)) (fun z => absurd rfl z)) (fun z6 => And.intro (fun z => absurd z (by decide)) (fun _ => ?_))
        refine L (j := 7) rfl (by decide) hx7 (by decide) (fun z => And.intro (fun _ => bad (nope 7 (by decide) z)) (fun z => absurd rfl z)) (fun z7 => And.intro (fun z => absurd z (by decide)) (fun _ => ?_))
        refine ⟨Or.inr rfl, rfl, 1, rfl, rfl, Or.inr ⟨rfl, hwd.mpr ⟨by omega, fun j hj => ?_⟩⟩⟩
        match j, hj with
        | 0, _ => exact z0
        | 1, _ => exact z1
        | 2, _ => exact z2
        | 3, _ => exact z3
        | 4, _ => exact z4
        | 5, _ => exact z5
        | 6, _ => exact z6
        | 7, _ => exact z7
  refine CPd_of E hd rfl (fun r h' q => ?_)
  obtain ⟨u, rfl, rfl, q⟩ := q
  rcases q with ⟨rfl, q⟩ | ⟨rfl, q⟩
  · exact k0 q
  · exact k1 q
theorem c_isWord1 {d : Nat} {x0 x1 x2 x3 x4 x5 x6 x7 : Int32} {P : PP} {S : HI} {T : HJ} {post : Option AV → AH → Prop} (h24 : S 20 0 0 24 = 1) (hd : 0 < d) (k : post (some (vI 0)) (mf I J rd rr P S T)) : CPd G l d 80 0 151 [vR 20 0 0, vI x0, vI x1, vI x2, vI x3, vI x4, vI x5, vI x6, vI x7] (mf I J rd rr P S T) post := by
  have E : Ev G l 0 (mt 151) 80 80 [vR 20 0 0, vI x0, vI x1, vI x2, vI x3, vI x4, vI x5, vI x6, vI x7] (mf I J rd rr P S T) (fun r h' => r = some (vI 0) ∧ h' = mf I J rd rr P S T) := by
    refine Ev_go iM_isWord rfl rfl rfl ⟨Nat.le_refl _, Nat.le_refl _⟩ (fun K hK => hK.1 [] 120 _ _ _ _ _ ?_)
    intro _
    exact And.intro (fun q => ⟨Or.inl rfl, rfl, rfl, rfl⟩) (fun q => absurd (((mf_ge (by decide)).trans h24).symm.trans q) (by decide))
  exact CPd_eq E hd rfl k
/-- a name is the i-th token: what it tells -/
theorem c_name {d i base n : Nat} {b : Nat → Nat} {P : PP} {S : HI} {T : HJ} {post : Option AV → AH → Prop} (h : TXh b n base I S) (ht : TkS b n i S T) (h24 : S 20 0 0 24 = 0) (hd : 3 < d)
    (k1 : tkC b n i = 3 → post (some (vI (nmd (ofE S) (tkM b n i)))) (mf I J rd rr P S T))
    (k0 : tkC b n i ≠ 3 → post (some (vI 0)) (mf I J rd rr P (upI (upI S 20 0 0 24 1) 20 0 0 25 (S 20 0 0 21)) T)) :
    psA b n i < n → isLe (b (psA b n i)) = true → CPd G l d 80 0 163 [vR 20 0 0] (mf I J rd rr P S T) post := by
  intro hlt hl
  have E : Ev G l 3 (mt 163) 80 80 [vR 20 0 0] (mf I J rd rr P S T) (fun r h' => (tkC b n i = 3 ∧ r = some (vI (nmd (ofE S) (tkM b n i))) ∧ h' = mf I J rd rr P S T) ∨ (tkC b n i ≠ 3 ∧ r = some (vI 0) ∧ h' = mf I J rd rr P (upI (upI S 20 0 0 24 1) 20 0 0 25 (S 20 0 0 21)) T)) := by
    refine Ev_go iM_name rfl rfl rfl ⟨Nat.le_refl _, Nat.le_refl _⟩ (fun K hK => hK.1 [] 120 _ _ _ _ _ ?_)
    have yes : ∀ k, k < 6 → isWd b n i k → tkC b n i = 3 ∧ nmd (ofE S) (tkM b n i) = S 20 0 0 (11 + k) := by
      intro k hk hw
      have hf := (wdF_some (by omega)).mpr hw.2.2
      rw [(tk_le hlt hl).1, (tk_le hlt hl).2.1, hf]
      match k, hk with
      | 0, _ => exact ⟨rfl, rfl⟩
      | 1, _ => exact ⟨rfl, rfl⟩
      | 2, _ => exact ⟨rfl, rfl⟩
      | 3, _ => exact ⟨rfl, rfl⟩
      | 4, _ => exact ⟨rfl, rfl⟩
      | 5, _ => exact ⟨rfl, rfl⟩
    have W : ∀ {d k : Nat} {x0 x1 x2 x3 x4 x5 x6 x7 : Int32} {post : Option AV → AH → Prop}, k < 12 → (x0 = nI ((wdL k).getD 0 0) ∧ x1 = nI ((wdL k).getD 1 0) ∧ x2 = nI ((wdL k).getD 2 0) ∧ x3 = nI ((wdL k).getD 3 0) ∧ x4 = nI ((wdL k).getD 4 0) ∧ x5 = nI ((wdL k).getD 5 0) ∧ x6 = nI ((wdL k).getD 6 0) ∧ x7 = nI ((wdL k).getD 7 0)) → 2 < d → (¬ isWd b n i k → post (some (vI 0)) (mf I J rd rr P S T)) → (isWd b n i k → post (some (vI 1)) (mf I J rd rr P S T)) → CPd G l d 80 0 151 [vR 20 0 0, vI x0, vI x1, vI x2, vI x3, vI x4, vI x5, vI x6, vI x7] (mf I J rd rr P S T) post :=
      fun hk hx hd k0 k1 => c_isWord h ht h24 hk hx hd k0 k1
    refine W (k := 0) (by decide) (by decide) (by decide) (fun z0 => And.intro (fun _ => ?_) (fun z => absurd rfl z)) (fun z => And.intro (fun z => absurd z (by decide)) (fun _ => ⟨rfl, Or.inl ⟨(yes 0 (by decide) z).1, by rw [(yes 0 (by decide) z).2, mf_ge (by decide)], rfl⟩⟩))
    refine W (k := 1) (by decide) (by decide) (by decide) (fun z1 => And.intro (fun _ => ?_) (fun z => absurd rfl z)) (fun z => And.intro (fun z => absurd z (by decide)) (fun _ => ⟨rfl, Or.inl ⟨(yes 1 (by decide) z).1, by rw [(yes 1 (by decide) z).2, mf_ge (by decide)], rfl⟩⟩))
    refine W (k := 2) (by decide) (by decide) (by decide) (fun z2 => And.intro (fun _ => ?_) (fun z => absurd rfl z)) (fun z => And.intro (fun z => absurd z (by decide)) (fun _ => ⟨rfl, Or.inl ⟨(yes 2 (by decide) z).1, by rw [(yes 2 (by decide) z).2, mf_ge (by decide)], rfl⟩⟩))
    refine W (k := 3) (by decide) (by decide) (by decide) (fun z3 => And.intro (fun _ => ?_) (fun z => absurd rfl z)) (fun z => And.intro (fun z => absurd z (by decide)) (fun _ => ⟨rfl, Or.inl ⟨(yes 3 (by decide) z).1, by rw [(yes 3 (by decide) z).2, mf_ge (by decide)], rfl⟩⟩))
    refine W (k := 4) (by decide) (by decide) (by decide) (fun z4 => And.intro (fun _ => ?_) (fun z => absurd rfl z)) (fun z => And.intro (fun z => absurd z (by decide)) (fun _ => ⟨rfl, Or.inl ⟨(yes 4 (by decide) z).1, by rw [(yes 4 (by decide) z).2, mf_ge (by decide)], rfl⟩⟩))
    refine W (k := 5) (by decide) (by decide) (by decide) (fun z5 => And.intro (fun _ => ?_) (fun z => absurd rfl z)) (fun z => And.intro (fun z => absurd z (by decide)) (fun _ => ⟨rfl, Or.inl ⟨(yes 5 (by decide) z).1, by rw [(yes 5 (by decide) z).2, mf_ge (by decide)], rfl⟩⟩))
    have hno : tkC b n i ≠ 3 := by
      rw [(tk_le hlt hl).1]
      cases hw : wdF b (psA b n i) (skA isLe b n (psA b n i)) 12 with
      | none => exact fun q => absurd q (by decide)
      | some k =>
        obtain ⟨g1, g2⟩ := wdF_lt 12 hw
        intro q
        have h6 := ((wdC_3 k g1).1).mp q
        have hk : isWd b n i k := ⟨hlt, hl, g2⟩
        match k, h6 with
        | 0, _ => exact z0 hk
        | 1, _ => exact z1 hk
        | 2, _ => exact z2 hk
        | 3, _ => exact z3 hk
        | 4, _ => exact z4 hk
        | 5, _ => exact z5 hk
    refine c_fail0 h24 (by decide) ?_
    exact ⟨rfl, Or.inr ⟨hno, rfl, rfl⟩⟩
  refine CPd_of E hd rfl (fun r h' q => ?_)
  rcases q with ⟨q, rfl, rfl⟩ | ⟨q, rfl, rfl⟩
  · exact k1 q
  · exact k0 q
end X3
