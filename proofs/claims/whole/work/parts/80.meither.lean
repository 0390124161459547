/-! the reference reads and reckons -/
section X6
variable {G : GT} {l : Launch} {I : HI} {J : HJ} {rd : Option AO} {rr : Nat → Nat} {P : PP} {b : Nat → Nat} {n base : Nat}
def mu (lv i : Nat) : Nat := (162 - i) * 16 + (16 - lv)
def dM (lv o : Nat) : Nat := 8 * (5 - o) + (7 - lv) + 4
/-- what stands behind the reading of a piece -/
def OutM (b : Nat → Nat) (n o L : Nat) (E : Nat → Int32) (r : PR) (v : Int32) (S : HI) (T : HJ) : Prop := (r.1 = true → S 20 0 0 24 = 0 ∧ S 20 0 0 23 = nI o ∧ TkS b n r.2.2 S T ∧ Va E L r.2.1 v) ∧ (r.1 = false → S 20 0 0 24 = 1 ∧ S 20 0 0 25 = nI (psA b n r.2.2))
def LO (b : Nat → Nat) (n o L : Nat) (E : Nat → Int32) (r : PR) (v v' : Int32) (S : HI) (T : HJ) : Prop := (r.1 = true → S 20 0 0 24 = 0 ∧ S 20 0 0 23 = nI o ∧ TkS b n r.2.2 S T ∧ Vl E L r.2.1 v v') ∧ (r.1 = false → S 20 0 0 24 = 1 ∧ S 20 0 0 25 = nI (psA b n r.2.2))
theorem fr_E {S S' : HI} {T T' : HJ} (f : FrN S S' T T') : ofE S' = ofE S := by
  unfold ofE
  rw [f.2.2 11 (by decide) (by decide), f.2.2 12 (by decide) (by decide), f.2.2 13 (by decide) (by decide), f.2.2 14 (by decide) (by decide), f.2.2 15 (by decide) (by decide), f.2.2 16 (by decide) (by decide)]
theorem om_seq {o L L1 : Nat} {E : Nat → Int32} {r : PR} {k : Nat → PR} {v v' : Int32} {S : HI} {T : HJ} (h : r.1 = true) (hv : Va E L1 r.2.1 v) (hL : L ≤ L1) (hk : LO b n o L E (k r.2.2) v v' S T) : OutM b n o L E (sq r k) v' S T := by
  unfold OutM
  rw [sq_t h]
  refine ⟨fun q => ?_, hk.2⟩
  obtain ⟨a1, a2, a3, a4⟩ := hk.1 q
  exact ⟨a1, a2, a3, va_sq (va_le hv hL) a4⟩
theorem om_no {o L : Nat} {E : Nat → Int32} {r : PR} {k : Nat → PR} {v' : Int32} {S : HI} {T : HJ} (h : r.1 = false) (h24 : S 20 0 0 24 = 1) (h25 : S 20 0 0 25 = nI (psA b n r.2.2)) : OutM b n o L E (sq r k) v' S T := by
  rw [sq_f h]
  exact ⟨fun q => absurd q (by rw [h]; decide), fun _ => ⟨h24, h25⟩⟩
theorem lo_op {o L : Nat} {E : Nat → Int32} {r : PR} {k : Nat → PR} {c v w v' : Int32} {S : HI} {T : HJ} (hc : c ≤ -10) (hc2 : ¬ -11 ≤ c) (h : r.1 = true) (hw : Va E (L + 1) r.2.1 w) (hk : LO b n o L E (k r.2.2) (jnd c v w) v' S T) : LO b n o L E (sq r (em c k)) v v' S T := by
  unfold LO
  rw [sq_t h]
  refine ⟨fun q => ?_, hk.2⟩
  obtain ⟨a1, a2, a3, a4⟩ := hk.1 q
  exact ⟨a1, a2, a3, vl_op hc hc2 hw a4⟩
theorem lo_no {o L : Nat} {E : Nat → Int32} {r : PR} {k : Nat → PR} {v v' : Int32} {S : HI} {T : HJ} (h : r.1 = false) (h24 : S 20 0 0 24 = 1) (h25 : S 20 0 0 25 = nI (psA b n r.2.2)) : LO b n o L E (sq r k) v v' S T := by
  rw [sq_f h]
  exact ⟨fun q => absurd q (by rw [h]; decide), fun _ => ⟨h24, h25⟩⟩
theorem lo_ok {o L j : Nat} {E : Nat → Int32} {v : Int32} {S : HI} {T : HJ} (h24 : S 20 0 0 24 = 0) (h23 : S 20 0 0 23 = nI o) (ht : TkS b n j S T) : LO b n o L E (oK j) v v S T := ⟨fun _ => ⟨h24, h23, ht, vl_nil⟩, fun q => absurd q (by show ¬ (true = false); decide)⟩
/-- the contract of a method that reads -/
def CtM (G : GT) (l : Launch) (I : HI) (J : HJ) (rd : Option AO) (rr : Nat → Nat) (P : PP) (b : Nat → Nat) (n base mi lv f : Nat) : Prop := ∀ (o i : Nat) (S : HI) (T : HJ), TXh b n base I S → S 20 0 0 24 = 0 → S 20 0 0 23 = nI o → o ≤ 5 → TkS b n i S T → mu lv i < f →
  Ev G l (dM lv o) (mt mi) 80 80 [vR 20 0 0] (mf I J rd rr P S T) (fun v h' => ∃ q : Int32 × (HI × HJ), v = some (vI q.1) ∧ h' = mf I J rd rr P q.2.1 q.2.2 ∧ FrN S q.2.1 T q.2.2 ∧ OutM b n o (bdL lv o) (ofE S) (prs (tkC b n) (tkM b n) f lv o i) q.1 q.2.1 q.2.2)
theorem tk_i {i : Nat} (h : n ≤ 160) (h0 : tkC b n i ≠ 0) : i < 160 := by
  have h1 := tk_lt h0
  have := ps_ge i h1
  omega
theorem m_either {f : Nat} (H : ∀ g, g ≤ f → CtM G l I J rd rr P b n base 156 1 g) : CtM G l I J rd rr P b n base 155 0 (f + 1) := by
  intro o i S T hX h24 h23 ho ht hmu
  have hb : ∀ i, i < n → b i < 256 := fun i hi => (hX.2.2.2.2 i hi).1
  have hE : prs (tkC b n) (tkM b n) (f + 1) 0 o i = sq (prs (tkC b n) (tkM b n) f 1 o i) (prs (tkC b n) (tkM b n) f 7 o) := rfl
  rw [hE]
  have hd : 4 + 1 ≤ dM 0 o := by unfold dM; omega
  have hds : dM 1 o < dM 0 o := by unfold dM; omega
  refine Ev_go iM_either rfl rfl rfl ⟨Nat.le_refl _, Nat.le_refl _⟩ (fun K hK => ?_)
  have stop1 : ∀ v S' T', FrN S S' T T' → S' 20 0 0 24 = 1 → OutM b n o (bdL 0 o) (ofE S) (sq (prs (tkC b n) (tkM b n) f 1 o i) (prs (tkC b n) (tkM b n) f 7 o)) v S' T' → K 80 5 [some (vR 20 0 0), some (vI v), none] [] (mf I J rd rr P S' T') := by
    intro v S' T' hf h1 ho
    refine hK.1 [] 60 _ _ _ _ _ ?_
    refine c_isWord1 h1 (by omega) ?_
    exact And.intro (fun _ => ⟨rfl, (v, (S', T')), rfl, rfl, hf, ho⟩) (fun q => absurd rfl q)
  have loop : ∀ g, g ≤ f → ∀ j v S' T', FrN S S' T T' → S' 20 0 0 24 = 0 → S' 20 0 0 23 = nI o → TkS b n j S' T' → mu 7 j < g → (∀ v' S'' T'', LO b n o (bdL 7 o) (ofE S) (prs (tkC b n) (tkM b n) g 7 o j) v v' S'' T'' → OutM b n o (bdL 0 o) (ofE S) (sq (prs (tkC b n) (tkM b n) f 1 o i) (prs (tkC b n) (tkM b n) f 7 o)) v' S'' T'') → K 80 5 [some (vR 20 0 0), some (vI v), none] [] (mf I J rd rr P S' T') := by
    intro g
    induction g with
    | zero => intro _ j v S' T' _ _ _ _ hm; exact absurd hm (by omega)
    | succ g ih =>
      intro hgf j v S' T' hf h24 h23 ht hm hout
      have hG : prs (tkC b n) (tkM b n) (g + 1) 7 o j = (if tkC b n j = 1009 then sq (prs (tkC b n) (tkM b n) g 1 o (j + 1)) (em (-26) (prs (tkC b n) (tkM b n) g 7 o)) else oK j) := rfl
      rw [hG] at hout
      refine hK.1 [(5, [true, true, false])] 60 _ _ _ _ _ ?_
      refine c_isWord (k := 9) (hX.fr hf) ht h24 (by decide) (by decide) (by omega) (fun z => ?_) (fun z => ?_)
      · have hne : ¬ tkC b n j = 1009 := fun q => z ((isWd_key hb (by decide) (by decide)).mpr q)
        rw [if_neg hne] at hout
        refine And.intro (fun _ => ?_) (fun q => absurd rfl q)
        exact ⟨rfl, (v, (S', T')), rfl, rfl, hf, hout v S' T' (lo_ok h24 h23 ht)⟩
      · have hey : tkC b n j = 1009 := (isWd_key hb (by decide) (by decide)).mp z
        rw [if_pos hey] at hout
        have hj160 := tk_i hX.1 (ne0 hey (by decide))
        refine And.intro (fun q => absurd q (by decide)) (fun _ => ?_)
        refine c_next (hX.fr hf) ht (ne0 hey (by decide)) (by rw [hey]; decide) (by omega) (fun q hq1 hq2 => ?_)
        have hf1 := hf.tr hq1.1
        have hsub := H g (by omega) o (j + 1) q.1 q.2 (hX.fr hf1) (hq1.2.2.1.trans h24) (hq1.2.1.trans h23) ho hq2 (by unfold mu at *; omega)
        refine CPd_exc hsub (by omega) rfl (fun y hy => ?_)
        have hf2 := hf1.tr hy.1
        have hout2 := hy.2
        rw [fr_E hf1] at hout2
        have go : ∀ u, u = jnd (-26) v y.1 → K 80 5 [some (vR 20 0 0), some (vI u), none] [] (mf I J rd rr P y.2.1 y.2.2) := by
          rintro u rfl
          cases hr : (prs (tkC b n) (tkM b n) g 1 o (j + 1)).1 with
          | true =>
            obtain ⟨a1, a2, a3, a4⟩ := hout2.1 hr
            have hgs := prs_gs g 1 o (j + 1) (by decide) hr
            refine ih (by omega) _ _ _ _ hf2 a1 a2 a3 (by unfold mu at *; omega) (fun v' S'' T'' hlo => hout v' S'' T'' ?_)
            exact lo_op (by decide) (by decide) hr (va_le a4 (by unfold bdL; simp)) hlo
          | false =>
            obtain ⟨a1, a2⟩ := hout2.2 hr
            exact stop1 _ _ _ hf2 a1 (hout _ _ _ (lo_no hr a1 a2))
        refine And.intro (fun c1 => ?_) (fun c1 => And.intro (fun c2 => ?_) (fun c2 => ?_))
        · show K 80 5 _ _ _
          refine go 1 ?_
          show 1 = iN (v ≠ 0 ∨ y.1 ≠ 0)
          unfold iN; rw [if_pos (Or.inl c1)]
        · show K 80 5 _ _ _
          refine go 0 ?_
          show 0 = iN (v ≠ 0 ∨ y.1 ≠ 0)
          unfold iN; rw [if_neg (fun q => q.elim (fun z => z c1) (fun z => z c2))]
        · show K 80 5 _ _ _
          refine go 1 ?_
          show 1 = iN (v ≠ 0 ∨ y.1 ≠ 0)
          unfold iN; rw [if_pos (Or.inr c2)]
  refine hK.1 [(5, [true, true, false])] 60 _ _ _ _ _ ?_
  refine CPd_exc (H f (Nat.le_refl _) o i S T hX h24 h23 ho ht (by unfold mu at *; omega)) (by omega) rfl (fun y hy => ?_)
  show K 80 5 _ _ _
  cases hr : (prs (tkC b n) (tkM b n) f 1 o i).1 with
  | true =>
    obtain ⟨a1, a2, a3, a4⟩ := hy.2.1 hr
    have hgs := prs_gs f 1 o i (by decide) hr
    refine loop f (Nat.le_refl _) _ _ _ _ hy.1 a1 a2 a3 (by unfold mu at *; omega) (fun v' S'' T'' hlo => ?_)
    exact om_seq hr a4 (by unfold bdL; simp) hlo
  | false =>
    obtain ⟨a1, a2⟩ := hy.2.2 hr
    exact stop1 _ _ _ hy.1 a1 (om_no hr a1 a2)
theorem m_both {f : Nat} (H : ∀ g, g ≤ f → CtM G l I J rd rr P b n base 157 2 g) : CtM G l I J rd rr P b n base 156 1 (f + 1) := by
  intro o i S T hX h24 h23 ho ht hmu
  have hb : ∀ i, i < n → b i < 256 := fun i hi => (hX.2.2.2.2 i hi).1
  have hE : prs (tkC b n) (tkM b n) (f + 1) 1 o i = sq (prs (tkC b n) (tkM b n) f 2 o i) (prs (tkC b n) (tkM b n) f 8 o) := rfl
  rw [hE]
  have hd : 4 + 1 ≤ dM 1 o := by unfold dM; omega
  have hds : dM 2 o < dM 1 o := by unfold dM; omega
  refine Ev_go iM_both rfl rfl rfl ⟨Nat.le_refl _, Nat.le_refl _⟩ (fun K hK => ?_)
  have stop1 : ∀ v S' T', FrN S S' T T' → S' 20 0 0 24 = 1 → OutM b n o (bdL 1 o) (ofE S) (sq (prs (tkC b n) (tkM b n) f 2 o i) (prs (tkC b n) (tkM b n) f 8 o)) v S' T' → K 80 5 [some (vR 20 0 0), some (vI v), none] [] (mf I J rd rr P S' T') := by
    intro v S' T' hf h1 ho
    refine hK.1 [] 60 _ _ _ _ _ ?_
    refine c_isWord1 h1 (by omega) ?_
    exact And.intro (fun _ => ⟨rfl, (v, (S', T')), rfl, rfl, hf, ho⟩) (fun q => absurd rfl q)
  have loop : ∀ g, g ≤ f → ∀ j v S' T', FrN S S' T T' → S' 20 0 0 24 = 0 → S' 20 0 0 23 = nI o → TkS b n j S' T' → mu 8 j < g → (∀ v' S'' T'', LO b n o (bdL 8 o) (ofE S) (prs (tkC b n) (tkM b n) g 8 o j) v v' S'' T'' → OutM b n o (bdL 1 o) (ofE S) (sq (prs (tkC b n) (tkM b n) f 2 o i) (prs (tkC b n) (tkM b n) f 8 o)) v' S'' T'') → K 80 5 [some (vR 20 0 0), some (vI v), none] [] (mf I J rd rr P S' T') := by
    intro g
    induction g with
    | zero => intro _ j v S' T' _ _ _ _ hm; exact absurd hm (by omega)
    | succ g ih =>
      intro hgf j v S' T' hf h24 h23 ht hm hout
      have hG : prs (tkC b n) (tkM b n) (g + 1) 8 o j = (if tkC b n j = 1010 then sq (prs (tkC b n) (tkM b n) g 2 o (j + 1)) (em (-25) (prs (tkC b n) (tkM b n) g 8 o)) else oK j) := rfl
      rw [hG] at hout
      refine hK.1 [(5, [true, true, false])] 60 _ _ _ _ _ ?_
      refine c_isWord (k := 10) (hX.fr hf) ht h24 (by decide) (by decide) (by omega) (fun z => ?_) (fun z => ?_)
      · have hne : ¬ tkC b n j = 1010 := fun q => z ((isWd_key hb (by decide) (by decide)).mpr q)
        rw [if_neg hne] at hout
        refine And.intro (fun _ => ?_) (fun q => absurd rfl q)
        exact ⟨rfl, (v, (S', T')), rfl, rfl, hf, hout v S' T' (lo_ok h24 h23 ht)⟩
      · have hey : tkC b n j = 1010 := (isWd_key hb (by decide) (by decide)).mp z
        rw [if_pos hey] at hout
        have hj160 := tk_i hX.1 (ne0 hey (by decide))
        refine And.intro (fun q => absurd q (by decide)) (fun _ => ?_)
        refine c_next (hX.fr hf) ht (ne0 hey (by decide)) (by rw [hey]; decide) (by omega) (fun q hq1 hq2 => ?_)
        have hf1 := hf.tr hq1.1
        have hsub := H g (by omega) o (j + 1) q.1 q.2 (hX.fr hf1) (hq1.2.2.1.trans h24) (hq1.2.1.trans h23) ho hq2 (by unfold mu at *; omega)
        refine CPd_exc hsub (by omega) rfl (fun y hy => ?_)
        have hf2 := hf1.tr hy.1
        have hout2 := hy.2
        rw [fr_E hf1] at hout2
        have go : ∀ u, u = jnd (-25) v y.1 → K 80 5 [some (vR 20 0 0), some (vI u), none] [] (mf I J rd rr P y.2.1 y.2.2) := by
          rintro u rfl
          cases hr : (prs (tkC b n) (tkM b n) g 2 o (j + 1)).1 with
          | true =>
            obtain ⟨a1, a2, a3, a4⟩ := hout2.1 hr
            have hgs := prs_gs g 2 o (j + 1) (by decide) hr
            refine ih (by omega) _ _ _ _ hf2 a1 a2 a3 (by unfold mu at *; omega) (fun v' S'' T'' hlo => hout v' S'' T'' ?_)
            exact lo_op (by decide) (by decide) hr (va_le a4 (by unfold bdL; simp)) hlo
          | false =>
            obtain ⟨a1, a2⟩ := hout2.2 hr
            exact stop1 _ _ _ hf2 a1 (hout _ _ _ (lo_no hr a1 a2))
        refine And.intro (fun c1 => ?_) (fun c1 => And.intro (fun c2 => ?_) (fun c2 => ?_))
        · show K 80 5 _ _ _
          refine go 0 ?_
          show 0 = iN (v ≠ 0 ∧ y.1 ≠ 0)
          unfold iN; rw [if_neg (fun q => q.1 c1)]
        · show K 80 5 _ _ _
          refine go 0 ?_
          show 0 = iN (v ≠ 0 ∧ y.1 ≠ 0)
          unfold iN; rw [if_neg (fun q => q.2 c2)]
        · show K 80 5 _ _ _
          refine go 1 ?_
          show 1 = iN (v ≠ 0 ∧ y.1 ≠ 0)
          unfold iN; rw [if_pos ⟨c1, c2⟩]
  refine hK.1 [(5, [true, true, false])] 60 _ _ _ _ _ ?_
  refine CPd_exc (H f (Nat.le_refl _) o i S T hX h24 h23 ho ht (by unfold mu at *; omega)) (by omega) rfl (fun y hy => ?_)
  show K 80 5 _ _ _
  cases hr : (prs (tkC b n) (tkM b n) f 2 o i).1 with
  | true =>
    obtain ⟨a1, a2, a3, a4⟩ := hy.2.1 hr
    have hgs := prs_gs f 2 o i (by decide) hr
    refine loop f (Nat.le_refl _) _ _ _ _ hy.1 a1 a2 a3 (by unfold mu at *; omega) (fun v' S'' T'' hlo => ?_)
    exact om_seq hr a4 (by unfold bdL; simp) hlo
  | false =>
    obtain ⟨a1, a2⟩ := hy.2.2 hr
    exact stop1 _ _ _ hy.1 a1 (om_no hr a1 a2)
end X6
