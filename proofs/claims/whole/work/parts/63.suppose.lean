/-! what a row of days told: what is supposed of one -/
section T39
variable {G : GT} {l : Launch} {I : HI} {J : HJ} {rd : Option AO} {rr : Nat → Nat} {A : ST}
/-- the first of j places from k on that is otherwise -/
def foF (it f : Nat → Int32) : Nat → Nat → Int32
  | 0, _ => -1
  | j + 1, k => if it k = f k then foF it f j (k + 1) else nI k
theorem foF_congr {it f g : Nat → Int32} (h : ∀ k, f k = g k) : ∀ j k, foF it f j k = foF it g j k := by
  rw [show f = g from funext h]
  exact fun _ _ => rfl
def itS (A : ST) (s : Nat) : Nat → Int32 := fun t => aS A s (2 + t)
def szS (A : ST) (s : Nat) : Nat := (aS A s 1).toNatClampNeg
def foV (A : ST) (s r : Nat) (P : PP) (p : Nat) : Int32 := foF (itS A s) (fun k => dayN (aB A r) (dy A) (aN A 0) P (k + 1) p 2) (szS A s) 0
theorem foV_Ag {s r p : Nat} {P Q : PP} (h : Ag (aN A 0) P Q) (h5 : aN A 0 ≤ 5) (hp : p < aN A 0) : foV A s r P p = foV A s r Q p :=
  foF_congr (fun k => dayN_Ag h h5 (k + 1) p hp 2 (by omega)) _ _
def suP (A : ST) (b w v : Nat) : PP := if w = 1 then upP (aP A) b 0 (nI v) else if w = 2 then upP (aP A) b 1 (nI v) else if w = 3 then upP (aP A) b 3 (nI v) else if w = 5 then upP (aP A) b 4 (if v = 5 then -1 else nI v) else aP A
def suR (A : ST) (w v : Nat) : Nat := if w = 6 then v else aN A 2
abbrev suOK (A : ST) (b w v : Nat) : Prop := ¬ w = 5 ∨ v = 5 ∨ (v ≠ b ∧ v < aN A 0)
def limS (A : ST) (w : Nat) : Nat := if w = 1 then 6 else if w = 2 then 10 else if w = 3 then 100 else if w = 5 then 6 else aN A 3
theorem WF.up01 {P : PP} {m p w : Nat} {x : Int32} (h : WF P m) (hw : (w = 0 ∧ rg x 5) ∨ (w = 1 ∧ rg x 9)) : WF (upP P p w x) m := by
  intro q hq
  have hq := h q hq
  by_cases hqp : q = p
  · subst hqp
    rcases hw with ⟨rfl, hx⟩ | ⟨rfl, hx⟩
    · rw [upP_s, upP_a (by decide), upP_a (by decide), upP_a (by decide), upP_a (by decide), upP_a (by decide), upP_a (by decide)]
      exact ⟨hx, hq.2⟩
    · rw [upP_s, upP_a (by decide), upP_a (by decide), upP_a (by decide), upP_a (by decide), upP_a (by decide), upP_a (by decide)]
      exact ⟨hq.1, hx, hq.2.2⟩
  · simp only [upP_p hqp]
    exact hq
theorem su_WF {b w v : Nat} (ok : OKA A) (hv : v < limS A w) (hs : suOK A b w v) : WF (suP A b w v) (aN A 0) := by
  have hW := ok.1.2.2.2.2
  unfold suP
  unfold limS at hv
  by_cases h1 : w = 1
  · rw [if_pos h1] at hv ⊢
    exact hW.up01 (Or.inl ⟨rfl, v, by omega, rfl⟩)
  · rw [if_neg h1] at hv ⊢
    by_cases h2 : w = 2
    · rw [if_pos h2] at hv ⊢
      exact hW.up01 (Or.inr ⟨rfl, v, by omega, rfl⟩)
    · rw [if_neg h2] at hv ⊢
      by_cases h3 : w = 3
      · rw [if_pos h3] at hv ⊢
        exact hW.up (Or.inr (Or.inl rfl)) ⟨v, by omega, rfl⟩
      · rw [if_neg h3] at hv ⊢
        by_cases h5 : w = 5
        · rw [if_pos h5] at hv ⊢
          refine hW.up4 ?_
          by_cases hv5 : v = 5
          · rw [if_pos hv5]; exact Or.inl rfl
          · rw [if_neg hv5]
            exact Or.inr ⟨v, ((hs.resolve_left (fun q => q h5)).resolve_left hv5).2, rfl⟩
        · rw [if_neg h5]
          exact hW
theorem su_R {w v : Nat} (ok : OKA A) (hv : v < limS A w) (hw : w = 1 ∨ w = 2 ∨ w = 3 ∨ w = 5 ∨ w = 6) : suR A w v < aN A 3 := by
  unfold suR
  split
  · rename_i h
    subst h
    exact hv
  · exact ok.1.2.2.1
/-- the class in its thought, by a rule of its own -/
def TX (I : HI) (J : HJ) (rd : Option AO) (rr : Nat → Nat) (A : ST) (r : Nat) (d : Int32) (P : PP) (O : Nat → Nat → Nat → Int32) : AH := nf (tI I (nI (aN A 0)) d) J rd (va_up rr 1 r) 1 P O
theorem TX_P {r p a : Nat} {dd : Int32} {P : PP} {O : Nat → Nat → Nat → Int32} : getI (TX I J rd rr A r dd P O) 19 1 p a = P p a := nf_P
theorem TX_I {r k i j a : Nat} {dd : Int32} {P : PP} {O : Nat → Nat → Nat → Int32} (h : k ≠ 14 ∧ k ≠ 19 ∧ k ≠ 17) : getI (TX I J rd rr A r dd P O) k i j a = I k i j a := by
  unfold TX
  rw [nf_I ⟨h.1, h.2.1⟩, tI_k h.2.2]
theorem TX_wP {r p a : Nat} {x dd : Int32} {P : PP} {O : Nat → Nat → Nat → Int32} : setI (TX I J rd rr A r dd P O) 19 1 p a x = TX I J rd rr A r dd (upP P p a x) O := nf_w
theorem va_up2 {a b : Nat} {f : Nat → Nat} : va_up (va_up f 1 a) 1 b = va_up f 1 b := by
  funext i
  simp only [va_up]
  grind
theorem TX_wR {r r' : Nat} {dd : Int32} {P : PP} {O : Nat → Nat → Nat → Int32} : setR (TX I J rd rr A r dd P O) 17 1 0 3 (some (11, r', 0)) = TX I J rd rr A r' dd P O := by
  unfold TX nf
  rw [setR_rr, va_up2]
theorem TX_C {r : Nat} {dd : Int32} {P : PP} {O : Nat → Nat → Nat → Int32} (hC : CF I rr A) : ∃ x : XC, TX I J rd rr A r dd P O = mkH x.1 x.2.1 x.2.2.1 x.2.2.2 ∧ CF x.1 x.2.2.2 A ∧ frC I x.1 J x.2.1 :=
  ⟨(_, J, rd, _), rfl, hC.th, frC.th⟩
theorem x_passDay {d r : Nat} {dd : Int32} {P : PP} {O : Nat → Nat → Nat → Int32} {post : Option AV → AH → Prop} (hC : CF I rr A) (ok : OKA A) (hr : r < aN A 3) (hW : WF P (aN A 0)) (hd : 3 < d) (k : ∀ O', post none (TX I J rd rr A r (dd + 1) (dayS (aB A r) dd (aN A 0) P) O')) : CPd G l d 80 0 85 [vR 17 1 0] (TX I J rd rr A r dd P O) post := by
  have hB : RuK (tI I (nI (aN A 0)) dd) (va_up rr 1 r 1) (aB A r) := by
    rw [show va_up rr 1 r 1 = r by simp [va_up]]
    unfold RuK
    rw [tI_k (k := 13) (by decide), tI_k (k := 12) (by decide)]
    exact hC.2.1.2 _ hr
  refine CPd_ex (e_passDay hB tI_1 ok.1.1 hW.b) hd rfl (fun O' => ?_)
  rw [tI_2, tI_d]
  exact k O'
theorem x_isThere {d r : Nat} {x dd : Int32} {P : PP} {O : Nat → Nat → Nat → Int32} {post : Option AV → AH → Prop} (hd : 0 < d) (k : post (some (vI (iN (0 ≤ x ∧ x < nI (aN A 0))))) (TX I J rd rr A r dd P O)) : CPd G l d 80 0 54 [vR 17 1 0, vI x] (TX I J rd rr A r dd P O) post := c_isThere tI_1 hd k
theorem n_isThere {d r : Nat} {x dd : Int32} {P : PP} {O : Nat → Nat → Nat → Int32} {post : Option AV → AH → Prop} (hC : CF I rr A) (hd : 0 < d) (k : post (some (vI (iN (0 ≤ x ∧ x < nI (aN A 0))))) (TX I J rd rr A r dd P O)) : CPd G l d 80 0 54 [vR 17 0 0, vI x] (TX I J rd rr A r dd P O) post := by
  refine CPd_eq e_isThere hd rfl ?_
  have e : (setO (setP (tI I (nI (aN A 0)) dd) 1 P) O) 17 0 0 1 = nI (aN A 0) := by rw [setO_k (by decide), setP_k (by decide), tI_17 (by decide)]; exact hC.1.1
  rw [e]
  exact k
theorem e_firstOtherwise {s p z r : Nat} {P P0 : PP} {O : Nat → Nat → Nat → Int32} (hC : CF I rr A) (ok : OKA A) (hs : s < 4) (hz : aS A s 1 = nI z) (hz40 : z ≤ 40) (hr : r < aN A 3) (hp : p < aN A 0) (hA : Ag (aN A 0) P P0) (hW : WF P0 (aN A 0)) :
    Ev G l 4 (mt 114) 80 80 [vR 0 0 0, vR 15 s 0, vI (nI p)] (TX I J rd rr A r (dy A) P O) (fun v h' => ∃ y : Int32 × (PP × (Nat → Nat → Nat → Int32)), v = some (vI (foV A s r P0 p)) ∧ h' = TX I J rd rr A r y.1 y.2.1 y.2.2) := by
  have h5 := ok.1.1
  have hsz : szS A s = z := by unfold szS; rw [hz, nI_clamp (by omega)]
  have gs := hC.2.2.2.2.1 s hs
  unfold foV
  rw [hsz]
  refine Ev_go iC_firstOtherwise rfl rfl rfl ⟨Nat.le_refl _, Nat.le_refl _⟩ (fun K hK => ?_)
  have loop : ∀ j k P' O, k + j = z → Ag (aN A 0) P' (dayN (aB A r) (dy A) (aN A 0) P0 k) → foF (itS A s) (fun k => dayN (aB A r) (dy A) (aN A 0) P0 (k + 1) p 2) j k = foF (itS A s) (fun k => dayN (aB A r) (dy A) (aN A 0) P0 (k + 1) p 2) z 0 → K 80 26 [some (vR 0 0 0), some (vR 15 s 0), none, some (vR 19 1 p), some (vI (nI k))] [] (TX I J rd rr A r (dy A + nI k) P' O) := by
    intro j
    induction j with
    | zero =>
      intro k P' O hk hA hR
      refine hK.1 [] 100 _ _ _ _ _ ?_
      rw [show k = z by omega]
      refine And.intro (fun _ => ?_) (fun h => absurd ?_ h)
      · refine ⟨rfl, (_, P', O), ?_, rfl⟩
        rw [← hR]
        rfl
      · rw [TX_I (by decide), gs.2.1, hz]
        exact nI_le (Nat.le_refl _) (by omega)
    | succ j ih =>
      intro k P' O hk hA hR
      refine hK.1 [(26, [true, true, false, true, true])] 100 _ _ _ _ _ ?_
      rw [foF] at hR
      refine And.intro (fun h => absurd h ?_) (fun _ => ?_)
      · rw [TX_I (by decide), gs.2.1, hz]
        exact nI_ge (by omega) (by omega)
      · refine x_passDay hC ok hr (WF.Ag hA.symm (dayN_WF hW k)) (by decide) (fun O' => ?_)
        have hA' : Ag (aN A 0) (dayS (aB A r) (dy A + nI k) (aN A 0) P') (dayN (aB A r) (dy A) (aN A 0) P0 (k + 1)) := day_Ag hA h5
        have hv := hA' p hp 2 (by omega)
        show vp_in _ _ ∧ _
        refine ⟨nI_in (N := 40) (by omega) (by decide), ?_⟩
        rw [nI_clamp (n := k) (by omega), TX_I (by decide), gs.2.2 k z hz40 hz (by omega)]
        refine And.intro (fun h7 => ?_) (fun h7 => ?_)
        all_goals rw [TX_P, hv, show aS A s (2 + k) = itS A s k from rfl] at h7
        · show K 80 26 _ _ _
          rw [if_pos h7] at hR
          refine Kc (ih (k + 1) _ O' (by omega) hA' hR) (by rw [nI_succ]; rfl) ?_
          rw [nI_succ, Int32.add_assoc]
        · rw [if_neg h7] at hR
          refine ⟨rfl, (_, _, O'), ?_, rfl⟩
          rw [← hR]
  refine hK.1 [(26, [true, true, false, true, true])] 100 _ _ _ _ _ ?_
  refine x_isThere (by decide) ?_
  refine And.intro (fun _ => ?_) (fun h => absurd ⟨nI_pos' (by omega), nI_lt hp (by omega)⟩ (iN_n h))
  refine ⟨nI_in (N := 5) (by omega) (by decide), ?_⟩
  rw [nI_clamp (n := p) (by omega)]
  show K 80 26 _ _ _
  refine Kc (loop z 0 P O (by omega) hA rfl) rfl ?_
  rw [show dy A + nI 0 = dy A from Int32.add_zero _]
theorem nI_ij {a b : Nat} (h : nI a = nI b) (ha : a < 2 ^ 31) (hb : b < 2 ^ 31) : a = b := by
  have := congrArg Int32.toInt h
  rw [nI_toInt ha, nI_toInt hb] at this
  omega
theorem e_canSuppose {b w v : Nat} (hC : CF I rr A) (ok : OKA A) (hb : b < aN A 0) (hw : w = 1 ∨ w = 2 ∨ w = 3 ∨ w = 5 ∨ w = 6) (hv : v < limS A w) :
    Ev G l 4 (mt 113) 80 80 [vR 0 0 0, vI (nI b), vI (nI w), vI (nI v)] (mkH I J rd rr) (fun u h' => ∃ y : PP × (Nat → Nat → Nat → Int32), u = some (vI (iN (suOK A b w v))) ∧ h' = TX I J rd rr A (suR A w v) (dy A) y.1 y.2 ∧ (suOK A b w v → Ag (aN A 0) y.1 (suP A b w v))) := by
  obtain ⟨h1, h2, h3, h4⟩ := hC.1
  have h5 := ok.1.1
  have h36 := ok.1.2.2.2.1
  have hv100 : v < 100 := by
    unfold limS at hv
    split at hv
    · omega
    · split at hv
      · omega
      · split at hv
        · omega
        · split at hv <;> omega
  refine Ev_go iC_canSuppose rfl rfl rfl ⟨Nat.le_refl _, Nat.le_refl _⟩ (fun K hK => hK.1 [] 120 _ _ _ _ _ ?_)
  refine k_isThere h1 (by decide) ?_
  refine And.intro (fun _ => ?_) (fun h => absurd ⟨nI_pos' (by omega), nI_lt hb (by omega)⟩ (iN_n h))
  refine k_think hC ok (by decide) (fun P hP => ?_)
  show vp_in _ _ ∧ _
  refine ⟨nI_in (N := 5) (by omega) (by decide), ?_⟩
  rw [nI_clamp (n := b) (by omega)]
  have one : ∀ (w' a : Nat) (x : Int32), w = w' → w' ≠ 6 → suOK A b w' v → suP A b w' v = upP (aP A) b a x → ∃ y : PP × (Nat → Nat → Nat → Int32), some (vI 1) = some (vI (iN (suOK A b w v))) ∧ setI (TF I J rd rr A (dy A) P (I 14)) 19 1 b a x = TX I J rd rr A (suR A w v) (dy A) y.1 y.2 ∧ (suOK A b w v → Ag (aN A 0) y.1 (suP A b w v)) := by
    intro w' a x e1 e2 e3 e4
    subst e1
    refine ⟨(upP P b a x, I 14), ?_, ?_, fun _ => ?_⟩
    · unfold iN; rw [if_pos e3]
    · rw [TF_wP]
      unfold suR
      rw [if_neg e2]
      rfl
    · rw [e4]
      exact hP.up rfl
  refine And.intro ⟨fun h => ?_, fun h => ?_, fun h => ?_, fun h => ?_, fun h => ?_, fun h => ?_, True.intro⟩ (fun h => ?_)
  · exact ⟨Or.inr rfl, rfl, one 1 0 (nI v) (nI_ij (b := 1) h (by omega) (by decide)) (by decide) (Or.inl (by decide)) rfl⟩
  · exact ⟨Or.inr rfl, rfl, one 2 1 (nI v) (nI_ij (b := 2) h (by omega) (by decide)) (by decide) (Or.inl (by decide)) rfl⟩
  · exact ⟨Or.inr rfl, rfl, one 3 3 (nI v) (nI_ij (b := 3) h (by omega) (by decide)) (by decide) (Or.inl (by decide)) rfl⟩
  · have := nI_ij (b := 4) h (by omega) (by decide)
    omega
  · have hw5 := nI_ij (b := 5) h (by omega) (by decide)
    subst hw5
    have fin : ∀ (u : Int32) (x : Int32), u = iN (suOK A b 5 v) → x = (if v = 5 then -1 else nI v) → ∃ y : PP × (Nat → Nat → Nat → Int32), some (vI u) = some (vI (iN (suOK A b 5 v))) ∧ setI (TF I J rd rr A (dy A) P (I 14)) 19 1 b 4 x = TX I J rd rr A (suR A 5 v) (dy A) y.1 y.2 ∧ (suOK A b 5 v → Ag (aN A 0) y.1 (suP A b 5 v)) := by
      intro u x hu hx
      refine ⟨(upP P b 4 x, I 14), by rw [hu], ?_, fun _ => ?_⟩
      · rw [TF_wP]; rfl
      · show Ag (aN A 0) (upP P b 4 x) (upP (aP A) b 4 (if v = 5 then -1 else nI v))
        exact hP.up hx
    refine And.intro (fun h7 => ?_) (fun h7 => ?_)
    · have hv5 : v ≠ 5 := fun e => h7 (by rw [e]; rfl)
      refine And.intro (fun h8 => absurd h8 h7) (fun _ => And.intro (fun h8 => ?_) (fun h8 => ?_))
      · have hvb := nI_ij h8 (by omega) (by omega)
        refine ⟨Or.inl rfl, rfl, fin 0 (nI v) ?_ (by rw [if_neg hv5])⟩
        unfold iN
        rw [if_neg]
        rintro (q | q | q)
        · exact q rfl
        · exact hv5 q
        · exact q.1 hvb
      · have hvb : v ≠ b := fun e => h8 (by rw [e])
        show CPd G l 4 80 0 54 [vR 17 0 0, vI (nI v)] (setI (TF I J rd rr A (dy A) P (I 14)) 19 1 b 4 (nI v)) _
        rw [TF_wP]
        refine n_isThere (r := aN A 2) hC (by decide) ?_
        have e : TX I J rd rr A (aN A 2) (dy A) (upP P b 4 (nI v)) (I 14) = setI (TF I J rd rr A (dy A) P (I 14)) 19 1 b 4 (nI v) := by rw [TF_wP]; rfl
        rw [e]
        refine And.intro (fun h9 => ?_) (fun h9 => ?_)
        · have h9 := iN_n h9
          refine ⟨Or.inl rfl, rfl, fin 0 (nI v) ?_ (by rw [if_neg hv5])⟩
          unfold iN
          rw [if_neg]
          rintro (q | q | q)
          · exact q rfl
          · exact hv5 q
          · exact h9 ⟨nI_pos' (by omega), nI_lt q.2 (by omega)⟩
        · have h9 := iN_y h9
          refine ⟨Or.inr rfl, rfl, fin 1 (nI v) ?_ (by rw [if_neg hv5])⟩
          unfold iN
          rw [if_pos (Or.inr (Or.inr ⟨hvb, by
            have := h9.2
            rw [nI_lt' (by omega) (by omega)] at this
            exact this⟩))]
    · have hv5 := nI_ij (b := 5) h7 (by omega) (by decide)
      subst hv5
      refine And.intro (fun _ => ?_) (fun h8 => absurd rfl h8)
      refine ⟨Or.inr rfl, rfl, fin 1 (-1) ?_ (by rw [if_pos rfl])⟩
      unfold iN
      rw [if_pos (Or.inr (Or.inl rfl))]
  · have hw6 := nI_ij (b := 6) h (by omega) (by decide)
    subst hw6
    have hv3 : v < aN A 3 := hv
    refine k_isWithin (by decide) ?_
    have e3 : getI (TF I J rd rr A (dy A) P (I 14)) 0 0 0 1 = nI (aN A 3) := by
      show getI (TX I J rd rr A (aN A 2) (dy A) P (I 14)) 0 0 0 1 = _
      rw [TX_I (by decide)]
      exact hC.2.1.1
    rw [e3]
    refine And.intro (fun _ => ?_) (fun h => absurd ⟨nI_pos' (by omega), ?_⟩ (iN_n h))
    · refine ⟨nI_in (N := 6) (by omega) (by decide), ?_⟩
      rw [nI_clamp (n := v) (by omega)]
      refine ⟨Or.inr rfl, rfl, (P, I 14), ?_, ?_, fun _ => hP⟩
      · unfold iN
        rw [if_pos (Or.inl (by decide))]
      · show setR (TX I J rd rr A (aN A 2) (dy A) P (I 14)) 17 1 0 3 (some (11, v, 0)) = _
        rw [TX_wR]
        rfl
    · rw [nI_le' (by omega), nI_lt' (by omega) (by omega)]
      exact hv3
  · exfalso
    obtain ⟨n1, n2, n3, n4, n5, n6, -⟩ := h
    rcases hw with rfl | rfl | rfl | rfl | rfl
    · exact n1 rfl
    · exact n2 rfl
    · exact n3 rfl
    · exact n5 rfl
    · exact n6 rfl
end T39
