/-! the reference reads a text -/
section X10
variable {G : GT} {l : Launch} {I : HI} {J : HJ} {rd : Option AO} {rr : Nat → Nat} {P : PP} {b : Nat → Nat} {n base : Nat}
theorem c_part {d i : Nat} {u key : Int32} {S : HI} {T : HJ} {post : Option AV → AH → Prop} (hX : TXh b n base I S) (h24 : S 20 0 0 24 = 0) (h23 : S 20 0 0 23 = nI 0) (ht : TkS b n i S T) (hk0 : key ≠ 0) (hk1 : key ≠ 1) (hu : (u = 1 ∧ tkC b n i = key) ∨ (u = 0 ∧ tkC b n i ≠ key)) (hd : 52 < d)
    (k : ∀ v S' T', FrN S S' T T' → OutM b n 0 0 (ofE S) (ptS (tkC b n) (tkM b n) key i) v S' T' → post (some (vI v)) (mf I J rd rr P S' T')) : CPd G l d 80 0 153 [vR 20 0 0, vI u] (mf I J rd rr P S T) post := by
  have E : Ev G l 52 (mt 153) 80 80 [vR 20 0 0, vI u] (mf I J rd rr P S T) (fun v h' => ∃ q : Int32 × (HI × HJ), v = some (vI q.1) ∧ h' = mf I J rd rr P q.2.1 q.2.2 ∧ FrN S q.2.1 T q.2.2 ∧ OutM b n 0 0 (ofE S) (ptS (tkC b n) (tkM b n) key i) q.1 q.2.1 q.2.2) := by
    have wrong : ∀ (K : Nat → Nat → List (Option AV) → List AV → AH → Prop), Cl G l 52 7 0 (mkT 61 tM_part) 80 (fun v h' => ∃ q : Int32 × (HI × HJ), v = some (vI q.1) ∧ h' = mf I J rd rr P q.2.1 q.2.2 ∧ FrN S q.2.1 T q.2.2 ∧ OutM b n 0 0 (ofE S) (ptS (tkC b n) (tkM b n) key i) q.1 q.2.1 q.2.2) K → ∀ v S' T', FrN S S' T T' → S' 20 0 0 24 = 1 → OutM b n 0 0 (ofE S) (ptS (tkC b n) (tkM b n) key i) v S' T' → K 80 48 [some (vR 20 0 0), none, some (vI v)] [] (mf I J rd rr P S' T') := by
      intro K hK v S' T' hf h1 ho
      refine hK.1 [] 60 _ _ _ _ _ ?_
      intro _
      have e24 : getI (mf I J rd rr P S' T') 20 0 0 24 = 1 := (mf_ge (by decide)).trans h1
      refine And.intro (fun _ => ⟨rfl, (v, (S', T')), rfl, rfl, hf, ho⟩) (fun q => ?_)
      rw [e24] at q
      exact absurd q (by decide)
    refine Ev_go iM_part rfl rfl rfl ⟨Nat.le_refl _, Nat.le_refl _⟩ (fun K hK => ?_)
    have e24 : getI (mf I J rd rr P S T) 20 0 0 24 = 0 := (mf_ge (by decide)).trans h24
    refine hK.1 [(48, [true, false, true])] 60 _ _ _ _ _ ?_
    rcases hu with ⟨rfl, hu⟩ | ⟨rfl, hu⟩
    · have hpt : ptS (tkC b n) (tkM b n) key i = sq (prs (tkC b n) (tkM b n) pF 0 0 (i + 1)) (fun j => if tkC b n j = 59 then oK (j + 1) else nO j) := if_pos hu
      have hi160 := tk_i hX.1 (ne0 hu hk0)
      refine And.intro (fun _ => ?_) (fun q => absurd q (by decide))
      intro _
      refine And.intro (fun q => absurd e24 q) (fun _ => ?_)
      refine c_next hX ht (ne0 hu hk0) (by rw [hu]; exact hk1) (by decide) (fun q hq1 hq2 => ?_)
      have hf1 : FrN S q.1 T q.2 := hq1.1
      have g24 : q.1 20 0 0 24 = 0 := hq1.2.2.1.trans h24
      have e24q : getI (mf I J rd rr P q.1 q.2) 20 0 0 24 = 0 := (mf_ge (by decide)).trans g24
      intro _
      refine And.intro (fun _ => ?_) (fun z => absurd e24q z)
      have hmu : mu 0 (i + 1) < pF := by unfold mu pF; omega
      refine CPd_exc (ct_either 0 (i + 1) q.1 q.2 (hX.fr hf1) g24 (hq1.2.1.trans h23) (by decide) hq2 hmu) (by decide) rfl (fun y hy => ?_)
      have hf2 := hf1.tr hy.1
      have hy2 := hy.2
      rw [fr_E hf1] at hy2
      cases hr : (prs (tkC b n) (tkM b n) pF 0 0 (i + 1)).1 with
      | false =>
        obtain ⟨d1, d2⟩ := hy2.2 hr
        refine c_isSign1 d1 (by decide) ?_
        refine And.intro (fun q => absurd rfl q) (fun _ => ?_)
        refine c_fail1 d1 (by decide) ?_
        show K 80 48 _ _ _
        exact wrong K hK _ _ _ hf2 d1 (by rw [hpt]; exact om_no hr d1 d2)
      | true =>
        obtain ⟨d1, d2, d3, d4⟩ := hy2.1 hr
        refine c_isSign (s := 59) (hX.fr hf2) d3 d1 rfl (by decide) (by decide) ?_
        refine And.intro (fun z => ?_) (fun z => ?_)
        · have h59 : tkC b n (prs (tkC b n) (tkM b n) pF 0 0 (i + 1)).2.2 = 59 := iN_y z
          show K 80 48 _ _ _
          refine hK.1 [] 60 _ _ _ _ _ ?_
          have e24y : getI (mf I J rd rr P y.2.1 y.2.2) 20 0 0 24 = 0 := (mf_ge (by decide)).trans d1
          intro _
          refine And.intro (fun q => absurd e24y q) (fun _ => ?_)
          refine c_next (hX.fr hf2) d3 (ne0 h59 (by decide)) (by rw [h59]; decide) (by decide) (fun w hw1 hw2 => ?_)
          refine ⟨rfl, (y.1, w), rfl, rfl, hf2.tr hw1.1, ?_⟩
          rw [hpt]
          refine om_seq hr d4 (by decide) ?_
          simp only [if_pos h59]
          exact lo_ok (hw1.2.2.1.trans d1) (hw1.2.1.trans d2) hw2
        · have h59 : ¬ tkC b n (prs (tkC b n) (tkM b n) pF 0 0 (i + 1)).2.2 = 59 := iN_n z
          refine c_fail0 d1 (by decide) ?_
          show K 80 48 _ _ _
          refine wrong K hK _ _ _ (hf2.tr ((frn_up (by decide)).tr (frn_up (by decide)))) (by rw [up20t (by decide), upI_s]) ?_
          rw [hpt]
          unfold OutM
          rw [sq_t hr]
          simp only [if_neg h59]
          refine ⟨fun q => absurd q (by show ¬ (false = true); decide), fun _ => ⟨?_, ?_⟩⟩
          · rw [up20t (by decide), upI_s]
          · rw [upI_s]
            exact d3.1
    · have hpt : ptS (tkC b n) (tkM b n) key i = nO i := if_neg hu
      refine And.intro (fun q => absurd rfl q) (fun _ => ?_)
      refine c_fail0 h24 (by decide) ?_
      have b24 : (upI (upI S 20 0 0 24 1) 20 0 0 25 (S 20 0 0 21)) 20 0 0 24 = 1 := by rw [up20t (by decide), upI_s]
      have b25 : (upI (upI S 20 0 0 24 1) 20 0 0 25 (S 20 0 0 21)) 20 0 0 25 = nI (psA b n i) := by rw [upI_s]; exact ht.1
      have hfb : FrN S (upI (upI S 20 0 0 24 1) 20 0 0 25 (S 20 0 0 21)) T T := (frn_up (by decide)).tr (frn_up (by decide))
      generalize upI (upI S 20 0 0 24 1) 20 0 0 25 (S 20 0 0 21) = S1 at b24 b25 hfb
      have e24b : getI (mf I J rd rr P S1 T) 20 0 0 24 = 1 := (mf_ge (by decide)).trans b24
      intro _
      refine And.intro (fun _ => ?_) (fun q => by rw [e24b] at q; exact absurd q (by decide))
      intro _
      refine And.intro (fun q => by rw [e24b] at q; exact absurd q (by decide)) (fun _ => ?_)
      refine c_isSign1 b24 (by decide) ?_
      refine And.intro (fun q => absurd rfl q) (fun _ => ?_)
      refine c_fail1 b24 (by decide) ?_
      show K 80 48 _ _ _
      exact wrong K hK _ _ _ hfb b24 (by rw [hpt]; exact om_bad b24 b25)
  exact CPd_exc E hd rfl (fun q hq => k q.1 q.2.1 q.2.2 hq.1 hq.2)
/-- what reading a text leaves behind -/
def RdO (b : Nat → Nat) (n w : Nat) (E : Nat → Int32) (v : Int32) (S : HI) : Prop := (txF b n = none → S 20 0 0 24 = 0 ∧ rpn E (txW b n w) [] = some [v]) ∧ ∀ k, txF b n = some k → S 20 0 0 24 = 1 ∧ S 20 0 0 25 = nI (psA b n k)
theorem e_read {r w : Nat} {S : HI} {T : HJ} {R : Option AV → AH → Prop} (hr6 : r < 6) (hw : w < 3) (hn : n ≤ 160) (hbytes : ∀ i, i < n → b i < 256 ∧ I 21 0 0 (160 * r + i) = nI (b i)) (hsz : I 22 0 0 r = nI n) (hR : ∀ v S' T', (S' 27 = S 27 ∧ T' 26 = T 26) → RdO b n w (ofE S) v S' → R (some (vI v)) (mf I J rd rr P S' T')) :
    Ev G l 60 (mt 148) 80 80 [vR 20 0 0, vI (nI r), vI (nI w)] (mf I J rd rr P S T) R := by
  have hb : ∀ i, i < n → b i < 256 := fun i hi => (hbytes i hi).1
  refine Ev_go iM_read rfl rfl rfl ⟨Nat.le_refl _, Nat.le_refl _⟩ (fun K hK => ?_)
  -- the end
  have fin : ∀ v0 v1 v2 S' T', (S' 27 = S 27 ∧ T' 26 = T 26) → RdO b n w (ofE S) (if w = 0 then v0 else if w = 1 then v1 else v2) S' → K 80 147 [some (vR 20 0 0), some (vI (nI r)), some (vI (nI w)), some (vI v0), some (vI v1), some (vI v2)] [] (mf I J rd rr P S' T') := by
    intro v0 v1 v2 S' T' hf ho
    refine hK.1 [] 60 _ _ _ _ _ ?_
    have done : ∀ x, x = (if w = 0 then v0 else if w = 1 then v1 else v2) → R (some (vI x)) (mf I J rd rr P S' T') := fun x hx => by rw [hx]; exact hR _ S' T' hf ho
    match w, hw with
    | 0, _ => exact And.intro (fun q => absurd rfl q) (fun _ => ⟨rfl, done v0 rfl⟩)
    | 1, _ => exact And.intro (fun _ => And.intro (fun q => absurd rfl q) (fun _ => ⟨rfl, done v1 rfl⟩)) (fun q => absurd q (by decide))
    | 2, _ => exact And.intro (fun _ => And.intro (fun _ => ⟨rfl, done v2 rfl⟩) (fun q => absurd q (by decide))) (fun q => absurd q (by decide))
  have bad3 : ∀ v0 v1 x S' T' k, (S' 27 = S 27 ∧ T' 26 = T 26) → txF b n = some k → S' 20 0 0 24 = 1 → S' 20 0 0 25 = nI (psA b n k) → K 80 127 [some (vR 20 0 0), some (vI (nI r)), some (vI (nI w)), some (vI v0), some (vI v1), none] [vI x] (mf I J rd rr P S' T') := by
    intro v0 v1 x S' T' k hf hk h1 h2
    refine hK.1 [(147, [true, true, true, true, true, true])] 60 _ _ _ _ _ ?_
    have e24 : getI (mf I J rd rr P S' T') 20 0 0 24 = 1 := (mf_ge (by decide)).trans h1
    intro _
    refine And.intro (fun _ => ?_) (fun q => by rw [e24] at q; exact absurd q (by decide))
    show K 80 147 _ _ _
    exact fin v0 v1 x S' T' hf ⟨fun q => (by rw [hk] at q; cases q), fun k' hk' => (by rw [hk] at hk'; injection hk' with hk'; subst hk'; exact ⟨h1, h2⟩)⟩
  have bad2 : ∀ v0 x S' T' k, (S' 27 = S 27 ∧ T' 26 = T 26) → txF b n = some k → S' 20 0 0 24 = 1 → S' 20 0 0 25 = nI (psA b n k) → K 80 92 [some (vR 20 0 0), some (vI (nI r)), some (vI (nI w)), some (vI v0), none, none] [vI x] (mf I J rd rr P S' T') := by
    intro v0 x S' T' k hf hk h1 h2
    refine hK.1 [(127, [true, true, true, true, true, false])] 60 _ _ _ _ _ ?_
    have e24 : getI (mf I J rd rr P S' T') 20 0 0 24 = 1 := (mf_ge (by decide)).trans h1
    intro _
    refine And.intro (fun q => by rw [e24] at q; exact absurd q (by decide)) (fun _ => ?_)
    show K 80 127 _ _ _
    exact bad3 v0 x 0 S' T' k hf hk h1 h2
  refine hK.1 [(92, [true, true, true, true, false, false])] 100 _ _ _ _ _ ?_
  show vp_in _ _ ∧ _
  refine ⟨nI_in (N := 6) (by omega) (by decide), Or.inl rfl, ?_⟩
  show CPd _ _ _ _ _ _ _ _ _
  rw [nI_clamp (n := r) (by omega), show (160 : Int32) * nI r = nI (160 * r) from nI_mul (a := 160), mf_up (by decide), mf_I (by simp), hsz, mf_up (by decide), mf_up (by decide), mf_up (by decide), mf_up (by decide)]
  have f27 : (upI (upI (upI (upI (upI S 20 0 0 17 (nI (160 * r))) 20 0 0 18 (nI n)) 20 0 0 19 0) 20 0 0 23 0) 20 0 0 24 0) 27 = S 27 := by
    rw [up20 (by decide), up20 (by decide), up20 (by decide), up20 (by decide), up20 (by decide)]
  have fE : ofE (upI (upI (upI (upI (upI S 20 0 0 17 (nI (160 * r))) 20 0 0 18 (nI n)) 20 0 0 19 0) 20 0 0 23 0) 20 0 0 24 0) = ofE S := by
    unfold ofE
    simp only [up20t (t' := 11) (t := 24) (by decide), up20t (t' := 11) (t := 23) (by decide), up20t (t' := 11) (t := 19) (by decide), up20t (t' := 11) (t := 18) (by decide), up20t (t' := 11) (t := 17) (by decide), up20t (t' := 12) (t := 24) (by decide), up20t (t' := 12) (t := 23) (by decide), up20t (t' := 12) (t := 19) (by decide), up20t (t' := 12) (t := 18) (by decide), up20t (t' := 12) (t := 17) (by decide), up20t (t' := 13) (t := 24) (by decide), up20t (t' := 13) (t := 23) (by decide), up20t (t' := 13) (t := 19) (by decide), up20t (t' := 13) (t := 18) (by decide), up20t (t' := 13) (t := 17) (by decide), up20t (t' := 14) (t := 24) (by decide), up20t (t' := 14) (t := 23) (by decide), up20t (t' := 14) (t := 19) (by decide), up20t (t' := 14) (t := 18) (by decide), up20t (t' := 14) (t := 17) (by decide), up20t (t' := 15) (t := 24) (by decide), up20t (t' := 15) (t := 23) (by decide), up20t (t' := 15) (t := 19) (by decide), up20t (t' := 15) (t := 18) (by decide), up20t (t' := 15) (t := 17) (by decide), up20t (t' := 16) (t := 24) (by decide), up20t (t' := 16) (t := 23) (by decide), up20t (t' := 16) (t := 19) (by decide), up20t (t' := 16) (t := 18) (by decide), up20t (t' := 16) (t := 17) (by decide)]
  have s19 : (upI (upI (upI (upI (upI S 20 0 0 17 (nI (160 * r))) 20 0 0 18 (nI n)) 20 0 0 19 0) 20 0 0 23 0) 20 0 0 24 0) 20 0 0 19 = nI 0 := by
    rw [up20t (by decide), up20t (by decide), upI_s]; rfl
  have s23 : (upI (upI (upI (upI (upI S 20 0 0 17 (nI (160 * r))) 20 0 0 18 (nI n)) 20 0 0 19 0) 20 0 0 23 0) 20 0 0 24 0) 20 0 0 23 = nI 0 := by
    rw [up20t (by decide), upI_s]; rfl
  have s24 : (upI (upI (upI (upI (upI S 20 0 0 17 (nI (160 * r))) 20 0 0 18 (nI n)) 20 0 0 19 0) 20 0 0 23 0) 20 0 0 24 0) 20 0 0 24 = 0 := upI_s
  have hX : TXh b n (160 * r) I (upI (upI (upI (upI (upI S 20 0 0 17 (nI (160 * r))) 20 0 0 18 (nI n)) 20 0 0 19 0) 20 0 0 23 0) 20 0 0 24 0) := by
    refine ⟨hn, by omega, ?_, ?_, hbytes⟩
    · rw [up20t (by decide), up20t (by decide), up20t (by decide), up20t (by decide), upI_s]
    · rw [up20t (by decide), up20t (by decide), up20t (by decide), upI_s]
  generalize upI (upI (upI (upI (upI S 20 0 0 17 (nI (160 * r))) 20 0 0 18 (nI n)) 20 0 0 19 0) 20 0 0 23 0) 20 0 0 24 0 = S0 at f27 fE s19 s23 s24 hX ⊢
  refine CPd_exc (e_next (a := psA b n 0) hX s19 (Nat.zero_le n) rfl) (by decide) rfl (fun q0 hq0 => ?_)
  have ht0 : TkS b n 0 q0.1 q0.2 := hq0.2
  have hf0 : FrN S0 q0.1 T q0.2 := hq0.1.1
  have key : ∀ {d i k : Nat} {x0 x1 x2 x3 x4 x5 x6 x7 : Int32} {S' : HI} {T' : HJ} {post : Option AV → AH → Prop}, k < 12 → 6 ≤ k → (x0 = nI ((wdL k).getD 0 0) ∧ x1 = nI ((wdL k).getD 1 0) ∧ x2 = nI ((wdL k).getD 2 0) ∧ x3 = nI ((wdL k).getD 3 0) ∧ x4 = nI ((wdL k).getD 4 0) ∧ x5 = nI ((wdL k).getD 5 0) ∧ x6 = nI ((wdL k).getD 6 0) ∧ x7 = nI ((wdL k).getD 7 0)) → FrN S0 S' T T' → TkS b n i S' T' → S' 20 0 0 24 = 0 → 2 < d → (∀ u, ((u = 1 ∧ tkC b n i = nI (1000 + k)) ∨ (u = 0 ∧ tkC b n i ≠ nI (1000 + k))) → post (some (vI u)) (mf I J rd rr P S' T')) → CPd G l d 80 0 151 [vR 20 0 0, vI x0, vI x1, vI x2, vI x3, vI x4, vI x5, vI x6, vI x7] (mf I J rd rr P S' T') post := by
    intro d i k x0 x1 x2 x3 x4 x5 x6 x7 S' T' post hk h6 hx hf ht h24 hd kk
    refine c_isWord (hX.fr hf) ht h24 hk hx hd (fun z => kk 0 (Or.inr ⟨rfl, fun q => z ((isWd_key hb hk h6).mpr q)⟩)) (fun z => kk 1 (Or.inl ⟨rfl, (isWd_key hb hk h6).mp z⟩))
  refine key (k := 6) (by decide) (by decide) (by decide) hf0 ht0 (hq0.1.2.2.1.trans s24) (by decide) (fun u hu => ?_)
  refine c_part (key := 1006) (hX.fr hf0) (hq0.1.2.2.1.trans s24) (hq0.1.2.1.trans s23) ht0 (by decide) (by decide) hu (by decide) (fun v0 S1 T1 hf1' ho1 => ?_)
  have hf1 := hf0.tr hf1'
  have ho1 : OutM b n 0 0 (ofE S) (tx0 b n) v0 S1 T1 := by rw [fr_E hf0, fE] at ho1; exact ho1
  intro _
  have g1 : getI (mf I J rd rr P S1 T1) 20 0 0 24 = S1 20 0 0 24 := mf_ge (by decide)
  cases hr0 : (tx0 b n).1 with
  | false =>
    obtain ⟨d1, d2⟩ := ho1.2 hr0
    refine And.intro (fun q => by rw [g1, d1] at q; exact absurd q (by decide)) (fun _ => ?_)
    show K 80 92 _ _ _
    exact bad2 v0 0 S1 T1 (tx0 b n).2.2 ⟨hf1.1.trans f27, hf1.2.1⟩ (by unfold txF; rw [if_pos hr0]) d1 d2
  | true =>
    obtain ⟨d1, d2, d3, d4⟩ := ho1.1 hr0
    refine And.intro (fun _ => ?_) (fun q => absurd (g1.trans d1) q)
    refine key (k := 7) (by decide) (by decide) (by decide) hf1 d3 d1 (by decide) (fun u hu => ?_)
    refine c_part (key := 1007) (hX.fr hf1) d1 d2 d3 (by decide) (by decide) hu (by decide) (fun v1 S2 T2 hf2' ho2 => ?_)
    have hf2 := hf1.tr hf2'
    have ho2 : OutM b n 0 0 (ofE S) (tx1 b n) v1 S2 T2 := by rw [fr_E hf1, fE] at ho2; exact ho2
    show K 80 92 _ _ _
    cases hr1 : (tx1 b n).1 with
    | false =>
      obtain ⟨d1, d2⟩ := ho2.2 hr1
      exact bad2 v0 v1 S2 T2 (tx1 b n).2.2 ⟨hf2.1.trans f27, hf2.2.1⟩ (by unfold txF; rw [hr0, hr1, if_neg (by decide), if_pos rfl]) d1 d2
    | true =>
      obtain ⟨e1, e2, e3, e4⟩ := ho2.1 hr1
      refine hK.1 [(127, [true, true, true, true, true, false])] 60 _ _ _ _ _ ?_
      have g2 : getI (mf I J rd rr P S2 T2) 20 0 0 24 = S2 20 0 0 24 := mf_ge (by decide)
      intro _
      refine And.intro (fun _ => ?_) (fun q => absurd (g2.trans e1) q)
      refine key (k := 8) (by decide) (by decide) (by decide) hf2 e3 e1 (by decide) (fun u hu => ?_)
      refine c_part (key := 1008) (hX.fr hf2) e1 e2 e3 (by decide) (by decide) hu (by decide) (fun v2 S3 T3 hf3' ho3 => ?_)
      have hf3 := hf2.tr hf3'
      have ho3 : OutM b n 0 0 (ofE S) (tx2 b n) v2 S3 T3 := by rw [fr_E hf2, fE] at ho3; exact ho3
      show K 80 127 _ _ _
      cases hr2 : (tx2 b n).1 with
      | false =>
        obtain ⟨d1, d2⟩ := ho3.2 hr2
        exact bad3 v0 v1 v2 S3 T3 (tx2 b n).2.2 ⟨hf3.1.trans f27, hf3.2.1⟩ (by unfold txF; rw [hr0, hr1, hr2, if_neg (by decide), if_neg (by decide), if_pos rfl]) d1 d2
      | true =>
        obtain ⟨i1, i2, i3, i4⟩ := ho3.1 hr2
        refine hK.1 [(147, [true, true, true, true, true, true])] 60 _ _ _ _ _ ?_
        have g3 : getI (mf I J rd rr P S3 T3) 20 0 0 24 = S3 20 0 0 24 := mf_ge (by decide)
        have g20 : getI (mf I J rd rr P S3 T3) 20 0 0 20 = S3 20 0 0 20 := mf_ge (by decide)
        have hend : S3 20 0 0 20 = 0 ↔ tkC b n (tx2 b n).2.2 = 0 := by
          by_cases hlt : psA b n (tx2 b n).2.2 < n
          · obtain ⟨k1, k2, k3, k4⟩ := i3.2.2 hlt
            have hn0 : tkC b n (tx2 b n).2.2 ≠ 0 := by
              cases hl : isLe (b (psA b n (tx2 b n).2.2)) with
              | true =>
                rw [(tk_le hlt hl).1]
                cases hw : wdF b (psA b n (tx2 b n).2.2) (skA isLe b n (psA b n (tx2 b n).2.2)) 12 with
                | none => decide
                | some m => exact (wdC_3 m (wdF_lt 12 hw).1).2.2.1
              | false =>
                cases hdi : isDi (b (psA b n (tx2 b n).2.2)) with
                | true => rw [(tk_di hlt hl hdi).1]; split <;> decide
                | false =>
                  rw [(tk_sg hlt hl hdi).1]
                  split
                  · rename_i hs
                    have := of_decide_eq_true hs
                    have hns : ∀ s, s < 64 → 40 ≤ s → nI s ≠ 0 := by decide
                    exact hns _ (by omega) (by omega)
                  · decide
            refine ⟨fun q => ?_, fun q => absurd q hn0⟩
            exfalso
            cases hl : isLe (b (psA b n (tx2 b n).2.2)) with
            | true => rw [(k1 hl).1] at q; exact absurd q (by decide)
            | false =>
              cases hdi : isDi (b (psA b n (tx2 b n).2.2)) with
              | true => rw [(k2 hl hdi).1] at q; split at q <;> exact absurd q (by decide)
              | false =>
                cases hs : isSg (b (psA b n (tx2 b n).2.2)) with
                | true => rw [(k3 hl hdi hs).1] at q; exact absurd q (by decide)
                | false => rw [k4 hl hdi hs] at q; exact absurd q (by decide)
          · exact ⟨fun _ => tk_end hlt, fun _ => i3.2.1 (by omega)⟩
        have hval : ∀ w, w < 3 → rpn (ofE S) (txW b n w) [] = some [if w = 0 then v0 else if w = 1 then v1 else v2] := by
          intro w hw
          match w, hw with
          | 0, _ => exact d4 [] (Nat.zero_le _)
          | 1, _ => exact e4 [] (Nat.zero_le _)
          | 2, _ => exact i4 [] (Nat.zero_le _)
        have ffin : (S3 27 = S 27 ∧ T3 26 = T 26) := ⟨hf3.1.trans f27, hf3.2.1⟩
        intro _
        refine And.intro (fun q => absurd (g3.trans i1) q) (fun _ => And.intro (fun q => ?_) (fun q => ?_))
        · rw [g20] at q
          have hz := hend.mp q
          have hnone : txF b n = none := by unfold txF; rw [hr0, hr1, hr2, if_neg (by decide), if_neg (by decide), if_neg (by decide), if_pos hz]
          show K 80 147 _ _ _
          exact fin v0 v1 v2 S3 T3 ffin ⟨fun _ => ⟨i1, hval w hw⟩, fun k hk => (by rw [hnone] at hk; cases hk)⟩
        · rw [g20] at q
          have hz : ¬ tkC b n (tx2 b n).2.2 = 0 := fun z => q (hend.mpr z)
          have hsome : txF b n = some (tx2 b n).2.2 := by unfold txF; rw [hr0, hr1, hr2, if_neg (by decide), if_neg (by decide), if_neg (by decide), if_neg hz]
          refine c_fail0 i1 (by decide) ?_
          show K 80 147 _ _ _
          refine fin v0 v1 v2 _ T3 ⟨by rw [up20 (by decide), up20 (by decide)]; exact ffin.1, ffin.2⟩ ⟨fun q => (by rw [hsome] at q; cases q), fun k hk => ?_⟩
          rw [hsome] at hk
          injection hk with hk
          subst hk
          refine ⟨by rw [up20t (by decide), upI_s], ?_⟩
          rw [upI_s]
          exact i3.1
theorem HRe_of {m : Nat} {Bs : Nat → BT} {I : HI} (hm : m ≤ 6) (h : TXS m Bs I) : HRe G l m Bs I := by
  intro I' J rd rr P S T r w hr hw e1 e2
  obtain ⟨b, z, hz, hb, h22, hF, hB⟩ := h r hr
  refine e_read (b := b) (n := z) (by omega) hw hz (fun i hi => ?_) ?_ (fun v S' T' q1 q2 => ?_)
  · rw [e1]; exact hb i hi
  · rw [e2]; exact h22
  · obtain ⟨q3, q4⟩ := q2.1 hF
    have := hB w hw (ofE S)
    rw [q4] at this
    injection this with this
    injection this with this _
    exact ⟨(S', T'), by rw [this], rfl, q1⟩
end X10
