section X8
variable {G : GT} {l : Launch} {I : HI} {J : HJ} {rd : Option AO} {rr : Nat → Nat} {P : PP} {b : Nat → Nat} {n base : Nat}
theorem frn_up {S : HI} {T : HJ} {t : Nat} {x : Int32} (h : 23 ≤ t) : FrN S (upI S 20 0 0 t x) T T := ⟨up20 (by decide), rfl, fun t' h1 h2 => up20t (by omega)⟩
theorem tks_up {S : HI} {T : HJ} {i t : Nat} {x : Int32} (h : 23 ≤ t) (ht : TkS b n i S T) : TkS b n i (upI S 20 0 0 t x) T := by
  unfold TkS TkA at *
  rw [up20t (by omega), up20t (by omega), up20t (by omega)]
  exact ht
theorem c_opens {d o i : Nat} {S : HI} {T : HJ} {post : Option AV → AH → Prop} (h : TXh b n base I S) (ht : TkS b n i S T) (h0 : tkC b n i ≠ 0) (h1 : tkC b n i ≠ 1) (h24 : S 20 0 0 24 = 0) (h23 : S 20 0 0 23 = nI o) (ho : o ≤ 5) (hd : 2 < d)
    (k0 : 5 ≤ o → ∀ S', FrN S S' T T → S' 20 0 0 24 = 1 → S' 20 0 0 25 = nI (psA b n i) → post (some (vI 0)) (mf I J rd rr P S' T))
    (k1 : o < 5 → ∀ S' T', FrN S S' T T' → S' 20 0 0 24 = 0 → S' 20 0 0 23 = nI (o + 1) → TkS b n (i + 1) S' T' → post (some (vI 1)) (mf I J rd rr P S' T')) : CPd G l d 80 0 158 [vR 20 0 0] (mf I J rd rr P S T) post := by
  have E : Ev G l 2 (mt 158) 80 80 [vR 20 0 0] (mf I J rd rr P S T) (fun r h' => (5 ≤ o ∧ ∃ S', r = some (vI 0) ∧ h' = mf I J rd rr P S' T ∧ FrN S S' T T ∧ S' 20 0 0 24 = 1 ∧ S' 20 0 0 25 = nI (psA b n i)) ∨ (o < 5 ∧ ∃ q : HI × HJ, r = some (vI 1) ∧ h' = mf I J rd rr P q.1 q.2 ∧ FrN S q.1 T q.2 ∧ q.1 20 0 0 24 = 0 ∧ q.1 20 0 0 23 = nI (o + 1) ∧ TkS b n (i + 1) q.1 q.2)) := by
    refine Ev_go iM_opens rfl rfl rfl ⟨Nat.le_refl _, Nat.le_refl _⟩ (fun K hK => hK.1 [] 120 _ _ _ _ _ ?_)
    refine And.intro (fun q => ?_) (fun q => ?_)
    · rw [mf_ge (by decide), h23] at q
      have ho5 : o < 5 := by
        have : o ≠ 5 := fun e => q (by rw [e]; rfl)
        omega
      show CPd _ _ _ _ _ _ _ _ _
      rw [mf_ge (by decide), h23, ← nI_succ, mf_up (by decide)]
      have hf : FrN S (upI S 20 0 0 23 (nI (o + 1))) T T := frn_up (by decide)
      refine c_next (h.fr hf) (tks_up (by decide) ht) h0 h1 (by decide) (fun z hz1 hz2 => ?_)
      refine ⟨Or.inr rfl, rfl, Or.inr ⟨ho5, z, rfl, rfl, hf.tr hz1.1, ?_, ?_, hz2⟩⟩
      · rw [hz1.2.2.1, up20t (by decide)]; exact h24
      · rw [hz1.2.1, upI_s]
    · rw [mf_ge (by decide), h23] at q
      have ho5 : 5 ≤ o := by
        have := nI_ij (b := 5) q (by omega) (by decide)
        omega
      refine c_fail0 h24 (by decide) ?_
      refine ⟨Or.inl rfl, rfl, Or.inl ⟨ho5, _, rfl, rfl, (frn_up (by decide)).tr (frn_up (by decide)), ?_, ?_⟩⟩
      · rw [up20t (by decide), upI_s]
      · rw [upI_s]; exact ht.1
  refine CPd_of E hd rfl (fun r h' q => ?_)
  rcases q with ⟨q, S', rfl, rfl, q1, q2, q3⟩ | ⟨q, z, rfl, rfl, q1, q2, q3, q4⟩
  · exact k0 q S' q1 q2 q3
  · exact k1 q z.1 z.2 q1 q2 q3 q4
theorem om_bad {o L : Nat} {E : Nat → Int32} {i : Nat} {v : Int32} {S : HI} {T : HJ} (h24 : S 20 0 0 24 = 1) (h25 : S 20 0 0 25 = nI (psA b n i)) : OutM b n o L E (nO i) v S T := ⟨fun q => absurd q (by show ¬ (false = true); decide), fun _ => ⟨h24, h25⟩⟩
theorem om_fail {o L : Nat} {E : Nat → Int32} {r : PR} {v : Int32} {S : HI} {T : HJ} (h : r.1 = false) (h24 : S 20 0 0 24 = 1) (h25 : S 20 0 0 25 = nI (psA b n r.2.2)) : OutM b n o L E r v S T := ⟨fun q => absurd q (by rw [h]; decide), fun _ => ⟨h24, h25⟩⟩
/-- one more was open -/
theorem om_un {o L L1 : Nat} {E : Nat → Int32} {r : PR} {c v : Int32} {S : HI} {T : HJ} (hc : c ≤ -10) (hc2 : -11 ≤ c) (hL : L ≤ L1) (h : OutM b n (o + 1) L1 E r v S T) : OutM b n o L E (sq r (em c oK)) (ngt c v) (upI S 20 0 0 23 (S 20 0 0 23 - 1)) T := by
  cases hr : r.1 with
  | true =>
    obtain ⟨a1, a2, a3, a4⟩ := h.1 hr
    unfold OutM
    rw [sq_t hr]
    refine ⟨fun _ => ⟨?_, ?_, tks_up (by decide) a3, va_un hc hc2 (va_le a4 hL)⟩, fun q => absurd q (by show ¬ (true = false); decide)⟩
    · rw [up20t (by decide)]; exact a1
    · rw [upI_s, a2, nI_succ]; grind
  | false =>
    obtain ⟨a1, a2⟩ := h.2 hr
    refine om_no hr ?_ ?_
    · rw [up20t (by decide)]; exact a1
    · rw [up20t (by decide)]; exact a2
theorem m_not {f : Nat} (H : ∀ g, g ≤ f → CtM G l I J rd rr P b n base 157 2 g) (H4 : ∀ g, g ≤ f → CtM G l I J rd rr P b n base 159 4 g) : CtM G l I J rd rr P b n base 157 2 (f + 1) := by
  intro o i S T hX h24 h23 ho ht hmu
  have hb : ∀ i, i < n → b i < 256 := fun i hi => (hX.2.2.2.2 i hi).1
  have hE : prs (tkC b n) (tkM b n) (f + 1) 2 o i = (if tkC b n i = 1011 then (if 5 ≤ o then nO i else sq (prs (tkC b n) (tkM b n) f 2 (o + 1) (i + 1)) (em (-11) oK)) else prs (tkC b n) (tkM b n) f 3 o i) := rfl
  rw [hE]
  have hd : 4 + 4 ≤ dM 2 o := by unfold dM; omega
  have hds : dM 4 o < dM 2 o := by unfold dM; omega
  refine Ev_go iM_not rfl rfl rfl ⟨Nat.le_refl _, Nat.le_refl _⟩ (fun K hK => ?_)
  refine hK.1 [(94, [true, true, true, false])] 60 _ _ _ _ _ ?_
  refine c_isWord (k := 11) hX ht h24 (by decide) (by decide) (by omega) (fun z => ?_) (fun z => ?_)
  · have hne : ¬ tkC b n i = 1011 := fun q => z ((isWd_key hb (by decide) (by decide)).mpr q)
    rw [if_neg hne] at hK ⊢
    obtain ⟨g, rfl⟩ : ∃ g, f = g + 1 := ⟨f - 1, by unfold mu at hmu; omega⟩
    have hE3 : prs (tkC b n) (tkM b n) (g + 1) 3 o i = sq (prs (tkC b n) (tkM b n) g 4 o i) (fun j => if tkC b n j = 60 then sq (prs (tkC b n) (tkM b n) g 4 o (j + 1)) (em (-23) oK) else if tkC b n j = 61 then sq (prs (tkC b n) (tkM b n) g 4 o (j + 1)) (em (-24) oK) else oK j) := rfl
    rw [hE3] at hK ⊢
    refine And.intro (fun _ => ?_) (fun q => absurd rfl q)
    refine CPd_exc (H4 g (by omega) o i S T hX h24 h23 ho ht (by unfold mu at *; omega)) (by omega) rfl (fun y hy => ?_)
    cases hr : (prs (tkC b n) (tkM b n) g 4 o i).1 with
    | false =>
      obtain ⟨a1, a2⟩ := hy.2.2 hr
      refine c_isSign1 a1 (by omega) ?_
      refine And.intro (fun q => absurd rfl q) (fun _ => ?_)
      refine c_isSign1 a1 (by omega) ?_
      refine And.intro (fun q => absurd rfl q) (fun _ => ?_)
      exact ⟨rfl, (y.1, (y.2.1, y.2.2)), rfl, rfl, hy.1, om_no hr a1 a2⟩
    | true =>
      obtain ⟨a1, a2, a3, a4⟩ := hy.2.1 hr
      have hgs := prs_gs g 4 o i (by decide) hr
      have hf1 := hy.1
      generalize (prs (tkC b n) (tkM b n) g 4 o i) = r1 at hK hr a3 a4 hgs ⊢
      -- the comparison is passed
      have pass : ∀ (c u : Int32), tkC b n r1.2.2 ≠ 0 → tkC b n r1.2.2 ≠ 1 → (c = -23 ∧ u = 1 ∨ c = -24 ∧ u = 0) → (∀ v' S'' T'', LO b n o (bdL 2 o) (ofE S) (sq (prs (tkC b n) (tkM b n) g 4 o (r1.2.2 + 1)) (em c oK)) y.1 v' S'' T'' → OutM b n o (bdL 2 o) (ofE S) (sq r1 (fun j => if tkC b n j = 60 then sq (prs (tkC b n) (tkM b n) g 4 o (j + 1)) (em (-23) oK) else if tkC b n j = 61 then sq (prs (tkC b n) (tkM b n) g 4 o (j + 1)) (em (-24) oK) else oK j)) v' S'' T'') → K 80 94 [some (vR 20 0 0), some (vI y.1), some (vI u), none] [] (mf I J rd rr P y.2.1 y.2.2) := by
        intro c u hn0 hn1 hcu hout
        have hj160 := tk_i hX.1 hn0
        refine hK.1 [] 60 _ _ _ _ _ ?_
        refine c_next (hX.fr hf1) a3 hn0 hn1 (by omega) (fun q hq1 hq2 => ?_)
        have hf2 := hf1.tr hq1.1
        refine CPd_exc (H4 g (by omega) o (r1.2.2 + 1) q.1 q.2 (hX.fr hf2) (hq1.2.2.1.trans a1) (hq1.2.1.trans a2) ho hq2 (by unfold mu at *; omega)) (by omega) rfl (fun w hw => ?_)
        have hf3 := hf2.tr hw.1
        have hw2 := hw.2
        rw [fr_E hf2] at hw2
        have hc10 : c ≤ -10 ∧ ¬ -11 ≤ c := by rcases hcu with ⟨rfl, _⟩ | ⟨rfl, _⟩ <;> decide
        have hlo : LO b n o (bdL 2 o) (ofE S) (sq (prs (tkC b n) (tkM b n) g 4 o (r1.2.2 + 1)) (em c oK)) y.1 (jnd c y.1 w.1) w.2.1 w.2.2 := by
          cases hr2 : (prs (tkC b n) (tkM b n) g 4 o (r1.2.2 + 1)).1 with
          | true =>
            obtain ⟨d1, d2, d3, d4⟩ := hw2.1 hr2
            exact lo_op hc10.1 hc10.2 hr2 (va_le d4 (by unfold bdL; simp)) (lo_ok d1 d2 d3)
          | false =>
            obtain ⟨d1, d2⟩ := hw2.2 hr2
            exact lo_no hr2 d1 d2
        have hfin := hout _ _ _ hlo
        have done : ∀ x, x = jnd c y.1 w.1 → ∃ q : Int32 × (HI × HJ), some (vI x) = some (vI q.1) ∧ mf I J rd rr P w.2.1 w.2.2 = mf I J rd rr P q.2.1 q.2.2 ∧ FrN S q.2.1 T q.2.2 ∧ OutM b n o (bdL 2 o) (ofE S) (sq r1 (fun j => if tkC b n j = 60 then sq (prs (tkC b n) (tkM b n) g 4 o (j + 1)) (em (-23) oK) else if tkC b n j = 61 then sq (prs (tkC b n) (tkM b n) g 4 o (j + 1)) (em (-24) oK) else oK j)) q.1 q.2.1 q.2.2 := fun x hx => ⟨(x, (w.2.1, w.2.2)), rfl, rfl, hf3, by rw [hx]; exact hfin⟩
        rcases hcu with ⟨rfl, rfl⟩ | ⟨rfl, rfl⟩
        · refine And.intro (fun q => absurd q (by decide)) (fun _ => And.intro (fun q => ?_) (fun q => ?_))
          · refine ⟨rfl, done 0 ?_⟩
            show 0 = iN (y.1 < w.1)
            unfold iN; rw [if_neg (by grind)]
          · refine ⟨rfl, done 1 ?_⟩
            show 1 = iN (y.1 < w.1)
            unfold iN; rw [if_pos (by grind)]
        · refine And.intro (fun _ => And.intro (fun q => ?_) (fun q => ?_)) (fun q => absurd rfl q)
          · refine ⟨rfl, done 0 ?_⟩
            show 0 = iN (y.1 = w.1)
            unfold iN; rw [if_neg q]
          · refine ⟨rfl, done 1 ?_⟩
            show 1 = iN (y.1 = w.1)
            unfold iN; rw [if_pos q]
      refine c_isSign (s := 60) (hX.fr hf1) a3 a1 rfl (by decide) (by omega) ?_
      refine And.intro (fun z => ?_) (fun z => ?_)
      · have hey : tkC b n r1.2.2 = 60 := iN_y z
        have hT : y.2.2 20 0 0 22 = nL 60 := ((tk_sign (s := 60) a3 hb (by decide)).mpr hey).2
        refine And.intro (fun q => ?_) (fun _ => ?_)
        · rw [lg_cmp_0, mf_T (Or.inr ⟨rfl, rfl⟩), hT] at q
          exact absurd rfl q
        · show K 80 94 _ _ _
          refine pass (-23) 1 (ne0 hey (by decide)) (by rw [hey]; decide) (Or.inl ⟨rfl, rfl⟩) (fun v' S'' T'' hlo => om_seq hr a4 (by unfold bdL; simp) ?_)
          simp only [if_pos hey]
          exact hlo
      · have hne : ¬ tkC b n r1.2.2 = 60 := iN_n z
        refine c_isSign (s := 61) (hX.fr hf1) a3 a1 rfl (by decide) (by omega) ?_
        refine And.intro (fun z => ?_) (fun z => ?_)
        · have hey : tkC b n r1.2.2 = 61 := iN_y z
          have hT : y.2.2 20 0 0 22 = nL 61 := ((tk_sign (s := 61) a3 hb (by decide)).mpr hey).2
          refine And.intro (fun q => ?_) (fun q => ?_)
          · show K 80 94 _ _ _
            refine pass (-24) 0 (ne0 hey (by decide)) (by rw [hey]; decide) (Or.inr ⟨rfl, rfl⟩) (fun v' S'' T'' hlo => om_seq hr a4 (by unfold bdL; simp) ?_)
            simp only [if_neg hne, if_pos hey]
            exact hlo
          · rw [lg_cmp_0, mf_T (Or.inr ⟨rfl, rfl⟩), hT] at q
            exact absurd q (by decide)
        · have hne2 : ¬ tkC b n r1.2.2 = 61 := iN_n z
          refine ⟨rfl, (y.1, (y.2.1, y.2.2)), rfl, rfl, hf1, om_seq hr a4 (by unfold bdL; simp) ?_⟩
          simp only [if_neg hne, if_neg hne2]
          exact lo_ok a1 a2 a3
  · have hey : tkC b n i = 1011 := (isWd_key hb (by decide) (by decide)).mp z
    rw [if_pos hey] at hK ⊢
    have hi160 := tk_i hX.1 (ne0 hey (by decide))
    refine And.intro (fun q => absurd q (by decide)) (fun _ => ?_)
    refine c_opens hX ht (ne0 hey (by decide)) (by rw [hey]; decide) h24 h23 ho (by omega) (fun ho5 S' hf' a1 a2 => ?_) (fun ho5 S' T' hf' a1 a2 a3 => ?_)
    · refine And.intro (fun q => absurd rfl q) (fun _ => ?_)
      refine ⟨rfl, (0, (S', T)), rfl, rfl, hf', ?_⟩
      rw [if_pos ho5]
      exact om_bad a1 a2
    · rw [if_neg (by omega)] at hK ⊢
      refine And.intro (fun _ => ?_) (fun q => absurd q (by decide))
      refine CPd_exc (H f (Nat.le_refl _) (o + 1) (i + 1) S' T' (hX.fr hf') a1 a2 (by omega) a3 (by unfold mu at *; omega)) (show dM 2 (o + 1) < dM 2 o by unfold dM; omega) rfl (fun y hy => ?_)
      have hy2 := hy.2
      rw [fr_E hf'] at hy2
      have hun := om_un (c := -11) (L := bdL 2 o) (by decide) (by decide) (by unfold bdL; simp; omega) hy2
      have done : ∀ x, x = ngt (-11) y.1 → ∃ q : Int32 × (HI × HJ), some (vI x) = some (vI q.1) ∧ setI (mf I J rd rr P y.2.1 y.2.2) 20 0 0 23 (getI (mf I J rd rr P y.2.1 y.2.2) 20 0 0 23 - 1) = mf I J rd rr P q.2.1 q.2.2 ∧ FrN S q.2.1 T q.2.2 ∧ OutM b n o (bdL 2 o) (ofE S) (sq (prs (tkC b n) (tkM b n) f 2 (o + 1) (i + 1)) (em (-11) oK)) q.1 q.2.1 q.2.2 := fun x hx => ⟨(x, (upI y.2.1 20 0 0 23 (y.2.1 20 0 0 23 - 1), y.2.2)), rfl, by rw [mf_ge (by decide), mf_up (by decide)], (hf'.tr hy.1).tr (frn_up (by decide)), by rw [hx]; exact hun⟩
      refine And.intro (fun q => ?_) (fun q => ?_)
      · refine ⟨rfl, done 0 ?_⟩
        show 0 = iN (y.1 = 0)
        unfold iN; rw [if_neg q]
      · refine ⟨rfl, done 1 ?_⟩
        show 1 = iN (y.1 = 0)
        unfold iN; rw [if_pos q]
end X8
