/-! the class reads a text -/
section Y8
variable {G : GT} {l : Launch} {I : HI} {J : HJ} {R0 : HR} {n : Nat} {b : Nat → Nat} {z m r : Nat}
theorem d_all (hn : n ≤ 80) (hz : z ≤ 160) : ∀ F f, f < F → CtD G l J R0 b n z m r 39 0 f ∧ CtD G l J R0 b n z m r 40 1 f ∧ CtD G l J R0 b n z m r 41 2 f ∧ CtD G l J R0 b n z m r 42 3 f ∧ CtD G l J R0 b n z m r 43 4 f ∧ CtD G l J R0 b n z m r 44 5 f ∧ CtD G l J R0 b n z m r 45 6 f
  | 0, f, h => absurd h (by omega)
  | F + 1, 0, _ => by
    refine ⟨?_, ?_, ?_, ?_, ?_, ?_, ?_⟩ <;> exact fun I o i s _ _ _ _ _ h => absurd h (by omega)
  | F + 1, f + 1, h => by
    have ih := fun g (hg : g ≤ f) => d_all hn hz F g (by omega)
    exact ⟨d_readEither hn hz (fun g hg => (ih g hg).2.1), d_readBoth hn hz (fun g hg => (ih g hg).2.2.1), d_readNot hn hz (fun g hg => (ih g hg).2.2.2.1) (fun g hg => (ih g hg).2.2.1), d_readComparison hn hz (fun g hg => (ih g hg).2.2.2.2.1), d_readSum hn hz (fun g hg => (ih g hg).2.2.2.2.2.1), d_readTerm hn hz (fun g hg => (ih g hg).2.2.2.2.2.2), d_readOne hn hz (fun g hg => (ih g hg).1) (fun g hg => (ih g hg).2.2.2.2.2.2)⟩
theorem ct_readEither (hn : n ≤ 80) (hz : z ≤ 160) : CtD G l J R0 b n z m r 39 0 pF := (d_all hn hz (pF + 1) pF (Nat.lt_succ_self _)).1
theorem pt_t {T M : Nat → Int32} {key : Int32} {i : Nat} (h : (ptS T M key i).1 = true) : T i = key ∧ (prs T M pF 0 0 (i + 1)).1 = true ∧ T (prs T M pF 0 0 (i + 1)).2.2 = 59 ∧ ptS T M key i = (true, ((prs T M pF 0 0 (i + 1)).2.1, (prs T M pF 0 0 (i + 1)).2.2 + 1)) := by
  by_cases h1 : T i = key
  · have e : ptS T M key i = sq (prs T M pF 0 0 (i + 1)) (fun j => if T j = 59 then oK (j + 1) else nO j) := if_pos h1
    rw [e] at h ⊢
    cases hr : (prs T M pF 0 0 (i + 1)).1 with
    | false => rw [sq_f hr, hr] at h; cases h
    | true =>
      rw [sq_t hr] at h ⊢
      by_cases h2 : T (prs T M pF 0 0 (i + 1)).2.2 = 59
      · refine ⟨h1, rfl, h2, ?_⟩
        simp only [if_pos h2]
        show (true, ((prs T M pF 0 0 (i + 1)).2.1 ++ [], (prs T M pF 0 0 (i + 1)).2.2 + 1)) = _
        rw [List.append_nil]
      · simp only [if_neg h2] at h
        cases h
  · have e : ptS T M key i = nO i := if_neg h1
    rw [e] at h
    cases h
theorem pt_b {key : Int32} {i : Nat} (hz : z ≤ 160) (h : (ptS (tkC b z) (tkM b z) key i).1 = true) : i < (ptS (tkC b z) (tkM b z) key i).2.2 ∧ (ptS (tkC b z) (tkM b z) key i).2.2 ≤ 160 ∧ (ptS (tkC b z) (tkM b z) key i).2.1.length ≤ (ptS (tkC b z) (tkM b z) key i).2.2 - i := by
  obtain ⟨h1, h2, h3, h4⟩ := pt_t h
  rw [h4]
  obtain ⟨g1, g2, g3⟩ := gdz hz h2 (by decide)
  have := tk_i hz (ne0 h3 (by decide))
  refine ⟨?_, ?_, ?_⟩
  · show i < (prs (tkC b z) (tkM b z) pF 0 0 (i + 1)).2.2 + 1; omega
  · show (prs (tkC b z) (tkM b z) pF 0 0 (i + 1)).2.2 + 1 ≤ 160; omega
  · show (prs (tkC b z) (tkM b z) pF 0 0 (i + 1)).2.1.length ≤ (prs (tkC b z) (tkM b z) pF 0 0 (i + 1)).2.2 + 1 - i; omega
/-- what its steps give in an environment -/
theorem pt_B {key : Int32} {i : Nat} (hb : ∀ i, i < z → b i < 256) (h : (ptS (tkC b z) (tkM b z) key i).1 = true) (E : Nat → Int32) : ∃ v, rpn E (ptS (tkC b z) (tkM b z) key i).2.1 [] = some [v] := by
  obtain ⟨h1, h2, h3, h4⟩ := pt_t h
  rw [h4]
  obtain ⟨v, hv⟩ := (prs_va (tk_mok hb) (E := E) pF 0 0 (i + 1) (by decide) h2).1 (by decide)
  exact ⟨v, by have := hv [] (Nat.zero_le _); exact this⟩
theorem tx_t (h : txF b z = none) : (tx0 b z).1 = true ∧ (tx1 b z).1 = true ∧ (tx2 b z).1 = true ∧ tkC b z (tx2 b z).2.2 = 0 := by
  unfold txF at h
  split at h
  · cases h
  · rename_i h0
    split at h
    · cases h
    · rename_i h1
      split at h
      · cases h
      · rename_i h2
        split at h
        · rename_i h3
          exact ⟨Bool.not_eq_false _ ▸ h0, Bool.not_eq_false _ ▸ h1, Bool.not_eq_false _ ▸ h2, h3⟩
        · cases h
theorem tx_B (hb : ∀ i, i < z → b i < 256) (h : txF b z = none) : ∃ B : BT, ∀ w, w < 3 → ∀ E, rpn E (txW b z w) [] = some [B w E] := by
  obtain ⟨h0, h1, h2, _⟩ := tx_t h
  have : ∀ w, w < 3 → ∀ E, ∃ v, rpn E (txW b z w) [] = some [v] := by
    intro w hw E
    match w, hw with
    | 0, _ => exact pt_B hb h0 E
    | 1, _ => exact pt_B hb h1 E
    | 2, _ => exact pt_B hb h2 E
  refine ⟨fun w E => if hw : w < 3 then (this w hw E).choose else 0, fun w hw E => ?_⟩
  show rpn E (txW b z w) [] = some [dite (w < 3) (fun hw => (this w hw E).choose) (fun _ => 0)]
  rw [dif_pos hw]
  exact (this w hw E).choose_spec
theorem x_endPart {d w : Nat} {rd : Option AO} {post : Option AV → AH → Prop} (hn : n ≤ 80) (hw : w < 3) (hd : 0 < d) (k : post none (mkX (upI I 13 r 0 (w + 1) (I 11 r 0 2)) J R0 rd)) : CPd G l d n 0 48 [vR 11 r 0, vI (nI w)] (mkX I J R0 rd) post := by
  have E : Ev G l 0 (mt 48) n n [vR 11 r 0, vI (nI w)] (mkX I J R0 rd) (fun u h' => u = none ∧ h' = mkX (upI I 13 r 0 (w + 1) (I 11 r 0 2)) J R0 rd) := by
    refine Ev_go iR_endPart rfl rfl rfl ⟨Nat.le_refl _, hn⟩ (fun K hK => hK.1 [] 50 _ _ _ _ _ ?_)
    refine And.intro (fun q => absurd q (nI_pos (by omega))) (fun _ => And.intro (fun q => absurd q (nI_ge (a := w) (b := 3) hw (by decide))) (fun _ => ?_))
    show vp_in (nI w + 1) 4 ∧ _
    rw [← nI_succ]
    refine ⟨nI_in (N := 4) (by omega) (by decide), rfl, rfl, ?_⟩
    rw [nI_clamp (n := w + 1) (by omega)]
    rfl
  exact CPd_eq E hd rfl k
theorem x_readPart {d i s w : Nat} {key : Int32} {post : Option AV → AH → Prop} (hn : n ≤ 80) (hz : z ≤ 160) (hR : TkR b z m I) (hA : DA b z r i s I) (hsi : s ≤ i) (hi : i ≤ 160) (hk : key ≠ 0) (hw : w < 3) (hd : 51 < d) (k : ∀ u I', OutD b z r s (ptS (tkC b z) (tkM b z) key i) u I I' → post (some (vI u)) (mkX (if u = 1 then upI I' 13 r 0 (w + 1) (I' 11 r 0 2) else I') J R0 (some (11, r, 0)))) : CPd G l d n 0 37 [vR 7 0 0, vI key, vI (nI w)] (mkX I J R0 (some (11, r, 0))) post := by
  have E : Ev G l 51 (mt 37) n n [vR 7 0 0, vI key, vI (nI w)] (mkX I J R0 (some (11, r, 0))) (fun v h' => ∃ q : Int32 × HI, v = some (vI q.1) ∧ h' = mkX (if q.1 = 1 then upI q.2 13 r 0 (w + 1) (q.2 11 r 0 2) else q.2) J R0 (some (11, r, 0)) ∧ OutD b z r s (ptS (tkC b z) (tkM b z) key i) q.1 I q.2) := by
    refine Ev_go iD_readPart rfl rfl rfl ⟨Nat.le_refl _, hn⟩ (fun K hK => hK.1 [] 50 _ _ _ _ _ ?_)
    refine x_passes hn hR hA (by omega) (by decide) (fun c => ?_) (fun c I1 hf1 hA1 h121 => ?_)
    · refine And.intro (fun _ => ⟨Or.inl rfl, rfl, (0, I), rfl, rfl, ?_⟩) (fun q => absurd rfl q)
      rw [show ptS (tkC b z) (tkM b z) key i = nO i from if_neg c]
      exact od_nO frD0 hA.1
    · refine And.intro (fun q => absurd q (by decide)) (fun _ => ?_)
      have hpt : ptS (tkC b z) (tkM b z) key i = sq (prs (tkC b z) (tkM b z) pF 0 0 (i + 1)) (fun j => if tkC b z j = 59 then oK (j + 1) else nO j) := if_pos c
      have hi160 := tk_i hz (ne0 c hk)
      rw [hpt]
      refine CPd_exc (ct_readEither hn hz I1 0 (i + 1) s (rt_same hR hf1.tr6) hA1 (by omega) (by omega) (by decide) (by unfold mu pF; omega)) (by decide) rfl (fun y hy => ?_)
      cases hr : (prs (tkC b z) (tkM b z) pF 0 0 (i + 1)).1 with
      | false =>
        obtain ⟨d1, d2⟩ := hy.2.2 hr
        rw [d1]
        exact And.intro (fun _ => ⟨Or.inl rfl, rfl, (0, y.2), rfl, rfl, od_pre hf1 h121 (od_no hr hy.1 d2)⟩) (fun q => absurd rfl q)
      | true =>
        obtain ⟨d1, d2, d3, d4⟩ := hy.2.1 hr
        obtain ⟨g1, g2, g3⟩ := gdz hz hr (by decide)
        rw [d1]
        refine And.intro (fun q => absurd q (by decide)) (fun _ => ?_)
        refine x_passes hn (rt_same hR (hf1.tr hy.1).tr6) d2 (by omega) (by decide) (fun c2 => ?_) (fun c2 I2 hf2 hA2 h122 => ?_)
        · refine And.intro (fun q => absurd rfl q) (fun _ => ⟨Or.inl rfl, rfl, (0, y.2), rfl, rfl, ?_⟩)
          refine od_pre hf1 h121 (od_sq hr hy.1 d3 d4 ?_)
          show OutD b z r _ (if tkC b z (prs (tkC b z) (tkM b z) pF 0 0 (i + 1)).2.2 = 59 then _ else _) _ _ _
          rw [if_neg c2]
          exact od_nO frD0 d2.1
        · refine And.intro (fun _ => ?_) (fun q => absurd q (by decide))
          refine x_endPart hn hw (by decide) ?_
          refine ⟨Or.inr rfl, rfl, (1, I2), rfl, rfl, ?_⟩
          refine od_pre hf1 h121 (od_sq hr hy.1 d3 d4 ?_)
          show OutD b z r _ (if tkC b z (prs (tkC b z) (tkM b z) pF 0 0 (i + 1)).2.2 = 59 then _ else _) _ _ _
          rw [if_pos c2]
          exact od_oK hf2 hA2 (fun t _ => by show I2 12 r 0 t = _; rw [h122])
  exact CPd_exc E hd rfl (fun q hq => k q.1 q.2 hq)
end Y8
