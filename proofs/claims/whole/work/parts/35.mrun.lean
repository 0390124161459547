section T11
variable {G : GT} {l : Launch} {I : HI} {J : HJ} {rd : Option AO} {rr : Nat → Nat} {A : ST}
theorem MF.ext {I' : HI} {Q Q' : PP} {S S' : HI} {T T' : HJ} (h : MF G l I Q S T A) (h20 : ∀ t, t ≠ 29 → I' 20 0 0 t = I 20 0 0 t) (hk : ∀ k, 21 ≤ k → k ≠ 28 → k ≠ 29 → k ≠ 30 → I' k = I k) (hA : Ag (aN A 0) Q' (aP A)) (hM : MOK (aN A 3) (aB A) S' T') : MF G l I' Q' S' T' A := by
  unfold MF at *
  rw [h20 10 (by decide), h20 7 (by decide), h20 4 (by decide), h20 3 (by decide), h20 36 (by decide), h20 37 (by decide), h20 38 (by decide), h20 6 (by decide), hk 31 (by decide) (by decide) (by decide) (by decide), hk 23 (by decide) (by decide) (by decide) (by decide), hk 32 (by decide) (by decide) (by decide) (by decide), hk 33 (by decide) (by decide) (by decide) (by decide), hk 34 (by decide) (by decide) (by decide) (by decide), hk 35 (by decide) (by decide) (by decide) (by decide)]
  exact ⟨⟨h.1.1, h.1.2.1, h.1.2.2.1, hA⟩, ⟨h.2.1.1, h.2.1.2.1.same (by rw [hk 21 (by decide) (by decide) (by decide) (by decide)]) (by rw [hk 22 (by decide) (by decide) (by decide) (by decide)]), hM⟩, h.2.2⟩
/-- the reference in thought: rows laid aside, the day going on -/
def rI (I : HI) (Q : PP) (x : Int32) : HI := upI (keepI I Q) 20 0 0 7 x
theorem keepI_k {Q : PP} {k : Nat} (h : k ≠ 20) (h' : k ≠ 28) : keepI I Q k = I k := by unfold keepI; rw [up20 h, wrI_k h']
theorem keepI_t {Q : PP} {t : Nat} (h : t ≠ 29) : keepI I Q 20 0 0 t = I 20 0 0 t := by unfold keepI; rw [up20t h, wrI_k (by decide)]
theorem keepI_28 {Q : PP} {t : Nat} (h : t < 30) : keepI I Q 28 0 0 t = rowF Q t := by unfold keepI; rw [up20 (by decide), wrI_at, if_pos h]
theorem keepI_29 {Q : PP} : keepI I Q 20 0 0 29 = I 20 0 0 7 := by unfold keepI; rw [upI_s]
theorem rI_k {Q : PP} {x : Int32} {k : Nat} (h : k ≠ 20) (h' : k ≠ 28) : rI I Q x k = I k := by unfold rI; rw [up20 h, keepI_k h h']
theorem rI_t {Q : PP} {x : Int32} {t : Nat} (h : t ≠ 29) (h' : t ≠ 7) : rI I Q x 20 0 0 t = I 20 0 0 t := by unfold rI; rw [up20t h', keepI_t h]
theorem rI_7 {Q : PP} {x : Int32} : rI I Q x 20 0 0 7 = x := by unfold rI; rw [upI_s]
theorem rI_0 {Q : PP} : rI I Q (I 20 0 0 7) = keepI I Q := by
  unfold rI
  funext k i j t
  simp only [upI]
  by_cases h : k = 20 ∧ i = 0 ∧ j = 0 ∧ t = 7
  · rw [if_pos h]
    obtain ⟨rfl, rfl, rfl, rfl⟩ := h
    rw [keepI_t (by decide)]
  · rw [if_neg h]
theorem rI_E {Q Q0 : PP} {S : HI} {T : HJ} {x : Nat} (h : MF G l I Q S T A) (ok : OKA A) (hx : x < 2048) : RE G l (aN A 3) (aB A) (rI I Q0 (nI x)) (aN A 0) (aN A 2) x :=
  ⟨h.2.1.2.1.same (by rw [rI_k (by decide) (by decide)]) (by rw [rI_k (by decide) (by decide)]), ok.1.2.2.2.1, ok.1.2.2.1, by rw [rI_t (by decide) (by decide)]; exact h.1.2.2.1, rI_7, hx, by rw [rI_t (by decide) (by decide)]; exact h.1.1, ok.1.1⟩
theorem r_keeps {d : Nat} {Q : PP} {S : HI} {T : HJ} {post : Option AV → AH → Prop} (hC : MF G l I Q S T A) (hd : 0 < d) (k : post none (mf (rI I Q (nI (aN A 1))) J rd rr Q S T)) : CPd G l d 80 0 181 [vR 20 0 0] (mf I J rd rr Q S T) post := by
  refine CPd_eq (e_keeps (d := 0)) hd rfl ?_
  rw [← rI_0, hC.1.2.1]
  exact k
theorem r_passes {d x : Nat} {Q Q0 Q' : PP} {S S' : HI} {T T' : HJ} {post : Option AV → AH → Prop} (hC : MF G l I Q S T A) (ok : OKA A) (hx : x < 2048) (hM : MOK (aN A 3) (aB A) S' T') (hW : WF Q' (aN A 0)) (hd : 65 < d)
    (k : ∀ q : HI × HJ, MOK (aN A 3) (aB A) q.1 q.2 → post none (mf (rI I Q0 (nI (x + 1))) J rd rr (dayS (bO A) (nI x) (aN A 0) Q') q.1 q.2)) : CPd G l d 80 0 178 [vR 20 0 0] (mf (rI I Q0 (nI x)) J rd rr Q' S' T') post := by
  refine CPd_exc (e_passes (rI_E hC ok hx) hM hW) hd rfl (fun q hq => ?_)
  have e := k q hq
  unfold rI at e ⊢
  rw [upI_upI]
  exact e
theorem r_back {d : Nat} {x : Int32} {Q Q' : PP} {S S' : HI} {T T' : HJ} {post : Option AV → AH → Prop} (hC : MF G l I Q S T A) (ok : OKA A) (hM : MOK (aN A 3) (aB A) S' T') (h0 : ∀ p, Q' p 0 = Q p 0) (hd : 0 < d)
    (k : ∀ Q2, MF G l (rI I Q (nI (aN A 1))) Q2 S' T' A → Ag 5 Q2 Q → post none (mf (rI I Q (nI (aN A 1))) J rd rr Q2 S' T')) : CPd G l d 80 0 183 [vR 20 0 0] (mf (rI I Q x) J rd rr Q' S' T') post := by
  refine CPd_eq (e_laysBack (d := 0)) hd rfl ?_
  have h28 : ∀ t, t < 30 → rI I Q x 28 0 0 t = rowF Q t := by intro t ht; unfold rI; rw [up20 (by decide), keepI_28 ht]
  have hA5 : Ag 5 (bakP (rI I Q x 28 0 0) Q' 30) Q := bak_Ag h28 h0
  have hI : upI (rI I Q x) 20 0 0 7 (rI I Q x 20 0 0 29) = rI I Q (nI (aN A 1)) := by
    have : rI I Q x 20 0 0 29 = nI (aN A 1) := by unfold rI; rw [up20t (by decide), keepI_29, hC.1.2.1]
    rw [this]
    unfold rI
    rw [upI_upI]
  rw [hI]
  refine k _ (hC.ext (fun t ht => ?_) (fun k h1 h2 h3 h4 => rI_k (by omega) h2) ((hA5.le ok.1.1).trans hC.1.2.2.2) hM) hA5
  by_cases h7 : t = 7
  · subst h7; rw [rI_7, hC.1.2.1]
  · exact rI_t ht h7
theorem frM.rI {Q : PP} {x : Int32} : frM I (rI I Q x) := fun k hk => rI_k (by omega) (by omega)
theorem nI_plus {a b : Nat} : nI a + nI b = nI (a + b) := by unfold nI; rw [Int32.ofNat_add]
theorem m_run {one n w : Int32} (ok : OKA A) : MC G l 180 100 [vI one, vI n, vI w] A (vI (runR A one n w)) A := by
  intro I J rd rr Q S T hC
  obtain ⟨h1, h2, h3, h4⟩ := hC.1
  have h5 := ok.1.1
  have hd9 := ok.1.2.1
  refine Ev_go iM_run rfl rfl rfl ⟨Nat.le_refl _, Nat.le_refl _⟩ (fun K hK => ?_)
  refine hK.1 [(42, [true, true, true, true, true])] 100 _ _ _ _ _ ?_
  unfold runR at hK
  unfold runR
  refine c_isOne h1 h5 (by decide) ?_
  refine And.intro (fun h6 => ?_) (fun h6 => ?_)
  · rw [if_neg (fun q => iN_n h6 q.1)]
    exact ⟨rfl, (I, Q, S, T), rfl, rfl, hC, frM.r⟩
  · refine c_in (b' := 0) (c' := 40) rfl rfl (by decide) ?_
    refine And.intro (fun h7 => ?_) (fun h7 => ?_)
    · rw [if_neg (fun q => iN_n h7 q.2.1)]
      exact ⟨rfl, (I, Q, S, T), rfl, rfl, hC, frM.r⟩
    · refine c_in (b' := 0) (c' := 4) rfl rfl (by decide) ?_
      refine And.intro (fun h8 => ?_) (fun h8 => ?_)
      rotate_left
      · rw [if_neg (fun q => iN_n h8 q.2.2)]
        exact ⟨rfl, (I, Q, S, T), rfl, rfl, hC, frM.r⟩
      · have hc := And.intro (iN_y h6) (And.intro (iN_y h7) (iN_y h8))
        rw [if_pos hc] at hK
        clear h6 h7 h8
        obtain ⟨p, hp, rfl⟩ := nI_ex hc.1.1 hc.1.2 (by omega)
        obtain ⟨z, hz, rfl⟩ := rg_of (n := 40) hc.2.1.1 hc.2.1.2 (by decide)
        rw [nI_clamp (n := p) (by omega), nI_clamp (n := z) (by omega)] at hK
        have hWQ : WF Q (aN A 0) := hC.W ok
        have h0 : ∀ k p, dayN (bO A) (dy A) (aN A 0) Q k p 0 = Q p 0 := fun k p => dayN_a k
        have loop : ∀ j k S' T', k + j = z → MOK (aN A 3) (aB A) S' T' → K 80 42 [some (vR 20 0 0), some (vI (nI p)), some (vI (nI z)), some (vI w), some (vI (nI k))] [] (mf (rI I Q (nI (aN A 1 + k))) J rd rr (dayN (bO A) (dy A) (aN A 0) Q k) S' T') := by
          intro j
          induction j with
          | zero =>
            intro k S' T' hk hM
            refine hK.1 [] 100 _ _ _ _ _ ?_
            rw [show k = z by omega]
            have hA : Ag (aN A 0) (dayN (bO A) (dy A) (aN A 0) Q z) (runP A z) := dayN_Ag h4 h5 z
            have hWz : WF (dayN (bO A) (dy A) (aN A 0) Q z) (aN A 0) := dayN_WF hWQ z
            have h0z := h0 z
            rw [← runV_Ag hA hp]
            generalize dayN (bO A) (dy A) (aN A 0) Q z = Z at hWz h0z
            have hm : rI I Q (nI (aN A 1 + z)) 20 0 0 10 = nI (aN A 0) := by rw [rI_t (by decide) (by decide)]; exact h1
            unfold runV
            refine And.intro (fun _ => ?_) (fun h => absurd (nI_le (Nat.le_refl _) (by omega)) h)
            refine And.intro (fun w0 => And.intro (fun w1 => And.intro (fun w2 => And.intro (fun w3 => ?_) (fun w3 => ?_)) (fun w2 => ?_)) (fun w1 => ?_)) (fun w0 => ?_)
            · refine c_its rfl (w := 5) rfl (by omega) (by decide) (by decide) ?_
              refine r_back hC ok hM h0z (by decide) (fun Q2 hF _ => ?_)
              refine ⟨rfl, (_, Q2, S', T'), ?_, rfl, hF, frM.rI⟩
              rw [if_neg w0, if_neg w1, if_neg w2, if_neg w3]
            · refine c_tiredAll hm h5 (by decide) ?_
              refine r_back hC ok hM h0z (by decide) (fun Q2 hF _ => ?_)
              refine ⟨rfl, (_, Q2, S', T'), ?_, rfl, hF, frM.rI⟩
              rw [if_neg w0, if_neg w1, if_neg w2, if_pos w3]
            · refine c_asleepSet hm h5 hWz.b (by decide) ?_
              refine r_back hC ok hM h0z (by decide) (fun Q2 hF _ => ?_)
              refine ⟨rfl, (_, Q2, S', T'), ?_, rfl, hF, frM.rI⟩
              rw [if_neg w0, if_neg w1, if_pos w2]
            · refine c_its rfl (w := 3) rfl (by omega) (by decide) (by decide) ?_
              refine r_back hC ok hM h0z (by decide) (fun Q2 hF _ => ?_)
              refine ⟨rfl, (_, Q2, S', T'), ?_, rfl, hF, frM.rI⟩
              rw [if_neg w0, if_pos w1]
            · refine c_its rfl (w := 2) rfl (by omega) (by decide) (by decide) ?_
              refine r_back hC ok hM h0z (by decide) (fun Q2 hF _ => ?_)
              refine ⟨rfl, (_, Q2, S', T'), ?_, rfl, hF, frM.rI⟩
              rw [if_pos w0]
          | succ j ih =>
            intro k S' T' hk hM
            refine hK.1 [(42, [true, true, true, true, true])] 100 _ _ _ _ _ ?_
            refine And.intro (fun h => absurd h (nI_ge (by omega) (by omega))) (fun _ => ?_)
            refine r_passes hC ok (by omega) hM (dayN_WF hWQ k) (by decide) (fun q hq => ?_)
            show K 80 42 _ _ _
            refine Kc (ih (k + 1) q.1 q.2 (by omega) hq) (by rw [nI_succ]; rfl) ?_
            rw [dayN, show aN A 1 + (k + 1) = aN A 1 + k + 1 by omega]
            unfold dy
            rw [nI_plus]
        refine r_keeps hC (by decide) ?_
        show K 80 42 _ _ _
        exact loop z 0 S T (by omega) hC.2.1.2.2
end T11
