/-! drawn */ -/
section T29
variable {G : GT} {l : Launch} {I : HI} {J : HJ} {rd : Option AO} {rr : Nat → Nat} {A : ST}
def drw (z : Int32) : Int32 := z * 1103515245 + 12345
def pkd (z : Int32) : Int32 := uShr z 9 - uShr z 9 / 8 * 8
def drZ (z : Int32) : Nat → Int32
  | 0 => z
  | k + 1 => drw (drw (drZ z k))
def earS (m : Nat) (P : PP) (x y : Int32) : PP := if (0 ≤ x ∧ x < nI m) ∧ (0 ≤ y ∧ y < nI m) ∧ x ≠ y then upP P x.toNatClampNeg 4 y else P
def drP (B : BT) (d : Int32) (m : Nat) (P : PP) (z : Int32) : Nat → PP
  | 0 => P
  | k + 1 => dayS B (d + nI k) m (earS m (drP B d m P z k) (pkd (drw (drZ z k))) (pkd (drw (drw (drZ z k)))))
theorem ear_WF {m : Nat} {P : PP} {x y : Int32} (h : WF P m) (h5 : m ≤ 5) : WF (earS m P x y) m := by
  unfold earS
  split
  · rename_i hc
    obtain ⟨q, hq, rfl⟩ := nI_ex hc.2.1.1 hc.2.1.2 (by omega)
    exact h.up4 (Or.inr ⟨q, hq, rfl⟩)
  · exact h
theorem ear_Ag {m : Nat} {P Q : PP} {x y : Int32} (h : Ag m P Q) : Ag m (earS m P x y) (earS m Q x y) := by
  unfold earS
  split
  · exact h.up rfl
  · exact h
theorem ear_0 {m p : Nat} {P : PP} {x y : Int32} : earS m P x y p 0 = P p 0 := by
  unfold earS
  split
  · exact upP_a (by decide)
  · rfl
theorem drP_WF {B : BT} {d z : Int32} {m : Nat} {P : PP} (h : WF P m) (h5 : m ≤ 5) : ∀ k, WF (drP B d m P z k) m
  | 0 => h
  | k + 1 => day_WF (ear_WF (drP_WF h h5 k) h5)
theorem drP_Ag {B : BT} {d z : Int32} {m : Nat} {P Q : PP} (h : Ag m P Q) (h5 : m ≤ 5) : ∀ k, Ag m (drP B d m P z k) (drP B d m Q z k)
  | 0 => h
  | k + 1 => day_Ag (ear_Ag (drP_Ag h h5 k)) h5
theorem drP_0 {B : BT} {d z : Int32} {m p : Nat} {P : PP} : ∀ k, drP B d m P z k p 0 = P p 0
  | 0 => rfl
  | k + 1 => by rw [drP, day_0, ear_0, drP_0 k]
def drawnV (A : ST) (z : Int32) (n : Nat) : Int32 := sumT (drP (bO A) (dy A) (aN A 0) (aP A) z n) (aN A 0)
def drawnR (A : ST) (z n : Int32) : Int32 := if 0 ≤ n ∧ n ≤ 40 then drawnV A z n.toNatClampNeg else -2
theorem k_drawNext {d : Nat} {z : Int32} {h : AH} {post : Option AV → AH → Prop} (hd : 0 < d) (k : post (some (vI (drw z))) h) : CPd G l d 80 1 123 [vI z] h post := by
  have E : Ev G l 0 (mt 123) 80 80 [vI z] h (fun r h' => r = some (vI (drw z)) ∧ h' = h) := by
    refine Ev_go iC_drawNext rfl rfl rfl ⟨Nat.le_refl _, Nat.le_refl _⟩ (fun K hK => hK.1 [] 120 _ _ _ _ _ ?_)
    exact ⟨rfl, rfl, rfl⟩
  exact CPd_eq E hd rfl k
theorem t_areTwo {d : Nat} {x y dd : Int32} {P : PP} {O : Nat → Nat → Nat → Int32} {post : Option AV → AH → Prop} (hd : 1 < d) (k : post (some (vI (iN (x ≠ y ∧ (0 ≤ x ∧ x < nI (aN A 0)) ∧ (0 ≤ y ∧ y < nI (aN A 0)))))) (TF I J rd rr A dd P O)) : CPd G l d 80 0 82 [vR 17 1 0, vI x, vI y] (TF I J rd rr A dd P O) post := by
  refine CPd_eq e_areTwo hd rfl ?_
  have e : (setO (setP (tI I (nI (aN A 0)) dd) 1 P) O) 17 1 0 1 = nI (aN A 0) := by rw [setO_k (by decide), setP_k (by decide), tI_1]
  rw [e]
  exact k
theorem TF_wP {p a : Nat} {x dd : Int32} {P : PP} {O : Nat → Nat → Nat → Int32} : setI (TF I J rd rr A dd P O) 19 1 p a x = TF I J rd rr A dd (upP P p a x) O := nf_w
theorem e_tad {z : Int32} {n : Nat} (ok : OKA A) (hn : n ≤ 40) : CC G l 122 5 [vI z, vI (nI n)] A (vI (drawnV A z n)) A := by
  intro I J rd rr hC
  obtain ⟨h1, h2, h3, h4⟩ := hC.1
  have h5 := ok.1.1
  refine Ev_go iC_tiredAsDrawn rfl rfl rfl ⟨Nat.le_refl _, Nat.le_refl _⟩ (fun K hK => ?_)
  have loop : ∀ j k P O, k + j = n → Ag (aN A 0) P (drP (bO A) (dy A) (aN A 0) (aP A) z k) → K 80 16 [some (vR 0 0 0), none, some (vI (nI n)), some (vI (drZ z k)), some (vI (nI k)), none, none, none, none] [] (TF I J rd rr A (dy A + nI k) P O) := by
    intro j
    induction j with
    | zero =>
      intro k P O hk hA
      refine hK.1 [] 100 _ _ _ _ _ ?_
      rw [show k = n by omega] at hA ⊢
      refine And.intro (fun _ => ?_) (fun h => absurd (nI_le (Nat.le_refl _) (by omega)) h)
      refine t_tired ok (by decide) ⟨rfl, TF_at hC ?_⟩
      exact sum_Ag _ _ hA (Nat.le_refl _)
    | succ j ih =>
      intro k P O hk hA
      refine hK.1 [(16, [true, false, true, true, true, false, false, false, false])] 100 _ _ _ _ _ ?_
      refine And.intro (fun h => absurd h (nI_ge (by omega) (by omega))) (fun _ => ?_)
      refine k_drawNext (by decide) ?_
      refine k_drawNext (by decide) ?_
      refine ⟨by decide, by decide, ?_⟩
      refine t_areTwo (by decide) ?_
      have hA2 : Ag (aN A 0) (earS (aN A 0) P (pkd (drw (drZ z k))) (pkd (drw (drw (drZ z k))))) (earS (aN A 0) (drP (bO A) (dy A) (aN A 0) (aP A) z k) (pkd (drw (drZ z k))) (pkd (drw (drw (drZ z k))))) := ear_Ag hA
      have hW : WF (earS (aN A 0) P (pkd (drw (drZ z k))) (pkd (drw (drw (drZ z k))))) (aN A 0) := WF.Ag hA2.symm (ear_WF (drP_WF ok.1.2.2.2.2 h5 k) h5)
      have go : ∀ P', P' = earS (aN A 0) P (pkd (drw (drZ z k))) (pkd (drw (drw (drZ z k)))) → CPd G l 5 80 0 85 [vR 17 1 0] (TF I J rd rr A (dy A + nI k) P' O) (fun r h => K 80 16 [some (vR 0 0 0), none, some (vI (nI n)), some (vI (drZ z (k + 1))), some (vI (nI (k + 1))), none, none, none, none] (pushR r []) h) := by
        rintro P' rfl
        refine t_passDay hC ok hW (by decide) (fun O' => ?_)
        refine Kc (ih (k + 1) _ O' (by omega) (day_Ag hA2 h5)) rfl ?_
        rw [nI_succ, Int32.add_assoc]
      refine And.intro (fun h6 => ?_) (fun h6 => ?_)
      · have hc := iN_n h6
        rw [show nI (k + 1) = nI k + 1 from nI_succ k] at go
        exact go P (by unfold earS; rw [if_neg (fun q => hc ⟨q.2.2, q.1, q.2.1⟩)])
      · have hc := iN_y h6
        rw [show nI (k + 1) = nI k + 1 from nI_succ k] at go
        obtain ⟨p, hp, hpe⟩ := nI_ex hc.2.1.1 hc.2.1.2 (by omega)
        have hpe' : pkd (drw (drZ z k)) = nI p := hpe
        show vp_in (pkd (drw (drZ z k))) _ ∧ _
        refine ⟨by rw [hpe']; exact nI_in (N := 5) (by omega) (by decide), ?_⟩
        show CPd G l 5 80 0 85 [vR 17 1 0] (setI (TF I J rd rr A (dy A + nI k) P O) 19 1 (pkd (drw (drZ z k))).toNatClampNeg 4 (pkd (drw (drw (drZ z k))))) _
        rw [TF_wP]
        exact go _ (by unfold earS; rw [if_pos ⟨hc.2.1, hc.2.2, hc.1⟩])
  refine hK.1 [(16, [true, false, true, true, true, false, false, false, false])] 100 _ _ _ _ _ ?_
  refine k_think hC ok (by decide) (fun P hP => ?_)
  show K 80 16 _ _ _
  refine Kc (loop n 0 P (I 14) (by omega) hP) rfl ?_
  rw [show dy A + nI 0 = dy A from Int32.add_zero _]
theorem c_drawn {z n : Int32} (ok : OKA A) : CC G l 121 6 [vI z, vI n] A (vI (drawnR A z n)) A := by
  intro I J rd rr hC
  refine Ev_go iC_drawn rfl rfl rfl ⟨Nat.le_refl _, Nat.le_refl _⟩ (fun K hK => hK.1 [] 120 _ _ _ _ _ ?_)
  unfold drawnR
  refine k_isWithin (by decide) ?_
  refine And.intro (fun h6 => ?_) (fun h6 => ?_)
  · have hc := iN_y h6
    rw [if_pos hc]
    obtain ⟨m, hm, rfl⟩ := rg_of (n := 40) hc.1 hc.2 (by decide)
    rw [nI_clamp (n := m) (by omega)]
    refine CPd_exc (e_tad ok hm I J rd rr hC) (by decide) rfl (fun x hx => ?_)
    exact ⟨rfl, x, rfl, rfl, hx⟩
  · rw [if_neg (iN_n h6)]
    exact ⟨rfl, (I, J, rd, rr), rfl, rfl, hC, fun k hk => ⟨rfl, rfl⟩⟩
end T29
