/-! what one would be by hearing, now or in thought; bears */ -/
section T32
variable {G : GT} {l : Launch} {I : HI} {J : HJ} {rd : Option AO} {rr : Nat → Nat} {A : ST}
theorem n_weighsOf {d p : Nat} {post : Option AV → AH → Prop} (hC : CF I rr A) (ok : OKA A) (hp : p < aN A 0) (hd : 2 < d) (k : ∀ O, post (some (vI (weighsS (bO A) (aP A) p (dy A) (asl A)))) (mkH (setO I O) J rd rr)) : CPd G l d 80 0 73 [vR 17 0 0, vR 19 0 p] (mkH I J rd rr) post := by
  obtain ⟨h1, h2, h3, h4⟩ := hC.1
  refine k_weighsOf (hC.B ok) h1 ok.1.1 (hC.W ok).b hd (fun O => ?_)
  rw [h2, asB_Ag h4, weighs_Ag h4 hp]
  exact k O
theorem n_tiredBy {d p : Nat} {ld : Int32} {post : Option AV → AH → Prop} (hC : CF I rr A) (ok : OKA A) (hp : p < aN A 0) (hd : 3 < d) (k : ∀ O, post (some (vI (tiredByS (bO A) (aP A) p ld (dy A) (asl A)))) (mkH (setO I O) J rd rr)) : CPd G l d 80 0 102 [vR 17 0 0, vR 19 0 p, vI ld] (mkH I J rd rr) post := by
  obtain ⟨h1, h2, h3, h4⟩ := hC.1
  refine k_tiredBy (hC.B ok) h1 ok.1.1 (hC.W ok).b hd (fun O => ?_)
  rw [h2, asB_Ag h4, tiredBy_Ag h4 hp]
  exact k O
theorem t_weighsOf {d p : Nat} {dd : Int32} {P : PP} {O : Nat → Nat → Nat → Int32} {post : Option AV → AH → Prop} (hC : CF I rr A) (ok : OKA A) (hW : WF P (aN A 0)) (hd : 2 < d) (k : ∀ O', post (some (vI (weighsS (bO A) P p dd (aslS P (aN A 0))))) (TF I J rd rr A dd P O')) : CPd G l d 80 0 73 [vR 17 1 0, vR 19 1 p] (TF I J rd rr A dd P O) post := by
  refine CPd_ex (e_vweighsOf (tB hC ok) tI_1 ok.1.1 hW.b) hd rfl (fun O' => ?_)
  rw [tI_2]
  exact k O'
theorem t_tiredBy {d p : Nat} {dd ld : Int32} {P : PP} {O : Nat → Nat → Nat → Int32} {post : Option AV → AH → Prop} (hC : CF I rr A) (ok : OKA A) (hW : WF P (aN A 0)) (hd : 3 < d) (k : ∀ O', post (some (vI (tiredByS (bO A) P p ld dd (aslS P (aN A 0))))) (TF I J rd rr A dd P O')) : CPd G l d 80 0 102 [vR 17 1 0, vR 19 1 p, vI ld] (TF I J rd rr A dd P O) post := by
  refine CPd_ex (e_tiredBy (tB hC ok) tI_1 ok.1.1 hW.b) hd rfl (fun O' => ?_)
  rw [tI_2]
  exact k O'
theorem upP_upP {P : PP} {p a : Nat} {x y : Int32} : upP (upP P p a x) p a y = upP P p a y := by
  funext q b
  simp only [upP]
  grind
/-- how TIRED the other would be, had the one that STORY -/
def brV (A : ST) (p q : Nat) (v : Int32) : Int32 := tiredByS (bO A) (upP (aP A) p 3 v) q (weighsS (bO A) (upP (aP A) p 3 v) p (dy A) (asl A)) (dy A) (asl A)
/-- the last of the first j where f is below 80 -/
def lstF (f : Nat → Int32) : Nat → Int32
  | 0 => -1
  | v + 1 => if f v < 80 then nI v else lstF f v
def bearsR (A : ST) (x y : Int32) : Int32 := if (0 ≤ x ∧ x < nI (aN A 0)) ∧ (0 ≤ y ∧ y < nI (aN A 0)) ∧ x ≠ y then lstF (fun v => brV A x.toNatClampNeg y.toNatClampNeg (nI v)) 100 else -2
theorem asl_up3 {P : PP} {m p : Nat} {x : Int32} : aslS (upP P p 3 x) m = aslS P m := asl_congr m (fun q => upP_a (by decide))
theorem nI_m1 {v : Nat} : nI (v + 1) + -1 = nI v := by rw [nI_succ]; grind
theorem c_bears {x y : Int32} (ok : OKA A) : CC G l 105 5 [vI x, vI y] A (vI (bearsR A x y)) A := by
  intro I J rd rr hC
  obtain ⟨h1, h2, h3, h4⟩ := hC.1
  have h5 := ok.1.1
  refine Ev_go iC_bears rfl rfl rfl ⟨Nat.le_refl _, Nat.le_refl _⟩ (fun K hK => ?_)
  refine hK.1 [(40, [true, true, true, true, true, false])] 100 _ _ _ _ _ ?_
  unfold bearsR at hK
  unfold bearsR
  refine CPd_eq e_areTwo (by decide) rfl ?_
  rw [h1]
  refine And.intro (fun h6 => ?_) (fun h6 => ?_)
  · have hc := iN_y h6
    obtain ⟨p, hp, rfl⟩ := nI_ex hc.2.1.1 hc.2.1.2 (by omega)
    obtain ⟨q, hq, rfl⟩ := nI_ex hc.2.2.1 hc.2.2.2 (by omega)
    have hcc : (0 ≤ nI p ∧ nI p < nI (aN A 0)) ∧ (0 ≤ nI q ∧ nI q < nI (aN A 0)) ∧ nI p ≠ nI q := ⟨hc.2.1, hc.2.2, hc.1⟩
    rw [if_pos hcc, nI_clamp (n := p) (by omega), nI_clamp (n := q) (by omega)] at hK
    have loop : ∀ v P O, v < 101 → (∀ z, Ag (aN A 0) (upP P p 3 z) (upP (aP A) p 3 z)) → lstF (fun v => brV A p q (nI v)) v = lstF (fun v => brV A p q (nI v)) 100 → K 80 40 [some (vR 0 0 0), some (vI (nI p)), some (vI (nI q)), some (vR 19 1 p), some (vI (nI v + -1)), none] [] (TF I J rd rr A (dy A) P O) := by
      intro v
      induction v with
      | zero =>
        intro P O hv hA hR
        refine hK.1 [] 100 _ _ _ _ _ ?_
        refine And.intro (fun _ => ?_) (fun h => absurd (by decide) h)
        refine ⟨rfl, TF_at hC ?_⟩
        rw [← hR]
        rfl
      | succ v ih =>
        intro P O hv hA hR
        refine hK.1 [(40, [true, true, true, true, true, false])] 100 _ _ _ _ _ ?_
        rw [nI_m1]
        refine And.intro (fun h => absurd h (nI_pos (by omega))) (fun _ => ?_)
        show CPd G l 5 80 0 73 [vR 17 1 0, vR 19 1 p] (setI (TF I J rd rr A (dy A) P O) 19 1 p 3 (nI v)) _
        rw [TF_wP]
        have hA1 := hA (nI v)
        have hW0 : WF (upP (aP A) p 3 (nI v)) (aN A 0) := ok.1.2.2.2.2.up (Or.inr (Or.inl rfl)) ⟨v, by omega, rfl⟩
        have hW : WF (upP P p 3 (nI v)) (aN A 0) := WF.Ag hA1.symm hW0
        refine t_weighsOf hC ok hW (by decide) (fun O1 => ?_)
        show vp_in _ _ ∧ _
        refine ⟨nI_in (N := 5) (by omega) (by decide), ?_⟩
        rw [nI_clamp (n := q) (by omega)]
        refine t_tiredBy hC ok hW (by decide) (fun O2 => ?_)
        have e : tiredByS (bO A) (upP P p 3 (nI v)) q (weighsS (bO A) (upP P p 3 (nI v)) p (dy A) (aslS (upP P p 3 (nI v)) (aN A 0))) (dy A) (aslS (upP P p 3 (nI v)) (aN A 0)) = brV A p q (nI v) := by
          unfold brV asl
          rw [asl_Ag _ _ hA1 (Nat.le_refl _), asl_up3, weighs_Ag hA1 hp, tiredBy_Ag hA1 hq]
        rw [e]
        rw [lstF] at hR
        refine And.intro (fun h7 => ?_) (fun h7 => ?_)
        · rw [if_neg (by grind)] at hR
          show K 80 40 _ _ _
          exact ih _ O2 (by omega) (fun z => by rw [upP_upP]; exact hA z) hR
        · rw [if_pos (by grind)] at hR
          refine ⟨rfl, TF_at hC ?_⟩
          rw [← hR]
    refine k_think hC ok (by decide) (fun P hP => ?_)
    show vp_in _ _ ∧ _
    refine ⟨nI_in (N := 5) (by omega) (by decide), ?_⟩
    rw [nI_clamp (n := p) (by omega)]
    show K 80 40 _ _ _
    exact loop 100 P (I 14) (by decide) (fun z => hP.up rfl) rfl
  · rw [if_neg (fun q => iN_n h6 ⟨q.2.2, q.1, q.2.1⟩)]
    exact ⟨rfl, (I, J, rd, rr), rfl, rfl, hC, fun k hk => ⟨rfl, rfl⟩⟩
end T32
