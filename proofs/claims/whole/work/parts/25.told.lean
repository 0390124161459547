/-! told, hears */ -/
section T1
variable {G : GT} {l : Launch} {I : HI} {J : HJ} {rd : Option AO} {rr : Nat → Nat} {A : ST}
theorem k_isThere {d v m : Nat} {x : Int32} {post : Option AV → AH → Prop} (hm : I 17 v 0 1 = nI m) (hd : 0 < d) (k : post (some (vI (iN (0 ≤ x ∧ x < nI m)))) (mkH I J rd rr)) : CPd G l d 80 0 54 [vR 17 v 0, vI x] (mkH I J rd rr) post := by
  refine CPd_eq e_isThere hd rfl ?_
  rw [hm]
  exact k
theorem k_isWithin {d : Nat} {a b c : Int32} {h : AH} {post : Option AV → AH → Prop} (hd : 0 < d) (k : post (some (vI (iN (b ≤ a ∧ a ≤ c)))) h) : CPd G l d 80 1 56 [vI a, vI b, vI c] h post := CPd_eq (e_isWithin (Nat.le_refl 80)) hd rfl k
theorem nf_O {v : Nat} {O : Nat → Nat → Nat → Int32} : nf I J rd rr v (I 19 v) O = mkH (setO I O) J rd rr := by unfold nf; rw [setP_self]
theorem k_doesOf {d v m p : Nat} {B : BT} {post : Option AV → AH → Prop} (hB : RuK I (rr v) B) (hm : I 17 v 0 1 = nI m) (h5 : m ≤ 5) (hb : ∀ p, p < m → I 19 v p 6 = 0 ∨ I 19 v p 6 = 1) (hd : 2 < d) (k : ∀ O, post (some (vI (doesS B (I 19 v) p (I 17 v 0 2) (aslS (I 19 v) m)))) (mkH (setO I O) J rd rr)) : CPd G l d 80 0 63 [vR 17 v 0, vR 19 v p] (mkH I J rd rr) post := by
  have E := e_vdoesOf (G := G) (l := l) (J := J) (rd := rd) (rr := rr) (p := p) (P := I 19 v) (O := I 14) hB hm h5 hb
  rw [← nf_of] at E
  exact CPd_ex E hd rfl (fun O => by rw [nf_O]; exact k O)
theorem k_weighsOf {d v m p : Nat} {B : BT} {post : Option AV → AH → Prop} (hB : RuK I (rr v) B) (hm : I 17 v 0 1 = nI m) (h5 : m ≤ 5) (hb : ∀ p, p < m → I 19 v p 6 = 0 ∨ I 19 v p 6 = 1) (hd : 2 < d) (k : ∀ O, post (some (vI (weighsS B (I 19 v) p (I 17 v 0 2) (aslS (I 19 v) m)))) (mkH (setO I O) J rd rr)) : CPd G l d 80 0 73 [vR 17 v 0, vR 19 v p] (mkH I J rd rr) post := by
  have E := e_vweighsOf (G := G) (l := l) (J := J) (rd := rd) (rr := rr) (p := p) (P := I 19 v) (O := I 14) hB hm h5 hb
  rw [← nf_of] at E
  exact CPd_ex E hd rfl (fun O => by rw [nf_O]; exact k O)
theorem k_hearsOf {d v m p : Nat} {B : BT} {ld : Int32} {post : Option AV → AH → Prop} (hB : RuK I (rr v) B) (hm : I 17 v 0 1 = nI m) (h5 : m ≤ 5) (hb : ∀ p, p < m → I 19 v p 6 = 0 ∨ I 19 v p 6 = 1) (hd : 2 < d) (k : ∀ O, post (some (vI (hearsS B (I 19 v) p ld (I 17 v 0 2) (aslS (I 19 v) m)))) (mkH (setO I O) J rd rr)) : CPd G l d 80 0 76 [vR 17 v 0, vR 19 v p, vI ld] (mkH I J rd rr) post := by
  have E := e_vhearsOf (G := G) (l := l) (J := J) (rd := rd) (rr := rr) (p := p) (P := I 19 v) (O := I 14) (ld := ld) hB hm h5 hb
  rw [← nf_of] at E
  exact CPd_ex E hd rfl (fun O => by rw [nf_O]; exact k O)
theorem k_tiredBy {d v m p : Nat} {B : BT} {ld : Int32} {post : Option AV → AH → Prop} (hB : RuK I (rr v) B) (hm : I 17 v 0 1 = nI m) (h5 : m ≤ 5) (hb : ∀ p, p < m → I 19 v p 6 = 0 ∨ I 19 v p 6 = 1) (hd : 3 < d) (k : ∀ O, post (some (vI (tiredByS B (I 19 v) p ld (I 17 v 0 2) (aslS (I 19 v) m)))) (mkH (setO I O) J rd rr)) : CPd G l d 80 0 102 [vR 17 v 0, vR 19 v p, vI ld] (mkH I J rd rr) post := by
  have E := e_tiredBy (G := G) (l := l) (J := J) (rd := rd) (rr := rr) (p := p) (P := I 19 v) (O := I 14) (ld := ld) hB hm h5 hb
  rw [← nf_of] at E
  exact CPd_ex E hd rfl (fun O => by rw [nf_O]; exact k O)
theorem CF.B (h : CF I rr A) (ok : OKA A) : RuK I (rr 0) (aB A (aN A 2)) := by
  rw [h.1.2.2.1]
  exact h.2.1.2 _ ok.1.2.2.1
theorem CF.W (h : CF I rr A) (ok : OKA A) : WF (I 19 0) (aN A 0) := WF.Ag h.1.2.2.2.symm ok.1.2.2.2.2
/-- of the state: DOES, WEIGHS, HEARS now */ -/
def dy (A : ST) : Int32 := nI (aN A 1)
def asl (A : ST) : Int32 := aslS (aP A) (aN A 0)
def bO (A : ST) : BT := aB A (aN A 2)
def toldR (A : ST) (of what : Int32) : Int32 := if what = 0 then dy A else if (0 ≤ of ∧ of < nI (aN A 0)) ∧ 1 ≤ what ∧ what ≤ 9 then
  (if what = 7 then aP A of.toNatClampNeg 0 else if what = 8 then doesS (bO A) (aP A) of.toNatClampNeg (dy A) (asl A) else if what = 9 then 1000 + weighsS (bO A) (aP A) of.toNatClampNeg (dy A) (asl A) else attr (aP A) of.toNatClampNeg what) else -1000
theorem c_told {of what : Int32} (ok : OKA A) : CC G l 62 5 [vI of, vI what] A (vI (toldR A of what)) A := by
  intro I J rd rr hC
  obtain ⟨h1, h2, h3, h4⟩ := hC.1
  have h5 := ok.1.1
  have hB := hC.B ok
  have hb := (hC.W ok).b
  refine Ev_go iC_told rfl rfl rfl ⟨Nat.le_refl _, Nat.le_refl _⟩ (fun K hK => hK.1 [] 120 _ _ _ _ _ ?_)
  unfold toldR
  refine And.intro (fun hw => ?_) (fun hw => ?_)
  · rw [if_neg hw]
    refine k_isThere h1 (by decide) ?_
    refine And.intro (fun h6 => ?_) (fun h6 => ?_)
    · rw [iN_0] at h6
      refine ⟨rfl, (I, J, rd, rr), ?_, rfl, hC, fun k hk => ⟨rfl, rfl⟩⟩
      rw [if_neg (fun q => h6 q.1)]
    · rw [iN_0, Classical.not_not] at h6
      refine k_isWithin (by decide) ?_
      refine And.intro (fun h7 => ?_) (fun h7 => ?_)
      · rw [iN_0, Classical.not_not] at h7
        rw [if_pos ⟨h6, h7⟩]
        obtain ⟨p, hp, rfl⟩ := nI_ex h6.1 h6.2 (by omega)
        show vp_in _ _ ∧ _
        refine ⟨nI_in (N := 5) (by omega) (by decide), ?_⟩
        rw [nI_clamp (by omega)]
        refine And.intro (fun h8 => And.intro (fun h9 => And.intro (fun h10 => ?_) (fun h10 => ?_)) (fun h9 => ?_)) (fun h8 => ?_)
        · refine CPd_eq e_attribute (by decide) rfl ?_
          refine ⟨rfl, (I, J, rd, rr), ?_, rfl, hC, fun k hk => ⟨rfl, rfl⟩⟩
          rw [if_neg h8, if_neg h9, if_neg h10]
          unfold attr
          rw [h4 p hp 1 (by omega), h4 p hp 2 (by omega), h4 p hp 3 (by omega), h4 p hp 4 (by omega), h4 p hp 5 (by omega), h4 p hp 6 (by omega)]
        · refine k_weighsOf hB h1 h5 hb (by decide) (fun O => ?_)
          refine ⟨rfl, (setO I O, J, rd, rr), ?_, rfl, hC.O, frC.O⟩
          rw [if_neg h8, if_neg h9, if_pos h10, weighs_Ag h4 hp, asl_Ag _ _ h4 (Nat.le_refl _), h2]
          rfl
        · refine k_doesOf hB h1 h5 hb (by decide) (fun O => ?_)
          refine ⟨rfl, (setO I O, J, rd, rr), ?_, rfl, hC.O, frC.O⟩
          rw [if_neg h8, if_pos h9, does_Ag h4 hp, asl_Ag _ _ h4 (Nat.le_refl _), h2]
          rfl
        · refine ⟨rfl, (I, J, rd, rr), ?_, rfl, hC, fun k hk => ⟨rfl, rfl⟩⟩
          rw [if_pos h8, getI_mk, h4 p hp 0 (by omega)]
      · rw [iN_0] at h7
        refine ⟨rfl, (I, J, rd, rr), ?_, rfl, hC, fun k hk => ⟨rfl, rfl⟩⟩
        rw [if_neg (fun q => h7 q.2)]
  · refine ⟨rfl, (I, J, rd, rr), ?_, rfl, hC, fun k hk => ⟨rfl, rfl⟩⟩
    rw [if_pos hw, getI_mk, h2]
    rfl
def hearsR (A : ST) (one ld : Int32) : Int32 := if (0 ≤ one ∧ one < nI (aN A 0)) ∧ -99 ≤ ld ∧ ld ≤ 99 then 1000 + hearsS (bO A) (aP A) one.toNatClampNeg ld (dy A) (asl A) else -2
theorem c_hears {one ld : Int32} (ok : OKA A) : CC G l 75 5 [vI one, vI ld] A (vI (hearsR A one ld)) A := by
  intro I J rd rr hC
  obtain ⟨h1, h2, h3, h4⟩ := hC.1
  have h5 := ok.1.1
  have hB := hC.B ok
  have hb := (hC.W ok).b
  refine Ev_go iC_hears rfl rfl rfl ⟨Nat.le_refl _, Nat.le_refl _⟩ (fun K hK => hK.1 [] 120 _ _ _ _ _ ?_)
  unfold hearsR
  refine k_isThere h1 (by decide) ?_
  refine And.intro (fun h6 => ?_) (fun h6 => ?_)
  · rw [iN_0] at h6
    refine ⟨rfl, (I, J, rd, rr), ?_, rfl, hC, fun k hk => ⟨rfl, rfl⟩⟩
    rw [if_neg (fun q => h6 q.1)]
  · rw [iN_0, Classical.not_not] at h6
    refine k_isWithin (by decide) ?_
    refine And.intro (fun h7 => ?_) (fun h7 => ?_)
    · rw [iN_0, Classical.not_not] at h7
      rw [if_pos ⟨h6, h7⟩]
      obtain ⟨p, hp, rfl⟩ := nI_ex h6.1 h6.2 (by omega)
      show vp_in _ _ ∧ _
      refine ⟨nI_in (N := 5) (by omega) (by decide), ?_⟩
      rw [nI_clamp (by omega)]
      refine k_hearsOf hB h1 h5 hb (by decide) (fun O => ?_)
      refine ⟨rfl, (setO I O, J, rd, rr), ?_, rfl, hC.O, frC.O⟩
      rw [hears_Ag h4 hp, asl_Ag _ _ h4 (Nat.le_refl _), h2]
      rfl
    · rw [iN_0] at h7
      refine ⟨rfl, (I, J, rd, rr), ?_, rfl, hC, fun k hk => ⟨rfl, rfl⟩⟩
      rw [if_neg (fun q => h7 q.2)]
theorem MF.E {Q : PP} {S : HI} {T : HJ} (h : MF G l I Q S T A) (ok : OKA A) : RE G l (aN A 3) (aB A) I (aN A 0) (aN A 2) (aN A 1) := ⟨h.2.1.2.1, ok.1.2.2.2.1, ok.1.2.2.1, h.1.2.2.1, h.1.2.1, by have := ok.1.2.1; omega, h.1.1, ok.1.1⟩
theorem MF.W {Q : PP} {S : HI} {T : HJ} (h : MF G l I Q S T A) (ok : OKA A) : WF Q (aN A 0) := WF.Ag h.1.2.2.2.symm ok.1.2.2.2.2
theorem MF.M {Q : PP} {S S' : HI} {T T' : HJ} (h : MF G l I Q S T A) (hm : MOK (aN A 3) (aB A) S' T') : MF G l I Q S' T' A := ⟨h.1, ⟨h.2.1.1, h.2.1.2.1, hm⟩, h.2.2⟩
theorem frM.r : frM I I := fun _ _ => rfl
theorem m_hears {one ld : Int32} (ok : OKA A) : MC G l 168 100 [vI one, vI ld] A (vI (hearsR A one ld)) A := by
  intro I J rd rr Q S T hC
  obtain ⟨h1, h2, h3, h4⟩ := hC.1
  have h5 := ok.1.1
  refine Ev_go iM_hears rfl rfl rfl ⟨Nat.le_refl _, Nat.le_refl _⟩ (fun K hK => hK.1 [] 120 _ _ _ _ _ ?_)
  unfold hearsR
  refine c_isOne h1 h5 (by decide) ?_
  refine And.intro (fun h6 => ?_) (fun h6 => ?_)
  · rw [iN_0] at h6
    refine ⟨rfl, (I, Q, S, T), ?_, rfl, hC, frM.r⟩
    rw [if_neg (fun q => h6 q.1)]
  · rw [iN_0, Classical.not_not] at h6
    refine c_in (b' := -99) (c' := 99) rfl rfl (by decide) ?_
    refine And.intro (fun h7 => ?_) (fun h7 => ?_)
    · rw [iN_0] at h7
      refine ⟨rfl, (I, Q, S, T), ?_, rfl, hC, frM.r⟩
      rw [if_neg (fun q => h7 q.2)]
    · rw [iN_0, Classical.not_not] at h7
      rw [if_pos ⟨h6, h7⟩]
      obtain ⟨p, hp, rfl⟩ := nI_ex h6.1 h6.2 (by omega)
      refine CPd_exc (e_mhearsOf (hC.E ok) hC.2.1.2.2 (hC.W ok) hp h7.2) (by decide) rfl (fun q hq => ?_)
      refine ⟨rfl, (I, Q, q.1, q.2), ?_, rfl, hC.M hq, frM.r⟩
      rw [hears_Ag h4 hp, asl_Ag _ _ h4 (Nat.le_refl _), nI_clamp (by omega)]
      rfl
end T1
