/-! the reference: does, weighs, hears, goes -/
section M4
variable {G : GT} {l : Launch} {I : HI} {J : HJ} {rd : Option AO} {rr : Nat → Nat}
def rg (x : Int32) (n : Nat) : Prop := ∃ a, a ≤ n ∧ x = nI a
def WF (P : PP) (m : Nat) : Prop := ∀ p, p < m → rg (P p 0) 5 ∧ rg (P p 1) 9 ∧ rg (P p 2) 99 ∧ rg (P p 3) 99 ∧ (P p 4 = -1 ∨ ∃ q, q < m ∧ P p 4 = nI q) ∧ rg (P p 5) 99 ∧ (P p 6 = 0 ∨ P p 6 = 1)
theorem WF.b {P : PP} {m : Nat} (h : WF P m) : ∀ p, p < m → P p 6 = 0 ∨ P p 6 = 1 := fun p hp => (h p hp).2.2.2.2.2.2
theorem asl_rg {P : PP} : ∀ (m : Nat), (∀ p, p < m → P p 6 = 0 ∨ P p 6 = 1) → rg (aslS P m) m
  | 0, _ => ⟨0, Nat.le_refl _, rfl⟩
  | m + 1, h => by
    obtain ⟨a, h1, h2⟩ := asl_rg m (fun p hp => h p (by omega))
    rcases h m (by omega) with q | q
    · exact ⟨a, by omega, by rw [aslS, h2, q, Int32.add_zero]⟩
    · exact ⟨a + 1, by omega, by rw [aslS, h2, q, nI_succ]⟩
def RE (G : GT) (l : Launch) (n : Nat) (Bs : Nat → BT) (I : HI) (m r dd : Nat) : Prop := HRd G l n Bs I ∧ n ≤ 6 ∧ r < n ∧ I 20 0 0 4 = nI r ∧ I 20 0 0 7 = nI dd ∧ dd < 2048 ∧ I 20 0 0 10 = nI m ∧ m ≤ 5
theorem e_asks {n m r dd p w : Nat} {Bs : Nat → BT} {P : PP} {S : HI} {T : HJ} (hE : RE G l n Bs I m r dd) (hM : MOK n Bs S T) (hW : WF P m) (hp : p < m) (hw : w < 3) :
    Ev G l 62 (mt 145) 80 80 [vR 20 0 0, vI (nI w), vI (nI p)] (mf I J rd rr P S T) (fun v h' => ∃ q : HI × HJ, v = some (vI (bnd (Bs r w (envS (P p) (nI dd) (aslS P m))) 0 99)) ∧ h' = mf I J rd rr P q.1 q.2 ∧ MOK n Bs q.1 q.2) := by
  obtain ⟨hR, hn, hr, hI4, hI7, hdd, hm, h5⟩ := hE
  obtain ⟨-, ⟨c, hc, hc'⟩, ⟨a, ha, ha'⟩, ⟨b, hb, hb'⟩, -, ⟨f, hf, hf'⟩, -⟩ := hW p hp
  obtain ⟨e, he, he'⟩ := asl_rg m hW.b
  refine Ev_go iM_asks rfl rfl rfl ⟨Nat.le_refl _, Nat.le_refl _⟩ (fun K hK => hK.1 [] 120 _ _ _ _ _ ?_)
  refine c_its rfl (w := 2) rfl (by omega) (by decide) (by decide) ?_
  show CPd _ _ _ _ _ _ _ _ _
  rw [mf_wS (Or.inr (by decide))]
  refine c_its rfl (w := 3) rfl (by omega) (by decide) (by decide) ?_
  show CPd _ _ _ _ _ _ _ _ _
  rw [mf_wS (Or.inr (by decide))]
  refine c_its rfl (w := 1) rfl (by omega) (by decide) (by decide) ?_
  show CPd _ _ _ _ _ _ _ _ _
  rw [mf_wS (Or.inr (by decide)), mf_I (by decide), mf_wS (Or.inr (by decide))]
  refine c_asleepMany hm h5 (by decide) ?_
  show CPd _ _ _ _ _ _ _ _ _
  rw [mf_wS (Or.inr (by decide))]
  refine c_its rfl (w := 5) rfl (by omega) (by decide) (by decide) ?_
  show CPd _ _ _ _ _ _ _ _ _
  rw [mf_wS (Or.inr (by decide))]
  refine CPd_exc (e_keptRead (n := n) (r := r) (w := w) (a := a) (b := b) (c := c) (d := dd) (e := e) (f := f) hR (hM.same (by simp only [upI_27]) rfl) hn ⟨hr, hw, by omega, by omega, by omega, by omega, by omega, by omega⟩ hI4 ?_ ?_ ?_ ?_ ?_ ?_) (by decide) rfl (fun x hx => ?_)
  · simp only [upI_at]; simpa using ha'
  · simp only [upI_at]; simpa using hb'
  · simp only [upI_at]; simpa using hc'
  · simp only [upI_at]; simpa using hI7
  · simp only [upI_at]; simpa using he'
  · simp only [upI_at]; simpa using hf'
  refine c_within (by decide) ?_
  refine ⟨rfl, x, ?_, rfl, hx⟩
  have : mkE a b c dd e f = envS (P p) (nI dd) (aslS P m) := by
    unfold mkE envS
    rw [ha', hb', hc', he', hf']
  rw [this]
theorem c_asks {d n m r dd p w : Nat} {x y : Int32} {Bs : Nat → BT} {P : PP} {S : HI} {T : HJ} {post : Option AV → AH → Prop} (hE : RE G l n Bs I m r dd) (hM : MOK n Bs S T) (hW : WF P m) (hx : x = nI w) (hy : y = nI p) (hp : p < m) (hw : w < 3) (hd : 62 < d) (k : ∀ q : HI × HJ, MOK n Bs q.1 q.2 → post (some (vI (bnd (Bs r w (envS (P p) (nI dd) (aslS P m))) 0 99))) (mf I J rd rr P q.1 q.2)) : CPd G l d 80 0 145 [vR 20 0 0, vI x, vI y] (mf I J rd rr P S T) post := by
  subst hx hy
  exact CPd_exc (e_asks hE hM hW hp hw) hd rfl k
theorem bnd_rg {x a b : Int32} : (∃ q : Nat, q ≤ 99 ∧ bnd x 0 99 = nI q) := by
  by_cases h1 : x < 0
  · exact ⟨0, by omega, by rw [bnd, if_pos h1]; rfl⟩
  · by_cases h2 : 99 < x
    · exact ⟨99, by omega, by rw [bnd, if_neg h1, if_pos h2]; rfl⟩
    · obtain ⟨q, hq, he⟩ := nI_ex (x := x) (m := 100) (by grind) (show x < 100 by grind) (by decide)
      exact ⟨q, by omega, by rw [bnd, if_neg h1, if_neg h2, he]⟩
theorem bnd_id : ∀ q, q < 100 → bnd (nI q) 0 99 = nI q := by decide
theorem bnd_half : ∀ q, q < 100 → bnd (nI q / 2) 0 99 = nI q / 2 := by decide
theorem bnd_bnd {x : Int32} : bnd (bnd x 0 99) 0 99 = bnd x 0 99 := by
  obtain ⟨q, hq, he⟩ := bnd_rg (x := x) (a := 0) (b := 0)
  rw [he, bnd_id q (by omega)]
theorem bnd_hf {x : Int32} : bnd (bnd x 0 99 / 2) 0 99 = bnd x 0 99 / 2 := by
  obtain ⟨q, hq, he⟩ := bnd_rg (x := x) (a := 0) (b := 0)
  rw [he, bnd_half q (by omega)]
theorem e_mdoesOf {n m r dd p : Nat} {Bs : Nat → BT} {P : PP} {S : HI} {T : HJ} (hE : RE G l n Bs I m r dd) (hM : MOK n Bs S T) (hW : WF P m) (hp : p < m) :
    Ev G l 63 (mt 144) 80 80 [vR 20 0 0, vI (nI p)] (mf I J rd rr P S T) (fun v h' => ∃ q : HI × HJ, v = some (vI (doesS (Bs r) P p (nI dd) (aslS P m))) ∧ h' = mf I J rd rr P q.1 q.2 ∧ MOK n Bs q.1 q.2) := by
  have h5 := hE.2.2.2.2.2.2.2
  have hk5 := (hW p hp).1
  refine Ev_go iM_doesOf rfl rfl rfl ⟨Nat.le_refl _, Nat.le_refl _⟩ (fun K hK => hK.1 [] 120 _ _ _ _ _ ?_)
  show vp_in _ _ ∧ _
  refine ⟨nI_in (N := 5) (by omega) (by decide), ?_⟩
  rw [nI_clamp (n := p) (by omega), mf_k]
  unfold doesS doingS
  generalize P p 0 = k at hk5
  obtain ⟨kk, hk1, rfl⟩ := hk5
  refine And.intro (fun h1 => ?_) (fun h1 => And.intro (fun h2 => ?_) (fun h2 => ?_))
  · refine ⟨rfl, (S, T), ?_, rfl, hM⟩
    rw [h1]; rfl
  · refine c_asks hE hM hW rfl rfl hp (by decide) (by decide) (fun q hq => ?_)
    refine And.intro (fun h3 => ?_) (fun h3 => And.intro (fun h4 => ?_) (fun h4 => ?_))
    · refine ⟨by decide, c_within (by decide) ?_⟩
      refine ⟨rfl, q, ?_, rfl, hq⟩
      rw [if_pos h3, bnd_hf]
    · refine And.intro (fun h5 => ?_) (fun h5 => ?_)
      · refine c_within (by decide) ?_
        refine ⟨rfl, q, ?_, rfl, hq⟩
        rw [if_neg h3, if_neg h5, if_neg h2, if_neg h1, bnd_bnd]
      · refine c_its rfl (w := 1) rfl (by omega) (by decide) (by decide) ?_
        refine c_within (by decide) ?_
        refine ⟨rfl, q, ?_, rfl, hq⟩
        rw [if_neg h3, if_pos h5]
    · exact absurd h4 h2
  · refine c_its rfl (w := 2) rfl (by omega) (by decide) (by decide) ?_
    refine And.intro (fun h3 => ?_) (fun h3 => ?_)
    · refine c_asks hE hM hW rfl rfl hp (by decide) (by decide) (fun q hq => ?_)
      have hn1 : ¬ nI kk = 1 := by rw [h2]; decide
      have hn2 : ¬ nI kk = 2 := by rw [h2]; decide
      refine And.intro (fun h4 => absurd h4 hn1) (fun _ => And.intro (fun h4 => absurd h2 h4) (fun _ => ?_))
      refine ⟨by decide, c_within (by decide) ?_⟩
      refine ⟨rfl, q, ?_, rfl, hq⟩
      rw [if_neg hn1, if_neg hn2, if_pos h2, if_neg (by grind), bnd_hf]
    · refine ⟨rfl, (S, T), ?_, rfl, hM⟩
      have hn1 : ¬ nI kk = 1 := by rw [h2]; decide
      have hn2 : ¬ nI kk = 2 := by rw [h2]; decide
      rw [if_neg hn1, if_neg hn2, if_pos h2, if_pos (by grind)]
theorem e_mweighsOf {n m r dd p : Nat} {Bs : Nat → BT} {P : PP} {S : HI} {T : HJ} (hE : RE G l n Bs I m r dd) (hM : MOK n Bs S T) (hW : WF P m) (hp : p < m) :
    Ev G l 63 (mt 165) 80 80 [vR 20 0 0, vI (nI p)] (mf I J rd rr P S T) (fun v h' => ∃ q : HI × HJ, v = some (vI (weighsS (Bs r) P p (nI dd) (aslS P m))) ∧ h' = mf I J rd rr P q.1 q.2 ∧ MOK n Bs q.1 q.2) := by
  have h5 := hE.2.2.2.2.2.2.2
  refine Ev_go iM_weighsOf rfl rfl rfl ⟨Nat.le_refl _, Nat.le_refl _⟩ (fun K hK => hK.1 [] 120 _ _ _ _ _ ?_)
  show vp_in _ _ ∧ _
  refine ⟨nI_in (N := 5) (by omega) (by decide), ?_⟩
  rw [nI_clamp (n := p) (by omega), mf_k]
  unfold weighsS weighS
  generalize hk : P p 0 = k
  refine c_its rfl (w := 3) rfl (by omega) (by decide) (by decide) ?_
  refine And.intro (fun h1 => ?_) (fun h1 => ?_)
  · refine And.intro (fun h2 => ?_) (fun h2 => ?_)
    · refine And.intro (fun h3 => ?_) (fun h3 => ?_)
      · refine And.intro (fun h4 => ?_) (fun h4 => ?_)
        · exact absurd h3 h4
        · refine ⟨rfl, (S, T), ?_, rfl, hM⟩
          rw [if_neg h1, if_neg (by rw [h3]; decide), if_neg h2, if_pos h3]
      · refine And.intro (fun h4 => ?_) (fun h4 => ?_)
        · refine c_asks hE hM hW rfl rfl hp (by decide) (by decide) (fun q hq => ?_)
          refine And.intro (fun h5 => ?_) (fun h5 => ?_)
          · refine c_within (by decide) ?_
            refine ⟨rfl, q, ?_, rfl, hq⟩
            rw [if_neg h1, if_neg h5, if_neg h2, if_neg h3, if_neg h4]
          · refine c_within (by decide) ?_
            refine ⟨rfl, q, ?_, rfl, hq⟩
            rw [if_neg h1, if_pos h5]
        · refine And.intro (fun h5 => ?_) (fun h5 => absurd h5 h3)
          refine ⟨by decide, rfl, (S, T), ?_, rfl, hM⟩
          rw [if_neg h1, if_neg (by rw [h4]; decide), if_neg h2, if_neg h3, if_pos h4]
    · refine c_its rfl (w := 1) rfl (by omega) (by decide) (by decide) ?_
      refine c_within (by decide) ?_
      refine ⟨rfl, (S, T), ?_, rfl, hM⟩
      rw [if_neg h1, if_neg (by rw [h2]; decide), if_pos h2]
  · refine ⟨rfl, (S, T), ?_, rfl, hM⟩
    rw [if_pos h1]
theorem toInt_nI0 : (0 : Int32).toInt = 0 := Int32.toInt_zero
theorem left_eq {ld v : Int32} (h0 : 0 < ld) (h1 : ld ≤ 99) (hv : rg v 99) : (if ld - v < 0 then 0 else ld - v) = (if ld ≤ v then 0 else ld - v) := by
  obtain ⟨q, hq, rfl⟩ := hv
  obtain ⟨z, hz, rfl⟩ := nI_ex (x := ld) (m := 100) (by grind) (by show ld < 100; grind) (by decide)
  have e1 : (nI z - nI q).toInt = (z : Int) - q := by
    rw [Int32.toInt_sub, nI_toInt (by omega), nI_toInt (by omega), Int.bmod_eq_of_le (by omega) (by omega)]
  have e2 : (nI z - nI q < 0) ↔ z < q := by rw [Int32.lt_iff_toInt_lt, e1, toInt_nI0]; omega
  have e3 : (nI z ≤ nI q) ↔ z ≤ q := by rw [Int32.le_iff_toInt_le, nI_toInt (by omega), nI_toInt (by omega)]; omega
  by_cases h : z < q
  · rw [if_pos (e2.mpr h), if_pos (e3.mpr (by omega))]
  · rw [if_neg (fun a => h (e2.mp a))]
    by_cases h' : z = q
    · subst h'
      rw [if_pos (e3.mpr (Nat.le_refl _))]
      exact Int32.sub_self _
    · rw [if_neg (fun a => by have := e3.mp a; omega)]
theorem left_id {ld v : Int32} (h0 : 0 < ld) (h1 : ld ≤ 99) (hv : rg v 99) : bnd (if ld ≤ v then 0 else ld - v) (-99) 99 = if ld ≤ v then 0 else ld - v := by
  obtain ⟨q, hq, rfl⟩ := hv
  obtain ⟨z, hz, rfl⟩ := nI_ex (x := ld) (m := 100) (by grind) (by show ld < 100; grind) (by decide)
  by_cases h : nI z ≤ nI q
  · rw [if_pos h]; decide
  · rw [if_neg h]
    have e3 : (nI z ≤ nI q) ↔ z ≤ q := by rw [Int32.le_iff_toInt_le, nI_toInt (by omega), nI_toInt (by omega)]; omega
    have e4 : nI z - nI q = nI (z - q) := by
      have : q ≤ z := by rw [e3] at h; omega
      apply Int32.toInt_inj.mp
      rw [Int32.toInt_sub, nI_toInt (by omega), nI_toInt (by omega), Int.bmod_eq_of_le (by omega) (by omega), nI_toInt (by omega)]
      omega
    rw [e4]
    have : z - q < 100 := by omega
    generalize z - q = y at this
    have hd : ∀ y, y < 100 → bnd (nI y) (-99) 99 = nI y := by decide
    exact hd y this
theorem e_mhearsOf {n m r dd p : Nat} {Bs : Nat → BT} {P : PP} {S : HI} {T : HJ} {ld : Int32} (hE : RE G l n Bs I m r dd) (hM : MOK n Bs S T) (hW : WF P m) (hp : p < m) (hl : ld ≤ 99) :
    Ev G l 63 (mt 169) 80 80 [vR 20 0 0, vI (nI p), vI ld] (mf I J rd rr P S T) (fun v h' => ∃ q : HI × HJ, v = some (vI (hearsS (Bs r) P p ld (nI dd) (aslS P m))) ∧ h' = mf I J rd rr P q.1 q.2 ∧ MOK n Bs q.1 q.2) := by
  have h5 := hE.2.2.2.2.2.2.2
  refine Ev_go iM_hearsOf rfl rfl rfl ⟨Nat.le_refl _, Nat.le_refl _⟩ (fun K hK => hK.1 [] 120 _ _ _ _ _ ?_)
  unfold hearsS hearS
  refine And.intro (fun h0 => ?_) (fun h0 => ?_)
  · have h0' : ¬ ld ≤ 0 := by grind
    show vp_in _ _ ∧ _
    refine ⟨nI_in (N := 5) (by omega) (by decide), ?_⟩
    rw [nI_clamp (n := p) (by omega), mf_k]
    generalize hk : P p 0 = k
    refine And.intro (fun h1 => ?_) (fun h1 => And.intro (fun h2 => ?_) (fun h2 => ?_))
    · refine And.intro (fun h2 => absurd h1 h2) (fun _ => ?_)
      refine ⟨rfl, (S, T), ?_, rfl, hM⟩
      rw [if_neg h0', if_neg (by rw [h1]; decide), if_pos h1]
    · refine c_asks hE hM hW rfl rfl hp (by decide) (by decide) (fun q hq => ?_)
      have hv : rg (bnd (Bs r 2 (envS (P p) (nI dd) (aslS P m))) 0 99) 99 := bnd_rg (a := 0) (b := 0)
      have el := left_eq (by grind) hl hv
      have ei := left_id (by grind) hl hv
      generalize bnd (Bs r 2 (envS (P p) (nI dd) (aslS P m))) 0 99 = v at el ei
      generalize (if ld ≤ v then 0 else ld - v) = X at el ei
      refine And.intro (fun h3 => ?_) (fun h3 => ?_)
      · have hX : ld - v = X := by rw [← el, if_neg (by grind)]
        rw [hX]
        refine c_its rfl (w := 1) rfl (by omega) (by decide) (by decide) ?_
        refine And.intro (fun h4 => ?_) (fun h4 => ?_)
        · refine And.intro (fun h6 => ?_) (fun h6 => ?_)
          · refine c_within (by decide) ?_
            refine ⟨rfl, q, ?_, rfl, hq⟩
            rw [if_neg h0', if_neg h4, if_neg h1, if_neg h6, if_neg h2, ei]
          · refine c_its rfl (w := 3) rfl (by omega) (by decide) (by decide) ?_
            refine And.intro (fun h7 => ?_) (fun h7 => ?_)
            · refine c_within (by decide) ?_
              refine ⟨rfl, q, ?_, rfl, hq⟩
              rw [if_neg h0', if_neg h4, if_neg h1, if_pos h6, if_neg h7, Int32.one_mul]
            · refine c_within (by decide) ?_
              refine ⟨rfl, q, ?_, rfl, hq⟩
              rw [if_neg h0', if_neg h4, if_neg h1, if_pos h6, if_pos h7]
        · refine c_within (by decide) ?_
          refine ⟨rfl, q, ?_, rfl, hq⟩
          rw [if_neg h0', if_pos h4]
      · have hX : 0 = X := by rw [← el, if_pos (by grind)]
        subst hX
        refine c_its rfl (w := 1) rfl (by omega) (by decide) (by decide) ?_
        refine And.intro (fun h4 => ?_) (fun h4 => ?_)
        · refine And.intro (fun h6 => ?_) (fun h6 => ?_)
          · refine c_within (by decide) ?_
            refine ⟨rfl, q, ?_, rfl, hq⟩
            rw [if_neg h0', if_neg h4, if_neg h1, if_neg h6, if_neg h2, ei]
          · refine c_its rfl (w := 3) rfl (by omega) (by decide) (by decide) ?_
            refine And.intro (fun h7 => ?_) (fun h7 => ?_)
            · refine c_within (by decide) ?_
              refine ⟨rfl, q, ?_, rfl, hq⟩
              rw [if_neg h0', if_neg h4, if_neg h1, if_pos h6, if_neg h7, Int32.one_mul]
            · refine c_within (by decide) ?_
              refine ⟨rfl, q, ?_, rfl, hq⟩
              rw [if_neg h0', if_neg h4, if_neg h1, if_pos h6, if_pos h7]
        · refine c_within (by decide) ?_
          refine ⟨rfl, q, ?_, rfl, hq⟩
          rw [if_neg h0', if_pos h4]
    · refine And.intro (fun h3 => ?_) (fun h3 => absurd h3 h1)
      refine ⟨by decide, rfl, (S, T), ?_, rfl, hM⟩
      rw [if_neg h0', if_neg (by rw [h2]; decide), if_neg h1, if_neg (by rw [h2]; decide), if_pos h2]
  · refine ⟨rfl, (S, T), ?_, rfl, hM⟩
    rw [if_pos (by grind)]
theorem rg_bnd {x : Int32} : rg (bnd x 0 99) 99 := bnd_rg (a := 0) (b := 0)
theorem bnd_le99 {x a : Int32} (ha : a ≤ 99) : bnd x a 99 ≤ 99 := by unfold bnd; grind
theorem weigh_le {B : BT} {P : PP} {m p : Nat} {day asl : Int32} (hW : WF P m) (hp : p < m) : weighsS B P p day asl ≤ 99 := by
  have h3 := (hW p hp).2.2.2.1
  obtain ⟨a, ha, he⟩ := h3
  have hd : ∀ a, a < 100 → nI a ≤ 99 ∧ -(nI a / 2) ≤ 99 := by decide
  unfold weighsS weighS
  rw [he]
  split
  · exact (hd a (by omega)).1
  · split
    · exact bnd_le99 (by decide)
    · split
      · exact bnd_le99 (by decide)
      · split
        · decide
        · split
          · exact (hd a (by omega)).2
          · exact bnd_le99 (by decide)
theorem WF.up {P : PP} {m p w : Nat} {x : Int32} (h : WF P m) (hw : w = 2 ∨ w = 3 ∨ w = 5) (hx : rg x 99) : WF (upP P p w x) m := by
  intro q hq
  have hq := h q hq
  by_cases hqp : q = p
  · subst hqp
    rcases hw with rfl | rfl | rfl
    · simp only [upP, true_and, Nat.reduceEqDiff, ↓reduceIte, (by decide : (0:Nat) ≠ 2), (by decide : (0:Nat) ≠ 3), (by decide : (0:Nat) ≠ 5), (by decide : (1:Nat) ≠ 2), (by decide : (1:Nat) ≠ 3), (by decide : (1:Nat) ≠ 5)]
      exact ⟨hq.1, hq.2.1, hx, hq.2.2.2⟩
    · simp only [upP, true_and, Nat.reduceEqDiff, ↓reduceIte, (by decide : (0:Nat) ≠ 2), (by decide : (0:Nat) ≠ 3), (by decide : (0:Nat) ≠ 5), (by decide : (1:Nat) ≠ 2), (by decide : (1:Nat) ≠ 3), (by decide : (1:Nat) ≠ 5)]
      exact ⟨hq.1, hq.2.1, hq.2.2.1, hx, hq.2.2.2.2⟩
    · simp only [upP, true_and, Nat.reduceEqDiff, ↓reduceIte, (by decide : (0:Nat) ≠ 2), (by decide : (0:Nat) ≠ 3), (by decide : (0:Nat) ≠ 5), (by decide : (1:Nat) ≠ 2), (by decide : (1:Nat) ≠ 3), (by decide : (1:Nat) ≠ 5)]
      exact ⟨hq.1, hq.2.1, hq.2.2.1, hq.2.2.2.1, hq.2.2.2.2.1, hx, hq.2.2.2.2.2.2⟩
  · simp only [upP_p hqp]
    exact hq
theorem tell_WF {B : BT} {P : PP} {m t o : Nat} {day asl : Int32} (h : WF P m) : WF (tellS B day asl P t o) m := by
  unfold tellS tiredByS
  exact ((h.up (Or.inl rfl) rg_bnd).up (Or.inr (Or.inr rfl)) rg_bnd).up (Or.inr (Or.inl rfl)) ⟨0, by omega, rfl⟩
theorem e_goes {n m r dd t o : Nat} {Bs : Nat → BT} {P : PP} {S : HI} {T : HJ} (hE : RE G l n Bs I m r dd) (hM : MOK n Bs S T) (hW : WF P m) (ht : t < m) (ho : o < m) :
    Ev G l 64 (mt 176) 80 80 [vR 20 0 0, vI (nI t), vI (nI o)] (mf I J rd rr P S T) (fun v h' => ∃ q : HI × HJ, v = none ∧ h' = mf I J rd rr (tellS (Bs r) (nI dd) (aslS P m) P t o) q.1 q.2 ∧ MOK n Bs q.1 q.2) := by
  have h5 := hE.2.2.2.2.2.2.2
  refine Ev_go iM_goes rfl rfl rfl ⟨Nat.le_refl _, Nat.le_refl _⟩ (fun K hK => hK.1 [] 120 _ _ _ _ _ ?_)
  refine CPd_exc (e_mweighsOf hE hM hW ht) (by decide) rfl (fun q1 hq1 => ?_)
  refine CPd_exc (e_mhearsOf hE hq1 hW ho (weigh_le hW ht)) (by decide) rfl (fun q hq => ?_)
  refine c_its rfl (w := 2) rfl (by omega) (by decide) (by decide) ?_
  refine c_within (by decide) ?_
  refine c_lays rfl (w := 2) rfl (by omega) (by decide) (by decide) ?_
  refine c_its rfl (w := 5) rfl (by omega) (by decide) (by decide) ?_
  refine c_within (by decide) ?_
  refine c_lays rfl (w := 5) rfl (by omega) (by decide) (by decide) ?_
  refine c_lays rfl (w := 3) rfl (by omega) (by decide) (by decide) ?_
  refine ⟨rfl, q, rfl, ?_, hq⟩
  rw [upP_a (by decide)]
  rfl
end M4
