section M3
variable {G : GT} {l : Launch} {I : HI} {J : HJ} {rd : Option AO} {rr : Nat → Nat}
theorem CPd_exc {α : Type} {d n z mi d' : Nat} {avs : List AV} {h : AH} {H : α → AH} {R : α → Option AV} {C : α → Prop} {post : Option AV → AH → Prop} (E : Ev G l d' (mt mi) n n avs h (fun r h' => ∃ x, r = R x ∧ h' = H x ∧ C x)) (hd : d' < d) (hr : (Nat.beq z 1 || rcvOK mi avs) = true) (kk : ∀ x, C x → post (R x) (H x)) : CPd G l d n z mi avs h post :=
  CPd_of E hd hr (fun r h' q => by obtain ⟨x, rfl, rfl, c⟩ := q; exact kk x c)
def ofE (S : HI) : Nat → Int32 := fun i => if i = 1 then S 20 0 0 11 else if i = 2 then S 20 0 0 12 else if i = 3 then S 20 0 0 13 else if i = 4 then S 20 0 0 14 else if i = 5 then S 20 0 0 15 else S 20 0 0 16
/-- each text that was taken says what B says, however it is asked; and is written down so -/
def HRe (G : GT) (l : Launch) (n : Nat) (Bs : Nat → BT) (I : HI) : Prop := ∀ (I' : HI) (J : HJ) (rd : Option AO) (rr : Nat → Nat) (P : PP) (S : HI) (T : HJ) (r w : Nat), r < n → w < 3 → I' 21 0 0 = I 21 0 0 → I' 22 0 0 = I 22 0 0 →
  Ev G l 60 (mt 148) 80 80 [vR 20 0 0, vI (nI r), vI (nI w)] (mf I' J rd rr P S T) (fun v h' => ∃ q : HI × HJ, v = some (vI (Bs r w (ofE S))) ∧ h' = mf I' J rd rr P q.1 q.2 ∧ q.1 27 = S 27 ∧ q.2 26 = T 26)
def HRd (G : GT) (l : Launch) (n : Nat) (Bs : Nat → BT) (I : HI) : Prop := TXS n Bs I ∧ HRe G l n Bs I
theorem HRd.same {n : Nat} {Bs : Nat → BT} {I' : HI} (h : HRd G l n Bs I) (h1 : I' 21 0 0 = I 21 0 0) (h2 : I' 22 0 0 = I 22 0 0) : HRd G l n Bs I' := by
  refine ⟨?_, fun I'' J rd rr P S T r w hr hw e1 e2 => h.2 I'' J rd rr P S T r w hr hw (e1.trans h1) (e2.trans h2)⟩
  have := h.1
  unfold TXS at *
  rw [h1, h2]
  exact this
theorem upI_27 {S : HI} {t : Nat} {x : Int32} : upI S 20 0 0 t x 27 = S 27 := by
  funext i j t'
  simp [upI]
theorem MOK.same {n : Nat} {Bs : Nat → BT} {S S' : HI} {T T' : HJ} (h : MOK n Bs S T) (h1 : S' 27 = S 27) (h2 : T' 26 = T 26) : MOK n Bs S' T' := by
  unfold MOK at *
  rw [h1, h2]
  exact h
theorem MOK.put {n r w a b c d e f q0 : Nat} {Bs : Nat → BT} {S : HI} {T : HJ} (h : MOK n Bs S T) (hk : okK n r w a b c d e f) : MOK n Bs (upI S 27 0 0 q0 (Bs r w (mkE a b c d e f))) (upJ T 26 0 0 q0 (nL (keyN r w a b c d e f))) := by
  intro q hq
  by_cases hqq : q = q0
  · subst hqq
    exact Or.inr ⟨r, w, a, b, c, d, e, f, hk, by simp [upJ], by simp [upI]⟩
  · have e1 : upI S 27 0 0 q0 (Bs r w (mkE a b c d e f)) 27 0 0 q = S 27 0 0 q := by simp [upI, hqq]
    have e2 : upJ T 26 0 0 q0 (nL (keyN r w a b c d e f)) 26 0 0 q = T 26 0 0 q := by simp [upJ, hqq]
    rw [e1, e2]
    exact h q hq
theorem MOK.get {n r w a b c d e f q : Nat} {Bs : Nat → BT} {S : HI} {T : HJ} (h : MOK n Bs S T) (hn : n ≤ 6) (hk : okK n r w a b c d e f) (hq : q < 1024) (hT : T 26 0 0 q = nL (keyN r w a b c d e f)) : S 27 0 0 q = Bs r w (mkE a b c d e f) := by
  obtain ⟨k1, k2, k3, k4, k5, k6, k7, k8⟩ := hk
  have kl := keyN_lt (r := r) (by omega) k2 k3 k4 k5 k6 k7 k8
  rcases h q hq with h0 | ⟨r', w', a', b', c', d', e', f', ⟨g1, g2, g3, g4, g5, g6, g7, g8⟩, h1, h2⟩
  · rw [hT] at h0
    have := nL_inj (a := keyN r w a b c d e f) (b := 0) kl.2 (by omega) h0
    omega
  · rw [hT] at h1
    have kl' := keyN_lt (r := r') (by omega) g2 g3 g4 g5 g6 g7 g8
    obtain ⟨rfl, rfl, rfl, rfl, rfl, rfl, rfl, rfl⟩ := keyN_inj k2 k3 k4 k5 k6 k7 k8 g2 g3 g4 g5 g6 g7 g8 (nL_inj kl.2 kl'.2 h1)
    exact h2
theorem e_keptRead {n r w a b c d e f : Nat} {Bs : Nat → BT} {P : PP} {S : HI} {T : HJ} (hR : HRd G l n Bs I) (hM : MOK n Bs S T) (hn : n ≤ 6) (hk : okK n r w a b c d e f) (hr : I 20 0 0 4 = nI r) (ha : S 20 0 0 11 = nI a) (hb : S 20 0 0 12 = nI b) (hc : S 20 0 0 13 = nI c) (hd : S 20 0 0 14 = nI d) (he : S 20 0 0 15 = nI e) (hf : S 20 0 0 16 = nI f) :
    Ev G l 61 (mt 147) 80 80 [vR 20 0 0, vI (nI w)] (mf I J rd rr P S T) (fun v h' => ∃ q : HI × HJ, v = some (vI (Bs r w (mkE a b c d e f))) ∧ h' = mf I J rd rr P q.1 q.2 ∧ MOK n Bs q.1 q.2) := by
  have hk0 := hk
  obtain ⟨k1, k2, k3, k4, k5, k6, k7, k8⟩ := hk
  refine Ev_go iM_keptRead rfl rfl rfl ⟨Nat.le_refl _, Nat.le_refl _⟩ (fun K hK => hK.1 [] 120 _ _ _ _ _ ?_)
  show vp_in _ _ ∧ _

  simp only [mf_I (k := 20) (t := 4) (by decide), mf_S (k := 20) (t := 11) (by decide), mf_S (k := 20) (t := 12) (by decide), mf_S (k := 20) (t := 13) (by decide), mf_S (k := 20) (t := 14) (by decide), mf_S (k := 20) (t := 15) (by decide), mf_S (k := 20) (t := 16) (by decide), hr, ha, hb, hc, hd, he, hf]
  rw [nL_I (n := r) (by omega), nL_I (n := w) (by omega), nL_I (n := a) (by omega), nL_I (n := b) (by omega), nL_I (n := c) (by omega), nL_I (n := d) (by omega), nL_I (n := e) (by omega), nL_I (n := f) (by omega)]

  have hkey : ((((((nL r * 3 + nL w) * 128 + nL a) * 128 + nL b) * 16 + nL c) * 2048 + nL d) * 8 + nL e) * 128 + nL f + 1 = nL (keyN r w a b c d e f) := by
    rw [show (3 : Int64) = nL 3 from rfl, show (128 : Int64) = nL 128 from rfl, show (16 : Int64) = nL 16 from rfl, show (2048 : Int64) = nL 2048 from rfl, show (8 : Int64) = nL 8 from rfl, show (1 : Int64) = nL 1 from rfl]
    simp only [nL_mul, nL_add]
    rfl
  rw [hkey]
  obtain ⟨q, hq, hqe⟩ := place_ok (nL (keyN r w a b c d e f) * 7046029254386353131)
  rw [hqe]
  refine ⟨nI_in hq (by decide), ?_⟩
  rw [nI_clamp (n := q) (by omega), mf_T (Or.inl rfl)]
  refine And.intro (fun h1 => ?_) (fun h1 => ?_)
  · rw [lg_cmp_0] at h1
    show vp_in _ _ ∧ _
    refine ⟨nI_in hq (by decide), True.intro, (S, T), ?_, rfl, hM⟩
    rw [nI_clamp (n := q) (by omega), mf_S (Or.inl rfl), hM.get hn hk0 hq h1]
  · show CPd _ _ _ _ _ _ _ _ _
    rw [mf_I (by decide), hr]
    refine CPd_exc (hR.2 I J rd rr P S T r w k1 k2 rfl rfl) (by decide) rfl (fun x hx => ?_)
    have hE : ofE S = mkE a b c d e f := by
      unfold ofE mkE
      rw [ha, hb, hc, hd, he, hf]
    rw [hE]
    show vp_in _ _ ∧ vp_in _ _ ∧ vp_in _ _ ∧ _
    refine ⟨nI_in hq (by decide), nI_in hq (by decide), nI_in hq (by decide), True.intro, (upI x.1 27 0 0 q (Bs r w (mkE a b c d e f)), upJ x.2 26 0 0 q (nL (keyN r w a b c d e f))), ?_, ?_, ?_⟩
    · rw [nI_clamp (n := q) (by omega), mf_wS (Or.inl rfl), mf_wT (Or.inl rfl), mf_S (Or.inl rfl), upI_s]
    · rw [nI_clamp (n := q) (by omega), mf_wS (Or.inl rfl), mf_wT (Or.inl rfl)]
    · exact (hM.same hx.1 hx.2).put hk0
end M3
