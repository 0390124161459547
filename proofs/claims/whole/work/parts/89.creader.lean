/-! the class reads -/
section Y5
variable {G : GT} {l : Launch} {I : HI} {J : HJ} {R0 : HR} {n : Nat} {b : Nat → Nat} {z m r : Nat}
theorem rt_same {I' : HI} (h : TkR b z m I) (h2 : ∀ k, k ≤ 6 → I' k = I k) : TkR b z m I' := by
  unfold TkR at *
  rw [h2 2 (by decide), h2 4 (by decide), h2 5 (by decide), h2 6 (by decide)]
  exact h
theorem x_lookAt {d i : Nat} {rd : Option AO} {post : Option AV → AH → Prop} (hn : n ≤ 80) (hR : TkR b z m I) (hi : i < 400) (hd : 1 < d) (k : post none (mkX (upI (upI I 7 0 0 2 (nI i)) 7 0 0 3 (tkC b z i)) J R0 rd)) : CPd G l d n 0 35 [vR 7 0 0, vI (nI i)] (mkX I J R0 rd) post := by
  have E : Ev G l 1 (mt 35) n n [vR 7 0 0, vI (nI i)] (mkX I J R0 rd) (fun r h' => r = none ∧ h' = mkX (upI (upI I 7 0 0 2 (nI i)) 7 0 0 3 (tkC b z i)) J R0 rd) := by
    refine Ev_go iD_lookAt rfl rfl rfl ⟨Nat.le_refl _, hn⟩ (fun K hK => hK.1 [] 50 _ _ _ _ _ ?_)
    have hR1 : TkR b z m (upI I 7 0 0 2 (nI i)) := rt_same hR (fun k hk => by funext i' j t; simp only [upI]; rw [if_neg (by omega)])
    refine x_tok (I := upI I 7 0 0 2 (nI i)) hn hR1 hi (by decide) ?_
    exact ⟨rfl, rfl, rfl⟩
  exact CPd_eq E hd rfl k
/-- what the reading may change -/
def FrD (r : Nat) (I I' : HI) : Prop := ∀ k i j t, ¬ k = 7 → ¬ (k = 12 ∧ i = r) → ¬ (k = 11 ∧ i = r ∧ t = 2) → I' k i j t = I k i j t
theorem frD0 : FrD r I I := fun _ _ _ _ _ _ _ => rfl
theorem FrD.tr {I' I'' : HI} (h : FrD r I I') (h' : FrD r I' I'') : FrD r I I'' := fun k i j t a c d => (h' k i j t a c d).trans (h k i j t a c d)
theorem FrD.k {I' : HI} {k : Nat} (h : FrD r I I') (h7 : k ≠ 7) (h12 : k ≠ 12) (h11 : k ≠ 11) : I' k = I k := by
  funext i j t
  exact h k i j t h7 (fun q => h12 q.1) (fun q => h11 q.1)
theorem FrD.up7 {t : Nat} {x : Int32} : FrD r I (upI I 7 0 0 t x) := fun k i j t' h7 _ _ => by simp only [upI]; rw [if_neg (fun q => h7 q.1)]
/-- the reader stands at the i-th token, so many steps are there -/
def DA (b : Nat → Nat) (z r i s : Nat) (I : HI) : Prop := I 7 0 0 2 = nI i ∧ I 7 0 0 3 = tkC b z i ∧ I 11 r 0 2 = nI s
theorem x_look {d i i0 s : Nat} {rd : Option AO} {x : Int32} {post : Option AV → AH → Prop} (hn : n ≤ 80) (hR : TkR b z m I) (hA : DA b z r i0 s I) (hx : x = nI i) (hi : i < 400) (hd : 1 < d) (k : ∀ I', FrD r I I' → DA b z r i s I' → I' 12 = I 12 → post none (mkX I' J R0 rd)) : CPd G l d n 0 35 [vR 7 0 0, vI x] (mkX I J R0 rd) post := by
  subst hx
  refine x_lookAt hn hR hi hd (k _ (FrD.up7.tr FrD.up7) ⟨?_, upI_s, ?_⟩ ?_)
  · rw [upI_at, if_neg (by omega), upI_s]
  · rw [upI_at, if_neg (by omega), upI_at, if_neg (by omega)]
    exact hA.2.2
  · funext i' j t
    simp only [upI]
    rw [if_neg (by omega), if_neg (by omega)]
theorem x_passes {d i s : Nat} {rd : Option AO} {w : Int32} {post : Option AV → AH → Prop} (hn : n ≤ 80) (hR : TkR b z m I) (hA : DA b z r i s I) (hi : i < 300) (hd : 2 < d) (k0 : tkC b z i ≠ w → post (some (vI 0)) (mkX I J R0 rd)) (k1 : tkC b z i = w → ∀ I', FrD r I I' → DA b z r (i + 1) s I' → I' 12 = I 12 → post (some (vI 1)) (mkX I' J R0 rd)) : CPd G l d n 0 38 [vR 7 0 0, vI w] (mkX I J R0 rd) post := by
  have E : Ev G l 2 (mt 38) n n [vR 7 0 0, vI w] (mkX I J R0 rd) (fun u h' => (tkC b z i ≠ w ∧ u = some (vI 0) ∧ h' = mkX I J R0 rd) ∨ (tkC b z i = w ∧ ∃ I', u = some (vI 1) ∧ h' = mkX I' J R0 rd ∧ FrD r I I' ∧ DA b z r (i + 1) s I' ∧ I' 12 = I 12)) := by
    refine Ev_go iD_passes rfl rfl rfl ⟨Nat.le_refl _, hn⟩ (fun K hK => hK.1 [] 50 _ _ _ _ _ ?_)
    have e3 : getI (mkX I J R0 rd) 7 0 0 3 = tkC b z i := hA.2.1
    refine And.intro (fun q => ?_) (fun q => ?_)
    · rw [e3] at q
      refine x_look hn hR hA (i := i + 1) ?_ (by omega) (by decide) (fun I' h1 h2 h3 => ?_)
      · show I 7 0 0 2 + 1 = _
        rw [hA.1, nI_succ]
      · exact ⟨Or.inr rfl, rfl, Or.inr ⟨q, I', rfl, rfl, h1, h2, h3⟩⟩
    · rw [e3] at q
      exact ⟨Or.inl rfl, rfl, Or.inl ⟨q, rfl, rfl⟩⟩
  refine CPd_of E hd rfl (fun u h' q => ?_)
  rcases q with ⟨q, rfl, rfl⟩ | ⟨q, I', rfl, rfl, h1, h2, h3⟩
  · exact k0 q
  · exact k1 q I' h1 h2 h3
theorem x_add {d i s : Nat} {x : Int32} {rd : Option AO} {post : Option AV → AH → Prop} (hn : n ≤ 80) (hA : DA b z r i s I) (hs : s < 160) (hd : 0 < d) (k : ∀ I', FrD r I I' → DA b z r i (s + 1) I' → I' 12 r 0 s = x → (∀ t, t ≠ s → I' 12 r 0 t = I 12 r 0 t) → post none (mkX I' J R0 rd)) : CPd G l d n 0 47 [vR 11 r 0, vI x] (mkX I J R0 rd) post := by
  have E : Ev G l 0 (mt 47) n n [vR 11 r 0, vI x] (mkX I J R0 rd) (fun u h' => u = none ∧ h' = mkX (upI (upI I 12 r 0 s x) 11 r 0 2 (nI (s + 1))) J R0 rd) := by
    refine Ev_go iR_add rfl rfl rfl ⟨Nat.le_refl _, hn⟩ (fun K hK => hK.1 [] 50 _ _ _ _ _ ?_)
    refine And.intro (fun q => ?_) (fun _ => ?_)
    · exact absurd q (by show ¬ nI 160 ≤ I 11 r 0 2; rw [hA.2.2]; exact nI_ge hs (by decide))
    · show vp_in (I 11 r 0 2) 160 ∧ _
      rw [hA.2.2]
      refine ⟨nI_in (N := 160) (by omega) (by decide), rfl, rfl, ?_⟩
      show mkX (upI (upI I 12 r 0 (I 11 r 0 2).toNatClampNeg x) 11 r 0 2 (upI I 12 r 0 (I 11 r 0 2).toNatClampNeg x 11 r 0 2 + 1)) J R0 rd = _
      rw [hA.2.2, nI_clamp (n := s) (by omega), upI_at, if_neg (by omega), hA.2.2, nI_succ]
  refine CPd_eq E hd rfl (k _ (fun k i j t h7 h12 h11 => ?_) ⟨?_, ?_, upI_s⟩ ?_ (fun t ht => ?_))
  · rw [upI_at, if_neg (fun q => h11 ⟨q.1, q.2.1, q.2.2.2⟩), upI_at, if_neg (fun q => h12 ⟨q.1, q.2.1⟩)]
  · rw [upI_at, if_neg (by omega), upI_at, if_neg (by omega)]
    exact hA.1
  · rw [upI_at, if_neg (by omega), upI_at, if_neg (by omega)]
    exact hA.2.1
  · rw [upI_at, if_neg (by omega), upI_s]
  · rw [upI_at, if_neg (by omega), upI_at, if_neg (fun q => ht q.2.2.2)]
/-- what stands behind the reading of a piece -/
def OutD (b : Nat → Nat) (z r s : Nat) (R : PR) (u : Int32) (I I' : HI) : Prop := FrD r I I' ∧ (R.1 = true → u = 1 ∧ DA b z r R.2.2 (s + R.2.1.length) I' ∧ seg (I' 12 r 0) s R.2.1.length = R.2.1 ∧ ∀ t, t < s → I' 12 r 0 t = I 12 r 0 t) ∧ (R.1 = false → u = 0 ∧ I' 7 0 0 2 = nI R.2.2)
theorem seg_app {f : Nat → Int32} : ∀ x a y, seg f a (x + y) = seg f a x ++ seg f (a + x) y
  | 0, a, y => by rw [Nat.zero_add, Nat.add_zero]; rfl
  | x + 1, a, y => by
    rw [show x + 1 + y = (x + y) + 1 by omega, seg, seg_app x (a + 1) y, seg, show a + 1 + x = a + (x + 1) by omega]
    rfl
theorem seg_congr {f g : Nat → Int32} : ∀ x a, (∀ t, a ≤ t → t < a + x → f t = g t) → seg f a x = seg g a x
  | 0, _, _ => rfl
  | x + 1, a, h => by rw [seg, seg, h a (Nat.le_refl _) (by omega), seg_congr x (a + 1) (fun t h1 h2 => h t (by omega) (by omega))]
theorem od_sq {s : Nat} {R : PR} {k : Nat → PR} {u : Int32} {I' I'' : HI} (h : R.1 = true) (h1 : FrD r I I') (h2 : seg (I' 12 r 0) s R.2.1.length = R.2.1) (h3 : ∀ t, t < s → I' 12 r 0 t = I 12 r 0 t) (hk : OutD b z r (s + R.2.1.length) (k R.2.2) u I' I'') : OutD b z r s (sq R k) u I I'' := by
  obtain ⟨g1, g2, g3⟩ := hk
  refine ⟨h1.tr g1, ?_, ?_⟩
  · rw [sq_t h]
    intro q
    obtain ⟨a1, a2, a3, a4⟩ := g2 q
    refine ⟨a1, ?_, ?_, fun t ht => (a4 t (by omega)).trans (h3 t ht)⟩
    · show DA b z r (k R.2.2).2.2 (s + (R.2.1 ++ (k R.2.2).2.1).length) I''
      rw [List.length_append, ← Nat.add_assoc]
      exact a2
    · show seg (I'' 12 r 0) s (R.2.1 ++ (k R.2.2).2.1).length = R.2.1 ++ (k R.2.2).2.1
      rw [List.length_append, seg_app, a3, seg_congr (f := I'' 12 r 0) (g := I' 12 r 0) R.2.1.length s (fun t h1 h2 => a4 t (by omega)), h2]
  · rw [sq_t h]
    exact g3
theorem od_no {s : Nat} {R : PR} {k : Nat → PR} {I' : HI} (h : R.1 = false) (h1 : FrD r I I') (h2 : I' 7 0 0 2 = nI R.2.2) : OutD b z r s (sq R k) 0 I I' := by
  rw [sq_f h]
  exact ⟨h1, fun q => absurd q (by rw [h]; decide), fun _ => ⟨rfl, h2⟩⟩
theorem od_nO {s i : Nat} {I' : HI} (h1 : FrD r I I') (h2 : I' 7 0 0 2 = nI i) : OutD b z r s (nO i) 0 I I' := ⟨h1, fun q => absurd q (by show ¬ (false = true); decide), fun _ => ⟨rfl, h2⟩⟩
theorem od_oK {s i : Nat} {I' : HI} (h1 : FrD r I I') (hA : DA b z r i s I') (h3 : ∀ t, t < s → I' 12 r 0 t = I 12 r 0 t) : OutD b z r s (oK i) 1 I I' := ⟨h1, fun _ => ⟨rfl, hA, rfl, h3⟩, fun q => absurd q (by show ¬ (true = false); decide)⟩
/-- a step is added, then it goes on -/
theorem od_em {s i : Nat} {x u : Int32} {k : Nat → PR} {I' I'' : HI} (h1 : FrD r I I') (hx : I' 12 r 0 s = x) (h3 : ∀ t, t ≠ s → I' 12 r 0 t = I 12 r 0 t) (hk : OutD b z r (s + 1) (k i) u I' I'') : OutD b z r s (em x k i) u I I'' := by
  obtain ⟨g1, g2, g3⟩ := hk
  refine ⟨h1.tr g1, fun q => ?_, g3⟩
  obtain ⟨a1, a2, a3, a4⟩ := g2 q
  refine ⟨a1, ?_, ?_, fun t ht => (a4 t (by omega)).trans (h3 t (by omega))⟩
  · show DA b z r (k i).2.2 (s + (x :: (k i).2.1).length) I''
    rw [List.length_cons, show s + ((k i).2.1.length + 1) = s + 1 + (k i).2.1.length by omega]
    exact a2
  · show seg (I'' 12 r 0) s (x :: (k i).2.1).length = x :: (k i).2.1
    rw [List.length_cons, seg, a3, a4 s (by omega), hx]
def dD (lv o : Nat) : Nat := 8 * (5 - o) + (7 - lv) + 3
/-- the contract of a method that reads -/
def CtD (G : GT) (l : Launch) (J : HJ) (R0 : HR) (b : Nat → Nat) (n z m r mi lv f : Nat) : Prop := ∀ (I : HI) (o i s : Nat), TkR b z m I → DA b z r i s I → s ≤ i → i ≤ 161 → o ≤ 5 → mu lv i < f →
  Ev G l (dD lv o) (mt mi) n n [vR 7 0 0, vI (nI o)] (mkX I J R0 (some (11, r, 0))) (fun u h' => ∃ q : Int32 × HI, u = some (vI q.1) ∧ h' = mkX q.2 J R0 (some (11, r, 0)) ∧ OutD b z r s (prs (tkC b z) (tkM b z) f lv o i) q.1 I q.2)
theorem FrD.tr6 {I' : HI} (h : FrD r I I') : ∀ k, k ≤ 6 → I' k = I k := fun k hk => h.k (by omega) (by omega) (by omega)
theorem od_pre {s : Nat} {R : PR} {u : Int32} {I' I'' : HI} (h1 : FrD r I I') (h2 : I' 12 = I 12) (h : OutD b z r s R u I' I'') : OutD b z r s R u I I'' := by
  obtain ⟨g1, g2, g3⟩ := h
  refine ⟨h1.tr g1, fun q => ?_, g3⟩
  obtain ⟨a1, a2, a3, a4⟩ := g2 q
  exact ⟨a1, a2, a3, fun t ht => by rw [a4 t ht, h2]⟩
theorem gdz {f lv o i : Nat} (hz : z ≤ 160) (h : (prs (tkC b z) (tkM b z) f lv o i).1 = true) (hlv : lv < 7) : i < (prs (tkC b z) (tkM b z) f lv o i).2.2 ∧ (prs (tkC b z) (tkM b z) f lv o i).2.2 ≤ 160 ∧ (prs (tkC b z) (tkM b z) f lv o i).2.1.length ≤ (prs (tkC b z) (tkM b z) f lv o i).2.2 - i := by
  have h1 := prs_gs f lv o i hlv h
  obtain ⟨⟨h2, h3⟩, h4⟩ := prs_gd f lv o i h
  have h5 := tk_i hz (h4 ((prs (tkC b z) (tkM b z) f lv o i).2.2 - 1) (by omega) (by omega))
  exact ⟨h1, by omega, h3⟩
end Y5
