/-! image, back -/
section T8
variable {G : GT} {l : Launch} {I : HI} {J : HJ} {rd : Option AO} {rr : Nat → Nat} {A : ST}
def imageA (A : ST) : ST := (fun k => if k = 5 then 1 else if k = 6 then aN A 0 else if k = 7 then aN A 1 else if k = 8 then aN A 2 else aN A k, (aP A, (aP A, A.2.2.2)))
theorem ok_image (ok : OKA A) : OKA (imageA A) := ⟨ok.1, ⟨Nat.le_refl _, fun _ => ⟨Nat.le_refl _, ok.1.2.1, ok.1.2.2.1, ok.1.2.2.2.2, fun _ _ => rfl⟩⟩, ok.2.2⟩
def backA (A : ST) : ST := if aN A 5 = 1 then (fun k => if k = 0 then aN A 6 else if k = 1 then aN A 7 else if k = 2 then aN A 8 else aN A k, (aK A, A.2.2)) else A
def backR (A : ST) : Int32 := if aN A 5 = 1 then nI (aN A 6) else -3
theorem ok_back (ok : OKA A) : OKA (backA A) := by
  unfold backA
  split
  · rename_i h
    obtain ⟨a1, a2, a3, a4, a5⟩ := ok.2.1.2 h
    exact ⟨⟨by show aN A 6 ≤ 5; have := ok.1.1; omega, a2, a3, ok.1.2.2.2.1, a4⟩, ⟨ok.2.1.1, fun _ => ⟨Nat.le_refl _, a2, a3, a4, fun _ _ => rfl⟩⟩, ok.2.2⟩
  · exact ok
theorem bec_k {v w m k : Nat} (h : k ≠ 17 ∧ k ≠ 19) : (setP (upI (upI I 17 v 0 1 (nI m)) 17 v 0 2 (I 17 w 0 2)) v (becP (I 19 v) (I 19 w) m)) k = I k := by
  rw [setP_k h.2]
  funext i j t
  simp [upI, h.1]
theorem bec_17 {v w m u t : Nat} (h : u ≠ v) : (setP (upI (upI I 17 v 0 1 (nI m)) 17 v 0 2 (I 17 w 0 2)) v (becP (I 19 v) (I 19 w) m)) 17 u 0 t = I 17 u 0 t := by
  rw [setP_k (by decide)]
  simp [upI, h]
theorem bec_1 {v w m : Nat} : (setP (upI (upI I 17 v 0 1 (nI m)) 17 v 0 2 (I 17 w 0 2)) v (becP (I 19 v) (I 19 w) m)) 17 v 0 1 = nI m := by
  rw [setP_k (by decide)]
  simp [upI]
theorem bec_2 {v w m : Nat} : (setP (upI (upI I 17 v 0 1 (nI m)) 17 v 0 2 (I 17 w 0 2)) v (becP (I 19 v) (I 19 w) m)) 17 v 0 2 = I 17 w 0 2 := by
  rw [setP_k (by decide)]
  simp [upI]
theorem c_image (ok : OKA A) : CC G l 125 5 [] A (vI (nI (aN A 0))) (imageA A) := by
  intro I J rd rr hC
  obtain ⟨h1, h2, h3, h4⟩ := hC.1
  have h5 := ok.1.1
  refine Ev_go iC_image rfl rfl rfl ⟨Nat.le_refl _, Nat.le_refl _⟩ (fun K hK => hK.1 [] 120 _ _ _ _ _ ?_)
  refine CPd_eq (e_vbecome (v := 2) (w := 0) (by decide) h1 h5) (by decide) rfl ?_
  refine ⟨Or.inr rfl, rfl, (upI (setP (upI (upI I 17 2 0 1 (nI (aN A 0))) 17 2 0 2 (I 17 0 0 2)) 2 (becP (I 19 2) (I 19 0) (aN A 0))) 0 0 0 7 1, J, rd, va_up rr 2 (rr 0)), ?_, rfl, ?_, ?_⟩
  · rw [setI_mk, getI_mk, upI_at, if_neg (by simp), bec_1]
  · have e : ∀ k, k ≠ 0 → upI (setP (upI (upI I 17 2 0 1 (nI (aN A 0))) 17 2 0 2 (I 17 0 0 2)) 2 (becP (I 19 2) (I 19 0) (aN A 0))) 0 0 0 7 1 k = (setP (upI (upI I 17 2 0 1 (nI (aN A 0))) 17 2 0 2 (I 17 0 0 2)) 2 (becP (I 19 2) (I 19 0) (aN A 0))) k := by
      intro k hk
      funext i j t
      simp [upI, hk]
    show CF (upI (setP (upI (upI I 17 2 0 1 (nI (aN A 0))) 17 2 0 2 (I 17 0 0 2)) 2 (becP (I 19 2) (I 19 0) (aN A 0))) 0 0 0 7 1) (va_up rr 2 (rr 0)) (imageA A)
    unfold CF RuK
    rw [e 17 (by decide), e 19 (by decide), e 13 (by decide), e 12 (by decide), e 2 (by decide), e 3 (by decide), e 15 (by decide), e 16 (by decide), e 11 (by decide)]
    rw [bec_k (k := 13) (by decide), bec_k (k := 12) (by decide), bec_k (k := 2) (by decide), bec_k (k := 3) (by decide), bec_k (k := 15) (by decide), bec_k (k := 16) (by decide), bec_k (k := 11) (by decide), setP_19, setP_19' (show (0 : Nat) ≠ 2 by decide), bec_1, bec_2, bec_17 (by decide), bec_17 (by decide)]
    refine ⟨⟨h1, h2, (show va_up rr 2 (rr 0) 0 = rr 0 by simp [va_up]).trans h3, h4⟩, ⟨?_, hC.2.1.2⟩, ⟨upI_s, fun _ => ⟨rfl, h2, (show va_up rr 2 (rr 0) 2 = rr 0 by simp [va_up]).trans h3, (bec_Ag _).trans h4⟩⟩, hC.2.2.2⟩
    rw [upI_at, if_neg (by simp), bec_k (by decide)]
    exact hC.2.1.1
  · intro k hk
    refine ⟨?_, rfl⟩
    show upI (setP _ 2 _) 0 0 0 7 1 k = I k
    have : upI (setP (upI (upI I 17 2 0 1 (nI (aN A 0))) 17 2 0 2 (I 17 0 0 2)) 2 (becP (I 19 2) (I 19 0) (aN A 0))) 0 0 0 7 1 k = (setP (upI (upI I 17 2 0 1 (nI (aN A 0))) 17 2 0 2 (I 17 0 0 2)) 2 (becP (I 19 2) (I 19 0) (aN A 0))) k := by
      funext i j t
      have : k ≠ 0 := by omega
      simp [upI, this]
    rw [this, bec_k ⟨by omega, by omega⟩]
theorem c_back (ok : OKA A) : CC G l 126 5 [] A (vI (backR A)) (backA A) := by
  intro I J rd rr hC
  have hk := hC.2.2.1
  refine Ev_go iC_back rfl rfl rfl ⟨Nat.le_refl _, Nat.le_refl _⟩ (fun K hK => hK.1 [] 120 _ _ _ _ _ ?_)
  unfold backR backA
  intro hz
  rw [getI_mk, hk.1] at hz
  refine And.intro (fun h6 => ?_) (fun h6 => ?_)
  · rw [getI_mk, hk.1] at h6
    have hc : aN A 5 = 1 := by
      have h1 := ok.2.1.1
      have : aN A 5 ≠ 0 := fun e => h6 (by rw [e]; rfl)
      omega
    rw [if_pos hc, if_pos hc]
    obtain ⟨g1, g2, g3, g4⟩ := hk.2 hc
    obtain ⟨a1, a2, a3, a4, a5⟩ := ok.2.1.2 hc
    have h5 : aN A 6 ≤ 5 := by have := ok.1.1; omega
    refine CPd_eq (e_vbecome (v := 0) (w := 2) (by decide) g1 h5) (by decide) rfl ?_
    refine ⟨rfl, (setP (upI (upI I 17 0 0 1 (nI (aN A 6))) 17 0 0 2 (I 17 2 0 2)) 0 (becP (I 19 0) (I 19 2) (aN A 6)), J, rd, va_up rr 0 (rr 2)), ?_, rfl, ?_, ?_⟩
    · rw [getI_mk, bec_1]
    · show CF (setP (upI (upI I 17 0 0 1 (nI (aN A 6))) 17 0 0 2 (I 17 2 0 2)) 0 (becP (I 19 0) (I 19 2) (aN A 6))) (va_up rr 0 (rr 2)) _
      unfold CF RuK
      rw [bec_k (k := 0) (by decide), bec_k (k := 13) (by decide), bec_k (k := 12) (by decide), bec_k (k := 2) (by decide), bec_k (k := 3) (by decide), bec_k (k := 15) (by decide), bec_k (k := 16) (by decide), bec_k (k := 11) (by decide), setP_19, setP_19' (show (2 : Nat) ≠ 0 by decide), bec_1, bec_2, bec_17 (by decide), bec_17 (by decide)]
      exact ⟨⟨rfl, g2, (show va_up rr 0 (rr 2) 0 = rr 2 by simp [va_up]).trans g3, (bec_Ag _).trans g4⟩, hC.2.1, ⟨hk.1, fun _ => ⟨g1, g2, (show va_up rr 0 (rr 2) 2 = rr 2 by simp [va_up]).trans g3, g4⟩⟩, hC.2.2.2⟩
    · intro k hk
      exact ⟨bec_k ⟨by omega, by omega⟩, rfl⟩
  · rw [getI_mk, hk.1] at h6
    have hc : ¬ aN A 5 = 1 := fun e => by rw [e] at h6; exact absurd h6 (by decide)
    rw [if_neg hc, if_neg hc]
    exact ⟨rfl, (I, J, rd, rr), rfl, rfl, hC, fun k hk => ⟨rfl, rfl⟩⟩
end T8
