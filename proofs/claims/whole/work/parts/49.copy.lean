/-! copy */ -/
section T25
variable {G : GT} {l : Launch} {I : HI} {J : HJ} {rd : Option AO} {rr : Nat → Nat} {A : ST}
theorem nI_minus {a b : Nat} (h : b ≤ a) : nI a - nI b = nI (a - b) := by
  have e := nI_plus (a := a - b) (b := b)
  rw [show a - b + b = a by omega] at e
  rw [← e]
  grind
theorem i32_0 {a : Int32} : (0 ≤ a) = (0 ≤ a.toInt) := by rw [Int32.le_iff_toInt_le, Int32.toInt_zero]
theorem i32_lt (a : Int32) : a.toInt < 2 ^ 31 ∧ -(2 ^ 31) ≤ a.toInt := ⟨Int32.toInt_lt a, Int32.le_toInt a⟩
abbrev rmP (z : Nat) (i n : Int32) : Prop := 0 ≤ i ∧ 0 ≤ n ∧ i.toInt + n.toInt ≤ (z : Int)
theorem rm_c {z : Nat} {i n : Int32} (hz : z ≤ 40) : (0 ≤ i ∧ 0 ≤ n ∧ i ≤ nI z ∧ n ≤ nI z - i) ↔ rmP z i n := by
  have b1 := i32_lt i
  have b2 := i32_lt n
  unfold rmP
  rw [i32_0, i32_0]
  have key : 0 ≤ i.toInt → (nI z - i).toInt = (z : Int) - i.toInt := by
    intro h
    rw [Int32.toInt_sub, nI_toInt (by omega), Int.bmod_eq_of_le (by omega) (by omega)]
  constructor
  · rintro ⟨h1, h2, h3, h4⟩
    rw [Int32.le_iff_toInt_le, key h1] at h4
    exact ⟨h1, h2, by omega⟩
  · rintro ⟨h1, h2, h3⟩
    refine ⟨h1, h2, ?_, ?_⟩
    · rw [Int32.le_iff_toInt_le, nI_toInt (by omega)]; omega
    · rw [Int32.le_iff_toInt_le, key h1]; omega
theorem rm_m {z : Nat} {i n : Int32} (hz : z ≤ 40) (hn : 0 ≤ n) : (i ≤ nI z - n) ↔ i.toInt + n.toInt ≤ (z : Int) := by
  have b1 := i32_lt i
  have b2 := i32_lt n
  rw [i32_0] at hn
  have key : (nI z - n).toInt = (z : Int) - n.toInt := by
    rw [Int32.toInt_sub, nI_toInt (by omega), Int.bmod_eq_of_le (by omega) (by omega)]
  rw [Int32.le_iff_toInt_le, key]
  omega
theorem rm_ex {z : Nat} {i n : Int32} (h : rmP z i n) (hz : z ≤ 40) : ∃ a b, i = nI a ∧ n = nI b ∧ a + b ≤ z := by
  obtain ⟨h1, h2, h3⟩ := h
  rw [i32_0] at h1 h2
  refine ⟨i.toInt.toNat, n.toInt.toNat, ?_, ?_, by omega⟩
  · apply Int32.toInt_inj.mp
    rw [nI_toInt (by omega)]
    omega
  · apply Int32.toInt_inj.mp
    rw [nI_toInt (by omega)]
    omega
theorem k_hasRoom {d s : Nat} {i n : Int32} {post : Option AV → AH → Prop} (hd : 0 < d) (k : post (some (vI (iN (0 ≤ i ∧ 0 ≤ n ∧ i ≤ I 15 s 0 2 ∧ n ≤ I 15 s 0 2 - i)))) (mkH I J rd rr)) : CPd G l d 80 0 132 [vR 15 s 0, vI i, vI n] (mkH I J rd rr) post := by
  have E : Ev G l 0 (mt 132) 80 80 [vR 15 s 0, vI i, vI n] (mkH I J rd rr) (fun r h' => r = some (vI (iN (0 ≤ i ∧ 0 ≤ n ∧ i ≤ I 15 s 0 2 ∧ n ≤ I 15 s 0 2 - i))) ∧ h' = mkH I J rd rr) := by
    refine Ev_go iS_hasRoom rfl rfl rfl ⟨Nat.le_refl _, Nat.le_refl _⟩ (fun K hK => hK.1 [] 120 _ _ _ _ _ ?_)
    repeat' first | exact rfl | exact True.intro | apply And.intro | intro _
    all_goals first | exact Or.inl rfl | exact Or.inr rfl | ((try simp only [getI_mk] at *); unfold iN; grind)
  exact CPd_eq E hd rfl k
def copF (A : ST) (s i o j n : Nat) : Nat → Int32 := fun t => if 2 + j ≤ t ∧ t < 2 + j + n then aS A s (2 + i + (t - (2 + j))) else aS A o t
def cpQ (I : HI) (s i o j n : Nat) : HI := fun k' i' j' t => if (k', (i', j')) = ((16, (o, 0)) : AO) then (if j ≤ t ∧ t < j + n then I 16 s 0 (i + (t - j)) else I 16 o 0 t) else I k' i' j' t
theorem cpQ_k {s i o j n k : Nat} (h : k ≠ 16) : cpQ I s i o j n k = I k := by
  funext i' j' t
  unfold cpQ
  rw [if_neg]
  intro q
  injection q with q1 q2
  exact h q1
theorem cpQ_n {s i o j n s' : Nat} (h : s' ≠ o) : cpQ I s i o j n 16 s' = I 16 s' := by
  funext j' t
  unfold cpQ
  rw [if_neg]
  intro q
  injection q with q1 q2
  injection q2 with q2 q3
  exact h q2
theorem cpQ_o {s i o j n t : Nat} : cpQ I s i o j n 16 o 0 t = if j ≤ t ∧ t < j + n then I 16 s 0 (i + (t - j)) else I 16 o 0 t := by
  unfold cpQ
  rw [if_pos rfl]
theorem CF.copy {s i o j n zs : Nat} (h : CF I rr A) (hs : s < 4) (ho : o < 4) (es : aS A s 1 = nI zs) (hzs : zs ≤ 40) (hi : i + n ≤ zs) : CF (cpQ I s i o j n) rr (stS A o (copF A s i o j n)) := by
  have gs := h.2.2.2.2.1 s hs
  have go := h.2.2.2.2.1 o ho
  refine h.S (fun k hk h1 h2 => cpQ_k h2) (fun s' hs' => ⟨by rw [cpQ_k (by decide)], cpQ_n hs'⟩) ?_ ?_ (fun t q hq he ht => ?_)
  · rw [cpQ_k (by decide), copF, if_neg (by omega)]
    exact go.1
  · rw [cpQ_k (by decide), copF, if_neg (by omega)]
    exact go.2.1
  · rw [copF, if_neg (by omega)] at he
    rw [cpQ_o, copF]
    by_cases hc : j ≤ t ∧ t < j + n
    · rw [if_pos hc, if_pos (by omega), gs.2.2 (i + (t - j)) zs hzs es (by omega)]
      rw [show 2 + (i + (t - j)) = 2 + i + (2 + t - (2 + j)) by omega]
    · rw [if_neg hc, if_neg (by omega)]
      exact go.2.2 t q hq he ht
def copyR (A : ST) (s i o j n : Int32) : Int32 := if (0 ≤ s ∧ s ≤ 3) ∧ (0 ≤ o ∧ o ≤ 3) then (if aS A s.toNatClampNeg 0 = -1 ∨ aS A o.toNatClampNeg 0 = -1 then -11 else if aS A s.toNatClampNeg 0 = aS A o.toNatClampNeg 0 then (if rmP (aS A s.toNatClampNeg 1).toNatClampNeg i n ∧ rmP (aS A o.toNatClampNeg 1).toNatClampNeg j n then n else -12) else -13) else -2
def copyA (A : ST) (s i o j n : Int32) : ST := if (0 ≤ s ∧ s ≤ 3) ∧ (0 ≤ o ∧ o ≤ 3) then (if aS A s.toNatClampNeg 0 = -1 ∨ aS A o.toNatClampNeg 0 = -1 then A else if aS A s.toNatClampNeg 0 = aS A o.toNatClampNeg 0 then (if rmP (aS A s.toNatClampNeg 1).toNatClampNeg i n ∧ rmP (aS A o.toNatClampNeg 1).toNatClampNeg j n then stS A o.toNatClampNeg (copF A s.toNatClampNeg i.toNatClampNeg o.toNatClampNeg j.toNatClampNeg n.toNatClampNeg) else A) else A) else A
theorem sz_ex {s : Nat} (ok : OKA A) (hs : s < 4) : ∃ z, z ≤ 40 ∧ aS A s 1 = nI z := by
  rcases ok.2.2.2 s hs with e | e
  · exact ⟨0, by omega, e.2⟩
  · exact e.2
theorem ok_copy {s i o j n : Int32} (ok : OKA A) : OKA (copyA A s i o j n) := by
  unfold copyA
  split
  · rename_i hc
    obtain ⟨q, hq, rfl⟩ := rg_of (n := 3) hc.2.1 hc.2.2 (by decide)
    split
    · exact ok
    · split
      · split
        · refine ok.S ?_
          have h := ok.2.2.2 q (by omega)
          rw [nI_clamp (n := q) (by omega)]
          unfold copF
          rw [if_neg (by omega), if_neg (by omega)]
          exact h
        · exact ok
      · exact ok
  · exact ok
theorem c_copy {s i o j n : Int32} (ok : OKA A) : CC G l 131 5 [vI s, vI i, vI o, vI j, vI n] A (vI (copyR A s i o j n)) (copyA A s i o j n) := by
  intro I J rd rr hC
  refine Ev_go iC_copy rfl rfl rfl ⟨Nat.le_refl _, Nat.le_refl _⟩ (fun K hK => ?_)
  refine hK.1 [] 120 _ _ _ _ _ ?_
  unfold copyR copyA at hK
  unfold copyR copyA
  refine k_isSheet (by decide) ?_
  refine And.intro (fun h6 => ?_) (fun h6 => ?_)
  · rw [if_neg (fun q => iN_n h6 q.1), if_neg (fun q => iN_n h6 q.1)]
    exact ⟨rfl, (I, J, rd, rr), rfl, rfl, hC, fun k hk => ⟨rfl, rfl⟩⟩
  · refine k_isSheet (by decide) ?_
    refine And.intro (fun h7 => ?_) (fun h7 => ?_)
    · have hc := And.intro (iN_y h6) (iN_y h7)
      rw [if_pos hc, if_pos hc] at hK ⊢
      obtain ⟨s, hs, rfl⟩ := rg_of (n := 3) hc.1.1 hc.1.2 (by decide)
      obtain ⟨o, ho, rfl⟩ := rg_of (n := 3) hc.2.1 hc.2.2 (by decide)
      have gs := hC.2.2.2.2.1 s (by omega)
      have go := hC.2.2.2.2.1 o (by omega)
      obtain ⟨zs, hzs, es⟩ := sz_ex ok (s := s) (by omega)
      obtain ⟨zo, hzo, eo⟩ := sz_ex ok (s := o) (by omega)
      rw [nI_clamp (n := s) (by omega), nI_clamp (n := o) (by omega), es, eo, nI_clamp (n := zs) (by omega), nI_clamp (n := zo) (by omega)] at hK ⊢
      show vp_in _ _ ∧ _
      refine ⟨nI_in (N := 4) (by omega) (by decide), nI_in (N := 4) (by omega) (by decide), ?_⟩
      rw [nI_clamp (n := s) (by omega), nI_clamp (n := o) (by omega)]
      refine k_missing (by decide) ?_
      rw [gs.1]
      refine And.intro (fun h8 => ?_) (fun h8 => ?_)
      · have hm : aS A s 0 = -1 ∨ aS A o 0 = -1 := Or.inl (iN_y h8)
        rw [if_pos hm, if_pos hm]
        exact ⟨rfl, (I, J, rd, rr), rfl, rfl, hC, fun k hk => ⟨rfl, rfl⟩⟩
      · refine k_missing (by decide) ?_
        rw [go.1]
        refine And.intro (fun h9 => ?_) (fun h9 => ?_)
        · have hm : ¬ (aS A s 0 = -1 ∨ aS A o 0 = -1) := fun q => q.elim (iN_n h8) (iN_n h9)
          rw [if_neg hm, if_neg hm] at hK ⊢
          refine And.intro (fun h10 => ?_) (fun h10 => ?_)
          · rw [getI_mk, getI_mk, gs.1, go.1] at h10
            rw [if_pos h10, if_pos h10] at hK ⊢
            refine k_hasRoom (by decide) ?_
            rw [gs.2.1, es]
            refine And.intro (fun h11 => ?_) (fun h11 => ?_)
            · have hr : ¬ (rmP zs i n ∧ rmP zo j n) := fun q => iN_n h11 ((rm_c hzs).mpr q.1)
              rw [if_neg hr, if_neg hr]
              exact ⟨rfl, (I, J, rd, rr), rfl, rfl, hC, fun k hk => ⟨rfl, rfl⟩⟩
            · refine k_hasRoom (by decide) ?_
              rw [go.2.1, eo]
              refine And.intro (fun h12 => ?_) (fun h12 => ?_)
              · have hr : rmP zs i n ∧ rmP zo j n := ⟨(rm_c hzs).mp (iN_y h11), (rm_c hzo).mp (iN_y h12)⟩
                rw [if_pos hr, if_pos hr] at hK
                obtain ⟨a, b, rfl, rfl, hab⟩ := rm_ex hr.1 hzs
                obtain ⟨c, b', rfl, hb', hcb⟩ := rm_ex hr.2 hzo
                have hbb : b = b' := by
                  have := congrArg Int32.toInt hb'
                  rw [nI_toInt (by omega), nI_toInt (by omega)] at this
                  omega
                subst hbb
                rw [nI_clamp (n := a) (by omega), nI_clamp (n := b) (by omega), nI_clamp (n := c) (by omega)] at hK
                have hn : ∀ q : Nat, q ≤ 40 → ¬ nI q < (0 : Int32) := by decide
                show K 80 109 _ _ _
                refine hK.2.2.2.2.2.2.1 80 109 112 16 s 0 16 o 0 (nI a) (nI c) (nI b) _ [] _ rfl rfl rfl rfl rfl (hn a (by omega)) (hn c (by omega)) (hn b (by omega)) ?_ ?_ (by decide) (by decide) ?_
                · rw [nI_clamp (n := a) (by omega), nI_clamp (n := b) (by omega)]
                  show a + b ≤ 40
                  omega
                · rw [nI_clamp (n := c) (by omega), nI_clamp (n := b) (by omega)]
                  show c + b ≤ 40
                  omega
                · rw [nI_clamp (n := a) (by omega), nI_clamp (n := b) (by omega), nI_clamp (n := c) (by omega)]
                  refine hK.1 [] 20 _ _ _ _ _ ?_
                  exact ⟨rfl, (cpQ I s a o c b, J, rd, rr), rfl, rfl, hC.copy (by omega) (by omega) es hzs hab, fun k hk => ⟨cpQ_k (by omega), rfl⟩⟩
              · have hr : ¬ (rmP zs i n ∧ rmP zo j n) := fun q => iN_n h12 ((rm_c hzo).mpr q.2)
                rw [if_neg hr, if_neg hr]
                exact ⟨rfl, (I, J, rd, rr), rfl, rfl, hC, fun k hk => ⟨rfl, rfl⟩⟩
          · rw [getI_mk, getI_mk, gs.1, go.1] at h10
            rw [if_neg h10, if_neg h10]
            exact ⟨rfl, (I, J, rd, rr), rfl, rfl, hC, fun k hk => ⟨rfl, rfl⟩⟩
        · have hm : aS A s 0 = -1 ∨ aS A o 0 = -1 := Or.inr (iN_y h9)
          rw [if_pos hm, if_pos hm]
          exact ⟨rfl, (I, J, rd, rr), rfl, rfl, hC, fun k hk => ⟨rfl, rfl⟩⟩
    · rw [if_neg (fun q => iN_n h7 q.2), if_neg (fun q => iN_n h7 q.2)]
      exact ⟨rfl, (I, J, rd, rr), rfl, rfl, hC, fun k hk => ⟨rfl, rfl⟩⟩
end T25
