/-! cell -/
section T17
variable {G : GT} {l : Launch} {I : HI} {J : HJ} {rd : Option AO} {rr : Nat → Nat} {A : ST}
def putV (so v : Int32) : Int32 := if so = 0 then v.toInt8.toInt32 else if so = 1 then v.toInt16.toInt32 else v
theorem k_missing {d s : Nat} {post : Option AV → AH → Prop} (hd : 0 < d) (k : post (some (vI (iN (I 15 s 0 1 = -1)))) (mkH I J rd rr)) : CPd G l d 80 0 111 [vR 15 s 0] (mkH I J rd rr) post := by
  have E : Ev G l 0 (mt 111) 80 80 [vR 15 s 0] (mkH I J rd rr) (fun r h' => r = some (vI (iN (I 15 s 0 1 = -1))) ∧ h' = mkH I J rd rr) := by
    refine Ev_go iS_isMissing rfl rfl rfl ⟨Nat.le_refl _, Nat.le_refl _⟩ (fun K hK => hK.1 [] 120 _ _ _ _ _ ?_)
    refine And.intro (fun h => ?_) (fun h => ?_)
    · exact ⟨Or.inl rfl, rfl, by rw [getI_mk] at h; unfold iN; rw [if_neg h], rfl⟩
    · exact ⟨Or.inr rfl, rfl, by rw [getI_mk] at h; unfold iN; rw [if_pos h], rfl⟩
  exact CPd_eq E hd rfl k
theorem e_has {s : Nat} {i : Int32} : Ev G l 0 (mt 120) 80 80 [vR 15 s 0, vI i] (mkH I J rd rr) (fun r h' => r = some (vI (iN (0 ≤ i ∧ i < I 15 s 0 2))) ∧ h' = mkH I J rd rr) := by
  refine Ev_go iS_has rfl rfl rfl ⟨Nat.le_refl _, Nat.le_refl _⟩ (fun K hK => hK.1 [] 120 _ _ _ _ _ ?_)
  repeat' first | exact rfl | exact True.intro | apply And.intro | intro _
  all_goals first | exact Or.inl rfl | exact Or.inr rfl | ((try simp only [getI_mk] at *); unfold iN; grind)
theorem e_put {s i z : Nat} {v : Int32} (hz : I 15 s 0 2 = nI z) (hz40 : z ≤ 40) (hi : i < z) : Ev G l 1 (mt 119) 80 80 [vR 15 s 0, vI (nI i), vI v] (mkH I J rd rr) (fun r h' => r = none ∧ h' = mkH (upI I 16 s 0 i (putV (I 15 s 0 1) v)) J rd rr) := by
  refine Ev_go iS_put rfl rfl rfl ⟨Nat.le_refl _, Nat.le_refl _⟩ (fun K hK => hK.1 [] 120 _ _ _ _ _ ?_)
  refine CPd_eq e_has (by decide) rfl ?_
  refine And.intro (fun _ => ?_) (fun h => absurd ?_ (iN_n h))
  · refine And.intro (fun h1 => ?_) (fun h1 => ?_)
    · refine And.intro (fun h2 => ?_) (fun h2 => ?_)
      · refine ⟨nI_in (N := 40) (by omega) (by decide), rfl, rfl, ?_⟩
        rw [nI_clamp (by omega), setI_mk]
        rw [getI_mk] at h1 h2
        unfold putV
        rw [if_neg h1, if_neg h2]
      · refine ⟨nI_in (N := 40) (by omega) (by decide), rfl, rfl, ?_⟩
        rw [nI_clamp (by omega), setI_mk]
        rw [getI_mk] at h1 h2
        unfold putV
        rw [if_neg h1, if_pos h2]
    · refine ⟨nI_in (N := 40) (by omega) (by decide), rfl, rfl, ?_⟩
      rw [nI_clamp (by omega), setI_mk]
      rw [getI_mk] at h1
      unfold putV
      rw [if_pos h1]
  · rw [hz]
    exact ⟨nI_pos' (by omega), nI_lt hi (by omega)⟩
def celF (A : ST) (s i : Nat) (v : Int32) : Nat → Int32 := fun t => if t = 2 + i then putV (aS A s 0) v else aS A s t
def cellR (A : ST) (s i : Int32) : Int32 := if 0 ≤ s ∧ s ≤ 3 then (if aS A s.toNatClampNeg 0 = -1 then -11 else if 0 ≤ i ∧ i < aS A s.toNatClampNeg 1 then 1 else -12) else -2
def cellA (A : ST) (s i v : Int32) : ST := if 0 ≤ s ∧ s ≤ 3 then (if aS A s.toNatClampNeg 0 = -1 then A else if 0 ≤ i ∧ i < aS A s.toNatClampNeg 1 then stS A s.toNatClampNeg (celF A s.toNatClampNeg i.toNatClampNeg v) else A) else A
theorem ok_cel {s i : Nat} {v : Int32} (ok : OKA A) (hs : s < 4) : OKA (stS A s (celF A s i v)) := by
  refine ok.S ?_
  have h := ok.2.2.2 s hs
  unfold celF
  rw [if_neg (by omega), if_neg (by omega)]
  exact h
theorem ok_cell {s i v : Int32} (ok : OKA A) : OKA (cellA A s i v) := by
  unfold cellA
  split
  · rename_i hc
    obtain ⟨q, hq, rfl⟩ := rg_of (n := 3) hc.1 hc.2 (by decide)
    rw [nI_clamp (n := q) (by omega)]
    split
    · exact ok
    · split
      · exact ok_cel ok (by omega)
      · exact ok
  · exact ok
theorem CF.cel {s i z : Nat} {v : Int32} (h : CF I rr A) (hs : s < 4) (hz : aS A s 1 = nI z) (hz40 : z ≤ 40) : CF (upI I 16 s 0 i (putV (aS A s 0) v)) rr (stS A s (celF A s i v)) := by
  have hh := h.2.2.2.2.1 s hs
  refine h.S (fun k hk h1 h2 => ?_) (fun s' hs => ⟨?_, ?_⟩) ?_ ?_ (fun t q hq he ht => ?_)
  · funext i' j t; simp [upI, h2]
  · funext j t; simp [upI]
  · funext j t; simp [upI, hs]
  · show upI I 16 s 0 i _ 15 s 0 1 = celF A s i v 0
    simp only [upI, celF]
    rw [if_neg (by omega), if_neg (by omega)]
    exact hh.1
  · show upI I 16 s 0 i _ 15 s 0 2 = celF A s i v 1
    simp only [upI, celF]
    rw [if_neg (by omega), if_neg (by omega)]
    exact hh.2.1
  · have he : aS A s 1 = nI q := by
      have : celF A s i v 1 = aS A s 1 := by unfold celF; rw [if_neg (by omega)]
      rw [← this]; exact he
    show upI I 16 s 0 i _ 16 s 0 t = celF A s i v (2 + t)
    unfold upI celF
    by_cases e : t = i
    · rw [if_pos ⟨rfl, rfl, rfl, e⟩, if_pos (by omega)]
    · rw [if_neg (fun q => e q.2.2.2), if_neg (by omega)]
      exact hh.2.2 t q hq he ht
theorem c_cell {s i v : Int32} (ok : OKA A) : CC G l 130 5 [vI s, vI i, vI v] A (vI (cellR A s i)) (cellA A s i v) := by
  intro I J rd rr hC
  unfold cellR cellA
  refine Ev_go iC_cell rfl rfl rfl ⟨Nat.le_refl _, Nat.le_refl _⟩ (fun K hK => hK.1 [] 120 _ _ _ _ _ ?_)
  refine k_isSheet (by decide) ?_
  refine And.intro (fun h6 => ?_) (fun h6 => ?_)
  · have hc := iN_y h6
    obtain ⟨q, hq, rfl⟩ := rg_of (n := 3) hc.1 hc.2 (by decide)
    rw [if_pos hc, if_pos hc, nI_clamp (n := q) (by omega)]
    have hh := hC.2.2.2.2.1 q (by omega)
    show vp_in _ _ ∧ _
    refine ⟨nI_in (N := 4) (by omega) (by decide), ?_⟩
    rw [nI_clamp (n := q) (by omega)]
    refine k_missing (by decide) ?_
    rw [hh.1]
    refine And.intro (fun h7 => ?_) (fun h7 => ?_)
    · have h7 := iN_n h7
      rw [if_neg h7, if_neg h7]
      obtain ⟨z, hz, hze⟩ : ∃ z, z ≤ 40 ∧ aS A q 1 = nI z := by
        rcases ok.2.2.2 q (by omega) with e | e
        · exact absurd e.1 h7
        · exact e.2
      refine CPd_eq e_has (by decide) rfl ?_
      rw [hh.2.1]
      refine And.intro (fun h8 => ?_) (fun h8 => ?_)
      · have h8 := iN_y h8
        rw [if_pos h8, if_pos h8]
        rw [hze] at h8
        obtain ⟨t, ht, rfl⟩ := nI_ex h8.1 h8.2 (by omega)
        refine CPd_eq (e_put (by rw [hh.2.1, hze]) hz ht) (by decide) rfl ?_
        rw [nI_clamp (n := t) (by omega), hh.1]
        exact ⟨rfl, (_, J, rd, rr), rfl, rfl, hC.cel (by omega) hze hz, frC.up (by decide)⟩
      · have h8 := iN_n h8
        rw [if_neg h8, if_neg h8]
        exact ⟨rfl, (I, J, rd, rr), rfl, rfl, hC, fun k hk => ⟨rfl, rfl⟩⟩
    · have h7 := iN_y h7
      rw [if_pos h7, if_pos h7]
      exact ⟨rfl, (I, J, rd, rr), rfl, rfl, hC, fun k hk => ⟨rfl, rfl⟩⟩
  · have hc := iN_n h6
    rw [if_neg hc, if_neg hc]
    exact ⟨rfl, (I, J, rd, rr), rfl, rfl, hC, fun k hk => ⟨rfl, rfl⟩⟩
end T17
