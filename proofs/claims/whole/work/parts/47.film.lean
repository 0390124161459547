/-! film -/
section T23
variable {G : GT} {l : Launch} {I : HI} {J : HJ} {rd : Option AO} {rr : Nat → Nat} {A : ST}
theorem stS_stS {s : Nat} {f g : Nat → Int32} : stS (stS A s f) s g = stS A s g := by
  unfold stS
  refine congrArg (fun z => (A.1, (A.2.1, (A.2.2.1, (A.2.2.2.1, (z, A.2.2.2.2.2)))))) ?_
  funext s'
  show (if s' = s then g else (if s' = s then f else aS A s')) = _
  by_cases h : s' = s
  · rw [if_pos h, if_pos h]
  · rw [if_neg h, if_neg h, if_neg h]
theorem putV_0 : ∀ q, q < 100 → putV 0 (nI q) = nI q := by decide
/-- a sheet's row once k days are filmed -/
def filF (A : ST) (p : Nat) (n : Int32) (k : Nat) : Nat → Int32 := fun t => if t = 0 then 0 else if t = 1 then n else if t < 2 + k then runP A (t - 1) p 2 else 0
theorem filF_0 {p : Nat} {n : Int32} : filF A p n 0 = rowS 0 n := by
  funext t
  unfold filF rowS
  by_cases h0 : t = 0
  · rw [if_pos h0, if_pos h0]
  · by_cases h1 : t = 1
    · rw [if_neg h0, if_pos h1, if_neg h0, if_pos h1]
    · rw [if_neg h0, if_neg h1, if_neg (by omega), if_neg h0, if_neg h1]
theorem filF_s {p k s : Nat} {n v : Int32} (hv : putV 0 v = v) (h : v = runP A (k + 1) p 2) : celF (stS A s (filF A p n k)) s k v = filF A p n (k + 1) := by
  funext t
  unfold celF
  rw [stS_s]
  show (if t = 2 + k then putV 0 v else _) = _
  unfold filF
  by_cases e : t = 2 + k
  · rw [if_pos e, if_neg (by omega), if_neg (by omega), if_pos (by omega), hv, h, show t - 1 = k + 1 by omega]
  · rw [if_neg e]
    by_cases h0 : t = 0
    · rw [if_pos h0, if_pos h0]
    · by_cases h1 : t = 1
      · rw [if_neg h0, if_pos h1, if_neg h0, if_pos h1]
      · rw [if_neg h0, if_neg h1, if_neg h0, if_neg h1]
        by_cases h2 : t < 2 + k
        · rw [if_pos h2, if_pos (by omega)]
        · rw [if_neg h2, if_neg (by omega)]
def filmR (A : ST) (s one n : Int32) : Int32 := if (0 ≤ s ∧ s ≤ 3) ∧ (0 ≤ one ∧ one < nI (aN A 0)) ∧ 0 ≤ n ∧ n ≤ 20 then n else -2
def filmA (A : ST) (s one n : Int32) : ST := if (0 ≤ s ∧ s ≤ 3) ∧ (0 ≤ one ∧ one < nI (aN A 0)) ∧ 0 ≤ n ∧ n ≤ 20 then stS A s.toNatClampNeg (filF A one.toNatClampNeg n n.toNatClampNeg) else A
theorem ok_fil {s p k z : Nat} (ok : OKA A) (hz : z ≤ 20) : OKA (stS A s (filF A p (nI z) k)) := ok.S (Or.inr ⟨⟨0, by omega, rfl⟩, ⟨z, by omega, rfl⟩⟩)
theorem ok_film {s one n : Int32} (ok : OKA A) : OKA (filmA A s one n) := by
  unfold filmA
  split
  · rename_i h
    obtain ⟨z, hz, rfl⟩ := rg_of (n := 20) h.2.2.1 h.2.2.2 (by decide)
    exact ok_fil ok hz
  · exact ok
theorem TF_w {k i j t : Nat} {x dd : Int32} {P : PP} {O : Nat → Nat → Nat → Int32} (h : k ≠ 14 ∧ k ≠ 19 ∧ k ≠ 17) : upI (setO (setP (tI I (nI (aN A 0)) dd) 1 P) O) k i j t x = setO (setP (tI (upI I k i j t x) (nI (aN A 0)) dd) 1 P) O := by
  rw [upI_O h.1]
  refine congrArg (fun z => setO z O) ?_
  funext k' i' j' t'
  simp only [upI, setP, tI]
  grind
theorem e_tput {s i z : Nat} {v dd : Int32} {P : PP} {O : Nat → Nat → Nat → Int32} (hz : I 15 s 0 2 = nI z) (hz40 : z ≤ 40) (hi : i < z) : Ev G l 1 (mt 119) 80 80 [vR 15 s 0, vI (nI i), vI v] (TF I J rd rr A dd P O) (fun r h' => r = none ∧ h' = TF (upI I 16 s 0 i (putV (I 15 s 0 1) v)) J rd rr A dd P O) := by
  have e : ∀ t, (setO (setP (tI I (nI (aN A 0)) dd) 1 P) O) 15 s 0 t = I 15 s 0 t := fun t => by rw [setO_k (by decide), setP_k (by decide), tI_k (by decide)]
  have E := e_put (G := G) (l := l) (I := setO (setP (tI I (nI (aN A 0)) dd) 1 P) O) (J := J) (rd := rd) (rr := va_up rr 1 (aN A 2)) (v := v) (by rw [e]; exact hz) hz40 hi
  rw [TF_w (by decide), e] at E
  exact E
theorem c_film {s one n : Int32} (ok : OKA A) : CC G l 117 6 [vI s, vI one, vI n] A (vI (filmR A s one n)) (filmA A s one n) := by
  intro I J rd rr hC
  obtain ⟨h1, h2, h3, h4⟩ := hC.1
  have h5 := ok.1.1
  refine Ev_go iC_film rfl rfl rfl ⟨Nat.le_refl _, Nat.le_refl _⟩ (fun K hK => ?_)
  refine hK.1 [(60, [true, true, true, true, true, true])] 100 _ _ _ _ _ ?_
  unfold filmR filmA at hK
  unfold filmR filmA
  refine k_isSheet (by decide) ?_
  refine And.intro (fun h6 => ?_) (fun h6 => ?_)
  · rw [if_neg (fun q => iN_n h6 q.1), if_neg (fun q => iN_n h6 q.1)]
    exact ⟨rfl, (I, J, rd, rr), rfl, rfl, hC, fun k hk => ⟨rfl, rfl⟩⟩
  · refine k_isThere h1 (by decide) ?_
    refine And.intro (fun h7 => ?_) (fun h7 => ?_)
    · rw [if_neg (fun q => iN_n h7 q.2.1), if_neg (fun q => iN_n h7 q.2.1)]
      exact ⟨rfl, (I, J, rd, rr), rfl, rfl, hC, fun k hk => ⟨rfl, rfl⟩⟩
    · refine k_isWithin (by decide) ?_
      refine And.intro (fun h8 => ?_) (fun h8 => ?_)
      · have hc := And.intro (iN_y h6) (And.intro (iN_y h7) (iN_y h8))
        rw [if_pos hc, if_pos hc] at hK
        obtain ⟨s, hs, rfl⟩ := rg_of (n := 3) hc.1.1 hc.1.2 (by decide)
        obtain ⟨p, hp, rfl⟩ := nI_ex hc.2.1.1 hc.2.1.2 (by omega)
        obtain ⟨z, hz, rfl⟩ := rg_of (n := 20) hc.2.2.1 hc.2.2.2 (by decide)
        rw [nI_clamp (n := s) (by omega), nI_clamp (n := p) (by omega), nI_clamp (n := z) (by omega)] at hK
        have loop : ∀ j k I1 P O, k + j = z → CF I1 rr (stS A s (filF A p (nI z) k)) → frC I I1 J J → Ag (aN A 0) P (runP A k) → K 80 60 [some (vR 0 0 0), some (vI (nI s)), some (vI (nI p)), some (vI (nI z)), some (vR 15 s 0), some (vI (nI k))] [] (TF I1 J rd rr A (dy A + nI k) P O) := by
          intro j
          induction j with
          | zero =>
            intro k I1 P O hk hC1 hf hA
            refine hK.1 [] 100 _ _ _ _ _ ?_
            rw [show k = z by omega] at hC1 ⊢
            refine And.intro (fun _ => ?_) (fun h => absurd (nI_le (Nat.le_refl _) (by omega)) h)
            exact ⟨rfl, (_, J, rd, _), rfl, rfl, CF.th hC1, fun k hk => ⟨((frC.th (J := J) k hk).1).trans (hf k hk).1, rfl⟩⟩
          | succ j ih =>
            intro k I1 P O hk hC1 hf hA
            refine hK.1 [(60, [true, true, true, true, true, true])] 100 _ _ _ _ _ ?_
            refine And.intro (fun h => absurd h (nI_ge (by omega) (by omega))) (fun _ => ?_)
            have ok1 : OKA (stS A s (filF A p (nI z) k)) := ok_fil ok hz
            have hW : WF P (aN A 0) := WF.Ag hA.symm (dayN_WF ok.1.2.2.2.2 k)
            refine t_passDay (A := stS A s (filF A p (nI z) k)) hC1 ok1 hW (by decide) (fun O' => ?_)
            show vp_in _ _ ∧ _
            refine ⟨nI_in (N := 5) (by omega) (by decide), ?_⟩
            rw [nI_clamp (n := p) (by omega)]
            show CPd _ _ _ _ _ _ _ _ _
            rw [TF_P]
            have hA' : Ag (aN A 0) (dayS (bO A) (dy A + nI k) (aN A 0) P) (runP A (k + 1)) := day_Ag hA h5
            have hv := hA' p hp 2 (by omega)
            obtain ⟨w, hw, hwe⟩ := (day_WF (B := bO A) (day := dy A + nI k) hW p hp).2.2.1
            have hh := hC1.2.2.2.2.1 s (by omega)
            rw [stS_s] at hh
            refine CPd_eq (e_tput (z := z) hh.2.1 (by omega) (by omega)) (by decide) rfl ?_
            show K 80 60 _ _ _
            rw [hh.1]
            have hput : putV 0 (dayS (bO A) (dy A + nI k) (aN A 0) P p 2) = dayS (bO A) (dy A + nI k) (aN A 0) P p 2 := by rw [hwe]; exact putV_0 w (by omega)
            have hcel := hC1.cel (s := s) (i := k) (z := z) (v := dayS (bO A) (dy A + nI k) (aN A 0) P p 2) (by omega) (by rw [stS_s]; rfl) (by omega)
            rw [stS_stS, filF_s hput hv, stS_s] at hcel
            refine Kc (ih (k + 1) _ _ O' (by omega) hcel (fun k hk => ⟨((frC.up (J := J) (by decide)) k hk).1.trans (hf k hk).1, rfl⟩) hA') (by rw [nI_succ]; rfl) ?_
            rw [nI_succ, Int32.add_assoc]
            rfl
        show vp_in _ _ ∧ _
        refine ⟨nI_in (N := 4) (by omega) (by decide), ?_⟩
        rw [nI_clamp (n := s) (by omega)]
        refine CPd_eq e_slay (by decide) rfl ?_
        have hC1 : CF (layS I s 0 (nI z)) rr (stS A s (filF A p (nI z) 0)) := by rw [filF_0]; exact hC.lay ⟨z, by omega, rfl⟩
        refine k_think hC1 (ok_fil ok hz) (by decide) (fun P hP => ?_)
        show K 80 60 _ _ _
        refine Kc (loop z 0 _ P (layS I s 0 (nI z) 14) (by omega) hC1 frC.lay hP) rfl ?_
        rw [show dy A + nI 0 = dy A from Int32.add_zero _]
        rfl
      · rw [if_neg (fun q => iN_n h8 q.2.2), if_neg (fun q => iN_n h8 q.2.2)]
        exact ⟨rfl, (I, J, rd, rr), rfl, rfl, hC, fun k hk => ⟨rfl, rfl⟩⟩
end T23
