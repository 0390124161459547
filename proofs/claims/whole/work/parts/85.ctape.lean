/-! the class finds the tokens; in a world where the valleys need not stand -/
section Y1
variable {G : GT} {l : Launch} {I : HI} {J : HJ} {R0 : HR} {rd : Option AO} {n : Nat} {b : Nat → Nat} {z : Nat}
def RX (R0 : HR) (rd : Option AO) : HR := fun k i j t => match k with
  | 2 => (match t with | 0 => some (3, 0, 0) | 2 => some (4, 0, 0) | 3 => some (5, 0, 0) | 4 => some (6, 0, 0) | _ => none)
  | 7 => (match i with | 0 => (match j with | 0 => (match t with | 0 => some (2, 0, 0) | 1 => rd | _ => none) | _ => none) | _ => none)
  | 11 => (match t with | 1 => some (12, i, 0) | 3 => some (13, i, 0) | 4 => some (14, i, 0) | _ => none)
  | _ => R0 k i j t
def mkX (I : HI) (J : HJ) (R0 : HR) (rd : Option AO) : AH := (I, (J, RX R0 rd))
theorem mkX_H {rr : Nat → Nat} : mkX I J (RF rd rr) rd = mkH I J rd rr := by
  refine congrArg (fun x => (I, (J, x))) ?_
  funext k i j t
  unfold RX
  split <;> rfl
theorem x_isBlank {d : Nat} {c : Int32} {h : AH} {post : Option AV → AH → Prop} (hn : n ≤ 80) (hd : 0 < d) (k : post (some (vI (iN (c = 32 ∨ c = 10)))) h) : CPd G l d n 1 19 [vI c] h post := by
  have E : Ev G l 0 (mt 19) n n [vI c] h (fun r h' => r = some (vI (iN (c = 32 ∨ c = 10))) ∧ h' = h) := by
    refine Ev_go iT_isBlank rfl rfl rfl ⟨Nat.le_refl _, hn⟩ (fun K hK => hK.1 [] 50 _ _ _ _ _ ?_)
    repeat' first | exact rfl | exact True.intro | apply And.intro | intro _
    all_goals first | exact Or.inl rfl | exact Or.inr rfl | (unfold iN; grind)
  exact CPd_eq E hd rfl k
theorem x_isLetter {d : Nat} {c : Int32} {h : AH} {post : Option AV → AH → Prop} (hn : n ≤ 80) (hd : 0 < d) (k : post (some (vI (iN (97 ≤ c ∧ c ≤ 122)))) h) : CPd G l d n 1 21 [vI c] h post := by
  have E : Ev G l 0 (mt 21) n n [vI c] h (fun r h' => r = some (vI (iN (97 ≤ c ∧ c ≤ 122))) ∧ h' = h) := by
    refine Ev_go iT_isLetter rfl rfl rfl ⟨Nat.le_refl _, hn⟩ (fun K hK => hK.1 [] 50 _ _ _ _ _ ?_)
    repeat' first | exact rfl | exact True.intro | apply And.intro | intro _
    all_goals first | exact Or.inl rfl | exact Or.inr rfl | (unfold iN; grind)
  exact CPd_eq E hd rfl k
theorem x_isDigit {d : Nat} {c : Int32} {h : AH} {post : Option AV → AH → Prop} (hn : n ≤ 80) (hd : 0 < d) (k : post (some (vI (iN (48 ≤ c ∧ c ≤ 57)))) h) : CPd G l d n 1 26 [vI c] h post := by
  have E : Ev G l 0 (mt 26) n n [vI c] h (fun r h' => r = some (vI (iN (48 ≤ c ∧ c ≤ 57))) ∧ h' = h) := by
    refine Ev_go iT_isDigit rfl rfl rfl ⟨Nat.le_refl _, hn⟩ (fun K hK => hK.1 [] 50 _ _ _ _ _ ?_)
    repeat' first | exact rfl | exact True.intro | apply And.intro | intro _
    all_goals first | exact Or.inl rfl | exact Or.inr rfl | (unfold iN; grind)
  exact CPd_eq E hd rfl k
/-- what lies on the tape -/
def TP (b : Nat → Nat) (z : Nat) (I : HI) : Prop := I 2 0 0 1 = nI z ∧ z ≤ 160 ∧ ∀ i, i < z → b i < 256 ∧ I 3 0 0 i = nI (b i)
theorem ni_in {c lo hi : Nat} (hc : c < 256) (h1 : lo < 256) (h2 : hi < 256) : (nI lo ≤ nI c ∧ nI c ≤ nI hi) ↔ (lo ≤ c ∧ c ≤ hi) := by
  rw [Int32.le_iff_toInt_le, Int32.le_iff_toInt_le, nI_toInt (by omega), nI_toInt (by omega), nI_toInt (by omega)]
  omega
theorem bl_iff {c : Nat} (hc : c < 256) : (nI c = 32 ∨ nI c = 10) ↔ isBl c = true := by
  unfold isBl
  rw [decide_eq_true_iff]
  constructor
  · rintro (q | q)
    · exact Or.inl (nI_ij (b := 32) q (by omega) (by decide))
    · exact Or.inr (nI_ij (b := 10) q (by omega) (by decide))
  · rintro (q | q)
    · exact Or.inl (by rw [q]; rfl)
    · exact Or.inr (by rw [q]; rfl)
theorem le_iff {c : Nat} (hc : c < 256) : (97 ≤ nI c ∧ nI c ≤ 122) ↔ isLe c = true := by
  unfold isLe
  rw [decide_eq_true_iff]
  exact ni_in hc (by decide) (by decide)
theorem di_iff {c : Nat} (hc : c < 256) : (48 ≤ nI c ∧ nI c ≤ 57) ↔ isDi c = true := by
  unfold isDi
  rw [decide_eq_true_iff]
  exact ni_in hc (by decide) (by decide)
theorem x_blanks {d a : Nat} {post : Option AV → AH → Prop} (hn : n ≤ 80) (hT : TP b z I) (ha : a ≤ z) (hd : 1 < d) (k : post (some (vI (nI (skA isBl b z a)))) (mkX I J R0 rd)) : CPd G l d n 0 18 [vR 2 0 0, vI (nI a)] (mkX I J R0 rd) post := by
  obtain ⟨hz, hz160, hb⟩ := hT
  have E : Ev G l 1 (mt 18) n n [vR 2 0 0, vI (nI a)] (mkX I J R0 rd) (fun r h' => r = some (vI (nI (skA isBl b z a))) ∧ h' = mkX I J R0 rd) := by
    refine Ev_go iT_behindBlanks rfl rfl rfl ⟨Nat.le_refl _, hn⟩ (fun K hK => ?_)
    have loop : ∀ f i, z - i < f → i ≤ z → skA isBl b z i = skA isBl b z a → K n 2 [some (vR 2 0 0), none, some (vI (nI i))] [] (mkX I J R0 rd) := by
      intro f
      induction f with
      | zero => intro i h; exact absurd h (by omega)
      | succ f ih =>
        intro i hf hi hsk
        refine hK.1 [(2, [true, false, true])] 60 _ _ _ _ _ ?_
        refine And.intro (fun q => ?_) (fun q => ?_)
        · have hiz : ¬ i < z := fun w => absurd q (by show ¬ I 2 0 0 1 ≤ nI i; rw [hz]; exact nI_ge w (by omega))
          refine ⟨rfl, ?_, rfl⟩
          rw [← hsk, skA_f (fun q => hiz q.1)]
        · have hiz : i < z := Classical.byContradiction fun w => q (by show I 2 0 0 1 ≤ nI i; rw [hz]; exact nI_le (by omega) (by omega))
          refine ⟨nI_in (N := 160) (by omega) (by decide), ?_⟩
          rw [nI_clamp (n := i) (by omega)]
          refine x_isBlank hn (by decide) ?_
          show _ ∧ _
          rw [show getI (mkX I J R0 rd) 3 0 0 i = nI (b i) from (hb i hiz).2, iN_congr (bl_iff (hb i hiz).1)]
          refine And.intro (fun q => ?_) (fun q => ?_)
          · refine ⟨rfl, ?_, rfl⟩
            rw [← hsk, skA_f (fun w => iN_n q w.2)]
          · show K n 2 _ _ _
            refine Kc (ih (i + 1) (by omega) (by omega) ?_) (by rw [nI_succ]; rfl) rfl
            rw [← hsk]
            exact (skA_t ⟨hiz, iN_y q⟩).symm
    refine hK.1 [(2, [true, false, true])] 60 _ _ _ _ _ ?_
    show K n 2 _ _ _
    exact loop (z + 1) a (by omega) ha rfl
  exact CPd_eq E hd rfl k
/-! words of the class: texts that are written down -/
theorem strLen_sh : ∀ s, s < 14 → Int32.ofNat (strLen s) >>> ((0 : Int32) &&& 31) = nI (strLen s) := by decide +kernel
theorem str_wd : ∀ k, k < 12 → strLen (k + 2) = (wdL k).length ∧ ∀ j, j < 8 → j < (wdL k).length → ((strB (k + 2) j &&& 255).toUInt32 % 65536).toInt32 = nI ((wdL k).getD j 0) := by decide +kernel
theorem x_length {d s : Nat} {h : AH} {post : Option AV → AH → Prop} (hn : n ≤ 80) (hs : s < 14) (hd : 1 < d) (k : post (some (vI (nI (strLen s)))) h) : CPd G l d n 0 6 [vR 41 s 0] h post := by
  have E0 : Ev G l 0 (mt 7) n n [vR 41 s 0] h (fun r h' => r = some (vI 0) ∧ h' = h) := by
    refine Ev_go iJ_coder rfl rfl rfl ⟨Nat.le_refl _, hn⟩ (fun K hK => hK.1 [] 50 _ _ _ _ _ ?_)
    exact And.intro (fun q => absurd q (by decide)) (fun _ => ⟨rfl, rfl, rfl, rfl⟩)
  have E : Ev G l 1 (mt 6) n n [vR 41 s 0] h (fun r h' => r = some (vI (nI (strLen s))) ∧ h' = h) := by
    refine Ev_go iJ_length rfl rfl rfl ⟨Nat.le_refl _, hn⟩ (fun K hK => hK.1 [] 50 _ _ _ _ _ ?_)
    refine CPd_eq E0 (by decide) rfl ?_
    refine ⟨rfl, ?_, rfl⟩
    show some (vI (Int32.ofNat (strLen s) >>> ((0 : Int32) &&& 31))) = _
    rw [strLen_sh s hs]
  exact CPd_eq E hd rfl k
theorem x_isLatin1 {d s : Nat} {h : AH} {post : Option AV → AH → Prop} (hn : n ≤ 80) (hd : 0 < d) (k : post (some (vI 1)) h) : CPd G l d n 0 9 [vR 41 s 0] h post := by
  have E : Ev G l 0 (mt 9) n n [vR 41 s 0] h (fun r h' => r = some (vI 1) ∧ h' = h) := by
    refine Ev_go iJ_isLatin1 rfl rfl rfl ⟨Nat.le_refl _, hn⟩ (fun K hK => hK.1 [] 50 _ _ _ _ _ ?_)
    exact And.intro (fun q => absurd q (by decide)) (fun _ => And.intro (fun q => absurd rfl q) (fun _ => ⟨Or.inr rfl, rfl, rfl, rfl⟩))
  exact CPd_eq E hd rfl k
theorem nar_ch {x : Int32} : narrow .char (.int (x.toUInt32 % 65536).toInt32) = .int (x.toUInt32 % 65536).toInt32 := by
  show Value.int (((x.toUInt32 % 65536).toInt32.toUInt32 % 65536).toInt32) = _
  have e : x.toUInt32 % 65536 % 65536 = x.toUInt32 % 65536 := by
    apply UInt32.toNat_inj.mp
    rw [UInt32.toNat_mod, UInt32.toNat_mod]
    exact Nat.mod_mod _ _
  rw [UInt32.toUInt32_toInt32, e]
theorem x_charAt {d s j : Nat} {h : AH} {post : Option AV → AH → Prop} (hn : n ≤ 80) (hs : s < 14) (hj : j < strLen s) (h64 : strLen s < 64) (hd : 3 < d) (k : post (some (vI (((strB s j &&& 255).toUInt32 % 65536).toInt32))) h) : CPd G l d n 0 8 [vR 41 s 0, vI (nI j)] h post := by
  have E0 : ∀ fo : Option AO, Ev G l 0 (mt 12) n n [vI (nI j), vI (nI (strLen s)), .inr (.inr fo)] h (fun r h' => r = some (vI (nI j)) ∧ h' = h) := by
    intro fo
    refine Ev_go iJ_checkIndexP rfl rfl rfl ⟨Nat.le_refl _, hn⟩ (fun K hK => hK.1 [] 50 _ _ _ _ _ ?_)
    refine And.intro (fun q => absurd q (nI_pos (by omega))) (fun _ => And.intro (fun _ => ?_) (fun q => absurd (nI_lt hj (by omega)) q))
    exact ⟨rfl, rfl, rfl⟩
  have E1 : Ev G l 1 (mt 11) n n [vI (nI j), vI (nI (strLen s))] h (fun r h' => r = none ∧ h' = h) := by
    refine Ev_go iJ_checkIndexS rfl rfl rfl ⟨Nat.le_refl _, hn⟩ (fun K hK => hK.1 [] 50 _ _ _ _ _ ?_)
    refine CPd_eq (E0 _) (by decide) rfl ?_
    exact ⟨rfl, rfl, rfl⟩
  have E2 : Ev G l 2 (mt 10) n n [vR 42 s 0, vI (nI j)] h (fun r h' => r = some (vI (((strB s j &&& 255).toUInt32 % 65536).toInt32)) ∧ h' = h) := by
    refine Ev_go iJ_charAtL rfl rfl rfl ⟨Nat.le_refl _, hn⟩ (fun K hK => hK.1 [] 50 _ _ _ _ _ ?_)
    refine CPd_eq E1 (by decide) rfl ?_
    refine ⟨nI_in hj (by omega), ?_⟩
    rw [nI_clamp (n := j) (by omega)]
    exact ⟨nar_ch, rfl, rfl, rfl⟩
  have E : Ev G l 3 (mt 8) n n [vR 41 s 0, vI (nI j)] h (fun r h' => r = some (vI (((strB s j &&& 255).toUInt32 % 65536).toInt32)) ∧ h' = h) := by
    refine Ev_go iJ_charAt rfl rfl rfl ⟨Nat.le_refl _, hn⟩ (fun K hK => hK.1 [] 50 _ _ _ _ _ ?_)
    refine x_isLatin1 hn (by decide) ?_
    refine And.intro (fun q => absurd q (by decide)) (fun _ => ?_)
    refine CPd_eq E2 (by decide) rfl ?_
    exact ⟨nar_ch, rfl, rfl, rfl⟩
  exact CPd_eq E hd rfl k
end Y1
