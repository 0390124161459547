/-! DOES, WEIGHS, HEARS, a telling, a day -/
section C4
variable {G : GT} {l : Launch} {I : HI} {J : HJ} {rd : Option AO} {rr : Nat → Nat}
abbrev BT : Type := Nat → (Nat → Int32) → Int32
def RuK (I : HI) (r : Nat) (B : BT) : Prop := ∀ part, part < 3 → ∃ a n, I 13 r 0 part = nI a ∧ I 13 r 0 (part + 1) = nI (a + n) ∧ a + n ≤ 160 ∧ ∀ E, rpn E (seg (I 12 r 0) a n) [] = some [B part E]
def nf (I : HI) (J : HJ) (rd : Option AO) (rr : Nat → Nat) (v : Nat) (P : PP) (O : Nat → Nat → Nat → Int32) : AH := mkH (setO (setP I v P) O) J rd rr
theorem nf_of {v : Nat} : mkH I J rd rr = nf I J rd rr v (I 19 v) (I 14) := by
  unfold nf
  rw [setP_self, setO_self]
theorem nf_P {v p a : Nat} {P : PP} {O : Nat → Nat → Nat → Int32} : getI (nf I J rd rr v P O) 19 v p a = P p a := by
  unfold nf; rw [getI_mk, setO_k (by decide), setP_19]
theorem nf_I {v k i j a : Nat} {P : PP} {O : Nat → Nat → Nat → Int32} (h : k ≠ 14 ∧ k ≠ 19) : getI (nf I J rd rr v P O) k i j a = I k i j a := by
  unfold nf; rw [getI_mk, setO_k h.1, setP_k h.2]
theorem nf_w {v p a : Nat} {P : PP} {O : Nat → Nat → Nat → Int32} {x : Int32} : setI (nf I J rd rr v P O) 19 v p a x = nf I J rd rr v (upP P p a x) O := by
  unfold nf; rw [setI_mk, upI_O (by decide), upI_P, setP_19, setP_P]
theorem nf_nf {v : Nat} {P Q : PP} {O O' : Nat → Nat → Nat → Int32} : nf (setO (setP I v P) O) J rd rr v Q O' = nf I J rd rr v Q O' := by
  unfold nf; rw [setP_O, setO_O, setP_P]
theorem RuK.nf {v r : Nat} {B : BT} {P : PP} {O : Nat → Nat → Nat → Int32} (h : RuK I r B) : RuK (setO (setP I v P) O) r B := by
  unfold RuK
  rw [setO_k (by decide), setP_k (by decide), setO_k (by decide), setP_k (by decide)]
  exact h
theorem c_val {d r v p part : Nat} {B : BT} {P : PP} {O : Nat → Nat → Nat → Int32} {day asl pa : Int32} {post : Option AV → AH → Prop} (hB : RuK I r B) (hp : part < 3) (hpa : pa = nI part) (hd : 1 < d) (k : ∀ O', post (some (vI (bnd (B part (envS (P p) day asl)) 0 99))) (nf I J rd rr v P O')) :
    CPd G l d 80 0 67 [vR 11 r 0, vI pa, vR 19 v p, vI day, vI asl] (nf I J rd rr v P O) post := by
  subst hpa
  obtain ⟨a, n, h1, h2, h3, h4⟩ := hB.nf (v := v) (P := P) (O := O) part hp
  refine CPd_ex (e_value hp h1 h2 h3 (h4 _)) hd rfl (fun O' => ?_)
  have e := k O'
  rw [setO_k (by decide), setP_19, setO_O]
  exact e
theorem c_bound {d : Nat} {a b c : Int32} {h : AH} {post : Option AV → AH → Prop} (hd : 0 < d) (k : post (some (vI (bnd a b c))) h) : CPd G l d 80 1 71 [vI a, vI b, vI c] h post := CPd_eq (e_bound (Nat.le_refl 80)) hd rfl k
theorem c_doing {d v p : Nat} {x : Int32} {P : PP} {O : Nat → Nat → Nat → Int32} {post : Option AV → AH → Prop} (hd : 1 < d) (k : post (some (vI (doingS (P p) x))) (nf I J rd rr v P O)) : CPd G l d 80 0 72 [vR 19 v p, vI x] (nf I J rd rr v P O) post := by
  refine CPd_eq e_doing hd rfl ?_
  rw [setO_k (by decide), setP_19]
  exact k
theorem c_weighing {d v p : Nat} {x : Int32} {P : PP} {O : Nat → Nat → Nat → Int32} {post : Option AV → AH → Prop} (hd : 1 < d) (k : post (some (vI (weighS (P p) x))) (nf I J rd rr v P O)) : CPd G l d 80 0 74 [vR 19 v p, vI x] (nf I J rd rr v P O) post := by
  refine CPd_eq e_weighing hd rfl ?_
  rw [setO_k (by decide), setP_19]
  exact k
theorem c_hearing {d v p : Nat} {x y : Int32} {P : PP} {O : Nat → Nat → Nat → Int32} {post : Option AV → AH → Prop} (hd : 1 < d) (k : post (some (vI (hearS (P p) x y))) (nf I J rd rr v P O)) : CPd G l d 80 0 77 [vR 19 v p, vI x, vI y] (nf I J rd rr v P O) post := by
  refine CPd_eq e_hearing hd rfl ?_
  rw [setO_k (by decide), setP_19]
  exact k
theorem c_asleepCount {d v m : Nat} {P : PP} {O : Nat → Nat → Nat → Int32} {post : Option AV → AH → Prop} (hm : I 17 v 0 1 = nI m) (h5 : m ≤ 5) (hb : ∀ p, p < m → P p 6 = 0 ∨ P p 6 = 1) (hd : 1 < d) (k : post (some (vI (aslS P m))) (nf I J rd rr v P O)) : CPd G l d 80 0 64 [vR 17 v 0] (nf I J rd rr v P O) post := by
  refine CPd_eq (e_asleepCount (m := m) (by rw [setO_k (by decide), setP_k (by decide)]; exact hm) h5 (by rw [setO_k (by decide), setP_19]; exact hb)) hd rfl ?_
  rw [setO_k (by decide), setP_19]
  exact k
def doesS (B : BT) (P : PP) (p : Nat) (day asl : Int32) : Int32 := doingS (P p) (bnd (B 0 (envS (P p) day asl)) 0 99)
def weighsS (B : BT) (P : PP) (p : Nat) (day asl : Int32) : Int32 := weighS (P p) (bnd (B 1 (envS (P p) day asl)) 0 99)
def hearsS (B : BT) (P : PP) (p : Nat) (ld day asl : Int32) : Int32 := hearS (P p) ld (bnd (B 2 (envS (P p) day asl)) 0 99)
theorem e_vdoesOf {v m p : Nat} {B : BT} {P : PP} {O : Nat → Nat → Nat → Int32} (hB : RuK I (rr v) B) (hm : I 17 v 0 1 = nI m) (h5 : m ≤ 5) (hb : ∀ p, p < m → P p 6 = 0 ∨ P p 6 = 1) : Ev G l 2 (mt 63) 80 80 [vR 17 v 0, vR 19 v p] (nf I J rd rr v P O) (fun r h' => ∃ O', r = some (vI (doesS B P p (I 17 v 0 2) (aslS P m))) ∧ h' = nf I J rd rr v P O') := by
  refine Ev_go iV_doesOf rfl rfl rfl ⟨Nat.le_refl _, Nat.le_refl _⟩ (fun K hK => hK.1 [] 120 _ _ _ _ _ ?_)
  refine c_asleepCount hm h5 hb (by decide) ?_
  refine c_val hB (by decide) rfl (by decide) (fun O1 => ?_)
  refine c_doing (by decide) ?_
  refine ⟨rfl, O1, ?_, rfl⟩
  rw [nf_I (by decide)]
  rfl
theorem e_vweighsOf {v m p : Nat} {B : BT} {P : PP} {O : Nat → Nat → Nat → Int32} (hB : RuK I (rr v) B) (hm : I 17 v 0 1 = nI m) (h5 : m ≤ 5) (hb : ∀ p, p < m → P p 6 = 0 ∨ P p 6 = 1) : Ev G l 2 (mt 73) 80 80 [vR 17 v 0, vR 19 v p] (nf I J rd rr v P O) (fun r h' => ∃ O', r = some (vI (weighsS B P p (I 17 v 0 2) (aslS P m))) ∧ h' = nf I J rd rr v P O') := by
  refine Ev_go iV_weighsOf rfl rfl rfl ⟨Nat.le_refl _, Nat.le_refl _⟩ (fun K hK => hK.1 [] 120 _ _ _ _ _ ?_)
  refine c_asleepCount hm h5 hb (by decide) ?_
  refine c_val hB (by decide) rfl (by decide) (fun O1 => ?_)
  refine c_weighing (by decide) ?_
  refine ⟨rfl, O1, ?_, rfl⟩
  rw [nf_I (by decide)]
  rfl
theorem e_vhearsOf {v m p : Nat} {B : BT} {P : PP} {O : Nat → Nat → Nat → Int32} {ld : Int32} (hB : RuK I (rr v) B) (hm : I 17 v 0 1 = nI m) (h5 : m ≤ 5) (hb : ∀ p, p < m → P p 6 = 0 ∨ P p 6 = 1) : Ev G l 2 (mt 76) 80 80 [vR 17 v 0, vR 19 v p, vI ld] (nf I J rd rr v P O) (fun r h' => ∃ O', r = some (vI (hearsS B P p ld (I 17 v 0 2) (aslS P m))) ∧ h' = nf I J rd rr v P O') := by
  refine Ev_go iV_hearsOf rfl rfl rfl ⟨Nat.le_refl _, Nat.le_refl _⟩ (fun K hK => hK.1 [] 120 _ _ _ _ _ ?_)
  refine c_asleepCount hm h5 hb (by decide) ?_
  refine c_val hB (by decide) rfl (by decide) (fun O1 => ?_)
  refine c_hearing (by decide) ?_
  refine ⟨rfl, O1, ?_, rfl⟩
  rw [nf_I (by decide)]
  rfl
def tiredByS (B : BT) (P : PP) (p : Nat) (ld day asl : Int32) : Int32 := bnd (P p 2 + hearsS B P p ld day asl) 0 99
theorem e_tiredBy {v m p : Nat} {B : BT} {P : PP} {O : Nat → Nat → Nat → Int32} {ld : Int32} (hB : RuK I (rr v) B) (hm : I 17 v 0 1 = nI m) (h5 : m ≤ 5) (hb : ∀ p, p < m → P p 6 = 0 ∨ P p 6 = 1) : Ev G l 3 (mt 102) 80 80 [vR 17 v 0, vR 19 v p, vI ld] (nf I J rd rr v P O) (fun r h' => ∃ O', r = some (vI (tiredByS B P p ld (I 17 v 0 2) (aslS P m))) ∧ h' = nf I J rd rr v P O') := by
  refine Ev_go iV_tiredBy rfl rfl rfl ⟨Nat.le_refl _, Nat.le_refl _⟩ (fun K hK => hK.1 [] 120 _ _ _ _ _ ?_)
  refine CPd_ex (e_vhearsOf hB hm h5 hb) (by decide) rfl (fun O1 => ?_)
  refine c_bound (by decide) ?_
  exact ⟨rfl, O1, by rw [nf_P]; rfl, rfl⟩
def tellS (B : BT) (day asl : Int32) (P : PP) (t o : Nat) : PP := upP (upP (upP P o 2 (tiredByS B P o (weighsS B P t day asl) day asl)) o 5 (bnd (P o 5 + 1) 0 99)) t 3 0
theorem e_tellTo {v t o : Nat} {B : BT} {P : PP} {O : Nat → Nat → Nat → Int32} {asl : Int32} (hB : RuK I (rr v) B) : Ev G l 2 (mt 83) 80 80 [vR 17 v 0, vR 19 v t, vR 19 v o, vI asl] (nf I J rd rr v P O) (fun r h' => ∃ O', r = none ∧ h' = nf I J rd rr v (tellS B (I 17 v 0 2) asl P t o) O') := by
  refine Ev_go iV_tellTo rfl rfl rfl ⟨Nat.le_refl _, Nat.le_refl _⟩ (fun K hK => hK.1 [] 120 _ _ _ _ _ ?_)
  refine c_val hB (by decide) rfl (by decide) (fun O1 => ?_)
  refine c_weighing (by decide) ?_
  refine c_val hB (by decide) rfl (by decide) (fun O2 => ?_)
  refine c_hearing (by decide) ?_
  refine c_bound (by decide) ?_
  refine c_bound (by decide) ?_
  refine ⟨rfl, O2, rfl, ?_⟩
  simp only [nf_w, nf_P, nf_I (k := 17) (by decide)]
  unfold tellS tiredByS hearsS weighsS
  rw [upP_a (by decide)]
end C4
