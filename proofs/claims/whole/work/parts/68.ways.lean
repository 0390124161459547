/-! ways to lend an ear, in two orders of reckoning -/
section T44
variable {A : ST}
abbrev B3 : Type := Int32 × (Int32 × Int32)
def fdN (f : Nat → B3 → B3) : Nat → B3 → B3
  | 0, b => b
  | n + 1, b => f n (fdN f n b)
theorem fd_congr {f g : Nat → B3 → B3} : ∀ n b, (∀ i, i < n → ∀ b, f i b = g i b) → fdN f n b = fdN g n b
  | 0, _, _ => rfl
  | n + 1, b, h => by rw [fdN, fdN, fd_congr n b (fun i hi => h i (by omega)), h n (by omega)]
theorem fd_add {f : Nat → B3 → B3} {a : Nat} : ∀ n b, fdN f (a + n) b = fdN (fun j => f (a + j)) n (fdN f a b)
  | 0, _ => rfl
  | n + 1, b => by rw [show a + (n + 1) = (a + n) + 1 by omega, fdN, fdN, fd_add n b]
theorem fd_mul {f : Nat → B3 → B3} {M : Nat} : ∀ c b, fdN f (c * M) b = fdN (fun i b => fdN (fun j b => f (i * M + j) b) M b) c b
  | 0, b => by rw [Nat.zero_mul]; rfl
  | c + 1, b => by rw [Nat.add_mul, Nat.one_mul, fd_add, fdN, fd_mul c b]
theorem fd_first {f : Nat → B3 → B3} {b b' : B3} (h : f 0 b = f 0 b') : ∀ n, fdN f (n + 1) b = fdN f (n + 1) b'
  | 0 => h
  | n + 1 => by rw [fdN, fd_first h n]; rfl
/-- the c-th of the EARS that one may have -/
def ec (p c : Nat) : Int32 := if c ≤ p then nI c + -1 else nI c
def eP (A : ST) (e : Nat → Int32) : PP := fun p a => if a = 4 then e p else aP A p a
def lfS (A : ST) (n : Nat) (e : Nat → Int32) (dg : Int32) (b : B3) : B3 :=
  if b.1 = -1 ∨ aslS (dayN (bO A) (dy A) (aN A 0) (eP A e) n) (aN A 0) < b.2.1 ∨ (aslS (dayN (bO A) (dy A) (aN A 0) (eP A e) n) (aN A 0) = b.2.1 ∧ sumT (dayN (bO A) (dy A) (aN A 0) (eP A e) n) (aN A 0) < b.2.2) then (dg, (aslS (dayN (bO A) (dy A) (aN A 0) (eP A e) n) (aN A 0), sumT (dayN (bO A) (dy A) (aN A 0) (eP A e) n) (aN A 0))) else b
theorem eP_Ag {m : Nat} {e e' : Nat → Int32} (h : ∀ p, p < m → e p = e' p) : Ag m (eP A e) (eP A e') := by
  intro p hp a ha
  unfold eP
  by_cases h4 : a = 4
  · rw [if_pos h4, if_pos h4, h p hp]
  · rw [if_neg h4, if_neg h4]
theorem lf_congr {n : Nat} {e e' : Nat → Int32} {dg : Int32} {b : B3} (h5 : aN A 0 ≤ 5) (h : ∀ p, p < aN A 0 → e p = e' p) : lfS A n e dg b = lfS A n e' dg b := by
  have hA := dayN_Ag (B := bO A) (d := dy A) (eP_Ag (A := A) h) h5 n
  unfold lfS
  rw [asl_Ag _ _ hA (Nat.le_refl _), sum_Ag _ _ hA (Nat.le_refl _)]
theorem eP_up {e : Nat → Int32} {p : Nat} {x : Int32} : eP A (va_up e p x) = upP (eP A e) p 4 x := by
  funext q a
  unfold eP upP va_up
  by_cases h4 : a = 4
  · subst h4
    by_cases hq : q = p
    · simp [hq]
    · simp [hq]
  · simp [h4]
/-- the ears are those of others that are there, or none -/
def EW (m : Nat) (e : Nat → Int32) : Prop := ∀ p, p < m → e p = -1 ∨ ∃ q, q < m ∧ e p = nI q
theorem eP_WF {e : Nat → Int32} {m : Nat} (h : WF (aP A) m) (he : EW m e) : WF (eP A e) m := by
  intro p hp
  have hq := h p hp
  exact ⟨hq.1, hq.2.1, hq.2.2.1, hq.2.2.2.1, he p hp, hq.2.2.2.2.2⟩
theorem ec_ok {m p c : Nat} (hp : p < m) (hc : c < m) : ec p c = -1 ∨ ∃ q, q < m ∧ ec p c = nI q := by
  unfold ec
  split
  · cases c with
    | zero => exact Or.inl rfl
    | succ c => exact Or.inr ⟨c, by omega, nI_m1⟩
  · exact Or.inr ⟨c, hc, rfl⟩
theorem EW.up {m p : Nat} {e : Nat → Int32} {x : Int32} (h : EW m e) (hx : x = -1 ∨ ∃ q, q < m ∧ x = nI q) : EW m (va_up e p x) := by
  intro q hq
  unfold va_up
  by_cases e : q = p
  · simp only [e, ↓reduceIte]; exact hx
  · simp only [e, ↓reduceIte]; exact h q hq
/-- the reference: one by one, from the p-th on -/
def trS (A : ST) (n : Nat) : Nat → (Nat → Int32) → Int32 → B3 → B3
  | 0, e, dg, b => lfS A n e dg b
  | k + 1, e, dg, b => fdN (fun c b => trS A n k (va_up e (aN A 0 - (k + 1)) (ec (aN A 0 - (k + 1)) c)) (10 * dg + ec (aN A 0 - (k + 1)) c + 1) b) (aN A 0) b
def eK (m : Nat) : Nat → (Nat → Int32) → Nat → (Nat → Int32)
  | 0, e, _ => e
  | k + 1, e, w => eK m k (va_up e (m - (k + 1)) (ec (m - (k + 1)) (w / m ^ k))) (w % m ^ k)
def dK (m : Nat) : Nat → Int32 → Nat → Int32
  | 0, dg, _ => dg
  | k + 1, dg, w => dK m k (10 * dg + ec (m - (k + 1)) (w / m ^ k) + 1) (w % m ^ k)
theorem tr_fd {n : Nat} : ∀ k e dg b, trS A n k e dg b = fdN (fun w b => lfS A n (eK (aN A 0) k e w) (dK (aN A 0) k dg w) b) (aN A 0 ^ k) b
  | 0, e, dg, b => rfl
  | k + 1, e, dg, b => by
    rw [trS, Nat.pow_succ, Nat.mul_comm, fd_mul]
    refine fd_congr _ _ (fun c hc b => ?_)
    rw [tr_fd k]
    refine fd_congr _ _ (fun w hw b => ?_)
    have hM : 0 < aN A 0 ^ k := by omega
    have e1 : (c * aN A 0 ^ k + w) / aN A 0 ^ k = c := by
      rw [Nat.mul_comm, Nat.mul_add_div hM, Nat.div_eq_of_lt hw, Nat.add_zero]
    have e2 : (c * aN A 0 ^ k + w) % aN A 0 ^ k = w := by
      rw [Nat.mul_comm, Nat.mul_add_mod, Nat.mod_eq_of_lt hw]
    rw [eK, dK, e1, e2]
/-- the class: the ways' digits -/
def eW (m w : Nat) : Nat → Int32 := fun p => ec p (w / m ^ (m - 1 - p) % m)
def tenP : Nat → Int32
  | 0 => 1
  | k + 1 => tenP k * 10
def dS (m w : Nat) : Nat → Int32
  | 0 => 0
  | k + 1 => dS m w k + (ec (m - (k + 1)) (w / m ^ k % m) + 1) * tenP k
theorem mod_digit {w m k i : Nat} (hi : i < k) : w % m ^ k / m ^ i % m = w / m ^ i % m := by
  obtain ⟨j, rfl⟩ : ∃ j, k = i + (j + 1) := ⟨k - i - 1, by omega⟩
  rw [Nat.pow_add, Nat.mod_mul_right_div_self, Nat.pow_succ, Nat.mul_comm (m ^ j) m, Nat.mod_mul_right_mod]
theorem eK_low {m p : Nat} : ∀ k e w, p + k < m → eK m k e w p = e p
  | 0, _, _, _ => rfl
  | k + 1, e, w, h => by
    rw [eK, eK_low k _ _ (by omega)]
    unfold va_up
    rw [if_neg (by omega)]
theorem eK_eW {m p : Nat} : ∀ k e w, w < m ^ k → k ≤ m → m ≤ p + k → p < m → eK m k e w p = eW m w p
  | 0, _, _, _, _, h1, h2 => by omega
  | k + 1, e, w, hw, hk, h1, h2 => by
    rw [eK]
    have hm : 0 < m ^ k := Nat.pow_pos (by omega)
    by_cases hp : p + (k + 1) = m
    · rw [eK_low k _ _ (by omega)]
      unfold va_up eW
      rw [if_pos (by omega), show m - (k + 1) = p by omega, show m - 1 - p = k by omega, Nat.mod_eq_of_lt (a := w / m ^ k)]
      rw [Nat.div_lt_iff_lt_mul hm]
      rw [Nat.pow_succ, Nat.mul_comm] at hw
      exact hw
    · rw [eK_eW k _ _ (Nat.mod_lt _ hm) (by omega) (by omega) h2]
      unfold eW
      rw [mod_digit (by omega)]
theorem dS_mod {w m k : Nat} : ∀ i, i ≤ k → dS m (w % m ^ k) i = dS m w i
  | 0, _ => rfl
  | i + 1, h => by rw [dS, dS, dS_mod i (by omega), mod_digit (by omega)]
theorem dK_dS {m : Nat} : ∀ k dg w, w < m ^ k → k ≤ m → dK m k dg w = dg * tenP k + dS m w k
  | 0, dg, w, _, _ => by
    show dg = dg * 1 + 0
    rw [Int32.mul_one, Int32.add_zero]
  | k + 1, dg, w, hw, hk => by
    have hm : 0 < m ^ k := Nat.pow_pos (by omega)
    have hlt : w / m ^ k < m := by
      rw [Nat.div_lt_iff_lt_mul hm]
      rw [Nat.pow_succ, Nat.mul_comm] at hw
      exact hw
    rw [dK, dK_dS k _ _ (Nat.mod_lt _ hm) (by omega), dS_mod k (Nat.le_refl _), dS, tenP, Nat.mod_eq_of_lt hlt]
    grind
/-- both reckon alike -/
def wayF (A : ST) (n : Nat) : Nat → B3 → B3 := fun w b => lfS A n (eW (aN A 0) w) (dS (aN A 0) w (aN A 0)) b
theorem tr_way {n : Nat} {e : Nat → Int32} {b : B3} (h5 : aN A 0 ≤ 5) : trS A n (aN A 0) e 0 b = fdN (wayF A n) (aN A 0 ^ aN A 0) b := by
  rw [tr_fd]
  refine fd_congr _ _ (fun w hw b => ?_)
  rw [dK_dS _ _ _ hw (Nat.le_refl _), Int32.zero_mul, Int32.zero_add]
  exact lf_congr h5 (fun p hp => eK_eW _ _ _ hw (Nat.le_refl _) (by omega) hp)
theorem way_first {n m : Nat} {x y : Int32} : fdN (wayF A n) (m + 1) (-1, (x, y)) = fdN (wayF A n) (m + 1) (-1, (0, 0)) := by
  refine fd_first ?_ m
  unfold wayF lfS
  rw [if_pos (Or.inl rfl), if_pos (Or.inl rfl)]
def earsV (A : ST) (n : Nat) (w : Int32) : Int32 := if w = 0 then (fdN (wayF A n) (aN A 0 ^ aN A 0) (-1, (0, 0))).1 else if w = 1 then (fdN (wayF A n) (aN A 0 ^ aN A 0) (-1, (0, 0))).2.1 else (fdN (wayF A n) (aN A 0 ^ aN A 0) (-1, (0, 0))).2.2
def earsR (A : ST) (n w : Int32) : Int32 := if (1 ≤ n ∧ n ≤ 3) ∧ 0 ≤ w ∧ w ≤ 2 then earsV A n.toNatClampNeg w else -2
end T44
