/-! a text: its tokens, how it is read to steps; what is here is not yet about any program -/
section X0
def skp (p : Nat → Bool) (b : Nat → Nat) (n : Nat) : Nat → Nat → Nat
  | 0, a => a
  | f + 1, a => if a < n ∧ p (b a) = true then skp p b n f (a + 1) else a
def skA (p : Nat → Bool) (b : Nat → Nat) (n a : Nat) : Nat := skp p b n (n - a) a
def isBl (c : Nat) : Bool := decide (c = 32 ∨ c = 10)
def isLe (c : Nat) : Bool := decide (97 ≤ c ∧ c ≤ 122)
def isDi (c : Nat) : Bool := decide (48 ≤ c ∧ c ≤ 57)
def isSg (c : Nat) : Bool := decide (c = 40 ∨ c = 41 ∨ c = 59 ∨ c = 43 ∨ c = 45 ∨ c = 42 ∨ c = 60 ∨ c = 61)
def wdLs : List (List Nat) := [[116, 105, 114, 101, 100], [115, 116, 111, 114, 121], [110, 117, 109, 98, 101, 114], [100, 97, 121], [97, 115, 108, 101, 101, 112], [104, 101, 97, 114, 100], [100, 111, 101, 115], [119, 101, 105, 103, 104, 115], [115, 112, 97, 114, 101, 115], [111, 114], [97, 110, 100], [110, 111, 116]]
def wdL (i : Nat) : List Nat := wdLs.getD i []
def eqW (b : Nat → Nat) : Nat → List Nat → Bool
  | _, [] => true
  | a, c :: cs => decide (b a = c) && eqW b (a + 1) cs
def wdM (b : Nat → Nat) (a e i : Nat) : Bool := decide (e - a = (wdL i).length) && eqW b a (wdL i)
/-- which of the first k words stands there -/
def wdF (b : Nat → Nat) (a e : Nat) : Nat → Option Nat
  | 0 => none
  | k + 1 => if wdM b a e k = true then some k else wdF b a e k
def nbI (b : Nat → Nat) (a : Nat) : Nat → Int32
  | 0 => 0
  | k + 1 => nbI b a k * 10 + nI (b (a + k)) - 48
def wdC (o : Option Nat) : Int32 := match o with
  | some i => if i < 6 then 3 else nI (1000 + i)
  | none => 1
def wdA (o : Option Nat) : Int32 := match o with
  | some i => -1 - nI i
  | none => 0
def enA (b : Nat → Nat) (n a : Nat) : Nat := if isLe (b a) = true then skA isLe b n a else if isDi (b a) = true then skA isDi b n a else a + 1
def cdA (b : Nat → Nat) (n a : Nat) : Int32 := if isLe (b a) = true then wdC (wdF b a (skA isLe b n a) 12) else if isDi (b a) = true then (if 4 < skA isDi b n a - a then 1 else 2) else if isSg (b a) = true then nI (b a) else 1
def amA (b : Nat → Nat) (n a : Nat) : Int32 := if isLe (b a) = true then wdA (wdF b a (skA isLe b n a) 12) else if isDi (b a) = true then nbI b a (skA isDi b n a - a) else 0
def psA (b : Nat → Nat) (n : Nat) : Nat → Nat
  | 0 => skA isBl b n 0
  | i + 1 => if psA b n i < n then skA isBl b n (enA b n (psA b n i)) else psA b n i
def tkC (b : Nat → Nat) (n i : Nat) : Int32 := if psA b n i < n then cdA b n (psA b n i) else 0
def tkM (b : Nat → Nat) (n i : Nat) : Int32 := if psA b n i < n then amA b n (psA b n i) else 0
/-- whether it can stand so, the steps, the place among the tokens -/
abbrev PR : Type := Bool × (List Int32 × Nat)
def sq (r : PR) (k : Nat → PR) : PR := if r.1 = true then ((k r.2.2).1, (r.2.1 ++ (k r.2.2).2.1, (k r.2.2).2.2)) else r
def em (x : Int32) (k : Nat → PR) : Nat → PR := fun i => ((k i).1, (x :: (k i).2.1, (k i).2.2))
def oK : Nat → PR := fun i => (true, ([], i))
def nO : Nat → PR := fun i => (false, ([], i))
/-- 0 either, 1 both, 2 not, 3 a comparison, 4 a sum, 5 a term, 6 one; 7 or .., 8 and .., 9 + -, 10 * .. -/
def prs (T M : Nat → Int32) : Nat → Nat → Nat → Nat → PR
  | 0, _, _, i => nO i
  | f + 1, lv, o, i =>
    match lv with
    | 0 => sq (prs T M f 1 o i) (prs T M f 7 o)
    | 1 => sq (prs T M f 2 o i) (prs T M f 8 o)
    | 2 => if T i = 1011 then (if 5 ≤ o then nO i else sq (prs T M f 2 (o + 1) (i + 1)) (em (-11) oK)) else prs T M f 3 o i
    | 3 => sq (prs T M f 4 o i) (fun j => if T j = 60 then sq (prs T M f 4 o (j + 1)) (em (-23) oK) else if T j = 61 then sq (prs T M f 4 o (j + 1)) (em (-24) oK) else oK j)
    | 4 => sq (prs T M f 5 o i) (prs T M f 9 o)
    | 5 => sq (prs T M f 6 o i) (prs T M f 10 o)
    | 6 => if T i = 2 ∨ T i = 3 then (true, ([M i], i + 1)) else if T i = 40 then (if 5 ≤ o then nO i else sq (prs T M f 0 (o + 1) (i + 1)) (fun j => if T j = 41 then oK (j + 1) else nO j)) else if T i = 45 then (if 5 ≤ o then nO i else sq (prs T M f 6 (o + 1) (i + 1)) (em (-10) oK)) else nO i
    | 7 => if T i = 1009 then sq (prs T M f 1 o (i + 1)) (em (-26) (prs T M f 7 o)) else oK i
    | 8 => if T i = 1010 then sq (prs T M f 2 o (i + 1)) (em (-25) (prs T M f 8 o)) else oK i
    | 9 => if T i = 43 then sq (prs T M f 5 o (i + 1)) (em (-20) (prs T M f 9 o)) else if T i = 45 then sq (prs T M f 5 o (i + 1)) (em (-21) (prs T M f 9 o)) else oK i
    | _ => if T i = 42 then sq (prs T M f 6 o (i + 1)) (em (-22) (prs T M f 10 o)) else oK i
def pF : Nat := 4000
def ptS (T M : Nat → Int32) (key : Int32) (i : Nat) : PR := if T i = key then sq (prs T M pF 0 0 (i + 1)) (fun j => if T j = 59 then oK (j + 1) else nO j) else nO i
def tx0 (b : Nat → Nat) (n : Nat) : PR := ptS (tkC b n) (tkM b n) 1006 0
def tx1 (b : Nat → Nat) (n : Nat) : PR := ptS (tkC b n) (tkM b n) 1007 (tx0 b n).2.2
def tx2 (b : Nat → Nat) (n : Nat) : PR := ptS (tkC b n) (tkM b n) 1008 (tx1 b n).2.2
/-- the token that can't stand there, if there is one -/
def txF (b : Nat → Nat) (n : Nat) : Option Nat := if (tx0 b n).1 = false then some (tx0 b n).2.2 else if (tx1 b n).1 = false then some (tx1 b n).2.2 else if (tx2 b n).1 = false then some (tx2 b n).2.2 else if tkC b n (tx2 b n).2.2 = 0 then none else some (tx2 b n).2.2
def txW (b : Nat → Nat) (n w : Nat) : List Int32 := if w = 0 then (tx0 b n).2.1 else if w = 1 then (tx1 b n).2.1 else (tx2 b n).2.1
/-- the first n texts are written down, and tell B -/
def TXS (n : Nat) (Bs : Nat → BT) (I : HI) : Prop := ∀ t, t < n → ∃ (b : Nat → Nat) (z : Nat), z ≤ 160 ∧ (∀ i, i < z → b i < 256 ∧ I 21 0 0 (160 * t + i) = nI (b i)) ∧ I 22 0 0 t = nI z ∧ txF b z = none ∧ ∀ w, w < 3 → ∀ E, rpn E (txW b z w) [] = some [Bs t w E]
end X0
