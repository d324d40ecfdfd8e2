/-! ===== w: orders one after another ===== -/
def nx11 (d : Nat → Nat) : Nat → Option Nat
  | 0 => none
  | j + 1 => if d j ≤ d (j + 1) then some j else nx11 d j
def nx48 (d : Nat → Nat) (k : Nat) : Nat → Nat
  | 0 => 0
  | i + 1 => if d k ≤ d (i + 1) then i + 1 else nx48 d k i
def nsw (d : Nat → Nat) (a b : Nat) : Nat → Nat := fun k => if k = b then d a else if k = a then d b else d k
def nx85 : Nat → (Nat → Nat) → Nat → Nat → Nat → Nat
  | 0, d, _, _ => d
  | f + 1, d, a, b => if b ≤ a then d else nx85 f (nsw d a b) (a + 1) (b - 1)
def nxt (n : Nat) (d : Nat → Nat) : Option (Nat → Nat) := match nx11 d (n - 1) with
  | none => none
  | some k => some (nx85 7 (nsw d k (nx48 d k (n - 1))) (k + 1) (n - 1))
def ndl (us : List Nat) : Nat → Nat := fun k => us.getD k 0
def ntl (n : Nat) (d : Nat → Nat) : List Nat := (List.range n).map d
def nxl (n : Nat) (us : List Nat) : Option (List Nat) := (nxt n (ndl us)).map (ntl n)
def nchk (n : Nat) : List (List Nat) → Bool
  | [] => false
  | a :: l => match l with
    | [] => (nxl n a).isNone
    | b :: _ => (nxl n a == some b) && nchk n l
theorem nchk_all : ∀ n, n < 7 → nchk n (zC n n 0 []) = true ∧ (zC n n 0 []).head? = some (List.range n) ∧ (zC n n 0 []).length ≤ 5040 := by decide +kernel
theorem nchk_7 : nchk 7 (zC 7 7 0 []) = true := by decide +kernel
theorem nlen_7 : (zC 7 7 0 []).length = 5040 := by decide +kernel
theorem nhd_7 : (zC 7 7 0 []).head? = some (List.range 7) := by decide +kernel
theorem nchk_ok (n : Nat) (hn : n < 8) : nchk n (zC n n 0 []) = true ∧ (zC n n 0 []).head? = some (List.range n) ∧ (zC n n 0 []).length ≤ 5040 := by
  by_cases e : n < 7
  · exact nchk_all n e
  · have : n = 7 := by omega
    subst this
    exact ⟨nchk_7, nhd_7, Nat.le_of_eq nlen_7⟩
