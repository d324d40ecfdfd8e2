/-! ===== t: bytes and tokens ===== -/
theorem zK_bv {c : Nat} (hc : c < 4294967296) : (zN c).toBitVec.toNat = c := by
  show (BitVec.ofNat 32 c).toNat = c
  rw [BitVec.toNat_ofNat]
  exact Nat.mod_eq_of_lt hc
theorem zK {a b : Nat} (ha : a < 4294967296) (hb : b < 4294967296) : (zN a = zN b) = (a = b) :=
  propext ⟨fun h => by
    have h2 := congrArg (fun x : Int32 => x.toBitVec.toNat) h
    have h3 : (zN a).toBitVec.toNat = (zN b).toBitVec.toNat := h2
    rwa [zK_bv ha, zK_bv hb] at h3, fun h => by rw [h]⟩
theorem zKE : zN 4294967295 = zM := by decide
/-- the end of a run of bytes from lo to hi -/
def tzr (b : Nat → Nat) (n lo hi : Nat) : Nat → Nat → Nat
  | 0, k => k
  | f + 1, k => if k < n ∧ lo ≤ b k ∧ b k ≤ hi then tzr b n lo hi f (k + 1) else k
def tze (b : Nat → Nat) (n lo hi k : Nat) : Nat := tzr b n lo hi (n - k) k
section TA
variable {b : Nat → Nat} {n lo hi : Nat}
theorem tze_y {k : Nat} (h : k < n ∧ lo ≤ b k ∧ b k ≤ hi) : tze b n lo hi k = tze b n lo hi (k + 1) := by
  obtain ⟨f, hf⟩ : ∃ f, n - k = f + 1 := ⟨n - k - 1, by omega⟩
  unfold tze
  rw [hf, show n - (k + 1) = f by omega]
  show (if k < n ∧ lo ≤ b k ∧ b k ≤ hi then tzr b n lo hi f (k + 1) else k) = _
  rw [if_pos h]
theorem tze_n {k : Nat} (h : ¬ (k < n ∧ lo ≤ b k ∧ b k ≤ hi)) : tze b n lo hi k = k := by
  unfold tze
  cases hf : n - k with
  | zero => rfl
  | succ f =>
    show (if k < n ∧ lo ≤ b k ∧ b k ≤ hi then tzr b n lo hi f (k + 1) else k) = _
    rw [if_neg h]
theorem tze_sp : ∀ (f k : Nat), n - k = f → k ≤ tze b n lo hi k ∧ (k ≤ n → tze b n lo hi k ≤ n) ∧ (∀ j, k ≤ j → j < tze b n lo hi k → j < n ∧ lo ≤ b j ∧ b j ≤ hi) ∧ ¬ (tze b n lo hi k < n ∧ lo ≤ b (tze b n lo hi k) ∧ b (tze b n lo hi k) ≤ hi) := by
  intro f
  induction f with
  | zero =>
    intro k hk
    have hn : ¬ (k < n ∧ lo ≤ b k ∧ b k ≤ hi) := by omega
    rw [tze_n hn]
    exact ⟨Nat.le_refl _, fun h => h, fun j h1 h2 => by omega, hn⟩
  | succ f ih =>
    intro k hk
    by_cases h : k < n ∧ lo ≤ b k ∧ b k ≤ hi
    · rw [tze_y h]
      obtain ⟨h1, h2, h3, h4⟩ := ih (k + 1) (by omega)
      refine ⟨by omega, fun _ => h2 (by omega), fun j q1 q2 => ?_, h4⟩
      by_cases e : j = k
      · rw [e]; exact h
      · exact h3 j (by omega) q2
    · rw [tze_n h]
      exact ⟨Nat.le_refl _, fun h => h, fun j h1 h2 => by omega, h⟩
theorem tze_ge (k : Nat) : k ≤ tze b n lo hi k := (tze_sp _ k rfl).1
theorem tze_le {k : Nat} (h : k ≤ n) : tze b n lo hi k ≤ n := (tze_sp _ k rfl).2.1 h
theorem tze_gt {k : Nat} (h : k < n ∧ lo ≤ b k ∧ b k ≤ hi) : k < tze b n lo hi k := by
  rw [tze_y h]; exact tze_ge (k + 1)
end TA
/-- 1: a letter stands there -/
def tzL (b : Nat → Nat) (n k : Nat) : Nat := if k < n ∧ (97 ≤ b k ∧ b k ≤ 122 ∨ 65 ≤ b k ∧ b k ≤ 90) then 1 else 0
/-- the kind of a word -/
def tzw (b : Nat → Nat) (p e : Nat) : Nat :=
  if e = p + 4 ∧ b p = 117 ∧ b (p + 1) = 110 ∧ b (p + 2) = 105 ∧ b (p + 3) = 116 then 260
  else if e = p + 4 ∧ b p = 109 ∧ b (p + 1) = 97 ∧ b (p + 2) = 105 ∧ b (p + 3) = 110 then 261
  else if e = p + 5 ∧ b p = 99 ∧ b (p + 1) = 111 ∧ b (p + 2) = 110 ∧ b (p + 3) = 115 ∧ b (p + 4) = 116 then 262
  else if e = p + 3 ∧ b p = 118 ∧ b (p + 1) = 97 ∧ b (p + 2) = 114 then 263
  else if e = p + 2 ∧ b p = 100 ∧ b (p + 1) = 111 then 264
  else if e = p + 3 ∧ b p = 102 ∧ b (p + 1) = 117 ∧ b (p + 2) = 110 then 265
  else if e = p + 4 ∧ b p = 103 ∧ b (p + 1) = 105 ∧ b (p + 2) = 118 ∧ b (p + 3) = 101 then 266
  else if e = p + 4 ∧ b p = 102 ∧ b (p + 1) = 97 ∧ b (p + 2) = 105 ∧ b (p + 3) = 108 then 267 else 256
/-- the kind of the token at p -/
def tzk (b : Nat → Nat) (n p : Nat) : Nat :=
  if n ≤ p then 4294967295 else if 48 ≤ b p ∧ b p ≤ 57 then 259
  else if 97 ≤ b p ∧ b p ≤ 122 then (if p + 1 < tze b n 97 122 p then tzw b p (tze b n 97 122 p) else if tzL b n (p + 1) = 1 then 256 else 258)
  else if 65 ≤ b p ∧ b p ≤ 90 then (if b p ≤ 71 ∧ tzL b n (p + 1) = 0 then 257 else 256) else b p
/-- where it ends -/
def tzn (b : Nat → Nat) (n p : Nat) : Nat := if 48 ≤ b p ∧ b p ≤ 57 then tze b n 48 57 p else if 97 ≤ b p ∧ b p ≤ 122 then tze b n 97 122 p else p + 1
/-- the number that digits tell, 1000 at most -/
def tzd (b : Nat → Nat) (n : Nat) : Nat → Nat → Nat → Nat
  | 0, _, v => v
  | f + 1, k, v => if k < n ∧ 48 ≤ b k ∧ b k ≤ 57 then tzd b n f (k + 1) (min (v * 10 + b k - 48) 1000) else v
def tzq (b : Nat → Nat) (n p : Nat) : Nat := if 48 ≤ b p ∧ b p ≤ 57 then tzd b n (n - p) p 0 else if 97 ≤ b p ∧ b p ≤ 122 then b p - 97 else b p - 65
/-- behind blanks -/
def tzb (b : Nat → Nat) (n k : Nat) : Nat := tze b n 32 32 k
/-- where token i begins -/
def tzp (b : Nat → Nat) (n : Nat) : Nat → Nat
  | 0 => tzb b n 0
  | i + 1 => tzb b n (tzn b n (tzp b n i))
/-- ahead of token i the text doesn't end -/
def tzo (b : Nat → Nat) (n i : Nat) : Prop := ∀ j, j < i → tzp b n j < n
/-- a word stands at p, as a whole -/
def tzM (b : Nat → Nat) (n : Nat) : List Nat → Nat → Prop
  | [], p => ¬ (p < n ∧ 97 ≤ b p ∧ b p ≤ 122)
  | c :: w, p => p < n ∧ b p = c ∧ tzM b n w (p + 1)
def tzm (b : Nat → Nat) : List Nat → Nat → Prop
  | [], _ => True
  | c :: w, p => b p = c ∧ tzm b w (p + 1)
section TB
variable {b : Nat → Nat} {n : Nat}
theorem tzL_le (k : Nat) : tzL b n k ≤ 1 := by unfold tzL; split <;> omega
theorem tzL_0 {k : Nat} (h : tzL b n k = 0) : ¬ (k < n ∧ (97 ≤ b k ∧ b k ≤ 122 ∨ 65 ≤ b k ∧ b k ≤ 90)) := by
  unfold tzL at h
  intro q
  rw [if_pos q] at h
  omega
theorem tzL_1 {k : Nat} (h : ¬ tzL b n k = 0) : k < n ∧ (97 ≤ b k ∧ b k ≤ 122 ∨ 65 ≤ b k ∧ b k ≤ 90) := by
  unfold tzL at h
  by_cases q : k < n ∧ (97 ≤ b k ∧ b k ≤ 122 ∨ 65 ≤ b k ∧ b k ≤ 90)
  · exact q
  · rw [if_neg q] at h
    exact absurd rfl h
theorem tzw_rg (p e : Nat) : 256 ≤ tzw b p e ∧ tzw b p e ≤ 267 := by
  unfold tzw
  repeat' split
  all_goals omega
theorem tzk_lt (hb : ∀ k, k < n → b k < 256) (p : Nat) : tzk b n p < 4294967296 := by
  have hw := tzw_rg (b := b) p (tze b n 97 122 p)
  have hp := hb p
  unfold tzk
  repeat' split
  all_goals omega
theorem tzk_300 (hb : ∀ k, k < n → b k < 256) {p : Nat} (h : p < n) : tzk b n p < 300 := by
  have hw := tzw_rg (b := b) p (tze b n 97 122 p)
  have hp := hb p h
  unfold tzk
  repeat' split
  all_goals omega
theorem tzk_E {p : Nat} (h : n ≤ p) : tzk b n p = 4294967295 := if_pos h
theorem tzk_sg (hb : ∀ k, k < n → b k < 256) {c p : Nat} (hc : c < 48 ∨ 57 < c ∧ c < 65 ∨ 90 < c ∧ c < 97 ∨ 122 < c ∧ c < 256) : tzk b n p = c ↔ p < n ∧ b p = c := by
  have hw := tzw_rg (b := b) p (tze b n 97 122 p)
  have hp := hb p
  unfold tzk
  repeat' split
  all_goals omega
theorem tzk_ca (hb : ∀ k, k < n → b k < 256) {p : Nat} : tzk b n p = 257 ↔ p < n ∧ 65 ≤ b p ∧ b p ≤ 71 ∧ tzL b n (p + 1) = 0 := by
  have hw := tzw_rg (b := b) p (tze b n 97 122 p)
  have hw7 : tzw b p (tze b n 97 122 p) ≠ 257 := by
    unfold tzw
    repeat' split
    all_goals omega
  have hp := hb p
  unfold tzk
  repeat' split
  all_goals omega
theorem tzk_sm (hb : ∀ k, k < n → b k < 256) {p : Nat} : tzk b n p = 258 ↔ p < n ∧ 97 ≤ b p ∧ b p ≤ 122 ∧ tzL b n (p + 1) = 0 := by
  have hw7 : tzw b p (tze b n 97 122 p) ≠ 258 := by
    unfold tzw
    repeat' split
    all_goals omega
  have hp := hb p
  have hL := tzL_le (b := b) (n := n) (p + 1)
  have h1 : p < n → 97 ≤ b p → b p ≤ 122 → tzL b n (p + 1) = 0 → tze b n 97 122 p = p + 1 := fun q1 q2 q3 q4 => by
    rw [tze_y ⟨q1, q2, q3⟩]
    have := tzL_0 q4
    exact tze_n (by omega)
  unfold tzk
  repeat' split
  all_goals omega
theorem tzk_dg (hb : ∀ k, k < n → b k < 256) {p : Nat} : tzk b n p = 259 ↔ p < n ∧ 48 ≤ b p ∧ b p ≤ 57 := by
  have hw7 : tzw b p (tze b n 97 122 p) ≠ 259 := by
    unfold tzw
    repeat' split
    all_goals omega
  have hp := hb p
  unfold tzk
  repeat' split
  all_goals omega
theorem tzM_m : ∀ (w : List Nat) (p : Nat), (∀ c ∈ w, 97 ≤ c ∧ c ≤ 122) → (tzM b n w p ↔ tze b n 97 122 p = p + w.length ∧ tzm b w p)
  | [], p, _ => by
    show ¬ _ ↔ tze b n 97 122 p = p + 0 ∧ True
    constructor
    · intro h
      exact ⟨tze_n h, trivial⟩
    · intro h
      have := (tze_sp (b := b) (n := n) (lo := 97) (hi := 122) _ p rfl).2.2.2
      rw [h.1] at this
      exact this
  | c :: w, p, hc => by
    have ih := tzM_m w (p + 1) (fun c q => hc c (List.mem_cons_of_mem _ q))
    have h0 := hc c (List.mem_cons_self ..)
    show (p < n ∧ b p = c ∧ tzM b n w (p + 1)) ↔ tze b n 97 122 p = p + (w.length + 1) ∧ b p = c ∧ tzm b w (p + 1)
    constructor
    · intro h
      obtain ⟨q1, q2⟩ := ih.1 h.2.2
      exact ⟨by rw [tze_y ⟨h.1, by omega, by omega⟩, q1]; omega, h.2.1, q2⟩
    · intro h
      have hq := (tze_sp (b := b) (n := n) (lo := 97) (hi := 122) _ p rfl).2.2.1 p (Nat.le_refl _) (by omega)
      exact ⟨hq.1, h.2.1, ih.2 ⟨by have := h.1; rw [tze_y hq] at this; omega, h.2.2⟩⟩
/-- the eight words -/
def tzW : Nat → List Nat
  | 0 => [117, 110, 105, 116]
  | 1 => [109, 97, 105, 110]
  | 2 => [99, 111, 110, 115, 116]
  | 3 => [118, 97, 114]
  | 4 => [100, 111]
  | 5 => [102, 117, 110]
  | 6 => [103, 105, 118, 101]
  | _ => [102, 97, 105, 108]
theorem tzW_sm (j : Nat) : ∀ c ∈ tzW j, 97 ≤ c ∧ c ≤ 122 := by
  unfold tzW
  split <;> simp
theorem tzw_0 {p e : Nat} : tzw b p e = 260 ↔ e = p + 4 ∧ b p = 117 ∧ b (p + 1) = 110 ∧ b (p + 2) = 105 ∧ b (p + 3) = 116 := by
  unfold tzw
  constructor
  · intro hk
    by_cases h0 : e = p + 4 ∧ b p = 117 ∧ b (p + 1) = 110 ∧ b (p + 2) = 105 ∧ b (p + 3) = 116
    · rw [if_pos h0] at hk; exact h0
    rw [if_neg h0] at hk
    by_cases h1 : e = p + 4 ∧ b p = 109 ∧ b (p + 1) = 97 ∧ b (p + 2) = 105 ∧ b (p + 3) = 110
    · rw [if_pos h1] at hk; omega
    rw [if_neg h1] at hk
    by_cases h2 : e = p + 5 ∧ b p = 99 ∧ b (p + 1) = 111 ∧ b (p + 2) = 110 ∧ b (p + 3) = 115 ∧ b (p + 4) = 116
    · rw [if_pos h2] at hk; omega
    rw [if_neg h2] at hk
    by_cases h3 : e = p + 3 ∧ b p = 118 ∧ b (p + 1) = 97 ∧ b (p + 2) = 114
    · rw [if_pos h3] at hk; omega
    rw [if_neg h3] at hk
    by_cases h4 : e = p + 2 ∧ b p = 100 ∧ b (p + 1) = 111
    · rw [if_pos h4] at hk; omega
    rw [if_neg h4] at hk
    by_cases h5 : e = p + 3 ∧ b p = 102 ∧ b (p + 1) = 117 ∧ b (p + 2) = 110
    · rw [if_pos h5] at hk; omega
    rw [if_neg h5] at hk
    by_cases h6 : e = p + 4 ∧ b p = 103 ∧ b (p + 1) = 105 ∧ b (p + 2) = 118 ∧ b (p + 3) = 101
    · rw [if_pos h6] at hk; omega
    rw [if_neg h6] at hk
    by_cases h7 : e = p + 4 ∧ b p = 102 ∧ b (p + 1) = 97 ∧ b (p + 2) = 105 ∧ b (p + 3) = 108
    · rw [if_pos h7] at hk; omega
    rw [if_neg h7] at hk
    omega
  · intro hk
    rw [if_pos hk]
theorem tzw_1 {p e : Nat} : tzw b p e = 261 ↔ e = p + 4 ∧ b p = 109 ∧ b (p + 1) = 97 ∧ b (p + 2) = 105 ∧ b (p + 3) = 110 := by
  unfold tzw
  constructor
  · intro hk
    by_cases h0 : e = p + 4 ∧ b p = 117 ∧ b (p + 1) = 110 ∧ b (p + 2) = 105 ∧ b (p + 3) = 116
    · rw [if_pos h0] at hk; omega
    rw [if_neg h0] at hk
    by_cases h1 : e = p + 4 ∧ b p = 109 ∧ b (p + 1) = 97 ∧ b (p + 2) = 105 ∧ b (p + 3) = 110
    · rw [if_pos h1] at hk; exact h1
    rw [if_neg h1] at hk
    by_cases h2 : e = p + 5 ∧ b p = 99 ∧ b (p + 1) = 111 ∧ b (p + 2) = 110 ∧ b (p + 3) = 115 ∧ b (p + 4) = 116
    · rw [if_pos h2] at hk; omega
    rw [if_neg h2] at hk
    by_cases h3 : e = p + 3 ∧ b p = 118 ∧ b (p + 1) = 97 ∧ b (p + 2) = 114
    · rw [if_pos h3] at hk; omega
    rw [if_neg h3] at hk
    by_cases h4 : e = p + 2 ∧ b p = 100 ∧ b (p + 1) = 111
    · rw [if_pos h4] at hk; omega
    rw [if_neg h4] at hk
    by_cases h5 : e = p + 3 ∧ b p = 102 ∧ b (p + 1) = 117 ∧ b (p + 2) = 110
    · rw [if_pos h5] at hk; omega
    rw [if_neg h5] at hk
    by_cases h6 : e = p + 4 ∧ b p = 103 ∧ b (p + 1) = 105 ∧ b (p + 2) = 118 ∧ b (p + 3) = 101
    · rw [if_pos h6] at hk; omega
    rw [if_neg h6] at hk
    by_cases h7 : e = p + 4 ∧ b p = 102 ∧ b (p + 1) = 97 ∧ b (p + 2) = 105 ∧ b (p + 3) = 108
    · rw [if_pos h7] at hk; omega
    rw [if_neg h7] at hk
    omega
  · intro hk
    rw [if_neg (show ¬ (e = p + 4 ∧ b p = 117 ∧ b (p + 1) = 110 ∧ b (p + 2) = 105 ∧ b (p + 3) = 116) by omega), if_pos hk]
theorem tzw_2 {p e : Nat} : tzw b p e = 262 ↔ e = p + 5 ∧ b p = 99 ∧ b (p + 1) = 111 ∧ b (p + 2) = 110 ∧ b (p + 3) = 115 ∧ b (p + 4) = 116 := by
  unfold tzw
  constructor
  · intro hk
    by_cases h0 : e = p + 4 ∧ b p = 117 ∧ b (p + 1) = 110 ∧ b (p + 2) = 105 ∧ b (p + 3) = 116
    · rw [if_pos h0] at hk; omega
    rw [if_neg h0] at hk
    by_cases h1 : e = p + 4 ∧ b p = 109 ∧ b (p + 1) = 97 ∧ b (p + 2) = 105 ∧ b (p + 3) = 110
    · rw [if_pos h1] at hk; omega
    rw [if_neg h1] at hk
    by_cases h2 : e = p + 5 ∧ b p = 99 ∧ b (p + 1) = 111 ∧ b (p + 2) = 110 ∧ b (p + 3) = 115 ∧ b (p + 4) = 116
    · rw [if_pos h2] at hk; exact h2
    rw [if_neg h2] at hk
    by_cases h3 : e = p + 3 ∧ b p = 118 ∧ b (p + 1) = 97 ∧ b (p + 2) = 114
    · rw [if_pos h3] at hk; omega
    rw [if_neg h3] at hk
    by_cases h4 : e = p + 2 ∧ b p = 100 ∧ b (p + 1) = 111
    · rw [if_pos h4] at hk; omega
    rw [if_neg h4] at hk
    by_cases h5 : e = p + 3 ∧ b p = 102 ∧ b (p + 1) = 117 ∧ b (p + 2) = 110
    · rw [if_pos h5] at hk; omega
    rw [if_neg h5] at hk
    by_cases h6 : e = p + 4 ∧ b p = 103 ∧ b (p + 1) = 105 ∧ b (p + 2) = 118 ∧ b (p + 3) = 101
    · rw [if_pos h6] at hk; omega
    rw [if_neg h6] at hk
    by_cases h7 : e = p + 4 ∧ b p = 102 ∧ b (p + 1) = 97 ∧ b (p + 2) = 105 ∧ b (p + 3) = 108
    · rw [if_pos h7] at hk; omega
    rw [if_neg h7] at hk
    omega
  · intro hk
    rw [if_neg (show ¬ (e = p + 4 ∧ b p = 117 ∧ b (p + 1) = 110 ∧ b (p + 2) = 105 ∧ b (p + 3) = 116) by omega), if_neg (show ¬ (e = p + 4 ∧ b p = 109 ∧ b (p + 1) = 97 ∧ b (p + 2) = 105 ∧ b (p + 3) = 110) by omega), if_pos hk]
theorem tzw_3 {p e : Nat} : tzw b p e = 263 ↔ e = p + 3 ∧ b p = 118 ∧ b (p + 1) = 97 ∧ b (p + 2) = 114 := by
  unfold tzw
  constructor
  · intro hk
    by_cases h0 : e = p + 4 ∧ b p = 117 ∧ b (p + 1) = 110 ∧ b (p + 2) = 105 ∧ b (p + 3) = 116
    · rw [if_pos h0] at hk; omega
    rw [if_neg h0] at hk
    by_cases h1 : e = p + 4 ∧ b p = 109 ∧ b (p + 1) = 97 ∧ b (p + 2) = 105 ∧ b (p + 3) = 110
    · rw [if_pos h1] at hk; omega
    rw [if_neg h1] at hk
    by_cases h2 : e = p + 5 ∧ b p = 99 ∧ b (p + 1) = 111 ∧ b (p + 2) = 110 ∧ b (p + 3) = 115 ∧ b (p + 4) = 116
    · rw [if_pos h2] at hk; omega
    rw [if_neg h2] at hk
    by_cases h3 : e = p + 3 ∧ b p = 118 ∧ b (p + 1) = 97 ∧ b (p + 2) = 114
    · rw [if_pos h3] at hk; exact h3
    rw [if_neg h3] at hk
    by_cases h4 : e = p + 2 ∧ b p = 100 ∧ b (p + 1) = 111
    · rw [if_pos h4] at hk; omega
    rw [if_neg h4] at hk
    by_cases h5 : e = p + 3 ∧ b p = 102 ∧ b (p + 1) = 117 ∧ b (p + 2) = 110
    · rw [if_pos h5] at hk; omega
    rw [if_neg h5] at hk
    by_cases h6 : e = p + 4 ∧ b p = 103 ∧ b (p + 1) = 105 ∧ b (p + 2) = 118 ∧ b (p + 3) = 101
    · rw [if_pos h6] at hk; omega
    rw [if_neg h6] at hk
    by_cases h7 : e = p + 4 ∧ b p = 102 ∧ b (p + 1) = 97 ∧ b (p + 2) = 105 ∧ b (p + 3) = 108
    · rw [if_pos h7] at hk; omega
    rw [if_neg h7] at hk
    omega
  · intro hk
    rw [if_neg (show ¬ (e = p + 4 ∧ b p = 117 ∧ b (p + 1) = 110 ∧ b (p + 2) = 105 ∧ b (p + 3) = 116) by omega), if_neg (show ¬ (e = p + 4 ∧ b p = 109 ∧ b (p + 1) = 97 ∧ b (p + 2) = 105 ∧ b (p + 3) = 110) by omega), if_neg (show ¬ (e = p + 5 ∧ b p = 99 ∧ b (p + 1) = 111 ∧ b (p + 2) = 110 ∧ b (p + 3) = 115 ∧ b (p + 4) = 116) by omega), if_pos hk]
theorem tzw_4 {p e : Nat} : tzw b p e = 264 ↔ e = p + 2 ∧ b p = 100 ∧ b (p + 1) = 111 := by
  unfold tzw
  constructor
  · intro hk
    by_cases h0 : e = p + 4 ∧ b p = 117 ∧ b (p + 1) = 110 ∧ b (p + 2) = 105 ∧ b (p + 3) = 116
    · rw [if_pos h0] at hk; omega
    rw [if_neg h0] at hk
    by_cases h1 : e = p + 4 ∧ b p = 109 ∧ b (p + 1) = 97 ∧ b (p + 2) = 105 ∧ b (p + 3) = 110
    · rw [if_pos h1] at hk; omega
    rw [if_neg h1] at hk
    by_cases h2 : e = p + 5 ∧ b p = 99 ∧ b (p + 1) = 111 ∧ b (p + 2) = 110 ∧ b (p + 3) = 115 ∧ b (p + 4) = 116
    · rw [if_pos h2] at hk; omega
    rw [if_neg h2] at hk
    by_cases h3 : e = p + 3 ∧ b p = 118 ∧ b (p + 1) = 97 ∧ b (p + 2) = 114
    · rw [if_pos h3] at hk; omega
    rw [if_neg h3] at hk
    by_cases h4 : e = p + 2 ∧ b p = 100 ∧ b (p + 1) = 111
    · rw [if_pos h4] at hk; exact h4
    rw [if_neg h4] at hk
    by_cases h5 : e = p + 3 ∧ b p = 102 ∧ b (p + 1) = 117 ∧ b (p + 2) = 110
    · rw [if_pos h5] at hk; omega
    rw [if_neg h5] at hk
    by_cases h6 : e = p + 4 ∧ b p = 103 ∧ b (p + 1) = 105 ∧ b (p + 2) = 118 ∧ b (p + 3) = 101
    · rw [if_pos h6] at hk; omega
    rw [if_neg h6] at hk
    by_cases h7 : e = p + 4 ∧ b p = 102 ∧ b (p + 1) = 97 ∧ b (p + 2) = 105 ∧ b (p + 3) = 108
    · rw [if_pos h7] at hk; omega
    rw [if_neg h7] at hk
    omega
  · intro hk
    rw [if_neg (show ¬ (e = p + 4 ∧ b p = 117 ∧ b (p + 1) = 110 ∧ b (p + 2) = 105 ∧ b (p + 3) = 116) by omega), if_neg (show ¬ (e = p + 4 ∧ b p = 109 ∧ b (p + 1) = 97 ∧ b (p + 2) = 105 ∧ b (p + 3) = 110) by omega), if_neg (show ¬ (e = p + 5 ∧ b p = 99 ∧ b (p + 1) = 111 ∧ b (p + 2) = 110 ∧ b (p + 3) = 115 ∧ b (p + 4) = 116) by omega), if_neg (show ¬ (e = p + 3 ∧ b p = 118 ∧ b (p + 1) = 97 ∧ b (p + 2) = 114) by omega), if_pos hk]
theorem tzw_5 {p e : Nat} : tzw b p e = 265 ↔ e = p + 3 ∧ b p = 102 ∧ b (p + 1) = 117 ∧ b (p + 2) = 110 := by
  unfold tzw
  constructor
  · intro hk
    by_cases h0 : e = p + 4 ∧ b p = 117 ∧ b (p + 1) = 110 ∧ b (p + 2) = 105 ∧ b (p + 3) = 116
    · rw [if_pos h0] at hk; omega
    rw [if_neg h0] at hk
    by_cases h1 : e = p + 4 ∧ b p = 109 ∧ b (p + 1) = 97 ∧ b (p + 2) = 105 ∧ b (p + 3) = 110
    · rw [if_pos h1] at hk; omega
    rw [if_neg h1] at hk
    by_cases h2 : e = p + 5 ∧ b p = 99 ∧ b (p + 1) = 111 ∧ b (p + 2) = 110 ∧ b (p + 3) = 115 ∧ b (p + 4) = 116
    · rw [if_pos h2] at hk; omega
    rw [if_neg h2] at hk
    by_cases h3 : e = p + 3 ∧ b p = 118 ∧ b (p + 1) = 97 ∧ b (p + 2) = 114
    · rw [if_pos h3] at hk; omega
    rw [if_neg h3] at hk
    by_cases h4 : e = p + 2 ∧ b p = 100 ∧ b (p + 1) = 111
    · rw [if_pos h4] at hk; omega
    rw [if_neg h4] at hk
    by_cases h5 : e = p + 3 ∧ b p = 102 ∧ b (p + 1) = 117 ∧ b (p + 2) = 110
    · rw [if_pos h5] at hk; exact h5
    rw [if_neg h5] at hk
    by_cases h6 : e = p + 4 ∧ b p = 103 ∧ b (p + 1) = 105 ∧ b (p + 2) = 118 ∧ b (p + 3) = 101
    · rw [if_pos h6] at hk; omega
    rw [if_neg h6] at hk
    by_cases h7 : e = p + 4 ∧ b p = 102 ∧ b (p + 1) = 97 ∧ b (p + 2) = 105 ∧ b (p + 3) = 108
    · rw [if_pos h7] at hk; omega
    rw [if_neg h7] at hk
    omega
  · intro hk
    rw [if_neg (show ¬ (e = p + 4 ∧ b p = 117 ∧ b (p + 1) = 110 ∧ b (p + 2) = 105 ∧ b (p + 3) = 116) by omega), if_neg (show ¬ (e = p + 4 ∧ b p = 109 ∧ b (p + 1) = 97 ∧ b (p + 2) = 105 ∧ b (p + 3) = 110) by omega), if_neg (show ¬ (e = p + 5 ∧ b p = 99 ∧ b (p + 1) = 111 ∧ b (p + 2) = 110 ∧ b (p + 3) = 115 ∧ b (p + 4) = 116) by omega), if_neg (show ¬ (e = p + 3 ∧ b p = 118 ∧ b (p + 1) = 97 ∧ b (p + 2) = 114) by omega), if_neg (show ¬ (e = p + 2 ∧ b p = 100 ∧ b (p + 1) = 111) by omega), if_pos hk]
theorem tzw_6 {p e : Nat} : tzw b p e = 266 ↔ e = p + 4 ∧ b p = 103 ∧ b (p + 1) = 105 ∧ b (p + 2) = 118 ∧ b (p + 3) = 101 := by
  unfold tzw
  constructor
  · intro hk
    by_cases h0 : e = p + 4 ∧ b p = 117 ∧ b (p + 1) = 110 ∧ b (p + 2) = 105 ∧ b (p + 3) = 116
    · rw [if_pos h0] at hk; omega
    rw [if_neg h0] at hk
    by_cases h1 : e = p + 4 ∧ b p = 109 ∧ b (p + 1) = 97 ∧ b (p + 2) = 105 ∧ b (p + 3) = 110
    · rw [if_pos h1] at hk; omega
    rw [if_neg h1] at hk
    by_cases h2 : e = p + 5 ∧ b p = 99 ∧ b (p + 1) = 111 ∧ b (p + 2) = 110 ∧ b (p + 3) = 115 ∧ b (p + 4) = 116
    · rw [if_pos h2] at hk; omega
    rw [if_neg h2] at hk
    by_cases h3 : e = p + 3 ∧ b p = 118 ∧ b (p + 1) = 97 ∧ b (p + 2) = 114
    · rw [if_pos h3] at hk; omega
    rw [if_neg h3] at hk
    by_cases h4 : e = p + 2 ∧ b p = 100 ∧ b (p + 1) = 111
    · rw [if_pos h4] at hk; omega
    rw [if_neg h4] at hk
    by_cases h5 : e = p + 3 ∧ b p = 102 ∧ b (p + 1) = 117 ∧ b (p + 2) = 110
    · rw [if_pos h5] at hk; omega
    rw [if_neg h5] at hk
    by_cases h6 : e = p + 4 ∧ b p = 103 ∧ b (p + 1) = 105 ∧ b (p + 2) = 118 ∧ b (p + 3) = 101
    · rw [if_pos h6] at hk; exact h6
    rw [if_neg h6] at hk
    by_cases h7 : e = p + 4 ∧ b p = 102 ∧ b (p + 1) = 97 ∧ b (p + 2) = 105 ∧ b (p + 3) = 108
    · rw [if_pos h7] at hk; omega
    rw [if_neg h7] at hk
    omega
  · intro hk
    rw [if_neg (show ¬ (e = p + 4 ∧ b p = 117 ∧ b (p + 1) = 110 ∧ b (p + 2) = 105 ∧ b (p + 3) = 116) by omega), if_neg (show ¬ (e = p + 4 ∧ b p = 109 ∧ b (p + 1) = 97 ∧ b (p + 2) = 105 ∧ b (p + 3) = 110) by omega), if_neg (show ¬ (e = p + 5 ∧ b p = 99 ∧ b (p + 1) = 111 ∧ b (p + 2) = 110 ∧ b (p + 3) = 115 ∧ b (p + 4) = 116) by omega), if_neg (show ¬ (e = p + 3 ∧ b p = 118 ∧ b (p + 1) = 97 ∧ b (p + 2) = 114) by omega), if_neg (show ¬ (e = p + 2 ∧ b p = 100 ∧ b (p + 1) = 111) by omega), if_neg (show ¬ (e = p + 3 ∧ b p = 102 ∧ b (p + 1) = 117 ∧ b (p + 2) = 110) by omega), if_pos hk]
theorem tzw_7 {p e : Nat} : tzw b p e = 267 ↔ e = p + 4 ∧ b p = 102 ∧ b (p + 1) = 97 ∧ b (p + 2) = 105 ∧ b (p + 3) = 108 := by
  unfold tzw
  constructor
  · intro hk
    by_cases h0 : e = p + 4 ∧ b p = 117 ∧ b (p + 1) = 110 ∧ b (p + 2) = 105 ∧ b (p + 3) = 116
    · rw [if_pos h0] at hk; omega
    rw [if_neg h0] at hk
    by_cases h1 : e = p + 4 ∧ b p = 109 ∧ b (p + 1) = 97 ∧ b (p + 2) = 105 ∧ b (p + 3) = 110
    · rw [if_pos h1] at hk; omega
    rw [if_neg h1] at hk
    by_cases h2 : e = p + 5 ∧ b p = 99 ∧ b (p + 1) = 111 ∧ b (p + 2) = 110 ∧ b (p + 3) = 115 ∧ b (p + 4) = 116
    · rw [if_pos h2] at hk; omega
    rw [if_neg h2] at hk
    by_cases h3 : e = p + 3 ∧ b p = 118 ∧ b (p + 1) = 97 ∧ b (p + 2) = 114
    · rw [if_pos h3] at hk; omega
    rw [if_neg h3] at hk
    by_cases h4 : e = p + 2 ∧ b p = 100 ∧ b (p + 1) = 111
    · rw [if_pos h4] at hk; omega
    rw [if_neg h4] at hk
    by_cases h5 : e = p + 3 ∧ b p = 102 ∧ b (p + 1) = 117 ∧ b (p + 2) = 110
    · rw [if_pos h5] at hk; omega
    rw [if_neg h5] at hk
    by_cases h6 : e = p + 4 ∧ b p = 103 ∧ b (p + 1) = 105 ∧ b (p + 2) = 118 ∧ b (p + 3) = 101
    · rw [if_pos h6] at hk; omega
    rw [if_neg h6] at hk
    by_cases h7 : e = p + 4 ∧ b p = 102 ∧ b (p + 1) = 97 ∧ b (p + 2) = 105 ∧ b (p + 3) = 108
    · rw [if_pos h7] at hk; exact h7
    rw [if_neg h7] at hk
    omega
  · intro hk
    rw [if_neg (show ¬ (e = p + 4 ∧ b p = 117 ∧ b (p + 1) = 110 ∧ b (p + 2) = 105 ∧ b (p + 3) = 116) by omega), if_neg (show ¬ (e = p + 4 ∧ b p = 109 ∧ b (p + 1) = 97 ∧ b (p + 2) = 105 ∧ b (p + 3) = 110) by omega), if_neg (show ¬ (e = p + 5 ∧ b p = 99 ∧ b (p + 1) = 111 ∧ b (p + 2) = 110 ∧ b (p + 3) = 115 ∧ b (p + 4) = 116) by omega), if_neg (show ¬ (e = p + 3 ∧ b p = 118 ∧ b (p + 1) = 97 ∧ b (p + 2) = 114) by omega), if_neg (show ¬ (e = p + 2 ∧ b p = 100 ∧ b (p + 1) = 111) by omega), if_neg (show ¬ (e = p + 3 ∧ b p = 102 ∧ b (p + 1) = 117 ∧ b (p + 2) = 110) by omega), if_neg (show ¬ (e = p + 4 ∧ b p = 103 ∧ b (p + 1) = 105 ∧ b (p + 2) = 118 ∧ b (p + 3) = 101) by omega), if_pos hk]
theorem tzw_j {p e j : Nat} (hj : j < 8) : tzw b p e = 260 + j ↔ e = p + (tzW j).length ∧ tzm b (tzW j) p := by
  have hj' : j = 0 ∨ j = 1 ∨ j = 2 ∨ j = 3 ∨ j = 4 ∨ j = 5 ∨ j = 6 ∨ j = 7 := by omega
  rcases hj' with rfl | rfl | rfl | rfl | rfl | rfl | rfl | rfl
  all_goals simp only [tzW, tzm, List.length_cons, List.length_nil, and_true, Nat.add_assoc, Nat.reduceAdd]
  · exact tzw_0
  · exact tzw_1
  · exact tzw_2
  · exact tzw_3
  · exact tzw_4
  · exact tzw_5
  · exact tzw_6
  · exact tzw_7
theorem tzW_l2 (j : Nat) : 2 ≤ (tzW j).length := by
  unfold tzW
  split <;> decide
theorem tzk_wd (hb : ∀ k, k < n → b k < 256) {p j : Nat} (hj : j < 8) : tzk b n p = 260 + j ↔ tzM b n (tzW j) p := by
  rw [tzM_m _ _ (tzW_sm j)]
  have hp := hb p
  have hl := tzW_l2 j
  have hr := (tze_sp (b := b) (n := n) (lo := 97) (hi := 122) _ p rfl).2.2.1 p (Nat.le_refl _)
  by_cases h : p < n ∧ (97 ≤ b p ∧ b p ≤ 122) ∧ p + 1 < tze b n 97 122 p
  · obtain ⟨h1, h2, h3⟩ := h
    have e : tzk b n p = tzw b p (tze b n 97 122 p) := by
      unfold tzk
      rw [if_neg (by omega), if_neg (by omega), if_pos h2, if_pos h3]
    rw [e]
    exact tzw_j hj
  · constructor
    · intro hk
      exfalso
      unfold tzk at hk
      by_cases q1 : n ≤ p
      · rw [if_pos q1] at hk; omega
      rw [if_neg q1] at hk
      by_cases q2 : 48 ≤ b p ∧ b p ≤ 57
      · rw [if_pos q2] at hk; omega
      rw [if_neg q2] at hk
      by_cases q3 : 97 ≤ b p ∧ b p ≤ 122
      · rw [if_pos q3, if_neg (fun q => h ⟨by omega, q3, q⟩)] at hk
        split at hk <;> omega
      rw [if_neg q3] at hk
      have := hp (by omega)
      split at hk
      · split at hk <;> omega
      · omega
    · intro hk
      exfalso
      have q := hr (by omega)
      exact h ⟨q.1, q.2, by omega⟩
theorem tzn_gt {p : Nat} (h : p < n) : p < tzn b n p := by
  unfold tzn
  split
  · exact tze_gt ⟨h, by omega, by omega⟩
  · split
    · exact tze_gt ⟨h, by omega, by omega⟩
    · omega
theorem tzn_le {p : Nat} (h : p < n) : tzn b n p ≤ n := by
  unfold tzn
  split
  · exact tze_le (by omega)
  · split
    · exact tze_le (by omega)
    · omega
theorem tzb_ge (k : Nat) : k ≤ tzb b n k := tze_ge k
theorem tzb_le {k : Nat} (h : k ≤ n) : tzb b n k ≤ n := tze_le h
theorem tzb_32 (k : Nat) : ¬ (tzb b n k < n ∧ b (tzb b n k) = 32) := fun h => (tze_sp (b := b) (n := n) (lo := 32) (hi := 32) _ k rfl).2.2.2 ⟨h.1, by have := h.2; unfold tzb at this; omega, by have := h.2; unfold tzb at this; omega⟩
theorem tzb_y {k : Nat} (h : k < n) (h1 : b k = 32) : tzb b n k = tzb b n (k + 1) := tze_y ⟨h, by omega, by omega⟩
theorem tzb_n {k : Nat} (h : ¬ (k < n ∧ b k = 32)) : tzb b n k = k := tze_n (by omega)
theorem tzb_b (k : Nat) : tzb b n (tzb b n k) = tzb b n k := tzb_n (tzb_32 k)
theorem tzp_b : ∀ i, tzb b n (tzp b n i) = tzp b n i
  | 0 => tzb_b _
  | _ + 1 => tzb_b _
theorem tzp_32 : ∀ i, ¬ (tzp b n i < n ∧ b (tzp b n i) = 32)
  | 0 => tzb_32 _
  | _ + 1 => tzb_32 _
theorem tzp_s {i : Nat} (h : tzp b n i < n) : tzp b n i + 1 ≤ tzp b n (i + 1) ∧ tzp b n (i + 1) ≤ n ∧ tzn b n (tzp b n i) ≤ tzp b n (i + 1) := by
  have h1 := tzn_gt (b := b) h
  have h2 := tzn_le (b := b) h
  have h3 := tzb_ge (b := b) (n := n) (tzn b n (tzp b n i))
  have h4 := tzb_le (b := b) h2
  show _ ≤ tzb b n (tzn b n (tzp b n i)) ∧ tzb b n (tzn b n (tzp b n i)) ≤ n ∧ _ ≤ tzb b n (tzn b n (tzp b n i))
  omega
theorem tzo_s {i : Nat} (h : tzo b n i) (h1 : tzp b n i < n) : tzo b n (i + 1) := fun j hj => by
  by_cases e : j = i
  · rw [e]; exact h1
  · exact h j (by omega)
theorem tzo_le : ∀ {i : Nat}, tzo b n i → i ≤ tzp b n i ∧ tzp b n i ≤ n
  | 0, _ => ⟨Nat.zero_le _, tzb_le (Nat.zero_le _)⟩
  | i + 1, h => by
    have h1 := h i (by omega)
    have := tzo_le (i := i) (fun j hj => h j (by omega))
    have := tzp_s h1
    omega
theorem tzd_le : ∀ (f k v : Nat), v ≤ 1000 → tzd b n f k v ≤ 1000
  | 0, _, _, h => h
  | f + 1, k, v, h => by
    show (if k < n ∧ 48 ≤ b k ∧ b k ≤ 57 then tzd b n f (k + 1) (min (v * 10 + b k - 48) 1000) else v) ≤ 1000
    split
    · exact tzd_le f _ _ (Nat.min_le_right _ _)
    · exact h
end TB
