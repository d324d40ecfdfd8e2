/-! ===== y: what the reference tells of a run ===== -/
def yFs (m : XM) (P : zP) (q : Bool × zS) : Prop := zSi P q.2 ∧ (∀ u, u < 7 → gi m 94 u = zN (zst q.2 u)) ∧ (∀ x, zok P x → gi m 96 (zmid P x) = zval q.2 x)
  ∧ gi m 85 27 = zN (zbeg q.2).length ∧ zstk m 95 (zbeg q.2) ∧ gi m 85 29 = zN (zwk q.2) ∧ gi m 85 31 = zN (zsur q.2).length ∧ gi m 85 32 = zN (zlos q.2) ∧ gi m 85 33 = zN (zfs q.2)
  ∧ (∀ u, u < 7 → (zst q.2 u = 3 → gi m 97 u = zN (zbrk q.2 u).1 ∧ gi m 98 u = (zbrk q.2 u).2.1 ∧ gi m 99 u = zN (zbrk q.2 u).2.2) ∧ (zst q.2 u ≠ 3 → gi m 97 u = zM ∧ gi m 98 u = zM ∧ gi m 99 u = zM))
  ∧ gi m 85 30 = (if q.1 then zN 2 else zN 0)
theorem yFs_fin {b : Bool} {m : XM} {P : zP} {q : Bool × zS} (h : yFin b m P q) : yFs m P q := by
  obtain ⟨hs, ⟨q1, q2, q3, q4, q5, q6, q7, q8, q9, q10, q11, q12, q13⟩, h30, -⟩ := h
  exact ⟨hs, q1, q2, q4, q5, q6, q7, q8, q9, q11, h30⟩
theorem yFs_fr {m m' : XM} {P : zP} {q : Bool × zS} (h0 : ∀ a k, 94 ≤ a → a < 100 → gi m' a k = gi m a k) (h1 : ∀ k, 27 ≤ k → k < 38 → gi m' 85 k = gi m 85 k) (h : yFs m P q) : yFs m' P q := by
  obtain ⟨hs, q1, q2, q4, q5, q6, q7, q8, q9, q11, h30⟩ := h
  refine ⟨hs, fun u hu => ?_, fun x hx => ?_, ?_, zstk_fr (fun k => h0 _ _ (by omega) (by omega)) q5, ?_, ?_, ?_, ?_, fun u hu => ?_, ?_⟩
  · rw [h0 _ _ (by omega) (by omega)]; exact q1 u hu
  · rw [h0 _ _ (by omega) (by omega)]; exact q2 x hx
  · rw [h1 _ (by omega) (by omega)]; exact q4
  · rw [h1 _ (by omega) (by omega)]; exact q6
  · rw [h1 _ (by omega) (by omega)]; exact q7
  · rw [h1 _ (by omega) (by omega)]; exact q8
  · rw [h1 _ (by omega) (by omega)]; exact q9
  · rw [h0 _ _ (by omega) (by omega), h0 _ _ (by omega) (by omega), h0 _ _ (by omega) (by omega)]; exact q11 u hu
  · rw [h1 _ (by omega) (by omega)]; exact h30
theorem yFs_show {m : XM} {P : zP} {q : Bool × zS} (h : yShow m P q) : yFs m P q :=
  yFs_fr (fun a k h1 h2 => (gi_ne (by omega)).symm) (fun k h1 h2 => (gi_ne (by omega)).symm) (yFs_fin h)
section YO
variable {N : Nat → Nat} {P : zP} {m : XM}
theorem yc_states {st : Nat → Nat} {w : Nat} (hU : yU N m P) (h3 : ∀ u, st u ≤ 3) (h : ∀ u, u < 7 → gi m 94 u = zN (st u)) (hw3 : w ≤ 3) : ∀ (d n i : Nat), d < n → i + d = zn P → fX9_statesOf_4 N n 85 (zN w) (zN (zcs st w i)) (zN i) m = some (zN (zcs st w (zn P)), m) := by
  have hz := hU.2.2.1.1
  obtain ⟨⟨-, -, n88, -, -, -, -, -, n94, -⟩, ⟨-, -, g9, -, -, -, -, -, g18, -⟩, -, ⟨h0, -⟩⟩ := hU
  intro d
  induction d with
  | zero =>
    intro n i hn hi
    obtain ⟨n, rfl⟩ : ∃ k, n = k + 1 := ⟨n - 1, by omega⟩
    unfold fX9_statesOf_4
    simp (disch := omega) only [zv, zgr g9, zN_lit, zald, h0, zN_le]
    rw [if_pos (by omega), show i = zn P by omega]
  | succ d ih =>
    intro n i hn hi
    obtain ⟨n, rfl⟩ : ∃ k, n = k + 1 := ⟨n - 1, by omega⟩
    have hs := h i (by omega)
    have := h3 i
    unfold fX9_statesOf_4 fX9_statesOf_30
    simp (disch := omega) only [zv, zgr g9, zN_lit, zald, h0, zN_le, zgr g18, hs, zN_eq, zN_add]
    rw [if_neg (by omega)]
    have hi1 := ih n (i + 1) (by omega) (by omega)
    rw [zcs_s] at hi1
    by_cases e : st i = w
    · rw [if_pos e] at hi1 ⊢
      exact hi1
    · rw [if_neg e] at hi1 ⊢
      exact hi1
theorem yc_tells {q : Bool × zS} {w : Nat} (hU : yU N m P) (h : yFs m P q) (hw7 : w ≤ 7) : fX9_tells N 85 (zN w) m = some (zN (zTell P q w), m) := by
  obtain ⟨hs, q1, q2, q4, q5, q6, q7, q8, q9, q11, h30⟩ := h
  have hz := hU.2.2.1.1
  unfold fX9_tells fX9_statesOf zTell
  have hX := zXF
  revert hX
  generalize XF = nf
  intro hX
  have k2 := yc_states (N := N) (w := 2) hU hs.1 q1 (by omega) (zn P) nf 0 (by omega) (by omega)
  have k3 := yc_states (N := N) (w := 3) hU hs.1 q1 (by omega) (zn P) nf 0 (by omega) (by omega)
  rw [zcs_0] at k2 k3
  simp (disch := omega) only [zv, zN_lit, zN_eq, q4, q6, q7, q8, q9, h30]
  have hc : w = 0 ∨ w = 1 ∨ w = 2 ∨ w = 3 ∨ w = 4 ∨ w = 5 ∨ w = 6 ∨ w = 7 := by omega
  rcases hc with e | e | e | e | e | e | e | e <;> subst e <;> simp only [Nat.reduceEqDiff, if_true, if_false]
  · rw [k2]; rfl
  · rw [k3]; rfl
  · cases q.1
    · simp (disch := omega) only [if_true, if_false, Bool.false_eq_true, zN_eq, Nat.reduceEqDiff]
    · simp only [if_true]
end YO
