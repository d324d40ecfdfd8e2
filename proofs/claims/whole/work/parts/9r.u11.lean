/-! ===== u: calls with orders ===== -/
section UK
variable {N : Nat → Nat} {m : XM} {c d : Nat} {S : zJ} {P : zP}
theorem y_or_15 (hz : zn P ≤ 7) {A0 : Nat} (hA0 : A0 < 2147483648) : ∀ (k n A M j : Nat), k < n → j + k = zn P → A < 2147483648 → M < 1024 → (zIo (zn P) k A M → fX9_isOrder_15 N n (zN A0) (zN M) (zN A) (zN (zn P)) (zN j) m = some (zN 1, m)) ∧ (¬ zIo (zn P) k A M → fX9_isOrder_15 N n (zN A0) (zN M) (zN A) (zN (zn P)) (zN j) m = some (zN 0, m)) := by
  have p1 : 2 ^ zn P ≤ 2 ^ 7 := Nat.pow_le_pow_right (by omega) hz
  have p2 : 1 ≤ 2 ^ zn P := Nat.pow_pos (by omega)
  intro k
  induction k with
  | zero =>
    intro n A M j hn hj hA hM
    obtain ⟨n, rfl⟩ : ∃ i, n = i + 1 := ⟨n - 1, by omega⟩
    have hle : zn P ≤ j := by omega
    have hr : fX9_isOrder_15 N (n + 1) (zN A0) (zN M) (zN A) (zN (zn P)) (zN j) m = if A = 0 then (if M = 2 ^ zn P - 1 then some (zN 1, m) else some (zN 0, m)) else some (zN 0, m) := by
      rw [fX9_isOrder_15]
      unfold fX9_isOrder_72
      have hlt0 := zlt0 hA0
      simp (disch := omega) only [zv, zN_le, hle, if_true, zN_lit, hlt0, if_false, wb_one1, zN_sub, zN_eq]
    rw [hr]
    constructor
    · intro h
      rw [if_pos h.1, if_pos h.2]
    · intro h
      by_cases e : A = 0
      · rw [if_pos e, if_neg (fun g => h ⟨e, g⟩)]
      · rw [if_neg e]
  | succ k ih =>
    intro n A M j hn hj hA hM
    obtain ⟨n, rfl⟩ : ∃ i, n = i + 1 := ⟨n - 1, by omega⟩
    have hle : ¬ zn P ≤ j := by omega
    have hrem : xrem (zN A) (zN 10) = zN (A % 10) := zN_rem (by omega) (by omega)
    have h9 : 2 ^ (A % 10) < 1024 := by
      have : 2 ^ (A % 10) ≤ 2 ^ 9 := Nat.pow_le_pow_right (by omega) (by omega)
      omega
    have hor : M ||| 2 ^ (A % 10) < 1024 := Nat.or_lt_two_pow (n := 10) hM h9
    have hih := ih n (A / 10) (M ||| 2 ^ (A % 10)) (j + 1) (by omega) (by omega) (by omega) hor
    have hr : fX9_isOrder_15 N (n + 1) (zN A0) (zN M) (zN A) (zN (zn P)) (zN j) m = fX9_isOrder_15 N n (zN A0) (zN (M ||| 2 ^ (A % 10))) (zN (A / 10)) (zN (zn P)) (zN (j + 1)) m := by
      rw [fX9_isOrder_15]
      unfold fX9_isOrder_37
      simp (disch := omega) only [zv, zN_le, hle, if_false, zN_lit, Nat.zero_le, if_true, zdv, hrem, wb_one1, zN_or, zN_div, zN_add]
    rw [hr]
    exact hih
theorem y_or_neg {x : Int32} (hx : x < zN 0) (hz : zn P ≤ 7) : ∀ (k n j : Nat) (s l : Int32), k < n → j + k = zn P → fX9_isOrder_15 N n x s l (zN (zn P)) (zN j) m = some (zN 0, m) := by
  intro k
  induction k with
  | zero =>
    intro n j s l hn hj
    obtain ⟨n, rfl⟩ : ∃ i, n = i + 1 := ⟨n - 1, by omega⟩
    have hle : zn P ≤ j := by omega
    rw [fX9_isOrder_15]
    unfold fX9_isOrder_72
    simp (disch := omega) only [zv, zN_le, hle, if_true, zN_lit, hx]
  | succ k ih =>
    intro n j s l hn hj
    obtain ⟨n, rfl⟩ : ∃ i, n = i + 1 := ⟨n - 1, by omega⟩
    have hle : ¬ zn P ≤ j := by omega
    have hih := fun s l => ih n (j + 1) s l (by omega) (by omega)
    rw [fX9_isOrder_15]
    unfold fX9_isOrder_37
    simp (disch := omega) only [zv, zN_le, hle, if_false, zN_lit, zdv, zN_add, hih, ite_self]
theorem y_order (h : jM N m S) (x : Int32) : (∃ us, zOr (jP S) x us ∧ fX9_isOrder N 85 x m = some (zN 1, m)) ∨ ((∀ us, ¬ zOr (jP S) x us) ∧ fX9_isOrder N 85 x m = some (zN 0, m)) := by
  have hwf := h.2.2.1.1
  have hz := hwf.1
  have hX := zXF
  obtain ⟨p1, p2⟩ := zpow_128 hwf
  obtain ⟨⟨-, -, n88, -⟩, ⟨-, -, g9, -⟩, -, ⟨h0, -⟩⟩ := jM_U h
  have hf : fX9_isOrder N 85 x m = fX9_isOrder_15 N XF x (zN 0) x (zN (zn (jP S))) (zN 0) m := by
    unfold fX9_isOrder
    generalize XF = nf
    simp (disch := omega) only [zgr g9, zN_lit, zald, h0]
  rw [hf]
  rcases zcase x with e | ⟨A, hA, rfl⟩
  · refine Or.inr ⟨fun us hu => ?_, y_or_neg e hz (zn (jP S)) XF 0 _ _ (by omega) (by omega)⟩
    have hlt := yord_lt us (fun v hv => by have := zva_lt _ _ hu.2.1 v hv; omega)
    have := ypow_lt (n := us.length) (by have := hu.1; omega)
    rw [hu.2.2, zlt0 (by omega)] at e
    exact e
  · obtain ⟨k1, k2⟩ := y_or_15 (N := N) (m := m) (P := jP S) hz hA (zn (jP S)) XF A 0 0 (by omega) (by omega) hA (by omega)
    have hTI := zT_I (n := zn (jP S)) (by omega) (zn (jP S)) A 0 (by omega) (by show 0 + _ = _; omega)
    by_cases e : zT (zn (jP S)) (zn (jP S)) A 0
    · exact Or.inl ⟨zdgs (zn (jP S)) A, ⟨zdgs_len _ _, zT_va (by omega) e, by rw [← zT_ord _ _ _ e]⟩, k1 (hTI.1 e)⟩
    · exact Or.inr ⟨fun us hu => e (zOr_T hwf hA hu), k2 (fun g => e (hTI.2 g))⟩
end UK
