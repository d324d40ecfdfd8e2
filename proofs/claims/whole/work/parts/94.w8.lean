/-! ===== w: the reference's orders ===== -/
/-- the digits stand in their row -/
def nD (m : XM) (n : Nat) (d : Nat → Nat) : Prop := ∀ k, k < n → gi m 108 k = zN (d k)
def nfr (m m' : XM) : Prop := (∀ a k, a ≠ 108 → gi m' a k = gi m a k) ∧ (∀ a k, gl m' a k = gl m a k) ∧ ∀ a k, gr m' a k = gr m a k
theorem nfr_rf (m : XM) : nfr m m := ⟨fun _ _ _ => rfl, fun _ _ => rfl, fun _ _ => rfl⟩
theorem nfr_tr {m m1 m2 : XM} (h : nfr m m1) (g : nfr m1 m2) : nfr m m2 := ⟨fun a k q => (g.1 a k q).trans (h.1 a k q), fun a k => (g.2.1 a k).trans (h.2.1 a k), fun a k => (g.2.2 a k).trans (h.2.2 a k)⟩
theorem nfr_si {m m1 : XM} {k : Nat} {v : Int32} (h : nfr m m1) : nfr m (si m1 108 k v) := ⟨fun a j q => by rw [gi_ne (by omega)]; exact h.1 a j q, fun a j => h.2.1 a j, fun a j => h.2.2 a j⟩
theorem yU_n {N : Nat → Nat} {m m' : XM} {P : zP} (h : yU N m P) (g : nfr m m') : yU N m' P :=
  ⟨h.1, yR_fr (fun k => g.2.2 85 k) h.2.1, h.2.2.1, yMP_fr (fun k => g.1 88 k (by omega)) (fun k => g.1 90 k (by omega)) h.2.2.2⟩
section WH
variable {N : Nat → Nat} {P : zP}
theorem yc_order_4 {d : Nat → Nat} {m : XM} (hU : yU N m P) (hD : nD m (zn P) d) : ∀ (l : List Nat) (n k a : Nat), l.length < n → k + l.length = zn P → (∀ i u, l[i]? = some u → d (k + i) = u) → fX9_orderNow_4 N n 85 (zN a) (zN k) m = some (zN (yord l a), m) := by
  have hz := hU.2.2.1.1
  obtain ⟨⟨-, -, n88, -, -, -, -, -, -, -, -, -, -, -, -, -, -, -, -, -, -, -, n108, -⟩, ⟨-, -, g9, -, -, -, -, -, -, -, -, -, -, -, -, -, -, -, -, -, -, -, g44, -⟩, -, ⟨h0, -⟩⟩ := hU
  intro l
  induction l with
  | nil =>
    intro n k a hn hk _
    obtain ⟨n, rfl⟩ : ∃ j, n = j + 1 := ⟨n - 1, by simp at hn; omega⟩
    simp only [List.length_nil] at hk
    unfold fX9_orderNow_4
    simp (disch := omega) only [zv, zgr g9, zN_lit, zald, h0, zN_le]
    rw [if_pos (by omega)]
    rfl
  | cons u l ih =>
    intro n k a hn hk hl
    simp only [List.length_cons] at hn hk
    obtain ⟨n, rfl⟩ : ∃ j, n = j + 1 := ⟨n - 1, by omega⟩
    have hu : d k = u := hl 0 u rfl
    have hg := hD k (by omega)
    have := ih n (k + 1) (10 * a + u) (by omega) (by omega) (fun i v hv => by rw [show k + 1 + i = k + (i + 1) by omega]; exact hl (i + 1) v (by simpa using hv))
    unfold fX9_orderNow_4
    simp (disch := omega) only [zv, zgr g9, zN_lit, zald, h0, zN_le, zN_mul, zgr g44, hg, hu, zN_add]
    rw [if_neg (by omega)]
    exact this
theorem yc_order {us : List Nat} {m : XM} (hU : yU N m P) (hD : nD m (zn P) (ndl us)) (hl : us.length = zn P) : fX9_orderNow N 85 m = some (zN (yord us 0), m) := by
  unfold fX9_orderNow
  have hX := zXF
  revert hX
  generalize XF = nf
  intro hX
  have hz := hU.2.2.1.1
  simp only [zN_lit]
  exact yc_order_4 hU hD us nf 0 0 (by omega) (by omega) (fun i u hu => by
    rw [Nat.zero_add]
    unfold ndl
    rw [List.getD_eq_getElem?_getD, hu]; rfl)
theorem yc_swap {d : Nat → Nat} {m : XM} {n a b : Nat} (hU : yU N m P) (hD : nD m n d) (ha : a < n) (hb : b < n) (hn : n ≤ 7) : ∃ m', fX9_swaps N 85 (zN a) (zN b) m = some m' ∧ nfr m m' ∧ nD m' n (nsw d a b) := by
  obtain ⟨⟨-, -, -, -, -, -, -, -, -, -, -, -, -, -, -, -, -, -, -, -, -, -, n108, -⟩, ⟨-, -, -, -, -, -, -, -, -, -, -, -, -, -, -, -, -, -, -, -, -, -, g44, -⟩, -⟩ := hU
  refine ⟨si (si m 108 a (zN (d b))) 108 b (zN (d a)), ?_, nfr_si (nfr_si (nfr_rf m)), fun k hk => ?_⟩
  · unfold fX9_swaps
    simp (disch := omega) only [zgr g44, zald, hD a ha, hD b hb, zast, zgr_si]
  · unfold nsw
    by_cases e : k = b
    · subst e; rw [gi_si, if_pos rfl]
    · rw [gi_ne (by omega), if_neg e]
      by_cases e2 : k = a
      · subst e2; rw [gi_si, if_pos rfl]
      · rw [gi_ne (by omega), if_neg e2]; exact hD k hk
theorem yc_next_85 {n : Nat} (hn : n ≤ 7) : ∀ (f g a b : Nat) (d : Nat → Nat) (m : XM), f < g → b ≤ a + 2 * f → b < n → a ≤ 8 → yU N m P → nD m n d → ∃ m', fX9_nextOrder_85 N g 85 (zN a) (zN b) m = some (zN 1, m') ∧ nfr m m' ∧ nD m' n (nx85 (f + 1) d a b) := by
  intro f
  induction f with
  | zero =>
    intro g a b d m hg hab hb ha hU hD
    obtain ⟨g, rfl⟩ : ∃ j, g = j + 1 := ⟨g - 1, by omega⟩
    refine ⟨m, ?_, nfr_rf m, ?_⟩
    · unfold fX9_nextOrder_85
      simp (disch := omega) only [zv, zN_lit, zN_le]
      rw [if_pos (by omega)]
    · unfold nx85
      rw [if_pos (by omega)]; exact hD
  | succ f ih =>
    intro g a b d m hg hab hb ha hU hD
    obtain ⟨g, rfl⟩ : ∃ j, g = j + 1 := ⟨g - 1, by omega⟩
    by_cases e : b ≤ a
    · refine ⟨m, ?_, nfr_rf m, ?_⟩
      · unfold fX9_nextOrder_85
        simp (disch := omega) only [zv, zN_lit, zN_le]
        rw [if_pos e]
      · unfold nx85
        rw [if_pos e]; exact hD
    · obtain ⟨m1, p1, p2, p3⟩ := yc_swap hU hD (show a < n by omega) hb hn
      obtain ⟨m2, q1, q2, q3⟩ := ih g (a + 1) (b - 1) (nsw d a b) m1 (by omega) (by omega) (by omega) (by omega) (yU_n hU p2) p3
      refine ⟨m2, ?_, nfr_tr p2 q2, ?_⟩
      · unfold fX9_nextOrder_85
        simp (disch := omega) only [zv, zN_lit, zN_le, p1, zcv, zN_add, zneg, zN_dec]
        rw [if_neg e]
        exact q1
      · show nD m2 n (if b ≤ a then d else nx85 (f + 1) (nsw d a b) (a + 1) (b - 1))
        rw [if_neg e]; exact q3
theorem yc_next_48 {n k : Nat} {d : Nat → Nat} {m : XM} (hn : n ≤ 7) (hk : k + 1 < n) (hup : d k ≤ d (k + 1)) (h10 : ∀ j, j < n → d j < 10) (hU : yU N m P) (hD : nD m n d) : ∀ (i g : Nat), i < g → k + 1 ≤ i → i < n → ∃ m', fX9_nextOrder_48 N g 85 (zN n) (zN k) (zN i) m = some (zN 1, m') ∧ nfr m m' ∧ nD m' n (nx85 7 (nsw d k (nx48 d k i)) (k + 1) (n - 1)) := by
  have hU0 := hU
  obtain ⟨⟨-, -, -, -, -, -, -, -, -, -, -, -, -, -, -, -, -, -, -, -, -, -, n108, -⟩, ⟨-, -, -, -, -, -, -, -, -, -, -, -, -, -, -, -, -, -, -, -, -, -, g44, -⟩, -⟩ := hU
  intro i
  induction i with
  | zero => intro g _ h; omega
  | succ i ih =>
    intro g hg hki hin
    obtain ⟨g, rfl⟩ : ∃ j, g = j + 1 := ⟨g - 1, by omega⟩
    have hdk := h10 k (by omega)
    have hdi := h10 (i + 1) hin
    unfold fX9_nextOrder_48
    have hX := zXF
    revert hX
    generalize XF = nf
    intro hX
    simp (disch := omega) only [zv, zgr g44, zald, hD (i + 1) hin, hD k (by omega), zN_le]
    unfold nx48
    by_cases e : d k ≤ d (i + 1)
    · rw [if_pos e, if_pos e]
      obtain ⟨m1, p1, p2, p3⟩ := yc_swap hU0 hD (show k < n by omega) hin hn
      obtain ⟨m2, q1, q2, q3⟩ := yc_next_85 hn 6 nf (k + 1) (n - 1) (nsw d k (i + 1)) m1 (by omega) (by omega) (by omega) (by omega) (yU_n hU0 p2) p3
      refine ⟨m2, ?_, nfr_tr p2 q2, q3⟩
      simp (disch := omega) only [p1, zcv, zN_lit, zN_add, zN_sub]
      exact q1
    · rw [if_neg e, if_neg e]
      have hne : k + 1 ≠ i + 1 := fun g => e (by rw [← g]; exact hup)
      obtain ⟨m2, q1, q2, q3⟩ := ih g (by omega) (by omega) (by omega)
      refine ⟨m2, ?_, q2, q3⟩
      simp (disch := omega) only [zneg, zN_lit, zN_dec]
      exact q1
theorem yc_next_11 {n : Nat} {d : Nat → Nat} {m : XM} (hn : n ≤ 7) (h10 : ∀ j, j < n → d j < 10) (hU : yU N m P) (hD : nD m n d) : ∀ (j g : Nat), j < g → j < n → ∃ m', (match nx11 d j with
      | none => fX9_nextOrder_11 N g 85 (zN n) (if j = 0 then zM else zN (j - 1)) m = some (zN 0, m') ∧ m' = m
      | some k => fX9_nextOrder_11 N g 85 (zN n) (if j = 0 then zM else zN (j - 1)) m = some (zN 1, m') ∧ nfr m m' ∧ nD m' n (nx85 7 (nsw d k (nx48 d k (n - 1))) (k + 1) (n - 1))) := by
  have hU0 := hU
  obtain ⟨⟨-, -, -, -, -, -, -, -, -, -, -, -, -, -, -, -, -, -, -, -, -, -, n108, -⟩, ⟨-, -, -, -, -, -, -, -, -, -, -, -, -, -, -, -, -, -, -, -, -, -, g44, -⟩, -⟩ := hU
  have hm0 : (zN 0 ≤ zM) = False := zle_m (by omega)
  intro j
  induction j with
  | zero =>
    intro g hg hj
    obtain ⟨g, rfl⟩ : ∃ j, g = j + 1 := ⟨g - 1, by omega⟩
    refine ⟨m, ?_⟩
    show fX9_nextOrder_11 N (g + 1) 85 (zN n) (if 0 = 0 then zM else zN (0 - 1)) m = some (zN 0, m) ∧ m = m
    refine ⟨?_, rfl⟩
    rw [if_pos rfl]
    unfold fX9_nextOrder_11 fX9_nextOrder_38
    generalize XF = nf
    simp (disch := omega) only [zv, zN_lit, zm_lt, if_true, hm0, if_false]
  | succ j ih =>
    intro g hg hj
    obtain ⟨g, rfl⟩ : ∃ j, g = j + 1 := ⟨g - 1, by omega⟩
    have hd0 := h10 j (by omega)
    have hd1 := h10 (j + 1) hj
    rw [if_neg (by omega), Nat.add_sub_cancel]
    have hnlt : (zN j < zN 0) = False := by rw [zN_lt (by omega) (by omega)]; exact propext ⟨fun h => (by omega), fun h => h.elim⟩
    have hstep : nx11 d (j + 1) = if d j ≤ d (j + 1) then some j else nx11 d j := rfl
    have hf : fX9_nextOrder_11 N (g + 1) 85 (zN n) (zN j) m = if d j ≤ d (j + 1) then fX9_nextOrder_38 N 85 (zN n) (zN j) m else fX9_nextOrder_11 N g 85 (zN n) (zN j + zM) m := by
      show _ = _
      rw [fX9_nextOrder_11]
      simp (disch := omega) only [zv, zN_lit, hnlt, if_false, zgr g44, zald, hD j (by omega), hD (j + 1) hj, zN_add, zN_le, zneg]
    rw [hf, hstep]
    by_cases e : d j ≤ d (j + 1)
    · rw [if_pos e, if_pos e]
      have hX := zXF
      obtain ⟨m2, q1, q2, q3⟩ := yc_next_48 hn (k := j) (by omega) e h10 hU0 hD (n - 1) XF (by omega) (by omega) (by omega)
      refine ⟨m2, ?_, q2, q3⟩
      unfold fX9_nextOrder_38
      rw [← q1]
      simp (disch := omega) only [zv, zN_lit, zN_le, Nat.zero_le, if_true, zN_sub]
    · rw [if_neg e, if_neg e]
      have hnx : (if j = 0 then zM else zN (j - 1)) = zN j + zM := by
        by_cases e0 : j = 0
        · rw [if_pos e0, e0, zN_dec0]
        · rw [if_neg e0, zN_dec (by omega)]
      have := ih g (by omega) (by omega)
      rw [hnx] at this
      exact this
theorem yc_next {d : Nat → Nat} {m : XM} (h10 : ∀ j, j < zn P → d j < 10) (hU : yU N m P) (hD : nD m (zn P) d) : ∃ m', (match nxt (zn P) d with
      | none => fX9_nextOrder N 85 m = some (zN 0, m')
      | some d' => fX9_nextOrder N 85 m = some (zN 1, m') ∧ nD m' (zn P) d') ∧ nfr m m' := by
  have hz := hU.2.2.1.1
  have hU0 := hU
  obtain ⟨⟨-, -, n88, -⟩, ⟨-, -, g9, -⟩, -, ⟨h0, -⟩⟩ := hU
  have hf : fX9_nextOrder N 85 m = fX9_nextOrder_11 N XF 85 (zN (zn P)) (zN (zn P) - zN 2) m := by
    unfold fX9_nextOrder
    generalize XF = nf
    simp (disch := omega) only [zgr g9, zN_lit, zald, h0, zv]
  rw [hf]
  unfold nxt
  have hX := zXF
  revert hX
  generalize XF = nf
  intro hX
  by_cases e : zn P = 0
  · rw [e]
    refine ⟨m, ?_, nfr_rf m⟩
    show fX9_nextOrder_11 N nf 85 (zN 0) (zN 0 - zN 2) m = some (zN 0, m)
    obtain ⟨g, rfl⟩ : ∃ j, nf = j + 1 := ⟨nf - 1, by omega⟩
    unfold fX9_nextOrder_11 fX9_nextOrder_38
    generalize XF = nf'
    have e1 : (zN 0 - zN 2 < zN 0) = True := by decide
    have e2 : (zN 0 ≤ zN 0 - zN 2) = False := by decide
    simp only [zv, zN_lit, e1, if_true, e2, if_false]
  · have := yc_next_11 hz h10 hU0 hD (zn P - 1) nf (by omega) (by omega)
    have hx : zN (zn P) - zN 2 = (if zn P - 1 = 0 then zM else zN (zn P - 1 - 1)) := by
      by_cases e1 : zn P - 1 = 0
      · rw [if_pos e1, show zn P = 1 by omega]; decide
      · rw [if_neg e1, zN_sub (by omega)]; congr 1
    rw [hx]
    revert this
    cases nx11 d (zn P - 1) with
    | none => intro h; obtain ⟨m', h1, h2⟩ := h; exact ⟨m', h1, by rw [h2]; exact nfr_rf m⟩
    | some k => intro h; obtain ⟨m', h1, h2, h3⟩ := h; exact ⟨m', ⟨h1, h3⟩, h2⟩
theorem yc_first_2 (hN : N 108 = 7) : ∀ (d n k : Nat) (m : XM), d < n → k + d = 7 → gr m 85 44 = some 108 → ∃ m', fX9_firstOrder_2 N n 85 (zN k) m = some m' ∧ nfr m m' ∧ ∀ j, gi m' 108 j = if k ≤ j ∧ j < 7 then zN j else gi m 108 j := by
  intro d
  induction d with
  | zero =>
    intro n k m hn hk hg
    obtain ⟨n, rfl⟩ : ∃ k, n = k + 1 := ⟨n - 1, by omega⟩
    refine ⟨m, ?_, nfr_rf m, fun j => by rw [if_neg (by omega)]⟩
    unfold fX9_firstOrder_2
    simp (disch := omega) only [zv, zN_lit, zN_le]
    rw [if_pos (by omega)]
  | succ d ih =>
    intro n k m hn hk hg
    obtain ⟨n, rfl⟩ : ∃ k, n = k + 1 := ⟨n - 1, by omega⟩
    obtain ⟨m', p1, p2, p3⟩ := ih n (k + 1) (si m 108 k (zN k)) (by omega) (by omega) hg
    refine ⟨m', ?_, nfr_tr (nfr_si (nfr_rf m)) p2, fun j => ?_⟩
    · unfold fX9_firstOrder_2
      simp (disch := omega) only [zv, zN_lit, zN_le]
      rw [if_neg (by omega)]
      simp (disch := omega) only [zgr hg, zast, zN_add]
      exact p1
    · rw [p3 j]
      by_cases e : j = k
      · subst e; rw [if_neg (by omega), if_pos (by omega), gi_si]
      · by_cases e2 : k ≤ j ∧ j < 7
        · rw [if_pos (by omega), if_pos e2]
        · rw [if_neg (by omega), if_neg e2, gi_ne (by omega)]
theorem yc_first {m : XM} (hU : yU N m P) : ∃ m', fX9_firstOrder N 85 m = some m' ∧ nfr m m' ∧ nD m' (zn P) (ndl (List.range (zn P))) := by
  have hz := hU.2.2.1.1
  obtain ⟨⟨-, -, -, -, -, -, -, -, -, -, -, -, -, -, -, -, -, -, -, -, -, -, n108, -⟩, ⟨-, -, -, -, -, -, -, -, -, -, -, -, -, -, -, -, -, -, -, -, -, -, g44, -⟩, -⟩ := hU
  unfold fX9_firstOrder
  have hX := zXF
  revert hX
  generalize XF = nf
  intro hX
  obtain ⟨m', p1, p2, p3⟩ := yc_first_2 (N := N) n108 7 nf 0 m (by omega) (by omega) g44
  refine ⟨m', by simp only [zN_lit]; exact p1, p2, fun k hk => ?_⟩
  rw [p3, if_pos (by omega)]
  unfold ndl
  rw [List.getD_eq_getElem?_getD, List.getElem?_range hk]
  rfl
end WH
