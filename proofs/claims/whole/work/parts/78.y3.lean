/-! ===== y: the reference's run, its leaves ===== -/
section YG
variable {b : Bool} {N : Nat → Nat} {m : XM} {P : zP} {s : zS}
theorem yo_unit {a u w : Nat} (hN : N a = 3820) (hu : u < 7) (hw : w < 15) : fX9_unitOf N a (zN u) (zN w) m = some (gi m a (5 + 15 * u + w), m) := by
  unfold fX9_unitOf
  simp (disch := omega) only [zv, zN_lit, zN_mul, zN_add, zald]
theorem yo_memb {a u i : Nat} (hN : N a = 3820) (hu : u < 7) (hi : i < 12) : fX9_memberAt N a (zN u) (zN i) m = some (gi m a (5 + 15 * u + 3 + i), m) := by
  unfold fX9_memberAt
  simp (disch := omega) only [zv, zN_lit, zN_mul, zN_add, zald]
theorem yo_mem {a x w : Nat} (hN : N a = 3820) (hx : x < 84) (hw : w < 5) : fX9_ofMember N a (zN x) (zN w) m = some (gi m a (110 + 5 * x + w), m) := by
  unfold fX9_ofMember
  simp (disch := omega) only [zv, zN_lit, zN_mul, zN_add, zald]
theorem yo_act {a x w : Nat} (hN : N a = 3820) (hx : x < 220) (hw : w < 4) : fX9_ofAct N a (zN x) (zN w) m = some (gi m a (530 + 4 * x + w), m) := by
  unfold fX9_ofAct
  simp (disch := omega) only [zv, zN_lit, zN_mul, zN_add, zald]
theorem yo_term {a x w : Nat} (hN : N a = 3820) (hx : x < 400) (hw : w < 6) : fX9_ofTerm N a (zN x) (zN w) m = some (gi m a (1410 + 6 * x + w), m) := by
  unfold fX9_ofTerm
  simp (disch := omega) only [zv, zN_lit, zN_mul, zN_add, zald]
theorem yc_works (h : yMR b m P s) : fX9_works N 85 m = if zwk s < 3000 then some (zN 1, si m 85 29 (zN (zwk s + 1))) else some (zN 0, si m 85 30 (zN 2)) := by
  obtain ⟨⟨-, -, -, hw, -⟩, ⟨-, -, -, -, -, q6, -⟩, -, h30⟩ := h
  unfold fX9_works fX9_works_28
  simp (disch := omega) only [zv, q6, zN_lit, zN_eq, zN_add]
  by_cases e : zwk s < 3000
  · rw [if_pos e, if_neg (by omega), gi_ne (by omega), h30, if_pos rfl]
  · rw [if_neg e, if_pos (by omega), gi_si, if_neg (by rw [zN_eq (by omega) (by omega)]; omega)]
theorem yc_opens {u w : Int32} (hU : yU N m P) (h : yMR b m P s) : fX9_opens N 85 u w m = if (zopn s).length < 20 then some (zN 1, si (si (si m 100 (zopn s).length u) 101 (zopn s).length w) 85 28 (zN ((zopn s).length + 1))) else some (zN 0, si m 85 30 (zN 2)) := by
  have h20 := h.1.2.1
  have h28 := h.2.2.1.1
  obtain ⟨⟨-, -, -, -, -, -, -, -, -, -, -, -, -, -, n100, n101, -⟩, ⟨-, -, -, -, -, -, -, -, -, -, -, -, -, -, g24, g25, -⟩, -⟩ := hU
  unfold fX9_opens
  simp (disch := omega) only [zv, h28, zN_lit, zN_eq]
  by_cases e : (zopn s).length < 20
  · rw [if_pos e, if_neg (by omega)]
    simp (disch := omega) only [zgr g24, zgr_si, zgr g25, zast, gi_ne, h28, zN_add]
  · rw [if_neg e, if_pos (by omega)]
theorem yc_fails {f : Nat} {v : Int32} : fX9_fails N 85 (zN f) v m = some (si (si (si (si m 85 30 (zN 1)) 85 35 (zN f)) 85 36 v) 85 37 (zN 0)) := by
  unfold fX9_fails
  simp only [zv, zN_lit]
theorem yc_early {x : Nat} (hU : yU N m P) (h : yMR b m P s) (hx : zok P x) (hk : zknd P x = 1) : fX9_isEarly N 85 (zN (x / 12)) (zN (zmid P x)) m = some (if zEarly P x s then zN 1 else zN 0, m) := by
  obtain ⟨hSi, ⟨q1, q2, q3, -⟩, -⟩ := h
  obtain ⟨⟨-, -, n88, -, -, -, -, -, n94, -, -, -, -, -, -, -, n102, -⟩, ⟨-, -, g9, -, -, -, -, -, g18, -, -, -, -, -, -, -, g26, -⟩, hwf, ⟨-, -, -, -, hm, -⟩⟩ := hU
  have h84 := zok_84 hwf hx
  have hmid := zmid_lt hwf hx
  have hst := hSi.1 (x / 12)
  obtain ⟨d1, d2⟩ := (hm x hx).1.2.2.2.1 hk
  have hmk := (q3 x hx).1
  have hst1 := q1 (x / 12) h84.2
  unfold fX9_isEarly fX9_isEarly_36 zEarly
  simp (disch := omega) only [zgr g9, zN_lit, yo_mem, zca, zneg]
  cases hi : zini P x with
  | none =>
    rw [d1 hi]
    simp
  | some d =>
    obtain ⟨f, e1, l0, ts, lr, e2, -⟩ := d2 d hi
    have hf : f < 400 := e2.1
    rw [e1]
    simp (disch := omega) only [zN_m, if_false, zgr g26, zald, zgr g18, hst1, zN_eq]
    by_cases hb : zst s (x / 12) = 1
    · rw [hmk hb]
      cases hmm : zmk s x <;> simp [hb]
    · simp [hb]
/-- the row of what is open is kept -/
theorem yc_notes_92 {n0 i0 : Nat} (hn : n0 ≤ 20) (hi : i0 < 3001) (hU : yN N) : ∀ (d n x : Nat) (m : XM), d < n → x + d = n0 → yR m → gi m 85 28 = zN n0 → gi m 85 31 = zN i0 →
    ∃ m', fX9_notes_92 N n 85 (zN x) m = some (si m' 85 31 (zN (i0 + 1))) ∧ yfq m m' ∧ (∀ a k, a ≠ 104 → a ≠ 105 → gi m' a k = gi m a k) ∧ (∀ k, gi m' 104 k = if 20 * i0 + x ≤ k ∧ k < 20 * i0 + n0 then gi m 100 (k - 20 * i0) else gi m 104 k) ∧ ∀ k, gi m' 105 k = if 20 * i0 + x ≤ k ∧ k < 20 * i0 + n0 then gi m 101 (k - 20 * i0) else gi m 105 k := by
  obtain ⟨-, -, -, -, -, -, -, -, -, -, -, -, -, -, n100, n101, -, -, n104, n105, -⟩ := hU
  intro d
  induction d with
  | zero =>
    intro n x m hl hx hR h28 h31
    obtain ⟨n, rfl⟩ : ∃ k, n = k + 1 := ⟨n - 1, by omega⟩
    refine ⟨m, ?_, yfq_rf m, fun _ _ _ _ => rfl, fun k => ?_, fun k => ?_⟩
    · unfold fX9_notes_92 fX9_notes_151
      simp (disch := omega) only [zv, h28, zN_le, h31, zN_lit, zN_add]
      rw [if_pos (by omega)]
    · rw [if_neg (by omega)]
    · rw [if_neg (by omega)]
  | succ d ih =>
    intro n x m hl hx hR h28 h31
    obtain ⟨n, rfl⟩ : ∃ k, n = k + 1 := ⟨n - 1, by omega⟩
    have hR0 := hR
    obtain ⟨-, -, -, -, -, -, -, -, -, -, -, -, -, -, g24, g25, -, -, g39, g40, -⟩ := hR
    have hf : yfq m (si (si m 104 (20 * i0 + x) (gi m 100 x)) 105 (20 * i0 + x) (gi m 101 x)) := yfq_si (yfq_si (yfq_rf m))
    obtain ⟨m', p1, p2, p3, p4, p5⟩ := ih n (x + 1) (si (si m 104 (20 * i0 + x) (gi m 100 x)) 105 (20 * i0 + x) (gi m 101 x)) (by omega) (by omega) hR0 (by rw [gi_ne (by omega), gi_ne (by omega)]; exact h28) (by rw [gi_ne (by omega), gi_ne (by omega)]; exact h31)
    refine ⟨m', ?_, yfq_tr hf p2, fun a k h1 h2 => ?_, fun k => ?_, fun k => ?_⟩
    · unfold fX9_notes_92
      simp (disch := omega) only [zv, h28, zN_le]
      rw [if_neg (by omega)]
      simp (disch := omega) only [zgr g39, h31, zN_lit, zN_mul, zN_add, zgr g24, zald, zast, zgr_si, zgr g40, gi_ne, zgr g25]
      exact p1
    · rw [p3 a k h1 h2, gi_ne (by omega), gi_ne (by omega)]
    · rw [p4 k]
      by_cases e : k = 20 * i0 + x
      · subst e
        rw [if_neg (by omega), gi_ne (by omega), gi_si, if_pos (by omega), show 20 * i0 + x - 20 * i0 = x by omega]
      · by_cases e2 : 20 * i0 + x ≤ k ∧ k < 20 * i0 + n0
        · rw [if_pos (by omega), if_pos e2, gi_ne (by omega), gi_ne (by omega)]
        · rw [if_neg (by omega), if_neg e2, gi_ne (by omega), gi_ne (by omega)]
    · rw [p5 k]
      by_cases e : k = 20 * i0 + x
      · subst e
        rw [if_neg (by omega), gi_si, if_pos (by omega), show 20 * i0 + x - 20 * i0 = x by omega]
      · by_cases e2 : 20 * i0 + x ≤ k ∧ k < 20 * i0 + n0
        · rw [if_pos (by omega), if_pos e2, gi_ne (by omega), gi_ne (by omega)]
        · rw [if_neg (by omega), if_neg e2, gi_ne (by omega), gi_ne (by omega)]
theorem yc_notes {x : Nat} (hU : yU N m P) (h : yMR b m P s) (hx : zok P x) (hxk : zknd P x = 1) (hl : (zsur s).length < zwk s) :
    ∃ m', fX9_notes N 85 (zN (x / 12)) (zN (zmid P x)) m = some m' ∧ yfq m m' ∧ yMR b m' P (zs_sur s ((x, zval s x, zwk s, zopn s, zsp s) :: zsur s)) := by
  obtain ⟨hSi, hMr, ⟨h28, hsto⟩, h30⟩ := h
  have hS' : zSi P (zs_sur s ((x, zval s x, zwk s, zopn s, zsp s) :: zsur s)) := by
    obtain ⟨a1, a2, a3, a4, a5, a6, a7, a8, a9⟩ := hSi
    refine ⟨a1, a2, a3, a4, hl, a6, a7, a8, fun q hq => ?_⟩
    rcases List.mem_cons.mp hq with e | e
    · rw [e]; exact ⟨hx, a2⟩
    · exact a9 q e
  obtain ⟨-, h20, -, hw3, -⟩ := hSi
  have hmid := zmid_lt hU.2.2.1 hx
  have h84 := zok_84 hU.2.2.1 hx
  have hU0 := hU
  obtain ⟨hN, hR, hwf, ⟨-, -, -, -, hm, -⟩⟩ := hU
  have hnm := (hm x hx).1.2.1 (by omega)
  obtain ⟨-, -, n88, -, -, -, -, -, -, -, n96, -, -, -, -, -, -, n103, -⟩ := id hN
  obtain ⟨-, -, g9, -, -, -, -, -, -, -, g20, -, -, -, -, -, -, g38, -⟩ := id hR
  obtain ⟨q1, q2, q3, q4, q5, q6, q7, q8, q9, q10, q11, q12, q13⟩ := id hMr
  unfold fX9_notes
  have hX := zXF
  revert hX
  generalize XF = nf
  intro hX
  cases b with
  | false =>
    unfold fX9_notes_151
    simp (disch := omega) only [zv, q12, Bool.false_eq_true, if_false, zN_lit, if_true, q7, zN_add]
    refine ⟨_, rfl, yfq_si (yfq_rf m), hS', yMr_sur (fun _ _ _ _ _ => rfl) (fun _ _ => rfl) (fun _ _ => ⟨rfl, rfl⟩) (fun g => by cases g) hMr, ⟨?_, ?_⟩, ?_⟩
    · rw [gi_ne (by omega)]; exact h28
    · exact ysto_fr (fun k _ => ⟨gi_ne (by omega), gi_ne (by omega)⟩) hsto
    · rw [gi_ne (by omega)]; exact h30
  | true =>
    simp (disch := omega) only [zv, q12, if_true, zN_lit, zN10, if_false, q7, zN_mul, zgr g38, zast, zgr_si, zgr g9, yo_mem, gi_ne, hnm, zca, zN_add, zgr g20, zald, q2 x hx, q6, h28, q10]
    generalize hm1 : si (si (si (si (si (si m 103 (6 * (zsur s).length) (zN (x / 12))) 103 (6 * (zsur s).length + 1) (zopt (znam P x))) 103 (6 * (zsur s).length + 2) (zval s x)) 103 (6 * (zsur s).length + 3) (zN (zwk s))) 103 (6 * (zsur s).length + 4) (zN (zopn s).length)) 103 (6 * (zsur s).length + 5) (zN (zsp s)) = m1
    have e1 : ∀ a k, a ≠ 103 → gi m1 a k = gi m a k := fun a k ha => by
      rw [← hm1, gi_ne (by omega), gi_ne (by omega), gi_ne (by omega), gi_ne (by omega), gi_ne (by omega), gi_ne (by omega)]
    have e2 : ∀ k, k < 6 * (zsur s).length → gi m1 103 k = gi m 103 k := fun k hk => by
      rw [← hm1, gi_ne (by omega), gi_ne (by omega), gi_ne (by omega), gi_ne (by omega), gi_ne (by omega), gi_ne (by omega)]
    have f1 : yfq m m1 := by
      rw [← hm1]
      exact yfq_si (yfq_si (yfq_si (yfq_si (yfq_si (yfq_si (yfq_rf m))))))
    obtain ⟨m', p1, p2, p3, p4, p5⟩ := yc_notes_92 (N := N) h20 (i0 := (zsur s).length) (by omega) hN (zopn s).length nf 0 m1 (by omega) (by omega) (yU_q hU0 f1).2.1 (by rw [e1 _ _ (by omega)]; exact h28) (by rw [e1 _ _ (by omega)]; exact q7)
    refine ⟨_, p1, yfq_si (yfq_tr f1 p2), hS', yMr_sur (fun a k h1 h2 h3 => by rw [p3 a k h2 h3, e1 a k h1]) (fun k hk => by rw [p3 _ _ (by omega) (by omega), e2 k hk]) (fun k hk => ?_) (fun _ => ?_) hMr, ⟨?_, ?_⟩, ?_⟩
    · rw [p4, p5, if_neg (by omega), if_neg (by omega), e1 _ _ (by omega), e1 _ _ (by omega)]; exact ⟨rfl, rfl⟩
    · refine ⟨?_, ?_, ?_, ?_, ?_, ?_, ysto_cp (fun k hk => ?_) hsto, h20⟩
      · rw [p3 _ _ (by omega) (by omega), ← hm1, gi_ne (by omega), gi_ne (by omega), gi_ne (by omega), gi_ne (by omega), gi_ne (by omega), gi_si]
      · rw [p3 _ _ (by omega) (by omega), ← hm1, gi_ne (by omega), gi_ne (by omega), gi_ne (by omega), gi_ne (by omega), gi_si]
      · rw [p3 _ _ (by omega) (by omega), ← hm1, gi_ne (by omega), gi_ne (by omega), gi_ne (by omega), gi_si]
      · rw [p3 _ _ (by omega) (by omega), ← hm1, gi_ne (by omega), gi_ne (by omega), gi_si]
      · rw [p3 _ _ (by omega) (by omega), ← hm1, gi_ne (by omega), gi_si]
      · rw [p3 _ _ (by omega) (by omega), ← hm1, gi_si]
      · have hk' : k < (zopn s).length := hk
        rw [p4, p5, if_pos (by omega), if_pos (by omega), e1 _ _ (by omega), e1 _ _ (by omega), show 20 * (zsur s).length + k - 20 * (zsur s).length = 0 + k by omega]; exact ⟨rfl, rfl⟩
    · rw [gi_ne (by omega), p3 _ _ (by omega) (by omega), e1 _ _ (by omega)]; exact h28
    · exact ysto_fr (fun k _ => ⟨by rw [gi_ne (by omega), p3 _ _ (by omega) (by omega), e1 _ _ (by omega)], by rw [gi_ne (by omega), p3 _ _ (by omega) (by omega), e1 _ _ (by omega)]⟩) hsto
    · rw [gi_ne (by omega), p3 _ _ (by omega) (by omega), e1 _ _ (by omega)]; exact h30
end YG
