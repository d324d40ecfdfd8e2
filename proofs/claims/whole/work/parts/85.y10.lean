/-! ===== y: the reference's whole runs, as calls see them ===== -/
/-- what a call's run may change -/
def yfz (m m' : XM) : Prop := (∀ a k, a < 85 ∨ (85 < a ∧ a < 94) ∨ 106 ≤ a → gi m' a k = gi m a k) ∧ (∀ k, k < 27 ∨ 38 ≤ k → k ≠ 16 → k ≠ 41 → gi m' 85 k = gi m 85 k) ∧ (∀ a k, gl m' a k = gl m a k) ∧ ∀ a k, gr m' a k = gr m a k
theorem yfz_rf (m : XM) : yfz m m := ⟨fun _ _ _ => rfl, fun _ _ _ _ => rfl, fun _ _ => rfl, fun _ _ => rfl⟩
theorem yfz_q {m m' : XM} (h : yfq m m') : yfz m m' := ⟨h.1, fun k hk _ _ => h.2.1 k hk, h.2.2⟩
theorem yfz_tr {m m1 m2 : XM} (h : yfz m m1) (g : yfz m1 m2) : yfz m m2 := ⟨fun a k q => (g.1 a k q).trans (h.1 a k q), fun k q q1 q2 => (g.2.1 k q q1 q2).trans (h.2.1 k q q1 q2), fun a k => (g.2.2.1 a k).trans (h.2.2.1 a k), fun a k => (g.2.2.2 a k).trans (h.2.2.2 a k)⟩
theorem yfz_si {m m1 : XM} {k : Nat} {v : Int32} (h : yfz m m1) (hk : k = 16 ∨ k = 41) : yfz m (si m1 85 k v) :=
  ⟨fun b j q => by rw [gi_ne (by omega)]; exact h.1 b j q, fun j q q1 q2 => by rw [gi_ne (by omega)]; exact h.2.1 j q q1 q2, fun b j => h.2.2.1 b j, fun b j => h.2.2.2 b j⟩
section YN
variable {N : Nat → Nat} {b : Bool} {P : zP} {K : Nat → Int32}
theorem yU_z {m m' : XM} (h : yU N m P) (g : yfz m m') : yU N m' P :=
  ⟨h.1, yR_fr (fun k => g.2.2.2 85 k) h.2.1, h.2.2.1, yMP_fr (fun k => g.1 88 k (by omega)) (fun k => g.1 90 k (by omega)) h.2.2.2⟩
def yShow (m : XM) (P : zP) (q : Bool × zS) : Prop := yFin true (si m 85 41 (zN 1)) P q
theorem yFin_fr {m m' : XM} {q : Bool × zS} (h0 : ∀ a k, 94 ≤ a → a < 106 → gi m' a k = gi m a k) (h1 : ∀ k, 27 ≤ k → k < 42 → gi m' 85 k = gi m 85 k) (h : yFin b m P q) : yFin b m' P q := by
  obtain ⟨q1, q2, q3, q4⟩ := h
  refine ⟨q1, yMr_fr h0 h1 q2, by rw [h1 _ (by omega) (by omega)]; exact q3, fun g => ?_⟩
  obtain ⟨⟨p1, p2⟩, p3⟩ := q4 g
  exact ⟨⟨by rw [h1 _ (by omega) (by omega)]; exact p1, ysto_fr (fun k _ => ⟨h0 _ _ (by omega) (by omega), h0 _ _ (by omega) (by omega)⟩) p2⟩, p3⟩
theorem yc_lays {m : XM} {p : Nat} (hU : yU N m P) (hp : gi m 85 34 = zN p) (hp10 : p ≤ 10) (h41 : gi m 85 41 = zN 0) (hl : gi m 85 16 = zN 0 ∨ (gi m 85 16 = zN 1 ∧ yShow m P (zPlain P))) :
    ∃ m', fX9_lays N 85 m = some m' ∧ yfz m m' ∧ yShow m' P (zPlain P) ∧ gi m' 85 16 = zN 1 ∧ gi m' 85 41 = zN 0 ∧ ∃ p', gi m' 85 34 = zN p' ∧ p' ≤ 10 := by
  unfold fX9_lays
  rcases hl with h16 | ⟨h16, hs⟩
  · have hM0 : ∃ m1, fX9_begins N 85 m = some m1 ∧ yfq m m1 ∧ yMR false m1 P (zInit p) := yc_begins hU hp hp10 h41
    obtain ⟨m1, a1, a2, a3⟩ := hM0
    have hU1 := yU_q hU a2
    have f1 : yfz m1 (si m1 85 41 (zN 1)) := yfz_si (yfz_rf m1) (by omega)
    have hR1 : yMR true (si m1 85 41 (zN 1)) P (zInit p) := by
      obtain ⟨s1, ⟨q1, q2, q3, q4, q5, q6, q7, q8, q9, q10, q11, q12, q13⟩, s3, s4⟩ := a3
      refine ⟨s1, ⟨fun u hu => ?_, fun x hx => ?_, fun x hx => ?_, ?_, trivial, ?_, ?_, ?_, ?_, ?_, fun u hu => ?_, gi_si _ _ _ _, fun _ => trivial⟩, yMo_si s3 (by omega) (by omega) (by omega), ?_⟩
      · rw [gi_ne (by omega)]; exact q1 u hu
      · rw [gi_ne (by omega)]; exact q2 x hx
      · rw [gi_ne (by omega)]; exact q3 x hx
      · rw [gi_ne (by omega)]; exact q4
      · rw [gi_ne (by omega)]; exact q6
      · rw [gi_ne (by omega)]; exact q7
      · rw [gi_ne (by omega)]; exact q8
      · rw [gi_ne (by omega)]; exact q9
      · rw [gi_ne (by omega)]; exact q10
      · rw [gi_ne (by omega), gi_ne (by omega), gi_ne (by omega)]; exact q11 u hu
      · rw [gi_ne (by omega)]; exact s4
    obtain ⟨m2, b1, b2, b3⟩ := yc_main hU.2.2.1 (K := gi (si m1 85 41 (zN 1)) 88) ⟨yU_z hU1 f1, rfl⟩ hR1 rfl
    refine ⟨si (si m2 85 41 (zN 0)) 85 16 (zN 1), ?_, ?_, ?_, gi_si _ _ _ _, ?_, ?_⟩
    · simp only [zv, h16, zN_lit, if_true, a1, zcv, b1]
    · exact yfz_si (yfz_si (yfz_tr (yfz_q a2) (yfz_tr f1 (yfz_q b2))) (by omega)) (by omega)
    · have b4 : yFin true m2 P (zPlain P) := b3
      have h41' : gi m2 85 41 = zN 1 := b4.2.1.2.2.2.2.2.2.2.2.2.2.2.1
      refine yFin_fr (fun a k h1 h2 => ?_) (fun k h1 h2 => ?_) b4
      · rw [gi_ne (by omega), gi_ne (by omega), gi_ne (by omega)]
      · by_cases e : k = 41
        · rw [e, gi_si, h41']
        · rw [gi_ne (by omega), gi_ne (by omega), gi_ne (by omega)]
    · rw [gi_ne (by omega), gi_si]
    · refine ⟨zsp (zPlain P).2, ?_, b3.1.2.2.2.2.2.2.1⟩
      rw [gi_ne (by omega), gi_ne (by omega)]
      exact b3.2.1.2.2.2.2.2.2.2.2.2.1
  · refine ⟨m, ?_, yfz_rf m, hs, h16, h41, p, hp, hp10⟩
    simp (disch := omega) only [zv, h16, zN_lit, zN10, if_false]
/-- an order as a number -/
def yord : List Nat → Nat → Nat
  | [], a => a
  | u :: l, a => yord l (10 * a + u)
theorem yord_eq : ∀ (l : List Nat) (a : Nat), yord l a = a * 10 ^ l.length + yord l 0
  | [], a => by show a = a * 1 + 0; omega
  | u :: l, a => by
    show yord l (10 * a + u) = a * 10 ^ (l.length + 1) + yord l (10 * 0 + u)
    rw [yord_eq l (10 * a + u), yord_eq l (10 * 0 + u), Nat.pow_succ, Nat.add_mul, Nat.mul_zero, Nat.zero_add, Nat.mul_comm 10 a, Nat.mul_assoc, Nat.mul_comm 10 (10 ^ l.length)]
    omega
theorem yord_lt : ∀ (l : List Nat), (∀ u ∈ l, u < 10) → yord l 0 < 10 ^ l.length
  | [], _ => by show 0 < 1; omega
  | u :: l, h => by
    show yord l (10 * 0 + u) < 10 ^ (l.length + 1)
    rw [yord_eq, Nat.mul_zero, Nat.zero_add, Nat.pow_succ]
    have h1 := yord_lt l (fun v hv => h v (List.mem_cons_of_mem _ hv))
    have h2 := h u List.mem_cons_self
    have h3 : u * 10 ^ l.length ≤ 9 * 10 ^ l.length := Nat.mul_le_mul_right _ (by omega)
    omega
theorem ypow_lt {n : Nat} (h : n ≤ 7) : 10 ^ n ≤ 10000000 := Nat.pow_le_pow_right (by omega) h
/-- units begun ahead by the reference -/
def yAhead (P : zP) (p : Nat) (us : List Nat) : Bool × zS := if (zTouches P us (zInit p)).1 then (true, (zTouches P us (zInit p)).2) else zMain P (zTouches P us (zInit p)).2
theorem yc_eager_39 (hw : zwf P) {A : Nat} (hn : 0 < zn P) : ∀ (l : List Nat) (n a : Nat) (m : XM) (s : zS), l.length < n → l.length ≤ 7 → (∀ u ∈ l, u < zn P) → A = yord l a → A < 10000000 → yW N K m P → (∃ j, j < 2 ∧ gi m 85 30 = zN j) → zSi P s → yMr false m P s → yMo m s → zopn s = [] →
    ∃ m', fX9_goesEager_39 N n 85 (zN A) (if l = [] then zN 0 else zN (10 ^ (l.length - 1))) m = some m' ∧ yfq m m' ∧ yFin false m' P (if (zTouches P l s).1 then (true, (zTouches P l s).2) else zMain P (zTouches P l s).2) := by
  intro l
  induction l with
  | nil =>
    intro n a m s hg _ hu hA hA7 hW hj hS hr ho hop
    obtain ⟨n, rfl⟩ : ∃ k, n = k + 1 := ⟨n - 1, by simp at hg; omega⟩
    obtain ⟨j, j1, j2⟩ := hj
    have f0 : yfq m (si m 85 30 (zN 0)) := yfq_si (yfq_rf m)
    obtain ⟨m', b1, b2, b3⟩ := yc_main hw (yW_q hW f0) ⟨hS, yMr_op (by omega) hr, yMo_si ho (by omega) (by omega) (by omega), gi_si _ _ _ _⟩ hop
    refine ⟨m', ?_, yfq_tr f0 b2, b3⟩
    unfold fX9_goesEager_39 fX9_goesEager_83
    have hj2 : ¬ j = 2 := by omega
    simp (disch := omega) only [zv, zN_lit, zN_le, if_true, Nat.le_refl, j2, zN_eq, hj2, if_false, b1, zcv]
  | cons u l ih =>
    intro n a m s hg hl7 hu hA hA7 hW hj hS hr ho hop
    simp only [List.length_cons] at hg hl7
    obtain ⟨n, rfl⟩ : ∃ k, n = k + 1 := ⟨n - 1, by omega⟩
    obtain ⟨j, j1, j2⟩ := hj
    have hu1 := hu u List.mem_cons_self
    have hz := hw.1
    obtain ⟨⟨⟨-, -, n88, -⟩, ⟨-, -, g9, -⟩, -, ⟨h0, -⟩⟩, -⟩ := id hW
    have hpow := ypow_lt (n := l.length) (by omega)
    have hpos : 0 < 10 ^ l.length := Nat.pow_pos (by omega)
    have hA1 : A = (10 * a + u) * 10 ^ l.length + yord l 0 := by rw [hA]; show yord l (10 * a + u) = _; exact yord_eq _ _
    have hlt := yord_lt l (fun v hv => by have := hu v (List.mem_cons_of_mem _ hv); omega)
    have hdiv : A / 10 ^ l.length % 10 = u := by
      have : A / 10 ^ l.length = 10 * a + u := by
        rw [hA1, Nat.add_comm, Nat.add_mul_div_right _ _ hpos, Nat.div_eq_of_lt hlt, Nat.zero_add]
      omega
    have hrem : xrem (zN (A / 10 ^ l.length)) (zN 10) = zN u := by
      have h1 : A / 10 ^ l.length ≤ A := Nat.div_le_self _ _
      rw [zN_rem (by omega) (by omega), hdiv]
    have hx2 : 10 ^ l.length / 10 = (if l = [] then 0 else 10 ^ (l.length - 1)) := by
      cases l with
      | nil => rfl
      | cons v l =>
        rw [if_neg (by simp)]
        show 10 ^ (l.length + 1) / 10 = 10 ^ (l.length + 1 - 1)
        rw [Nat.pow_succ, Nat.mul_div_cancel _ (by omega), Nat.add_sub_cancel]
    have f0 : yfq m (si m 85 30 (zN 0)) := yfq_si (yfq_rf m)
    have hR0 : yMR false (si m 85 30 (zN 0)) P s := ⟨hS, yMr_op (by omega) hr, yMo_si ho (by omega) (by omega) (by omega), gi_si _ _ _ _⟩
    obtain ⟨iT, iC⟩ := zI_L hw 20
    obtain ⟨oT, oC⟩ := zKo_L P 20
    have hol : (zopn s).length + 20 = 20 := by rw [hop]; rfl
    have hW0 := yW_q hW f0
    have hQ := yg_touch (N := N) (b := false) (K := K) hw (si m 85 30 (zN 0)) s u hu1 hW0 hR0 hol
    have hI := (iT u s hu1 hS hol).1
    have hO := oT u s
    have hTs : zTouches P (u :: l) s = if ((zL P 20).1 u s).1 = 2 then (true, ((zL P 20).1 u s).2.2) else zTouches P l ((zL P 20).1 u s).2.2 := rfl
    rw [hTs]
    rw [if_neg (show ¬ (u :: l) = [] by simp), List.length_cons, Nat.add_sub_cancel]
    have hj2 : ¬ j = 2 := by omega
    have hp0 : ¬ 10 ^ l.length ≤ 0 := by omega
    have hn0 : ¬ zn P ≤ 0 := by omega
    unfold fX9_goesEager_39
    simp (disch := omega) only [zv, zN_lit, zN_le, hp0, if_false, zgr g9, zald, h0, hn0, j2, zN_eq, hj2, zdv, zN_div, hrem, hx2]
    generalize (zL P 20).1 u s = r at *
    obtain ⟨v, m1, q1, q2, -⟩ := hQ
    rw [q1]
    simp only [Option.map_some, zcv]
    have hW1 := yW_q hW0 q2.1
    have hif : zN (if l = [] then 0 else 10 ^ (l.length - 1)) = if l = [] then zN 0 else zN (10 ^ (l.length - 1)) := by split <;> rfl
    rw [hif]
    have hc : r.1 = 0 ∨ r.1 = 1 ∨ r.1 = 2 := by have := q2.2.1; omega
    by_cases e2 : r.1 = 2
    · rw [if_pos e2]
      obtain ⟨p2, p4⟩ := q2.2.2.2.2 e2
      refine ⟨m1, ?_, yfq_tr f0 q2.1, ?_⟩
      · obtain ⟨n, rfl⟩ : ∃ k, n = k + 1 := ⟨n - 1, by omega⟩
        obtain ⟨⟨-, ⟨-, -, g9', -⟩, -, ⟨h0', -⟩⟩, -⟩ := id hW1
        unfold fX9_goesEager_39 fX9_goesEager_83
        simp (disch := omega) only [zv, zN_lit, zgr g9', zald, h0', zN_le, hn0, if_false, p4, if_true, ite_self]
      · exact ⟨hI, p2, p4, fun g => (by cases g)⟩
    · rw [if_neg e2]
      have hst : ∃ j, j < 2 ∧ gi m1 85 30 = zN j := by
        rcases hc with e | e | e
        · exact ⟨0, by omega, (q2.2.2.1 e).2.2⟩
        · exact ⟨1, by omega, (q2.2.2.2.1 e).2.2.2⟩
        · exact absurd e e2
      have hrr : yMr false m1 P r.2.2 ∧ yMo m1 r.2.2 := by
        rcases hc with e | e | e
        · exact ⟨(q2.2.2.1 e).1, (q2.2.2.1 e).2.1⟩
        · exact ⟨(q2.2.2.2.1 e).1, (q2.2.2.2.1 e).2.1⟩
        · exact absurd e e2
      obtain ⟨m', w1, w2, w3⟩ := ih n (10 * a + u) m1 r.2.2 (by omega) (by omega) (fun v hv => hu v (List.mem_cons_of_mem _ hv)) hA hA7 hW1 hst hI hrr.1 hrr.2 ((hO e2).trans hop)
      exact ⟨m', w1, yfq_tr (yfq_tr f0 q2.1) w2, w3⟩
theorem yc_eager_18 {m : XM} (hU : yU N m P) {A : Int32} : ∀ (d n i : Nat), d < n → i + d = max 1 (zn P) → 1 ≤ i → fX9_goesEager_18 N n 85 A (zN (10 ^ (i - 1))) (zN i) m = fX9_goesEager_39 N XF 85 A (zN (10 ^ (max 1 (zn P) - 1))) m := by
  have hz := hU.2.2.1.1
  obtain ⟨⟨-, -, n88, -⟩, ⟨-, -, g9, -⟩, -, ⟨h0, -⟩⟩ := hU
  intro d
  induction d with
  | zero =>
    intro n i hn hi h1
    obtain ⟨n, rfl⟩ : ∃ k, n = k + 1 := ⟨n - 1, by omega⟩
    unfold fX9_goesEager_18
    simp (disch := omega) only [zv, zN_lit, zgr g9, zald, h0, zN_le]
    rw [if_pos (by omega), show max 1 (zn P) = i by omega]
  | succ d ih =>
    intro n i hn hi h1
    obtain ⟨n, rfl⟩ : ∃ k, n = k + 1 := ⟨n - 1, by omega⟩
    have := ih n (i + 1) (by omega) (by omega) (by omega)
    unfold fX9_goesEager_18
    simp (disch := omega) only [zv, zN_lit, zgr g9, zald, h0, zN_le, zN_mul, zN_add]
    rw [if_neg (by omega), ← this, show 10 ^ (i - 1) * 10 = 10 ^ (i + 1 - 1) by rw [← Nat.pow_succ]; congr 1; omega]
theorem yc_eager {m : XM} {p : Nat} {us : List Nat} (hU : yU N m P) (hp : gi m 85 34 = zN p) (hp10 : p ≤ 10) (h41 : gi m 85 41 = zN 0) (hl : us.length = zn P) (hu : ∀ u ∈ us, u < zn P) :
    ∃ m', fX9_goesEager N 85 (zN (yord us 0)) m = some m' ∧ yfz m m' ∧ yFin false m' P (yAhead P p us) ∧ gi m' 85 16 = zN 0 ∧ gi m' 85 41 = zN 0 ∧ ∃ p', gi m' 85 34 = zN p' ∧ p' ≤ 10 := by
  have hwf := hU.2.2.1
  have hz := hwf.1
  have f0 : yfz m (si m 85 16 (zN 0)) := yfz_si (yfz_rf m) (by omega)
  have hU0 := yU_z hU f0
  obtain ⟨m1, a1, a2, a3⟩ := yc_begins (b := false) hU0 (p := p) (by rw [gi_ne (by omega)]; exact hp) hp10 (by rw [gi_ne (by omega)]; exact h41)
  have hU1 := yU_q hU0 a2
  have f1 : yfz m1 (si m1 85 41 (zN 0)) := yfz_si (yfz_rf m1) (by omega)
  have hU2 := yU_z hU1 f1
  have hR2 : yMR false (si m1 85 41 (zN 0)) P (zInit p) := by
    have h41' : gi m1 85 41 = zN 0 := a3.2.1.2.2.2.2.2.2.2.2.2.2.2.1
    refine ⟨a3.1, yMr_fr (fun a k h1 h2 => gi_ne (by omega)) (fun k h1 h2 => ?_) a3.2.1, yMo_si a3.2.2.1 (by omega) (by omega) (by omega), by rw [gi_ne (by omega)]; exact a3.2.2.2⟩
    by_cases e : k = 41
    · rw [e, gi_si, h41']
    · rw [gi_ne (by omega)]
  have hmain : ∃ m', fX9_goesEager_39 N XF 85 (zN (yord us 0)) (zN (10 ^ (max 1 (zn P) - 1))) (si m1 85 41 (zN 0)) = some m' ∧ yfq (si m1 85 41 (zN 0)) m' ∧ yFin false m' P (yAhead P p us) := by
    have hX := zXF
    revert hX
    generalize XF = nf
    intro hX
    by_cases hn : zn P = 0
    · have hus : us = [] := List.eq_nil_of_length_eq_zero (by omega)
      subst hus
      have f3 : yfq (si m1 85 41 (zN 0)) (si (si m1 85 41 (zN 0)) 85 30 (zN 0)) := yfq_si (yfq_rf _)
      obtain ⟨m', b1, b2, b3⟩ := yc_main hwf (K := gi (si (si m1 85 41 (zN 0)) 85 30 (zN 0)) 88) ⟨yU_q hU2 f3, rfl⟩ (b := false) (s := zInit p) ⟨hR2.1, yMr_op (by omega) hR2.2.1, yMo_si hR2.2.2.1 (by omega) (by omega) (by omega), gi_si _ _ _ _⟩ rfl
      refine ⟨m', ?_, yfq_tr f3 b2, b3⟩
      obtain ⟨n, rfl⟩ : ∃ k, nf = k + 1 := ⟨nf - 1, by omega⟩
      obtain ⟨⟨-, -, n88, -⟩, ⟨-, -, g9, -⟩, -, ⟨h0, -⟩⟩ := id hU2
      have h30 := hR2.2.2.2
      rw [hn] at h0
      unfold fX9_goesEager_39 fX9_goesEager_83
      have e1 : zN (10 ^ (max 1 (zn P) - 1)) = zN 1 := by rw [hn]; rfl
      rw [e1]
      have hne : ¬ (0 : Nat) = 2 := by omega
      simp (disch := omega) only [zv, zN_lit, zN_le, zgr g9, zald, h0, Nat.le_refl, if_true, h30, zN_eq, hne, if_false, b1, zcv, ite_self]
    · have hlt := yord_lt us (fun v hv => by have := hu v hv; omega)
      have hpow := ypow_lt (n := us.length) (by omega)
      have hne : ¬ us = [] := fun e => by rw [e] at hl; simp at hl; omega
      obtain ⟨m', w1, w2, w3⟩ := yc_eager_39 (N := N) (K := gi (si m1 85 41 (zN 0)) 88) hwf (A := yord us 0) (by omega) us nf 0 (si m1 85 41 (zN 0)) (zInit p) (by omega) (by omega) hu rfl (by omega) ⟨hU2, rfl⟩ ⟨0, by omega, hR2.2.2.2⟩ hR2.1 hR2.2.1 hR2.2.2.1 rfl
      refine ⟨m', ?_, w2, w3⟩
      rw [if_neg hne] at w1
      rw [show max 1 (zn P) = us.length by omega]
      exact w1
  obtain ⟨m', w1, w2, w3⟩ := hmain
  refine ⟨m', ?_, yfz_tr f0 (yfz_tr (yfz_q a2) (yfz_tr f1 (yfz_q w2))), w3, ?_, ?_, zsp (yAhead P p us).2, w3.2.1.2.2.2.2.2.2.2.2.2.1, w3.1.2.2.2.2.2.2.1⟩
  · unfold fX9_goesEager
    simp only [zv, zN_lit, a1, zcv]
    rw [← w1]
    have hX := zXF
    exact yc_eager_18 hU2 (max 1 (zn P) - 1) XF 1 (by omega) (by omega) (by omega)
  · rw [w2.2.1 _ (by omega), gi_ne (by omega), a2.2.1 _ (by omega), gi_si]
  · rw [w2.2.1 _ (by omega), gi_si]
end YN
