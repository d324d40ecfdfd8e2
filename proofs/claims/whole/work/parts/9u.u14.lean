/-! ===== u: alike ===== -/
def zA1 (P : zP) (s t : zS) (x : Nat) : Prop := zknd P x = 1 → zval s x = zval t x
def zAl (P : zP) (s t : zS) (u0 : Nat) : Prop := ∀ u, u0 ≤ u → u < zn P → zst s u = 2 → ∀ j, j < zcnt P u → zA1 P s t (12 * u + j)
section UN
variable {N : Nat → Nat} {m : XM} {c d : Nat} {S : zJ} {P : zP}
theorem u_agr_5 (hw : zwf P) {s t : zS} (hUN : zUN N c) (hUr : zUr m c) (hCP : zCP m c P) (g0 : gr m 50 0 = some c) (g2 : gr m 50 2 = some 52) (g2' : gr m 63 2 = some 65) (n52 : N 52 = 84) (n65 : N 65 = 84) (h1 : ∀ x, zok P x → gi m 52 x = zval s x) (h2 : ∀ x, zok P x → gi m 65 x = zval t x) {u : Nat} (hu : u < zn P) : ∀ (dd n j : Nat), dd < n → j + dd = zcnt P u → ((∀ i, j ≤ i → i < zcnt P u → zA1 P s t (12 * u + i)) → fX2_agreesIn_5 N n 50 (zN u) 63 (zN (12 * u + j)) m = some (zN 1, m)) ∧ (¬ (∀ i, j ≤ i → i < zcnt P u → zA1 P s t (12 * u + i)) → fX2_agreesIn_5 N n 50 (zN u) 63 (zN (12 * u + j)) m = some (zN 0, m)) := by
  have hz := hw.1
  have hcn := (hw.2.1 u hu).1
  obtain ⟨-, -, u3, u4, -⟩ := hUN
  obtain ⟨-, -, r3, r4, -⟩ := hUr
  have hc3 := (hCP.2.2.1 u hu).2.2
  intro dd
  induction dd with
  | zero =>
    intro n j hn hj
    obtain ⟨n, rfl⟩ : ∃ k, n = k + 1 := ⟨n - 1, by omega⟩
    have hf : fX2_agreesIn_5 N (n + 1) 50 (zN u) 63 (zN (12 * u + j)) m = some (zN 1, m) := by
      unfold fX2_agreesIn_5
      simp (disch := omega) only [zv, zN_lit, zN_mul, zgr g0, zgr r3, zald, hc3, zN_add, zN_le]
      rw [if_pos (by omega)]
    exact ⟨fun _ => hf, fun h => absurd (fun i h1 h2 => by omega) h⟩
  | succ dd ih =>
    intro n j hn hj
    obtain ⟨n, rfl⟩ : ∃ k, n = k + 1 := ⟨n - 1, by omega⟩
    have hx : zok P (12 * u + j) := ⟨by omega, by rw [show (12 * u + j) / 12 = u by omega]; omega⟩
    have hk := (hCP.2.2.2.1 _ hx).1
    have hk4 := (hw.2.2.1 _ hx).1
    obtain ⟨i1, i2⟩ := ih n (j + 1) (by omega) (by omega)
    have hf : fX2_agreesIn_5 N (n + 1) 50 (zN u) 63 (zN (12 * u + j)) m = if zknd P (12 * u + j) = 1 then (if zval s (12 * u + j) = zval t (12 * u + j) then fX2_agreesIn_5 N n 50 (zN u) 63 (zN (12 * u + (j + 1))) m else some (zN 0, m)) else fX2_agreesIn_5 N n 50 (zN u) 63 (zN (12 * u + (j + 1))) m := by
      rw [fX2_agreesIn_5]
      unfold fX2_agreesIn_53
      have hle : ¬ u * 12 + zcnt P u ≤ 12 * u + j := by omega
      simp (disch := omega) only [zv, zN_lit, zN_mul, zgr g0, zgr r3, zald, hc3, zN_add, zN_le, hle, if_false, zgr r4, hk, zN_eq, zgr g2, zgr g2', h1 _ hx, h2 _ hx]
      rfl
    rw [hf]
    by_cases e : zknd P (12 * u + j) = 1
    · rw [if_pos e]
      by_cases e2 : zval s (12 * u + j) = zval t (12 * u + j)
      · rw [if_pos e2]
        refine ⟨fun h => i1 (fun i h1 h2 => h i (by omega) h2), fun h => i2 (fun g => h (fun i h1 h2 => ?_))⟩
        by_cases ei : i = j
        · rw [ei]; exact fun _ => e2
        · exact g i (by omega) h2
      · rw [if_neg e2]
        exact ⟨fun h => absurd (h j (Nat.le_refl _) (by omega) e) e2, fun _ => rfl⟩
    · rw [if_neg e]
      refine ⟨fun h => i1 (fun i h1 h2 => h i (by omega) h2), fun h => i2 (fun g => h (fun i h1 h2 => ?_))⟩
      by_cases ei : i = j
      · rw [ei]; exact fun q => absurd q e
      · exact g i (by omega) h2
theorem u_agr_2 (hw : zwf P) {s t : zS} (hs3 : ∀ u, zst s u ≤ 3) (hUN : zUN N c) (hUr : zUr m c) (hCP : zCP m c P) (g0 : gr m 50 0 = some c) (g1 : gr m 50 1 = some 51) (g2 : gr m 50 2 = some 52) (g2' : gr m 63 2 = some 65) (n51 : N 51 = 7) (n52 : N 52 = 84) (n65 : N 65 = 84) (h0 : ∀ u, u < 7 → gi m 51 u = zN (zst s u)) (h1 : ∀ x, zok P x → gi m 52 x = zval s x) (h2 : ∀ x, zok P x → gi m 65 x = zval t x) : ∀ (dd n u : Nat), dd < n → u + dd = zn P → (zAl P s t u → fX2_agreesWhereDone_2 N n 50 63 (zN u) m = some (zN 1, m)) ∧ (¬ zAl P s t u → fX2_agreesWhereDone_2 N n 50 63 (zN u) m = some (zN 0, m)) := by
  have hz := hw.1
  have hX := zXF
  have hd0 := hCP.1
  intro dd
  induction dd with
  | zero =>
    intro n u hn hu
    obtain ⟨n, rfl⟩ : ∃ k, n = k + 1 := ⟨n - 1, by omega⟩
    have hf : fX2_agreesWhereDone_2 N (n + 1) 50 63 (zN u) m = some (zN 1, m) := by
      unfold fX2_agreesWhereDone_2
      simp (disch := omega) only [zv, zgr g0, hd0, zN_le, zN_lit]
      rw [if_pos (by omega)]
    exact ⟨fun _ => hf, fun h => absurd (fun v h1 h2 => by omega) h⟩
  | succ dd ih =>
    intro n u hn hu
    obtain ⟨n, rfl⟩ : ∃ k, n = k + 1 := ⟨n - 1, by omega⟩
    obtain ⟨i1, i2⟩ := ih n (u + 1) (by omega) (by omega)
    have hcn := (hw.2.1 u (by omega)).1
    have hst := h0 u (by omega)
    have h3 := hs3 u
    have hag := u_agr_5 (N := N) (m := m) (c := c) hw (s := s) (t := t) hUN hUr hCP g0 g2 g2' n52 n65 h1 h2 (u := u) (by omega) (zcnt P u) XF 0 (by omega) (by omega)
    rw [Nat.add_zero] at hag
    have hle : ¬ zn P ≤ u := by omega
    by_cases e : zst s u = 2
    · by_cases ea : ∀ i, 0 ≤ i → i < zcnt P u → zA1 P s t (12 * u + i)
      · have hin : fX2_agreesIn N 50 (zN u) 63 m = some (zN 1, m) := by
          unfold fX2_agreesIn
          simp only [zv, zN_lit, zN_mul]
          rw [Nat.mul_comm]; exact hag.1 ea
        have hf : fX2_agreesWhereDone_2 N (n + 1) 50 63 (zN u) m = fX2_agreesWhereDone_2 N n 50 63 (zN (u + 1)) m := by
          rw [fX2_agreesWhereDone_2]
          unfold fX2_agreesWhereDone_34
          simp (disch := omega) only [zv, zgr g0, hd0, zN_le, hle, if_false, zgr g1, zald, hst, e, zN_lit, if_true, hin, zca, zN10, zN_add]
        rw [hf]
        refine ⟨fun h => i1 (fun v h1 => h v (by omega)), fun h => i2 (fun g => h (fun v h1 h2 h3 j hj => ?_))⟩
        by_cases ev : v = u
        · rw [ev] at hj ⊢; exact ea j (by omega) hj
        · exact g v (by omega) h2 h3 j hj
      · have hin : fX2_agreesIn N 50 (zN u) 63 m = some (zN 0, m) := by
          unfold fX2_agreesIn
          simp only [zv, zN_lit, zN_mul]
          rw [Nat.mul_comm]; exact hag.2 ea
        have hf : fX2_agreesWhereDone_2 N (n + 1) 50 63 (zN u) m = some (zN 0, m) := by
          rw [fX2_agreesWhereDone_2]
          simp (disch := omega) only [zv, zgr g0, hd0, zN_le, hle, if_false, zgr g1, zald, hst, e, zN_lit, if_true, hin, zca]
        rw [hf]
        exact ⟨fun h => absurd (fun i _ hi => h u (Nat.le_refl _) (by omega) e i hi) ea, fun _ => rfl⟩
    · have hf : fX2_agreesWhereDone_2 N (n + 1) 50 63 (zN u) m = fX2_agreesWhereDone_2 N n 50 63 (zN (u + 1)) m := by
        rw [fX2_agreesWhereDone_2]
        unfold fX2_agreesWhereDone_34
        simp (disch := omega) only [zv, zgr g0, hd0, zN_le, hle, if_false, zgr g1, zald, hst, zN_lit, zN_eq, e, zN_add]
      rw [hf]
      refine ⟨fun h => i1 (fun v h1 => h v (by omega)), fun h => i2 (fun g => h (fun v h1 h2 h3 j hj => ?_))⟩
      by_cases ev : v = u
      · rw [ev] at h3; exact absurd h3 e
      · exact g v (by omega) h2 h3 j hj
theorem y_agr_134 (hw : jW P) {s t : zS} (hs3 : ∀ u, zst s u ≤ 3) (hU : yU N m P) (h0 : ∀ u, u < 7 → gi m 107 u = zN (zst s u)) (h1 : ∀ x, zok P x → gi m 106 (zmid P x) = zval s x) (h2 : ∀ x, zok P x → gi m 96 (zmid P x) = zval t x) {r121 : Nat → Int32 → XM → Option (Int32 × XM)} {u : Nat} (hu : u < zn P) : ∀ (dd n i : Nat), dd < n → i + dd = zcnt P u → ((zst s u = 2 → ∀ k, i ≤ k → k < zcnt P u → zA1 P s t (12 * u + zplc P u k)) → fX9_alike_134 N r121 n 85 (zN u) (zN i) m = r121 85 (zN (u + 1)) m) ∧ (¬ (zst s u = 2 → ∀ k, i ≤ k → k < zcnt P u → zA1 P s t (12 * u + zplc P u k)) → fX9_alike_134 N r121 n 85 (zN u) (zN i) m = some (zN 0, m)) := by
  have hwf := hw.1
  have hz := hwf.1
  have hcn := (hwf.2.1 u hu).1
  obtain ⟨⟨-, -, n88, -, -, -, -, -, -, -, n96, -, -, -, -, -, -, -, -, -, n106, n107, -⟩, ⟨-, -, g9, -, -, -, -, -, -, -, g20, -, -, -, -, -, -, -, -, -, g42, g43, -⟩, -, ⟨-, -, -, hu0, hm, -⟩⟩ := hU
  have hc := (hu0 u hu).2.2.1
  have hst := h0 u (by omega)
  have h3 := hs3 u
  intro dd
  induction dd with
  | zero =>
    intro n i hn hi
    obtain ⟨n, rfl⟩ : ∃ k, n = k + 1 := ⟨n - 1, by omega⟩
    have hf : fX9_alike_134 N r121 (n + 1) 85 (zN u) (zN i) m = r121 85 (zN (u + 1)) m := by
      unfold fX9_alike_134 fX9_alike_209
      simp (disch := omega) only [zv, zgr g9, zN_lit, yo_unit, zca, hc, zN_le, zN_add]
      rw [if_pos (by omega)]
    exact ⟨fun _ => hf, fun h => absurd (fun _ k h1 h2 => by omega) h⟩
  | succ dd ih =>
    intro n i hn hi
    obtain ⟨n, rfl⟩ : ∃ k, n = k + 1 := ⟨n - 1, by omega⟩
    obtain ⟨i1, i2⟩ := ih n (i + 1) (by omega) (by omega)
    have hp := (hu0 u hu).2.2.2 i (by omega)
    have hok := zplc_ok hwf hu (i := i) (by omega)
    have hmid := zmid_lt hwf hok
    have hme := zmid_plc hwf hu (i := i) (by omega)
    have y0 := (hm _ hok).1.1
    have hk4 := (hwf.2.2.1 _ hok).1
    have hv1 := h1 _ hok
    have hv2 := h2 _ hok
    rw [hme] at y0 hv1 hv2 hmid
    have e0 := yo_mem (m := m) (a := 88) (x := zbase P u + zplc P u i) (w := 0) n88 (by omega) (by omega)
    rw [Nat.add_zero, y0] at e0
    have hle : ¬ zcnt P u ≤ i := by omega
    have hf : fX9_alike_134 N r121 (n + 1) 85 (zN u) (zN i) m = if zst s u = 2 then (if zknd P (12 * u + zplc P u i) = 1 then (if zval t (12 * u + zplc P u i) = zval s (12 * u + zplc P u i) then fX9_alike_134 N r121 n 85 (zN u) (zN (i + 1)) m else some (zN 0, m)) else fX9_alike_134 N r121 n 85 (zN u) (zN (i + 1)) m) else r121 85 (zN (u + 1)) m := by
      rw [fX9_alike_134]
      unfold fX9_alike_203 fX9_alike_209
      simp (disch := omega) only [zv, zgr g9, zN_lit, yo_unit, zca, hc, zN_le, hle, if_false, zgr g43, zald, hst, zN_eq, yo_memb, hp, e0, zgr g20, zgr g42, hv1, hv2, zN_add]
    rw [hf]
    by_cases es : zst s u = 2
    · rw [if_pos es]
      by_cases e : zknd P (12 * u + zplc P u i) = 1
      · rw [if_pos e]
        by_cases e2 : zval t (12 * u + zplc P u i) = zval s (12 * u + zplc P u i)
        · rw [if_pos e2]
          refine ⟨fun h => i1 (fun q k h1 h2 => h q k (by omega) h2), fun h => i2 (fun g => h (fun q k h1 h2 => ?_))⟩
          by_cases ei : k = i
          · rw [ei]; exact fun _ => e2.symm
          · exact g q k (by omega) h2
        · rw [if_neg e2]
          exact ⟨fun h => absurd (h es i (Nat.le_refl _) (by omega) e).symm e2, fun _ => rfl⟩
      · rw [if_neg e]
        refine ⟨fun h => i1 (fun q k h1 h2 => h q k (by omega) h2), fun h => i2 (fun g => h (fun q k h1 h2 => ?_))⟩
        by_cases ei : k = i
        · rw [ei]; exact fun q => absurd q e
        · exact g q k (by omega) h2
    · rw [if_neg es]
      exact ⟨fun _ => rfl, fun h => absurd (fun q => absurd q es) h⟩
theorem y_agr_121 (hw : jW P) {s t : zS} (hs3 : ∀ u, zst s u ≤ 3) (hU : yU N m P) (h0 : ∀ u, u < 7 → gi m 107 u = zN (zst s u)) (h1 : ∀ x, zok P x → gi m 106 (zmid P x) = zval s x) (h2 : ∀ x, zok P x → gi m 96 (zmid P x) = zval t x) : ∀ (dd n u : Nat), dd < n → u + dd = zn P → (zAl P s t u → fX9_alike_121 N n 85 (zN u) m = some (zN 1, m)) ∧ (¬ zAl P s t u → fX9_alike_121 N n 85 (zN u) m = some (zN 0, m)) := by
  have hwf := hw.1
  have hz := hwf.1
  have hX := zXF
  have hU0 := hU
  obtain ⟨⟨-, -, n88, -⟩, ⟨-, -, g9, -⟩, -, ⟨hd0, -⟩⟩ := hU
  intro dd
  induction dd with
  | zero =>
    intro n u hn hu
    obtain ⟨n, rfl⟩ : ∃ k, n = k + 1 := ⟨n - 1, by omega⟩
    have hf : fX9_alike_121 N (n + 1) 85 (zN u) m = some (zN 1, m) := by
      unfold fX9_alike_121
      generalize XF = nf
      simp (disch := omega) only [zv, zgr g9, zN_lit, zald, hd0, zN_le]
      rw [if_pos (by omega)]
    exact ⟨fun _ => hf, fun h => absurd (fun v h1 h2 => by omega) h⟩
  | succ dd ih =>
    intro n u hn hu
    obtain ⟨n, rfl⟩ : ∃ k, n = k + 1 := ⟨n - 1, by omega⟩
    obtain ⟨i1, i2⟩ := ih n (u + 1) (by omega) (by omega)
    have hcn := (hwf.2.1 u (by omega)).1
    obtain ⟨k1, k2⟩ := y_agr_134 (N := N) (m := m) hw hs3 hU0 h0 h1 h2 (r121 := fun q0 x3 m0 => fX9_alike_121 N n q0 x3 m0) (u := u) (by omega) (zcnt P u) XF 0 (by omega) (by omega)
    have hle : ¬ zn P ≤ u := by omega
    have hf : fX9_alike_121 N (n + 1) 85 (zN u) m = fX9_alike_134 N (fun q0 x3 m0 => fX9_alike_121 N n q0 x3 m0) XF 85 (zN u) (zN 0) m := by
      rw [fX9_alike_121]
      generalize XF = nf
      simp (disch := omega) only [zv, zgr g9, zN_lit, zald, hd0, zN_le, hle, if_false]
    rw [hf]
    have hpm := zps_pm hw.2.1 u (by omega)
    by_cases ea : zst s u = 2 → ∀ k, 0 ≤ k → k < zcnt P u → zA1 P s t (12 * u + zplc P u k)
    · rw [k1 ea]
      refine ⟨fun h => i1 (fun v h1 => h v (by omega)), fun h => i2 (fun g => h (fun v h1 h2 h3 j hj => ?_))⟩
      by_cases ev : v = u
      · rw [ev] at h3 hj ⊢
        obtain ⟨k, q1, q2⟩ := hpm j hj
        rw [← q2]; exact ea h3 k (by omega) q1
      · exact g v (by omega) h2 h3 j hj
    · rw [k2 ea]
      refine ⟨fun h => absurd (fun q k _ hk => ?_) ea, fun _ => rfl⟩
      exact h u (Nat.le_refl _) (by omega) q _ ((hwf.2.1 u (by omega)).2.2.2 k hk)
theorem y_cp_75 (hU : yN N) : ∀ (dd n i : Nat) (m : XM) (x y : Int32), dd < n → i + dd = 7 → yR m → ∃ m', fX9_alike_75 N n 85 x y (zN i) m = (xcv (fX9_goesEager N 85 x m') fun m1 => if y = zN 0 then (xv (gi m1 85 30) fun v2 => if v2 = zN 2 then (some (zN 0 - zN 2, m1)) else (fX9_alike_121 N XF 85 (zN 0) m1)) else (some (zN 0 - zN 2, m1))) ∧ (∀ a k, a ≠ 107 → gi m' a k = gi m a k) ∧ (∀ a k, gl m' a k = gl m a k) ∧ (∀ a k, gr m' a k = gr m a k) ∧ ∀ k, gi m' 107 k = if i ≤ k ∧ k < 7 then gi m 94 k else gi m 107 k := by
  obtain ⟨-, -, -, -, -, -, -, -, n94, -, -, -, -, -, -, -, -, -, -, -, -, n107, -⟩ := hU
  intro dd
  induction dd with
  | zero =>
    intro n i m x y hn hi hR
    obtain ⟨n, rfl⟩ : ∃ k, n = k + 1 := ⟨n - 1, by omega⟩
    refine ⟨m, ?_, fun _ _ _ => rfl, fun _ _ => rfl, fun _ _ => rfl, fun k => by rw [if_neg (by omega)]⟩
    unfold fX9_alike_75
    generalize XF = nf
    have h2 : -zN 2 = zN 0 - zN 2 := by decide
    simp (disch := omega) only [zv, zN_lit, zN_le, h2]
    rw [if_pos (by omega)]
  | succ dd ih =>
    intro n i m x y hn hi hR
    obtain ⟨n, rfl⟩ : ∃ k, n = k + 1 := ⟨n - 1, by omega⟩
    have hR0 := hR
    obtain ⟨-, -, -, -, -, -, -, -, g18, -, -, -, -, -, -, -, -, -, -, -, -, g43, -⟩ := hR
    obtain ⟨m', p1, p2, p3, p4, p5⟩ := ih n (i + 1) (si m 107 i (gi m 94 i)) x y (by omega) (by omega) hR0
    refine ⟨m', ?_, fun a k ha => by rw [p2 a k ha, gi_ne (by omega)], p3, p4, fun k => ?_⟩
    · rw [← p1, fX9_alike_75]
      generalize XF = nf
      simp (disch := omega) only [zv, zN_lit, zN_le, zgr g43, zgr g18, zald, zast, zN_add]
      rw [if_neg (by omega)]
    · rw [p5 k]
      by_cases e : k = i
      · subst e; rw [if_neg (by omega), if_pos (by omega), gi_si]
      · by_cases e2 : i ≤ k ∧ k < 7
        · rw [if_pos (by omega), if_pos e2, gi_ne (by omega)]
        · rw [if_neg (by omega), if_neg e2, gi_ne (by omega)]
theorem y_cp_49 (hU : yN N) : ∀ (dd n i : Nat) (m : XM) (x y : Int32), dd < n → i + dd = 84 → yR m → ∃ m', fX9_alike_49 N n 85 x y (zN i) m = fX9_alike_75 N XF 85 x y (zN 0) m' ∧ (∀ a k, a ≠ 106 → gi m' a k = gi m a k) ∧ (∀ a k, gl m' a k = gl m a k) ∧ (∀ a k, gr m' a k = gr m a k) ∧ ∀ k, gi m' 106 k = if i ≤ k ∧ k < 84 then gi m 96 k else gi m 106 k := by
  obtain ⟨-, -, -, -, -, -, -, -, -, -, n96, -, -, -, -, -, -, -, -, -, n106, -⟩ := hU
  intro dd
  induction dd with
  | zero =>
    intro n i m x y hn hi hR
    obtain ⟨n, rfl⟩ : ∃ k, n = k + 1 := ⟨n - 1, by omega⟩
    refine ⟨m, ?_, fun _ _ _ => rfl, fun _ _ => rfl, fun _ _ => rfl, fun k => by rw [if_neg (by omega)]⟩
    unfold fX9_alike_49
    generalize XF = nf
    simp (disch := omega) only [zv, zN_lit, zN_le]
    rw [if_pos (by omega)]
  | succ dd ih =>
    intro n i m x y hn hi hR
    obtain ⟨n, rfl⟩ : ∃ k, n = k + 1 := ⟨n - 1, by omega⟩
    have hR0 := hR
    obtain ⟨-, -, -, -, -, -, -, -, -, -, g20, -, -, -, -, -, -, -, -, -, g42, -⟩ := hR
    obtain ⟨m', p1, p2, p3, p4, p5⟩ := ih n (i + 1) (si m 106 i (gi m 96 i)) x y (by omega) (by omega) hR0
    refine ⟨m', ?_, fun a k ha => by rw [p2 a k ha, gi_ne (by omega)], p3, p4, fun k => ?_⟩
    · rw [← p1, fX9_alike_49]
      generalize XF = nf
      simp (disch := omega) only [zv, zN_lit, zN_le, zgr g42, zgr g20, zald, zast, zN_add]
      rw [if_neg (by omega)]
    · rw [p5 k]
      by_cases e : k = i
      · subst e; rw [if_neg (by omega), if_pos (by omega), gi_si]
      · by_cases e2 : i ≤ k ∧ k < 84
        · rw [if_pos (by omega), if_pos e2, gi_ne (by omega)]
        · rw [if_neg (by omega), if_neg e2, gi_ne (by omega)]
end UN
