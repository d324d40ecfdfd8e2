/-! ===== u: the two shifts ===== -/
theorem u_sh_57 {N : Nat → Nat} {q R j b : Nat} {v : Int32} (hR : b + 12 ≤ N R) (hb : b + 12 < 2147483648) (hj : j < 12) : ∀ (dd n k : Nat) (m : XM), dd < n → k - j = dd → k < 12 → gr m q 9 = some R → ∃ m', fX6_shift_57 N n q (zN j) (zN b) v (zN k) m = some m' ∧ (∀ s, gi m' R s = if s = b + j then v else if b + j < s ∧ s ≤ b + k then gi m R (s - 1) else gi m R s) ∧ (∀ a s, a ≠ R → gi m' a s = gi m a s) ∧ (∀ a s, gl m' a s = gl m a s) ∧ ∀ a s, gr m' a s = gr m a s
  | 0, n, k, m, hn, hk, hk15, g => by
    obtain ⟨n, rfl⟩ : ∃ i, n = i + 1 := ⟨n - 1, by omega⟩
    have hle : k ≤ j := by omega
    refine ⟨si m R (b + j) v, ?_, fun s => ?_, fun a s ha => gi_ne (by omega), fun _ _ => rfl, fun _ _ => rfl⟩
    · unfold fX6_shift_57
      simp (disch := omega) only [zv, zN_le, hle, if_true, zgr g, zN_add, zast]
    · rw [gi_sx]
      by_cases e : s = b + j
      · rw [if_pos ⟨rfl, e⟩, if_pos e]
      · rw [if_neg (by omega), if_neg e, if_neg (by omega)]
  | dd + 1, n, k, m, hn, hk, hk15, g => by
    obtain ⟨n, rfl⟩ : ∃ i, n = i + 1 := ⟨n - 1, by omega⟩
    have hle : ¬ k ≤ j := by omega
    obtain ⟨m', p1, p2, p3, p4, p5⟩ := u_sh_57 (q := q) (v := v) hR hb hj dd n (k - 1) (si m R (b + k) (gi m R (b + k - 1))) (by omega) (by omega) (by omega) g
    refine ⟨m', ?_, fun s => ?_, fun a s ha => by rw [p3 a s ha, gi_ne (by omega)], p4, p5⟩
    · unfold fX6_shift_57
      simp (disch := omega) only [zv, zN_lit, zneg, zN_le, hle, if_false, zgr g, zN_add, zN_sub, zald, zast, zN_dec]
      exact p1
    · rw [p2 s]
      by_cases e : s = b + j
      · rw [if_pos e, if_pos e]
      · rw [if_neg e, if_neg e]
        by_cases e2 : b + j < s ∧ s ≤ b + (k - 1)
        · rw [if_pos e2, if_pos (by omega), gi_ne (by omega)]
        · rw [if_neg e2]
          by_cases e3 : s = b + k
          · rw [e3, gi_si, if_pos (by omega)]
          · rw [gi_ne (by omega), if_neg (by omega)]
theorem u_sh_20 {N : Nat → Nat} {q R i j b : Nat} {v : Int32} (hR : b + 12 ≤ N R) (hb : b + 12 < 2147483648) (hj : j < 12) (hi : i < 12) : ∀ (dd n k : Nat) (m : XM), dd < n → j - k = dd → k < 12 → gr m q 9 = some R → ∃ m', fX6_shift_20 N n q (zN i) (zN j) (zN b) v (zN k) m = fX6_shift_57 N XF q (zN j) (zN b) v (zN i) m' ∧ (∀ s, gi m' R s = if b + k ≤ s ∧ s < b + j then gi m R (s + 1) else gi m R s) ∧ (∀ a s, a ≠ R → gi m' a s = gi m a s) ∧ (∀ a s, gl m' a s = gl m a s) ∧ ∀ a s, gr m' a s = gr m a s
  | 0, n, k, m, hn, hk, hk15, g => by
    obtain ⟨n, rfl⟩ : ∃ i, n = i + 1 := ⟨n - 1, by omega⟩
    have hle : j ≤ k := by omega
    refine ⟨m, ?_, fun s => ?_, fun _ _ _ => rfl, fun _ _ => rfl, fun _ _ => rfl⟩
    · rw [fX6_shift_20]
      simp (disch := omega) only [zv, zN_le, hle, if_true]
    · rw [if_neg (by omega)]
  | dd + 1, n, k, m, hn, hk, hk15, g => by
    obtain ⟨n, rfl⟩ : ∃ i, n = i + 1 := ⟨n - 1, by omega⟩
    have hle : ¬ j ≤ k := by omega
    obtain ⟨m', p1, p2, p3, p4, p5⟩ := u_sh_20 (q := q) (v := v) hR hb hj hi dd n (k + 1) (si m R (b + k) (gi m R (b + k + 1))) (by omega) (by omega) (by omega) g
    refine ⟨m', ?_, fun s => ?_, fun a s ha => by rw [p3 a s ha, gi_ne (by omega)], p4, p5⟩
    · rw [fX6_shift_20]
      simp (disch := omega) only [zv, zN_lit, zN_le, hle, if_false, zgr g, zN_add, zald, zast]
      exact p1
    · rw [p2 s]
      by_cases e2 : b + (k + 1) ≤ s ∧ s < b + j
      · rw [if_pos e2, if_pos (by omega), gi_ne (by omega)]
      · rw [if_neg e2]
        by_cases e3 : s = b + k
        · rw [e3, gi_si, if_pos (by omega)]
        · rw [gi_ne (by omega), if_neg (by omega)]
theorem u_sh_all {N : Nat → Nat} {m : XM} {q R i j b : Nat} (hR : b + 12 ≤ N R) (hb : b + 12 < 2147483648) (hj : j < 12) (hi : i < 12) (g : gr m q 9 = some R) : ∃ m', fX6_shift_20 N XF q (zN i) (zN j) (zN b) (gi m R (b + i)) (zN i) m = some m' ∧ (∀ s, gi m' R s = if s = b + j then gi m R (b + i) else if b + i ≤ s ∧ s < b + j then gi m R (s + 1) else if b + j < s ∧ s ≤ b + i then gi m R (s - 1) else gi m R s) ∧ (∀ a s, a ≠ R → gi m' a s = gi m a s) ∧ (∀ a s, gl m' a s = gl m a s) ∧ ∀ a s, gr m' a s = gr m a s := by
  have hX := zXF
  obtain ⟨m1, p1, p2, p3, p4, p5⟩ := u_sh_20 (N := N) (q := q) (R := R) (v := gi m R (b + i)) hR hb hj hi (j - i) XF i m (by omega) rfl hi g
  obtain ⟨m2, r1, r2, r3, r4, r5⟩ := u_sh_57 (N := N) (q := q) (R := R) (v := gi m R (b + i)) hR hb hj (i - j) XF i m1 (by omega) rfl hi (by rw [p5]; exact g)
  refine ⟨m2, p1.trans r1, fun s => ?_, fun a s h => by rw [r3 a s h, p3 a s h], fun a s => by rw [r4, p4], fun a s => by rw [r5, p5]⟩
  rw [r2 s]
  by_cases e : s = b + j
  · rw [if_pos e, if_pos e]
  · rw [if_neg e, if_neg e]
    by_cases e2 : b + j < s ∧ s ≤ b + i
    · rw [if_pos e2, if_neg (show ¬ (b + i ≤ s ∧ s < b + j) by omega), if_pos e2, p2, if_neg (by omega)]
    · rw [if_neg e2, if_neg e2, p2]
theorem y_sh_57 {N : Nat → Nat} {q R j b : Nat} {v : Int32} (hR : b + 12 ≤ N R) (hb : b + 12 < 2147483648) (hj : j < 12) : ∀ (dd n k : Nat) (m : XM), dd < n → k - j = dd → k < 12 → gr m q 9 = some R → ∃ m', fX9_shifts_61 N n q (zN j) (zN b) v (zN k) m = some m' ∧ (∀ s, gi m' R s = if s = b + j then v else if b + j < s ∧ s ≤ b + k then gi m R (s - 1) else gi m R s) ∧ (∀ a s, a ≠ R → gi m' a s = gi m a s) ∧ (∀ a s, gl m' a s = gl m a s) ∧ ∀ a s, gr m' a s = gr m a s
  | 0, n, k, m, hn, hk, hk15, g => by
    obtain ⟨n, rfl⟩ : ∃ i, n = i + 1 := ⟨n - 1, by omega⟩
    have hle : k ≤ j := by omega
    refine ⟨si m R (b + j) v, ?_, fun s => ?_, fun a s ha => gi_ne (by omega), fun _ _ => rfl, fun _ _ => rfl⟩
    · unfold fX9_shifts_61
      simp (disch := omega) only [zv, zN_le, hle, if_true, zgr g, zN_add, zast]
    · rw [gi_sx]
      by_cases e : s = b + j
      · rw [if_pos ⟨rfl, e⟩, if_pos e]
      · rw [if_neg (by omega), if_neg e, if_neg (by omega)]
  | dd + 1, n, k, m, hn, hk, hk15, g => by
    obtain ⟨n, rfl⟩ : ∃ i, n = i + 1 := ⟨n - 1, by omega⟩
    have hle : ¬ k ≤ j := by omega
    obtain ⟨m', p1, p2, p3, p4, p5⟩ := y_sh_57 (q := q) (v := v) hR hb hj dd n (k - 1) (si m R (b + k) (gi m R (b + k - 1))) (by omega) (by omega) (by omega) g
    refine ⟨m', ?_, fun s => ?_, fun a s ha => by rw [p3 a s ha, gi_ne (by omega)], p4, p5⟩
    · unfold fX9_shifts_61
      simp (disch := omega) only [zv, zN_lit, zneg, zN_le, hle, if_false, zgr g, zN_add, zN_sub, zald, zast, zN_dec]
      exact p1
    · rw [p2 s]
      by_cases e : s = b + j
      · rw [if_pos e, if_pos e]
      · rw [if_neg e, if_neg e]
        by_cases e2 : b + j < s ∧ s ≤ b + (k - 1)
        · rw [if_pos e2, if_pos (by omega), gi_ne (by omega)]
        · rw [if_neg e2]
          by_cases e3 : s = b + k
          · rw [e3, gi_si, if_pos (by omega)]
          · rw [gi_ne (by omega), if_neg (by omega)]
theorem y_sh_20 {N : Nat → Nat} {q R i j b : Nat} {v : Int32} (hR : b + 12 ≤ N R) (hb : b + 12 < 2147483648) (hj : j < 12) (hi : i < 12) : ∀ (dd n k : Nat) (m : XM), dd < n → j - k = dd → k < 12 → gr m q 9 = some R → ∃ m', fX9_shifts_24 N n q (zN i) (zN j) (zN b) v (zN k) m = fX9_shifts_61 N XF q (zN j) (zN b) v (zN i) m' ∧ (∀ s, gi m' R s = if b + k ≤ s ∧ s < b + j then gi m R (s + 1) else gi m R s) ∧ (∀ a s, a ≠ R → gi m' a s = gi m a s) ∧ (∀ a s, gl m' a s = gl m a s) ∧ ∀ a s, gr m' a s = gr m a s
  | 0, n, k, m, hn, hk, hk15, g => by
    obtain ⟨n, rfl⟩ : ∃ i, n = i + 1 := ⟨n - 1, by omega⟩
    have hle : j ≤ k := by omega
    refine ⟨m, ?_, fun s => ?_, fun _ _ _ => rfl, fun _ _ => rfl, fun _ _ => rfl⟩
    · rw [fX9_shifts_24]
      simp (disch := omega) only [zv, zN_le, hle, if_true]
    · rw [if_neg (by omega)]
  | dd + 1, n, k, m, hn, hk, hk15, g => by
    obtain ⟨n, rfl⟩ : ∃ i, n = i + 1 := ⟨n - 1, by omega⟩
    have hle : ¬ j ≤ k := by omega
    obtain ⟨m', p1, p2, p3, p4, p5⟩ := y_sh_20 (q := q) (v := v) hR hb hj hi dd n (k + 1) (si m R (b + k) (gi m R (b + k + 1))) (by omega) (by omega) (by omega) g
    refine ⟨m', ?_, fun s => ?_, fun a s ha => by rw [p3 a s ha, gi_ne (by omega)], p4, p5⟩
    · rw [fX9_shifts_24]
      simp (disch := omega) only [zv, zN_lit, zN_le, hle, if_false, zgr g, zN_add, zald, zast]
      exact p1
    · rw [p2 s]
      by_cases e2 : b + (k + 1) ≤ s ∧ s < b + j
      · rw [if_pos e2, if_pos (by omega), gi_ne (by omega)]
      · rw [if_neg e2]
        by_cases e3 : s = b + k
        · rw [e3, gi_si, if_pos (by omega)]
        · rw [gi_ne (by omega), if_neg (by omega)]
theorem y_sh_all {N : Nat → Nat} {m : XM} {q R i j b : Nat} (hR : b + 12 ≤ N R) (hb : b + 12 < 2147483648) (hj : j < 12) (hi : i < 12) (g : gr m q 9 = some R) : ∃ m', fX9_shifts_24 N XF q (zN i) (zN j) (zN b) (gi m R (b + i)) (zN i) m = some m' ∧ (∀ s, gi m' R s = if s = b + j then gi m R (b + i) else if b + i ≤ s ∧ s < b + j then gi m R (s + 1) else if b + j < s ∧ s ≤ b + i then gi m R (s - 1) else gi m R s) ∧ (∀ a s, a ≠ R → gi m' a s = gi m a s) ∧ (∀ a s, gl m' a s = gl m a s) ∧ ∀ a s, gr m' a s = gr m a s := by
  have hX := zXF
  obtain ⟨m1, p1, p2, p3, p4, p5⟩ := y_sh_20 (N := N) (q := q) (R := R) (v := gi m R (b + i)) hR hb hj hi (j - i) XF i m (by omega) rfl hi g
  obtain ⟨m2, r1, r2, r3, r4, r5⟩ := y_sh_57 (N := N) (q := q) (R := R) (v := gi m R (b + i)) hR hb hj (i - j) XF i m1 (by omega) rfl hi (by rw [p5]; exact g)
  refine ⟨m2, p1.trans r1, fun s => ?_, fun a s h => by rw [r3 a s h, p3 a s h], fun a s => by rw [r4, p4], fun a s => by rw [r5, p5]⟩
  rw [r2 s]
  by_cases e : s = b + j
  · rw [if_pos e, if_pos e]
  · rw [if_neg e, if_neg e]
    by_cases e2 : b + j < s ∧ s ≤ b + i
    · rw [if_pos e2, if_neg (show ¬ (b + i ≤ s ∧ s < b + j) by omega), if_pos e2, p2, if_neg (by omega)]
    · rw [if_neg e2, if_neg e2, p2]
theorem zdat_f2 {m m' : XM} {c k : Nat} {d : zDeed} (h0 : ∀ a k, c + 12 ≤ a → a < c + 18 → gi m' a k = gi m a k) (h : zdat m c k d) : zdat m' c k d := by
  obtain ⟨h1, f, h2, h3, h4, h5, h6⟩ := h
  exact ⟨h1, f, (h0 _ _ (by omega) (by omega)).trans h2, (h0 _ _ (by omega) (by omega)).trans h3, h4, zcod_fr (fun _ => h0 _ _ (by omega) (by omega)) (fun _ => h0 _ _ (by omega) (by omega)) h5, (h0 _ _ (by omega) (by omega)).trans h6⟩
theorem zdats_f2 {m m' : XM} {c : Nat} (h0 : ∀ a k, c + 12 ≤ a → a < c + 18 → gi m' a k = gi m a k) : ∀ {k : Nat} {l : List zDeed}, zdats m c k l → zdats m' c k l
  | _, [], _ => trivial
  | _, _ :: _, h => ⟨zdat_f2 h0 h.1, zdats_f2 h0 h.2⟩
section UK
variable {K K' : Nat → Int32} {P : zP}
theorem yCh_K (h : ∀ s, 110 ≤ s → K' s = K s) (T : Nat → List zCode → Prop) : ∀ (ts : List Nat) (p : Nat) (l : List zCode), yCh K' T ts p l = yCh K T ts p l
  | [], p, l => by
    unfold yCh
    rw [h _ (by omega)]
  | t :: ts, p, l => by
    unfold yCh
    simp (disch := omega) only [h, yCh_K h T ts]
theorem ySm_K (h : ∀ s, 110 ≤ s → K' s = K s) (T : Nat → List zCode → Prop) (f : Nat) (l : List zCode) : ySm K' T f l = ySm K T f l := by
  unfold ySm
  simp only [yCh_K h]
theorem yTm_K (h : ∀ s, 110 ≤ s → K' s = K s) : ∀ n, yTm K' P n = yTm K P n
  | 0 => funext fun _ => funext fun _ => rfl
  | n + 1 => funext fun t => funext fun l => by
    unfold yTm yleaf
    rw [yTm_K h n]
    simp (disch := omega) only [h, ySm_K h]
theorem yact_K (h : ∀ s, 110 ≤ s → K' s = K s) (a : Nat) (d : zDeed) : yact K' P a d = yact K P a d := by
  unfold yact ySum
  simp (disch := omega) only [yTm_K h, h, ySm_K h]
theorem yacts_K (h : ∀ s, 110 ≤ s → K' s = K s) : ∀ (l : List zDeed) (a : Nat), yacts K' P a l = yacts K P a l
  | [], _ => rfl
  | d :: l, a => by
    show (yact K' P a d ∧ yacts K' P (a + 1) l) = (yact K P a d ∧ yacts K P (a + 1) l)
    rw [yact_K h, yacts_K h l]
theorem yMem_K (h : ∀ s, 110 ≤ s → K' s = K s) {x p : Nat} (hp : 110 ≤ p) : yMem K' P x p = yMem K P x p := by
  unfold yMem ySum
  simp (disch := omega) only [yTm_K h, yact_K h, yacts_K h, h, ySm_K h]
end UK
section US
variable {N : Nat → Nat} {m : XM} {c : Nat} {P : zP} {u i j : Nat}
theorem u_shift (hN : zUN N c) (hr : zUr m c) (hU : jU m c P) (hwf : zwf P) (hu : u < zn P) (hi : i < zcnt P u) (hj : j < zcnt P u) : ∃ m', fX6_shift N c (zN u) (zN i) (zN j) m = some m' ∧ jU m' c (zshf P u i j) ∧ (∀ a s, a ≠ c + 9 → gi m' a s = gi m a s) ∧ (∀ a s, gl m' a s = gl m a s) ∧ ∀ a s, gr m' a s = gr m a s := by
  obtain ⟨-, -, -, -, -, -, -, -, n9, -⟩ := hN
  obtain ⟨-, -, -, -, -, -, -, -, r9, -⟩ := hr
  have hz := hwf.1
  have hcn := (hwf.2.1 u hu).1
  obtain ⟨m', p1, p2, p3, p4, p5⟩ := u_sh_all (N := N) (m := m) (q := c) (R := c + 9) (i := i) (j := j) (b := 12 * u) (by omega) (by omega) (by omega) (by omega) r9
  refine ⟨m', ?_, ⟨?_, ?_⟩, p3, p4, p5⟩
  · unfold fX6_shift
    simp (disch := omega) only [zv, zN_lit, zN_mul, zgr r9, zN_add, zald]
    rw [show u * 12 = 12 * u by omega]
    exact p1
  · obtain ⟨⟨h1, h2, h3, h4, h5, h6, h7⟩, -⟩ := hU
    have hd : ∀ a s, a < 9 ∨ 9 < a → gi m' (c + a) s = gi m (c + a) s := fun a s ha => p3 _ _ (by omega)
    have hda : ∀ k d, zdat m c k d → zdat m' c k d := fun k d h => zdat_f2 (fun a s q1 q2 => by rw [show a = c + (a - c) by omega, hd _ s (by omega)]) h
    refine ⟨by rw [p3 _ _ (by omega)]; exact h1, by rw [p3 _ _ (by omega)]; exact h2, fun v hv => ?_, fun x hx => ?_, fun v k hv hk => ?_, fun x hx => ⟨fun hk => ?_, fun hk => ?_⟩, fun k d hd' => ?_⟩
    · rw [hd _ _ (by omega), hd _ _ (by omega), hd _ _ (by omega)]; exact h3 v hv
    · rw [hd _ _ (by omega), hd _ _ (by omega), hd _ _ (by omega), hd _ _ (by omega)]; exact h4 x hx
    · have hk' : k < zcnt P v := hk
      have hcv := (hwf.2.1 v hv).1
      show gi m' (c + 9) (12 * v + k) = zN (12 * v + zset (zplc P) u (zpl (zplc P u) i j) v k)
      rw [p2]
      by_cases e : v = u
      · subst e
        rw [zset_eq]
        unfold zpl
        by_cases e1 : k = j
        · rw [if_pos (by omega), if_pos e1, h5 v i hv hi]
        · rw [if_neg (by omega), if_neg e1]
          by_cases e2 : i ≤ k ∧ k < j
          · rw [if_pos (by omega), if_pos e2, show 12 * v + k + 1 = 12 * v + (k + 1) by omega, h5 v (k + 1) hv (by omega)]
          · rw [if_neg (by omega), if_neg e2]
            by_cases e3 : j < k ∧ k ≤ i
            · rw [if_pos (by omega), if_pos e3, show 12 * v + k - 1 = 12 * v + (k - 1) by omega, h5 v (k - 1) hv (by omega)]
            · rw [if_neg (by omega), if_neg e3, h5 v k hv hk']
      · rw [zset_ne _ _ e, if_neg (by omega), if_neg (by omega), if_neg (by omega), h5 v k hv hk']
    · obtain ⟨g1, g2⟩ := (h6 x hx).1 hk
      refine ⟨fun hn => by rw [hd _ _ (by omega)]; exact g1 hn, fun d hd' => ?_⟩
      obtain ⟨k, k1, k2⟩ := g2 d hd'
      exact ⟨k, by rw [hd _ _ (by omega)]; exact k1, hda _ _ k2⟩
    · obtain ⟨k, k1, k2, k3⟩ := (h6 x hx).2 hk
      exact ⟨k, by rw [hd _ _ (by omega)]; exact k1, zdats_f2 (fun a s q1 q2 => by rw [show a = c + (a - c) by omega, hd _ s (by omega)]) k2, k3⟩
    · obtain ⟨k, k1, k2⟩ := h7 k d hd'
      exact ⟨k, by rw [hd _ _ (by omega)]; exact k1, hda _ _ k2⟩
  · intro v a hv ha
    have := hU.2 v a hv ha
    rw [p3 _ _ (by omega)]; exact this
theorem u_flip (hN : zUN N c) (hr : zUr m c) (hU : jU m c P) (hwf : zwf P) (hu : u < zn P) (hi : i < zcnt P u) : ∃ m', fX6_flip N c (zN u) (zN i) m = some m' ∧ jU m' c (ztog P (12 * u + zplc P u i)) ∧ (∀ a s, a ≠ c + 8 → gi m' a s = gi m a s) ∧ (∀ a s, gl m' a s = gl m a s) ∧ ∀ a s, gr m' a s = gr m a s := by
  obtain ⟨-, -, -, -, -, -, -, n8, n9, -⟩ := hN
  obtain ⟨-, -, -, -, -, -, -, r8, r9, -⟩ := hr
  have hz := hwf.1
  have hcn := (hwf.2.1 u hu).1
  have hok := zplc_ok hwf hu hi
  have h84 := zok_84 hwf hok
  generalize hx : 12 * u + zplc P u i = x at *
  have h8 := (hU.1.2.2.2.1 x hok).2.2.2
  have h9 := hU.1.2.2.2.2.1 u i hu hi
  rw [hx] at h9
  have hv : zN 1 - gi m (c + 8) x = if (!(zon P x)) then zN 1 else zN 0 := by
    rw [h8]
    cases zon P x <;> decide
  refine ⟨si m (c + 8) x (zN 1 - gi m (c + 8) x), ?_, ⟨?_, ?_⟩, fun a s h => gi_ne (by omega), fun _ _ => rfl, fun _ _ => rfl⟩
  · unfold fX6_flip fX6_memberAt
    simp (disch := omega) only [zv, zN_lit, zN_mul, zgr r9, zN_add, zald]
    rw [show u * 12 + i = 12 * u + i by omega, h9]
    simp (disch := omega) only [zca, zgr r8, zald, zv, zast]
  · obtain ⟨⟨h1, h2, h3, h4, h5, h6, h7⟩, -⟩ := hU
    have hd : ∀ a s, a < 8 ∨ 8 < a → gi (si m (c + 8) x (zN 1 - gi m (c + 8) x)) (c + a) s = gi m (c + a) s := fun a s ha => gi_ne (by omega)
    generalize hm' : si m (c + 8) x (zN 1 - gi m (c + 8) x) = m' at *
    have hda : ∀ k d, zdat m c k d → zdat m' c k d := fun k d h => zdat_f2 (fun a s q1 q2 => by rw [show a = c + (a - c) by omega, hd _ s (by omega)]) h
    refine ⟨by rw [← hm', gi_ne (by omega)]; exact h1, by rw [← hm', gi_ne (by omega)]; exact h2, fun v hv => ?_, fun y hy => ?_, fun v k hv hk => ?_, fun x hx => ⟨fun hk => ?_, fun hk => ?_⟩, fun k d hd' => ?_⟩
    · rw [hd _ _ (by omega), hd _ _ (by omega), hd _ _ (by omega)]; exact h3 v hv
    · obtain ⟨a1, a2, a3, a4⟩ := h4 y hy
      rw [hd _ _ (by omega), hd _ _ (by omega), hd _ _ (by omega)]
      refine ⟨a1, a2, a3, ?_⟩
      show gi m' (c + 8) y = if zset (zon P) x (!(zon P x)) y then zN 1 else zN 0
      by_cases e : y = x
      · rw [e, zset_eq, ← hm', gi_si, hv]
      · rw [zset_ne _ _ e, ← hm', gi_ne (by omega), a4]
    · rw [hd _ _ (by omega)]; exact h5 v k hv hk
    · obtain ⟨g1, g2⟩ := (h6 x hx).1 hk
      refine ⟨fun hn => by rw [hd _ _ (by omega)]; exact g1 hn, fun d hd' => ?_⟩
      obtain ⟨k, k1, k2⟩ := g2 d hd'
      exact ⟨k, by rw [hd _ _ (by omega)]; exact k1, hda _ _ k2⟩
    · obtain ⟨k, k1, k2, k3⟩ := (h6 x hx).2 hk
      exact ⟨k, by rw [hd _ _ (by omega)]; exact k1, zdats_f2 (fun a s q1 q2 => by rw [show a = c + (a - c) by omega, hd _ s (by omega)]) k2, k3⟩
    · obtain ⟨k, k1, k2⟩ := h7 k d hd'
      exact ⟨k, by rw [hd _ _ (by omega)]; exact k1, hda _ _ k2⟩
  · intro v a hv ha
    have := hU.2 v a hv ha
    rw [gi_ne (by omega)]; exact this
theorem y_shift (hN : yN N) (hr : yR m) (hU : yMP m P) (hwf : zwf P) (hu : u < zn P) (hi : i < zcnt P u) (hj : j < zcnt P u) : ∃ m', fX9_shifts N 85 (zN u) (zN i) (zN j) m = some m' ∧ yMP m' (zshf P u i j) ∧ (∀ a s, a ≠ 88 → gi m' a s = gi m a s) ∧ (∀ a s, gl m' a s = gl m a s) ∧ ∀ a s, gr m' a s = gr m a s := by
  obtain ⟨-, -, n88, -⟩ := hN
  obtain ⟨-, -, r9, -⟩ := hr
  have hz := hwf.1
  have hcn := (hwf.2.1 u hu).1
  obtain ⟨m', p1, p2, p3, p4, p5⟩ := y_sh_all (N := N) (m := m) (q := 85) (R := 88) (i := i) (j := j) (b := 5 + 15 * u + 3) (by omega) (by omega) (by omega) (by omega) r9
  refine ⟨m', ?_, ?_, p3, p4, p5⟩
  · unfold fX9_shifts
    simp (disch := omega) only [zv, zN_lit, zN_mul, zgr r9, zN_add, zald]
    exact p1
  · obtain ⟨h1, h2, h3, h4, h5, h6⟩ := hU
    have hK : ∀ s, s < 5 + 15 * u + 3 ∨ 5 + 15 * u + 15 ≤ s → gi m' 88 s = gi m 88 s := fun s hs => by
      rw [p2, if_neg (by omega), if_neg (by omega), if_neg (by omega)]
    have hK' : ∀ s, 110 ≤ s → gi m' 88 s = gi m 88 s := fun s hs => hK s (by omega)
    have e1 : (zshf P u i j).1 = P.1 := rfl
    have e2 : (zshf P u i j).2.1 = P.2.1 := rfl
    refine ⟨by rw [hK _ (by omega)]; exact h1, ?_, by rw [hK _ (by omega)]; exact h3, fun v hv => ?_, fun x hx => ?_, fun k d hd => ?_⟩
    · rw [hK _ (by omega), zbase_cg e1]; exact h2
    · obtain ⟨a1, a2, a3, a4⟩ := h4 v hv
      have hz' : v < zn P := hv
      refine ⟨by rw [hK _ (by omega)]; exact a1, by rw [hK _ (by omega)]; exact a2, by rw [hK _ (by omega)]; exact a3, fun k hk => ?_⟩
      have hk' : k < zcnt P v := hk
      have hcv := (hwf.2.1 v hv).1
      rw [zbase_cg e1]
      show gi m' 88 (5 + 15 * v + 3 + k) = zN (zbase P v + zset (zplc P) u (zpl (zplc P u) i j) v k)
      rw [p2]
      by_cases e : v = u
      · subst e
        rw [zset_eq]
        unfold zpl
        by_cases e1 : k = j
        · rw [if_pos (by omega), if_pos e1, a4 i hi]
        · rw [if_neg (by omega), if_neg e1]
          by_cases e2 : i ≤ k ∧ k < j
          · rw [if_pos (by omega), if_pos e2, show 5 + 15 * v + 3 + k + 1 = 5 + 15 * v + 3 + (k + 1) by omega, a4 (k + 1) (by omega)]
          · rw [if_neg (by omega), if_neg e2]
            by_cases e3 : j < k ∧ k ≤ i
            · rw [if_pos (by omega), if_pos e3, show 5 + 15 * v + 3 + k - 1 = 5 + 15 * v + 3 + (k - 1) by omega, a4 (k - 1) (by omega)]
            · rw [if_neg (by omega), if_neg e3, a4 k hk']
      · rw [zset_ne _ _ e, if_neg (by omega), if_neg (by omega), if_neg (by omega), a4 k hk']
    · have hx' : zok P x := hx
      rw [zmid_cg e1, yMem_cg e1 e2]
      rw [yMem_K hK' (by omega)]
      refine ⟨(h5 x hx').1, ?_⟩
      rw [p3 _ _ (by omega)]; exact (h5 x hx').2
    · obtain ⟨a, a1, a2⟩ := h6 k d hd
      refine ⟨a, by rw [hK _ (by omega)]; exact a1, ?_⟩
      rw [yact_cg e1 e2, yact_K hK']
      exact a2
end US
