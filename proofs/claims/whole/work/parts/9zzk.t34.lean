/-! ===== t: a text begins, of both ===== -/
def qZ : pQ := ((0, fun _ => 0, fun _ => none, fun _ => 0), (fun _ => 0, fun _ => none, fun _ => none, fun _ => none), (fun _ => none, fun _ _ => none), [])
theorem qZ_ok (x : Nat) : ¬ qok qZ x := fun h => Nat.not_lt_zero _ h.1
theorem qZ_W : qW qZ := ⟨Nat.zero_le _, fun u hu => absurd hu (Nat.not_lt_zero _), fun _ _ => rfl, fun L u _ => ⟨fun h => by simp [qul, qZ] at h, fun h => absurd h.1 (Nat.not_lt_zero _)⟩, fun u a x _ => ⟨fun h => by simp [qnm, qZ] at h, fun h => absurd h.1 (qZ_ok x)⟩, fun x hx => absurd hx (qZ_ok x), Nat.zero_le _⟩
section SK
variable {N : Nat → Nat} {b : Nat → Nat} {n d : Nat}
/-- the draft is emptied, and all stands at the first token -/
theorem c_begin {m : XM} (hN1 : N 1 = 600) (hn : n ≤ 600) (hb : ∀ k, k < n → b k < 256) (h1 : ∀ k, k < n → gi m 1 k = zN (b k)) (hG : tzG N m) (hR : cR N d m) : ∃ m', fX1_readText N 2 1 (zN n) m = fX1_readText_36 N XF 2 (zN 1) (zN 0) m' ∧ cS N b n d 0 m' ∧ cQ m' d qZ ∧ gi m' (d + 12) 3 = zN 0 ∧ gi m' (d + 12) 0 = zN 0 ∧ (∀ z k, z ≠ 2 → ¬ (21 ≤ z ∧ z ≤ 27) → ¬ (d ≤ z ∧ z < d + 18) → gi m' z k = gi m z k) ∧ ∀ z k, ¬ (z = 2 ∧ k = 4) → gr m' z k = gr m z k := by
  obtain ⟨hd, hUN, ⟨n21, n22, n23⟩, hUr, g0, g1, g2, g3⟩ := id hR
  obtain ⟨-, -, n3, -, -, -, -, -, -, n10, -⟩ := id hUN
  obtain ⟨-, -, u3, -, -, -, -, -, -, u10, -, u13, -⟩ := id hUr
  obtain ⟨m1, a1, a2, a3, a4, a5, a6⟩ := c_cut (b := b) (n := n) hN1 hn hb h1 hG
  have hgr1 : ∀ z k, z ≠ 2 → gr m1 z k = gr m z k := fun z k q => a5 z k (by omega)
  generalize hm2 : si (si (si (si m1 d 0 (zN 0)) d 11 (zN 0)) (d + 12) 0 (zN 0)) (d + 12) 3 (zN 0) = m2
  have hf2 : ∀ z k, ¬ (z = d ∧ (k = 0 ∨ k = 11)) → ¬ (z = d + 12 ∧ (k = 0 ∨ k = 3)) → gi m2 z k = gi m1 z k := fun z k q1 q2 => by rw [← hm2, gi_ne (by omega), gi_ne (by omega), gi_ne (by omega), gi_ne (by omega)]
  have hg2 : ∀ z k, gr m2 z k = gr m1 z k := fun z k => by rw [← hm2]; rfl
  obtain ⟨m3, b1, b2, b3, b4⟩ := zc_fill (N := N) (a := d + 3) (v := zN 0) (len := 7) m2 n3 (by omega)
  obtain ⟨m4, c1, c2, c3, c4⟩ := zc_fill (N := N) (a := d + 10) (v := zM) (len := 182) m3 n10 (by omega)
  obtain ⟨m5, d1, d2, d3, d4⟩ := zc_fill (N := N) (a := 21) (v := zM) (len := 7) m4 n21 (by omega)
  have f5 : ∀ z k, z ≠ d + 3 → z ≠ d + 10 → z ≠ 21 → gi m5 z k = gi m2 z k := fun z k q1 q2 q3 => by rw [(d2 z (by omega)).1, (c2 z (by omega)).1, (b2 z (by omega)).1]
  have hgf : ∀ {a : Nat} {x y : XM}, zfr a (a + 1) x y → (∀ k, gr y a k = gr x a k) → ∀ z k, gr y z k = gr x z k := fun {a x y} h1 h2 z k => by
    by_cases e : z = a
    · rw [e]; exact h2 k
    · exact (h1 z (by omega)).2.2 k
  have g5 : ∀ z k, gr m5 z k = gr m1 z k := fun z k => by rw [hgf d2 d3, hgf c2 c3, hgf b2 b3, hg2]
  refine ⟨si (si m5 2 10 (zN 0)) 2 12 (zN 0), ?_, ?_, ?_, ?_, ?_, fun z k q1 q2 q3 => ?_, fun z k q => ?_⟩
  · unfold fX1_readText fX6_clear
    rw [a1, zcv, zgr (u := d) (by rw [a5 _ _ (by omega)]; exact g0)]
    simp only [zv, zN_lit, zneg, zgr_si, zgr ((hgr1 d 13 (by omega)).trans u13), zgr ((hgr1 d 3 (by omega)).trans u3)]
    rw [hm2, b1, zcv, zgr (u := d + 10) (by rw [hgf b2 b3, hg2, hgr1 _ _ (by omega)]; exact u10), c1, zcv, zcv, zgr (u := 21) (by rw [hgf c2 c3, hgf b2 b3, hg2, a5 _ _ (by omega)]; exact g1), d1, zcv]
  · have e2 : ∀ z k, z ≠ 2 → gi (si (si m5 2 10 (zN 0)) 2 12 (zN 0)) z k = gi m5 z k := fun z k q => by rw [gi_ne (by omega), gi_ne (by omega)]
    have hgall : ∀ z k, ¬ (z = 2 ∧ k = 4) → gr (si (si m5 2 10 (zN 0)) 2 12 (zN 0)) z k = gr m z k := fun z k q => by rw [gr_si, gr_si, g5, a5 z k q]
    refine ⟨⟨hd, hUN, ⟨n21, n22, n23⟩, zUr_fr (fun a k _ _ => hgall a k (by omega)) hUr, by rw [hgall _ _ (by omega)]; exact g0, by rw [hgall _ _ (by omega)]; exact g1, by rw [hgall _ _ (by omega)]; exact g2, by rw [hgall _ _ (by omega)]; exact g3⟩, ⟨hG.1, by rw [hgall _ _ (by omega)]; exact hG.2.1, by rw [hgall _ _ (by omega)]; exact hG.2.2.1, by rw [hgall _ _ (by omega)]; exact hG.2.2.2⟩, ⟨hn, gi_si _ _ _ _⟩, hb, fun j hj => tzK_g (a3 j hj) (fun a k q => by rw [e2 _ _ (by omega), f5 _ _ (by omega) (by omega) (by omega), hf2 _ _ (by omega) (by omega)]), fun j hj => absurd hj (Nat.not_lt_zero _), by rw [gi_ne (by omega), gi_si]⟩
  · have e2 : ∀ z k, z ≠ 2 → gi (si (si m5 2 10 (zN 0)) 2 12 (zN 0)) z k = gi m5 z k := fun z k q => by rw [gi_ne (by omega), gi_ne (by omega)]
    refine ⟨?_, ?_, fun u hu => absurd hu (Nat.not_lt_zero _), fun u hu => ?_, fun x hx => absurd hx (qZ_ok x), fun u a hu ha => ?_, fun L hL => ?_, fun k j hj => by simp [qstp, qZ] at hj⟩
    · rw [e2 _ _ (by omega), f5 _ _ (by omega) (by omega) (by omega), ← hm2, gi_ne (by omega), gi_ne (by omega), gi_ne (by omega), gi_si]; rfl
    · rw [e2 _ _ (by omega), f5 _ _ (by omega) (by omega) (by omega), ← hm2, gi_ne (by omega), gi_ne (by omega), gi_si]; rfl
    · rw [e2 _ _ (by omega), (d2 _ (by omega)).1, (c2 _ (by omega)).1, b4, if_pos hu]; rfl
    · rw [e2 _ _ (by omega), (d2 _ (by omega)).1, c4, if_pos (by omega)]; rfl
    · rw [e2 _ _ (by omega), d4, if_pos hL]; rfl
  · rw [gi_ne (by omega), gi_ne (by omega), f5 _ _ (by omega) (by omega) (by omega), ← hm2, gi_si]
  · rw [gi_ne (by omega), gi_ne (by omega), f5 _ _ (by omega) (by omega) (by omega), ← hm2, gi_ne (by omega), gi_si]
  · rw [gi_ne (by omega), gi_ne (by omega), f5 _ _ (by omega) (by omega) (by omega), hf2 _ _ (by omega) (by omega), a4 _ _ (by omega) (by omega) (by omega) (by omega)]
  · rw [gr_si, gr_si, g5, a5 z k q]
/-- the other reader's row is emptied -/
theorem r_60 (hN : N 89 = 3820) : ∀ (g f k : Nat) (w : XM), 3820 - k = g → g < f → k ≤ 3820 → gr w 85 10 = some 89 → ∃ w', fX9_text_60 N f 85 (zN k) w = fX9_text_80 N XF 85 w' ∧ (∀ j, k ≤ j → j < 3820 → gi w' 89 j = zN 0) ∧ (∀ z j, ¬ (z = 89 ∧ k ≤ j) → gi w' z j = gi w z j) ∧ (∀ z j, gr w' z j = gr w z j) ∧ ∀ z j, gl w' z j = gl w z j := by
  intro g
  induction g with
  | zero =>
    intro f k w hg hf hk h10
    obtain ⟨f, rfl⟩ : ∃ g, f = g + 1 := ⟨f - 1, by omega⟩
    refine ⟨w, ?_, fun j q1 q2 => by omega, fun _ _ _ => rfl, fun _ _ => rfl, fun _ _ => rfl⟩
    rw [fX9_text_60, zv]
    simp (disch := omega) only [zN_lit, zN_le]
    rw [if_pos (show 3820 ≤ k by omega)]
  | succ g ih =>
    intro f k w hg hf hk h10
    obtain ⟨f, rfl⟩ : ∃ g, f = g + 1 := ⟨f - 1, by omega⟩
    obtain ⟨w', a1, a2, a3, a4, a5⟩ := ih f (k + 1) (si w 89 k (zN 0)) (by omega) (by omega) (by omega) h10
    refine ⟨w', ?_, fun j q1 q2 => ?_, fun z j q => by rw [a3 z j (by omega), gi_ne (by omega)], fun z j => by rw [a4, gr_si], fun z j => by rw [a5, gl_si]⟩
    · rw [fX9_text_60, zv]
      simp (disch := omega) only [zN_lit, zN_le]
      rw [if_neg (show ¬ 3820 ≤ k by omega), zgr h10, zast (by omega) (by omega)]
      simp only [zv, zN_add]
      exact a1
    · by_cases e : j = k
      · rw [e, a3 _ _ (by omega), gi_si]
      · exact a2 j (by omega) q2
/-- the row is copied -/
theorem r_200 (hN : N 89 = 3820) (hN8 : N 88 = 3820) : ∀ (g f k : Nat) (w : XM), 3820 - k = g → g < f → k ≤ 3820 → gr w 85 10 = some 89 → gr w 85 9 = some 88 → ∃ w', fX9_text_200 N f 85 (zN k) w = fX9_text_227 N XF 85 (zN 0) w' ∧ (∀ j, k ≤ j → j < 3820 → gi w' 88 j = gi w 89 j) ∧ (∀ z j, ¬ (z = 88 ∧ k ≤ j) → gi w' z j = gi w z j) ∧ (∀ z j, gr w' z j = gr w z j) ∧ ∀ z j, gl w' z j = gl w z j := by
  intro g
  induction g with
  | zero =>
    intro f k w hg hf hk h10 h9
    obtain ⟨f, rfl⟩ : ∃ g, f = g + 1 := ⟨f - 1, by omega⟩
    refine ⟨w, ?_, fun j q1 q2 => by omega, fun _ _ _ => rfl, fun _ _ => rfl, fun _ _ => rfl⟩
    rw [fX9_text_200, zv]
    simp (disch := omega) only [zN_lit, zN_le]
    rw [if_pos (show 3820 ≤ k by omega)]
  | succ g ih =>
    intro f k w hg hf hk h10 h9
    obtain ⟨f, rfl⟩ : ∃ g, f = g + 1 := ⟨f - 1, by omega⟩
    obtain ⟨w', a1, a2, a3, a4, a5⟩ := ih f (k + 1) (si w 88 k (gi w 89 k)) (by omega) (by omega) (by omega) h10 h9
    refine ⟨w', ?_, fun j q1 q2 => ?_, fun z j q => by rw [a3 z j (by omega), gi_ne (by omega)], fun z j => by rw [a4, gr_si], fun z j => by rw [a5, gl_si]⟩
    · rw [fX9_text_200, zv]
      simp (disch := omega) only [zN_lit, zN_le]
      rw [if_neg (show ¬ 3820 ≤ k by omega), zgr h9, zgr h10, zald (by omega) (by omega), zast (by omega) (by omega)]
      simp only [zv, zN_add]
      exact a1
    · by_cases e : j = k
      · rw [e, a3 _ _ (by omega), gi_si]
      · rw [a2 j (by omega) q2, gi_ne (by omega)]
/-- all members are on -/
theorem r_227 (hN : N 90 = 84) (hN8 : N 88 = 3820) : ∀ (g f k : Nat) (w : XM), 84 - k = g → g < f → k ≤ 84 → gr w 85 11 = some 90 → gr w 85 9 = some 88 → ∃ w', fX9_text_227 N f 85 (zN k) w = some (gi w 88 0, w') ∧ (∀ j, k ≤ j → j < 84 → gi w' 90 j = zN 0) ∧ gi w' 85 15 = zN 0 ∧ gi w' 85 16 = zN 0 ∧ (∀ z j, ¬ (z = 90 ∧ k ≤ j) → ¬ (z = 85 ∧ (j = 15 ∨ j = 16)) → gi w' z j = gi w z j) ∧ (∀ z j, gr w' z j = gr w z j) ∧ ∀ z j, gl w' z j = gl w z j := by
  intro g
  induction g with
  | zero =>
    intro f k w hg hf hk h11 h9
    obtain ⟨f, rfl⟩ : ∃ g, f = g + 1 := ⟨f - 1, by omega⟩
    refine ⟨si (si w 85 15 (zN 0)) 85 16 (zN 0), ?_, fun j q1 q2 => by omega, by rw [gi_ne (by omega), gi_si], gi_si _ _ _ _, fun z j q1 q2 => by rw [gi_ne (by omega), gi_ne (by omega)], fun _ _ => rfl, fun _ _ => rfl⟩
    rw [fX9_text_227, zv]
    simp (disch := omega) only [zN_lit, zN_le]
    rw [if_pos (show 84 ≤ k by omega)]
    simp (disch := omega) only [zv, zgr_si, zgr h9, zald, gi_ne]
  | succ g ih =>
    intro f k w hg hf hk h11 h9
    obtain ⟨f, rfl⟩ : ∃ g, f = g + 1 := ⟨f - 1, by omega⟩
    obtain ⟨w', a1, a2, a3, a4, a5, a6, a7⟩ := ih f (k + 1) (si w 90 k (zN 0)) (by omega) (by omega) (by omega) h11 h9
    refine ⟨w', ?_, fun j q1 q2 => ?_, a3, a4, fun z j q1 q2 => by rw [a5 z j (by omega) q2, gi_ne (by omega)], fun z j => by rw [a6, gr_si], fun z j => by rw [a7, gl_si]⟩
    · rw [fX9_text_227, zv]
      simp (disch := omega) only [zN_lit, zN_le]
      rw [if_neg (show ¬ 84 ≤ k by omega), zgr h11, yzst (by omega) (by omega), ynar0]
      simp only [zv, zN_add]
      rw [a1, gi_ne (by omega)]
    · by_cases e : j = k
      · rw [e, a5 _ _ (by omega) (by omega), gi_si]
      · exact a2 j (by omega) q2
end SK
