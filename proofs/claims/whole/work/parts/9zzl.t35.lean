/-! ===== t: text, both ===== -/
section SL
variable {N : Nat → Nat} {m m' w : XM} {c d : Nat} {S : zJ}
theorem jS_24 (hg : ∀ z k, ¬ (z = 2 ∧ k = 4) → gr m' z k = gr m z k) (h : jS m c d) : jS m' c d := by
  obtain ⟨h1, h2, h3, h4, h5, h6, ⟨c0, h7⟩, ⟨c1, h8⟩, h9, h10⟩ := h
  refine ⟨h1, ?_, ?_, ?_, zUr_fr (fun a k _ _ => hg a k (by omega)) h5, zUr_fr (fun a k _ _ => hg a k (by omega)) h6, ⟨c0, zRr_fr (fun a k _ _ => hg a k (by omega)) h7⟩, ⟨c1, zRr_fr (fun a k _ _ => hg a k (by omega)) h8⟩, ?_, ?_⟩
  · simp (disch := omega) only [hg]; exact h2
  · simp (disch := omega) only [hg]; exact h3
  · simp (disch := omega) only [hg]; exact h4
  · simp (disch := omega) only [hg]; exact h9
  · unfold vWr at h10 ⊢; simp (disch := omega) only [hg]; exact h10
/-- a text with a fault: the class -/
theorem tf_C {p : Nat} (hC : jC N m c d S) (F : ∀ z k, z ≠ 2 → ¬ (21 ≤ z ∧ z ≤ 27) → ¬ (d ≤ z ∧ z < d + 18) → gi m' z k = gi m z k) (G : ∀ z k, ¬ (z = 2 ∧ k = 4) → gr m' z k = gr m z k) : jC N (si (si m' 0 1 (zN 0)) 0 11 (zN p)) c d (jP S, (0, jb S), zN p, (jr0 S, jr1 S), jL S) := by
  obtain ⟨g1, g2, g3, g4, g5, ⟨q, q1, q2⟩, g7, ⟨t1, t2, t3, t4, t5, t6⟩, g9⟩ := hC
  have hcd := g2.1
  have e : ∀ z k, z ≠ 0 → z ≠ 2 → ¬ (21 ≤ z ∧ z ≤ 27) → ¬ (d ≤ z ∧ z < d + 18) → gi (si (si m' 0 1 (zN 0)) 0 11 (zN p)) z k = gi m z k := fun z k r0 r1 r2 r3 => by rw [gi_ne (by omega), gi_ne (by omega), F z k r1 r2 r3]
  have e0 : ∀ k, k ≠ 1 → k ≠ 11 → gi (si (si m' 0 1 (zN 0)) 0 11 (zN p)) 0 k = gi m 0 k := fun k r1 r2 => by rw [gi_ne (by omega), gi_ne (by omega), F 0 k (by omega) (by omega) (by omega)]
  have G' : ∀ z k, ¬ (z = 2 ∧ k = 4) → gr (si (si m' 0 1 (zN 0)) 0 11 (zN p)) z k = gr m z k := G
  exact ⟨g1, jS_24 G' g2, g3, jU_fr (fun a k r1 r2 => e a k (by omega) (by omega) (by omega) (by omega)) g4, jPl_fr (fun a k r1 r2 => e a k (by omega) (by omega) (by omega) (by omega)) (e0 6 (by omega) (by omega)) (fun a k r1 r2 => G' a k (by omega)) g5, ⟨q, by rw [e _ _ (by omega) (by omega) (by omega) (by omega)]; exact q1, q2⟩, jSe_fr (fun k => e 77 k (by omega) (by omega) (by omega) (by omega)) g7, ⟨Nat.zero_le _, by rw [gi_ne (by omega), gi_si]; rfl, by rw [gi_si]; rfl, by rw [e0 12 (by omega) (by omega)]; exact t4, by rw [e0 13 (by omega) (by omega)]; exact t5, fun k hk => absurd hk (Nat.not_lt_zero _)⟩, jCg_fr (fun a k r1 r2 => e a k (by omega) (by omega) (by omega) (by omega)) g9⟩
/-- a text with a fault: the other -/
theorem tf_M {f p : Nat} {w0 w3 : XM} (hM : jM0 N w0 S) (F : ∀ z k, ¬ (z = 85 ∧ (k = 2 ∨ k = 3 ∨ k = 4 ∨ k = 6 ∨ k = 7 ∨ k = 17)) → z ≠ 89 → gi w3 z k = gi w0 z k) (G : ∀ z k, gr w3 z k = gr w0 z k) (L : ∀ z k, gl w3 z k = gl w0 z k) (h2 : gi w3 85 2 = zN 0) (hX : rX f p w3) : fX9_text_143 N 85 w3 = some (zN f - zN 10, si w3 85 5 (zN p)) ∧ jM N (si w3 85 5 (zN p)) (jP S, (0, jb S), zN p, (jr0 S, jr1 S), jL S) ∧ jfm w0 (si w3 85 5 (zN p)) ∧ gi (si w3 85 5 (zN p)) 85 0 = zN 0 := by
  have e : ∀ z k, ¬ (z = 85 ∧ (k = 2 ∨ k = 3 ∨ k = 4 ∨ k = 5 ∨ k = 6 ∨ k = 7 ∨ k = 17)) → z ≠ 89 → gi (si w3 85 5 (zN p)) z k = gi w0 z k := fun z k r1 r2 => by rw [gi_ne (by omega), F z k (by omega) r2]
  have hX5 : rX f p (si w3 85 5 (zN p)) := ⟨by rw [gi_ne (by omega)]; exact hX.1, by rw [gi_ne (by omega)]; exact hX.2.1, hX.2.2⟩
  obtain ⟨⟨g1, g2, g3, g4, ⟨q, g5, g5'⟩, g6, g7, ⟨k1, k2, k3, k4, k5, k6⟩, g9, g10, g11⟩, h0⟩ := hM
  refine ⟨?_, ⟨g1, yR_fr (fun k => G 85 k) g2, g3, yMP_fr (fun k => e 88 k (by omega) (by omega)) (fun k => e 90 k (by omega) (by omega)) g4, ⟨q, by rw [e _ _ (by omega) (by omega)]; exact g5, g5'⟩, by rw [e _ _ (by omega) (by omega)]; exact g6, ?_, ⟨Nat.zero_le _, by rw [gi_ne (by omega)]; exact h2, by rw [gi_si]; rfl, by rw [e _ _ (by omega) (by omega)]; exact k4, by rw [e _ _ (by omega) (by omega)]; exact k5, fun k hk => absurd hk (Nat.not_lt_zero _)⟩, g9, by rw [e _ _ (by omega) (by omega)]; exact g10, ych_fr (fun a k r1 r2 => e a k (by omega) (by omega)) g11⟩, ⟨fun a k r => ⟨e a k (by omega) (by omega), G a k, L a k⟩, fun k => L _ _⟩, by rw [e _ _ (by omega) (by omega)]; exact h0⟩
  · unfold fX9_text_143
    rw [r_dead hX, zca]
    simp only [zN_lit, if_true, zneg]
    unfold fX9_text_158 fX9_text_171
    simp only [zN_lit, zneg, if_true, zv, hX.2.1]
    rw [r_dead hX5, zca]
    simp only [if_true]
    rw [gi_ne (by omega), hX.1]
  · rcases g7 with h | ⟨h, h'⟩
    · exact Or.inl (by rw [e _ _ (by omega) (by omega)]; exact h)
    · exact Or.inr ⟨by rw [e _ _ (by omega) (by omega)]; exact h, yShow_fr (fun a k r1 r2 => e a k (by omega) (by omega)) (fun k r1 r2 _ => e 85 k (by omega) (by omega)) h'⟩
theorem pcw_7 : ∀ (l : List pK) (s e : Nat), pcw l s e → ∀ q ∈ l, q.1 < 7
  | [], _, _, _, q, h => by simp at h
  | q0 :: l, s, e, hp, q, h => by
    have h1 : if 4 ≤ q0.1 then q0.1 ≤ 6 ∧ 2 ≤ s ∧ pcw l (s - 1) e else q0.2.1 < 1000 ∧ s < 8 ∧ pcw l (s + 1) e := hp
    by_cases h4 : 4 ≤ q0.1
    · rw [if_pos h4] at h1
      rcases List.mem_cons.1 h with r | r
      · rw [r]; omega
      · exact pcw_7 l _ _ h1.2.2 q r
    · rw [if_neg h4] at h1
      rcases List.mem_cons.1 h with r | r
      · rw [r]; omega
      · exact pcw_7 l _ _ h1.2.2 q r
/-- a text without a fault: the class -/
theorem ts_C {P : zP} (hC : jC N m c d S) (hW : jW P) (hU : jU m' d P) (F : ∀ z k, z ≠ 2 → ¬ (21 ≤ z ∧ z ≤ 27) → ¬ (d ≤ z ∧ z < d + 18) → gi m' z k = gi m z k) (G : ∀ z k, ¬ (z = 2 ∧ k = 4) → gr m' z k = gr m z k) : jC N (si (si (si (sr (sr (si (si m' 0 1 (zN 0)) 0 11 zM) 2 0 (some c)) 0 3 (some d)) 46 0 (zN 0)) 0 6 (zN 0)) 77 0 (zN 0)) d c (P, (0, jb S), zM, (jr0 S, jr1 S), []) := by
  obtain ⟨g1, g2, g3, g4, ⟨⟨p, p1, p2⟩, -⟩, ⟨q, q1, q2⟩, g7, ⟨t1, t2, t3, t4, t5, t6⟩, ⟨-, -, nx, n1, n2, -⟩⟩ := hC
  have hcd := g2.1
  generalize hm9 : si (si (si (sr (sr (si (si m' 0 1 (zN 0)) 0 11 zM) 2 0 (some c)) 0 3 (some d)) 46 0 (zN 0)) 0 6 (zN 0)) 77 0 (zN 0) = m9
  have e9 : ∀ z k, z ≠ 0 → ¬ (z = 46 ∧ k = 0) → ¬ (z = 77 ∧ k = 0) → gi m9 z k = gi m' z k := fun z k r1 r2 r3 => by rw [← hm9, gi_ne (by omega), gi_ne (by omega), gi_ne (by omega), gi_sr, gi_sr, gi_ne (by omega), gi_ne (by omega)]
  have e0 : ∀ k, k ≠ 1 → k ≠ 11 → k ≠ 6 → gi m9 0 k = gi m 0 k := fun k r1 r2 r3 => by rw [← hm9, gi_ne (by omega), gi_ne (by omega), gi_ne (by omega), gi_sr, gi_sr, gi_ne (by omega), gi_ne (by omega), F 0 k (by omega) (by omega) (by omega)]
  have eg : ∀ z k, ¬ (z = 2 ∧ k = 4) → ¬ (z = 2 ∧ k = 0) → ¬ (z = 0 ∧ k = 3) → gr m9 z k = gr m z k := fun z k r1 r2 r3 => by rw [← hm9, gr_si, gr_si, gr_si, gr_ne (by omega), gr_ne (by omega), gr_si, gr_si, G z k r1]
  have h20 : gr m9 2 0 = some c := by rw [← hm9, gr_si, gr_si, gr_si, gr_ne (by omega), gr_sr]
  have h03 : gr m9 0 3 = some d := by rw [← hm9, gr_si, gr_si, gr_si, gr_sr]
  refine ⟨g1, ?_, hW, jU_fr (fun a k r1 r2 => e9 a k (by omega) (by omega) (by omega)) hU, ⟨⟨p, by rw [e9 _ _ (by omega) (by omega) (by omega), F _ _ (by omega) (by omega) (by omega)]; exact p1, p2⟩, Or.inl (by rw [← hm9, gi_ne (by omega), gi_si])⟩, ⟨q, by rw [e9 _ _ (by omega) (by omega) (by omega), F _ _ (by omega) (by omega) (by omega)]; exact q1, q2⟩, Or.inl (by rw [← hm9, gi_si]), ⟨Nat.zero_le _, ?_, ?_, by rw [e0 12 (by omega) (by omega) (by omega)]; exact t4, by rw [e0 13 (by omega) (by omega) (by omega)]; exact t5, fun k hk => absurd hk (Nat.not_lt_zero _)⟩, ⟨Nat.zero_le _, ?_, nx, n1, ?_, trivial⟩⟩
  · obtain ⟨h1, h2, h3, h4, h5, h6, ⟨c0, h7⟩, ⟨c1, h8⟩, h9, h10⟩ := g2
    refine ⟨by omega, ?_, ?_, ?_, zUr_fr (fun a k _ _ => eg a k (by omega) (by omega) (by omega)) h5, zUr_fr (fun a k _ _ => eg a k (by omega) (by omega) (by omega)) h6, ⟨c0, zRr_fr (fun a k _ _ => eg a k (by omega) (by omega) (by omega)) h7⟩, ⟨c1, zRr_fr (fun a k _ _ => eg a k (by omega) (by omega) (by omega)) h8⟩, ?_, ?_⟩
    · obtain ⟨s1, s2, s3, s4, s5, s6, s7, s8, s9⟩ := h2
      exact ⟨by rw [eg _ _ (by omega) (by omega) (by omega)]; exact s1, by rw [eg _ _ (by omega) (by omega) (by omega)]; exact s2, h03, by rw [eg _ _ (by omega) (by omega) (by omega)]; exact s4, by rw [eg _ _ (by omega) (by omega) (by omega)]; exact s5, by rw [eg _ _ (by omega) (by omega) (by omega)]; exact s6, by rw [eg _ _ (by omega) (by omega) (by omega)]; exact s7, by rw [eg _ _ (by omega) (by omega) (by omega)]; exact s8, by rw [eg _ _ (by omega) (by omega) (by omega)]; exact s9⟩
    · obtain ⟨s1, s2, s3, s4, s5, s6, s7⟩ := h3
      exact ⟨h20, by rw [eg _ _ (by omega) (by omega) (by omega)]; exact s2, by rw [eg _ _ (by omega) (by omega) (by omega)]; exact s3, by rw [eg _ _ (by omega) (by omega) (by omega)]; exact s4, by rw [eg _ _ (by omega) (by omega) (by omega)]; exact s5, by rw [eg _ _ (by omega) (by omega) (by omega)]; exact s6, by rw [eg _ _ (by omega) (by omega) (by omega)]; exact s7⟩
    · simp (disch := omega) only [eg]; exact h4
    · simp (disch := omega) only [eg]; exact h9
    · unfold vWr at h10 ⊢; simp (disch := omega) only [eg]; exact h10
  · rw [← hm9, gi_ne (by omega), gi_ne (by omega), gi_ne (by omega), gi_sr, gi_sr, gi_ne (by omega), gi_si]; rfl
  · rw [← hm9, gi_ne (by omega), gi_ne (by omega), gi_ne (by omega), gi_sr, gi_sr, gi_si]; rfl
  · rw [← hm9, gi_ne (by omega), gi_ne (by omega), gi_si]; rfl
  · rw [e9 _ _ (by omega) (by omega) (by omega), F _ _ (by omega) (by omega) (by omega)]; exact n2
theorem rQ_rU {Q : pQ} {DL : List pD} {nt na : Nat} (h : rQ w Q DL nt na) : rU w Q := ⟨h.1, h.2.2.2.1, fun x hx => ⟨(h.2.2.2.2.1 x hx).1, (h.2.2.2.2.1 x hx).2.1⟩⟩
/-- a text without a fault: the other -/
theorem ts_M {Q : pQ} {DL : List pD} {nt na hi : Nat} {w0 w3 : XM} (hM : jM0 N w0 S) (hG : qG Q DL) (hQ : rQ w3 Q DL nt na) (hnt : nt ≤ 300) (hna : na ≤ 150) (hN : rN N w3) (h3 : gi w3 89 3 = zN nt) (h2' : gi w3 89 2 = zN na) (hf : pfl (gi w3 89) 0 nt (pcs DL)) (ha : pafl (gi w3 89) na DL) (hs : psD 0 DL hi) (hhi : hi ≤ 600) (hno : ∀ p, ¬ qBp Q DL p) (h6 : gi w3 85 6 = zN 0) (h7 : gi w3 85 7 = zM)
    (F : ∀ z k, ¬ (z = 85 ∧ (k = 2 ∨ k = 3 ∨ k = 4 ∨ k = 6 ∨ k = 7 ∨ k = 17)) → z ≠ 89 → gi w3 z k = gi w0 z k) (G : ∀ z k, gr w3 z k = gr w0 z k) (L : ∀ z k, gl w3 z k = gl w0 z k) (h2 : gi w3 85 2 = zN 0) : ∃ w7, fX9_text_143 N 85 w3 = some (zN (qn Q), w7) ∧ jM N w7 (qP Q DL, (0, jb S), zM, (jr0 S, jr1 S), []) ∧ jfm w0 w7 ∧ gi w7 85 0 = zN 0 := by
  have hX := zXF
  obtain ⟨⟨g1, g2, g3, g4, ⟨q, g5, g5'⟩, g6, g7, ⟨k1, k2, k3, k4, k5, k6⟩, g9, g10, g11⟩, h0⟩ := hM
  obtain ⟨x, x1, x2⟩ := r_mis hN hQ hG.1 hnt hna h3 h2' hf ha hs hhi
  have hxm : x = zM := by
    rcases x1 with ⟨r, -⟩ | ⟨p, -, -, r, -⟩
    · exact r
    · exact absurd r (hno p)
  have hn88 : N 88 = 3820 ∧ N 89 = 3820 ∧ N 90 = 84 := by
    have hyN := g1.2.2.2.2.2.2.2.2.2.2.1
    exact ⟨hyN.2.2.1, hyN.2.2.2.1, hyN.2.2.2.2.1⟩
  obtain ⟨m88, m89, m90⟩ := hn88
  generalize hw4 : si w3 85 5 zM = w4
  have e4 : ∀ z k, ¬ (z = 85 ∧ k = 5) → gi w4 z k = gi w3 z k := fun z k r => by rw [← hw4, gi_ne (by omega)]
  have G4 : ∀ z k, gr w4 z k = gr w3 z k := fun z k => by rw [← hw4]; rfl
  have L4 : ∀ z k, gl w4 z k = gl w3 z k := fun z k => by rw [← hw4]; rfl
  have e89 : gi w4 89 = gi w3 89 := funext fun k => e4 _ _ (by omega)
  have hQ4 : rQ w4 Q DL nt na := by unfold rQ at hQ ⊢; rw [e89]; exact hQ
  have hN4 : rN N w4 := rN_g hN G4
  obtain ⟨l1, l2, l3⟩ := psD_lb DL hs
  obtain ⟨w5, i1, i2⟩ := r_bin2 (DL := DL) (nt := nt) hN4 (rQ_rU hQ4) hG.1 hnt (by rw [e89]; exact h3) (by rw [e89]; exact hf) (fun q r1 r2 => by have := l2 q r1 r2; omega) (fun q r => by
    obtain ⟨D, d1, d2⟩ := pcs_inv r
    exact hG.2.2.2.1 D d1 q d2) nt XF 0 w4 (by omega) (by omega) (by omega) ⟨⟨fun _ _ _ => rfl, fun _ _ => rfl, fun _ _ => rfl⟩, fun _ _ _ => rfl, fun t' r => by omega, fun a' r => by omega⟩
  obtain ⟨w6, i3, i4⟩ := r_bin105 (DL := DL) (nt := nt) (na := na) hN4 (rQ_rU hQ4) hG.1 hnt hna (by rw [e89]; exact h2') (by rw [e89]; exact ha) (fun D r1 t r2 => by have := l1 D r1 t r2; omega) hG.2.2.2.2 na XF 0 w5 (by omega) (by omega) (by omega) i1
  have g10' : gr w6 85 10 = some 89 := by rw [i3.1.2.1]; exact hN4.2
  have g9' : gr w6 85 9 = some 88 := by rw [i3.1.2.1, G4, G]; exact g2.2.2.1
  have g11' : gr w6 85 11 = some 90 := by rw [i3.1.2.1, G4, G]; exact g2.2.2.2.2.1
  obtain ⟨w7, j1, j2, j3, j4, j5⟩ := r_200 m89 m88 3820 XF 0 w6 (by omega) (by omega) (by omega) g10' g9'
  obtain ⟨w8, k1', k2', k3', k4', k5', k6', k7'⟩ := r_227 m90 m88 84 XF 0 w7 (by omega) (by omega) (by omega) (by rw [j4]; exact g11') (by rw [j4]; exact g9')
  have eall : ∀ z k, ¬ (z = 85 ∧ (k = 2 ∨ k = 3 ∨ k = 4 ∨ k = 5 ∨ k = 6 ∨ k = 7 ∨ k = 15 ∨ k = 16 ∨ k = 17)) → z ≠ 88 → z ≠ 89 → z ≠ 90 → gi w8 z k = gi w0 z k := fun z k r1 r2 r3 r4 => by rw [k5' z k (by omega) (by omega), j3 z k (by omega), i3.1.1 z k r3, e4 z k (by omega), F z k (by omega) r3]
  have e85 : ∀ k, k ≠ 15 → k ≠ 16 → gi w8 85 k = gi w4 85 k := fun k r1 r2 => by rw [k5' _ _ (by omega) (by omega), j3 _ _ (by omega), i3.1.1 _ _ (by omega)]
  have gall : ∀ z k, gr w8 z k = gr w0 z k := fun z k => by rw [k6', j4, i3.1.2.1, G4, G]
  have lall : ∀ z k, gl w8 z k = gl w0 z k := fun z k => by rw [k7', j5, i3.1.2.2, L4, L]
  have hyM : yMP w8 (qP Q DL) := q_yMP hG hQ4 i3 hna hnt (fun k hk => by rw [k5' _ _ (by omega) (by omega), j2 k (by omega) hk]) (fun k hk => k2' k (by omega) hk)
  refine ⟨w8, ?_, ⟨g1, yR_fr (fun k => gall 85 k) g2, q_jW hG hQ, hyM, ⟨q, by rw [eall _ _ (by omega) (by omega) (by omega) (by omega)]; exact g5, g5'⟩, by rw [eall _ _ (by omega) (by omega) (by omega) (by omega)]; exact g6, Or.inl k4', ⟨Nat.zero_le _, ?_, ?_, by rw [eall _ _ (by omega) (by omega) (by omega) (by omega)]; exact k4, by rw [eall _ _ (by omega) (by omega) (by omega) (by omega)]; exact k5, fun k hk => absurd hk (Nat.not_lt_zero _)⟩, Nat.zero_le _, k3', trivial⟩, ⟨fun a k r => ⟨eall a k (by omega) (by omega) (by omega) (by omega), gall a k, lall a k⟩, fun k => lall _ _⟩, by rw [eall _ _ (by omega) (by omega) (by omega) (by omega)]; exact h0⟩
  · have hf3 : fX9_fine N 85 w3 = some (zN 1, w3) := by
      unfold fX9_fine
      simp only [zv, h6, zN_lit, if_true]
    have hf4 : fX9_fine N 85 w4 = some (zN 1, w4) := by
      unfold fX9_fine
      rw [e4 _ _ (by omega)]
      simp only [zv, h6, zN_lit, if_true]
    unfold fX9_text_143
    rw [hf3, zca]
    simp only [zN_lit, zN10, if_false]
    rw [x2, zca, hxm]
    unfold fX9_text_158 fX9_text_171
    simp only [zN_lit, zneg, if_true, zv, h7]
    rw [hw4, hf4, zca]
    simp only [zN10, if_false]
    unfold fX9_binds
    simp only [zN_lit]
    rw [i2, i4, zcv, j1, k1']
    congr 2
    rw [j2 0 (by omega) (by omega), i3.2.1 0 (fun t' _ => by omega) (fun a' _ => by omega)]
    exact hQ4.1
  · rw [e85 _ (by omega) (by omega), e4 _ _ (by omega)]; exact h2
  · rw [e85 _ (by omega) (by omega), ← hw4, gi_si]; rfl
end SL
