/-! ===== t: one term of both ===== -/
/-- what is wrong with a term that begins so -/
def ptf (k q t0 : Nat) : Nat := if k = 40 ∨ k = 257 ∨ k = 267 then (if 8 ≤ t0 then 3 else 0) else if k = 259 then (if q ≤ 999 then (if 8 ≤ t0 then 3 else 0) else 2) else 1
section TK
variable {N : Nat → Nat} {b : Nat → Nat} {n d i nc nt t0 : Nat} {m w : XM} {K K' : Nat → Int32}
theorem ct_f (h : cS N b n d i m) (h11 : gi m 2 11 = zN t0) (ht : t0 ≤ 8) : fX1_termFaultHere N 2 m = some (zN (ptf (tzk b n (tzp b n i)) (tzq b n (tzp b n i)) t0), m) := by
  have hb := h.2.2.2.1
  have hq : tzk b n (tzp b n i) = 259 → tzq b n (tzp b n i) ≤ 1000 := fun q => by
    rw [(tz_dg hb q).2.2.1]; exact tzd_le _ _ _ (by omega)
  have e74 : fX1_termFaultHere_74 N 2 m = some (zN (if 8 ≤ t0 then 3 else 0), m) := by
    unfold fX1_termFaultHere_74
    simp (disch := omega) only [zv, h11, zN_lit, zN_le]
    by_cases q : 8 ≤ t0
    · rw [if_pos q, if_pos q]
    · rw [if_neg q, if_neg q]
  unfold fX1_termFaultHere fX1_termFaultHere_69
  rw [cs_k h]
  have hl := tzk_lt hb (tzp b n i)
  generalize hk : tzk b n (tzp b n i) = k at *
  simp (disch := omega) only [zN_lit, zK]
  unfold ptf
  by_cases h40 : k = 40
  · rw [if_pos h40, if_pos (Or.inl h40)]; exact e74
  rw [if_neg h40]
  by_cases h257 : k = 257
  · rw [if_pos h257, if_pos (Or.inr (Or.inl h257))]; exact e74
  rw [if_neg h257]
  by_cases h259 : k = 259
  · rw [if_pos h259, if_neg (show ¬ (k = 40 ∨ k = 257 ∨ k = 267) by omega), if_pos h259, cs_n h (by omega)]
    have := hq h259
    simp (disch := omega) only [zN_le]
    by_cases q : tzq b n (tzp b n i) ≤ 999
    · rw [if_pos q, if_pos q]; exact e74
    · rw [if_neg q, if_neg q]
  rw [if_neg h259]
  by_cases h267 : k = 267
  · rw [if_pos h267, if_pos (Or.inr (Or.inr h267))]; exact e74
  · rw [if_neg h267, if_neg (show ¬ (k = 40 ∨ k = 257 ∨ k = 267) by omega), if_neg h259]
theorem ct_no (h : cS N b n d i m) (h11 : gi m 2 11 = zN t0) (ht : t0 ≤ 8) {f : Nat} (hf : ptf (tzk b n (tzp b n i)) (tzq b n (tzp b n i)) t0 = f) (hf0 : 0 < f) (R : Nat → Nat → XM → Option (Int32 × XM)) : ∃ m', fX1_readTerm N R 2 m = some (zN 0, m') ∧ cX f (tzp b n i) m' ∧ cF m m' := by
  have hf4 : f < 4 := by
    rw [← hf]; unfold ptf
    repeat' split
    all_goals omega
  obtain ⟨m', a1, a2, a3⟩ := c_ref (f := f) h hf0 (by omega)
  refine ⟨m', ?_, a2, a3⟩
  unfold fX1_readTerm
  rw [ct_f h h11 ht, hf, zca]
  have : ¬ f = 0 := by omega
  simp (disch := omega) only [zN_lit, zN_eq, this, if_false, a1, zca, znbN0]
theorem r_wr_d {f p : Nat} (h : rX f p w) (a c : Int32) : fX9_wrong N 85 a c w = some (zM, w) := by
  obtain ⟨h1, h2, h3, h4⟩ := h
  unfold fX9_wrong
  have : ¬ f = 0 := by omega
  simp (disch := omega) only [zv, h1, zN_lit, zN_eq, this, if_false, zneg]
theorem rt_can (h : rS N b n i w) : ∃ w', fX9_canBeTerm N 85 w = some (if tzk b n (tzp b n i) = 259 ∨ (tzp b n i < n ∧ 65 ≤ b (tzp b n i) ∧ b (tzp b n i) ≤ 90) ∨ tzk b n (tzp b n i) = 40 ∨ tzk b n (tzp b n i) = 267 then zN 1 else zN 0, w') ∧ rS N b n i w' ∧ gi w' 85 4 = zN (tzp b n i) ∧ rF w w' := by
  have hb := h.1.2.2.1
  obtain ⟨w1, a1, a2, a3, a4⟩ := r_here h
  obtain ⟨w2, b1, b2, b3, b4⟩ := r_here a2
  obtain ⟨w3, c1, c2, c3, c4⟩ := r_here b2
  obtain ⟨w4, d1, d2, d3, d4⟩ := r_word (t := 15) (j := 7) c2 (by omega) rfl
  have k9 := tzk_dg (p := tzp b n i) hb
  have k40 := tzk_sg (c := 40) (p := tzp b n i) hb (by omega)
  unfold fX9_canBeTerm fX9_canBeTerm_38
  simp only [a1, zca, r_dig hb, zN_lit]
  by_cases q1 : tzp b n i < n ∧ 48 ≤ b (tzp b n i) ∧ b (tzp b n i) ≤ 57
  · refine ⟨w1, ?_, a2, a3, a4⟩
    rw [if_pos q1, if_pos (Or.inl (k9.2 q1))]
    simp only [zN10, if_false]
  · rw [if_neg q1]
    simp only [if_true, b1, zca, r_big hb]
    by_cases q2 : tzp b n i < n ∧ 65 ≤ b (tzp b n i) ∧ b (tzp b n i) ≤ 90
    · refine ⟨w2, ?_, b2, b3, rF_tr a4 b4⟩
      rw [if_pos q2, if_pos (Or.inr (Or.inl q2))]
      simp only [zN10, if_false]
    · rw [if_neg q2]
      simp only [if_true, c1, zca]
      simp (disch := omega) only [tzB_c hb, ← k40]
      by_cases q3 : tzk b n (tzp b n i) = 40
      · refine ⟨w3, ?_, c2, c3, rF_tr a4 (rF_tr b4 c4)⟩
        rw [if_pos q3, if_pos (Or.inr (Or.inr (Or.inl q3)))]
      · refine ⟨w4, ?_, d2, d3, rF_tr a4 (rF_tr b4 (rF_tr c4 d4))⟩
        rw [if_neg q3, d1]
        simp only [zca]
        by_cases q4 : tzk b n (tzp b n i) = 267
        · rw [if_pos (show tzk b n (tzp b n i) = 260 + 7 from q4), if_pos (Or.inr (Or.inr (Or.inr q4)))]
          simp only [zN10, if_false]
        · rw [if_neg (show ¬ tzk b n (tzp b n i) = 260 + 7 from q4), if_neg (show ¬ (tzk b n (tzp b n i) = 259 ∨ (tzp b n i < n ∧ 65 ≤ b (tzp b n i) ∧ b (tzp b n i) ≤ 90) ∨ tzk b n (tzp b n i) = 40 ∨ tzk b n (tzp b n i) = 267) from fun q => q.elim (fun q => q1 (k9.1 q)) (fun q => q.elim (fun q => q2 q) (fun q => q.elim (fun q => q3 q) (fun q => q4 q))))]
          simp only [if_true]
theorem rt_no (h : rS N b n i w) (hk : ¬ (tzk b n (tzp b n i) = 40 ∨ tzk b n (tzp b n i) = 257 ∨ tzk b n (tzp b n i) = 267 ∨ tzk b n (tzp b n i) = 259)) (R : Nat → Nat → Int32 → XM → Option (Int32 × XM)) (sg : Int32) : ∃ w', fX9_term N R 85 sg w = some (zM, w') ∧ rX 1 (tzp b n i) w' ∧ rE w w' := by
  have hb := h.1.2.2.1
  obtain ⟨w1, a1, a2, a3, a4⟩ := r_here h
  obtain ⟨w2, b1, b2, b3, b4⟩ := rt_can a2
  obtain ⟨w3, c1, c2, c3, c4⟩ := r_here b2
  obtain ⟨w4, d1, d2, d3, d4⟩ := r_unit c2
  rw [if_neg (show ¬ tzk b n (tzp b n i) = 257 by omega)] at d1
  have e43 : ∀ w0, rS N b n i w0 → ∃ w', fX9_term_43 N R 85 (zN (tzp b n i)) w0 = some (zM, w') ∧ rX 1 (tzp b n i) w' ∧ rE w0 w' := fun w0 hw => by
    obtain ⟨w', x1, x2, x3⟩ := r_wrong (N := N) (f := 1) (p := tzp b n i) hw.2.1 (by omega) (by omega)
    refine ⟨w', ?_, x2, x3⟩
    unfold fX9_term_43
    simp only [zN_lit, x1, zca]
  unfold fX9_term
  rw [r_fine h]
  simp only [zca, zN_lit, zN10, if_false, a1, zv, a3, b1]
  by_cases q2 : tzp b n i < n ∧ 65 ≤ b (tzp b n i) ∧ b (tzp b n i) ≤ 90
  · rw [if_pos (Or.inr (Or.inl q2))]
    simp only [zN10, if_false, c1, zca, r_big hb]
    rw [if_pos q2]
    simp only [zN10, if_false, d1, zca, if_true]
    obtain ⟨w', x1, x2, x3⟩ := e43 w4 d2
    exact ⟨w', x1, x2, rE_tr (rF_E (rF_tr a4 (rF_tr b4 (rF_tr c4 d4)))) x3⟩
  · rw [if_neg (show ¬ (tzk b n (tzp b n i) = 259 ∨ (tzp b n i < n ∧ 65 ≤ b (tzp b n i) ∧ b (tzp b n i) ≤ 90) ∨ tzk b n (tzp b n i) = 40 ∨ tzk b n (tzp b n i) = 267) by omega)]
    simp only [if_true]
    obtain ⟨w', x1, x2, x3⟩ := e43 w2 b2
    exact ⟨w', x1, x2, rE_tr (rF_E (rF_tr a4 b4)) x3⟩
theorem rt_go (h : rS N b n i w) (hk : tzk b n (tzp b n i) = 40 ∨ tzk b n (tzp b n i) = 257 ∨ tzk b n (tzp b n i) = 267 ∨ tzk b n (tzp b n i) = 259) (R : Nat → Nat → Int32 → XM → Option (Int32 × XM)) (sg : Int32) : ∃ w', fX9_term N R 85 sg w = fX9_term_50 N R 85 sg (zN (tzp b n i)) w' ∧ rS N b n i w' ∧ rF w w' := by
  have hb := h.1.2.2.1
  obtain ⟨w1, a1, a2, a3, a4⟩ := r_here h
  obtain ⟨w2, b1, b2, b3, b4⟩ := rt_can a2
  obtain ⟨w3, c1, c2, c3, c4⟩ := r_here b2
  obtain ⟨w4, d1, d2, d3, d4⟩ := r_unit c2
  have kca := tzk_ca (p := tzp b n i) hb
  have hcan : tzk b n (tzp b n i) = 259 ∨ (tzp b n i < n ∧ 65 ≤ b (tzp b n i) ∧ b (tzp b n i) ≤ 90) ∨ tzk b n (tzp b n i) = 40 ∨ tzk b n (tzp b n i) = 267 := by omega
  unfold fX9_term
  rw [r_fine h]
  simp only [zca, zN_lit, zN10, if_false, a1, zv, a3, b1]
  rw [if_pos hcan]
  simp only [zN10, if_false, c1, zca, r_big hb]
  by_cases q2 : tzp b n i < n ∧ 65 ≤ b (tzp b n i) ∧ b (tzp b n i) ≤ 90
  · have k9 := tzk_dg (p := tzp b n i) hb
    have k40 := tzk_sg (c := 40) (p := tzp b n i) hb (by omega)
    have k7 : ¬ tzk b n (tzp b n i) = 267 := fun q => by
      have := ((tzM_m (b := b) (n := n) _ _ (tzW_sm 7)).1 ((tzk_wd hb (j := 7) (by omega)).1 q)).2
      have h1 : b (tzp b n i) = 102 := this.1
      omega
    have hk2 : tzk b n (tzp b n i) = 257 := by omega
    rw [if_pos hk2] at d1
    rw [if_pos q2]
    simp only [zN10, if_false, d1, zca]
    exact ⟨w4, rfl, d2, rF_tr a4 (rF_tr b4 (rF_tr c4 d4))⟩
  · rw [if_neg q2]
    simp only [if_true]
    exact ⟨w3, rfl, c2, rF_tr a4 (rF_tr b4 c4)⟩
theorem pfl_one {t : Nat} {q : pK} (h : pleaf K t q) : pfl K t (t + 1) [q] := by
  refine ⟨fun s h1 h2 h3 => ?_, fun q' h1 _ => ?_⟩
  · have e : s = t := by omega
    subst e
    refine ⟨q, List.mem_cons_self .., ?_, h⟩
    rcases h with h | h | h
    · rw [h.1, zN_eq (by omega) (by omega), zN_eq (by omega) (by omega)] at h3
      omega
    · rw [h.1, zN_eq (by omega) (by omega), zN_eq (by omega) (by omega)] at h3
      omega
    · exact h.1
  · have e : q' = q := by simpa using h1
    rw [e]
    exact ⟨t, Nat.le_refl _, by omega, h⟩
theorem pfl_br {t hi : Nat} {l : List pK} (h4 : K (1410 + 6 * t + 1) = zN 4) (hh : t + 1 ≤ hi) (h : pfl K (t + 1) hi l) : pfl K t hi l := by
  refine ⟨fun s h1 h2 h3 => ?_, fun q h1 h2 => ?_⟩
  · by_cases e : s = t
    · subst e
      rw [h4, zN_eq (by omega) (by omega), zN_eq (by omega) (by omega)] at h3
      omega
    · exact h.1 s (by omega) h2 h3
  · obtain ⟨s, r1, r2, r3⟩ := h.2 q h1 h2
    exact ⟨s, by omega, r2, r3⟩
theorem pSm_fr {hi hi' f n : Nat} {l : List pK} (hh : hi ≤ hi') (h0 : ∀ k, 1410 + 6 * f ≤ k → k < 1410 + 6 * hi → K' k = K k) (h : pSm K (pTm K hi n) f l) : pSm K' (pTm K' hi' n) f l := by
  obtain ⟨l0, ts, lr, h1, h2, h3, h4⟩ := h
  have hT : ∀ t l, f ≤ t → pTm K hi n t l → t < hi ∧ pTm K' hi' n t l := fun t l q1 q2 => ⟨pTm_hi q2, pTm_fr hh n t l (fun k s1 s2 s3 => h0 k (by omega) s2) q2⟩
  exact ⟨l0, ts, lr, (hT f l0 (Nat.le_refl _) h1).2, h2, pCh_fr (t0 := f) (hi := hi) h0 hT ts f lr (Nat.le_refl _) (pTm_hi h1) h3, h4⟩
theorem c_gT (e : Nat) : gX1_readTerms N (e + 1) 1 2 m = fX1_readTerm N (fun t q m0 => gX1_readTerms N e t q m0) 2 m := by rw [gX1_readTerms]; rfl
theorem c_gS (e : Nat) : gX1_readTerms N (e + 1) 0 2 m = fX1_readTerms N (fun t q m0 => gX1_readTerms N e t q m0) 2 m := by rw [gX1_readTerms]; rfl
theorem r_gT (e : Nat) (x : Int32) : gX9_term N (e + 1) 0 85 x w = fX9_term N (fun t q x0 m0 => gX9_term N e t q x0 m0) 85 x w := by rw [gX9_term]; rfl
theorem r_gS (e : Nat) (x : Int32) : gX9_term N (e + 1) 1 85 x w = fX9_sumOn N (fun t q x0 m0 => gX9_term N e t q x0 m0) 85 w := by rw [gX9_term]; rfl
/-- a term that can't stand there -/
theorem qt_no (hH : jH N b n d i t0 nc nt m w) (ht : t0 ≤ 8) (hnt : nt < 400) {f : Nat} (hf : ptf (tzk b n (tzp b n i)) (tzq b n (tzp b n i)) t0 = f) (hf0 : 0 < f) (R1 : Nat → Nat → XM → Option (Int32 × XM)) (R2 : Nat → Nat → Int32 → XM → Option (Int32 × XM)) (sg : Int32) : jF d m w (fX1_readTerm N R1 2 m) (fX9_term N R2 85 sg w) := by
  obtain ⟨h1, h2, h3, h4, h5, h6, h7, h8⟩ := hH
  have hb := h1.2.2.2.1
  obtain ⟨m', a1, a2, a3⟩ := ct_no h1 h2 ht hf hf0 R1
  by_cases hk : tzk b n (tzp b n i) = 40 ∨ tzk b n (tzp b n i) = 257 ∨ tzk b n (tzp b n i) = 267 ∨ tzk b n (tzp b n i) = 259
  · obtain ⟨w1, b1, b2, b3⟩ := rt_go h5 hk R2 sg
    have h17 : gi w1 85 17 = zN t0 := by rw [b3.1 _ _ (by omega)]; exact h7
    have h89 : gi w1 89 3 = zN nt := by rw [b3.1 _ _ (by omega)]; exact h8
    have hN1 := rN_g h6 b3.2.1
    rw [b1]
    unfold fX9_term_50 fX9_term_77
    simp (disch := omega) only [zv, h17, zN_lit, zN_eq]
    have k9 := tzk_dg (p := tzp b n i) hb
    by_cases h88 : t0 = 8
    · rw [if_pos h88]
      obtain ⟨w2, c1, c2, c3, c4⟩ := r_here b2
      simp only [c1, zca, r_dig hb]
      by_cases q : tzk b n (tzp b n i) = 259
      · rw [if_pos (k9.1 q)]
        simp only [zN10, if_false]
        by_cases qv : tzq b n (tzp b n i) ≤ 999
        · have ef : f = 3 := by rw [← hf]; unfold ptf; rw [if_neg (by omega), if_pos q, if_pos qv, if_pos (by omega)]
          obtain ⟨w3, d1, d2, d3⟩ := r_nu_y c2 q qv
          obtain ⟨w4, e1, e2, e3⟩ := r_wrong (N := N) (f := 3) (p := tzp b n i) d2.2.1 (by omega) (by omega)
          refine ⟨f, tzp b n i, m', zM, w4, a1, a2, cF_O a3, ?_, by rw [ef]; exact e2, rE_O (rE_tr (rF_E (rF_tr b3 (rF_tr c4 d3))) e3)⟩
          simp only [d1, zca, e1]
        · have ef : f = 2 := by rw [← hf]; unfold ptf; rw [if_neg (by omega), if_pos q, if_neg qv]
          obtain ⟨w3, d1, d2, d3⟩ := r_nu_2 c2 q qv
          refine ⟨f, tzp b n i, m', zM, w3, a1, a2, cF_O a3, ?_, by rw [ef]; exact d2, rE_O (rE_tr (rF_E (rF_tr b3 c4)) d3)⟩
          simp only [d1, zca, r_wr_d d2]
      · have ef : f = 3 := by rw [← hf]; unfold ptf; rw [if_pos (by omega), if_pos (by omega)]
        rw [if_neg (fun r => q (k9.2 r))]
        obtain ⟨w4, e1, e2, e3⟩ := r_wrong (N := N) (f := 3) (p := tzp b n i) c2.2.1 (by omega) (by omega)
        refine ⟨f, tzp b n i, m', zM, w4, a1, a2, cF_O a3, ?_, by rw [ef]; exact e2, rE_O (rE_tr (rF_E (rF_tr b3 c4)) e3)⟩
        simp only [if_true, e1, zca]
    · have q : tzk b n (tzp b n i) = 259 ∧ ¬ tzq b n (tzp b n i) ≤ 999 ∧ f = 2 := by
        have hf' := hf
        unfold ptf at hf'
        by_cases q : tzk b n (tzp b n i) = 259
        · rw [if_neg (by omega), if_pos q] at hf'
          by_cases qv : tzq b n (tzp b n i) ≤ 999
          · rw [if_pos qv, if_neg (by omega)] at hf'; omega
          · rw [if_neg qv] at hf'; exact ⟨q, qv, hf'.symm⟩
        · rw [if_pos (by omega), if_neg (by omega)] at hf'; omega
      obtain ⟨q, qv, ef⟩ := q
      rw [if_neg h88]
      simp only [zN_add]
      have hw4 : rS N b n i (si w1 85 17 (zN (t0 + 1))) := rS_w (w' := si w1 85 17 (zN (t0 + 1))) b2 (fun _ _ => rfl) (fun k hk => gi_ne (by omega)) (fun k => gi_ne (by omega))
      obtain ⟨w2, c1, c2, c3, c4⟩ := r_here hw4
      obtain ⟨w3, d1, d2, d3⟩ := r_nu_2 c2 q qv
      have h3' : gi w3 89 3 = zN nt := by rw [d3.1 _ _ (by omega), c4.1 _ _ (by omega), gi_ne (by omega)]; exact h89
      have hN3 : rN N w3 := rN_g hN1 (fun a k => by rw [d3.2.1, c4.2.1, gr_si])
      simp only [c1, zca, r_dig hb]
      rw [if_pos (k9.1 q)]
      simp only [zN10, if_false, d1, zca]
      rw [r_adds hN3 h3' hnt, zca]
      refine ⟨f, tzp b n i, m', _, _, a1, a2, cF_O a3, rfl, ⟨?_, ?_, by omega, by omega⟩, ?_⟩
      · rw [radd_85, ef]; exact d2.1
      · rw [radd_85]; exact d2.2.1
      · exact rO_tr (rE_O (rE_tr (rE_tr (rF_E b3) (rE_si (rE_rf _) (by omega))) (rE_tr (rF_E c4) d3))) (rT_O (radd_T hnt 3))
  · have ef : f = 1 := by rw [← hf]; unfold ptf; rw [if_neg (by omega), if_neg (by omega)]
    obtain ⟨w', c1, c2, c3⟩ := rt_no h5 hk R2 sg
    exact ⟨f, tzp b n i, m', zM, w', a1, a2, cF_O a3, c1, by rw [ef]; exact c2, rE_O c3⟩
end TK
