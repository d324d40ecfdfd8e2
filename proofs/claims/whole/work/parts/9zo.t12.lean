/-! ===== t: the loop over terms ===== -/
section TN
variable {N : Nat → Nat} {b : Nat → Nat} {n d i nc nt t0 : Nat} {m w : XM}
theorem c_op (h : cS N b n d i m) : fX1_operatorHere N 2 m = some (if tzk b n (tzp b n i) = 42 then zN 6 else if tzk b n (tzp b n i) = 43 then zN 4 else if tzk b n (tzp b n i) = 45 then zN 5 else zM, m) := by
  have hl := tzk_lt h.2.2.2.1 (tzp b n i)
  unfold fX1_operatorHere
  rw [cs_k h]
  generalize tzk b n (tzp b n i) = k at *
  simp (disch := omega) only [zN_lit, zK, zneg]
  by_cases h42 : k = 42
  · rw [if_pos h42, if_pos h42]
  rw [if_neg h42, if_neg h42]
  by_cases h43 : k = 43
  · rw [if_pos h43, if_pos h43]
  rw [if_neg h43, if_neg h43]
  by_cases h44 : k = 44
  · rw [if_pos h44, if_neg (by omega)]
  rw [if_neg h44]
  by_cases h45 : k = 45
  · rw [if_pos h45, if_pos h45]
  · rw [if_neg h45, if_neg h45]
theorem rl_no (h : rS N b n i w) (h1 : ¬ tzk b n (tzp b n i) = 42) (h2 : ¬ tzk b n (tzp b n i) = 43) (h3 : ¬ tzk b n (tzp b n i) = 45) (R : Nat → Nat → Int32 → XM → Option (Int32 × XM)) (f : Nat) (x y : Int32) : ∃ w', fX9_sumOn_9 N R (f + 1) 85 x y w = some (x, w') ∧ rS N b n i w' ∧ rF w w' := by
  have hb := h.1.2.2.1
  obtain ⟨w1, a1, a2, a3, a4⟩ := r_here h
  obtain ⟨w2, b1, b2, b3, b4⟩ := r_here a2
  obtain ⟨w3, c1, c2, c3, c4⟩ := r_here b2
  have k42 := tzk_sg (c := 42) (p := tzp b n i) hb (by omega)
  have k43 := tzk_sg (c := 43) (p := tzp b n i) hb (by omega)
  have k45 := tzk_sg (c := 45) (p := tzp b n i) hb (by omega)
  refine ⟨w3, ?_, c2, rF_tr a4 (rF_tr b4 c4)⟩
  rw [fX9_sumOn_9, zv, r_fine h]
  simp only [zca, zN_lit, zN10, if_false, a1]
  simp (disch := omega) only [tzB_c hb, ← k43, h2, if_false, b1, zca, ← k45, h3, c1, ← k42, h1]
theorem rl_op (h : rS N b n i w) {o : Nat} (ho4 : 4 ≤ o) (ho6 : o ≤ 6) (hk : tzk b n (tzp b n i) = ysign o) (R : Nat → Nat → Int32 → XM → Option (Int32 × XM)) (f : Nat) (x y : Int32) : ∃ w', fX9_sumOn_9 N R (f + 1) 85 x y w = (xca (R 0 85 (zN (ysign o)) w') fun v7 m6 => xca (fX9_fine N 85 m6) fun v9 m8 => if (v9 : Int32) = zN 0 then (some (zM, m8)) else (xgr m8 85 10 fun u10 => xast N m8 u10 (zN 1410 + zN 6 * y + zN 4) v7 fun m14 => fX9_sumOn_9 N R f 85 x v7 m14)) ∧ rS N b n (i + 1) w' ∧ rF w w' := by
  have hb := h.1.2.2.1
  have hs : ysign o = 43 ∨ ysign o = 45 ∨ ysign o = 42 := by
    unfold ysign
    repeat' split
    all_goals omega
  have k42 := tzk_sg (c := 42) (p := tzp b n i) hb (by omega)
  have k43 := tzk_sg (c := 43) (p := tzp b n i) hb (by omega)
  have k45 := tzk_sg (c := 45) (p := tzp b n i) hb (by omega)
  have hB : tzB b n (tzp b n i) = zN (ysign o) := by
    obtain ⟨p1, p2, p3⟩ := tz_sg (c := ysign o) (by omega) hb hk
    unfold tzB; rw [if_pos p1, p2]
  have e43 : ∀ w0, rS N b n i w0 → ∃ w', fX9_sumOn_43 N R (fun q0 x1 x2 m0 => fX9_sumOn_9 N R f q0 x1 x2 m0) 85 x y w0 = (xca (R 0 85 (zN (ysign o)) w') fun v7 m6 => xca (fX9_fine N 85 m6) fun v9 m8 => if (v9 : Int32) = zN 0 then (some (zM, m8)) else (xgr m8 85 10 fun u10 => xast N m8 u10 (zN 1410 + zN 6 * y + zN 4) v7 fun m14 => fX9_sumOn_9 N R f 85 x v7 m14)) ∧ rS N b n (i + 1) w' ∧ rF w0 w' := fun w0 hw => by
    obtain ⟨w1, a1, a2, a3, a4⟩ := r_here hw
    obtain ⟨p1, p2, p3⟩ := tz_sg (c := ysign o) (by omega) hb hk
    have := rS_s a2 p1
    rw [p3] at this
    refine ⟨_, ?_, this, rF_tr a4 rF_si⟩
    unfold fX9_sumOn_43
    simp only [a1, zca, zv, a3, zN_lit, zN_add, hB, zneg]
  obtain ⟨w1, a1, a2, a3, a4⟩ := r_here h
  rw [fX9_sumOn_9, zv, r_fine h]
  simp only [zca, zN_lit, zN10, if_false, a1]
  simp (disch := omega) only [tzB_c hb, ← k43]
  by_cases q43 : tzk b n (tzp b n i) = 43
  · rw [if_pos q43]
    obtain ⟨w', x1, x2, x3⟩ := e43 w1 a2
    exact ⟨w', x1, x2, rF_tr a4 x3⟩
  rw [if_neg q43]
  obtain ⟨w2, b1, b2, b3, b4⟩ := r_here a2
  simp only [b1, zca]
  simp (disch := omega) only [tzB_c hb, ← k45]
  by_cases q45 : tzk b n (tzp b n i) = 45
  · rw [if_pos q45]
    obtain ⟨w', x1, x2, x3⟩ := e43 w2 b2
    exact ⟨w', x1, x2, rF_tr a4 (rF_tr b4 x3)⟩
  rw [if_neg q45]
  obtain ⟨w3, c1, c2, c3, c4⟩ := r_here b2
  simp only [c1, zca]
  simp (disch := omega) only [tzB_c hb, ← k42]
  rw [if_pos (show tzk b n (tzp b n i) = 42 by omega)]
  obtain ⟨w', x1, x2, x3⟩ := e43 w3 c2
  exact ⟨w', x1, x2, rF_tr a4 (rF_tr b4 (rF_tr c4 x3))⟩
theorem q_L {d0 : Nat} (hT : QT N b n d d0) (hL : ∀ d1, d1 < d0 → QL N b n d d1) : QL N b n d d0 := by
  intro e1 e2 f1 f2 t0 i nc nt p x1 x m w ht he1 he2 hf1 hf2 hx hp hlk hH hnt
  obtain ⟨f1, rfl⟩ : ∃ f, f1 = f + 1 := ⟨f1 - 1, by omega⟩
  obtain ⟨f2, rfl⟩ : ∃ f, f2 = f + 1 := ⟨f2 - 1, by omega⟩
  obtain ⟨h1, h2, h3, h4, h5, h6, h7, h8⟩ := hH
  have hd := h1.1.1
  have hii := cS_i h1
  by_cases hop : ∃ o, 4 ≤ o ∧ o ≤ 6 ∧ tzk b n (tzp b n i) = ysign o
  · obtain ⟨o, ho4, ho6, hk⟩ := hop
    have hs : ysign o = 43 ∨ ysign o = 45 ∨ ysign o = 42 := by
      unfold ysign
      repeat' split
      all_goals omega
    have hq := tz_nE hk (by omega)
    have hps := tzp_s hq
    have hS5 := cS_s h1 hq
    have hF5 : cF m (si m 2 10 (zN (i + 1))) := cF_si (cF_rf m) (by omega)
    have eop : (if tzk b n (tzp b n i) = 42 then zN 6 else if tzk b n (tzp b n i) = 43 then zN 4 else if tzk b n (tzp b n i) = 45 then zN 5 else zM) = zN o := by
      have ho : o = 4 ∨ o = 5 ∨ o = 6 := by omega
      rw [hk]
      rcases ho with rfl | rfl | rfl <;> decide
    have hnm : (zN o = zM) = False := zN_m (by omega)
    have ec : fX1_readTerms_11 N (fun t q m0 => gX1_readTerms N e1 t q m0) (f1 + 1) 2 (zN x1) m = (xca (gX1_readTerms N e1 1 2 (si m 2 10 (zN (i + 1)))) fun v7 m6 => if (v7 : Int32) = zN 0 then (some (zN 0, m6)) else (xcv (fX1_putCode N 2 (zN o) (zN 0) (zN 0) m6) fun m8 => fX1_readTerms_11 N (fun t q m0 => gX1_readTerms N e1 t q m0) f1 2 (zN (x1 + 1)) m8)) := by
      rw [fX1_readTerms_11]
      simp (disch := omega) only [zv, zN_lit, zN_le]
      rw [if_neg (show ¬ 8 ≤ x1 by omega), c_op h1, eop, zca]
      simp only [zneg, hnm, if_false, h1.2.2.2.2.2.2, zN_add]
    obtain ⟨w1, b1, b2, b3⟩ := rl_op h5 ho4 ho6 hk (fun t q x0 m0 => gX9_term N e2 t q x0 m0) f2 x (zN p)
    rw [ec, b1]
    have h5c : gi (si m 2 10 (zN (i + 1))) (d + 12) 0 = zN nc := by rw [gi_ne (by omega)]; exact h3
    rcases hT e1 e2 t0 (i + 1) nc nt (zN (ysign o)) (si m 2 10 (zN (i + 1))) w1 (by omega) (by omega) (by omega) ⟨hS5, by rw [gi_ne (by omega)]; exact h2, h5c, by omega, b2, rN_g h6 b3.2.1, by rw [b3.1 _ _ (by omega)]; exact h7, by rw [b3.1 _ _ (by omega)]; exact h8⟩ hnt with ⟨f, q, m6, v, w2, k1, k2, k3, k4, k5, k6⟩ | ⟨m6, w2, i1, k, l, k1, k2, ⟨g1, g2, g3, g4, g5, g6, g7, g8, g9, g10, g11, g12, g13⟩, k3, k4, k5, k6, k7, k8⟩
    · refine Or.inl ⟨f, q, m6, zM, w2, ?_, k2, cO_tr (cF_O hF5) k3, ?_, k5, rO_tr (rE_O (rF_E b3)) k6⟩
      · rw [k1, zca, if_pos rfl]
      · rw [k4, zca, r_dead k5, zca, if_pos rfl]
    · have hi1 := cS_i g1
      have hN2 : rN N w2 := rN_g (rN_g h6 b3.2.1) g11.2.1
      rw [k1, zca, if_neg (by rw [zN10]; exact id), c_cput g1.1 g3 (by omega), zcv, k2, zca, r_fine g8, zca, if_neg (by rw [zN10]; exact id)]
      generalize hw3 : si w2 89 (1410 + 6 * p + 4) (zN nt) = w3
      have er : (xgr w2 85 10 fun u10 => xast N w2 u10 (zN 1410 + zN 6 * zN p + zN 4) (zN nt) fun m14 => fX9_sumOn_9 N (fun t q x0 m0 => gX9_term N e2 t q x0 m0) f2 85 x (zN nt) m14) = fX9_sumOn_9 N (fun t q x0 m0 => gX9_term N e2 t q x0 m0) f2 85 x (zN nt) w3 := by
        obtain ⟨n1, n2⟩ := hN2
        simp (disch := omega) only [zgr n2, zN_mul, zN_add, zast]
        rw [hw3]
      have h389 : ∀ j, j ≠ 1410 + 6 * p + 4 → gi w3 89 j = gi w2 89 j := fun j hj => by rw [← hw3, gi_ne (by omega)]
      have h385 : ∀ j, gi w3 85 j = gi w2 85 j := fun j => by rw [← hw3, gi_ne (by omega)]
      rw [er]
      rcases hL (d0 - k) (by omega) e1 e2 f1 f2 (t0 + k) i1 (nc + l.length + 1) (nt + k) nt (x1 + 1) x (cput d m6 (nc + l.length) o 0 0) w3 (by omega) (by omega) (by omega) (by omega) (by omega) (by omega) (by omega) (by rw [h389 _ (by omega)]; exact k7) ⟨cput_S g1, by rw [cput_2 hd]; exact g2, cput_c, by omega, rS_w g8 (fun z j => by rw [← hw3]; rfl) (fun j _ => h385 j) (fun j => by rw [← hw3, gi_ne (by omega)]), rN_g hN2 (fun z j => by rw [← hw3]; rfl), by rw [h385]; exact g9, by rw [h389 _ (by omega)]; exact g10⟩ (by omega) with ⟨f, q, m7, v, w4, r1, r2, r3, r4, r5, r6⟩ | ⟨m7, w4, i3, k', l', ts, r1, r2, ⟨s1, s2, s3, s4, s5, s6, s7, s8, s9, s10, s11, s12, s13⟩, r3, r4, r5, r6⟩
      · exact Or.inl ⟨f, q, m7, v, w4, r1, r2, cO_tr (cF_O hF5) (cO_tr (cT_O g5) (cO_tr (cT_O cput_T) r3)), r4, r5, rO_tr (rE_O (rF_E b3)) (rO_tr (rT_O g11) (rO_tr (by rw [← hw3]; exact rO_si (rO_rf w2)) r6))⟩
      · have hll : (l ++ (o, 0, 0) :: l').length = l.length + 1 + l'.length := by simp; omega
        have h4x : ∀ j, j < 1410 + 6 * (nt + k) → j ≠ 3 → j ≠ 1410 + 6 * nt + 4 → j ≠ 1410 + 6 * p + 4 → gi w4 89 j = gi w2 89 j := fun j q1 q2 q3 q4 => by rw [s11.1 _ _ (by omega) (by omega), h389 _ q4]
        refine Or.inr ⟨m7, w4, i3, k + k', l ++ (o, 0, 0) :: l', nt :: ts, r1, r2, ⟨s1, by rw [s2]; congr 1; omega, by rw [s3, hll]; congr 1; omega, ?_, ?_, by rw [hll]; omega, by omega, s8, by rw [s9]; congr 1; omega, by rw [s10]; congr 1; omega, ?_, ?_, ?_⟩, by omega, fun s hs' => ?_, by simp; omega, fun D hD => ?_⟩
        · refine pcod_ap _ _ _ (pcod_fr _ _ (fun z j q1 q2 q3 => ?_) g4) ?_
          · rw [s5.1 _ _ (by omega) (by omega) (by omega), cput_T.1 _ _ (by omega) (by omega) (by omega)]
          · obtain ⟨z1, z2, z3, -⟩ := cput_p (m := m6) (nc := nc + l.length) (k := o) (o := 0) (p := 0) hd
            exact ⟨by rw [s5.1 _ _ (by omega) (by omega) (by omega)]; exact z1, by rw [s5.1 _ _ (by omega) (by omega) (by omega)]; exact z2, by rw [s5.1 _ _ (by omega) (by omega) (by omega)]; exact z3, s4⟩
        · exact cT_tr (cF_T hF5) (cT_tr g5 (cT_tr cput_T s5 (by omega)) (by omega)) (Nat.le_refl _)
        · refine ⟨fun z j q1 q2 => ?_, fun z j => ?_, fun z j => ?_⟩
          · rw [s11.1 _ _ q1 (by omega), ← hw3, gi_ne (by omega), g11.1 _ _ q1 (by omega), b3.1 _ _ (by omega)]
          · rw [s11.2.1, ← hw3, gr_si, g11.2.1, b3.2.1]
          · rw [s11.2.2, ← hw3, gl_si, g11.2.2, b3.2.2]
        · exact pfl_ap (mi := nt + k) (by omega) (by omega) (pfl_fr (fun t oo q1 q2 q3 => h4x _ (by omega) (by omega) (by omega) (by omega)) g12) (pfl_op (by show 4 ≤ o; exact ho4) (by rw [← Nat.add_assoc]; exact s12))
        · exact pso_ap _ _ (pso_wk _ (by omega) (Nat.le_refl _) g13) (pso_op (by show 4 ≤ o; exact ho4) s13)
        · refine pcw_ap _ _ (k5 (s + 1) hs') ?_
          show if 4 ≤ o then o ≤ 6 ∧ 2 ≤ s + 1 + 1 ∧ pcw l' (s + 1 + 1 - 1) (s + 1) else _
          rw [if_pos ho4]
          exact ⟨ho6, by omega, r4 s (by omega)⟩
        · refine ⟨hp, ?_, l, o, l', pTm_fr (hi := nt + k) (by omega) _ _ _ (fun j q1 q2 q3 => h4x j (by omega) (by omega) q3 (by omega)) (k8 D hD), ho4, ho6, ?_, rfl, ?_⟩
          · rw [s11.1 _ _ (by omega) (by omega), ← hw3, gi_si]
          · rw [h4x _ (by omega) (by omega) (by omega) (by omega)]; exact k6
          · rw [← Nat.add_assoc]; exact r6 D (by omega)
  · have hno : ∀ o, 4 ≤ o → o ≤ 6 → ¬ tzk b n (tzp b n i) = ysign o := fun o q1 q2 q3 => hop ⟨o, q1, q2, q3⟩
    have n43 : ¬ tzk b n (tzp b n i) = 43 := hno 4 (by omega) (by omega)
    have n45 : ¬ tzk b n (tzp b n i) = 45 := hno 5 (by omega) (by omega)
    have n42 : ¬ tzk b n (tzp b n i) = 42 := hno 6 (by omega) (by omega)
    obtain ⟨w1, b1, b2, b3⟩ := rl_no h5 n42 n43 n45 (fun t q x0 m0 => gX9_term N e2 t q x0 m0) f2 x (zN p)
    refine Or.inr ⟨m, w1, i, 0, [], [], ?_, b1, ⟨h1, h2, h3, trivial, cF_T (cF_rf m), Nat.le_refl _, by omega, b2, by rw [b3.1 _ _ (by omega)]; exact h7, by rw [b3.1 _ _ (by omega)]; exact h8, rE_T (rF_E b3), pfl_nil, Nat.le_refl _⟩, Nat.le_refl _, fun s _ => rfl, Nat.le_refl _, fun D _ => ⟨by rw [b3.1 _ _ (by omega)]; exact hlk, rfl⟩⟩
    rw [fX1_readTerms_11]
    simp (disch := omega) only [zv, zN_lit, zN_le]
    rw [if_neg (show ¬ 8 ≤ x1 by omega), c_op h1, if_neg n42, if_neg n43, if_neg n45, zca]
    simp only [zneg, if_true]
theorem q_S {d0 : Nat} (hT : QT N b n d d0) (hL : ∀ d1, d1 < d0 → QL N b n d d1) : QS N b n d d0 := by
  intro e1 e2 t0 i nc nt m w ht he1 he2 hH hnt
  obtain ⟨e1, rfl⟩ : ∃ e, e1 = e + 1 := ⟨e1 - 1, by omega⟩
  obtain ⟨e2, rfl⟩ : ∃ e, e2 = e + 1 := ⟨e2 - 1, by omega⟩
  have hX := zXF
  have hd := hH.1.1.1
  have hN := hH.2.2.2.2.2.1
  have hnc := hH.2.2.2.1
  rw [c_gS, r_gS]
  unfold fX1_readTerms fX9_sumOn
  simp only [zN_lit]
  rcases hT e1 e2 t0 i nc nt (zN 43) m w ht (by omega) (by omega) hH hnt with ⟨f, q, m6, v, w2, k1, k2, k3, k4, k5, k6⟩ | ⟨m6, w2, i1, k, l, k1, k2, ⟨g1, g2, g3, g4, g5, g6, g7, g8, g9, g10, g11, g12, g13⟩, k3, k4, k5, k6, k7, k8⟩
  · obtain ⟨F, hF⟩ : ∃ F, XF = F + 1 := ⟨XF - 1, by omega⟩
    refine Or.inl ⟨f, q, m6, v, w2, ?_, k2, k3, ?_, k5, k6⟩
    · rw [k1, zca, if_pos rfl]
    · rw [k4, zca, hF, fX9_sumOn_9, zv, r_dead k5, zca]
      simp only [zN_lit, if_true]
  · rw [k1, zca, if_neg (by rw [zN10]; exact id), k2, zca]
    have hi1 := cS_i g1
    rcases hL (d0 - k) (by omega) e1 e2 XF XF (t0 + k) i1 (nc + l.length) (nt + k) nt 0 (zN nt) m6 w2 (by omega) (by omega) (by omega) (by omega) (by omega) (by omega) (by omega) k7 ⟨g1, g2, g3, by omega, g8, rN_g hN g11.2.1, g9, g10⟩ (by omega) with ⟨f, q, m7, v, w4, r1, r2, r3, r4, r5, r6⟩ | ⟨m7, w4, i3, k', l', ts, r1, r2, ⟨s1, s2, s3, s4, s5, s6, s7, s8, s9, s10, s11, s12, s13⟩, r3, r4, r5, r6⟩
    · exact Or.inl ⟨f, q, m7, v, w4, r1, r2, cO_tr (cT_O g5) r3, r4, r5, rO_tr (rT_O g11) r6⟩
    · have hll : (l ++ l').length = l.length + l'.length := by simp
      have h4x : ∀ j, j < 1410 + 6 * (nt + k) → j ≠ 3 → j ≠ 1410 + 6 * nt + 4 → gi w4 89 j = gi w2 89 j := fun j q1 q2 q3 => by rw [s11.1 _ _ (by omega) (by omega)]
      refine Or.inr ⟨m7, w4, i3, k + k', l ++ l', r1, r2, ⟨s1, by rw [s2]; congr 1; omega, by rw [s3, hll]; congr 1; omega, ?_, cT_tr g5 s5 (by omega), by rw [hll]; omega, by omega, s8, by rw [s9]; congr 1; omega, by rw [s10]; congr 1; omega, rT_tr g11 s11 (by omega) (by omega), ?_, pso_ap _ _ g13 s13⟩, by omega, by omega, fun s hs' => pcw_ap _ _ (k5 s hs') (r4 s (by omega)), fun D hD => ⟨l, ts, l', ?_, by omega, ?_, rfl⟩⟩
      · exact pcod_ap _ _ _ (pcod_fr _ _ (fun z j q1 q2 q3 => by rw [s5.1 _ _ (by omega) (by omega) (by omega)]) g4) s4
      · exact pfl_ap (mi := nt + k) (by omega) (by omega) (pfl_fr (fun t oo q1 q2 q3 => h4x _ (by omega) (by omega) (by omega)) g12) (by rw [← Nat.add_assoc]; exact s12)
      · exact pTm_fr (hi := nt + k) (by omega) _ _ _ (fun j q1 q2 q3 => h4x j (by omega) (by omega) q3) (k8 D hD)
      · rw [← Nat.add_assoc]; exact r6 D (by omega)
theorem q_all : ∀ d0, QT N b n d d0 ∧ QS N b n d d0 ∧ QL N b n d d0 := by
  intro d0
  induction d0 using Nat.strongRecOn with
  | _ d0 ih =>
    have hT : QT N b n d d0 := q_T (fun d1 h => (ih d1 h).2.1)
    exact ⟨hT, q_S hT (fun d1 h => (ih d1 h).2.2), q_L hT (fun d1 h => (ih d1 h).2.2)⟩
end TN
