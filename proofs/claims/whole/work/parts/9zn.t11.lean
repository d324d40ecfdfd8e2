/-! ===== t: brackets, and terms behind one another ===== -/
section TM
variable {N : Nat → Nat} {b : Nat → Nat} {n d i nc nt t0 : Nat} {m w : XM} {sg : Int32}
theorem qt_brk {e1 e2 d1 : Nat} (hS : QS N b n d d1) (hd1 : t0 + 1 + d1 = 8) (he1 : 2 * d1 + 2 ≤ e1) (he2 : 2 * d1 + 2 ≤ e2) (hH : jH N b n d i t0 nc nt m w) (hnt : nt + 1 + d1 ≤ 308) (hk : tzk b n (tzp b n i) = 40) : jF d m w (fX1_readTerm N (fun t q m0 => gX1_readTerms N e1 t q m0) 2 m) (fX9_term N (fun t q x0 m0 => gX9_term N e2 t q x0 m0) 85 sg w) ∨ jT N b n d i t0 nc nt sg m w (fX1_readTerm N (fun t q m0 => gX1_readTerms N e1 t q m0) 2 m) (fX9_term N (fun t q x0 m0 => gX9_term N e2 t q x0 m0) 85 sg w) := by
  obtain ⟨h1, h2, h3, h4, h5, h6, h7, h8⟩ := hH
  have hd := h1.1.1
  have hb := h1.2.2.2.1
  have hp := tz_nE hk (by omega)
  have hps := tzp_s hp
  have hii := cS_i h1
  have hS5 : cS N b n d i (si m 2 11 (zN (t0 + 1))) := cS_12 h1 rfl
  have hS6 := cS_s hS5 hp
  have hF6 : cF m (si (si m 2 11 (zN (t0 + 1))) 2 10 (zN (i + 1))) := cF_si (cF_si (cF_rf m) (by omega)) (by omega)
  obtain ⟨w1, a1, a2, a3, a4, a5, a6⟩ := rt_50 (sg := sg) h5 h6 h7 h8 (show t0 < 8 by omega) (by omega) (fun t q x0 m0 => gX9_term N e2 t q x0 m0)
  obtain ⟨w2, b1, b2, b3, b4⟩ := r_tw_n (t := 15) (j := 7) a1 (by omega) rfl (by omega)
  obtain ⟨w3, c1, c2, c3⟩ := r_sg_y (c := 40) b2 (by omega) hk
  have hpt : ptf (tzk b n (tzp b n i)) (tzq b n (tzp b n i)) t0 = 0 := by unfold ptf; rw [if_pos (by omega), if_neg (by omega)]
  have hE3 : rE w w3 := rE_tr a5 (rF_E (rF_tr b4 c3))
  have hN3 : rN N w3 := rN_g a2 (fun z k => by rw [c3.2.1, b4.2.1])
  have h33 : gi w3 89 3 = zN nt := by rw [c3.1 _ _ (by omega), b4.1 _ _ (by omega)]; exact a4
  have h317 : gi w3 85 17 = zN (t0 + 1) := by rw [c3.1 _ _ (by omega), b4.1 _ _ (by omega)]; exact a3
  have ec : fX1_readTerm N (fun t q m0 => gX1_readTerms N e1 t q m0) 2 m = (xca (gX1_readTerms N e1 0 2 (si (si m 2 11 (zN (t0 + 1))) 2 10 (zN (i + 1)))) fun v26 m25 => if (v26 : Int32) = zN 0 then some (zN 0, m25) else (xca (fX1_mustTake N 2 (zN 41) m25) fun v28 m27 => if (v28 : Int32) = zN 0 then some (zN 0, m27) else (some (zN 1, m27)))) := by
    unfold fX1_readTerm fX1_readTerm_54
    rw [ct_f h1 h2 (by omega), hpt, zca]
    simp only [zN_lit, if_true, zv, h2, zN_add]
    rw [c_ta_y hS5 (c := 40) hk, zca]
    simp only [zN10, if_false]
  rw [ec, a6, if_neg (by omega), b1]
  simp only [zca, if_true, c1, zN10, if_false]
  rw [r_adds hN3 h33 (by omega), zca]
  obtain ⟨o1, o2, o3, o4, o5, o6⟩ := radd_o (w := w3) (nt := nt) (sg := sg) (k := zN 4) (a := zM) (c := zN 0) (p := zN (tzp b n i))
  generalize hw4 : radd w3 nt sg (zN 4) zM (zN 0) (zN (tzp b n i)) = w4 at *
  have hT4 : rT nt 3 w w4 := by rw [← hw4]; exact rT_tr (rE_T hE3) (radd_T (by omega) 3) (Nat.le_refl _) (Or.inl rfl)
  have hS4 : rS N b n (i + 1) w4 := by rw [← hw4]; exact radd_S c2
  have hN4 : rN N w4 := rN_g h6 hT4.2.1
  have h417 : gi w4 85 17 = zN (t0 + 1) := by rw [← hw4, radd_85]; exact h317
  have h43 : gi w4 89 3 = zN (nt + 1) := by rw [← hw4]; exact radd_3
  generalize hm6 : si (si m 2 11 (zN (t0 + 1))) 2 10 (zN (i + 1)) = m6 at *
  have h611 : gi m6 2 11 = zN (t0 + 1) := by rw [← hm6, gi_ne (by omega), gi_si]
  have h6c : gi m6 (d + 12) 0 = zN nc := by rw [hF6.1 _ _ (by omega)]; exact h3
  rcases hS e1 e2 (t0 + 1) (i + 1) nc (nt + 1) m6 w4 (by omega) he1 he2 ⟨hS6, h611, h6c, by omega, hS4, hN4, h417, h43⟩ (by omega) with ⟨f, p, m7, v, w5, e3, e4, e5, e6, e7, e8⟩ | ⟨m7, w5, i', k, l, e3, e4, ⟨g1, g2, g3, g4, g5, g6, g7, g8, g9, g10, g11, g12, g13⟩, e5, e6, e7, e8⟩
  · have hN5 : rN N w5 := rN_g hN4 e8.2.1
    have hX : rX f p (si w5 89 (1410 + 6 * nt + 2) v) := ⟨by rw [gi_ne (by omega)]; exact e7.1, by rw [gi_ne (by omega)]; exact e7.2.1, e7.2.2⟩
    refine Or.inl ⟨f, p, m7, zN nt, si w5 89 (1410 + 6 * nt + 2) v, ?_, e4, cO_tr (cF_O hF6) e5, ?_, hX, rO_si (rO_tr (rT_O hT4) e8)⟩
    · rw [e3, zca, if_pos rfl]
    · rw [e6]
      obtain ⟨n1, n2⟩ := hN5
      simp (disch := omega) only [zca, zgr n2, zv, zN_mul, zN_add, zast, r_mu_d hX, zcv]
  · have hN5 : rN N w5 := rN_g hN4 g11.2.1
    have hps2 := pso_le _ g13
    generalize hw6 : si w5 89 (1410 + 6 * nt + 2) (zN (nt + 1)) = w6
    have hS6' : rS N b n i' w6 := by rw [← hw6]; exact rS_w (w' := si w5 89 (1410 + 6 * nt + 2) (zN (nt + 1))) g8 (fun _ _ => rfl) (fun k hk => gi_ne (by omega)) (fun k => gi_ne (by omega))
    have er : (xca (gX9_term N e2 1 85 (zN 0) w4) fun v24 m23 => xgr m23 85 10 fun u25 => xv (zN 6 * zN nt : Int32) fun v26 => xv (zN 1410 + v26 : Int32) fun v27 => xv (v27 + zN 2 : Int32) fun v28 => xast N m23 u25 v28 v24 fun m29 => xcv (fX9_must N 85 (zN 41) m29) fun m30 => some (zN nt, m30)) = xcv (fX9_must N 85 (zN 41) w6) fun m30 => some (zN nt, m30) := by
      rw [e4]
      obtain ⟨n1, n2⟩ := hN5
      simp (disch := omega) only [zca, zgr n2, zv, zN_mul, zN_add, zast]
      rw [hw6]
    rw [er, e3, zca, if_neg (by rw [zN10]; exact id)]
    by_cases q : tzk b n (tzp b n i') = 41
    · have q1 := tz_nE q (by omega)
      have ip := tzp_s q1
      obtain ⟨w7, x1, x2, x3⟩ := r_mu_y (c := 41) hS6' (by omega) q
      have h89 : ∀ j, j ≠ 1410 + 6 * nt + 2 → gi w7 89 j = gi w5 89 j := fun j hj => by rw [x3.1 _ _ (by omega), ← hw6, gi_ne (by omega)]
      have h892 : gi w7 89 (1410 + 6 * nt + 2) = zN (nt + 1) := by rw [x3.1 _ _ (by omega), ← hw6, gi_si]
      have h85 : ∀ j, j ≠ 4 → gi w7 85 j = gi w5 85 j := fun j hj => by rw [x3.1 _ _ (by omega), ← hw6, gi_ne (by omega)]
      have hr5 : ∀ o, o < 6 → o ≠ 2 → gi w7 89 (1410 + 6 * nt + o) = gi w4 89 (1410 + 6 * nt + o) := fun o ho ho2 => by rw [h89 _ (by omega), g11.1 _ _ (by omega) (by omega)]
      refine Or.inr ⟨si m7 2 10 (zN (i' + 1)), w7, i' + 1, k + 1, l, ?_, ?_, ⟨cS_s g1 q1, ?_, ?_, pcod_fr _ _ (fun z j r1 r2 r3 => gi_ne (by omega)) g4, cT_tr (cF_T hF6) (cT_tr g5 (cF_T (cF_si (cF_rf _) (by omega))) (Nat.le_refl _)) (Nat.le_refl _), by omega, by omega, x2, ?_, ?_, ?_, ?_, pso_wk _ (by omega) (by omega) g13⟩, by omega, by omega, fun s hs => e7 s (by omega), ?_, ?_, fun D hD => ?_⟩
      · rw [c_mu_y g1 q, zca, if_neg (by rw [zN10]; exact id)]
      · rw [x1, zcv]
      · rw [gi_ne (by omega), g2]; congr 1; omega
      · rw [gi_ne (by omega)]; exact g3
      · rw [h85 _ (by omega), g9]; congr 1; omega
      · rw [h89 _ (by omega), g10]; congr 1; omega
      · refine rT_tr (x := 3) (nt := nt) (y := 3) (nt1 := nt) hT4 (m2 := w7) ?_ (Nat.le_refl _) (Or.inl rfl)
        refine ⟨fun z j r1 r2 => ?_, fun z j => ?_, fun z j => ?_⟩
        · rw [x3.1 _ _ (by omega), ← hw6, gi_ne (by omega), g11.1 _ _ (by omega) (by omega)]
        · rw [x3.2.1, ← hw6, gr_si, g11.2.1]
        · rw [x3.2.2, ← hw6, gl_si, g11.2.2]
      · rw [show nt + (k + 1) = nt + 1 + k by omega]
        exact pfl_br (by rw [hr5 1 (by omega) (by omega)]; exact o2) (by omega) (pfl_fr (fun t o r1 r2 r3 => h89 _ (by omega)) g12)
      · have := hr5 0 (by omega) (by omega)
        rw [Nat.add_zero] at this
        rw [this]; exact o1
      · rw [hr5 4 (by omega) (by omega)]; exact o5
      · obtain ⟨D, rfl⟩ : ∃ D', D = D' + 1 := ⟨D - 1, by omega⟩
        refine ⟨by omega, Or.inr ⟨by rw [hr5 1 (by omega) (by omega)]; exact o2, nt + 1, h892, by omega, ?_⟩⟩
        exact pSm_fr (hi := nt + 1 + k) (by omega) (fun j r1 r2 => h89 _ (by omega)) (e8 D (by omega))
    · obtain ⟨m8, x1, x2, x3⟩ := c_mu_n g1 (c := 41) (by omega) q
      obtain ⟨w7, y1, y2, y3⟩ := r_mu_n (c := 41) hS6' (by omega) q
      refine Or.inl ⟨1, tzp b n i', m8, zN nt, w7, ?_, x2, cO_tr (cF_O hF6) (cO_tr (cT_O g5) (cF_O x3)), ?_, y2, rO_tr (rO_tr (rT_O hT4) (rT_O g11)) (rO_tr (by rw [← hw6]; exact rO_si (rO_rf w5)) (rE_O y3))⟩
      · rw [x1, zca, if_pos rfl]
      · rw [y1, zcv]
theorem q_T {d0 : Nat} (hS : ∀ d1, d1 < d0 → QS N b n d d1) : QT N b n d d0 := by
  intro e1 e2 t0 i nc nt sg m w ht he1 he2 hH hnt
  obtain ⟨e1, rfl⟩ : ∃ e, e1 = e + 1 := ⟨e1 - 1, by omega⟩
  obtain ⟨e2, rfl⟩ : ∃ e, e2 = e + 1 := ⟨e2 - 1, by omega⟩
  rw [c_gT, r_gT]
  by_cases hf : ptf (tzk b n (tzp b n i)) (tzq b n (tzp b n i)) t0 = 0
  · have hf' := hf
    unfold ptf at hf'
    have h8 : t0 < 8 := by
      by_cases q : t0 < 8
      · exact q
      · exfalso
        rw [if_pos (show 8 ≤ t0 by omega)] at hf'
        revert hf'
        repeat' split
        all_goals omega
    by_cases h40 : tzk b n (tzp b n i) = 40
    · exact qt_brk (d1 := d0 - 1) (hS (d0 - 1) (by omega)) (by omega) (by omega) (by omega) hH (by omega) h40
    by_cases h257 : tzk b n (tzp b n i) = 257
    · exact qt_key hH h8 (by omega) h257 _ _
    by_cases h267 : tzk b n (tzp b n i) = 267
    · exact Or.inr (qt_fail hH h8 (by omega) h267 _ _)
    by_cases h259 : tzk b n (tzp b n i) = 259
    · by_cases hv : tzq b n (tzp b n i) ≤ 999
      · exact Or.inr (qt_num hH h8 (by omega) h259 hv _ _)
      · exfalso
        rw [if_neg (by omega), if_pos h259, if_neg hv] at hf'
        omega
    · exfalso
      rw [if_neg (by omega), if_neg h259] at hf'
      omega
  · exact Or.inl (qt_no hH (by omega) (by omega) rfl (by omega) _ _ _)
end TM
