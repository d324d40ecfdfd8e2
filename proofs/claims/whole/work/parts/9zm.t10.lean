/-! ===== t: numbers, failures, names as terms ===== -/
section TL
variable {N : Nat → Nat} {b : Nat → Nat} {n d i nc nt t0 : Nat} {m w : XM} {sg : Int32}
theorem cput_2 {j k o p : Nat} (hd : d = 3 ∨ d = 28) : gi (cput d m nc k o p) 2 j = gi m 2 j := by unfold cput; rw [gi_ne (by omega), gi_ne (by omega), gi_ne (by omega), gi_ne (by omega)]
theorem jT_leaf {m' w' : XM} {i' : Nat} {q : pK} {cr rr : Option (Int32 × XM)} (hcr : cr = some (zN 1, m')) (hrr : rr = some (zN nt, w')) (hS : cS N b n d i' m') (h11 : gi m' 2 11 = zN (t0 + 1)) (hc : gi m' (d + 12) 0 = zN (nc + 1)) (hp : pcod m' d nc [q]) (hT : cT d nc m m') (hnc : nc ≤ tzp b n i) (hpos : tzp b n i + 1 ≤ tzp b n i') (ht : t0 < 8) (hr : rS N b n i' w') (h17 : gi w' 85 17 = zN (t0 + 1)) (h3 : gi w' 89 3 = zN (nt + 1)) (hrT : rT nt 3 w w') (hl : pleaf (gi w' 89) nt q) (hq : q.1 = 1 ∨ q.1 = 2 → q.2.2 = tzp b n i) (hq4 : q.1 < 4) (hq1 : q.2.1 < 1000) (hs : gi w' 89 (1410 + 6 * nt) = sg) (hm : gi w' 89 (1410 + 6 * nt + 4) = zM) : jT N b n d i t0 nc nt sg m w cr rr := by
  refine ⟨m', w', i', 1, [q], hcr, hrr, ⟨hS, h11, hc, hp, hT, hpos, by omega, hr, h17, h3, hrT, pfl_one hl, ⟨fun r => by rw [hq r]; exact Nat.le_refl _, ?_⟩⟩, by omega, by omega, fun s hs' => ?_, hs, hm, fun D hD => ?_⟩
  · by_cases r : q.1 = 1 ∨ q.1 = 2
    · rw [if_pos r, hq r]; exact hpos
    · rw [if_neg r]; show _ ≤ _; omega
  · show if 4 ≤ q.1 then q.1 ≤ 6 ∧ 2 ≤ s ∧ s - 1 = s + 1 else q.2.1 < 1000 ∧ s < 8 ∧ s + 1 = s + 1
    rw [if_neg (by omega)]
    exact ⟨hq1, by omega, rfl⟩
  · obtain ⟨D, rfl⟩ : ∃ D', D = D' + 1 := ⟨D - 1, by omega⟩
    exact ⟨by omega, Or.inl ⟨q, rfl, hl⟩⟩
/-- the other reader, once a term may begin -/
theorem rt_50 (h5 : rS N b n i w) (h6 : rN N w) (h7 : gi w 85 17 = zN t0) (h8 : gi w 89 3 = zN nt) (ht : t0 < 8) (hk : tzk b n (tzp b n i) = 40 ∨ tzk b n (tzp b n i) = 257 ∨ tzk b n (tzp b n i) = 267 ∨ tzk b n (tzp b n i) = 259) (R : Nat → Nat → Int32 → XM → Option (Int32 × XM)) : ∃ w', rS N b n i w' ∧ rN N w' ∧ gi w' 85 17 = zN (t0 + 1) ∧ gi w' 89 3 = zN nt ∧ rE w w' ∧ fX9_term N R 85 sg w = (if tzk b n (tzp b n i) = 259 then (xca (fX9_numberHere N 85 w') fun v34 m33 => xca (fX9_adds N 85 sg (zN 0) v34 (zN 0) (zN (tzp b n i)) m33) fun v36 m35 => some (v36, m35)) else (xca (fX9_takesWord N 85 15 w') fun v10 m9 => if (v10 : Int32) = zN 0 then (xca (fX9_takesSign N 85 (zN 40) m9) fun v12 m11 => if (v12 : Int32) = zN 0 then (xca (fX9_letterHere N 85 m11) fun v14 m13 => xcv (fX9_must N 85 (zN 46) m13) fun m15 => xca (fX9_nameHere N 85 m15) fun v17 m16 => xca (fX9_takesSign N 85 (zN 40) m16) fun v19 m18 => if (v19 : Int32) = zN 0 then (fX9_term_223 N R 85 sg (zN (tzp b n i)) v14 v17 v19 m18) else (xcv (fX9_must N 85 (zN 41) m18) fun m20 => fX9_term_223 N R 85 sg (zN (tzp b n i)) v14 v17 v19 m20)) else (xca (fX9_adds N 85 sg (zN 4) zM (zN 0) (zN (tzp b n i)) m11) fun v22 m21 => xca (R 1 85 (zN 0) m21) fun v24 m23 => xgr m23 85 10 fun u25 => xv (zN 6 * v22 : Int32) fun v26 => xv (zN 1410 + v26 : Int32) fun v27 => xv (v27 + zN 2 : Int32) fun v28 => xast N m23 u25 v28 v24 fun m29 => xcv (fX9_must N 85 (zN 41) m29) fun m30 => some (v22, m30))) else (xca (fX9_adds N 85 sg (zN 3) (zN 0) (zN 0) (zN (tzp b n i)) m9) fun v32 m31 => some (v32, m31)))) := by
  have hb := h5.1.2.2.1
  obtain ⟨w1, b1, b2, b3⟩ := rt_go h5 hk R sg
  have h17 : gi w1 85 17 = zN t0 := by rw [b3.1 _ _ (by omega)]; exact h7
  have hw4 : rS N b n i (si w1 85 17 (zN (t0 + 1))) := rS_w (w' := si w1 85 17 (zN (t0 + 1))) b2 (fun _ _ => rfl) (fun k hk => gi_ne (by omega)) (fun k => gi_ne (by omega))
  obtain ⟨w2, c1, c2, c3, c4⟩ := r_here hw4
  refine ⟨w2, c2, rN_g h6 (fun a k => by rw [c4.2.1, gr_si, b3.2.1]), by rw [c4.1 _ _ (by omega), gi_si], by rw [c4.1 _ _ (by omega), gi_ne (by omega), b3.1 _ _ (by omega)]; exact h8, rE_tr (rE_tr (rF_E b3) (rE_si (rE_rf _) (by omega))) (rF_E c4), ?_⟩
  rw [b1]
  have h88 : ¬ t0 = 8 := by omega
  have k9 := tzk_dg (p := tzp b n i) hb
  unfold fX9_term_50
  simp (disch := omega) only [zv, h17, zN_lit, zN_eq, h88, if_false, zN_add, c1, zca, r_dig hb, zneg]
  by_cases q : tzk b n (tzp b n i) = 259
  · rw [if_pos (k9.1 q), if_pos q]
    simp only [zN10, if_false]
  · rw [if_neg (fun r => q (k9.2 r)), if_neg q]
    simp only [if_true]
theorem qt_num (hH : jH N b n d i t0 nc nt m w) (ht : t0 < 8) (hnt : nt < 400) (hk : tzk b n (tzp b n i) = 259) (hv : tzq b n (tzp b n i) ≤ 999) (R1 : Nat → Nat → XM → Option (Int32 × XM)) (R2 : Nat → Nat → Int32 → XM → Option (Int32 × XM)) : jT N b n d i t0 nc nt sg m w (fX1_readTerm N R1 2 m) (fX9_term N R2 85 sg w) := by
  obtain ⟨h1, h2, h3, h4, h5, h6, h7, h8⟩ := hH
  have hd := h1.1.1
  have hp := tz_nE hk (by omega)
  have hps := tzp_s hp
  have hii := cS_i h1
  have hS5 : cS N b n d i (si m 2 11 (zN (t0 + 1))) := cS_12 h1 rfl
  have hS6 := cS_s hS5 hp
  obtain ⟨w1, a1, a2, a3, a4, a5, a6⟩ := rt_50 (sg := sg) h5 h6 h7 h8 ht (by omega) R2
  obtain ⟨w2, b1, b2, b3⟩ := r_nu_y a1 hk hv
  have hw3 : gi w2 89 3 = zN nt := by rw [b3.1 _ _ (by omega)]; exact a4
  have hpt : ptf (tzk b n (tzp b n i)) (tzq b n (tzp b n i)) t0 = 0 := by unfold ptf; rw [if_neg (by omega), if_pos hk, if_pos hv, if_neg (by omega)]
  have hc6 : gi (si (si m 2 11 (zN (t0 + 1))) 2 10 (zN (i + 1))) (d + 12) 0 = zN nc := by rw [gi_ne (by omega), gi_ne (by omega)]; exact h3
  obtain ⟨o1, o2, o3, o4, o5, o6⟩ := radd_o (w := w2) (nt := nt) (sg := sg) (k := zN 0) (a := zN (tzq b n (tzp b n i))) (c := zN 0) (p := zN (tzp b n i))
  refine jT_leaf (m' := cput d (si (si m 2 11 (zN (t0 + 1))) 2 10 (zN (i + 1))) nc 0 (tzq b n (tzp b n i)) 0) (w' := radd w2 nt sg (zN 0) (zN (tzq b n (tzp b n i))) (zN 0) (zN (tzp b n i))) (i' := i + 1) (q := (0, tzq b n (tzp b n i), 0)) ?_ ?_ (cput_S hS6) (by rw [cput_2 hd, gi_ne (by omega), gi_si]) cput_c (cput_p hd) (cT_tr (cF_T (cF_si (cF_si (cF_rf m) (by omega)) (by omega))) cput_T (Nat.le_refl _)) h4 (by omega) ht (radd_S b2) (by rw [radd_85, b3.1 _ _ (by omega)]; exact a3) radd_3 (rT_tr (rE_T (rE_tr a5 (rF_E b3))) (radd_T hnt 3) (Nat.le_refl _) (Or.inl rfl)) (Or.inl ⟨o2, rfl, o3⟩) (fun r => by have r' : (0 : Nat) = 1 ∨ (0 : Nat) = 2 := r; omega) (by show 0 < 4; omega) (by show tzq b n (tzp b n i) < 1000; omega) o1 o5
  · unfold fX1_readTerm
    rw [ct_f h1 h2 (by omega), hpt, zca]
    simp only [zN_lit, if_true, zv, h2, zN_add]
    rw [c_ta_n hS5 (c := 40) (by omega) (by omega), zca]
    simp only [if_true]
    rw [c_ta_n hS5 (c := 267) (by omega) (by omega), zca]
    simp only [if_true]
    rw [c_ta_y hS5 (c := 259) hk, zca]
    obtain ⟨-, ⟨n1, g1, g2, g3⟩, -, -, hK, ho, -⟩ := h1
    simp only [zN10, if_false, gi_si, zgr_si, zgr g3]
    rw [zN_sub (by omega), Nat.add_sub_cancel, zald (by omega) (by omega), gi_ne (by omega), gi_ne (by omega), (hK i ho).2.2 (by omega), c_cput hS6.1 hc6 (by omega), zcv]
  · rw [a6, if_pos hk, b1]
    simp only [zca]
    rw [r_adds (rN_g a2 b3.2.1) hw3 hnt, zca]
theorem qt_fail (hH : jH N b n d i t0 nc nt m w) (ht : t0 < 8) (hnt : nt < 400) (hk : tzk b n (tzp b n i) = 267) (R1 : Nat → Nat → XM → Option (Int32 × XM)) (R2 : Nat → Nat → Int32 → XM → Option (Int32 × XM)) : jT N b n d i t0 nc nt sg m w (fX1_readTerm N R1 2 m) (fX9_term N R2 85 sg w) := by
  obtain ⟨h1, h2, h3, h4, h5, h6, h7, h8⟩ := hH
  have hd := h1.1.1
  have hp := tz_nE hk (by omega)
  have hps := tzp_s hp
  have hii := cS_i h1
  have hS5 : cS N b n d i (si m 2 11 (zN (t0 + 1))) := cS_12 h1 rfl
  have hS6 := cS_s hS5 hp
  obtain ⟨w1, a1, a2, a3, a4, a5, a6⟩ := rt_50 (sg := sg) h5 h6 h7 h8 ht (by omega) R2
  obtain ⟨w2, b1, b2, b3⟩ := r_tw_y (t := 15) (j := 7) a1 (by omega) rfl hk
  have hw3 : gi w2 89 3 = zN nt := by rw [b3.1 _ _ (by omega)]; exact a4
  have hpt : ptf (tzk b n (tzp b n i)) (tzq b n (tzp b n i)) t0 = 0 := by unfold ptf; rw [if_pos (by omega), if_neg (by omega)]
  have hc6 : gi (si (si m 2 11 (zN (t0 + 1))) 2 10 (zN (i + 1))) (d + 12) 0 = zN nc := by rw [gi_ne (by omega), gi_ne (by omega)]; exact h3
  obtain ⟨o1, o2, o3, o4, o5, o6⟩ := radd_o (w := w2) (nt := nt) (sg := sg) (k := zN 3) (a := zN 0) (c := zN 0) (p := zN (tzp b n i))
  refine jT_leaf (m' := cput d (si (si m 2 11 (zN (t0 + 1))) 2 10 (zN (i + 1))) nc 3 0 0) (w' := radd w2 nt sg (zN 3) (zN 0) (zN 0) (zN (tzp b n i))) (i' := i + 1) (q := (3, 0, 0)) ?_ ?_ (cput_S hS6) (by rw [cput_2 hd, gi_ne (by omega), gi_si]) cput_c (cput_p hd) (cT_tr (cF_T (cF_si (cF_si (cF_rf m) (by omega)) (by omega))) cput_T (Nat.le_refl _)) h4 (by omega) ht (radd_S b2) (by rw [radd_85, b3.1 _ _ (by omega)]; exact a3) radd_3 (rT_tr (rE_T (rE_tr a5 (rF_E b3))) (radd_T hnt 3) (Nat.le_refl _) (Or.inl rfl)) (Or.inr (Or.inl ⟨o2, rfl⟩)) (fun r => by have r' : (3 : Nat) = 1 ∨ (3 : Nat) = 2 := r; omega) (by show 3 < 4; omega) (by show 0 < 1000; omega) o1 o5
  · unfold fX1_readTerm
    rw [ct_f h1 h2 (by omega), hpt, zca]
    simp only [zN_lit, if_true, zv, h2, zN_add]
    rw [c_ta_n hS5 (c := 40) (by omega) (by omega), zca]
    simp only [if_true]
    rw [c_ta_y hS5 (c := 267) hk, zca]
    simp only [zN10, if_false]
    rw [c_cput hS6.1 hc6 (by omega), zcv]
  · rw [a6, if_neg (by omega), b1]
    simp only [zca, zN10, if_false]
    rw [r_adds (rN_g a2 b3.2.1) hw3 hnt, zca]
theorem qt_key (hH : jH N b n d i t0 nc nt m w) (ht : t0 < 8) (hnt : nt < 400) (hk : tzk b n (tzp b n i) = 257) (R1 : Nat → Nat → XM → Option (Int32 × XM)) (R2 : Nat → Nat → Int32 → XM → Option (Int32 × XM)) : jF d m w (fX1_readTerm N R1 2 m) (fX9_term N R2 85 sg w) ∨ jT N b n d i t0 nc nt sg m w (fX1_readTerm N R1 2 m) (fX9_term N R2 85 sg w) := by
  obtain ⟨h1, h2, h3, h4, h5, h6, h7, h8⟩ := hH
  have hd := h1.1.1
  have hb := h1.2.2.2.1
  have hp := tz_nE hk (by omega)
  have hps := tzp_s hp
  have hii := cS_i h1
  have hS5 : cS N b n d i (si m 2 11 (zN (t0 + 1))) := cS_12 h1 rfl
  have hF5 : cF m (si m 2 11 (zN (t0 + 1))) := cF_si (cF_rf m) (by omega)
  obtain ⟨w1, a1, a2, a3, a4, a5, a6⟩ := rt_50 (sg := sg) h5 h6 h7 h8 ht (by omega) R2
  obtain ⟨w2, b1, b2, b3, b4⟩ := r_tw_n (t := 15) (j := 7) a1 (by omega) rfl (by omega)
  obtain ⟨w3, c1, c2, c3, c4⟩ := r_sg_n (c := 40) b2 (by omega) (by omega)
  have hpt : ptf (tzk b n (tzp b n i)) (tzq b n (tzp b n i)) t0 = 0 := by unfold ptf; rw [if_pos (by omega), if_neg (by omega)]
  have hE3 : rE w w3 := rE_tr a5 (rF_E (rF_tr b4 c4))
  have ec : fX1_readTerm N R1 2 m = (xca (fX1_readKey N 2 (si m 2 11 (zN (t0 + 1)))) fun v16 m15 => if (v16 : Int32) = zM then (some (zN 0, m15)) else (xca (fX1_take N 2 (zN 40) m15) fun v18 m17 => if (v18 : Int32) = zN 0 then (fX1_readTerm_145 N R1 2 (zN (tzp b n i)) v16 v18 2 (zN 1) m17) else (fX1_readTerm_145 N R1 2 (zN (tzp b n i)) v16 v18 2 (zN 2) m17))) := by
    unfold fX1_readTerm
    rw [ct_f h1 h2 (by omega), hpt, zca]
    simp only [zN_lit, if_true, zv, h2, zN_add]
    rw [c_ta_n hS5 (c := 40) (by omega) (by omega), zca]
    simp only [if_true]
    rw [c_ta_n hS5 (c := 267) (by omega) (by omega), zca]
    simp only [if_true]
    rw [c_ta_n hS5 (c := 259) (by omega) (by omega), zca]
    simp only [if_true, zneg]
    have := cs_p hS5 (κ := fun v14 => xca (fX1_readKey N 2 (si m 2 11 (zN (t0 + 1)))) fun v16 m15 => if (v16 : Int32) = zM then (some (zN 0, m15)) else (xca (fX1_take N 2 (zN 40) m15) fun v18 m17 => if (v18 : Int32) = zN 0 then (fX1_readTerm_145 N R1 2 v14 v16 v18 2 (zN 1) m17) else (fX1_readTerm_145 N R1 2 v14 v16 v18 2 (zN 2) m17)))
    simp only [zv] at this
    exact this
  rw [ec, a6, if_neg (by omega), b1]
  simp only [zca, if_true, c1]
  rcases j_key hS5 c2 hk with ⟨L, a, m7, x1, x2, x3, e1, e2, e3, e4, e5, e6, e7, e8, e9, e10, e11, e12⟩ | ⟨f, p, m7, L, x1, x2, v, x3, e1, e2, e3, e8, e9, e10, e11, e12⟩
  · have hne : (zN (26 * L + a) = zM) = False := zN_m (by omega)
    simp only [e1, zca, hne, if_false, e8, e9, zcv, e10]
    have h11 : gi m7 2 11 = zN (t0 + 1) := by rw [e7, gi_si]
    have hc7 : gi m7 (d + 12) 0 = zN nc := by rw [e5.1 _ _ (by omega), gi_ne (by omega)]; exact h3
    have hi3 := cS_i e4
    have h17 : gi x3 85 17 = zN (t0 + 1) := by rw [e12.1 _ _ (by omega), c4.1 _ _ (by omega), b4.1 _ _ (by omega)]; exact a3
    have h89 : gi x3 89 3 = zN nt := by rw [e12.1 _ _ (by omega), c4.1 _ _ (by omega), b4.1 _ _ (by omega)]; exact a4
    have hN3 : rN N x3 := rN_g a2 (fun z k => by rw [e12.2.1, c4.2.1, b4.2.1])
    have hE : rE w x3 := rE_tr hE3 (rF_E e12)
    by_cases q : tzk b n (tzp b n (i + 3)) = 40
    · have q1 := tz_nE q (by omega)
      have ip := tzp_s q1
      have hS8 := cS_s e4 q1
      obtain ⟨x4, f1, f2, f3⟩ := r_sg_y (c := 40) e11 (by omega) q
      rw [c_ta_y e4 q, f1]
      simp only [zca, zN10, if_false]
      unfold fX1_readTerm_145 fX1_readTerm_164
      have hc8 : gi (si m7 2 10 (zN (i + 3 + 1))) (d + 12) 0 = zN nc := by rw [gi_ne (by omega)]; exact hc7
      rw [c_cput hS8.1 hc8 (by omega), zcv]
      simp only [zN_lit, zN10, if_false]
      have hS9 := cput_S (nc := nc) (k := 2) (o := 26 * L + a) (p := tzp b n i) hS8
      have hT9 : cT d nc m (cput d (si m7 2 10 (zN (i + 3 + 1))) nc 2 (26 * L + a) (tzp b n i)) := cT_tr (cF_T (cF_tr hF5 (cF_si e5 (by omega)))) cput_T (Nat.le_refl _)
      by_cases q2 : tzk b n (tzp b n (i + 3 + 1)) = 41
      · have q3 := tz_nE q2 (by omega)
        have ip3 := tzp_s q3
        obtain ⟨x5, g1, g2, g3⟩ := r_mu_y (c := 41) f2 (by omega) q2
        have h3' : gi x5 89 3 = zN nt := by rw [g3.1 _ _ (by omega), f3.1 _ _ (by omega)]; exact h89
        obtain ⟨o1, o2, o3, o4, o5, o6⟩ := radd_o (w := x5) (nt := nt) (sg := sg) (k := zN 2) (a := zN L) (c := zN a) (p := zN (tzp b n i))
        refine Or.inr (jT_leaf (m' := si (cput d (si m7 2 10 (zN (i + 3 + 1))) nc 2 (26 * L + a) (tzp b n i)) 2 10 (zN (i + 3 + 1 + 1))) (w' := radd x5 nt sg (zN 2) (zN L) (zN a) (zN (tzp b n i))) (i' := i + 3 + 1 + 1) (q := (2, 26 * L + a, tzp b n i)) ?_ ?_ (cS_s hS9 q3) (by rw [gi_ne (by omega), cput_2 hd, gi_ne (by omega)]; exact h11) (by rw [gi_ne (by omega)]; exact cput_c) (pcod_fr _ _ (fun z k _ _ _ => gi_ne (by omega)) (cput_p hd)) (cT_tr hT9 (cF_T (cF_si (cF_rf _) (by omega))) (Nat.le_refl _)) h4 (by omega) ht (radd_S g2) (by rw [radd_85, g3.1 _ _ (by omega), f3.1 _ _ (by omega)]; exact h17) radd_3 (rT_tr (rE_T (rE_tr hE (rF_E (rF_tr f3 g3)))) (radd_T hnt 3) (Nat.le_refl _) (Or.inl rfl)) (Or.inr (Or.inr ⟨Or.inr rfl, o2, by rw [o3]; congr 1; show L = (26 * L + a) / 26; omega, by rw [o4]; congr 1; show a = (26 * L + a) % 26; omega, o6, by show 26 * L + a < 182; omega⟩)) (fun _ => rfl) (by show 2 < 4; omega) (by show 26 * L + a < 1000; omega) o1 o5)
        · rw [c_mu_y hS9 q2, zca]
          simp only [zN10, if_false]
        · simp only [g1, zcv]
          unfold fX9_term_223 fX9_term_242
          rw [r_fine g2]
          simp only [zca, zN_lit, zN10, if_false]
          rw [r_adds (rN_g hN3 (fun z k => by rw [g3.2.1, f3.2.1])) h3' hnt, zca]
      · obtain ⟨m9, g1, g2, g3⟩ := c_mu_n hS9 (c := 41) (by omega) q2
        obtain ⟨x5, k1, k2, k3⟩ := r_mu_n (c := 41) f2 (by omega) q2
        refine Or.inl ⟨1, tzp b n (i + 3 + 1), m9, zM, x5, ?_, g2, cO_tr (cT_O hT9) (cF_O g3), ?_, k2, rE_O (rE_tr hE (rE_tr (rF_E f3) k3))⟩
        · rw [g1, zca]
          simp only [if_true]
        · simp only [k1, zcv]
          unfold fX9_term_223
          rw [r_dead k2]
          simp only [zca, zN_lit, if_true, zneg]
    · obtain ⟨x4, f1, f2, f3, f4⟩ := r_sg_n (c := 40) e11 (by omega) q
      rw [c_ta_n e4 (by omega) q, f1]
      simp only [zca, if_true]
      unfold fX1_readTerm_145 fX1_readTerm_164
      rw [c_cput e4.1 hc7 (by omega), zcv]
      simp only [zN_lit, if_true]
      have h3' : gi x4 89 3 = zN nt := by rw [f4.1 _ _ (by omega)]; exact h89
      obtain ⟨o1, o2, o3, o4, o5, o6⟩ := radd_o (w := x4) (nt := nt) (sg := sg) (k := zN 1) (a := zN L) (c := zN a) (p := zN (tzp b n i))
      refine Or.inr (jT_leaf (m' := cput d m7 nc 1 (26 * L + a) (tzp b n i)) (w' := radd x4 nt sg (zN 1) (zN L) (zN a) (zN (tzp b n i))) (i' := i + 3) (q := (1, 26 * L + a, tzp b n i)) rfl ?_ (cput_S e4) (by rw [cput_2 hd]; exact h11) cput_c (cput_p hd) (cT_tr (cF_T (cF_tr hF5 e5)) cput_T (Nat.le_refl _)) h4 (by omega) ht (radd_S f2) (by rw [radd_85, f4.1 _ _ (by omega)]; exact h17) radd_3 (rT_tr (rE_T (rE_tr hE (rF_E f4))) (radd_T hnt 3) (Nat.le_refl _) (Or.inl rfl)) (Or.inr (Or.inr ⟨Or.inl rfl, o2, by rw [o3]; congr 1; show L = (26 * L + a) / 26; omega, by rw [o4]; congr 1; show a = (26 * L + a) % 26; omega, o6, by show 26 * L + a < 182; omega⟩)) (fun _ => rfl) (by show 1 < 4; omega) (by show 26 * L + a < 1000; omega) o1 o5)
      unfold fX9_term_223 fX9_term_242
      rw [r_fine f2]
      simp only [zca, zN_lit, zN10, if_false, if_true]
      rw [r_adds (rN_g hN3 f4.2.1) h3' hnt, zca]
  · have hzm : (zM = zM) = True := eq_self _
    refine Or.inl ⟨f, p, m7, zM, x3, ?_, e2, cF_O (cF_tr hF5 e3), ?_, e11, rE_O (rE_tr hE3 e12)⟩
    · rw [e1, zca, if_pos rfl]
    · simp only [e8, zca, e9, zcv, e10, r_sg_d e11, if_true]
      unfold fX9_term_223
      rw [r_dead e11]
      simp only [zca, zN_lit, if_true, zneg]
end TL
