/-! ===== t: every member, and a unit's members ===== -/
section TY
variable {N : Nat → Nat} {b : Nat → Nat} {n d i : Nat} {Q : pQ} {DL : List pD} {nt na : Nat} {m w : XM}
theorem rf_d {f p : Nat} (h : rX f p w) (F : Nat) (x1 x2 x3 x4 : Int32) : ∃ w', fX9_function_22 N (F + 1) 85 x1 x2 x3 x4 w = some w' ∧ rX f p w' ∧ rE w w' := by
  obtain ⟨v, wd, u1, u2, u3⟩ := r_sum_d (N := N) h
  refine ⟨wd, ?_, u2, u3⟩
  rw [fX9_function_22, zv, r_dead h, zca]
  simp only [zN_lit, if_true]
  unfold fX9_function_74 fX9_function_100
  simp only [r_dead h, zca, zN_lit, if_true, u1, r_mu_d u2, zcv, r_dead u2]
theorem m_fun {u : Nat} (h : jQ N b n d i Q DL nt na m w) (hu : u + 1 = qn Q) (hc : qcnt Q u < 12) (hk : tzk b n (tzp b n i) = 265) :
    jFv d m w (fX1_readMember N 2 (zN u) (zN (12 * u + qcnt Q u)) m) (fX9_members_62 N 85 (zN u) (zN (qcnt Q u)) (zN 1) w)
    ∨ jMe N b n d i u Q m w (fX1_readMember N 2 (zN u) (zN (12 * u + qcnt Q u)) m) (fX9_members_62 N 85 (zN u) (zN (qcnt Q u)) (zN 1) w) := by
  have hX := zXF
  obtain ⟨F, hF⟩ : ∃ F, XF = F + 1 := ⟨XF - 1, by omega⟩
  have hbd := jQ_bd h
  have hh := h
  obtain ⟨mA, eA, hSA, hnA, hgA, hlA, hoA, hOA, hJA⟩ := c_mA h hu hc 4
  obtain ⟨h1, h2, h3, h4, h5, h6, h7, h8⟩ := h
  have hn := h6.1
  have hd := h1.1.1
  have hb := h1.2.2.2.1
  have hp := tz_nE hk (by omega)
  have ip := tzp_s hp
  have g0 := h1.1.2.2.2.2.1
  have hb2 : qbs (qcnt Q) (qn Q) = qbs (qcnt Q) u + qcnt Q u := by rw [← hu]; rfl
  have hbl := qbs_le h6 u (by omega)
  generalize hx : 12 * u + qcnt Q u = x at *
  have hx84 : x < 84 := by omega
  have ec : fX1_readMember N 2 (zN u) (zN x) m = xca (fX1_readFunction N 2 (zN u) (zN x) mA) fun v8 m7 => xnb v8 (some (v8, m7)) := by
    unfold fX1_readMember
    rw [cs_k h1, hk]
    simp (disch := omega) only [zN_lit, zN_eq, Nat.reduceEqDiff, if_false, if_true, zgr g0, eA, zcv]
  obtain ⟨wa, a1, a2, -, a3⟩ := r_tw_n (t := 10) (j := 2) h2 (by omega) rfl (by omega)
  obtain ⟨wa1, a1', a2', -, a3'⟩ := r_tw_n (t := 11) (j := 3) a2 (by omega) rfl (by omega)
  obtain ⟨wa2, a1'', a2'', -, a3''⟩ := r_tw_n (t := 12) (j := 4) a2' (by omega) rfl (by omega)
  obtain ⟨wb, b1', b2', b3'⟩ := r_tw_y (t := 13) (j := 5) a2'' (by omega) rfl hk
  have hFw : rF w wb := rF_tr a3 (rF_tr a3' (rF_tr a3'' b3'))
  have er : fX9_members_62 N 85 (zN u) (zN (qcnt Q u)) (zN 1) w = xcv (fX9_function N 85 (zN u) wb) fun m17 => some m17 := by
    have hc12 : ¬ qcnt Q u = 12 := by omega
    unfold fX9_members_62
    simp (disch := omega) only [zN_lit, if_false, zN_eq, hc12, a1, zca, Nat.one_ne_zero, if_true, b1', a1', a1'']
  rw [ec, er]
  unfold fX1_readFunction fX9_function
  rcases j_name (u := u) (x := x) hSA hp b2' (rN_g h3.2.1.1 hFw.2.1) (rQ_F h5 hFw) h6 (by omega) hx84 (fun a ha => by rw [hnA _ _ (by omega) (by omega)]; exact h4.2.2.2.2.2.1 u a (by omega) ha) with ⟨f, p, m1, v, wc, b1, b2, b3, b4, b5, b6⟩ | ⟨a, m1, wc, b1, b2, b3, b4, b5, b6, b7, b8, b9, b10, b11, b12⟩
  · obtain ⟨wd, u1, u2, u3⟩ := rf_d (N := N) b5 F (zN u) v (zN 0) (gi wc 89 2)
    have hNc : rN N wc := rN_g (rN_g h3.2.1.1 hFw.2.1) b6.2.1
    obtain ⟨n1, n2⟩ := hNc
    refine Or.inl ⟨f, p, m1, wd, ?_, b2, cO_tr hOA b3, ?_, u2, rO_tr (rE_O (rF_E hFw)) (rO_tr b6 (rE_O u3))⟩
    · rw [b1]; simp only [zca, zN_lit, if_true, znbN0]
    · rw [b4]
      simp (disch := omega) only [zca, zN_lit, r_mu_d b5, zcv, zgr n2, zald]
      rw [hF, u1, zcv]
  · have ip1 : tzp b n (i + 1) + 1 ≤ tzp b n (i + 2) := (tzp_s (b4.2.2.2.2.2.1 (i + 1) (by omega))).1
    rw [b3, b10]
    simp only [zca, zN_lit, zN10, if_false]
    have hO1 : cO d m m1 := cO_tr hOA ⟨fun z j q1 q2 q3 => b7 z j (by omega) (by omega) (by omega), b8, b9⟩
    have hFc : rF w wc := rF_tr hFw b12
    have h1fr : ∀ z j, ¬ (z = 2 ∧ j = 10) → ¬ (z = d + 3 ∧ j = u) → ¬ (d + 4 ≤ z ∧ z ≤ d + 9 ∧ j = x) → ¬ (z = d + 10 ∧ j = 26 * u + a) → gi m1 z j = gi m z j := fun z j r1 r2 r3 r4 => by rw [b7 z j r1 (by omega) r4, hnA z j r2 r3]
    by_cases q1 : tzk b n (tzp b n (i + 2)) = 123
    · have q2 := tz_nE q1 (by omega)
      have ip2 := tzp_s q2
      have hS2 := cS_s b4 q2
      obtain ⟨wd, c1, c2, c3⟩ := r_mu_y (c := 123) b11 (by omega) q1
      have hFd : rF w wd := rF_tr hFc c3
      obtain ⟨n1, n2⟩ := rN_g h3.2.1.1 hFd.2.1
      have h2d : gi wd 89 2 = zN na := by rw [hFd.1 _ _ (by omega)]; exact h3.2.1.2.2.1
      rw [c_mu_y b4 q1, zca, if_neg (by rw [zN10]; exact id), c1, zcv]
      simp (disch := omega) only [zgr n2, zald, h2d]
      have hJ2 : jD N b n d (i + 2 + 1) DL nt na (si m1 2 10 (zN (i + 2 + 1))) wd := jD_mo (m' := si m1 2 10 (zN (i + 2 + 1))) (w' := wd) h3 (by omega) (fun z j q => by rw [gi_ne (by omega), h1fr z j (by omega) (by omega) (by omega) (by omega)]) (fun j => hFd.1 _ _ (by omega)) hFd.2.1
      rcases m_fl (a := a) (mB := si m1 2 10 (zN (i + 2 + 1))) hh hu hc hx 4 0 XF XF (i + 2 + 1) nt [] (si m1 2 10 (zN (i + 2 + 1))) wd rfl (by omega) (by omega) (by omega) hS2 c2 (by rw [List.append_nil]; exact hJ2) rfl cD_rf (rE_D (rF_E hFd)) (Nat.le_refl _) (by omega) (by omega) (fun _ => by rw [gi_ne (by omega), b7 _ _ (by omega) (by omega) (by omega)]; exact hoA.2.2.2.1) (fun r => by omega) (fun j r => by omega) with ⟨f, p, m3, w3, k1, k2, k3, k4, k5, k6⟩ | ⟨m3, w2, i', E', nt2, s', fT, l, k1, k2, k3, k4, k5, k6, k7, k8, k9, k10, k11, k12, k13, k14, k15, k16, k17, k18⟩
      · refine Or.inl ⟨f, p, m3, w3, ?_, k2, cO_tr hO1 (cO_tr (cF_O (cF_si (cF_rf _) (by omega))) k3), ?_, k5, rO_tr (rE_O (rF_E hFd)) k6⟩
        · rw [k1, zca, znbN0]
        · rw [k4, zcv]
      · have hfr : ∀ z j, ¬ (z = 2 ∧ 10 ≤ j) → ¬ (z = d + 12 ∧ (j = 0 ∨ j = 3)) → ¬ ((z = d + 13 ∨ z = d + 14 ∨ z = 22) ∧ plen DL ≤ j) → ¬ ((z = 23 ∨ z = d + 15 ∨ z = d + 16 ∨ z = d + 17) ∧ DL.length ≤ j) → ¬ (z = d + 7 ∧ j = x) → ¬ (z = d + 6 ∧ j = x) → gi m3 z j = gi m1 z j := fun z j q1 q2 q3 q4 q5 q6 => by rw [k9.1 z j q1 q2 q3 q4 q5 q6, gi_ne (by omega)]
        have hi1 := cS_i k3
        have hnt2 := k5.2.1.2.2.2.1
        obtain ⟨o1, o2, o3, o4, o5, o6, o7, o8⟩ := radm_o (w := w2) (u := u) (M := qbs (qcnt Q) (qn Q)) (c := qcnt Q u) (k := zN 4) (a := zN a) (A := zN fT) (B := zN s') (C := zN na) (by omega) hc
        refine Or.inr ⟨m3, radm w2 u (qbs (qcnt Q) (qn Q)) (qcnt Q u) (zN 4) (zN a) (zN fT) (zN s') (zN na), i', qadd Q u 4 (some a) (some s') (some DL.length), DL ++ E', nt2, na + s', by rw [k1, zca, znbN1], by rw [k2, zcv], jQ_fin (E := E') hh hu hc (by omega) (fun c hc' => ?_) (fun _ => rfl) k3 k4 k5 (fun z j q => ?_) ?_ ?_ ?_ ?_ ?_ ?_ ?_ (fun c hc' => ?_) k10 k11 (by omega) (by rw [List.length_append, k7]; omega) (by omega) ?_, rfl, zset_eq _ _ _, tz_ilt h1.2.2.2.2.2.1 (by omega), rfl, ⟨fun z j r1 r2 r3 => ?_, fun z j => by rw [k9.2.1, gr_si, b8, hgA], fun z j => by rw [k9.2.2, gl_si, b9, hlA]⟩, rO_tr (rD_O k10) ⟨fun z j _ r2 => radm_n hc (by omega), fun _ _ => rfl, fun _ _ => rfl⟩⟩
        · have e' : a = c := by simpa using hc'
          rw [← e']; exact ⟨b1, Or.inr (Or.inr rfl), b2⟩
        · rw [hx] at q
          have q' : (z = d ∧ (j = 0 ∨ j = 11)) ∨ z = d + 1 ∨ z = d + 2 ∨ z = d + 11 ∨ z = 21 ∨ (z = d + 3 ∧ j ≠ u) ∨ (d + 4 ≤ z ∧ z ≤ d + 9 ∧ j ≠ x) ∨ (z = d + 10 ∧ j ≠ 26 * u + a) := by
            rcases q with q | q | q | q | q | q | q | q
            all_goals try omega
            have := q.2 a rfl
            omega
          rw [hfr z j (by omega) (by omega) (by omega) (by omega) (by omega) (by omega), h1fr z j (by omega) (by omega) (by omega) (by omega)]
        · rw [hfr _ _ (by omega) (by omega) (by omega) (by omega) (by omega) (by omega), b7 _ _ (by omega) (by omega) (by omega)]; exact hoA.2.2.2.2.2.2
        · rw [hx, hfr _ _ (by omega) (by omega) (by omega) (by omega) (by omega) (by omega), b7 _ _ (by omega) (by omega) (by omega)]; exact hoA.1
        · rw [hx, hfr _ _ (by omega) (by omega) (by omega) (by omega) (by omega) (by omega)]; exact b5
        · rw [hx]; exact k15
        · rw [hx]; exact k14
        · rw [hx, hfr _ _ (by omega) (by omega) (by omega) (by omega) (by omega) (by omega), b7 _ _ (by omega) (by omega) (by omega)]; exact hoA.2.2.2.2.1
        · rw [hx, hfr _ _ (by omega) (by omega) (by omega) (by omega) (by omega) (by omega), b7 _ _ (by omega) (by omega) (by omega)]; exact hoA.2.2.2.2.2.1
        · have e' : a = c := by simpa using hc'
          rw [← e', hx, hfr _ _ (by omega) (by omega) (by omega) (by omega) (by omega) (by omega)]; exact b6
        · refine pM_4 (a := a) (zset_eq _ _ _) (zset_eq _ _ _) o1 o2 ⟨DL.length, s', fT, na, (l, none), zset_eq _ _ _, zset_eq _ _ _, k6, k8, rfl, o3, pSm_fr (Nat.le_refl _) (fun j r1 r2 => radm_n hc (by omega)) k17, o4, o5, Nat.le_refl _, fun j hj => ?_⟩
          obtain ⟨D, r1, r2, r3⟩ := k16 j hj
          exact ⟨D, r1, r2, pact_fr (Nat.le_refl _) (fun o ho => radm_n hc (by omega)) (fun kk s1 s2 => radm_n hc (by omega)) r3⟩
        · rw [hfr z j r1 (by omega) (by omega) (by omega) (by omega) (by omega), h1fr z j (by omega) (by omega) (by omega) (by omega)]
    · obtain ⟨m5, f1, f2, f3⟩ := c_mu_n b4 (c := 123) (by omega) q1
      obtain ⟨wd, c1, c2, c3⟩ := r_mu_n (c := 123) b11 (by omega) q1
      have hEd : rE w wd := rE_tr (rF_E hFc) c3
      obtain ⟨n1, n2⟩ := rN_g h3.2.1.1 hEd.2.1
      obtain ⟨we, u1, u2, u3⟩ := rf_d (N := N) c2 F (zN u) (zN a) (zN 0) (gi wd 89 2)
      refine Or.inl ⟨1, tzp b n (i + 2), m5, we, ?_, f2, cO_tr hO1 (cF_O f3), ?_, u2, rE_O (rE_tr hEd u3)⟩
      · rw [f1, zca, if_pos rfl, zca, znbN0]
      · rw [c1, zcv]
        simp (disch := omega) only [zgr n2, zald]
        rw [hF, u1, zcv]
theorem m_all {u : Nat} (h : jQ N b n d i Q DL nt na m w) (hu : u + 1 = qn Q) (hc : qcnt Q u < 12) (hk : tzk b n (tzp b n i) = 262 ∨ tzk b n (tzp b n i) = 263 ∨ tzk b n (tzp b n i) = 264 ∨ tzk b n (tzp b n i) = 265 ∨ tzk b n (tzp b n i) = 257) :
    jFv d m w (fX1_readMember N 2 (zN u) (zN (12 * u + qcnt Q u)) m) (fX9_members_62 N 85 (zN u) (zN (qcnt Q u)) (zN 1) w)
    ∨ jMe N b n d i u Q m w (fX1_readMember N 2 (zN u) (zN (12 * u + qcnt Q u)) m) (fX9_members_62 N 85 (zN u) (zN (qcnt Q u)) (zN 1) w) := by
  rcases hk with hk | hk | hk | hk | hk
  · exact m_const h hu hc hk
  · exact m_var h hu hc hk
  · exact m_do h hu hc hk
  · exact m_fun h hu hc hk
  · exact m_set h hu hc hk
theorem c_imh (h : cS N b n d i m) : fX1_isMemberHere N 2 m = some (if tzk b n (tzp b n i) = 262 ∨ tzk b n (tzp b n i) = 263 ∨ tzk b n (tzp b n i) = 264 ∨ tzk b n (tzp b n i) = 265 ∨ tzk b n (tzp b n i) = 257 then zN 1 else zN 0, m) := by
  have hl := tzk_lt h.2.2.2.1 (tzp b n i)
  unfold fX1_isMemberHere
  rw [cs_k h]
  generalize tzk b n (tzp b n i) = k at *
  simp (disch := omega) only [zN_lit, zK]
  by_cases q1 : k = 257
  · rw [if_pos q1, if_pos (by omega)]
  rw [if_neg q1]
  by_cases q2 : k = 258
  · rw [if_pos q2, if_neg (by omega)]
  rw [if_neg q2]
  by_cases q3 : k = 259
  · rw [if_pos q3, if_neg (by omega)]
  rw [if_neg q3]
  by_cases q4 : k = 260
  · rw [if_pos q4, if_neg (by omega)]
  rw [if_neg q4]
  by_cases q5 : k = 261
  · rw [if_pos q5, if_neg (by omega)]
  rw [if_neg q5]
  by_cases q6 : k = 262
  · rw [if_pos q6, if_pos (by omega)]
  rw [if_neg q6]
  by_cases q7 : k = 263
  · rw [if_pos q7, if_pos (by omega)]
  rw [if_neg q7]
  by_cases q8 : k = 264
  · rw [if_pos q8, if_pos (by omega)]
  rw [if_neg q8]
  by_cases q9 : k = 265
  · rw [if_pos q9, if_pos (by omega)]
  · rw [if_neg q9, if_neg (by omega)]
/-- both have told more -/
def jGo (N : Nat → Nat) (b : Nat → Nat) (n d i : Nat) (Q : pQ) (m w : XM) (cr : Option (Int32 × XM)) (rr : Option XM) : Prop := ∃ m' w' i' Q' DL' nt' na', cr = some (zN 1, m') ∧ rr = some w' ∧ jQ N b n d i' Q' DL' nt' na' m' w' ∧ qn Q' = qn Q ∧ i < i' ∧ qstp Q' = qstp Q ∧ cO d m m' ∧ rO w w'
theorem u_mems {u : Nat} : ∀ (g f1 f2 i nt na : Nat) (Q : pQ) (DL : List pD) (m w : XM), 600 - i = g → g + 1 < f1 → g + 1 < f2 → jQ N b n d i Q DL nt na m w → u + 1 = qn Q →
    jFv d m w (fX1_readUnit_34 N f1 2 (zN u) (zN (qcnt Q u)) m) (fX9_unitHere_223 N f2 85 (zN u) w) ∨ jGo N b n d i Q m w (fX1_readUnit_34 N f1 2 (zN u) (zN (qcnt Q u)) m) (fX9_unitHere_223 N f2 85 (zN u) w) := by
  intro g
  induction g using Nat.strongRecOn with
  | _ g ih =>
    intro f1 f2 i nt na Q DL m w hg hf1 hf2 h hu
    obtain ⟨f1, rfl⟩ : ∃ f, f1 = f + 1 := ⟨f1 - 1, by omega⟩
    obtain ⟨f2, rfl⟩ : ∃ f, f2 = f + 1 := ⟨f2 - 1, by omega⟩
    have hh := h
    obtain ⟨h1, h2, h3, h4, h5, h6, h7, h8⟩ := h
    have hb := h1.2.2.2.1
    have hn := h6.1
    have hc12 := (h6.2.1 u (by omega)).1
    have hii := cS_i h1
    obtain ⟨wa, a1, a2, a3, a4⟩ := r_here h2
    have k125 := tzk_sg (c := 125) (p := tzp b n i) hb (by omega)
    rw [fX1_readUnit_34, zv, fX9_unitHere_223, zv, r_fine h2, zca]
    simp only [zN_lit, zN10, if_false, a1, zca]
    simp (disch := omega) only [tzB_c hb, ← k125]
    by_cases q1 : tzk b n (tzp b n i) = 125
    · have q2 := tz_nE q1 (by omega)
      have ip := tzp_s q2
      obtain ⟨wb, b1, b2, b3⟩ := r_mu_y (c := 125) a2 (by omega) q1
      have hFb : rF w wb := rF_tr a4 b3
      have hj := jQ_F hh hFb
      rw [if_pos q1, c_ta_y h1 q1]
      unfold fX9_unitHere_248
      simp only [zca, zN_lit, zN10, if_false, b1, zcv]
      refine Or.inr ⟨si m 2 10 (zN (i + 1)), wb, i + 1, Q, DL, nt, na, rfl, rfl, ⟨cS_s h1 q2, b2, jD_mo (m' := si m 2 10 (zN (i + 1))) (w' := wb) h3 (by omega) (fun z j q => gi_ne (by have := h1.1.1; omega)) (fun j => hFb.1 _ _ (by omega)) hFb.2.1, ?_, rQ_F h5 hFb, h6, by omega, by omega⟩, rfl, by omega, rfl, cF_O (cF_si (cF_rf _) (by omega)), rE_O (rF_E hFb)⟩
      have hd := h1.1.1
      have e : ∀ z j, z ≠ 2 → gi (si m 2 10 (zN (i + 1))) z j = gi m z j := fun z j q => gi_ne (by omega)
      obtain ⟨c1, c2, c3, c4, c5, c6, c7, c8⟩ := h4
      exact ⟨by rw [e _ _ (by omega)]; exact c1, by rw [e _ _ (by omega)]; exact c2, fun y hy => by rw [e _ _ (by omega), e _ _ (by omega)]; exact c3 y hy, fun y hy => by rw [e _ _ (by omega)]; exact c4 y hy, fun x hx => by rw [e _ _ (by omega), e _ _ (by omega), e _ _ (by omega), e _ _ (by omega), e _ _ (by omega), e _ _ (by omega)]; exact c5 x hx, fun y c hy hc => by rw [e _ _ (by omega)]; exact c6 y c hy hc, fun L hL => by rw [e _ _ (by omega)]; exact c7 L hL, fun k j hj => by rw [e _ _ (by omega)]; exact c8 k j hj⟩
    · rw [if_neg q1, c_ta_n h1 (by omega) q1]
      simp only [zca, if_true, c_imh h1]
      have hha : jQ N b n d i Q DL nt na m wa := jQ_F hh a4 a2
      obtain ⟨wb, b1, b2, b3, b4⟩ := r_mpre hha hu
      have hhb : jQ N b n d i Q DL nt na m wb := jQ_F hha b4 b2
      have hFb : rF w wb := rF_tr a4 b4
      rw [b1]
      have hdead : ∀ {f p : Nat} {w0 : XM}, rX f p w0 → fX9_unitHere_223 N f2 85 (zN u) w0 = some w0 := fun {f p w0} hX => by
        obtain ⟨f2, rfl⟩ : ∃ f, f2 = f + 1 := ⟨f2 - 1, by omega⟩
        rw [fX9_unitHere_223, zv, r_dead hX, zca]
        unfold fX9_unitHere_248
        simp only [zN_lit, if_true, r_mu_d hX, zcv]
      by_cases q3 : tzk b n (tzp b n i) = 262 ∨ tzk b n (tzp b n i) = 263 ∨ tzk b n (tzp b n i) = 264 ∨ tzk b n (tzp b n i) = 265 ∨ tzk b n (tzp b n i) = 257
      · rw [if_pos q3]
        simp (disch := omega) only [zN10, if_false, zN_lt]
        by_cases q4 : qcnt Q u < 12
        · rw [if_pos q4]
          simp only [zN_mul, zN_add, zv]
          rw [show u * 12 + qcnt Q u = 12 * u + qcnt Q u by omega]
          rcases m_all hhb hu q4 q3 with ⟨f, p, m1, wc, k1, k2, k3, k4, k5, k6⟩ | ⟨m1, wc, i', Q', DL', nt', na', k1, k2, k3, k4, k5, k6, k7, k8, k9⟩
          · refine Or.inl ⟨f, p, m1, wc, ?_, k2, k3, ?_, k5, rO_tr (rE_O (rF_E hFb)) k6⟩
            · rw [k1, zca, if_pos rfl]
            · rw [k4, zcv]; exact hdead k5
          · rw [k1, zca, if_neg (by rw [zN10]; exact id), k2, zcv]
            have hi' := cS_i k3.1
            rw [← k5]
            rcases ih (600 - i') (by omega) f1 f2 i' nt' na' Q' DL' m1 wc rfl (by omega) (by omega) k3 (by rw [k4]; exact hu) with ⟨f, p, m2, wd, r1, r2, r3, r4, r5, r6⟩ | ⟨m2, wd, i2, Q2, DL2, nt2, na2, r1, r2, r3, r4, r5, r6, r7, r8⟩
            · exact Or.inl ⟨f, p, m2, wd, r1, r2, cO_tr k8 r3, r4, r5, rO_tr (rE_O (rF_E hFb)) (rO_tr k9 r6)⟩
            · exact Or.inr ⟨m2, wd, i2, Q2, DL2, nt2, na2, r1, r2, r3, by rw [r4, k4], by omega, by rw [r6, k7], cO_tr k8 r7, rO_tr (rE_O (rF_E hFb)) (rO_tr k9 r8)⟩
        · rw [if_neg q4]
          have e12 : qcnt Q u = 12 := by omega
          obtain ⟨m1, c1, c2, c3⟩ := c_ref (f := 3) h1 (by omega) (by omega)
          obtain ⟨wc, d1, d2, d3⟩ := r_wrong (N := N) (f := 3) (p := tzp b n i) b2.2.1 (by omega) (by omega)
          refine Or.inl ⟨3, tzp b n i, m1, wc, ?_, c2, cF_O c3, ?_, d2, rE_O (rE_tr (rF_E hFb) d3)⟩
          · rw [c1, zca, znbN0]
          · unfold fX9_members_62
            rw [e12]
            simp only [zN_lit, zN10, if_false, if_true, zv, b3, d1, zca, zcv]
            exact hdead d2
      · rw [if_neg q3]
        simp only [if_true]
        obtain ⟨m1, c1, c2, c3⟩ := c_ref (f := 1) h1 (by omega) (by omega)
        obtain ⟨wc, d1, d2, d3⟩ := r_wrong (N := N) (f := 1) (p := tzp b n i) b2.2.1 (by omega) (by omega)
        refine Or.inl ⟨1, tzp b n i, m1, wc, ?_, c2, cF_O c3, ?_, d2, rE_O (rE_tr (rF_E hFb) d3)⟩
        · rw [c1, zca, znbN0]
        · unfold fX9_members_62
          simp only [zN_lit, if_true, zv, b3, d1, zca, zcv]
          exact hdead d2
end TY
