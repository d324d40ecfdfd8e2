/-! ===== t: set, var ===== -/
section TW
variable {N : Nat → Nat} {b : Nat → Nat} {n d i : Nat} {Q : pQ} {DL : List pD} {nt na : Nat} {m w : XM}
theorem tz_mo : ∀ (s t : Nat), t ≤ s → tzo b n s → tzp b n t ≤ tzp b n s
  | 0, t, h, _ => by rw [show t = 0 by omega]; exact Nat.le_refl _
  | s + 1, t, h, ho => by
    by_cases e : t = s + 1
    · rw [e]; exact Nat.le_refl _
    · have := tz_mo s t (by omega) (fun j hj => ho j (by omega))
      have := (tzp_s (ho s (by omega))).1
      omega
theorem tz_ilt {i' : Nat} (ho : tzo b n i) (h : tzp b n i < tzp b n i') : i < i' := by
  by_cases q : i' ≤ i
  · have := tz_mo i i' q ho
    omega
  · omega
theorem m_set {u : Nat} (h : jQ N b n d i Q DL nt na m w) (hu : u + 1 = qn Q) (hc : qcnt Q u < 12) (hk : tzk b n (tzp b n i) = 257) :
    jFv d m w (fX1_readMember N 2 (zN u) (zN (12 * u + qcnt Q u)) m) (fX9_members_62 N 85 (zN u) (zN (qcnt Q u)) (zN 1) w)
    ∨ jMe N b n d i u Q m w (fX1_readMember N 2 (zN u) (zN (12 * u + qcnt Q u)) m) (fX9_members_62 N 85 (zN u) (zN (qcnt Q u)) (zN 1) w) := by
  have hbd := jQ_bd h
  have hh := h
  obtain ⟨mA, eA, hSA, hnA, hgA, hlA, hoA, hOA, hJA⟩ := c_mA h hu hc 3
  obtain ⟨h1, h2, h3, h4, h5, h6, h7, h8⟩ := h
  have hn := h6.1
  have hd := h1.1.1
  have hb := h1.2.2.2.1
  have g0 := h1.1.2.2.2.2.1
  generalize hx : 12 * u + qcnt Q u = x at *
  have hx84 : x < 84 := by omega
  have ec : fX1_readMember N 2 (zN u) (zN x) m = xca (fX1_readDeed N 2 (zN x) (zN 1) mA) fun v8 m7 => xnb v8 (some (v8, m7)) := by
    unfold fX1_readMember
    rw [cs_k h1, hk]
    simp (disch := omega) only [zN_lit, zN_eq, Nat.reduceEqDiff, if_false, if_true, zgr g0, eA, zcv]
  obtain ⟨wa, a1, a2, -, a3⟩ := r_tw_n (t := 10) (j := 2) h2 (by omega) rfl (by omega)
  obtain ⟨wb, b1, b2, -, b3⟩ := r_tw_n (t := 11) (j := 3) a2 (by omega) rfl (by omega)
  obtain ⟨wc, c1, c2, -, c3⟩ := r_tw_n (t := 12) (j := 4) b2 (by omega) rfl (by omega)
  obtain ⟨wd, d1, d2, -, d3⟩ := r_tw_n (t := 13) (j := 5) c2 (by omega) rfl (by omega)
  have hFd : rF w wd := rF_tr a3 (rF_tr b3 (rF_tr c3 d3))
  have er : fX9_members_62 N 85 (zN u) (zN (qcnt Q u)) (zN 1) w = (xca (fX9_setHere N 85 wd) fun v10 m9 => xca (fX9_fine N 85 m9) fun v12 m11 => if (v12 : Int32) = zN 0 then (some m11) else (xgr m11 85 10 fun u13 => xca (fX9_ofAct N u13 v10 (zN 1) m11) fun v15 m14 => xcv (fX9_addsMember N 85 (zN u) (zN 3) v15 v10 (zN 0) (zN 0) m14) fun m16 => some m16)) := by
    have hc12 : ¬ qcnt Q u = 12 := by omega
    unfold fX9_members_62
    simp (disch := omega) only [zN_lit, if_false, zN_eq, hc12, a1, zca, Nat.one_ne_zero, if_true, b1, c1, d1]
  rw [ec, er]
  have hJ1 : jD N b n d i DL nt na mA wd := jD_mo (m' := mA) (w' := wd) hJA (Nat.le_refl _) (fun _ _ _ => rfl) (fun j => hFd.1 _ _ (by omega)) hFd.2.1
  rcases d_set (x := x) hSA hJ1 d2 hk (Or.inr ⟨rfl, hx84⟩) (by omega) (by omega) with ⟨f, p, m1, v, we, k1, k2, k3, k4, k5, k6⟩ | ⟨m1, we, i', k, l, q, k1, k2, k3, k4, k5, k6, k7, k8, k9, k10⟩
  · refine Or.inl ⟨f, p, m1, we, ?_, k2, cO_tr hOA k3, ?_, k5, rO_tr (rE_O (rF_E hFd)) k6⟩
    · rw [k1, zca, znbN0]
    · rw [k4, zca, r_dead k5, zca, if_pos rfl]
  · have hfr := k5.1
    have h7x : gi m1 (d + 7) x = zN DL.length := k6.1 rfl hx84 hoA.2.2.2.1
    have hDw : rD nt na w we := rD_tr (rE_D (rF_E hFd)) k9 (Nat.le_refl _) (Nat.le_refl _)
    have hi1 := cS_i k3
    generalize hav : gi we 89 (530 + 4 * na + 1) = av
    obtain ⟨o1, o2, o3, o4, o5, o6, o7, o8⟩ := radm_o (w := we) (u := u) (M := qbs (qcnt Q) (qn Q)) (c := qcnt Q u) (k := zN 3) (a := av) (A := zN na) (B := zN 0) (C := zN 0) (by omega) hc
    have hb2 : qbs (qcnt Q) (qn Q) = qbs (qcnt Q) u + qcnt Q u := by rw [← hu]; rfl
    have hbl := qbs_le h6 u (by omega)
    have hnt2 := k4.2.1.2.2.2.1
    have hNe := k4.2.1.1
    refine Or.inr ⟨m1, radm we u (qbs (qcnt Q) (qn Q)) (qcnt Q u) (zN 3) av (zN na) (zN 0) (zN 0), i', qadd Q u 3 none none (some DL.length), DL ++ [(l, some q)], nt + k, na + 1, by rw [k1, zca, znbN1], ?_, jQ_fin (E := [(l, some q)]) hh hu hc (by omega) (fun c hc' => by simp at hc') (fun r => by omega) k3 k8 k4 (fun z j q => ?_) ?_ ?_ ?_ ?_ ?_ ?_ ?_ (fun c hc' => by simp at hc') hDw (by omega) (by omega) (by rw [List.length_append]; show 3 * (DL.length + 1) ≤ _; omega) (by omega) ?_, rfl, zset_eq _ _ _, tz_ilt h1.2.2.2.2.2.1 (by omega), rfl, ⟨fun z j r1 r2 r3 => ?_, fun z j => by rw [k5.2.1, hgA], fun z j => by rw [k5.2.2, hlA]⟩, rO_tr (rD_O hDw) ⟨fun z j _ r2 => radm_n hc (by omega), fun _ _ => rfl, fun _ _ => rfl⟩⟩
    · obtain ⟨n1, n2⟩ := hNe
      rw [k2, zca, r_fine k8, zca, if_neg (by rw [zN10]; exact id), zgr n2]
      unfold fX9_ofAct
      simp (disch := omega) only [zv, zN_lit, zN_mul, zN_add, zald, zca, hav]
      rw [r_fm hh hDw hu hc, zcv]
    · rw [hx] at q
      have q' : (z = d ∧ (j = 0 ∨ j = 11)) ∨ z = d + 1 ∨ z = d + 2 ∨ z = d + 11 ∨ z = 21 ∨ (z = d + 3 ∧ j ≠ u) ∨ (d + 4 ≤ z ∧ z ≤ d + 9 ∧ j ≠ x) ∨ z = d + 10 := by
        rcases q with q | q | q | q | q | q | q | q
        all_goals omega
      rw [hfr z j (by omega) (by omega) (by omega) (by omega) (by omega), hnA z j (by omega) (by omega)]
    · rw [hfr _ _ (by omega) (by omega) (by omega) (by omega) (by omega)]; exact hoA.2.2.2.2.2.2
    · rw [hx, hfr _ _ (by omega) (by omega) (by omega) (by omega) (by omega)]; exact hoA.1
    · rw [hx, hfr _ _ (by omega) (by omega) (by omega) (by omega) (by omega)]; exact hoA.2.1
    · rw [hx, hfr _ _ (by omega) (by omega) (by omega) (by omega) (by omega)]; exact hoA.2.2.1
    · rw [hx]; exact h7x
    · rw [hx, hfr _ _ (by omega) (by omega) (by omega) (by omega) (by omega)]; exact hoA.2.2.2.2.1
    · rw [hx, hfr _ _ (by omega) (by omega) (by omega) (by omega) (by omega)]; exact hoA.2.2.2.2.2.1
    · refine pM_23 (c := 3) (Or.inr rfl) (zset_eq _ _ _) (zset_eq _ _ _) (zset_eq _ _ _) o1 (fun r => absurd rfl r) (zset_eq _ _ _) p_gal o3 (by omega) (pact_fr (Nat.le_refl _) (fun o ho => radm_n hc (by omega)) (fun j r1 r2 => radm_n hc (by omega)) k10) (fun r => by omega) (fun _ r => by simp at r)
    · rw [hfr z j r1 (by omega) (by omega) (by omega) (by omega), hnA z j (by omega) (by omega)]
theorem m_var {u : Nat} (h : jQ N b n d i Q DL nt na m w) (hu : u + 1 = qn Q) (hc : qcnt Q u < 12) (hk : tzk b n (tzp b n i) = 263) :
    jFv d m w (fX1_readMember N 2 (zN u) (zN (12 * u + qcnt Q u)) m) (fX9_members_62 N 85 (zN u) (zN (qcnt Q u)) (zN 1) w)
    ∨ jMe N b n d i u Q m w (fX1_readMember N 2 (zN u) (zN (12 * u + qcnt Q u)) m) (fX9_members_62 N 85 (zN u) (zN (qcnt Q u)) (zN 1) w) := by
  have hbd := jQ_bd h
  have hh := h
  obtain ⟨mA, eA, hSA, hnA, hgA, hlA, hoA, hOA, hJA⟩ := c_mA h hu hc 1
  obtain ⟨h1, h2, h3, h4, h5, h6, h7, h8⟩ := h
  have hn := h6.1
  have hd := h1.1.1
  have hb := h1.2.2.2.1
  have hp := tz_nE hk (by omega)
  have ip := tzp_s hp
  have g0 := h1.1.2.2.2.2.1
  have hb2 : qbs (qcnt Q) (qn Q) = qbs (qcnt Q) u + qcnt Q u := by rw [← hu]; rfl
  have hbl := qbs_le h6 u (by omega)
  generalize hx : 12 * u + qcnt Q u = x at *
  have hx84 : x < 84 := by omega
  have ec : fX1_readMember N 2 (zN u) (zN x) m = xca (fX1_readVariable N 2 (zN u) (zN x) mA) fun v8 m7 => xnb v8 (some (v8, m7)) := by
    unfold fX1_readMember
    rw [cs_k h1, hk]
    simp (disch := omega) only [zN_lit, zN_eq, Nat.reduceEqDiff, if_false, if_true, zgr g0, eA, zcv]
  obtain ⟨wa, a1, a2, -, a3⟩ := r_tw_n (t := 10) (j := 2) h2 (by omega) rfl (by omega)
  obtain ⟨wb, b1', b2', b3'⟩ := r_tw_y (t := 11) (j := 3) a2 (by omega) rfl hk
  have hFw : rF w wb := rF_tr a3 b3'
  have er : fX9_members_62 N 85 (zN u) (zN (qcnt Q u)) (zN 1) w = (xca (fX9_freshName N 85 (zN u) wb) fun v24 m23 => xca (fX9_takesSign N 85 (zN 61) m23) fun v26 m25 => if (v26 : Int32) = zN 0 then (fX9_members_184 N 85 (zN u) v24 zM m25) else (xca (fX9_sum N 85 m25) fun v28 m27 => fX9_members_184 N 85 (zN u) v24 v28 m27)) := by
    have hc12 : ¬ qcnt Q u = 12 := by omega
    unfold fX9_members_62
    simp (disch := omega) only [zN_lit, if_false, zN_eq, hc12, a1, zca, Nat.one_ne_zero, if_true, b1', zneg]
  rw [ec, er]
  unfold fX1_readVariable fX9_members_184 fX9_members_211
  rcases j_name (u := u) (x := x) hSA hp b2' (rN_g h3.2.1.1 hFw.2.1) (rQ_F h5 hFw) h6 (by omega) hx84 (fun a ha => by rw [hnA _ _ (by omega) (by omega)]; exact h4.2.2.2.2.2.1 u a (by omega) ha) with ⟨f, p, m1, v, wc, b1, b2, b3, b4, b5, b6⟩ | ⟨a, m1, wc, b1, b2, b3, b4, b5, b6, b7, b8, b9, b10, b11, b12⟩
  · refine Or.inl ⟨f, p, m1, wc, ?_, b2, cO_tr hOA b3, ?_, b5, rO_tr (rE_O (rF_E hFw)) b6⟩
    · rw [b1]; simp only [zca, zN_lit, if_true, znbN0]
    · rw [b4]; simp only [zca, r_sg_d b5, if_true, r_mu_d b5, zcv, r_dead b5, zN_lit]
  · have ip1 : tzp b n (i + 1) + 1 ≤ tzp b n (i + 2) := (tzp_s (b4.2.2.2.2.2.1 (i + 1) (by omega))).1
    rw [b3, b10]
    simp only [zca, zN_lit, zN10, if_false]
    have hO1 : cO d m m1 := cO_tr hOA ⟨fun z j q1 q2 q3 => b7 z j (by omega) (by omega) (by omega), b8, b9⟩
    have hFc : rF w wc := rF_tr hFw b12
    have h1fr : ∀ z j, ¬ (z = 2 ∧ j = 10) → ¬ (z = d + 3 ∧ j = u) → ¬ (d + 4 ≤ z ∧ z ≤ d + 9 ∧ j = x) → ¬ (z = d + 10 ∧ j = 26 * u + a) → gi m1 z j = gi m z j := fun z j r1 r2 r3 r4 => by rw [b7 z j r1 (by omega) r4, hnA z j r2 r3]
    by_cases q1 : tzk b n (tzp b n (i + 2)) = 61
    · have q2 := tz_nE q1 (by omega)
      have ip2 := tzp_s q2
      have hS2 := cS_s b4 q2
      obtain ⟨wd, c1, c2, c3⟩ := r_sg_y (c := 61) b11 (by omega) q1
      have hFd : rF w wd := rF_tr hFc c3
      rw [c_ta_y b4 q1, c1]
      simp only [zca, zN10, if_false]
      have hJ2 : jD N b n d (i + 2 + 1) DL nt na (si m1 2 10 (zN (i + 2 + 1))) wd := jD_mo (m' := si m1 2 10 (zN (i + 2 + 1))) (w' := wd) h3 (by omega) (fun z j q => by rw [gi_ne (by omega), h1fr z j (by omega) (by omega) (by omega) (by omega)]) (fun j => hFd.1 _ _ (by omega)) hFd.2.1
      rcases d_0 (x := x) (a1 := zN x) hS2 hJ2 c2 (Or.inr ⟨rfl, hx84⟩) (by omega) (by omega) with ⟨f, p, m3, v, w1, w2, k1, k2, k3, k4, k5, k6, k7⟩ | ⟨m3, w1, w2, i', k, l, k1, k2, k3, k4, k5, k6, k7, k8, k9, k10, k11⟩
      · refine Or.inl ⟨f, p, m3, w2, ?_, k2, cO_tr hO1 (cO_tr (cF_O (cF_si (cF_rf _) (by omega))) k3), ?_, k6, rO_tr (rE_O (rF_E hFd)) k7⟩
        · rw [k1, zca, znbN0, zca, znbN0]
        · rw [k4]; simp only [zca, k5, zcv, r_dead k6, if_true]
      · have hfr : ∀ z j, ¬ (z = 2 ∧ 10 ≤ j) → ¬ (z = d + 12 ∧ (j = 0 ∨ j = 3)) → ¬ ((z = d + 13 ∨ z = d + 14 ∨ z = 22) ∧ plen DL ≤ j) → ¬ ((z = 23 ∨ z = d + 15 ∨ z = d + 16 ∨ z = d + 17) ∧ DL.length ≤ j) → ¬ (z = d + 7 ∧ j = x) → gi m3 z j = gi m1 z j := fun z j q1 q2 q3 q4 q5 => by rw [k4.1 z j q1 q2 q3 q4 q5, gi_ne (by omega)]
        have h7x : gi m3 (d + 7) x = zN DL.length := k5.1 rfl hx84 (by rw [gi_ne (by omega), b7 _ _ (by omega) (by omega) (by omega)]; exact hoA.2.2.2.1)
        have hDw : rD nt na w w2 := rD_tr (rE_D (rF_E hFd)) (rT_D k10) (Nat.le_refl _) (Nat.le_refl _)
        have hi1 := cS_i k2
        have hnt2 := k3.2.1.2.2.2.1
        obtain ⟨o1, o2, o3, o4, o5, o6, o7, o8⟩ := radm_o (w := w2) (u := u) (M := qbs (qcnt Q) (qn Q)) (c := qcnt Q u) (k := zN 1) (a := zN a) (A := zN nt) (B := zN 0) (C := zN 0) (by omega) hc
        refine Or.inr ⟨m3, radm w2 u (qbs (qcnt Q) (qn Q)) (qcnt Q u) (zN 1) (zN a) (zN nt) (zN 0) (zN 0), i', qadd Q u 1 (some a) none (some DL.length), DL ++ [(l, none)], nt + k, na, by rw [k1, zca, znbN1, zca, znbN1], ?_, jQ_fin (E := [(l, none)]) hh hu hc (by omega) (fun c hc' => ?_) (fun _ => rfl) k2 k9 k3 (fun z j q => ?_) ?_ ?_ ?_ ?_ ?_ ?_ ?_ (fun c hc' => ?_) hDw (by omega) (Nat.le_refl _) (by rw [List.length_append]; show 3 * (DL.length + 1) ≤ _; omega) (by omega) ?_, rfl, zset_eq _ _ _, tz_ilt h1.2.2.2.2.2.1 (by omega), rfl, ⟨fun z j r1 r2 r3 => ?_, fun z j => by rw [k4.2.1, gr_si, b8, hgA], fun z j => by rw [k4.2.2, gl_si, b9, hlA]⟩, rO_tr (rD_O hDw) ⟨fun z j _ r2 => radm_n hc (by omega), fun _ _ => rfl, fun _ _ => rfl⟩⟩
        · rw [k7]; simp only [zca, k8, zcv, r_fine k9, zN10, if_false]
          rw [r_fm hh hDw hu hc, zcv]
        · have e' : a = c := by simpa using hc'
          rw [← e']; exact ⟨b1, Or.inr (Or.inl rfl), b2⟩
        · rw [hx] at q
          have q' : (z = d ∧ (j = 0 ∨ j = 11)) ∨ z = d + 1 ∨ z = d + 2 ∨ z = d + 11 ∨ z = 21 ∨ (z = d + 3 ∧ j ≠ u) ∨ (d + 4 ≤ z ∧ z ≤ d + 9 ∧ j ≠ x) ∨ (z = d + 10 ∧ j ≠ 26 * u + a) := by
            rcases q with q | q | q | q | q | q | q | q
            all_goals try omega
            have := q.2 a rfl
            omega
          rw [hfr z j (by omega) (by omega) (by omega) (by omega) (by omega), h1fr z j (by omega) (by omega) (by omega) (by omega)]
        · rw [hfr _ _ (by omega) (by omega) (by omega) (by omega) (by omega), b7 _ _ (by omega) (by omega) (by omega)]; exact hoA.2.2.2.2.2.2
        · rw [hx, hfr _ _ (by omega) (by omega) (by omega) (by omega) (by omega), b7 _ _ (by omega) (by omega) (by omega)]; exact hoA.1
        · rw [hx, hfr _ _ (by omega) (by omega) (by omega) (by omega) (by omega)]; exact b5
        · rw [hx, hfr _ _ (by omega) (by omega) (by omega) (by omega) (by omega), b7 _ _ (by omega) (by omega) (by omega)]; exact hoA.2.2.1
        · rw [hx]; exact h7x
        · rw [hx, hfr _ _ (by omega) (by omega) (by omega) (by omega) (by omega), b7 _ _ (by omega) (by omega) (by omega)]; exact hoA.2.2.2.2.1
        · rw [hx, hfr _ _ (by omega) (by omega) (by omega) (by omega) (by omega), b7 _ _ (by omega) (by omega) (by omega)]; exact hoA.2.2.2.2.2.1
        · have e' : a = c := by simpa using hc'
          rw [← e', hx, hfr _ _ (by omega) (by omega) (by omega) (by omega) (by omega)]; exact b6
        · refine pM_1 (a := a) (zset_eq _ _ _) (zset_eq _ _ _) (zset_eq _ _ _) o1 o2 ⟨fun r => ?_, fun kk r => ?_⟩
          · rw [show qded (qadd Q u 1 (some a) none (some DL.length)) (12 * u + qcnt Q u) = some DL.length from zset_eq _ _ _] at r
            simp at r
          · rw [show qded (qadd Q u 1 (some a) none (some DL.length)) (12 * u + qcnt Q u) = some DL.length from zset_eq _ _ _] at r
            have e' : DL.length = kk := by simpa using r
            rw [← e']
            exact ⟨(l, none), nt, p_gal, rfl, o3, pSm_fr (Nat.le_refl _) (fun j r1 r2 => radm_n hc (by omega)) k11⟩
        · rw [hfr z j r1 (by omega) (by omega) (by omega) (by omega), h1fr z j (by omega) (by omega) (by omega) (by omega)]
    · obtain ⟨wd, c1, c2, c3, c4⟩ := r_sg_n (c := 61) b11 (by omega) q1
      have hFd : rF w wd := rF_tr hFc c4
      rw [c_ta_n b4 (by omega) q1, c1]
      simp only [zca, if_true]
      by_cases q6 : tzk b n (tzp b n (i + 2)) = 59
      · have q7 := tz_nE q6 (by omega)
        have ip4 := tzp_s q7
        have hS4 := cS_s b4 q7
        obtain ⟨we, e1, e2, e3⟩ := r_mu_y (c := 59) c2 (by omega) q6
        have hFe : rF w we := rF_tr hFd e3
        obtain ⟨o1, o2, o3, o4, o5, o6, o7, o8⟩ := radm_o (w := we) (u := u) (M := qbs (qcnt Q) (qn Q)) (c := qcnt Q u) (k := zN 1) (a := zN a) (A := zM) (B := zN 0) (C := zN 0) (by omega) hc
        refine Or.inr ⟨si m1 2 10 (zN (i + 2 + 1)), radm we u (qbs (qcnt Q) (qn Q)) (qcnt Q u) (zN 1) (zN a) zM (zN 0) (zN 0), i + 2 + 1, qadd Q u 1 (some a) none none, DL ++ [], nt, na, by rw [c_mu_y b4 q6, zca, znbN1, zca, znbN1], ?_, jQ_fin (m' := si m1 2 10 (zN (i + 2 + 1))) (E := []) hh hu hc (by omega) (fun c hc' => ?_) (fun _ => rfl) hS4 e2 ?_ (fun z j q => ?_) ?_ ?_ ?_ ?_ ?_ ?_ ?_ (fun c hc' => ?_) (rE_D (rF_E hFe)) (Nat.le_refl _) (Nat.le_refl _) (by rw [List.append_nil]; omega) (by omega) ?_, rfl, zset_eq _ _ _, by omega, rfl, cO_tr hO1 (cF_O (cF_si (cF_rf _) (by omega))), rO_tr (rE_O (rF_E hFe)) ⟨fun z j _ r2 => radm_n hc (by omega), fun _ _ => rfl, fun _ _ => rfl⟩⟩
        · rw [e1]; simp only [zcv]; rw [r_fine e2, zca, if_neg (by rw [zN10]; exact id), r_fm hh (rE_D (rF_E hFe)) hu hc, zcv]
        · have e' : a = c := by simpa using hc'
          rw [← e']; exact ⟨b1, Or.inr (Or.inl rfl), b2⟩
        · rw [List.append_nil]
          exact jD_mo (m' := si m1 2 10 (zN (i + 2 + 1))) (w' := we) h3 (by omega) (fun z j r => by rw [gi_ne (by omega), h1fr z j (by omega) (by omega) (by omega) (by omega)]) (fun j => hFe.1 _ _ (by omega)) hFe.2.1
        · rw [hx] at q
          have q' : (z = d ∧ (j = 0 ∨ j = 11)) ∨ z = d + 1 ∨ z = d + 2 ∨ z = d + 11 ∨ z = 21 ∨ (z = d + 3 ∧ j ≠ u) ∨ (d + 4 ≤ z ∧ z ≤ d + 9 ∧ j ≠ x) ∨ (z = d + 10 ∧ j ≠ 26 * u + a) := by
            rcases q with q | q | q | q | q | q | q | q
            all_goals try omega
            have := q.2 a rfl
            omega
          rw [gi_ne (by omega), h1fr z j (by omega) (by omega) (by omega) (by omega)]
        · rw [gi_ne (by omega), b7 _ _ (by omega) (by omega) (by omega)]; exact hoA.2.2.2.2.2.2
        · rw [hx, gi_ne (by omega), b7 _ _ (by omega) (by omega) (by omega)]; exact hoA.1
        · rw [hx, gi_ne (by omega)]; exact b5
        · rw [hx, gi_ne (by omega), b7 _ _ (by omega) (by omega) (by omega)]; exact hoA.2.2.1
        · rw [hx, gi_ne (by omega), b7 _ _ (by omega) (by omega) (by omega)]; exact hoA.2.2.2.1
        · rw [hx, gi_ne (by omega), b7 _ _ (by omega) (by omega) (by omega)]; exact hoA.2.2.2.2.1
        · rw [hx, gi_ne (by omega), b7 _ _ (by omega) (by omega) (by omega)]; exact hoA.2.2.2.2.2.1
        · have e' : a = c := by simpa using hc'
          rw [← e', hx, gi_ne (by omega)]; exact b6
        · refine pM_1 (a := a) (zset_eq _ _ _) (zset_eq _ _ _) (zset_eq _ _ _) o1 o2 ⟨fun _ => o3, fun kk r => ?_⟩
          rw [show qded (qadd Q u 1 (some a) none none) (12 * u + qcnt Q u) = none from zset_eq _ _ _] at r
          simp at r
      · obtain ⟨m5, f1, f2, f3⟩ := c_mu_n b4 (c := 59) (by omega) q6
        obtain ⟨we, e1, e2, e3⟩ := r_mu_n (c := 59) c2 (by omega) q6
        refine Or.inl ⟨1, tzp b n (i + 2), m5, we, ?_, f2, cO_tr hO1 (cF_O f3), ?_, e2, rE_O (rE_tr (rF_E hFd) e3)⟩
        · rw [f1, zca, znbN0, zca, znbN0]
        · rw [e1]; simp only [zcv]; rw [r_dead e2, zca, if_pos rfl]
end TW
