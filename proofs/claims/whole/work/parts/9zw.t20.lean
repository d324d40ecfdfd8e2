/-! ===== t: variables, what is done, what is set: members ===== -/
/-- how a member comes out, of both -/
def jMe (N : Nat → Nat) (b : Nat → Nat) (n d i u : Nat) (Q : pQ) (m w : XM) (cr : Option (Int32 × XM)) (rr : Option XM) : Prop := ∃ m' w' i' Q' DL' nt' na', cr = some (zN 1, m') ∧ rr = some w' ∧ jQ N b n d i' Q' DL' nt' na' m' w' ∧ qn Q' = qn Q ∧ qcnt Q' u = qcnt Q u + 1 ∧ i < i' ∧ qstp Q' = qstp Q ∧ cO d m m' ∧ rO w w'
section TV
variable {N : Nat → Nat} {b : Nat → Nat} {n d i : Nat} {Q : pQ} {DL : List pD} {nt na : Nat} {m w : XM}
theorem c_mA {u : Nat} (h : jQ N b n d i Q DL nt na m w) (hu : u + 1 = qn Q) (hc : qcnt Q u < 12) (k : Nat) : ∃ mA, fX6_addMember N d (zN (12 * u + qcnt Q u)) (zN k) m = some mA ∧ cS N b n d i mA ∧ (∀ z j, ¬ (z = d + 3 ∧ j = u) → ¬ (d + 4 ≤ z ∧ z ≤ d + 9 ∧ j = 12 * u + qcnt Q u) → gi mA z j = gi m z j) ∧ (∀ z j, gr mA z j = gr m z j) ∧ (∀ z j, gl mA z j = gl m z j) ∧ (gi mA (d + 4) (12 * u + qcnt Q u) = zN k ∧ gi mA (d + 5) (12 * u + qcnt Q u) = zM ∧ gi mA (d + 6) (12 * u + qcnt Q u) = zM ∧ gi mA (d + 7) (12 * u + qcnt Q u) = zM ∧ gi mA (d + 8) (12 * u + qcnt Q u) = zN 1 ∧ gi mA (d + 9) (12 * u + qcnt Q u) = zN (12 * u + qcnt Q u) ∧ gi mA (d + 3) u = zN (qcnt Q u + 1)) ∧ cO d m mA ∧ jD N b n d i DL nt na mA w := by
  obtain ⟨h1, h2, h3, h4, h5, h6, h7, h8⟩ := h
  have hn := h6.1
  have hd := h1.1.1
  have hnA : ∀ z j, ¬ (z = d + 3 ∧ j = u) → ¬ (d + 4 ≤ z ∧ z ≤ d + 9 ∧ j = 12 * u + qcnt Q u) → gi (cadm m d (12 * u + qcnt Q u) k u (qcnt Q u)) z j = gi m z j := fun z j q1 q2 => cadm_n q1 q2
  exact ⟨cadm m d (12 * u + qcnt Q u) k u (qcnt Q u), c_adm h1.1 (by omega) (by omega) (by omega) (h4.2.2.2.1 u (by omega)), cadm_S h1, hnA, fun _ _ => rfl, fun _ _ => rfl, cadm_o, ⟨fun z j q1 q2 q3 => hnA z j (by omega) (by omega), fun _ _ => rfl, fun _ _ => rfl⟩, jD_mo (m' := cadm m d (12 * u + qcnt Q u) k u (qcnt Q u)) (w' := w) h3 (Nat.le_refl _) (fun z j q => hnA z j (by omega) (by omega)) (fun _ => rfl) (fun _ _ => rfl)⟩
theorem rQ_F {w' : XM} (h : rQ w Q DL nt na) (g : rF w w') : rQ w' Q DL nt na := by
  have e : gi w' 89 = gi w 89 := funext fun k => g.1 _ _ (by omega)
  unfold rQ at h ⊢
  rw [e]; exact h
theorem m_do {u : Nat} (h : jQ N b n d i Q DL nt na m w) (hu : u + 1 = qn Q) (hc : qcnt Q u < 12) (hk : tzk b n (tzp b n i) = 264) :
    jFv d m w (fX1_readMember N 2 (zN u) (zN (12 * u + qcnt Q u)) m) (fX9_members_62 N 85 (zN u) (zN (qcnt Q u)) (zN 1) w)
    ∨ jMe N b n d i u Q m w (fX1_readMember N 2 (zN u) (zN (12 * u + qcnt Q u)) m) (fX9_members_62 N 85 (zN u) (zN (qcnt Q u)) (zN 1) w) := by
  have hbd := jQ_bd h
  have hh := h
  obtain ⟨mA, eA, hSA, hnA, hgA, hlA, hoA, hOA, hJA⟩ := c_mA h hu hc 2
  obtain ⟨h1, h2, h3, h4, h5, h6, h7, h8⟩ := h
  have hn := h6.1
  have hd := h1.1.1
  have hb := h1.2.2.2.1
  have hp := tz_nE hk (by omega)
  have ip := tzp_s hp
  have hlen : tzp b n i + 2 ≤ tzp b n (i + 1) := by
    have := (tz_wd (j := 4) hb (by omega) hk).2
    have e : (tzW 4).length = 2 := rfl
    omega
  have g0 := h1.1.2.2.2.2.1
  generalize hx : 12 * u + qcnt Q u = x at *
  have hx84 : x < 84 := by omega
  have hS1 := cS_s hSA hp
  have ec : fX1_readMember N 2 (zN u) (zN x) m = xca (fX1_readDeed N 2 (zN x) (zN 0) (si mA 2 10 (zN (i + 1)))) fun v8 m7 => xnb v8 (some (v8, m7)) := by
    unfold fX1_readMember
    rw [cs_k h1, hk]
    simp (disch := omega) only [zN_lit, zN_eq, Nat.reduceEqDiff, if_false, if_true, zgr g0, eA, zcv, zv, hSA.2.2.2.2.2.2, zN_add]
  obtain ⟨wa, a1, a2, -, a3⟩ := r_tw_n (t := 10) (j := 2) h2 (by omega) rfl (by omega)
  obtain ⟨wb, b1, b2, -, b3⟩ := r_tw_n (t := 11) (j := 3) a2 (by omega) rfl (by omega)
  obtain ⟨wc, c1, c2, c3⟩ := r_tw_y (t := 12) (j := 4) b2 (by omega) rfl hk
  have hFc : rF w wc := rF_tr a3 (rF_tr b3 c3)
  have er : fX9_members_62 N 85 (zN u) (zN (qcnt Q u)) (zN 1) w = (xca (fX9_doHere N 85 wc) fun v19 m18 => xca (fX9_fine N 85 m18) fun v21 m20 => if (v21 : Int32) = zN 0 then some m20 else (xcv (fX9_addsMember N 85 (zN u) (zN 2) zM v19 (zN 0) (zN 0) m20) fun m22 => some m22)) := by
    have hc12 : ¬ qcnt Q u = 12 := by omega
    unfold fX9_members_62 fX9_members_247
    simp (disch := omega) only [zN_lit, if_false, zN_eq, hc12, a1, zca, Nat.one_ne_zero, if_true, b1, c1, zneg]
  rw [ec, er]
  have hJ1 : jD N b n d (i + 1) DL nt na (si mA 2 10 (zN (i + 1))) wc := jD_mo (m' := si mA 2 10 (zN (i + 1))) (w' := wc) hJA (by omega) (fun z j q => gi_ne (by omega)) (fun j => hFc.1 _ _ (by omega)) hFc.2.1
  rcases d_do (x := x) hS1 hJ1 c2 (Or.inr ⟨rfl, hx84⟩) (by omega) (by omega) with ⟨f, p, m1, v, wd, k1, k2, k3, k4, k5, k6⟩ | ⟨m1, wd, i', k, l, k1, k2, k3, k4, k5, k6, k7, k8, k9, k10⟩
  · refine Or.inl ⟨f, p, m1, wd, ?_, k2, cO_tr hOA (cO_tr (cF_O (cF_si (cF_rf _) (by omega))) k3), ?_, k5, rO_tr (rE_O (rF_E hFc)) k6⟩
    · rw [k1, zca, znbN0]
    · rw [k4, zca, r_dead k5, zca, if_pos rfl]
  · have hfr : ∀ z j, ¬ (z = 2 ∧ 10 ≤ j) → ¬ (z = d + 12 ∧ (j = 0 ∨ j = 3)) → ¬ ((z = d + 13 ∨ z = d + 14 ∨ z = 22) ∧ plen DL ≤ j) → ¬ ((z = 23 ∨ z = d + 15 ∨ z = d + 16 ∨ z = d + 17) ∧ DL.length ≤ j) → ¬ (z = d + 7 ∧ j = x) → gi m1 z j = gi mA z j := fun z j q1 q2 q3 q4 q5 => by rw [k5.1 z j q1 q2 q3 q4 q5, gi_ne (by omega)]
    have h7x : gi m1 (d + 7) x = zN DL.length := k6.1 rfl hx84 (by rw [gi_ne (by omega)]; exact hoA.2.2.2.1)
    have hDw : rD nt na w wd := rD_tr (rE_D (rF_E hFc)) k9 (Nat.le_refl _) (Nat.le_refl _)
    have hi1 := cS_i k3
    obtain ⟨o1, o2, o3, o4, o5, o6, o7, o8⟩ := radm_o (w := wd) (u := u) (M := qbs (qcnt Q) (qn Q)) (c := qcnt Q u) (k := zN 2) (a := zM) (A := zN na) (B := zN 0) (C := zN 0) (by omega) hc
    have hb2 : qbs (qcnt Q) (qn Q) = qbs (qcnt Q) u + qcnt Q u := by rw [← hu]; rfl
    have hbl := qbs_le h6 u (by omega)
    have hnt2 := k4.2.1.2.2.2.1
    refine Or.inr ⟨m1, radm wd u (qbs (qcnt Q) (qn Q)) (qcnt Q u) (zN 2) zM (zN na) (zN 0) (zN 0), i', qadd Q u 2 none none (some DL.length), DL ++ [(l, none)], nt + k, na + 1, by rw [k1, zca, znbN1], ?_, jQ_fin (E := [(l, none)]) hh hu hc (by omega) (fun c hc' => by simp at hc') (fun r => by omega) k3 k8 k4 (fun z j q => ?_) ?_ ?_ ?_ ?_ ?_ ?_ ?_ (fun c hc' => by simp at hc') hDw (by omega) (by omega) (by rw [List.length_append]; show 3 * (DL.length + 1) ≤ _; omega) (by omega) ?_, rfl, zset_eq _ _ _, ?_, rfl, ⟨fun z j r1 r2 r3 => ?_, fun z j => by rw [k5.2.1, gr_si, hgA], fun z j => by rw [k5.2.2, gl_si, hlA]⟩, rO_tr (rD_O hDw) ⟨fun z j _ r2 => radm_n hc (by omega), fun _ _ => rfl, fun _ _ => rfl⟩⟩
    · rw [k2, zca, r_fine k8, zca, if_neg (by rw [zN10]; exact id), r_fm hh hDw hu hc, zcv]
    · rw [hx] at q
      have q' : (z = d ∧ (j = 0 ∨ j = 11)) ∨ z = d + 1 ∨ z = d + 2 ∨ z = d + 11 ∨ z = 21 ∨ (z = d + 3 ∧ j ≠ u) ∨ (d + 4 ≤ z ∧ z ≤ d + 9 ∧ j ≠ x) ∨ z = d + 10 := by
        rcases q with q | q | q | q | q | q | q | q
        all_goals omega
      rw [hfr z j (by omega) (by omega) (by omega) (by omega) (by omega), hnA z j (by omega) (by omega)]
    · rw [hfr _ _ (by omega) (by omega) (by omega) (by omega) (by omega)]; exact hoA.2.2.2.2.2.2
    · rw [hx, hfr _ _ (by omega) (by omega) (by omega) (by omega) (by omega)]; exact hoA.1
    · rw [hx, hfr _ _ (by omega) (by omega) (by omega) (by omega) (by omega)]; exact hoA.2.1
    · rw [hx, hfr _ _ (by omega) (by omega) (by omega) (by omega) (by omega)]; exact hoA.2.2.1
    · rw [hx]; exact h7x
    · rw [hx, hfr _ _ (by omega) (by omega) (by omega) (by omega) (by omega)]; exact hoA.2.2.2.2.1
    · rw [hx, hfr _ _ (by omega) (by omega) (by omega) (by omega) (by omega)]; exact hoA.2.2.2.2.2.1
    · refine pM_23 (c := 2) (Or.inl rfl) (zset_eq _ _ _) (zset_eq _ _ _) (zset_eq _ _ _) o1 (fun _ => o2) (zset_eq _ _ _) p_gal o3 (by omega) (pact_fr (Nat.le_refl _) (fun o ho => radm_n hc (by omega)) (fun j r1 r2 => radm_n hc (by omega)) k10) (fun _ => rfl) (fun r => by omega)
    · have : ¬ i' ≤ i := fun q => by
        have e1 : ∀ t s, t ≤ s → tzo b n s → tzp b n t ≤ tzp b n s := fun t s hts hs => by
          induction s with
          | zero => rw [show t = 0 by omega]; exact Nat.le_refl _
          | succ s ih =>
            by_cases e : t = s + 1
            · rw [e]; exact Nat.le_refl _
            · have := ih (by omega) (fun j hj => hs j (by omega))
              have := (tzp_s (hs s (by omega))).1
              omega
        have := e1 i' i q h1.2.2.2.2.2.1
        omega
      omega
    · rw [hfr z j r1 (by omega) (by omega) (by omega) (by omega), hnA z j (by omega) (by omega)]
end TV
