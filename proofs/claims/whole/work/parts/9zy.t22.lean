/-! ===== t: functions ===== -/
section TX
variable {N : Nat → Nat} {b : Nat → Nat} {n d i : Nat} {Q : pQ} {DL : List pD} {nt na : Nat} {m w mB : XM}
theorem rf_no (h : rS N b n i w) (hk : ¬ tzk b n (tzp b n i) = 257) (f : Nat) (x1 x2 x3 x4 : Int32) : ∃ w', fX9_function_22 N (f + 1) 85 x1 x2 x3 x4 w = fX9_function_74 N 85 x1 x2 x3 x4 w' ∧ rS N b n i w' ∧ rF w w' := by
  have hb := h.1.2.2.1
  obtain ⟨w1, a1, a2, a3, a4⟩ := r_here h
  obtain ⟨w2, b1, b2, b3, b4⟩ := r_unit a2
  rw [if_neg hk] at b1
  rw [fX9_function_22, zv, r_fine h]
  simp only [zca, zN_lit, zN10, if_false, a1, r_big hb]
  by_cases q : tzp b n i < n ∧ 65 ≤ b (tzp b n i) ∧ b (tzp b n i) ≤ 90
  · rw [if_pos q]
    simp only [zN10, if_false, b1, zca, if_true]
    exact ⟨w2, rfl, b2, rF_tr a4 b4⟩
  · rw [if_neg q]
    simp only [if_true]
    exact ⟨w1, rfl, a2, a4⟩
theorem rf_ye (h : rS N b n i w) (hk : tzk b n (tzp b n i) = 257) (f s : Nat) (hs : s ≤ 4) (x1 x2 x4 : Int32) : ∃ w', fX9_function_22 N (f + 1) 85 x1 x2 (zN s) x4 w = (if s = 4 then (xca (fX9_wrong N 85 (zN 3) (zN (tzp b n i)) w') fun _ m13 => some m13) else (xca (fX9_setHere N 85 w') fun _ m9 => fX9_function_22 N f 85 x1 x2 (zN (s + 1)) x4 m9)) ∧ rS N b n i w' ∧ rF w w' := by
  have hb := h.1.2.2.1
  obtain ⟨p1, p2, p3, p4, p5, p6⟩ := tz_ca hb hk
  obtain ⟨w1, a1, a2, a3, a4⟩ := r_here h
  obtain ⟨w2, b1, b2, b3, b4⟩ := r_unit a2
  rw [if_pos hk] at b1
  refine ⟨w2, ?_, b2, rF_tr a4 b4⟩
  rw [fX9_function_22, zv, r_fine h]
  simp only [zca, zN_lit, zN10, if_false, a1, r_big hb]
  rw [if_pos (show tzp b n i < n ∧ 65 ≤ b (tzp b n i) ∧ b (tzp b n i) ≤ 90 by omega)]
  simp (disch := omega) only [Nat.one_ne_zero, if_false, b1, zca, zv, b3, zN_add, zN_eq]
/-- what a function's sets leave -/
def pFn (d x : Nat) (DL : List pD) (mB m' : XM) : Prop := (∀ z j, ¬ (z = 2 ∧ 10 ≤ j) → ¬ (z = d + 12 ∧ (j = 0 ∨ j = 3)) → ¬ ((z = d + 13 ∨ z = d + 14 ∨ z = 22) ∧ plen DL ≤ j) → ¬ ((z = 23 ∨ z = d + 15 ∨ z = d + 16 ∨ z = d + 17) ∧ DL.length ≤ j) → ¬ (z = d + 7 ∧ j = x) → ¬ (z = d + 6 ∧ j = x) → gi m' z j = gi mB z j) ∧ (∀ z j, gr m' z j = gr mB z j) ∧ ∀ z j, gl m' z j = gl mB z j
theorem m_ft {u a x i0 : Nat} (hh : jQ N b n d i0 Q DL nt na m w) (hu : u + 1 = qn Q) (hc : qcnt Q u < 12) (hx : 12 * u + qcnt Q u = x) (s f1 f2 i nt1 : Nat) (E : List pD) (m1 w1 : XM) (hs4 : s ≤ 4) (h1 : cS N b n d i m1) (h2 : rS N b n i w1) (h3 : jD N b n d i (DL ++ E) nt1 (na + s) m1 w1) (hE : E.length = s) (hcD : cD d (plen DL) DL.length x mB m1) (hrD : rD nt na w w1) (hnt : nt ≤ nt1) (b1 : 3 * (DL.length + s) ≤ tzp b n i) (b2 : 4 * (na + s) ≤ tzp b n i) (hd0 : s = 0 → gi m1 (d + 7) x = zM) (hd1 : 0 < s → gi m1 (d + 7) x = zN DL.length) (hac : ∀ j, j < s → ∃ D, (DL ++ E)[DL.length + j]? = some D ∧ D.2 ≠ none ∧ pact (gi w1 89) nt1 (na + j) D) (hk : ¬ tzk b n (tzp b n i) = 257) :
    (∃ f p m' w', fX1_readFunction_22 N (f1 + 1) 2 (zN x) (zN s) m1 = some (zN 0, m') ∧ cX f p m' ∧ cO d m1 m' ∧ fX9_function_22 N (f2 + 1) 85 (zN u) (zN a) (zN s) (zN na) w1 = some w' ∧ rX f p w' ∧ rO w1 w')
    ∨ (∃ m' w2 i' E' nt2 s' fT l, fX1_readFunction_22 N (f1 + 1) 2 (zN x) (zN s) m1 = some (zN 1, m') ∧ fX9_function_22 N (f2 + 1) 85 (zN u) (zN a) (zN s) (zN na) w1 = some (radm w2 u (qbs (qcnt Q) (qn Q)) (qcnt Q u) (zN 4) (zN a) (zN fT) (zN s') (zN na)) ∧ cS N b n d i' m' ∧ rS N b n i' w2 ∧ jD N b n d i' (DL ++ E') nt2 (na + s') m' w2 ∧ s' ≤ 4 ∧ E'.length = s' + 1 ∧ (DL ++ E')[DL.length + s']? = some (l, none) ∧ pFn d x DL mB m' ∧ rD nt na w w2 ∧ nt ≤ nt2 ∧ 3 * (DL.length + (s' + 1)) ≤ tzp b n i' ∧ 4 * (na + s') ≤ tzp b n i' ∧ gi m' (d + 7) x = zN DL.length ∧ gi m' (d + 6) x = zN s' ∧ (∀ j, j < s' → ∃ D, (DL ++ E')[DL.length + j]? = some D ∧ D.2 ≠ none ∧ pact (gi w2 89) nt2 (na + j) D) ∧ pSm (gi w2 89) (pTm (gi w2 89) nt2 9) fT l ∧ tzp b n i < tzp b n i') := by
  have hn := hh.2.2.2.2.2.1.1
  have hx84 : x < 84 := by omega
  have hii := cS_i h1
  have hd := h1.1.1
  have hb := h1.2.2.2.1
  have hDL : (DL ++ E).length = DL.length + s := by rw [List.length_append, hE]
  have hpl : plen DL ≤ plen (DL ++ E) := by rw [plen_ap]; omega
  obtain ⟨-, ⟨-, -, -, -, -, n6, -⟩, -, ⟨-, -, -, -, -, g6, -⟩, g0, -⟩ := id h1.1
  obtain ⟨wa, a1, a2, a3⟩ := rf_no h2 hk f2 (zN u) (zN a) (zN s) (zN na)
  have hS2 : cS N b n d i (si m1 (d + 6) x (zN s)) := cS_g (m' := si m1 (d + 6) x (zN s)) h1 (fun _ _ => rfl) (fun z j q => gi_ne (by omega)) (by rw [gi_ne (by omega)]; exact h1.2.2.2.2.2.2) h1.2.2.2.2.2.1
  have ec : fX1_readFunction_22 N (f1 + 1) 2 (zN x) (zN s) m1 = (xca (fX1_mustTake N 2 (zN 266) (si m1 (d + 6) x (zN s))) fun v8 m7 => if (v8 : Int32) = zN 0 then some (zN 0, m7) else (xca (fX1_readDeed N 2 (zN x) (zN 0) m7) fun v10 m9 => if (v10 : Int32) = zN 0 then some (zN 0, m9) else (xca (fX1_mustTake N 2 (zN 125) m9) fun v12 m11 => if (v12 : Int32) = zN 0 then some (zN 0, m11) else (some (zN 1, m11))))) := by
    rw [fX1_readFunction_22, zv, cs_k h1]
    simp only [zN_lit]
    rw [if_neg (by rw [zK (tzk_lt hb _) (by omega)]; exact hk), zgr g0, zgr g6, zast (by omega) (by omega)]
    rfl
  have hO2 : cO d m1 (si m1 (d + 6) x (zN s)) := ⟨fun z j q1 q2 q3 => gi_ne (by omega), fun _ _ => rfl, fun _ _ => rfl⟩
  rw [ec, a1]
  unfold fX9_function_74
  rw [r_fine a2, zca]
  simp only [zN_lit, zN10, if_false]
  by_cases q1 : tzk b n (tzp b n i) = 266
  · have q2 := tz_nE q1 (by omega)
    have ip := tzp_s q2
    have hS3 := cS_s hS2 q2
    obtain ⟨wb, c1, c2, c3⟩ := r_tw_y (t := 14) (j := 6) a2 (by omega) rfl q1
    have hFb : rF w1 wb := rF_tr a3 c3
    rw [c_mu_y hS2 q1, zca, if_neg (by rw [zN10]; exact id), c1]
    simp only [zca, zN10, if_false]
    unfold fX9_function_100
    simp only [zN_lit]
    generalize hm3 : si (si m1 (d + 6) x (zN s)) 2 10 (zN (i + 1)) = m3 at *
    have h3fr : ∀ z j, ¬ (z = 2 ∧ j = 10) → ¬ (z = d + 6 ∧ j = x) → gi m3 z j = gi m1 z j := fun z j r1 r2 => by rw [← hm3, gi_ne (by omega), gi_ne (by omega)]
    have hg3 : ∀ z j, gr m3 z j = gr m1 z j := fun z j => by rw [← hm3]; rfl
    have hl3 : ∀ z j, gl m3 z j = gl m1 z j := fun z j => by rw [← hm3]; rfl
    have hO3 : cO d m1 m3 := ⟨fun z j r1 r2 r3 => h3fr z j (by omega) (by omega), hg3, hl3⟩
    have hJ3 : jD N b n d (i + 1) (DL ++ E) nt1 (na + s) m3 wb := jD_mo (m' := m3) (w' := wb) h3 (by omega) (fun z j q => h3fr z j (by omega) (by omega)) (fun j => hFb.1 _ _ (by omega)) hFb.2.1
    rcases d_0 (x := x) (a1 := zN x) hS3 hJ3 c2 (Or.inr ⟨rfl, hx84⟩) (by omega) (by omega) with ⟨f, p, m4, v, w3, w4, k1, k2, k3, k4, k5, k6, k7⟩ | ⟨m4, w3, w4, i', k, l, k1, k2, k3, k4, k5, k6, k7, k8, k9, k10, k11⟩
    · refine Or.inl ⟨f, p, m4, w4, ?_, k2, cO_tr hO3 k3, ?_, k6, rO_tr (rE_O (rF_E hFb)) k7⟩
      · rw [k1, zca, if_pos rfl]
      · rw [k4, zca, k5, zcv]
        rw [r_mu_d k6, zcv, r_dead k6, zca, if_pos rfl]
    · rw [k1, zca, if_neg (by rw [zN10]; exact id), k7, zca, k8, zcv]
      by_cases q3 : tzk b n (tzp b n i') = 125
      · have q4 := tz_nE q3 (by omega)
        have ip4 := tzp_s q4
        obtain ⟨w5, e1, e2, e3⟩ := r_mu_y (c := 125) k9 (by omega) q3
        have h89 : gi w5 89 = gi w4 89 := funext fun j => e3.1 _ _ (by omega)
        have hDw4 : rD nt1 (na + s) w1 w4 := rD_tr (rE_D (rF_E hFb)) (rT_D k10) (Nat.le_refl _) (Nat.le_refl _)
        have hDw : rD nt na w w5 := rD_tr hrD (rD_tr hDw4 (rE_D (nt := nt1) (na := na + s) (rF_E e3)) (Nat.le_refl _) (Nat.le_refl _)) hnt (by omega)
        have hi' := cS_i k2
        have hnt1 : nt1 ≤ 400 := by have := h3.2.1.2.2.2.1; omega
        have h7x : gi m4 (d + 7) x = zN DL.length := by
          by_cases e : s = 0
          · have := k5.1 rfl hx84 (by rw [h3fr _ _ (by omega) (by omega)]; exact hd0 e)
            rw [this, hDL, e]; rfl
          · have h7 : gi m3 (d + 7) x = zN DL.length := by rw [h3fr _ _ (by omega) (by omega)]; exact hd1 (by omega)
            rw [k5.2 (by rw [h7, zN_m (by omega)]; exact id)]; exact h7
        rw [List.append_assoc] at k3
        refine Or.inr ⟨si m4 2 10 (zN (i' + 1)), w5, i' + 1, E ++ [(l, none)], nt1 + k, s, nt1, l, ?_, ?_, cS_s k2 q4, e2, jD_mo (m' := si m4 2 10 (zN (i' + 1))) (w' := w5) k3 (by omega) (fun z j q => gi_ne (by omega)) (fun j => e3.1 _ _ (by omega)) e3.2.1, hs4, by rw [List.length_append, hE]; rfl, ?_, ⟨fun z j r1 r2 r3 r4 r5 r6 => ?_, fun z j => ?_, fun z j => ?_⟩, hDw, by omega, by omega, by omega, ?_, ?_, fun j hj => ?_, by rw [h89]; exact k11, by omega⟩
        · rw [c_mu_y k2 q3, zca, if_neg (by rw [zN10]; exact id)]
        · rw [e1, zcv, r_fine e2, zca, if_neg (by rw [zN10]; exact id), r_fm hh hDw hu hc, zcv]
        · rw [← List.append_assoc, show DL.length + s = (DL ++ E).length by rw [hDL]]
          exact p_gal
        · rw [gi_ne (by omega), k4.1 z j r1 r2 (by omega) (by omega) r5, h3fr z j (by omega) r6, hcD.1 z j r1 r2 r3 r4 r5]
        · rw [gr_si, k4.2.1, hg3, hcD.2.1]
        · rw [gl_si, k4.2.2, hl3, hcD.2.2]
        · rw [gi_ne (by omega)]; exact h7x
        · rw [gi_ne (by omega), k4.1 _ _ (by omega) (by omega) (by omega) (by omega) (by omega), ← hm3, gi_ne (by omega), gi_si]
        · obtain ⟨D, q1, q2, q3⟩ := hac j hj
          refine ⟨D, by rw [← List.append_assoc]; exact p_gap q1, q2, pact_fr (K := gi w1 89) (by omega) (fun o ho => ?_) (fun kk r1 r2 => ?_) q3⟩
          · rw [h89, hDw4.1 _ _ (by omega) (by omega)]
          · rw [h89, hDw4.1 _ _ (by omega) (by omega)]
      · obtain ⟨m5, f1', f2', f3'⟩ := c_mu_n k2 (c := 125) (by omega) q3
        obtain ⟨w5, e1, e2, e3⟩ := r_mu_n (c := 125) k9 (by omega) q3
        refine Or.inl ⟨1, tzp b n i', m5, w5, ?_, f2', cO_tr hO3 (cO_tr (cD_O k4) (cF_O f3')), ?_, e2, rO_tr (rE_O (rF_E hFb)) (rO_tr (rT_O k10) (rE_O e3))⟩
        · rw [f1', zca, if_pos rfl]
        · rw [e1, zcv, r_dead e2, zca, if_pos rfl]
  · obtain ⟨m3, c1, c2, c3⟩ := c_mu_n hS2 (c := 266) (by omega) q1
    obtain ⟨wb, d1, d2, d3, d4⟩ := r_tw_n (t := 14) (j := 6) a2 (by omega) rfl q1
    obtain ⟨wc, e1, e2, e3⟩ := r_wrong (N := N) (f := 1) (p := tzp b n i) d2.2.1 (by omega) (by omega)
    obtain ⟨v, wd, u1, u2, u3⟩ := r_sum_d (N := N) e2
    refine Or.inl ⟨1, tzp b n i, m3, wd, ?_, c2, cO_tr hO2 (cF_O c3), ?_, u2, rE_O (rE_tr (rF_E (rF_tr a3 d4)) (rE_tr e3 u3))⟩
    · rw [c1, zca, if_pos rfl]
    · rw [d1]
      unfold fX9_function_100
      simp only [zca, if_true, zv, d3, e1, u1, zN_lit, r_mu_d u2, zcv, r_dead u2]
theorem m_fl {u a x i0 : Nat} (hh : jQ N b n d i0 Q DL nt na m w) (hu : u + 1 = qn Q) (hc : qcnt Q u < 12) (hx : 12 * u + qcnt Q u = x) : ∀ (g s f1 f2 i nt1 : Nat) (E : List pD) (m1 w1 : XM), 4 - s = g → s ≤ 4 → g < f1 → g < f2 → cS N b n d i m1 → rS N b n i w1 → jD N b n d i (DL ++ E) nt1 (na + s) m1 w1 → E.length = s → cD d (plen DL) DL.length x mB m1 → rD nt na w w1 → nt ≤ nt1 → 3 * (DL.length + s) ≤ tzp b n i → 4 * (na + s) ≤ tzp b n i → (s = 0 → gi m1 (d + 7) x = zM) → (0 < s → gi m1 (d + 7) x = zN DL.length) → (∀ j, j < s → ∃ D, (DL ++ E)[DL.length + j]? = some D ∧ D.2 ≠ none ∧ pact (gi w1 89) nt1 (na + j) D) →
    (∃ f p m' w', fX1_readFunction_22 N f1 2 (zN x) (zN s) m1 = some (zN 0, m') ∧ cX f p m' ∧ cO d m1 m' ∧ fX9_function_22 N f2 85 (zN u) (zN a) (zN s) (zN na) w1 = some w' ∧ rX f p w' ∧ rO w1 w')
    ∨ (∃ m' w2 i' E' nt2 s' fT l, fX1_readFunction_22 N f1 2 (zN x) (zN s) m1 = some (zN 1, m') ∧ fX9_function_22 N f2 85 (zN u) (zN a) (zN s) (zN na) w1 = some (radm w2 u (qbs (qcnt Q) (qn Q)) (qcnt Q u) (zN 4) (zN a) (zN fT) (zN s') (zN na)) ∧ cS N b n d i' m' ∧ rS N b n i' w2 ∧ jD N b n d i' (DL ++ E') nt2 (na + s') m' w2 ∧ s' ≤ 4 ∧ E'.length = s' + 1 ∧ (DL ++ E')[DL.length + s']? = some (l, none) ∧ pFn d x DL mB m' ∧ rD nt na w w2 ∧ nt ≤ nt2 ∧ 3 * (DL.length + (s' + 1)) ≤ tzp b n i' ∧ 4 * (na + s') ≤ tzp b n i' ∧ gi m' (d + 7) x = zN DL.length ∧ gi m' (d + 6) x = zN s' ∧ (∀ j, j < s' → ∃ D, (DL ++ E')[DL.length + j]? = some D ∧ D.2 ≠ none ∧ pact (gi w2 89) nt2 (na + j) D) ∧ pSm (gi w2 89) (pTm (gi w2 89) nt2 9) fT l ∧ tzp b n i < tzp b n i') := by
  have hn := hh.2.2.2.2.2.1.1
  have hx84 : x < 84 := by omega
  intro g
  induction g with
  | zero =>
    intro s f1 f2 i nt1 E m1 w1 hg hs4 hf1 hf2 h1 h2 h3 hE hcD hrD hnt b1 b2 hd0 hd1 hac
    have hii := cS_i h1
    have hd := h1.1.1
    have hb := h1.2.2.2.1
    obtain ⟨f1, rfl⟩ : ∃ f, f1 = f + 1 := ⟨f1 - 1, by omega⟩
    obtain ⟨f2, rfl⟩ : ∃ f, f2 = f + 1 := ⟨f2 - 1, by omega⟩
    by_cases hk : tzk b n (tzp b n i) = 257
    · obtain ⟨wa, a1, a2, a3⟩ := rf_ye h2 hk f2 s hs4 (zN u) (zN a) (zN na)
      obtain ⟨m2, c1, c2, c3⟩ := c_ref (f := 3) h1 (by omega) (by omega)
      obtain ⟨wb, d1, d2, d3⟩ := r_wrong (N := N) (f := 3) (p := tzp b n i) a2.2.1 (by omega) (by omega)
      refine Or.inl ⟨3, tzp b n i, m2, wb, ?_, c2, cF_O c3, ?_, d2, rE_O (rE_tr (rF_E a3) d3)⟩
      · rw [fX1_readFunction_22, zv, cs_k h1, hk]
        simp (disch := omega) only [zN_lit, if_true, zN_lt]
        rw [if_neg (show ¬ s < 4 by omega), c1, zca, znbN0]
      · rw [a1, if_pos (by omega), d1, zca]
    · exact m_ft hh hu hc hx s f1 f2 i nt1 E m1 w1 hs4 h1 h2 h3 hE hcD hrD hnt b1 b2 hd0 hd1 hac hk
  | succ g ih =>
    intro s f1 f2 i nt1 E m1 w1 hg hs4 hf1 hf2 h1 h2 h3 hE hcD hrD hnt b1 b2 hd0 hd1 hac
    have hii := cS_i h1
    have hd := h1.1.1
    have hb := h1.2.2.2.1
    obtain ⟨f1, rfl⟩ : ∃ f, f1 = f + 1 := ⟨f1 - 1, by omega⟩
    obtain ⟨f2, rfl⟩ : ∃ f, f2 = f + 1 := ⟨f2 - 1, by omega⟩
    by_cases hk : tzk b n (tzp b n i) = 257
    · obtain ⟨wa, a1, a2, a3⟩ := rf_ye h2 hk f2 s hs4 (zN u) (zN a) (zN na)
      have hDL : (DL ++ E).length = DL.length + s := by rw [List.length_append, hE]
      have hJa : jD N b n d i (DL ++ E) nt1 (na + s) m1 wa := jD_mo (m' := m1) (w' := wa) h3 (Nat.le_refl _) (fun _ _ _ => rfl) (fun j => a3.1 _ _ (by omega)) a3.2.1
      have hpl : plen DL ≤ plen (DL ++ E) := by rw [plen_ap]; omega
      have ec : fX1_readFunction_22 N (f1 + 1) 2 (zN x) (zN s) m1 = (xca (fX1_readDeed N 2 (zN x) (zN 1) m1) fun v14 m13 => if (v14 : Int32) = zN 0 then (some (zN 0, m13)) else (fX1_readFunction_22 N f1 2 (zN x) (zN (s + 1)) m13)) := by
        rw [fX1_readFunction_22, zv, cs_k h1, hk]
        simp (disch := omega) only [zN_lit, if_true, zN_lt]
        rw [if_pos (show s < 4 by omega)]
        simp only [zv, zN_add]
      rw [ec, a1, if_neg (show ¬ s = 4 by omega)]
      rcases d_set (x := x) (a1 := zN x) h1 hJa a2 hk (Or.inr ⟨rfl, hx84⟩) (by omega) (by omega) with ⟨f, p, m2, v, we, k1, k2, k3, k4, k5, k6⟩ | ⟨m2, we, i', k, l, q, k1, k2, k3, k4, k5, k6, k7, k8, k9, k10⟩
      · refine Or.inl ⟨f, p, m2, ?_⟩
        have hX := zXF
        obtain ⟨f2, rfl⟩ : ∃ f, f2 = f + 1 := ⟨f2 - 1, by omega⟩
        obtain ⟨v', wf, u1, u2, u3⟩ := r_sum_d (N := N) k5
        refine ⟨wf, by rw [k1, zca, if_pos rfl], k2, k3, ?_, u2, rO_tr (rE_O (rF_E a3)) (rO_tr k6 (rE_O u3))⟩
        rw [k4, zca, fX9_function_22, zv, r_dead k5, zca]
        simp only [zN_lit, if_true]
        unfold fX9_function_74 fX9_function_100
        simp only [r_dead k5, zca, zN_lit, if_true, u1, r_mu_d u2, zcv, r_dead u2]
      · rw [k1, zca, if_neg (by rw [zN10]; exact id), k2, zca]
        have hi' := cS_i k3
        have hnt1 : nt1 ≤ 400 := by have := h3.2.1.2.2.2.1; omega
        have ekk : na + s + 1 = na + (s + 1) := by omega
        rw [ekk, List.append_assoc] at k4
        have hA : 0 < s + 1 → gi m2 (d + 7) x = zN DL.length := fun _ => by
          by_cases e : s = 0
          · have := k6.1 rfl hx84 (hd0 e)
            rw [this, hDL, e]; rfl
          · rw [k6.2 (by rw [hd1 (by omega), zN_m (by omega)]; exact id)]; exact hd1 (by omega)
        have hB : ∀ j, j < s + 1 → ∃ D, (DL ++ (E ++ [(l, some q)]))[DL.length + j]? = some D ∧ D.2 ≠ none ∧ pact (gi we 89) (nt1 + k) (na + j) D := fun j hj => by
          by_cases e : j = s
          · refine ⟨(l, some q), ?_, fun r => by simp at r, by rw [e]; exact k10⟩
            rw [← List.append_assoc, show DL.length + j = (DL ++ E).length by rw [hDL, e]]
            exact p_gal
          · obtain ⟨D, q1, q2, q3⟩ := hac j (by omega)
            refine ⟨D, by rw [← List.append_assoc]; exact p_gap q1, q2, pact_fr (K := gi w1 89) (by omega) (fun o ho => ?_) (fun kk r1 r2 => ?_) q3⟩
            · rw [k9.1 _ _ (by omega) (by omega), a3.1 _ _ (by omega)]
            · rw [k9.1 _ _ (by omega) (by omega), a3.1 _ _ (by omega)]
        rcases ih (s + 1) f1 f2 i' (nt1 + k) (E ++ [(l, some q)]) m2 we (by omega) (by omega) (by omega) (by omega) k3 k8 k4 (by rw [List.length_append, hE]; rfl) (cD_tr hcD k5 hpl (by omega)) (rD_tr hrD (rD_tr (rE_D (nt := nt1) (na := na + s) (rF_E a3)) k9 (Nat.le_refl _) (Nat.le_refl _)) hnt (by omega)) (by omega) (by omega) (by omega) (fun r => by omega) hA hB with ⟨f, p, m3, w3, r1, r2, r3, r4, r5, r6⟩ | ⟨m3, w3, i3, E', nt3, s', fT, l3, r1, r2, r3, r4, r5, r6, r7, r8, r9, r10, r11, r12, r13, r14, r15, r16, r17, r18⟩
        · exact Or.inl ⟨f, p, m3, w3, r1, r2, cO_tr (cD_O k5) r3, r4, r5, rO_tr (rE_O (rF_E a3)) (rO_tr (rD_O k9) r6)⟩
        · exact Or.inr ⟨m3, w3, i3, E', nt3, s', fT, l3, r1, r2, r3, r4, r5, r6, r7, r8, r9, r10, r11, r12, r13, r14, r15, r16, r17, by omega⟩
    · exact m_ft hh hu hc hx s f1 f2 i nt1 E m1 w1 hs4 h1 h2 h3 hE hcD hrD hnt b1 b2 hd0 hd1 hac hk
end TX
