/-! ===== t: all that is told so far, of both ===== -/
def jQ (N : Nat → Nat) (b : Nat → Nat) (n d i : Nat) (Q : pQ) (DL : List pD) (nt na : Nat) (m w : XM) : Prop := cS N b n d i m ∧ rS N b n i w ∧ jD N b n d i DL nt na m w ∧ cQ m d Q ∧ rQ w Q DL nt na ∧ qW Q ∧ 3 * DL.length ≤ tzp b n i ∧ 4 * na ≤ tzp b n i
def jFv (d : Nat) (m w : XM) (cr : Option (Int32 × XM)) (rr : Option XM) : Prop := ∃ f p m' w', cr = some (zN 0, m') ∧ cX f p m' ∧ cO d m m' ∧ rr = some w' ∧ rX f p w' ∧ rO w w'
section TU
variable {N : Nat → Nat} {b : Nat → Nat} {n d i i' : Nat} {Q : pQ} {DL E : List pD} {nt na nt' na' : Nat} {m m' w w' w1 : XM} {K : Nat → Int32}
theorem jQ_bd (h : jQ N b n d i Q DL nt na m w) : nt ≤ 300 ∧ na ≤ 150 ∧ DL.length ≤ 200 ∧ tzp b n i ≤ 600 := by
  have h1 := cS_i h.1
  have h2 := h.2.2.1.2.1.2.2.2.1
  have h3 := h.2.2.2.2.2.2
  omega
theorem jQ_fin {u k : Nat} {a v e : Option Nat} {A B C av : Int32} (h : jQ N b n d i Q DL nt na m w) (hu : u + 1 = qn Q) (hc : qcnt Q u < 12) (hk : k ≤ 4) (ha : ∀ c, a = some c → c < 26 ∧ (k = 0 ∨ k = 1 ∨ k = 4) ∧ qnm Q u c = none) (hs : k = 0 ∨ k = 1 ∨ k = 4 → a.isSome)
    (c1 : cS N b n d i' m') (r1 : rS N b n i' w1) (j1 : jD N b n d i' (DL ++ E) nt' na' m' w1)
    (H : ∀ z j, (z = d ∧ (j = 0 ∨ j = 11)) ∨ z = d + 1 ∨ z = d + 2 ∨ z = d + 11 ∨ z = 21 ∨ (z = d + 3 ∧ j ≠ u) ∨ (d + 4 ≤ z ∧ z ≤ d + 9 ∧ j ≠ 12 * u + qcnt Q u) ∨ (z = d + 10 ∧ ∀ c, a = some c → j ≠ 26 * u + c) → gi m' z j = gi m z j)
    (x3 : gi m' (d + 3) u = zN (qcnt Q u + 1)) (x4 : gi m' (d + 4) (12 * u + qcnt Q u) = zN k) (x5 : gi m' (d + 5) (12 * u + qcnt Q u) = zopt a) (x6 : gi m' (d + 6) (12 * u + qcnt Q u) = zopt v) (x7 : gi m' (d + 7) (12 * u + qcnt Q u) = zopt e) (x8 : gi m' (d + 8) (12 * u + qcnt Q u) = zN 1) (x9 : gi m' (d + 9) (12 * u + qcnt Q u) = zN (12 * u + qcnt Q u)) (x10 : ∀ c, a = some c → gi m' (d + 10) (26 * u + c) = zN (12 * u + qcnt Q u))
    (g : rD nt na w w1) (hn1 : nt ≤ nt') (hn2 : na ≤ na') (b1 : 3 * (DL ++ E).length ≤ tzp b n i') (b2 : 4 * na' ≤ tzp b n i') (hM : pMem (gi (radm w1 u (qbs (qcnt Q) (qn Q)) (qcnt Q u) (zN k) av A B C) 89) nt' na' (qadd Q u k a v e) (DL ++ E) (12 * u + qcnt Q u) (110 + 5 * qbs (qcnt Q) (qn Q))) : jQ N b n d i' (qadd Q u k a v e) (DL ++ E) nt' na' m' (radm w1 u (qbs (qcnt Q) (qn Q)) (qcnt Q u) (zN k) av A B C) := by
  have hbd := jQ_bd h
  have hi' := cS_i c1
  have hnt' := j1.2.1.2.2.2.1
  obtain ⟨h1, h2, h3, h4, h5, h6, h7, h8⟩ := h
  have hn := h6.1
  have hd := h1.1.1
  have hbl := qbs_le h6 (qn Q) (Nat.le_refl _)
  exact ⟨c1, radm_S hc r1, jD_w j1 (fun j q => radm_n hc (by
    have hb2 : qbs (qcnt Q) (qn Q) = qbs (qcnt Q) u + qcnt Q u := by rw [← hu]; rfl
    have := qbs_le h6 u (by omega)
    omega)) (fun _ _ => rfl) (by omega) (by omega), cQ_add h4 hu hn hc hd (fun c q => (ha c q).1) H x3 x4 x5 x6 x7 x8 x9 x10, rQ_add h6 (rQ_mo h6 (by omega) (by omega) g hn1 hn2 h5) hu hc (by omega) (by omega) hM, qW_add h6 hu hc hk ha hs, b1, b2⟩
/-- the row of the next member of the other reader -/
theorem r_fm (h : jQ N b n d i Q DL nt na m w) (g : rD nt na w w1) {u : Nat} (hu : u + 1 = qn Q) (hc : qcnt Q u < 12) (k a A B C : Int32) : fX9_addsMember N 85 (zN u) k a A B C w1 = some (radm w1 u (qbs (qcnt Q) (qn Q)) (qcnt Q u) k a A B C) := by
  have hbd := jQ_bd h
  obtain ⟨h1, h2, h3, h4, h5, h6, h7, h8⟩ := h
  have hn := h6.1
  have hb2 : qbs (qcnt Q) (qn Q) = qbs (qcnt Q) u + qcnt Q u := by rw [← hu]; rfl
  have := qbs_le h6 u (by omega)
  exact r_adm (rN_g h3.2.1.1 g.2.1) (by omega) (by omega) hc (by rw [g.1 _ _ (by omega) (by omega)]; exact h5.2.1) (by rw [g.1 _ _ (by omega) (by omega)]; exact (h5.2.2.2.1 u (by omega)).2.2.1) k a A B C
theorem pM_0 {hi x p a v : Nat} (q1 : qknd Q x = 0) (q2 : qnam Q x = some a) (q3 : qnum Q x = some v) (q4 : qded Q x = none) (hv : v ≤ 999) (k0 : K p = zN 0) (k1 : K (p + 1) = zN a) (k2 : K (p + 2) = zN v) : pMem K hi na Q DL x p := by
  unfold pMem
  rw [q1, q2, q3, q4]
  exact ⟨k0, fun _ => k1, fun _ => ⟨v, rfl, k2, rfl, hv⟩, fun r => by omega, fun r => by omega, fun r => by omega⟩
theorem pM_1 {hi x p a : Nat} (q1 : qknd Q x = 1) (q2 : qnam Q x = some a) (q3 : qnum Q x = none) (k0 : K p = zN 1) (k1 : K (p + 1) = zN a) (h : (qded Q x = none → K (p + 2) = zM) ∧ ∀ k, qded Q x = some k → ∃ D f, DL[k]? = some D ∧ D.2 = none ∧ K (p + 2) = zN f ∧ pSm K (pTm K hi 9) f D.1) : pMem K hi na Q DL x p := by
  unfold pMem
  rw [q1, q2, q3]
  exact ⟨k0, fun _ => k1, fun r => by omega, fun _ => ⟨rfl, h⟩, fun r => by omega, fun r => by omega⟩
theorem pM_23 {hi x p c : Nat} (hc : c = 2 ∨ c = 3) (q1 : qknd Q x = c) (q2 : qnam Q x = none) (q3 : qnum Q x = none) (k0 : K p = zN c) (k1 : c ≠ 3 → K (p + 1) = zM) {k a : Nat} {D : pD} (h : qded Q x = some k) (hD : DL[k]? = some D) (k2 : K (p + 2) = zN a) (ha : a < na) (hp : pact K hi a D) (h2 : c = 2 → D.2 = none) (h3 : c = 3 → D.2 ≠ none) : pMem K hi na Q DL x p := by
  unfold pMem
  rw [q1, q2, q3]
  exact ⟨k0, k1, fun r => by omega, fun r => by omega, fun _ => ⟨rfl, k, D, a, h, hD, k2, ha, hp, h2, h3⟩, fun r => by omega⟩
theorem pM_4 {hi x p a : Nat} (q1 : qknd Q x = 4) (q2 : qnam Q x = some a) (k0 : K p = zN 4) (k1 : K (p + 1) = zN a) (h : ∃ k s f a D, qded Q x = some k ∧ qnum Q x = some s ∧ s ≤ 4 ∧ DL[k + s]? = some D ∧ D.2 = none ∧ K (p + 2) = zN f ∧ pSm K (pTm K hi 9) f D.1 ∧ K (p + 3) = zN s ∧ K (p + 4) = zN a ∧ a + s ≤ na ∧ ∀ j, j < s → ∃ E, DL[k + j]? = some E ∧ E.2 ≠ none ∧ pact K hi (a + j) E) : pMem K hi na Q DL x p := by
  unfold pMem
  rw [q1, q2]
  exact ⟨k0, fun _ => k1, fun r => by omega, fun r => by omega, fun r => by omega, fun _ => h⟩
/-- is it a member? of the other reader -/
theorem r_mpre (h : jQ N b n d i Q DL nt na m w) {u : Nat} (hu : u + 1 = qn Q) : ∃ w', fX9_members N 85 (zN u) w = fX9_members_62 N 85 (zN u) (zN (qcnt Q u)) (if tzk b n (tzp b n i) = 262 ∨ tzk b n (tzp b n i) = 263 ∨ tzk b n (tzp b n i) = 264 ∨ tzk b n (tzp b n i) = 265 ∨ tzk b n (tzp b n i) = 257 then zN 1 else zN 0) w' ∧ rS N b n i w' ∧ gi w' 85 4 = zN (tzp b n i) ∧ rF w w' := by
  obtain ⟨h1, h2, h3, h4, h5, h6, h7, h8⟩ := h
  have hn := h6.1
  obtain ⟨n1, n2⟩ := h3.2.1.1
  have e2 := (h5.2.2.2.1 u (by omega)).2.2.1
  obtain ⟨wa, a1, a2, a3, a4⟩ := r_word (t := 10) (j := 2) h2 (by omega) rfl
  obtain ⟨wb, b1, b2, b3, b4⟩ := r_word (t := 11) (j := 3) a2 (by omega) rfl
  obtain ⟨wc, c1, c2, c3, c4⟩ := r_word (t := 12) (j := 4) b2 (by omega) rfl
  obtain ⟨wd, d1, d2, d3, d4⟩ := r_word (t := 13) (j := 5) c2 (by omega) rfl
  obtain ⟨we, e1', e2', e3', e4'⟩ := r_unit d2
  unfold fX9_members fX9_members_57
  simp (disch := omega) only [zgr n2, zv, zN_lit, zN_mul, zN_add, zald, e2, a1, zca]
  by_cases q2 : tzk b n (tzp b n i) = 262
  · rw [if_pos (show tzk b n (tzp b n i) = 260 + 2 from q2), if_pos (Or.inl q2)]
    exact ⟨wa, by simp only [zN10, if_false], a2, a3, a4⟩
  rw [if_neg (show ¬ tzk b n (tzp b n i) = 260 + 2 from q2)]
  simp only [if_true, b1, zca]
  by_cases q3 : tzk b n (tzp b n i) = 263
  · rw [if_pos (show tzk b n (tzp b n i) = 260 + 3 from q3), if_pos (Or.inr (Or.inl q3))]
    exact ⟨wb, by simp only [zN10, if_false], b2, b3, rF_tr a4 b4⟩
  rw [if_neg (show ¬ tzk b n (tzp b n i) = 260 + 3 from q3)]
  simp only [if_true, c1, zca]
  by_cases q4 : tzk b n (tzp b n i) = 264
  · rw [if_pos (show tzk b n (tzp b n i) = 260 + 4 from q4), if_pos (Or.inr (Or.inr (Or.inl q4)))]
    exact ⟨wc, by simp only [zN10, if_false], c2, c3, rF_tr a4 (rF_tr b4 c4)⟩
  rw [if_neg (show ¬ tzk b n (tzp b n i) = 260 + 4 from q4)]
  simp only [if_true, d1, zca]
  by_cases q5 : tzk b n (tzp b n i) = 265
  · rw [if_pos (show tzk b n (tzp b n i) = 260 + 5 from q5), if_pos (Or.inr (Or.inr (Or.inr (Or.inl q5))))]
    exact ⟨wd, by simp only [zN10, if_false], d2, d3, rF_tr a4 (rF_tr b4 (rF_tr c4 d4))⟩
  rw [if_neg (show ¬ tzk b n (tzp b n i) = 260 + 5 from q5)]
  simp only [if_true, e1', zca]
  by_cases q6 : tzk b n (tzp b n i) = 257
  · rw [if_pos q6, if_pos (Or.inr (Or.inr (Or.inr (Or.inr q6))))]
    exact ⟨we, by simp only [zN10, if_false], e2', e3', rF_tr a4 (rF_tr b4 (rF_tr c4 (rF_tr d4 e4')))⟩
  · rw [if_neg q6, if_neg (show ¬ (tzk b n (tzp b n i) = 262 ∨ tzk b n (tzp b n i) = 263 ∨ tzk b n (tzp b n i) = 264 ∨ tzk b n (tzp b n i) = 265 ∨ tzk b n (tzp b n i) = 257) by omega)]
    exact ⟨we, by simp only [if_true], e2', e3', rF_tr a4 (rF_tr b4 (rF_tr c4 (rF_tr d4 e4')))⟩
theorem jQ_F (h : jQ N b n d i Q DL nt na m w) (g : rF w w') (hS : rS N b n i w') : jQ N b n d i Q DL nt na m w' := by
  obtain ⟨h1, h2, h3, h4, h5, h6, h7, h8⟩ := h
  have e : gi w' 89 = gi w 89 := funext fun k => g.1 _ _ (by omega)
  refine ⟨h1, hS, jD_mo (m' := m) (w' := w') h3 (Nat.le_refl _) (fun _ _ _ => rfl) (fun k => g.1 _ _ (by omega)) g.2.1, h4, ?_, h6, h7, h8⟩
  unfold rQ at h5 ⊢
  rw [e]; exact h5
theorem m_const {u : Nat} (h : jQ N b n d i Q DL nt na m w) (hu : u + 1 = qn Q) (hc : qcnt Q u < 12) (hk : tzk b n (tzp b n i) = 262) :
    jFv d m w (fX1_readMember N 2 (zN u) (zN (12 * u + qcnt Q u)) m) (fX9_members_62 N 85 (zN u) (zN (qcnt Q u)) (zN 1) w)
    ∨ ∃ m' w' i' Q' DL' nt' na', fX1_readMember N 2 (zN u) (zN (12 * u + qcnt Q u)) m = some (zN 1, m') ∧ fX9_members_62 N 85 (zN u) (zN (qcnt Q u)) (zN 1) w = some w' ∧ jQ N b n d i' Q' DL' nt' na' m' w' ∧ qn Q' = qn Q ∧ qcnt Q' u = qcnt Q u + 1 ∧ i < i' ∧ qstp Q' = qstp Q ∧ cO d m m' ∧ rO w w' := by
  have hbd := jQ_bd h
  have hh := h
  obtain ⟨h1, h2, h3, h4, h5, h6, h7, h8⟩ := h
  have hn := h6.1
  have hd := h1.1.1
  have hb := h1.2.2.2.1
  have hp := tz_nE hk (by omega)
  have ip := tzp_s hp
  have g0 := h1.1.2.2.2.2.1
  obtain ⟨-, ⟨-, -, -, -, -, n6, -⟩, -, ⟨-, -, -, -, -, g6, -⟩, -⟩ := id h1.1
  generalize hx : 12 * u + qcnt Q u = x at *
  have hx84 : x < 84 := by omega
  have eA := c_adm h1.1 (x := x) (k := 0) (u := u) (c := qcnt Q u) hx84 (by omega) (by omega) (h4.2.2.2.1 u (by omega))
  generalize hmA : cadm m d x 0 u (qcnt Q u) = mA at *
  have hSA : cS N b n d i mA := by rw [← hmA]; exact cadm_S h1
  have hnA : ∀ z j, ¬ (z = d + 3 ∧ j = u) → ¬ (d + 4 ≤ z ∧ z ≤ d + 9 ∧ j = x) → gi mA z j = gi m z j := fun z j q1 q2 => by rw [← hmA]; exact cadm_n q1 q2
  have hgA : ∀ z j, gr mA z j = gr m z j := fun z j => by rw [← hmA]; rfl
  have hlA : ∀ z j, gl mA z j = gl m z j := fun z j => by rw [← hmA]; rfl
  have hoA : gi mA (d + 4) x = zN 0 ∧ gi mA (d + 5) x = zM ∧ gi mA (d + 6) x = zM ∧ gi mA (d + 7) x = zM ∧ gi mA (d + 8) x = zN 1 ∧ gi mA (d + 9) x = zN x ∧ gi mA (d + 3) u = zN (qcnt Q u + 1) := by rw [← hmA]; exact cadm_o
  have hOA : cO d m mA := ⟨fun z j q1 q2 q3 => hnA z j (by omega) (by omega), hgA, hlA⟩
  have ec : fX1_readMember N 2 (zN u) (zN x) m = xca (fX1_readConstant N 2 (zN u) (zN x) mA) fun v8 m7 => xnb v8 (some (v8, m7)) := by
    unfold fX1_readMember
    rw [cs_k h1, hk]
    simp only [zN_lit, if_true, zgr g0]
    rw [eA, zcv]
  obtain ⟨wa, a1, a2, a3⟩ := r_tw_y (t := 10) (j := 2) h2 (by omega) rfl hk
  have er : fX9_members_62 N 85 (zN u) (zN (qcnt Q u)) (zN 1) w = (xca (fX9_freshName N 85 (zN u) wa) fun v30 m29 => xcv (fX9_must N 85 (zN 61) m29) fun m31 => xca (fX9_numberHere N 85 m31) fun v33 m32 => xcv (fX9_must N 85 (zN 59) m32) fun m34 => xca (fX9_fine N 85 m34) fun v36 m35 => if (v36 : Int32) = zN 0 then some m35 else (xcv (fX9_addsMember N 85 (zN u) (zN 0) v30 v33 (zN 0) (zN 0) m35) fun m37 => some m37)) := by
    have hc12 : ¬ qcnt Q u = 12 := by omega
    unfold fX9_members_62 fX9_members_148
    simp (disch := omega) only [zN_lit, if_false, zN_eq, hc12, a1, zca, Nat.one_ne_zero]
  have hQa : rQ wa Q DL nt na := by
    have e : gi wa 89 = gi w 89 := funext fun k => a3.1 _ _ (by omega)
    unfold rQ at h5 ⊢
    rw [e]; exact h5
  rw [ec, er]
  unfold fX1_readConstant
  rcases j_name (u := u) (x := x) hSA hp a2 (rN_g h3.2.1.1 a3.2.1) hQa h6 (by omega) hx84 (fun a ha => by rw [hnA _ _ (by omega) (by omega)]; exact h4.2.2.2.2.2.1 u a (by omega) ha) with ⟨f, p, m1, v, wb, b1, b2, b3, b4, b5, b6⟩ | ⟨a, m1, wb, b1, b2, b3, b4, b5, b6, b7, b8, b9, b10, b11, b12⟩
  · refine Or.inl ⟨f, p, m1, wb, ?_, b2, cO_tr hOA b3, ?_, b5, rO_tr (rE_O (rF_E a3)) b6⟩
    · rw [b1]; simp only [zca, zN_lit, if_true, znbN0]
    · rw [b4]; simp only [zca, r_mu_d b5, zcv, r_nu_d b5, r_dead b5, if_true]
  · have ip1 : tzp b n (i + 1) + 1 ≤ tzp b n (i + 2) := (tzp_s (b4.2.2.2.2.2.1 (i + 1) (by omega))).1
    rw [b3, b10]
    simp only [zca, zN_lit, zN10, if_false]
    have hO1 : cO d m m1 := cO_tr hOA ⟨fun z j q1 q2 q3 => b7 z j (by omega) (by omega) (by omega), b8, b9⟩
    have hFb : rF w wb := rF_tr a3 b12
    by_cases q1 : tzk b n (tzp b n (i + 2)) = 61
    · have q2 := tz_nE q1 (by omega)
      have ip2 := tzp_s q2
      have hS2 := cS_s b4 q2
      obtain ⟨wc, c1, c2, c3⟩ := r_mu_y (c := 61) b11 (by omega) q1
      rw [c_mu_y b4 q1, zca, if_neg (by rw [zN10]; exact id), cs_k hS2, c1]
      simp only [zcv]
      by_cases q3 : tzk b n (tzp b n (i + 2 + 1)) = 259
      · have q4 := tz_nE q3 (by omega)
        have ip3 := tzp_s q4
        have hq1000 : tzq b n (tzp b n (i + 2 + 1)) ≤ 1000 := by rw [(tz_dg hb q3).2.2.1]; exact tzd_le _ _ _ (by omega)
        rw [q3, if_pos rfl, cs_n hS2 (by omega)]
        simp (disch := omega) only [zN_le]
        by_cases q5 : tzq b n (tzp b n (i + 2 + 1)) ≤ 999
        · obtain ⟨wd, d1, d2, d3⟩ := r_nu_y c2 q3 q5
          rw [if_pos q5, d1]
          have g0' : gr (si m1 2 10 (zN (i + 2 + 1))) 2 0 = some d := by rw [gr_si, b8, hgA]; exact g0
          have g6' : gr (si m1 2 10 (zN (i + 2 + 1))) d 6 = some (d + 6) := by rw [gr_si, b8, hgA]; exact g6
          rw [zgr g0', zgr g6', cs_n hS2 (by omega), zast (by omega) (by omega)]
          generalize hv : tzq b n (tzp b n (i + 2 + 1)) = v at *
          have hS3 : cS N b n d (i + 2 + 1 + 1) (si (si (si m1 2 10 (zN (i + 2 + 1))) (d + 6) x (zN v)) 2 10 (zN (i + 2 + 1 + 1))) := cS_g (m' := si (si (si m1 2 10 (zN (i + 2 + 1))) (d + 6) x (zN v)) 2 10 (zN (i + 2 + 1 + 1))) hS2 (fun _ _ => rfl) (fun z j q => by rw [gi_ne (by omega), gi_ne (by omega)]) (gi_si _ _ _ _) (tzo_s hS2.2.2.2.2.2.1 q4)
          have e10 : gi (si (si m1 2 10 (zN (i + 2 + 1))) (d + 6) x (zN v)) 2 10 = zN (i + 2 + 1) := by rw [gi_ne (by omega), gi_si]
          simp only [zv, e10, zN_add, zca]
          by_cases q6 : tzk b n (tzp b n (i + 2 + 1 + 1)) = 59
          · have q7 := tz_nE q6 (by omega)
            have ip4 := tzp_s q7
            have hS4 := cS_s hS3 q7
            obtain ⟨we, e1, e2, e3⟩ := r_mu_y (c := 59) d2 (by omega) q6
            have hFe : rF w we := rF_tr hFb (rF_tr c3 (rF_tr d3 e3))
            have hfr : ∀ z j, ¬ (z = 2 ∧ j = 10) → ¬ (z = d + 3 ∧ j = u) → ¬ (d + 4 ≤ z ∧ z ≤ d + 9 ∧ j = x) → ¬ (z = d + 10 ∧ j = 26 * u + a) → gi (si (si (si (si m1 2 10 (zN (i + 2 + 1))) (d + 6) x (zN v)) 2 10 (zN (i + 2 + 1 + 1))) 2 10 (zN (i + 2 + 1 + 1 + 1))) z j = gi m z j := fun z j r1 r2 r3 r4 => by rw [gi_ne (by omega), gi_ne (by omega), gi_ne (by omega), gi_ne (by omega), b7 z j (by omega) (by omega) (by omega), hnA z j r2 r3]
            have hfx : ∀ z, z ≠ 2 → z ≠ d + 6 → z ≠ d + 5 → z ≠ d + 10 → ∀ j, gi (si (si (si (si m1 2 10 (zN (i + 2 + 1))) (d + 6) x (zN v)) 2 10 (zN (i + 2 + 1 + 1))) 2 10 (zN (i + 2 + 1 + 1 + 1))) z j = gi mA z j := fun z r1 r2 r3 r4 j => by rw [gi_ne (by omega), gi_ne (by omega), gi_ne (by omega), gi_ne (by omega), b7 z j (by omega) (by omega) (by omega)]
            obtain ⟨o1, o2, o3, o4, o5, o6, o7, o8⟩ := radm_o (w := we) (u := u) (M := qbs (qcnt Q) (qn Q)) (c := qcnt Q u) (k := zN 0) (a := zN a) (A := zN v) (B := zN 0) (C := zN 0) (by omega) hc
            refine Or.inr ⟨_, radm we u (qbs (qcnt Q) (qn Q)) (qcnt Q u) (zN 0) (zN a) (zN v) (zN 0) (zN 0), i + 2 + 1 + 1 + 1, qadd Q u 0 (some a) (some v) none, DL ++ [], nt, na, by rw [c_mu_y hS3 q6, zca, znbN1, zca, znbN1], ?_, jQ_fin (m' := si (si (si (si m1 2 10 (zN (i + 2 + 1))) (d + 6) x (zN v)) 2 10 (zN (i + 2 + 1 + 1))) 2 10 (zN (i + 2 + 1 + 1 + 1))) (E := []) hh hu hc (by omega) (fun c hc' => ?_) (fun _ => rfl) hS4 e2 ?_ (fun z j q => ?_) ?_ ?_ ?_ ?_ ?_ ?_ ?_ (fun c hc' => ?_) (rE_D (rF_E hFe)) (Nat.le_refl _) (Nat.le_refl _) (by rw [List.append_nil]; omega) (by omega) ?_, rfl, zset_eq _ _ _, by omega, rfl, ⟨fun z j r1 r2 r3 => hfr z j (by omega) (by omega) (by omega) (by omega), fun z j => by rw [gr_si, gr_si, gr_si, gr_si, b8, hgA], fun z j => by rw [gl_si, gl_si, gl_si, gl_si, b9, hlA]⟩, rO_tr (rE_O (rF_E hFe)) ⟨fun z j _ r2 => radm_n hc (by omega), fun _ _ => rfl, fun _ _ => rfl⟩⟩
            · rw [e1]; simp only [zcv]; rw [r_fine e2, zca, if_neg (by rw [zN10]; exact id), r_fm hh (rE_D (rF_E hFe)) hu hc, zcv]
            · have e' : a = c := by simpa using hc'
              rw [← e']; exact ⟨b1, Or.inl rfl, b2⟩
            · rw [List.append_nil]
              exact jD_mo (m' := si (si (si (si m1 2 10 (zN (i + 2 + 1))) (d + 6) x (zN v)) 2 10 (zN (i + 2 + 1 + 1))) 2 10 (zN (i + 2 + 1 + 1 + 1))) (w' := we) h3 (by omega) (fun z j r => hfr z j (by omega) (by omega) (by omega) (by omega)) (fun j => hFe.1 _ _ (by omega)) hFe.2.1
            · rw [hx] at q
              exact hfr z j (by omega) (by omega) (by omega) (fun r => by
                rcases q with q | q | q | q | q | q | q | q
                all_goals try omega
                exact q.2 a rfl r.2)
            · rw [hfx _ (by omega) (by omega) (by omega) (by omega)]; exact hoA.2.2.2.2.2.2
            · rw [hx, hfx _ (by omega) (by omega) (by omega) (by omega)]; exact hoA.1
            · rw [hx, gi_ne (by omega), gi_ne (by omega), gi_ne (by omega), gi_ne (by omega)]; exact b5
            · rw [hx, gi_ne (by omega), gi_ne (by omega), gi_si]; rfl
            · rw [hx, hfx _ (by omega) (by omega) (by omega) (by omega)]; exact hoA.2.2.2.1
            · rw [hx, hfx _ (by omega) (by omega) (by omega) (by omega)]; exact hoA.2.2.2.2.1
            · rw [hx, hfx _ (by omega) (by omega) (by omega) (by omega)]; exact hoA.2.2.2.2.2.1
            · have e' : a = c := by simpa using hc'
              rw [← e', hx, gi_ne (by omega), gi_ne (by omega), gi_ne (by omega), gi_ne (by omega)]; exact b6
            · exact pM_0 (a := a) (v := v) (zset_eq _ _ _) (zset_eq _ _ _) (zset_eq _ _ _) (zset_eq _ _ _) q5 o1 o2 o3
          · obtain ⟨m5, f1, f2, f3⟩ := c_mu_n hS3 (c := 59) (by omega) q6
            obtain ⟨we, e1, e2, e3⟩ := r_mu_n (c := 59) d2 (by omega) q6
            refine Or.inl ⟨1, tzp b n (i + 2 + 1 + 1), m5, we, ?_, f2, cO_tr (cO_tr (m2 := si (si (si m1 2 10 (zN (i + 2 + 1))) (d + 6) x (zN v)) 2 10 (zN (i + 2 + 1 + 1))) hO1 ⟨fun z j r1 r2 r3 => by rw [gi_ne (by omega), gi_ne (by omega), gi_ne (by omega)], fun _ _ => rfl, fun _ _ => rfl⟩) (cF_O f3), ?_, e2, rE_O (rE_tr (rF_E (rF_tr hFb (rF_tr c3 d3))) e3)⟩
            · rw [f1, zca, znbN0, zca, znbN0]
            · rw [e1]; simp only [zcv]; rw [r_dead e2, zca, if_pos rfl]
        · obtain ⟨wd, d1, d2, d3⟩ := r_nu_2 c2 q3 q5
          obtain ⟨m5, f1, f2, f3⟩ := c_ref (f := 2) hS2 (by omega) (by omega)
          refine Or.inl ⟨2, tzp b n (i + 2 + 1), m5, wd, ?_, f2, cO_tr (cO_tr hO1 (cF_O (cF_si (cF_rf _) (by omega)))) (cF_O f3), ?_, d2, rE_O (rE_tr (rF_E (rF_tr hFb c3)) d3)⟩
          · rw [if_neg q5, f1, zca, znbN0, zca, znbN0]
          · rw [d1]; simp only [zca, r_mu_d d2, zcv, r_dead d2, if_true]
      · obtain ⟨wd, d1, d2, d3⟩ := r_nu_n c2 q3
        obtain ⟨m5, f1, f2, f3⟩ := c_ref (f := 1) hS2 (by omega) (by omega)
        refine Or.inl ⟨1, tzp b n (i + 2 + 1), m5, wd, ?_, f2, cO_tr (cO_tr hO1 (cF_O (cF_si (cF_rf _) (by omega)))) (cF_O f3), ?_, d2, rE_O (rE_tr (rF_E (rF_tr hFb c3)) d3)⟩
        · rw [if_neg (by rw [zK (tzk_lt hb _) (by omega)]; exact q3), f1, zca, znbN0, zca, znbN0]
        · rw [d1]; simp only [zca, r_mu_d d2, zcv, r_dead d2, if_true]
    · obtain ⟨m5, f1, f2, f3⟩ := c_mu_n b4 (c := 61) (by omega) q1
      obtain ⟨wc, c1, c2, c3⟩ := r_mu_n (c := 61) b11 (by omega) q1
      refine Or.inl ⟨1, tzp b n (i + 2), m5, wc, ?_, f2, cO_tr hO1 (cF_O f3), ?_, c2, rE_O (rE_tr (rF_E hFb) c3)⟩
      · rw [f1, zca, if_pos rfl, zca, znbN0]
      · rw [c1]; simp only [zcv, r_nu_d c2, zca, r_mu_d c2, r_dead c2, if_true]
end TU
