/-! ===== t: a unit, of both ===== -/
def qnew (Q : pQ) (L : Nat) (ab : Option Nat) : pQ := ((qn Q + 1, zset (qlet Q) (qn Q) L, zset (qabv Q) (qn Q) ab, qcnt Q), Q.2.1, (zset (qul Q) L (some (qn Q)), qnm Q), qstp Q)
section TZ
variable {N : Nat → Nat} {b : Nat → Nat} {n d i : Nat} {Q : pQ} {DL : List pD} {nt na : Nat} {m w : XM}
theorem qok_new (hW : qW Q) {L : Nat} {ab : Option Nat} (y : Nat) : qok (qnew Q L ab) y ↔ qok Q y := by
  show (y / 12 < qn Q + 1 ∧ y % 12 < qcnt Q (y / 12)) ↔ (y / 12 < qn Q ∧ y % 12 < qcnt Q (y / 12))
  constructor
  · intro h
    refine ⟨?_, h.2⟩
    by_cases e : y / 12 = qn Q
    · have := hW.2.2.1 (y / 12) (by omega)
      omega
    · omega
  · intro h
    exact ⟨by omega, h.2⟩
theorem qW_new (hW : qW Q) {L : Nat} {ab : Option Nat} (hL : L < 7) (hn : qn Q < 7) (hf : qul Q L = none) (ha : ∀ a, ab = some a → a < qn Q) : qW (qnew Q L ab) := by
  have hW0 := hW
  obtain ⟨w1, w2, w3, w4, w5, w6, w7⟩ := hW
  refine ⟨by show qn Q + 1 ≤ 7; omega, fun u hu => ?_, fun u hu => w3 u (by have h' : qn Q + 1 ≤ u := hu; omega), fun L' u hL' => ?_, fun u a x ha' => ?_, fun x hx => w6 x ((qok_new hW0 x).1 hx), w7⟩
  · have hu' : u < qn Q + 1 := hu
    show qcnt Q u ≤ 12 ∧ zset (qlet Q) (qn Q) L u < 7 ∧ ∀ a, zset (qabv Q) (qn Q) ab u = some a → a < qn Q + 1
    by_cases e : u = qn Q
    · rw [e, zset_eq, zset_eq, w3 _ (Nat.le_refl _)]
      exact ⟨by omega, hL, fun a q => by have := ha a q; omega⟩
    · rw [zset_ne _ _ e, zset_ne _ _ e]
      obtain ⟨q1, q2, q3⟩ := w2 u (by omega)
      exact ⟨q1, q2, fun a q => by have := q3 a q; omega⟩
  · show zset (qul Q) L (some (qn Q)) L' = some u ↔ u < qn Q + 1 ∧ zset (qlet Q) (qn Q) L u = L'
    by_cases e : L' = L
    · rw [e, zset_eq]
      constructor
      · intro h
        have : qn Q = u := by simpa using h
        rw [← this, zset_eq]
        exact ⟨by omega, rfl⟩
      · intro h
        by_cases e2 : u = qn Q
        · rw [e2]
        · rw [zset_ne _ _ e2] at h
          have := (w4 L u hL).2 ⟨by omega, h.2⟩
          rw [hf] at this
          simp at this
    · rw [zset_ne _ _ e, w4 L' u hL']
      constructor
      · intro h
        rw [zset_ne _ _ (by omega)]
        exact ⟨by omega, h.2⟩
      · intro h
        by_cases e2 : u = qn Q
        · rw [e2, zset_eq] at h
          exact absurd h.2.symm e
        · rw [zset_ne _ _ e2] at h
          exact ⟨by omega, h.2⟩
  · rw [qok_new hW0]
    exact w5 u a x ha'
theorem ru_d75 {f p : Nat} (h : rX f p w) (x : Int32) : fX9_unitHere_75 N 85 x w = some w := by
  unfold fX9_unitHere_75 fX9_unitHere_147
  simp only [zN_lit, r_sg_d h, zca, if_true, r_mu_d h, zcv, r_dead h]
theorem ru_d147 {f p : Nat} (h : rX f p w) (x y : Int32) : fX9_unitHere_147 N 85 x y w = some w := by
  unfold fX9_unitHere_147
  simp only [zN_lit, zca, if_true, r_mu_d h, zcv, r_dead h]
/-- from the sign "{" on -/
theorem u_tail {L : Nat} {ab : Option Nat} (h : jQ N b n d i Q DL nt na m w) (hn7 : qn Q < 7) (hL : L < 7) (hf : qul Q L = none) (ha : ∀ a, ab = some a → a < qn Q) :
    jFv d m w (fX1_readHead_125 N 2 (zN (qn Q)) (zN L) (zopt ab) m) (fX9_unitHere_147 N 85 (zN L) (zopt ab) w)
    ∨ ∃ m' w', fX1_readHead_125 N 2 (zN (qn Q)) (zN L) (zopt ab) m = some (zN 1, m') ∧ fX9_unitHere_147 N 85 (zN L) (zopt ab) w = fX9_unitHere_223 N XF 85 (zN (qn Q)) w' ∧ jQ N b n d (i + 1) (qnew Q L ab) DL nt na m' w' ∧ cO d m m' ∧ rO w w' := by
  obtain ⟨h1, h2, h3, h4, h5, h6, h7, h8⟩ := h
  have hbd : nt ≤ 400 ∧ na ≤ 220 := by
    have := cS_i h1
    have := h3.2.1.2.2.2.1
    omega
  have hd := h1.1.1
  have hb := h1.2.2.2.1
  obtain ⟨-, ⟨n1, n2, -⟩, ⟨n21, -⟩, ⟨g1, g2, -⟩, g0, g21, -⟩ := id h1.1
  generalize hmA : si (si (si (si m (d + 1) (qn Q) (zN L)) (d + 2) (qn Q) (zopt ab)) d 0 (zN (qn Q + 1))) 21 L (zN (qn Q)) = mA
  have hfA : ∀ z j, ¬ (z = d + 1 ∧ j = qn Q) → ¬ (z = d + 2 ∧ j = qn Q) → ¬ (z = d ∧ j = 0) → ¬ (z = 21 ∧ j = L) → gi mA z j = gi m z j := fun z j q1 q2 q3 q4 => by rw [← hmA, gi_ne (by omega), gi_ne (by omega), gi_ne (by omega), gi_ne (by omega)]
  have hgA : ∀ z j, gr mA z j = gr m z j := fun z j => by rw [← hmA]; rfl
  have hlA : ∀ z j, gl mA z j = gl m z j := fun z j => by rw [← hmA]; rfl
  have hSA : cS N b n d i mA := cS_g h1 hgA (fun z j q => hfA z j (by omega) (by omega) (by omega) (by omega)) (by rw [hfA _ _ (by omega) (by omega) (by omega) (by omega)]; exact h1.2.2.2.2.2.2) h1.2.2.2.2.2.1
  have hOA : cO d m mA := ⟨fun z j q1 q2 q3 => hfA z j (by omega) (by omega) (by omega) (by omega), hgA, hlA⟩
  have ec : fX1_readHead_125 N 2 (zN (qn Q)) (zN L) (zopt ab) m = xca (fX1_mustTake N 2 (zN 123) mA) fun v6 m5 => xnb v6 (some (v6, m5)) := by
    unfold fX1_readHead_125 fX6_addUnit
    simp (disch := omega) only [zgr g0, zgr g1, zast, zgr_si, zgr g2, zv, zN_lit, zN_add, zcv, zgr g21]
    rw [hmA]
  rw [ec]
  unfold fX9_unitHere_147
  simp only [zN_lit]
  by_cases q : tzk b n (tzp b n i) = 123
  · have q1 := tz_nE q (by omega)
    have ip := tzp_s q1
    obtain ⟨wa, a1, a2, a3⟩ := r_mu_y (c := 123) h2 (by omega) q
    have hSB := cS_s hSA q1
    obtain ⟨n89, g10⟩ := rN_g h3.2.1.1 a3.2.1
    have h0 : gi wa 89 0 = zN (qn Q) := by rw [a3.1 _ _ (by omega)]; exact h5.1
    rw [c_mu_y hSA q, zca, znbN1, a1]
    simp (disch := omega) only [zcv, r_fine a2, zca, zN10, if_false, zgr g10, zald, h0, zv, zN_mul, zN_add, zast, zgr_si, gi_ne]
    generalize hwB : si (si (si (si wa 89 (5 + 15 * qn Q) (zN L)) 89 (5 + 15 * qn Q + 1) (zopt ab)) 89 (5 + 15 * qn Q + 2) (zN 0)) 89 0 (zN (qn Q + 1)) = wB
    have hfB : ∀ z j, ¬ (z = 89 ∧ (j = 0 ∨ j = 5 + 15 * qn Q ∨ j = 5 + 15 * qn Q + 1 ∨ j = 5 + 15 * qn Q + 2)) → gi wB z j = gi wa z j := fun z j q => by rw [← hwB, gi_ne (by omega), gi_ne (by omega), gi_ne (by omega), gi_ne (by omega)]
    have hgB : ∀ z j, gr wB z j = gr wa z j := fun z j => by rw [← hwB]; rfl
    have h89 : ∀ j, ¬ (j = 0 ∨ j = 5 + 15 * qn Q ∨ j = 5 + 15 * qn Q + 1 ∨ j = 5 + 15 * qn Q + 2) → gi wB 89 j = gi w 89 j := fun j q => by rw [hfB _ _ (by omega), a3.1 _ _ (by omega)]
    refine Or.inr ⟨si mA 2 10 (zN (i + 1)), wB, rfl, rfl, ⟨hSB, rS_w a2 hgB (fun j _ => hfB _ _ (by omega)) (fun j => hfB _ _ (by omega)), ?_, ?_, ?_, qW_new h6 hL hn7 hf ha, by omega, by omega⟩, cO_tr hOA (cF_O (cF_si (cF_rf _) (by omega))), rO_tr (rE_O (rF_E a3)) ⟨fun z j _ q => hfB z j (by omega), hgB, fun z j => by rw [← hwB]; rfl⟩⟩
    · refine jD_w (w := wa) (jD_mo (m' := si mA 2 10 (zN (i + 1))) (w' := wa) h3 (by omega) (fun z j q => by rw [gi_ne (by omega), hfA z j (by omega) (by omega) (by omega) (by omega)]) (fun j => a3.1 _ _ (by omega)) a3.2.1) (fun j q => hfB _ _ (by omega)) hgB hbd.1 hbd.2
    · have e : ∀ z j, z ≠ 2 → gi (si mA 2 10 (zN (i + 1))) z j = gi mA z j := fun z j q => gi_ne (by omega)
      obtain ⟨c1, c2, c3, c4, c5, c6, c7, c8⟩ := h4
      refine ⟨?_, ?_, fun y hy => ?_, fun y hy => ?_, fun x hx => ?_, fun y c hy hc => ?_, fun L' hL' => ?_, fun k j hj => ?_⟩
      · rw [e _ _ (by omega), ← hmA, gi_ne (by omega), gi_si]; rfl
      · rw [e _ _ (by omega), hfA _ _ (by omega) (by omega) (by omega) (by omega)]; exact c2
      · rw [e _ _ (by omega), e _ _ (by omega)]
        show gi mA (d + 1) y = zN (zset (qlet Q) (qn Q) L y) ∧ gi mA (d + 2) y = zopt (zset (qabv Q) (qn Q) ab y)
        by_cases q : y = qn Q
        · rw [q, zset_eq, zset_eq, ← hmA, gi_ne (by omega), gi_ne (by omega), gi_ne (by omega), gi_si, gi_ne (by omega), gi_ne (by omega), gi_si]
          exact ⟨rfl, rfl⟩
        · rw [zset_ne _ _ q, zset_ne _ _ q, hfA _ _ (by omega) (by omega) (by omega) (by omega), hfA _ _ (by omega) (by omega) (by omega) (by omega)]
          have hy' : y < qn Q + 1 := hy
          exact c3 y (by omega)
      · rw [e _ _ (by omega), hfA _ _ (by omega) (by omega) (by omega) (by omega)]; exact c4 y hy
      · rw [e _ _ (by omega), e _ _ (by omega), e _ _ (by omega), e _ _ (by omega), e _ _ (by omega), e _ _ (by omega), hfA _ _ (by omega) (by omega) (by omega) (by omega), hfA _ _ (by omega) (by omega) (by omega) (by omega), hfA _ _ (by omega) (by omega) (by omega) (by omega), hfA _ _ (by omega) (by omega) (by omega) (by omega), hfA _ _ (by omega) (by omega) (by omega) (by omega), hfA _ _ (by omega) (by omega) (by omega) (by omega)]
        exact c5 x ((qok_new h6 x).1 hx)
      · rw [e _ _ (by omega), hfA _ _ (by omega) (by omega) (by omega) (by omega)]; exact c6 y c hy hc
      · rw [e _ _ (by omega)]
        show gi mA 21 L' = zopt (zset (qul Q) L (some (qn Q)) L')
        by_cases q : L' = L
        · rw [q, zset_eq, ← hmA, gi_si]; rfl
        · rw [zset_ne _ _ q, hfA _ _ (by omega) (by omega) (by omega) (by omega)]; exact c7 L' hL'
      · rw [e _ _ (by omega), hfA _ _ (by omega) (by omega) (by omega) (by omega)]; exact c8 k j hj
    · obtain ⟨r1, r2, r3, r4, r5, r6⟩ := h5
      refine ⟨by rw [← hwB, gi_si]; rfl, ?_, by rw [h89 _ (by omega)]; exact r3, fun y hy => ?_, fun x hx => ?_, fun k j hkj => ?_⟩
      · rw [h89 _ (by omega), r2]
        show _ = zN (qbs (qcnt Q) (qn Q) + qcnt Q (qn Q))
        rw [h6.2.2.1 _ (Nat.le_refl _)]; rfl
      · have hy' : y < qn Q + 1 := hy
        show gi wB 89 (5 + 15 * y) = zN (zset (qlet Q) (qn Q) L y) ∧ gi wB 89 (5 + 15 * y + 1) = zopt (zset (qabv Q) (qn Q) ab y) ∧ gi wB 89 (5 + 15 * y + 2) = zN (qcnt Q y) ∧ ∀ i, i < qcnt Q y → gi wB 89 (5 + 15 * y + 3 + i) = zN (qbs (qcnt Q) y + i)
        by_cases q : y = qn Q
        · rw [q, zset_eq, zset_eq, h6.2.2.1 _ (Nat.le_refl _)]
          refine ⟨?_, ?_, ?_, fun i hi => by omega⟩
          · rw [← hwB, gi_ne (by omega), gi_ne (by omega), gi_ne (by omega), gi_si]
          · rw [← hwB, gi_ne (by omega), gi_ne (by omega), gi_si]
          · rw [← hwB, gi_ne (by omega), gi_si]
        · obtain ⟨s1, s2, s3, s4⟩ := r4 y (by omega)
          have hc := (h6.2.1 y (by omega)).1
          rw [zset_ne _ _ q, zset_ne _ _ q]
          exact ⟨by rw [h89 _ (by omega)]; exact s1, by rw [h89 _ (by omega)]; exact s2, by rw [h89 _ (by omega)]; exact s3, fun i hi => by rw [h89 _ (by omega)]; exact s4 i hi⟩
      · have hx' := (qok_new h6 x).1 hx
        have := pMem_fr (E := []) (K' := gi wB 89) (Q' := qnew Q L ab) (Nat.le_refl nt) (Nat.le_refl na) (fun o ho => h89 _ (by omega)) (fun k r1 r2 => h89 _ (by omega)) (fun a o r1 r2 => h89 _ (by omega)) rfl rfl rfl rfl (r5 x hx')
        rw [List.append_nil] at this
        exact this
      · obtain ⟨a, D, s1, s2, s3, s4⟩ := r6 k j hkj
        exact ⟨a, D, by rw [h89 _ (by omega)]; exact s1, s2, s3, pact_fr (Nat.le_refl _) (fun o ho => h89 _ (by omega)) (fun k r1 r2 => h89 _ (by omega)) s4⟩
  · obtain ⟨m5, f1, f2, f3⟩ := c_mu_n hSA (c := 123) (by omega) q
    obtain ⟨wa, a1, a2, a3⟩ := r_mu_n (c := 123) h2 (by omega) q
    refine Or.inl ⟨1, tzp b n i, m5, wa, ?_, f2, cO_tr hOA (cF_O f3), ?_, a2, rE_O a3⟩
    · rw [f1, zca, znbN0]
    · rw [a1]; simp only [zcv, r_dead a2, zca, if_true]
theorem jQ_tk {i' : Nat} {m' w' : XM} (h : jQ N b n d i Q DL nt na m w) (hS : cS N b n d i' m') (hr : rS N b n i' w') (hi : tzp b n i ≤ tzp b n i') (gm : ∀ z j, z ≠ 2 → gi m' z j = gi m z j) (gw : rF w w') : jQ N b n d i' Q DL nt na m' w' := by
  obtain ⟨h1, h2, h3, h4, h5, h6, h7, h8⟩ := h
  have hd := h1.1.1
  refine ⟨hS, hr, jD_mo (m' := m') (w' := w') h3 hi (fun z j q => gm z j (by omega)) (fun j => gw.1 _ _ (by omega)) gw.2.1, ?_, rQ_F h5 gw, h6, by omega, by omega⟩
  obtain ⟨c1, c2, c3, c4, c5, c6, c7, c8⟩ := h4
  exact ⟨by rw [gm _ _ (by omega)]; exact c1, by rw [gm _ _ (by omega)]; exact c2, fun y hy => by rw [gm _ _ (by omega), gm _ _ (by omega)]; exact c3 y hy, fun y hy => by rw [gm _ _ (by omega)]; exact c4 y hy, fun x hx => by rw [gm _ _ (by omega), gm _ _ (by omega), gm _ _ (by omega), gm _ _ (by omega), gm _ _ (by omega), gm _ _ (by omega)]; exact c5 x hx, fun y c hy hc => by rw [gm _ _ (by omega)]; exact c6 y c hy hc, fun L hL => by rw [gm _ _ (by omega)]; exact c7 L hL, fun k j hj => by rw [gm _ _ (by omega)]; exact c8 k j hj⟩
theorem uu_unit (h : jQ N b n d i Q DL nt na m w) (hk : tzk b n (tzp b n i) = 260) (h4w : gi w 85 4 = zN (tzp b n i)) :
    jFv d m w (fX1_readUnit N 2 (zN (qn Q)) m) (fX9_unitHere N 85 w)
    ∨ ∃ m' w' i' Q' DL' nt' na', fX1_readUnit N 2 (zN (qn Q)) m = some (zN 1, m') ∧ fX9_unitHere N 85 w = some w' ∧ jQ N b n d i' Q' DL' nt' na' m' w' ∧ qn Q' = qn Q + 1 ∧ i < i' ∧ qstp Q' = qstp Q ∧ cO d m m' ∧ rO w w' := by
  have hX := zXF
  have hh := h
  obtain ⟨h1, h2, h3, h4, h5, h6, h7, h8⟩ := h
  have hd := h1.1.1
  have hb := h1.2.2.2.1
  have hn := h6.1
  have hii := cS_i h1
  obtain ⟨n89, g10⟩ := h3.2.1.1
  have hp := tz_nE hk (by omega)
  have ip := tzp_s hp
  have hwd := tz_wd (j := 0) hb (by omega) hk
  have el : (tzW 0).length = 4 := rfl
  rw [el] at hwd
  obtain ⟨-, -, ⟨n21, -⟩, -, g0, g21, -⟩ := id h1.1
  unfold fX1_readUnit fX9_unitHere
  simp (disch := omega) only [zN_lit, zN_lt, zv, h4w, zgr g10, zald, h5.1, zN_eq, zN_add, h1.2.2.2.2.2.2]
  by_cases q7 : qn Q = 7
  · obtain ⟨m1, c1, c2, c3⟩ := c_ref (f := 3) h1 (by omega) (by omega)
    obtain ⟨wc, d1, d2, d3⟩ := r_wrong (N := N) (f := 3) (p := tzp b n i) h2.2.1 (by omega) (by omega)
    refine Or.inl ⟨3, tzp b n i, m1, wc, ?_, c2, cF_O c3, ?_, d2, rE_O d3⟩
    · rw [if_neg (by omega), c1, zca, znbN0]
    · rw [if_pos q7, d1, zca]
  · rw [if_pos (show qn Q < 7 by omega), if_neg q7]
    have hS1 := cS_s h1 hp
    have hr1 := rS_s h2 hp
    rw [hwd.2] at hr1
    generalize hm1 : si m 2 10 (zN (i + 1)) = m1 at *
    generalize hw1 : si w 85 4 (zN (tzp b n i + 4)) = w1 at *
    have hF1 : rF w w1 := by rw [← hw1]; exact rF_si
    have hcF1 : cF m m1 := by rw [← hm1]; exact cF_si (cF_rf m) (by omega)
    have gm1 : ∀ z j, z ≠ 2 → gi m1 z j = gi m z j := fun z j q => hcF1.1 z j (by omega)
    obtain ⟨w2, a1, a2, a3, a4⟩ := r_here hr1
    have hF2 : rF w w2 := rF_tr hF1 a4
    simp only [a1, zca, a3]
    have g21' : gr m1 2 1 = some 21 := by rw [hcF1.2.1]; exact g21
    have ec : fX1_readHead N 2 (zN (qn Q)) m1 = (if tzk b n (tzp b n (i + 1)) = 257 then (if qul Q (tzq b n (tzp b n (i + 1))) = none then (xca (fX1_take N 2 (zN 58) (si m1 2 10 (zN (i + 1 + 1)))) fun v13 m12 => if (v13 : Int32) = zN 0 then (fX1_readHead_125 N 2 (zN (qn Q)) (zN (tzq b n (tzp b n (i + 1)))) zM m12) else (xgr m12 2 7 fun u14 => xv (gi m12 2 10) fun v15 => xald N m12 u14 v15 fun v16 => if (v16 : Int32) = zN 257 then (xgr m12 2 1 fun u17 => xgr m12 2 9 fun u18 => xv (gi m12 2 10) fun v19 => xald N m12 u18 v19 fun v20 => xald N m12 u17 v20 fun v21 => if (v21 : Int32) = zM then (xca (fX1_refuse N 2 (zN 4) m12) fun v26 m25 => xnb v26 (some (v26, m25))) else (fX1_readHead_125 N 2 (zN (qn Q)) (zN (tzq b n (tzp b n (i + 1)))) v21 (si m12 2 10 (gi m12 2 10 + zN 1)))) else (xca (fX1_refuse N 2 (zN 1) m12) fun v28 m27 => xnb v28 (some (v28, m27))))) else (xca (fX1_refuse N 2 (zN 4) m1) fun v30 m29 => xnb v30 (some (v30, m29)))) else (xca (fX1_refuse N 2 (zN 1) m1) fun v32 m31 => xnb v32 (some (v32, m31)))) := by
      unfold fX1_readHead
      rw [cs_k hS1]
      simp only [zN_lit]
      by_cases q : tzk b n (tzp b n (i + 1)) = 257
      · have hLt : tzq b n (tzp b n (i + 1)) < 7 := by have := tz_ca hb q; omega
        rw [q, if_pos rfl, if_pos rfl, cs_n hS1 (by omega), zgr g21', zald (by omega) (by omega), gm1 _ _ (by omega), h4.2.2.2.2.2.2.1 _ hLt]
        have hub : ∀ c, qul Q (tzq b n (tzp b n (i + 1))) = some c → c < 2147483648 := fun c hc => by have := ((h6.2.2.2.1 _ c hLt).1 hc).1; omega
        simp only [zneg, zopt_m hub, zv, hS1.2.2.2.2.2.2, zN_add]
      · rw [if_neg (by rw [zK (tzk_lt hb _) (by omega)]; exact q), if_neg q]
    by_cases q1 : tzk b n (tzp b n (i + 1)) = 257
    · have p2 := tz_nE q1 (by omega)
      have ip2 := tzp_s p2
      have hLt : tzq b n (tzp b n (i + 1)) < 7 := by have := tz_ca hb q1; omega
      obtain ⟨w3, b1, b2, b3⟩ := r_let_y a2 q1
      have hF3 : rF w w3 := rF_tr hF2 b3
      have hN3 := rN_g h3.2.1.1 hF3.2.1
      rw [ec, if_pos q1, b1]
      simp only [zca, r_fine b2, zN10, if_false, zgr hN3.2]
      rw [r_uby hN3 (rQ_F h5 hF3) h6 hLt, zca]
      have hub : ∀ L, L < 7 → ∀ c, qul Q L = some c → c < 2147483648 := fun L hL c hc => by have := ((h6.2.2.2.1 L c hL).1 hc).1; omega
      simp only [zneg, zopt_m (hub _ hLt)]
      generalize hL : tzq b n (tzp b n (i + 1)) = L at *
      by_cases q2 : qul Q L = none
      · rw [if_pos q2, if_pos q2]
        have hS2 := cS_s hS1 p2
        have gm2 : ∀ z j, z ≠ 2 → gi (si m1 2 10 (zN (i + 1 + 1))) z j = gi m z j := fun z j q => by rw [gi_ne (by omega), gm1 z j q]
        have hcF2 : cF m (si m1 2 10 (zN (i + 1 + 1))) := cF_si hcF1 (by omega)
        have gr2 : ∀ z j, gr (si m1 2 10 (zN (i + 1 + 1))) z j = gr m z j := hcF2.2.1
        generalize hm2 : si m1 2 10 (zN (i + 1 + 1)) = m2 at *
        unfold fX9_unitHere_75
        simp only [zN_lit]
        by_cases q3 : tzk b n (tzp b n (i + 1 + 1)) = 58
        · have p3 := tz_nE q3 (by omega)
          have ip3 := tzp_s p3
          have hS3 := cS_s hS2 p3
          obtain ⟨w4, c1, c2, c3⟩ := r_sg_y (c := 58) b2 (by omega) q3
          obtain ⟨w5, d1, d2, d3, d4⟩ := r_here c2
          have hF5 : rF w w5 := rF_tr hF3 (rF_tr c3 d4)
          have gm3 : ∀ z j, z ≠ 2 → gi (si m2 2 10 (zN (i + 1 + 1 + 1))) z j = gi m z j := fun z j q => by rw [gi_ne (by omega), gm2 z j q]
          have hcF3 : cF m (si m2 2 10 (zN (i + 1 + 1 + 1))) := cF_si hcF2 (by omega)
          rw [c_ta_y hS2 q3, c1]
          simp only [zca, zN10, if_false, d1, zv, d3]
          generalize hm3 : si m2 2 10 (zN (i + 1 + 1 + 1)) = m3 at *
          have g21'' : gr m3 2 1 = some 21 := by rw [hcF3.2.1]; exact g21
          have ek : (xgr m3 2 7 fun u14 => xald N m3 u14 (gi m3 2 10) fun v16 => if (v16 : Int32) = zN 257 then (xgr m3 2 1 fun u17 => xgr m3 2 9 fun u18 => xald N m3 u18 (gi m3 2 10) fun v20 => xald N m3 u17 v20 fun v21 => if (v21 : Int32) = zM then (xca (fX1_refuse N 2 (zN 4) m3) fun v26 m25 => xnb v26 (some (v26, m25))) else (fX1_readHead_125 N 2 (zN (qn Q)) (zN L) v21 (si m3 2 10 (gi m3 2 10 + zN 1)))) else (xca (fX1_refuse N 2 (zN 1) m3) fun v28 m27 => xnb v28 (some (v28, m27)))) = (if tzk b n (tzp b n (i + 1 + 1 + 1)) = 257 then (if qul Q (tzq b n (tzp b n (i + 1 + 1 + 1))) = none then (xca (fX1_refuse N 2 (zN 4) m3) fun v26 m25 => xnb v26 (some (v26, m25))) else (fX1_readHead_125 N 2 (zN (qn Q)) (zN L) (zopt (qul Q (tzq b n (tzp b n (i + 1 + 1 + 1))))) (si m3 2 10 (zN (i + 1 + 1 + 1 + 1))))) else (xca (fX1_refuse N 2 (zN 1) m3) fun v28 m27 => xnb v28 (some (v28, m27)))) := by
            have e1 := cs_k hS3 (κ := fun v16 => if (v16 : Int32) = zN 257 then (xgr m3 2 1 fun u17 => xgr m3 2 9 fun u18 => xald N m3 u18 (gi m3 2 10) fun v20 => xald N m3 u17 v20 fun v21 => if (v21 : Int32) = zM then (xca (fX1_refuse N 2 (zN 4) m3) fun v26 m25 => xnb v26 (some (v26, m25))) else (fX1_readHead_125 N 2 (zN (qn Q)) (zN L) v21 (si m3 2 10 (gi m3 2 10 + zN 1)))) else (xca (fX1_refuse N 2 (zN 1) m3) fun v28 m27 => xnb v28 (some (v28, m27))))
            simp only [zv] at e1
            rw [e1]
            by_cases q : tzk b n (tzp b n (i + 1 + 1 + 1)) = 257
            · have hLt2 : tzq b n (tzp b n (i + 1 + 1 + 1)) < 7 := by have := tz_ca hb q; omega
              rw [q, if_pos rfl, if_pos rfl, zgr g21'']
              have e2 := cs_n hS3 (by omega) (κ := fun v20 => xald N m3 21 v20 fun v21 => if (v21 : Int32) = zM then (xca (fX1_refuse N 2 (zN 4) m3) fun v26 m25 => xnb v26 (some (v26, m25))) else (fX1_readHead_125 N 2 (zN (qn Q)) (zN L) v21 (si m3 2 10 (gi m3 2 10 + zN 1))))
              simp only [zv] at e2
              rw [e2, zald (by omega) (by omega), gm3 _ _ (by omega), h4.2.2.2.2.2.2.1 _ hLt2]
              simp only [zopt_m (hub _ hLt2), hS3.2.2.2.2.2.2, zN_add]
            · rw [if_neg (by rw [zK (tzk_lt hb _) (by omega)]; exact q), if_neg q]
          rw [ek]
          by_cases q4 : tzk b n (tzp b n (i + 1 + 1 + 1)) = 257
          · have p4 := tz_nE q4 (by omega)
            have ip4 := tzp_s p4
            have hLt2 : tzq b n (tzp b n (i + 1 + 1 + 1)) < 7 := by have := tz_ca hb q4; omega
            obtain ⟨w6, e1, e2, e3⟩ := r_let_y d2 q4
            have hF6 : rF w w6 := rF_tr hF5 e3
            have hN6 := rN_g h3.2.1.1 hF6.2.1
            rw [if_pos q4, e1]
            simp only [zca, r_fine e2, zN10, if_false, zgr hN6.2]
            rw [r_uby hN6 (rQ_F h5 hF6) h6 hLt2, zca]
            unfold fX9_unitHere_124
            rw [r_fine e2, zca]
            simp only [zN_lit, zN10, if_false, zneg, zopt_m (hub _ hLt2)]
            by_cases q5 : qul Q (tzq b n (tzp b n (i + 1 + 1 + 1))) = none
            · obtain ⟨m5, x1, x2, x3⟩ := c_ref (f := 4) hS3 (by omega) (by omega)
              obtain ⟨w7, y1, y2, y3⟩ := r_wrong (N := N) (f := 4) (p := tzp b n (i + 1 + 1 + 1)) e2.2.1 (by omega) (by omega)
              refine Or.inl ⟨4, tzp b n (i + 1 + 1 + 1), m5, w7, ?_, x2, cF_O (cF_tr hcF3 x3), ?_, y2, rE_O (rE_tr (rF_E hF6) y3)⟩
              · rw [if_pos q5, x1, zca, znbN0, zca, if_pos rfl]
              · rw [if_pos q5, y1, zca, ru_d147 y2]
            · rw [if_neg q5, if_neg q5]
              have hS4 := cS_s hS3 p4
              rcases u_tail (L := L) (ab := qul Q (tzq b n (tzp b n (i + 1 + 1 + 1)))) (jQ_tk hh hS4 e2 (by omega) (fun z j q => by rw [gi_ne (by omega), gm3 z j q]) hF6) (by omega) hLt q2 (fun a q => ((h6.2.2.2.1 _ a hLt2).1 q).1) with ⟨f, p, m5, w7, k1, k2, k3, k4, k5, k6⟩ | ⟨m5, w7, k1, k2, k3, k4, k5⟩
              · refine Or.inl ⟨f, p, m5, w7, ?_, k2, cO_tr (cF_O (cF_si hcF3 (by omega))) k3, k4, k5, rO_tr (rE_O (rF_E hF6)) k6⟩
                rw [k1, zca, if_pos rfl]
              · rw [k1, zca, if_neg (by rw [zN10]; exact id), k2]
                have hc0 : qcnt (qnew Q L (qul Q (tzq b n (tzp b n (i + 1 + 1 + 1))))) (qn Q) = 0 := h6.2.2.1 _ (Nat.le_refl _)
                have := u_mems (u := qn Q) (600 - (i + 1 + 1 + 1 + 1 + 1)) XF XF _ nt na _ DL m5 w7 rfl (by omega) (by omega) k3 rfl
                rw [hc0] at this
                rcases this with ⟨f, p, m6, w8, r1, r2, r3, r4, r5, r6⟩ | ⟨m6, w8, i2, Q2, DL2, nt2, na2, r1, r2, r3, r4, r5, r6, r7, r8⟩
                · exact Or.inl ⟨f, p, m6, w8, r1, r2, cO_tr (cF_O (cF_si hcF3 (by omega))) (cO_tr k4 r3), r4, r5, rO_tr (rE_O (rF_E hF6)) (rO_tr k5 r6)⟩
                · exact Or.inr ⟨m6, w8, i2, Q2, DL2, nt2, na2, r1, r2, r3, r4, by omega, r6, cO_tr (cF_O (cF_si hcF3 (by omega))) (cO_tr k4 r7), rO_tr (rE_O (rF_E hF6)) (rO_tr k5 r8)⟩
          · obtain ⟨m5, x1, x2, x3⟩ := c_ref (f := 1) hS3 (by omega) (by omega)
            obtain ⟨w6, e1, e2, e3⟩ := r_let_n d2 q4
            refine Or.inl ⟨1, tzp b n (i + 1 + 1 + 1), m5, w6, ?_, x2, cF_O (cF_tr hcF3 x3), ?_, e2, rE_O (rE_tr (rF_E hF5) e3)⟩
            · rw [if_neg q4, x1, zca, znbN0, zca, if_pos rfl]
            · rw [e1]
              unfold fX9_unitHere_124
              simp only [zca, r_dead e2, if_true, zN_lit, ru_d147 e2]
        · obtain ⟨w4, c1, c2, c3, c4⟩ := r_sg_n (c := 58) b2 (by omega) q3
          have hF4 : rF w w4 := rF_tr hF3 c4
          rw [c_ta_n hS2 (by omega) q3, c1]
          simp only [zca, if_true, zneg]
          rcases u_tail (L := L) (ab := none) (jQ_tk hh hS2 c2 (by omega) gm2 hF4) (by omega) hLt q2 (fun a q => by simp at q) with ⟨f, p, m5, w7, k1, k2, k3, k4, k5, k6⟩ | ⟨m5, w7, k1, k2, k3, k4, k5⟩
          · refine Or.inl ⟨f, p, m5, w7, ?_, k2, cO_tr (cF_O hcF2) k3, k4, k5, rO_tr (rE_O (rF_E hF4)) k6⟩
            have k1' : fX1_readHead_125 N 2 (zN (qn Q)) (zN L) zM m2 = some (zN 0, m5) := k1
            rw [k1', zca, if_pos rfl]
          · have k1' : fX1_readHead_125 N 2 (zN (qn Q)) (zN L) zM m2 = some (zN 1, m5) := k1
            have k2' : fX9_unitHere_147 N 85 (zN L) zM w4 = fX9_unitHere_223 N XF 85 (zN (qn Q)) w7 := k2
            rw [k1', zca, if_neg (by rw [zN10]; exact id), k2']
            have hc0 : qcnt (qnew Q L none) (qn Q) = 0 := h6.2.2.1 _ (Nat.le_refl _)
            have := u_mems (u := qn Q) (600 - (i + 1 + 1 + 1)) XF XF _ nt na _ DL m5 w7 rfl (by omega) (by omega) k3 rfl
            rw [hc0] at this
            rcases this with ⟨f, p, m6, w8, r1, r2, r3, r4, r5, r6⟩ | ⟨m6, w8, i2, Q2, DL2, nt2, na2, r1, r2, r3, r4, r5, r6, r7, r8⟩
            · exact Or.inl ⟨f, p, m6, w8, r1, r2, cO_tr (cF_O hcF2) (cO_tr k4 r3), r4, r5, rO_tr (rE_O (rF_E hF4)) (rO_tr k5 r6)⟩
            · exact Or.inr ⟨m6, w8, i2, Q2, DL2, nt2, na2, r1, r2, r3, r4, by omega, r6, cO_tr (cF_O hcF2) (cO_tr k4 r7), rO_tr (rE_O (rF_E hF4)) (rO_tr k5 r8)⟩
      · obtain ⟨m5, x1, x2, x3⟩ := c_ref (f := 4) hS1 (by omega) (by omega)
        obtain ⟨w7, y1, y2, y3⟩ := r_wrong (N := N) (f := 4) (p := tzp b n (i + 1)) b2.2.1 (by omega) (by omega)
        refine Or.inl ⟨4, tzp b n (i + 1), m5, w7, ?_, x2, cF_O (cF_tr hcF1 x3), ?_, y2, rE_O (rE_tr (rF_E hF3) y3)⟩
        · rw [if_neg q2, x1, zca, znbN0, zca, if_pos rfl]
        · rw [if_neg q2, y1, zca, ru_d75 y2]
    · obtain ⟨m5, x1, x2, x3⟩ := c_ref (f := 1) hS1 (by omega) (by omega)
      obtain ⟨w3, b1, b2, b3⟩ := r_let_n a2 q1
      refine Or.inl ⟨1, tzp b n (i + 1), m5, w3, ?_, x2, cF_O (cF_tr hcF1 x3), ?_, b2, rE_O (rE_tr (rF_E hF2) b3)⟩
      · rw [ec, if_neg q1, x1, zca, znbN0, zca, if_pos rfl]
      · rw [b1]
        simp only [zca, r_dead b2, if_true, ru_d75 b2]
end TZ
