/-! ===== t: the steps, of both ===== -/
def qst (Q : pQ) (k : Nat) : pQ := (Q.1, Q.2.1, Q.2.2.1, qstp Q ++ [k])
section SA
variable {N : Nat → Nat} {b : Nat → Nat} {n d i i' : Nat} {Q : pQ} {DL : List pD} {nt na nt' : Nat} {m m' w w1 : XM}
theorem jQ_st {D : pD} (h : jQ N b n d i Q DL nt na m w) (hs : (qstp Q).length < 10) (c1 : cS N b n d i' m') (r1 : rS N b n i' w1) (j1 : jD N b n d i' (DL ++ [D]) nt' (na + 1) m' w1) (g : rD nt na w w1) (hn1 : nt ≤ nt')
    (H : ∀ z j, (z = d ∧ j = 0) ∨ (d + 1 ≤ z ∧ z ≤ d + 10 ∧ ¬ (z = d + 7 ∧ j = 84)) ∨ z = 21 ∨ (z = d + 11 ∧ j ≠ (qstp Q).length) → gi m' z j = gi m z j) (x1 : gi m' d 11 = zN ((qstp Q).length + 1)) (x2 : gi m' (d + 11) (qstp Q).length = zN DL.length) (hp : pact (gi w1 89) nt' na D) (b1 : 3 * (DL.length + 1) ≤ tzp b n i') (b2 : 4 * (na + 1) ≤ tzp b n i') : jQ N b n d i' (qst Q DL.length) (DL ++ [D]) nt' (na + 1) m' (si (si w1 89 (3810 + (qstp Q).length) (zN na)) 89 4 (zN ((qstp Q).length + 1))) := by
  have hbd := jQ_bd h
  have hi' := cS_i c1
  have hnt' := j1.2.1.2.2.2.1
  obtain ⟨h1, h2, h3, h4, h5, h6, h7, h8⟩ := h
  have hd := h1.1.1
  have hn := h6.1
  have hrm := rQ_mo (E := [D]) (nt' := nt') (na' := na + 1) h6 (by omega) (by omega) g hn1 (by omega) h5
  have hr : ∀ j, j ≠ 4 → j ≠ 3810 + (qstp Q).length → gi (si (si w1 89 (3810 + (qstp Q).length) (zN na)) 89 4 (zN ((qstp Q).length + 1))) 89 j = gi w1 89 j := fun j q1 q2 => by rw [gi_ne (by omega), gi_ne (by omega)]
  refine ⟨c1, rS_w (w' := si (si w1 89 (3810 + (qstp Q).length) (zN na)) 89 4 (zN ((qstp Q).length + 1))) r1 (fun _ _ => rfl) (fun j _ => by rw [gi_ne (by omega), gi_ne (by omega)]) (fun j => by rw [gi_ne (by omega), gi_ne (by omega)]), jD_w (w' := si (si w1 89 (3810 + (qstp Q).length) (zN na)) 89 4 (zN ((qstp Q).length + 1))) j1 (fun j q => hr j (by omega) (by omega)) (fun _ _ => rfl) (by omega) (by omega), ?_, ?_, ⟨h6.1, h6.2.1, h6.2.2.1, h6.2.2.2.1, h6.2.2.2.2.1, h6.2.2.2.2.2.1, ?_⟩, by rw [List.length_append]; exact b1, b2⟩
  · obtain ⟨c1, c2, c3, c4, c5, c6, c7, c8⟩ := h4
    refine ⟨by rw [H _ _ (by omega)]; exact c1, ?_, fun y hy => by rw [H _ _ (by omega), H _ _ (by omega)]; exact c3 y hy, fun y hy => by rw [H _ _ (by omega)]; exact c4 y hy, fun x hx => ?_, fun y c hy hc => by rw [H _ _ (by omega)]; exact c6 y c hy hc, fun L hL => by rw [H _ _ (by omega)]; exact c7 L hL, fun k j hkj => ?_⟩
    · show _ = zN (qstp Q ++ [DL.length]).length
      rw [List.length_append]; exact x1
    · have := (qid_lt h6 hx).2.2
      rw [H _ _ (by omega), H _ _ (by omega), H _ _ (by omega), H _ _ (by omega), H _ _ (by omega), H _ _ (by omega)]; exact c5 x hx
    · have hkj' : (qstp Q ++ [DL.length])[k]? = some j := hkj
      by_cases e : k = (qstp Q).length
      · rw [e, p_gal] at hkj'
        have : DL.length = j := by simpa using hkj'
        rw [e, x2, this]
      · obtain ⟨hl, -⟩ := List.getElem?_eq_some_iff.1 hkj'
        rw [List.length_append] at hl
        have hl' : k < (qstp Q).length + 1 := hl
        rw [List.getElem?_append_left (by omega)] at hkj'
        rw [H _ _ (by omega)]; exact c8 k j hkj'
  · obtain ⟨q1, q2, q3, q4, q5, q6⟩ := hrm
    refine ⟨by rw [hr _ (by omega) (by omega)]; exact q1, by rw [hr _ (by omega) (by omega)]; exact q2, ?_, fun u hu => ?_, fun x hx => ?_, fun k j hkj => ?_⟩
    · rw [gi_si]
      show _ = zN (qstp Q ++ [DL.length]).length
      rw [List.length_append]; rfl
    · have hu' : u < qn Q := hu
      have hc := (h6.2.1 u hu).1
      obtain ⟨s1, s2, s3, s4⟩ := q4 u hu
      exact ⟨by rw [hr _ (by omega) (by omega)]; exact s1, by rw [hr _ (by omega) (by omega)]; exact s2, by rw [hr _ (by omega) (by omega)]; exact s3, fun i hi => by
        have hi2 : i < qcnt Q u := hi
        rw [hr _ (by omega) (by omega)]; exact s4 i hi⟩
    · have := (qid_lt h6 hx).2.1
      have := pMem_fr (E := []) (K' := gi (si (si w1 89 (3810 + (qstp Q).length) (zN na)) 89 4 (zN ((qstp Q).length + 1))) 89) (Q' := qst Q DL.length) (Nat.le_refl nt') (Nat.le_refl (na + 1)) (fun o ho => hr _ (by omega) (by omega)) (fun k r1 r2 => hr _ (by omega) (by omega)) (fun a o r1 r2 => hr _ (by omega) (by omega)) rfl rfl rfl rfl (q5 x hx)
      rw [List.append_nil] at this
      exact this
    · have hkj' : (qstp Q ++ [DL.length])[k]? = some j := hkj
      by_cases e : k = (qstp Q).length
      · rw [e, p_gal] at hkj'
        have : DL.length = j := by simpa using hkj'
        rw [e, ← this]
        exact ⟨na, D, by rw [gi_ne (by omega), gi_si], by omega, p_gal, pact_fr (Nat.le_refl _) (fun o ho => hr _ (by omega) (by omega)) (fun k r1 r2 => hr _ (by omega) (by omega)) hp⟩
      · obtain ⟨hl, -⟩ := List.getElem?_eq_some_iff.1 hkj'
        rw [List.length_append] at hl
        have hl' : k < (qstp Q).length + 1 := hl
        rw [List.getElem?_append_left (by omega)] at hkj'
        obtain ⟨a, D', s1, s2, s3, s4⟩ := q6 k j hkj'
        exact ⟨a, D', by rw [hr _ (by omega) (by omega)]; exact s1, s2, s3, pact_fr (Nat.le_refl _) (fun o ho => hr _ (by omega) (by omega)) (fun k r1 r2 => hr _ (by omega) (by omega)) s4⟩
  · show (qstp Q ++ [DL.length]).length ≤ 10
    rw [List.length_append]
    show (qstp Q).length + 1 ≤ 10
    omega
/-- both have told more, steps too -/
def jGs (N : Nat → Nat) (b : Nat → Nat) (n d : Nat) (m w : XM) (cr : Option (Int32 × XM)) (rr : Option XM) : Prop := ∃ m' w' i' Q' DL' nt' na', cr = some (zN 1, m') ∧ rr = some w' ∧ jQ N b n d i' Q' DL' nt' na' m' w' ∧ cO d m m' ∧ rO w w'
theorem u_main : ∀ (g f1 f2 i nt na : Nat) (Q : pQ) (DL : List pD) (m w : XM), 600 - i = g → g + 1 < f1 → g + 1 < f2 → jQ N b n d i Q DL nt na m w →
    jFv d m w (fX1_readMain_25 N f1 2 (zN (qstp Q).length) m) (fX9_main_6 N f2 85 w) ∨ jGs N b n d m w (fX1_readMain_25 N f1 2 (zN (qstp Q).length) m) (fX9_main_6 N f2 85 w) := by
  intro g
  induction g using Nat.strongRecOn with
  | _ g ih =>
    intro f1 f2 i nt na Q DL m w hg hf1 hf2 h
    obtain ⟨f1, rfl⟩ : ∃ f, f1 = f + 1 := ⟨f1 - 1, by omega⟩
    obtain ⟨f2, rfl⟩ : ∃ f, f2 = f + 1 := ⟨f2 - 1, by omega⟩
    have hbd := jQ_bd h
    have hh := h
    obtain ⟨h1, h2, h3, h4, h5, h6, h7, h8⟩ := h
    have hd := h1.1.1
    have hb := h1.2.2.2.1
    have hs10 := h6.2.2.2.2.2.2
    have hii := cS_i h1
    obtain ⟨-, ⟨-, -, -, -, -, -, -, -, -, -, n11, -⟩, -, ⟨-, -, -, -, -, -, -, -, -, -, g12, g13, -⟩, g0, -⟩ := id h1.1
    obtain ⟨wa, a1, a2, a3, a4⟩ := r_here h2
    have k125 := tzk_sg (c := 125) (p := tzp b n i) hb (by omega)
    have hdead : ∀ {f p : Nat} {w0 : XM}, rX f p w0 → fX9_main_6 N f2 85 w0 = some w0 := fun {f p w0} hX => by
      obtain ⟨f2, rfl⟩ : ∃ f, f2 = f + 1 := ⟨f2 - 1, by omega⟩
      rw [fX9_main_6, zv, r_dead hX, zca]
      unfold fX9_main_135
      simp only [zN_lit, if_true, r_mu_d hX, zcv]
    rw [fX1_readMain_25, zv, fX9_main_6, zv, r_fine h2, zca]
    simp only [zN_lit, zN10, if_false, a1, zca]
    simp (disch := omega) only [tzB_c hb, ← k125]
    by_cases q1 : tzk b n (tzp b n i) = 125
    · have q2 := tz_nE q1 (by omega)
      have ip := tzp_s q2
      obtain ⟨wb, b1, b2, b3⟩ := r_mu_y (c := 125) a2 (by omega) q1
      have hFb : rF w wb := rF_tr a4 b3
      rw [if_pos q1, c_ta_y h1 q1]
      unfold fX9_main_135
      simp only [zca, zN_lit, zN10, if_false, b1, zcv]
      exact Or.inr ⟨si m 2 10 (zN (i + 1)), wb, i + 1, Q, DL, nt, na, rfl, rfl, jQ_tk hh (cS_s h1 q2) b2 (by omega) (fun z j q => gi_ne (by omega)) hFb, cF_O (cF_si (cF_rf _) (by omega)), rE_O (rF_E hFb)⟩
    · rw [if_neg q1, c_ta_n h1 (by omega) q1]
      simp only [zca, if_true]
      obtain ⟨wb, b1, b2, b3, b4⟩ := r_word (t := 12) (j := 4) a2 (by omega) rfl
      have hFb : rF w wb := rF_tr a4 b4
      obtain ⟨wc, c1, c2, c3, c4⟩ := r_unit b2
      have hFc : rF w wc := rF_tr hFb c4
      have ek : ∀ X Y : Option (Int32 × XM), (xgr m 2 7 fun u3 => xv (gi m 2 10) fun v4 => xald N m u3 v4 fun v5 => if (v5 : Int32) = zN 257 then X else (xgr m 2 7 fun u6 => xv (gi m 2 10) fun v7 => xald N m u6 v7 fun v8 => if (v8 : Int32) = zN 264 then X else Y)) = if tzk b n (tzp b n i) = 257 ∨ tzk b n (tzp b n i) = 264 then X else Y := fun X Y => by
        have hl := tzk_lt hb (tzp b n i)
        rw [cs_k h1, cs_k h1]
        simp (disch := omega) only [zK]
        by_cases e1 : tzk b n (tzp b n i) = 257
        · rw [if_pos e1, if_pos (Or.inl e1)]
        · rw [if_neg e1]
          by_cases e2 : tzk b n (tzp b n i) = 264
          · rw [if_pos e2, if_pos (Or.inr e2)]
          · rw [if_neg e2, if_neg (by omega)]
      rw [ek, b1]
      simp only [zca]
      by_cases q3 : tzk b n (tzp b n i) = 257 ∨ tzk b n (tzp b n i) = 264
      · rw [if_pos q3]
        have hwx : ∃ wd, rS N b n i wd ∧ rF w wd ∧ gi wd 85 4 = zN (tzp b n i) ∧ (if (if tzk b n (tzp b n i) = 260 + 4 then zN 1 else zN 0) = zN 0 then (xca (fX9_isUnitHere N 85 wb) fun v8 m7 => if (v8 : Int32) = zN 0 then (xv (gi m7 85 4) fun v9 => xca (fX9_wrong N 85 (zN 1) v9 m7) fun v11 m10 => fX9_main_132 N (fun q0 m0 => fX9_main_6 N f2 q0 m0) 85 m10) else (fX9_main_53 N (fun q0 m0 => fX9_main_6 N f2 q0 m0) 85 m7)) else (fX9_main_53 N (fun q0 m0 => fX9_main_6 N f2 q0 m0) 85 wb)) = fX9_main_53 N (fun q0 m0 => fX9_main_6 N f2 q0 m0) 85 wd := by
          by_cases e : tzk b n (tzp b n i) = 264
          · refine ⟨wb, b2, hFb, b3, ?_⟩
            rw [if_pos (show tzk b n (tzp b n i) = 260 + 4 from e), if_neg (by rw [zN10]; exact id)]
          · refine ⟨wc, c2, hFc, c3, ?_⟩
            rw [if_neg (show ¬ tzk b n (tzp b n i) = 260 + 4 from e), if_pos rfl, c1, if_pos (show tzk b n (tzp b n i) = 257 by omega), zca, if_neg (by rw [zN10]; exact id)]
        obtain ⟨wd, d1, d2, d3, d4⟩ := hwx
        rw [d4]
        obtain ⟨n89, g10⟩ := rN_g h3.2.1.1 d2.2.1
        have h4d : gi wd 89 4 = zN (qstp Q).length := by rw [d2.1 _ _ (by omega)]; exact h5.2.2.1
        unfold fX1_readMain_70 fX9_main_53
        simp (disch := omega) only [zN_lit, zN_lt, zgr g10, zald, h4d, zN_eq]
        by_cases q4 : (qstp Q).length = 10
        · obtain ⟨m1, e1, e2, e3⟩ := c_ref (f := 3) h1 (by omega) (by omega)
          obtain ⟨we, x1, x2, x3⟩ := r_wrong (N := N) (f := 3) (p := tzp b n i) d1.2.1 (by omega) (by omega)
          refine Or.inl ⟨3, tzp b n i, m1, we, ?_, e2, cF_O e3, ?_, x2, rE_O (rE_tr (rF_E d2) x3)⟩
          · rw [if_neg (by omega), e1, zca, znbN0]
          · rw [if_pos q4]
            unfold fX9_main_132
            simp only [zv, d3, x1, zca]
            exact hdead x2
        · rw [if_pos (show (qstp Q).length < 10 by omega), if_neg q4]
          have hdc : gi m (d + 12) 3 = zN DL.length := h3.1.1
          simp (disch := omega) only [zgr g0, zgr g12, zgr g13, zv, hdc, zast, zgr_si, zN_add]
          generalize hm1 : si (si m (d + 11) (qstp Q).length (zN DL.length)) d 11 (zN ((qstp Q).length + 1)) = m1
          have hf1' : ∀ z j, ¬ (z = d + 11 ∧ j = (qstp Q).length) → ¬ (z = d ∧ j = 11) → gi m1 z j = gi m z j := fun z j r1 r2 => by rw [← hm1, gi_ne (by omega), gi_ne (by omega)]
          have hg1 : ∀ z j, gr m1 z j = gr m z j := fun z j => by rw [← hm1]; rfl
          have hl1 : ∀ z j, gl m1 z j = gl m z j := fun z j => by rw [← hm1]; rfl
          have hS1 : cS N b n d i m1 := cS_g h1 hg1 (fun z j q => hf1' z j (by omega) (by omega)) (by rw [hf1' _ _ (by omega) (by omega)]; exact h1.2.2.2.2.2.2) h1.2.2.2.2.2.1
          have hO1 : cO d m m1 := ⟨fun z j r1 r2 r3 => hf1' z j (by omega) (by omega), hg1, hl1⟩
          have hx1 : gi m1 d 11 = zN ((qstp Q).length + 1) := by rw [← hm1, gi_si]
          have hx2 : gi m1 (d + 11) (qstp Q).length = zN DL.length := by rw [← hm1, gi_ne (by omega), gi_si]
          have fin : ∀ {m3 w3 : XM} {i3 k : Nat} {D : pD}, cS N b n d i3 m3 → rS N b n i3 w3 → jD N b n d i3 (DL ++ [D]) (nt + k) (na + 1) m3 w3 → rD nt na w w3 → (∀ z j, ¬ (z = 2 ∧ 10 ≤ j) → ¬ (z = d + 12 ∧ (j = 0 ∨ j = 3)) → ¬ ((z = d + 13 ∨ z = d + 14 ∨ z = 22) ∧ plen DL ≤ j) → ¬ ((z = 23 ∨ z = d + 15 ∨ z = d + 16 ∨ z = d + 17) ∧ DL.length ≤ j) → ¬ (z = d + 7 ∧ j = 84) → gi m3 z j = gi m1 z j) → (∀ z j, gr m3 z j = gr m z j) → (∀ z j, gl m3 z j = gl m z j) → pact (gi w3 89) (nt + k) na D → tzp b n i + 4 ≤ tzp b n i3 → i < i3 →
              jFv d m w (fX1_readMain_25 N f1 2 (zN ((qstp Q).length + 1)) m3) (fX9_main_97 N (fun q0 m0 => fX9_main_6 N f2 q0 m0) 85 (zN na) w3) ∨ jGs N b n d m w (fX1_readMain_25 N f1 2 (zN ((qstp Q).length + 1)) m3) (fX9_main_97 N (fun q0 m0 => fX9_main_6 N f2 q0 m0) 85 (zN na) w3) := fun {m3 w3 i3 k D} t1 t2 t3 t4 t5 t6 t7 t8 t9 t10 => by
            obtain ⟨n89', g10'⟩ := rN_g h3.2.1.1 t4.2.1
            have h4w : gi w3 89 4 = zN (qstp Q).length := by rw [t4.1 _ _ (by omega) (by omega)]; exact h5.2.2.1
            have hi3 := cS_i t1
            have hOm : cO d m m3 := cO_tr hO1 ⟨fun z j r1 r2 r3 => t5 z j r1 (by omega) (by omega) (by omega) (by omega), fun z j => by rw [t6, hg1], fun z j => by rw [t7, hl1]⟩
            have hj := jQ_st (D := D) hh (by omega) t1 t2 t3 t4 (by omega) (fun z j q => by rw [t5 z j (by omega) (by omega) (by omega) (by omega) (by omega), hf1' z j (by omega) (by omega)]) (by rw [t5 _ _ (by omega) (by omega) (by omega) (by omega) (by omega)]; exact hx1) (by rw [t5 _ _ (by omega) (by omega) (by omega) (by omega) (by omega)]; exact hx2) t8 (by omega) (by omega)
            unfold fX9_main_97 fX9_main_132
            rw [r_fine t2, zca]
            simp (disch := omega) only [zN_lit, zN10, if_false, zgr g10', zald, h4w, zv, zN_add, zast, zgr_si, gi_ne]
            generalize hw4 : si (si w3 89 (3810 + (qstp Q).length) (zN na)) 89 4 (zN ((qstp Q).length + 1)) = w4 at *
            have hO4 : rO w w4 := rO_tr (rD_O t4) (by rw [← hw4]; exact rO_si (rO_si (rO_rf w3)))
            have hlen : (qstp (qst Q DL.length)).length = (qstp Q).length + 1 := by
              show (qstp Q ++ [DL.length]).length = _
              rw [List.length_append]; rfl
            have := ih (600 - i3) (by omega) f1 f2 i3 (nt + k) (na + 1) (qst Q DL.length) (DL ++ [D]) m3 w4 rfl (by omega) (by omega) hj
            rw [hlen] at this
            rcases this with ⟨f, p, m5, w5, r1, r2, r3, r4, r5, r6⟩ | ⟨m5, w5, i5, Q5, DL5, nt5, na5, r1, r2, r3, r4, r5⟩
            · exact Or.inl ⟨f, p, m5, w5, r1, r2, cO_tr hOm r3, r4, r5, rO_tr hO4 r6⟩
            · exact Or.inr ⟨m5, w5, i5, Q5, DL5, nt5, na5, r1, r2, r3, cO_tr hOm r4, rO_tr hO4 r5⟩
          have fdead : ∀ {f p : Nat} {w0 : XM} (v : Int32), rX f p w0 → fX9_main_97 N (fun q0 m0 => fX9_main_6 N f2 q0 m0) 85 v w0 = some w0 := fun {f p w0} v hX => by
            unfold fX9_main_97
            rw [r_dead hX, zca]
            simp only [zN_lit, if_true]
          by_cases q5 : tzk b n (tzp b n i) = 264
          · have p5 := tz_nE q5 (by omega)
            have ip5 := tzp_s p5
            have hlen : tzp b n i + 2 ≤ tzp b n (i + 1) := by
              have := (tz_wd (j := 4) hb (by omega) q5).2
              have e : (tzW 4).length = 2 := rfl
              omega
            obtain ⟨we, x1, x2, x3⟩ := r_tw_y (t := 12) (j := 4) d1 (by omega) rfl q5
            have hFe : rF w we := rF_tr d2 x3
            have hS2 := cS_s hS1 p5
            rw [c_ta_y hS1 q5, x1]
            simp only [zca, zN10, if_false, zneg]
            unfold fX1_readMain_128
            have hJ2 : jD N b n d (i + 1) DL nt na (si m1 2 10 (zN (i + 1))) we := jD_mo (m' := si m1 2 10 (zN (i + 1))) (w' := we) h3 (by omega) (fun z j q => by rw [gi_ne (by omega), hf1' z j (by omega) (by omega)]) (fun j => hFe.1 _ _ (by omega)) hFe.2.1
            rcases d_do (x := 84) (a1 := zM) hS2 hJ2 x2 (Or.inl rfl) (by omega) (by omega) with ⟨f, p, m3, v, w3, k1, k2, k3, k4, k5, k6⟩ | ⟨m3, w3, i3, k, l, k1, k2, k3, k4, k5, k6, k7, k8, k9, k10⟩
            · refine Or.inl ⟨f, p, m3, w3, ?_, k2, cO_tr hO1 (cO_tr (cF_O (cF_si (cF_rf _) (by omega))) k3), ?_, k5, rO_tr (rE_O (rF_E hFe)) k6⟩
              · rw [k1, zca]; simp only [zN_lit, if_true]
              · rw [k4, zca]; exact fdead v k5
            · rw [k1, zca, k2, zca]
              simp only [zN_lit, zN10, if_false, zv, zN_add]
              exact fin k3 k8 k4 (rD_tr (rE_D (rF_E hFe)) k9 (Nat.le_refl _) (Nat.le_refl _)) (fun z j r1 r2 r3 r4 r5 => by rw [k5.1 z j r1 r2 r3 r4 r5, gi_ne (by omega)]) (fun z j => by rw [k5.2.1, gr_si, hg1]) (fun z j => by rw [k5.2.2, gl_si, hl1]) k10 (by omega) (tz_ilt h1.2.2.2.2.2.1 (by omega))
          · have q6 : tzk b n (tzp b n i) = 257 := by omega
            obtain ⟨we, x1, x2, -, x3⟩ := r_tw_n (t := 12) (j := 4) d1 (by omega) rfl q5
            have hFe : rF w we := rF_tr d2 x3
            rw [c_ta_n hS1 (by omega) q5, x1]
            simp only [zca, if_true, zneg]
            unfold fX1_readMain_128
            have hJ2 : jD N b n d i DL nt na m1 we := jD_mo (m' := m1) (w' := we) h3 (Nat.le_refl _) (fun z j q => hf1' z j (by omega) (by omega)) (fun j => hFe.1 _ _ (by omega)) hFe.2.1
            rcases d_set (x := 84) (a1 := zM) hS1 hJ2 x2 q6 (Or.inl rfl) (by omega) (by omega) with ⟨f, p, m3, v, w3, k1, k2, k3, k4, k5, k6⟩ | ⟨m3, w3, i3, k, l, q, k1, k2, k3, k4, k5, k6, k7, k8, k9, k10⟩
            · refine Or.inl ⟨f, p, m3, w3, ?_, k2, cO_tr hO1 k3, ?_, k5, rO_tr (rE_O (rF_E hFe)) k6⟩
              · rw [k1, zca]; simp only [zN_lit, if_true]
              · rw [k4, zca]; exact fdead v k5
            · rw [k1, zca, k2, zca]
              simp only [zN_lit, zN10, if_false, zv, zN_add]
              exact fin k3 k8 k4 (rD_tr (rE_D (rF_E hFe)) k9 (Nat.le_refl _) (Nat.le_refl _)) (fun z j r1 r2 r3 r4 r5 => k5.1 z j r1 r2 r3 r4 r5) (fun z j => by rw [k5.2.1, hg1]) (fun z j => by rw [k5.2.2, hl1]) k10 (by omega) (tz_ilt h1.2.2.2.2.2.1 (by omega))
      · rw [if_neg q3, if_neg (show ¬ tzk b n (tzp b n i) = 260 + 4 by omega), if_pos rfl, c1, if_neg (show ¬ tzk b n (tzp b n i) = 257 by omega), zca, if_pos rfl]
        obtain ⟨m1, e1, e2, e3⟩ := c_ref (f := 1) h1 (by omega) (by omega)
        obtain ⟨we, x1, x2, x3⟩ := r_wrong (N := N) (f := 1) (p := tzp b n i) c2.2.1 (by omega) (by omega)
        refine Or.inl ⟨1, tzp b n i, m1, we, ?_, e2, cF_O e3, ?_, x2, rE_O (rE_tr (rF_E hFc) x3)⟩
        · rw [e1, zca, znbN0]
        · unfold fX9_main_132
          simp only [zv, c3, x1, zca]
          exact hdead x2
end SA
