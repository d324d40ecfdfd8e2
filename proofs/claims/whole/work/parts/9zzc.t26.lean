/-! ===== t: the whole text, of both, up to its end ===== -/
/-- all is told, and the text has ended -/
def jE (N : Nat → Nat) (b : Nat → Nat) (n d : Nat) (Q : pQ) (DL : List pD) (nt na : Nat) (m w : XM) : Prop := cR N d m ∧ gi m 2 12 = zN 0 ∧ (∃ i, rS N b n i w ∧ jD N b n d i DL nt na m w ∧ tzp b n i ≤ 600) ∧ cQ m d Q ∧ rQ w Q DL nt na ∧ qW Q ∧ 3 * DL.length ≤ 600 ∧ 4 * na ≤ 600
def tFa (N : Nat → Nat) (d : Nat) (m w : XM) (cr rr : Option (Int32 × XM)) : Prop := ∃ f p m' w', cr = some (zN f, m') ∧ cX f p m' ∧ cO d m m' ∧ rr = fX9_text_143 N 85 w' ∧ rX f p w' ∧ rO w w'
def tOk (N : Nat → Nat) (b : Nat → Nat) (n d : Nat) (m w : XM) (cr rr : Option (Int32 × XM)) : Prop := ∃ m' w' Q DL nt na, cr = (xca (fX1_resolveAll N 2 m') fun _ m8 => some (gi m8 2 12, m8)) ∧ rr = fX9_text_143 N 85 w' ∧ jE N b n d Q DL nt na m' w' ∧ cO d m m' ∧ rO w w'
section SB
variable {N : Nat → Nat} {b : Nat → Nat} {n d : Nat}
theorem tx_118 {f p : Nat} {w : XM} (h : rX f p w) : fX9_text_118 N 85 w = fX9_text_143 N 85 w := by
  unfold fX9_text_118
  rw [r_dead h, zca]
  simp only [zN_lit, if_true]
theorem tx_104 {f p : Nat} {w : XM} (h : rX f p w) : fX9_text_104 N 85 w = fX9_text_143 N 85 w := by
  unfold fX9_text_104
  rw [r_tw_d h, zca]
  simp only [zN_lit, if_true]
  exact tx_118 h
theorem tx_80 {f p F : Nat} {w : XM} (h : rX f p w) : fX9_text_80 N (F + 1) 85 w = fX9_text_143 N 85 w := by
  rw [fX9_text_80, zv, r_dead h, zca]
  simp only [zN_lit, if_true]
  exact tx_104 h
theorem t_end {i nt na : Nat} {Q : pQ} {DL : List pD} {m w : XM} (h : jQ N b n d i Q DL nt na m w) : tFa N d m w (xca (fX1_mustTake N 2 zM m) fun v6 m5 => if (v6 : Int32) = zN 0 then (some (gi m5 2 12, m5)) else (xca (fX1_resolveAll N 2 m5) fun _ m8 => some (gi m8 2 12, m8))) (fX9_text_118 N 85 w)
    ∨ tOk N b n d m w (xca (fX1_mustTake N 2 zM m) fun v6 m5 => if (v6 : Int32) = zN 0 then (some (gi m5 2 12, m5)) else (xca (fX1_resolveAll N 2 m5) fun _ m8 => some (gi m8 2 12, m8))) (fX9_text_118 N 85 w) := by
  have hbd := jQ_bd h
  have hh := h
  obtain ⟨h1, h2, h3, h4, h5, h6, h7, h8⟩ := h
  have hb := h1.2.2.2.1
  have hii := cS_i h1
  obtain ⟨wa, a1, a2, a3, a4⟩ := r_here h2
  unfold fX9_text_118
  rw [r_fine h2, zca, a1, ← zKE]
  simp only [zN_lit, zN10, if_false, zca, zneg]
  by_cases q : n ≤ tzp b n i
  · have hk := tzk_E (b := b) q
    have hB : tzB b n (tzp b n i) = zM := if_neg (by omega)
    rw [c_mu_y h1 hk, zca, if_neg (by rw [zN10]; exact id), hB, if_pos rfl]
    have gm : ∀ z j, z ≠ 2 → gi (si m 2 10 (zN (i + 1))) z j = gi m z j := fun z j q => gi_ne (by omega)
    have hd := h1.1.1
    refine Or.inr ⟨si m 2 10 (zN (i + 1)), wa, Q, DL, nt, na, rfl, rfl, ⟨cR_g h1.1 (fun _ _ => rfl), by rw [gi_ne (by omega)]; exact h1.2.2.1.2, ⟨i, a2, jD_mo (m' := si m 2 10 (zN (i + 1))) (w' := wa) h3 (Nat.le_refl _) (fun z j q => gm z j (by omega)) (fun j => a4.1 _ _ (by omega)) a4.2.1, by omega⟩, ?_, rQ_F h5 a4, h6, by omega, by omega⟩, cF_O (cF_si (cF_rf _) (by omega)), rE_O (rF_E a4)⟩
    obtain ⟨c1, c2, c3, c4, c5, c6, c7, c8⟩ := h4
    exact ⟨by rw [gm _ _ (by omega)]; exact c1, by rw [gm _ _ (by omega)]; exact c2, fun y hy => by rw [gm _ _ (by omega), gm _ _ (by omega)]; exact c3 y hy, fun y hy => by rw [gm _ _ (by omega)]; exact c4 y hy, fun x hx => by rw [gm _ _ (by omega), gm _ _ (by omega), gm _ _ (by omega), gm _ _ (by omega), gm _ _ (by omega), gm _ _ (by omega)]; exact c5 x hx, fun y c hy hc => by rw [gm _ _ (by omega)]; exact c6 y c hy hc, fun L hL => by rw [gm _ _ (by omega)]; exact c7 L hL, fun k j hj => by rw [gm _ _ (by omega)]; exact c8 k j hj⟩
  · have hk : ¬ tzk b n (tzp b n i) = 4294967295 := by have := tzk_300 hb (p := tzp b n i) (by omega); omega
    have hB : ¬ tzB b n (tzp b n i) = zN 4294967295 := by
      have := hb (tzp b n i) (by omega)
      unfold tzB
      rw [if_pos (by omega), zKE, zN_m (by omega)]
      exact id
    obtain ⟨m1, c1, c2, c3⟩ := c_mu_n h1 (c := 4294967295) (by omega) hk
    obtain ⟨wb, d1, d2, d3⟩ := r_wrong (N := N) (f := 1) (p := tzp b n i) a2.2.1 (by omega) (by omega)
    rw [c1, zca, if_pos rfl, ← zKE, if_neg hB]
    simp only [zv, a3, d1, zca]
    exact Or.inl ⟨1, tzp b n i, m1, wb, by rw [c2.1], c2, cF_O c3, rfl, d2, rE_O (rE_tr (rF_E a4) d3)⟩
theorem t_main {i nt na : Nat} {Q : pQ} {DL : List pD} {m w : XM} (h : jQ N b n d i Q DL nt na m w) (hs : qstp Q = []) : tFa N d m w (fX1_readText_75 N 2 (zN 1) m) (fX9_text_104 N 85 w) ∨ tOk N b n d m w (fX1_readText_75 N 2 (zN 1) m) (fX9_text_104 N 85 w) := by
  have hX := zXF
  have hh := h
  obtain ⟨h1, h2, h3, h4, h5, h6, h7, h8⟩ := h
  have hb := h1.2.2.2.1
  have hii := cS_i h1
  have ec : fX1_readText_75 N 2 (zN 1) m = (xca (fX1_readMain N 2 m) fun v3 m2 => if (v3 : Int32) = zN 0 then (some (gi m2 2 12, m2)) else (xca (fX1_mustTake N 2 zM m2) fun v6 m5 => if (v6 : Int32) = zN 0 then (some (gi m5 2 12, m5)) else (xca (fX1_resolveAll N 2 m5) fun _ m8 => some (gi m8 2 12, m8)))) := by
    unfold fX1_readText_75
    simp only [zN_lit, zN10, if_false, zv, zneg]
  rw [ec]
  unfold fX1_readMain fX9_text_104
  simp only [zN_lit]
  by_cases q1 : tzk b n (tzp b n i) = 261
  · have p1 := tz_nE q1 (by omega)
    have ip := tzp_s p1
    obtain ⟨wa, a1, a2, a3⟩ := r_tw_y (t := 9) (j := 1) h2 (by omega) rfl q1
    have hS1 := cS_s h1 p1
    rw [c_ta_y h1 q1, a1]
    simp only [zca, zN10, if_false]
    unfold fX9_main
    simp only [zN_lit]
    by_cases q2 : tzk b n (tzp b n (i + 1)) = 123
    · have p2 := tz_nE q2 (by omega)
      have ip2 := tzp_s p2
      obtain ⟨wb, b1, b2, b3⟩ := r_mu_y (c := 123) a2 (by omega) q2
      have hS2 := cS_s hS1 p2
      have hFb : rF w wb := rF_tr a3 b3
      rw [c_mu_y hS1 q2, b1]
      simp only [zca, zN10, if_false, zcv]
      have hj := jQ_tk hh hS2 b2 (by omega) (fun z j q => by rw [gi_ne (by omega), gi_ne (by omega)]) hFb
      have := u_main (600 - (i + 1 + 1)) XF XF (i + 1 + 1) nt na Q DL _ wb rfl (by omega) (by omega) hj
      rw [hs] at this
      have hcF : cF m (si (si m 2 10 (zN (i + 1))) 2 10 (zN (i + 1 + 1))) := cF_si (cF_si (cF_rf m) (by omega)) (by omega)
      rcases this with ⟨f, p, m5, w5, r1, r2, r3, r4, r5, r6⟩ | ⟨m5, w5, i5, Q5, DL5, nt5, na5, r1, r2, r3, r4, r5⟩
      · have r1' : fX1_readMain_25 N XF 2 (zN 0) (si (si m 2 10 (zN (i + 1))) 2 10 (zN (i + 1 + 1))) = some (zN 0, m5) := r1
        refine Or.inl ⟨f, p, m5, w5, ?_, r2, cO_tr (cF_O hcF) r3, ?_, r5, rO_tr (rE_O (rF_E hFb)) r6⟩
        · rw [r1', zca, if_pos rfl, r2.1]
        · rw [r4, zcv, tx_118 r5]
      · have r1' : fX1_readMain_25 N XF 2 (zN 0) (si (si m 2 10 (zN (i + 1))) 2 10 (zN (i + 1 + 1))) = some (zN 1, m5) := r1
        rw [r1', zca, if_neg (by rw [zN10]; exact id), r2, zcv]
        rcases t_end r3 with ⟨f, p, m6, w6, s1, s2, s3, s4, s5, s6⟩ | ⟨m6, w6, Q6, DL6, nt6, na6, s1, s2, s3, s4, s5⟩
        · exact Or.inl ⟨f, p, m6, w6, s1, s2, cO_tr (cF_O hcF) (cO_tr r4 s3), s4, s5, rO_tr (rE_O (rF_E hFb)) (rO_tr r5 s6)⟩
        · exact Or.inr ⟨m6, w6, Q6, DL6, nt6, na6, s1, s2, s3, cO_tr (cF_O hcF) (cO_tr r4 s4), rO_tr (rE_O (rF_E hFb)) (rO_tr r5 s5)⟩
    · obtain ⟨m5, f1, f2, f3⟩ := c_mu_n hS1 (c := 123) (by omega) q2
      obtain ⟨wb, b1, b2, b3⟩ := r_mu_n (c := 123) a2 (by omega) q2
      obtain ⟨F, hF⟩ : ∃ F, XF = F + 1 := ⟨XF - 1, by omega⟩
      refine Or.inl ⟨1, tzp b n (i + 1), m5, wb, ?_, f2, cF_O (cF_tr (cF_si (cF_rf m) (by omega)) f3), ?_, b2, rE_O (rE_tr (rF_E a3) b3)⟩
      · rw [f1]; simp only [zca, if_true]; rw [f2.1]
      · rw [b1, zcv, hF, fX9_main_6, zv, r_dead b2, zca]
        unfold fX9_main_135
        simp only [zN_lit, if_true, r_mu_d b2, zcv]
        exact tx_118 b2
  · obtain ⟨wa, a1, a2, -, a3⟩ := r_tw_n (t := 9) (j := 1) h2 (by omega) rfl q1
    rw [c_ta_n h1 (by omega) q1, a1]
    simp only [zca, if_true, zN10, if_false]
    rcases t_end (jQ_F hh a3 a2) with ⟨f, p, m6, w6, s1, s2, s3, s4, s5, s6⟩ | ⟨m6, w6, Q6, DL6, nt6, na6, s1, s2, s3, s4, s5⟩
    · exact Or.inl ⟨f, p, m6, w6, s1, s2, s3, s4, s5, rO_tr (rE_O (rF_E a3)) s6⟩
    · exact Or.inr ⟨m6, w6, Q6, DL6, nt6, na6, s1, s2, s3, s4, rO_tr (rE_O (rF_E a3)) s5⟩
theorem t_units : ∀ (g f1 f2 i nt na : Nat) (Q : pQ) (DL : List pD) (m w : XM), 600 - i = g → g + 1 < f1 → g + 1 < f2 → jQ N b n d i Q DL nt na m w → qstp Q = [] → tFa N d m w (fX1_readText_36 N f1 2 (zN 1) (zN (qn Q)) m) (fX9_text_80 N f2 85 w) ∨ tOk N b n d m w (fX1_readText_36 N f1 2 (zN 1) (zN (qn Q)) m) (fX9_text_80 N f2 85 w) := by
  intro g
  induction g using Nat.strongRecOn with
  | _ g ih =>
    intro f1 f2 i nt na Q DL m w hg hf1 hf2 h hs
    obtain ⟨f1, rfl⟩ : ∃ f, f1 = f + 1 := ⟨f1 - 1, by omega⟩
    obtain ⟨f2, rfl⟩ : ∃ f, f2 = f + 1 := ⟨f2 - 1, by omega⟩
    have hh := h
    obtain ⟨h1, h2, h3, h4, h5, h6, h7, h8⟩ := h
    have hb := h1.2.2.2.1
    have hn := h6.1
    have hii := cS_i h1
    obtain ⟨wa, a1, a2, a3, a4⟩ := r_word (t := 8) (j := 0) h2 (by omega) rfl
    have hhj := jQ_F hh a4 a2
    rw [fX1_readText_36, zv, fX9_text_80, zv, r_fine h2, zca]
    simp only [zN_lit, zN10, if_false, a1, zca]
    simp (disch := omega) only [zN_lt]
    rw [if_neg (show ¬ 7 < qn Q by omega), cs_k h1]
    by_cases q1 : tzk b n (tzp b n i) = 260
    · rw [q1, if_pos rfl, if_pos rfl, if_neg (by rw [zN10]; exact id)]
      rcases uu_unit hhj q1 a3 with ⟨f, p, m1, w1, k1, k2, k3, k4, k5, k6⟩ | ⟨m1, w1, i', Q', DL', nt', na', k1, k2, k3, k4, k5, k6, k7, k8⟩
      · obtain ⟨f1, rfl⟩ : ∃ f, f1 = f + 1 := ⟨f1 - 1, by omega⟩
        obtain ⟨f2, rfl⟩ : ∃ f, f2 = f + 1 := ⟨f2 - 1, by omega⟩
        refine Or.inl ⟨f, p, m1, w1, ?_, k2, k3, ?_, k5, rO_tr (rE_O (rF_E a4)) k6⟩
        · rw [k1, zca, zv, fX1_readText_36, zv]
          unfold fX1_readText_75
          simp only [zN_lit, if_true, zv, zN_add]
          split <;> rw [k2.1]
        · rw [k4, zcv, tx_80 k5]
      · rw [k1, zca, k2, zcv]
        simp only [zv, zN_add]
        have hi' := cS_i k3.1
        have := ih (600 - i') (by omega) f1 f2 i' nt' na' Q' DL' m1 w1 rfl (by omega) (by omega) k3 (by rw [k6]; exact hs)
        rw [k4] at this
        rcases this with ⟨f, p, m6, w6, s1, s2, s3, s4, s5, s6⟩ | ⟨m6, w6, Q6, DL6, nt6, na6, s1, s2, s3, s4, s5⟩
        · exact Or.inl ⟨f, p, m6, w6, s1, s2, cO_tr k7 s3, s4, s5, rO_tr (rE_O (rF_E a4)) (rO_tr k8 s6)⟩
        · exact Or.inr ⟨m6, w6, Q6, DL6, nt6, na6, s1, s2, s3, cO_tr k7 s4, rO_tr (rE_O (rF_E a4)) (rO_tr k8 s5)⟩
    · rw [if_neg (by rw [zK (tzk_lt hb _) (by omega)]; exact q1), if_neg (show ¬ tzk b n (tzp b n i) = 260 + 0 from q1), if_pos rfl]
      rcases t_main hhj hs with ⟨f, p, m6, w6, s1, s2, s3, s4, s5, s6⟩ | ⟨m6, w6, Q6, DL6, nt6, na6, s1, s2, s3, s4, s5⟩
      · exact Or.inl ⟨f, p, m6, w6, s1, s2, s3, s4, s5, rO_tr (rE_O (rF_E a4)) s6⟩
      · exact Or.inr ⟨m6, w6, Q6, DL6, nt6, na6, s1, s2, s3, s4, rO_tr (rE_O (rF_E a4)) s5⟩
end SB
