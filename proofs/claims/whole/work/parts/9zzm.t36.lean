/-! ===== t: text as a call ===== -/
section SM
variable {N : Nat → Nat} {m w : XM} {c d : Nat} {S : zJ}
theorem jC_cR (hC : jC N m c d S) : cR N d m ∧ tzG N m ∧ N 1 = 600 ∧ gr m 0 2 = some 2 ∧ gr m 0 0 = some 1 ∧ gr m 0 3 = some c ∧ gr m 0 4 = some 46 ∧ gr m 0 9 = some 77 := by
  obtain ⟨⟨n1, nU3, ⟨n21, n22, n23, n25, n26, n27⟩, nU28, -⟩, ⟨hcd, ⟨a1, a2, a3, a4, a5, a6, a7, a8, a9⟩, ⟨b1, b2, b3, b4, b5, b6, b7⟩, -, u3, u28, -⟩, -⟩ := hC
  refine ⟨⟨by omega, ?_, ⟨n21, n22, n23⟩, ?_, b1, b2, b3, b4⟩, ⟨⟨n25, n26, n27⟩, b5, b6, b7⟩, n1, a2, a1, a3, a4, a8⟩
  · rcases hcd with e | e
    · rw [e.2]; exact nU3
    · rw [e.2]; exact nU28
  · rcases hcd with e | e
    · rw [e.2]; exact u3
    · rw [e.2]; exact u28
/-- the two run the same text -/
theorem t_joint {n : Nat} (hC : jC N m c d S) (hM : jM N w S) (hn : n ≤ jt S) : ∃ v m1 w3 c' d' S', fX8_text_18 N 0 (zN n) 0 (zN 1) m = some (v, m1) ∧ fxX8_text_18 N 0 (zN n) 0 (zN 1) m = none ∧ fX9_text N 85 (zN n) w = some (v, w3) ∧ jC N m1 c' d' S' ∧ jM N w3 S' ∧ jfc m m1 ∧ jfm w w3 ∧ gi w3 85 0 = zN 0 := by
  have hX := zXF
  obtain ⟨hR, hG, hN1, r02, r00, r03, r04, r09⟩ := jC_cR hC
  obtain ⟨h0, hfm0⟩ := jM_0 hM
  obtain ⟨t1, t2, t3, t4, t5, t6⟩ := id hC.2.2.2.2.2.2.2.1
  have hd := hR.1
  have hcd := hC.2.1.1
  have hb : ∀ k, k < n → jb S k < 256 := fun k hk => (t6 k (by omega)).1
  obtain ⟨m7, a1, a2, a3, a4, a5, a6, a7⟩ := c_begin (b := jb S) (n := n) hN1 (by omega) hb (fun k hk => (t6 k (by omega)).2) hG hR
  -- the other one's beginning
  generalize hw0 : si w 85 0 (zN 0) = w0 at *
  obtain ⟨⟨g1, g2, g3, g4, g5, g6, g7, ⟨k1, k2, k3, k4, k5, k6⟩, g9, g10, g11⟩, hz0⟩ := id h0
  have hyN := g1.2.2.2.2.2.2.2.2.2.2.1
  have m87 : N 87 = 600 := hyN.2.1
  have m89 : N 89 = 3820 := hyN.2.2.2.1
  have r10 : gr w0 85 10 = some 89 := g2.2.2.2.1
  generalize hw1 : si (si (si (si (si w0 85 2 (zN 0)) 85 3 (zN n)) 85 4 (zN 0)) 85 6 (zN 0)) 85 7 zM = w1
  have f1 : ∀ z k, ¬ (z = 85 ∧ (k = 2 ∨ k = 3 ∨ k = 4 ∨ k = 6 ∨ k = 7)) → gi w1 z k = gi w0 z k := fun z k q => by rw [← hw1, gi_ne (by omega), gi_ne (by omega), gi_ne (by omega), gi_ne (by omega), gi_ne (by omega)]
  have gr1 : ∀ z k, gr w1 z k = gr w0 z k := fun z k => by rw [← hw1]; rfl
  have gl1 : ∀ z k, gl w1 z k = gl w0 z k := fun z k => by rw [← hw1]; rfl
  have v2 : gi w1 85 2 = zN 0 := by rw [← hw1, gi_ne (by omega), gi_ne (by omega), gi_ne (by omega), gi_ne (by omega), gi_si]
  have v3 : gi w1 85 3 = zN n := by rw [← hw1, gi_ne (by omega), gi_ne (by omega), gi_ne (by omega), gi_si]
  have v4 : gi w1 85 4 = zN 0 := by rw [← hw1, gi_ne (by omega), gi_ne (by omega), gi_si]
  have v6 : gi w1 85 6 = zN 0 := by rw [← hw1, gi_ne (by omega), gi_si]
  have v7 : gi w1 85 7 = zM := by rw [← hw1, gi_si]
  obtain ⟨w2, b1, b2, b3, b4, b5⟩ := r_60 m89 3820 XF 0 w1 (by omega) (by omega) (by omega) (by rw [gr1]; exact r10)
  have e2 : ∀ z k, z ≠ 89 → gi w2 z k = gi w1 z k := fun z k q => b3 z k (by omega)
  have er : fX9_text N 85 (zN n) w = fX9_text_80 N XF 85 w2 := by
    unfold fX9_text
    simp only [zv, zN_lit]
    rw [hw0, k2, y_in1 (by omega) hn, zca]
    simp only [zN10, if_false]
    unfold fX9_text_23
    simp only [zN_lit]
    rw [jM_bad0 h0, zca]
    simp only [zv, if_true, zneg, zN_lit]
    rw [hw1]; exact b1
  have hrS : rS N (jb S) n 0 w2 := ⟨⟨m87, by omega, hb, by rw [b4, gr1]; exact g2.2.1, by rw [e2 _ _ (by omega)]; exact v3, fun k hk => by rw [e2 _ _ (by omega), f1 _ _ (by omega)]; exact k6 k (by omega)⟩, by rw [e2 _ _ (by omega)]; exact v6, fun j hj => absurd hj (Nat.not_lt_zero _), 0, by rw [e2 _ _ (by omega)]; exact v4, ⟨Nat.zero_le _, by rw [e2 _ _ (by omega)]; exact v7⟩, rfl⟩
  have hrN : rN N w2 := ⟨m89, by rw [b4, gr1]; exact r10⟩
  have hjQ : jQ N (jb S) n d 0 qZ [] 0 0 m7 w2 := by
    refine ⟨a2, hrS, ⟨⟨a4, a5, trivial, Nat.zero_le _⟩, ⟨hrN, b2 _ (by omega) (by omega), b2 _ (by omega) (by omega), Nat.zero_le _, pfl_nil, ⟨fun a h => absurd h (Nat.not_lt_zero _), fun D h => by simp at h⟩⟩, Nat.zero_le _, fun D h => by simp at h⟩, a3, ⟨b2 _ (by omega) (by omega), b2 _ (by omega) (by omega), b2 _ (by omega) (by omega), fun u hu => absurd hu (Nat.not_lt_zero _), fun x hx => absurd hx (qZ_ok x), fun k j hj => by simp [qstp, qZ] at hj⟩, qZ_W, Nat.zero_le _, Nat.zero_le _⟩
  have hgo := t_units (600 - 0) XF XF 0 0 0 qZ [] m7 w2 rfl (by omega) (by omega) hjQ rfl
  have hgo' : tFa N d m7 w2 (fX1_readText N 2 1 (zN n) m) (fX9_text N 85 (zN n) w) ∨ tOk N (jb S) n d m7 w2 (fX1_readText N 2 1 (zN n) m) (fX9_text N 85 (zN n) w) := by
    rw [a1, er]; exact hgo
  -- frames of both
  have FC : ∀ {m8 : XM}, cO d m7 m8 → (∀ z k, z ≠ 2 → ¬ (21 ≤ z ∧ z ≤ 27) → ¬ (d ≤ z ∧ z < d + 18) → gi m8 z k = gi m z k) ∧ ∀ z k, ¬ (z = 2 ∧ k = 4) → gr m8 z k = gr m z k := fun {m8} h => ⟨fun z k q1 q2 q3 => by rw [h.1 z k (by omega) (by omega) q3, a6 z k q1 q2 q3], fun z k q => by rw [h.2.1, a7 z k q]⟩
  have FM : ∀ {w3 : XM}, rO w2 w3 → (∀ z k, ¬ (z = 85 ∧ (k = 2 ∨ k = 3 ∨ k = 4 ∨ k = 6 ∨ k = 7 ∨ k = 17)) → z ≠ 89 → gi w3 z k = gi w0 z k) ∧ (∀ z k, gr w3 z k = gr w0 z k) ∧ (∀ z k, gl w3 z k = gl w0 z k) ∧ gi w3 85 2 = zN 0 := fun {w3} h => ⟨fun z k q1 q2 => by rw [h.1 z k (by omega) q2, e2 z k q2, f1 z k (by omega)], fun z k => by rw [h.2.1, b4, gr1], fun z k => by rw [h.2.2, b5, gl1], by rw [h.1 _ _ (by omega) (by omega), e2 _ _ (by omega)]; exact v2⟩
  have hjfc : ∀ {m8 : XM}, cO d m7 m8 → jfc m m8 := fun {m8} h a k q => ⟨(FC h).1 a k (by omega) (by omega) (by omega), (FC h).2 a k (by omega)⟩
  have need : fX8_needArgument N 0 (zN 1) m = some m := by
    unfold fX8_needArgument
    simp only [zN_lit, zN10, if_false]
  have needx : fxX8_needArgument N 0 (zN 1) m = none := by
    unfold fxX8_needArgument
    simp only [zN_lit, zN10, if_false]
  -- the end with a fault
  have fault : ∀ {f p : Nat} {m8 w3 : XM}, fX1_readText N 2 1 (zN n) m = some (zN f, m8) → cX f p m8 → cO d m7 m8 → fX9_text N 85 (zN n) w = fX9_text_143 N 85 w3 → rX f p w3 → rO w2 w3 → ∃ v m1 w3 c' d' S', fX8_text_18 N 0 (zN n) 0 (zN 1) m = some (v, m1) ∧ fxX8_text_18 N 0 (zN n) 0 (zN 1) m = none ∧ fX9_text N 85 (zN n) w = some (v, w3) ∧ jC N m1 c' d' S' ∧ jM N w3 S' ∧ jfc m m1 ∧ jfm w w3 ∧ gi w3 85 0 = zN 0 := fun {f p m8 w3} s1 s2 s3 s4 s5 s6 => by
    obtain ⟨fc1, fc2⟩ := FC s3
    obtain ⟨fm1, fm2, fm3, fm4⟩ := FM s6
    obtain ⟨x1, x2, x3, x4⟩ := tf_M h0 fm1 fm2 fm3 fm4 s5
    have hf0 : ¬ zN f = zN 0 := by rw [zN_eq (by have := s2.2.2.2; omega) (by omega)]; have := s2.2.2.1; omega
    have r2' : gr m8 0 2 = some 2 := by rw [fc2 _ _ (by omega)]; exact r02
    refine ⟨zN f - zN 10, si (si m8 0 1 (zN 0)) 0 11 (zN p), si w3 85 5 (zN p), c, d, _, ?_, ?_, by rw [s4]; exact x1, tf_C (p := p) hC fc1 fc2, x2, jfc_si (jfc_si (hjfc s3) (by omega)) (by omega), jfm_tr hfm0 x3, x4⟩
    · unfold fX8_text_18 fX1_faultPlace
      rw [need, zcv, zgr r02, zgr r00, s1, zca]
      simp only [zv, zN_lit, hf0, if_false, zgr_si, zgr r2', zca]
      rw [gi_ne (by omega), s2.2.1]
    · unfold fxX8_text_18 fX1_faultPlace
      simp only [needx, xcx, need, zcv, zgr r02, zgr r00, s1, zca]
      simp only [zv, zN_lit, hf0, if_false, zgr_si, zgr r2', zca]
  rcases hgo' with ⟨f, p, m8, w3, s1, s2, s3, s4, s5, s6⟩ | ⟨m8, w3, Q, DL, nt, na, s1, s2, ⟨e1, e2', ⟨i, e3, e4, e5⟩, e6, e7, e8, e9, e10⟩, s4, s5⟩
  · exact fault s1 s2 s3 s4 s5 s6
  · obtain ⟨⟨d1, d2, d3, d4⟩, ⟨d5, d6, d7, d8, d9, d10⟩, d11, d12⟩ := e4
    obtain ⟨-, -, -, ⟨-, -, -, -, -, -, -, -, -, -, -, q13, -⟩, q0, -⟩ := id e1
    have hV : qV Q := fun x hx hk => by
      obtain ⟨v, x1, -, -, x4⟩ := (e7.2.2.2.2.1 x hx).2.2.1 hk
      exact ⟨v, x1, x4⟩
    have hkey : ∀ D ∈ DL, ∀ q ∈ D.1, q.1 < 7 ∧ (q.1 = 1 ∨ q.1 = 2 → q.2.1 < 182) := fun D hD q hq => ⟨pcw_7 _ _ _ (d12 D hD).1 q hq, fun hk => by
      obtain ⟨t, -, -, hl⟩ := d9.2 q (pcs_mem hD hq) hk
      exact (pleaf_k hl hk).2.2.2.2⟩
    have eR : fX1_resolveAll N 2 m8 = fX1_resolveAll_10 N XF 2 (d + 12) (zN 0) m8 := by
      unfold fX1_resolveAll
      rw [zgr q0, zgr q13]
      simp only [zN_lit]
    rcases c_alls e8 hV (M := DL.length) (by omega) DL 0 0 0 (tzp (jb S) n i) XF m8 (by omega) e1 e6 d1 (Nat.zero_add _) d3 (by omega) d11 hkey (fun D hD t ht => (d12 D hD).2 t ht) with ⟨p, m9, y1, y2, y3, y4, y5⟩ | ⟨y1, m9, y2, y3, y4, y5, y6⟩
    · -- a name that is not there
      obtain ⟨x, x1, x2⟩ := r_mis d5 e7 e8 (by omega) (by omega) d6 d7 d9 d10 d11 e5
      have hxp : x = zN p := by
        rcases x1 with ⟨-, r⟩ | ⟨p', r1, r2, r3, r4⟩
        · exact absurd y4.1 (r p)
        · have h1 := y4.2 p' r3
          have h2 := r4 p y4.1
          rw [r1, show p' = p by omega]
      have hp6 : p ≤ 600 := by
        rcases x1 with ⟨-, r⟩ | ⟨p', r1, r2, r3, r4⟩
        · exact absurd y4.1 (r p)
        · have h2 := y4.2 p' r3
          omega
      obtain ⟨w4, z1, z2, z3⟩ := r_wrong (N := N) (f := 5) (p := p) e3.2.1 (by omega) (by omega)
      refine fault (f := 5) (p := p) (m8 := m9) (w3 := w4) ?_ ⟨y2, y3, by omega, by omega⟩ (cO_tr s4 ⟨fun z k r1 r2 r3 => y5.1 z k (by omega) (by omega) (by omega), y5.2⟩) ?_ z2 (rO_tr s5 (rE_O z3))
      · rw [s1, eR, y1, zca, y2]
      · rw [s2]
        have hdead : fX9_text_143 N 85 w4 = fX9_text_171 N 85 w4 := by
          unfold fX9_text_143
          rw [r_dead z2, zca]
          simp only [zN_lit, if_true, zneg]
          unfold fX9_text_158
          simp only [zN_lit, zneg, if_true]
        rw [hdead]
        unfold fX9_text_143
        rw [r_fine e3, zca]
        simp only [zN_lit, zN10, if_false]
        rw [x2, zca, hxp]
        unfold fX9_text_158
        simp only [zN_lit, zneg]
        rw [if_neg (by rw [zN_m (by omega)]; exact id), z1, zca]
    · -- nothing is wrong
      have hG : qG Q DL := ⟨e8, hV, d12, fun D hD q hq hbc => y1 q.2.2 (Or.inr ⟨q, pcs_mem hD hq, hbc, rfl⟩), fun D hD t ht hbt => y1 t.2 (Or.inl ⟨D, hD, t, ht, hbt, rfl⟩)⟩
      have hO9 : cO d m7 m9 := cO_tr s4 ⟨fun z k r1 r2 r3 => y4 z k (by omega) (by omega), y5, y6⟩
      obtain ⟨fc1, fc2⟩ := FC hO9
      obtain ⟨fm1, fm2, fm3, fm4⟩ := FM s5
      obtain ⟨q7, -, ⟨-, h7⟩, -⟩ := e3.2.2.2
      obtain ⟨w7, x1, x2, x3, x4⟩ := ts_M (hi := tzp (jb S) n i) h0 hG e7 (by omega) (by omega) d5 d6 d7 d9 d10 d11 e5 y1 e3.2.1 h7 fm1 fm2 fm3 fm4
      have hV9 : cV d 0 0 m8 m9 := ⟨fun z k r1 r2 r3 => y4 z k (by omega) (by omega), y5, y6⟩
      have hU : jU m9 d (qP Q DL) := q_jU hG e7 (cQ_V hd hV9 e6) y3 (by omega) (by omega)
      have h12 : gi m9 2 12 = zN 0 := by rw [y4 _ _ (by omega) (by omega)]; exact e2'
      have hD0 : gi m9 d 0 = zN (qn Q) := (cQ_V hd hV9 e6).1
      have rr : ∀ z k, ¬ (z = 2 ∧ k = 4) → gr m9 z k = gr m z k := fc2
      have s1' : fX1_readText N 2 1 (zN n) m = some (zN 0, m9) := by rw [s1, eR, y2, zca, h12]
      have r20 : gr m9 2 0 = some d := by rw [rr _ _ (by omega)]; exact hR.2.2.2.2.1
      have ee : ∀ κ : Int32 → XM → Option (Int32 × XM), True := fun _ => trivial
      refine ⟨zN (qn Q), _, w7, d, c, _, ?_, ?_, by rw [s2]; exact x1, ts_C hC (q_jW hG e7) hU fc1 fc2, x2, ?_, jfm_tr hfm0 x3, x4⟩
      · unfold fX8_text_18 fX1_handOver fX0_forget
        rw [need, zcv, zgr r02, zgr r00, s1', zca]
        simp only [zv, zN_lit, if_true, zneg]
        rw [zgr_si, zgr_si, zgr (u := 2) (by rw [rr _ _ (by omega)]; exact r02), zgr_si, zgr_si, zgr (u := c) (by rw [rr _ _ (by omega)]; exact r03), zgr_si, zgr_si, zgr r20]
        simp only [zca]
        rw [zgr (u := 46) (by rw [gr_ne (by omega), gr_ne (by omega), gr_si, gr_si, rr _ _ (by omega)]; exact r04), zcv, u_forget (by rw [gr_si, gr_ne (by omega), gr_ne (by omega), gr_si, gr_si, rr _ _ (by omega)]; exact r09), zcv, zgr (u := d) (by rw [gr_si, gr_si, gr_si, gr_sr])]
        rw [gi_ne (by omega), gi_ne (by omega), gi_ne (by omega), gi_sr, gi_sr, gi_ne (by omega), gi_ne (by omega), hD0]
      · unfold fxX8_text_18 fX1_handOver fX0_forget
        simp only [needx, xcx, need, zcv, zgr r02, zgr r00, s1', zca]
        simp only [zv, zN_lit, if_true, zneg]
        rw [zgr_si, zgr_si, zgr (u := 2) (by rw [rr _ _ (by omega)]; exact r02), zgr_si, zgr_si, zgr (u := c) (by rw [rr _ _ (by omega)]; exact r03), zgr_si, zgr_si, zgr r20]
        simp only [zca]
        rw [zgr (u := 46) (by rw [gr_ne (by omega), gr_ne (by omega), gr_si, gr_si, rr _ _ (by omega)]; exact r04), zcv, u_forget (by rw [gr_si, gr_ne (by omega), gr_ne (by omega), gr_si, gr_si, rr _ _ (by omega)]; exact r09), zcv, zgr (u := d) (by rw [gr_si, gr_si, gr_si, gr_sr])]
      · intro a k q
        refine ⟨?_, ?_⟩
        · rw [gi_ne (by omega), gi_ne (by omega), gi_ne (by omega), gi_sr, gi_sr, gi_ne (by omega), gi_ne (by omega)]
          exact fc1 a k (by omega) (by omega) (by omega)
        · rw [gr_si, gr_si, gr_si, gr_ne (by omega), gr_ne (by omega), gr_si, gr_si]
          exact fc2 a k (by omega)
theorem o_text (hC : jC N m c d S) (hM : jM N m S) (x : Int32) : jOp N (fwL_text N 0 x 111 m) (fX9_text N 85 x) := by
  obtain ⟨t1, t2, t3, t4, t5, t6⟩ := id hC.2.2.2.2.2.2.2.1
  have hcase : (∃ n, n ≤ jt S ∧ x = zN n) ∨ ((x < zN 0 ∨ zN (jt S) < x) ∧ ∀ n, n ≤ jt S → x ≠ zN n) := by
    rcases zcase x with h | ⟨u, hu, rfl⟩
    · refine Or.inr ⟨Or.inl h, fun n hn e => ?_⟩
      rw [e, zlt0 (by omega)] at h; exact h
    · by_cases h : u ≤ jt S
      · exact Or.inl ⟨u, h, rfl⟩
      · refine Or.inr ⟨Or.inr (by rw [zN_lt (by omega) hu]; omega), fun n hn e => ?_⟩
        have := zN_inj hu (by omega) e
        omega
  rcases hcase with ⟨n, hn, rfl⟩ | ⟨hx, hne⟩
  · obtain ⟨v, m1, w3, c', d', S', a1, a2, a3, a4, a5, a6, a7, a8⟩ := t_joint hC hM hn
    obtain ⟨v', m1', w4, c2, d2, S2, b1, b2, b3, b4, b5, b6, b7, b8⟩ := t_joint (w := sl m1 111 0 v.toInt64) hC (jM_c hM (jfc_sl a6)) hn
    have e : (v, m1) = (v', m1') := by rw [a1] at b1; simpa using b1
    obtain ⟨ev, em⟩ : v = v' ∧ m1 = m1' := by simpa using e
    rw [← ev] at b3
    rw [← em] at b4
    have hle : ¬ jt S < n := by omega
    refine ⟨0, sl m1 111 0 v.toInt64, v, w4, c2, d2, S2, ?_, b3, by omega, b8, fun _ => by rw [b7.2, gl_sl], jC_m (jC_sl b4) b7, b5⟩
    unfold fwL_text
    refine u_fw hC.1 ?_ ?_
    · unfold fxX8_text
      simp (disch := omega) only [zN_lit, zlt0, if_false, zv, t2, zN_lt, hle]
      exact a2
    · unfold fX8_text
      simp (disch := omega) only [zN_lit, zlt0, if_false, zv, t2, zN_lt, hle]
      exact a1
  · refine jOp_A (k := 1) (w := zN 0) hC hM (by omega) (by omega) ?_ (fun h0 => ?_)
    · unfold fwL_text
      rw [u_fwx (E := xIA) (m1 := ubA m)]
      · rw [if_pos rfl]; rfl
      · have e17 : fxX8_text_17 N 0 x 0 m = some (xIA, ubA m) := by
          unfold fxX8_text_17 fxX8_text_18 fxX8_needArgument
          simp only [zN_lit, if_true, zv, xcx]
          rfl
        unfold fxX8_text
        simp only [zN_lit, zv, t2]
        by_cases h1 : x < zN 0
        · rw [if_pos h1]; exact e17
        · rw [if_neg h1, if_pos (hx.resolve_left h1)]; exact e17
    · have k2 := h0.1.2.2.2.2.2.2.2.1.2.1
      have k2' : gi (si (ubA m) 85 0 (zN 0)) 85 2 = zN (jt S) := k2
      unfold fX9_text fX9_text_23
      simp only [zv, zN_lit, k2']
      rw [y_in0 (by omega) hne, zca]
      simp only [if_true]
      rw [jM_bad1 h0 (by omega) (by omega) (by omega), zca]
      simp only [zN10, if_false]
end SM
