/-! ===== u: eager, and the web's calls ===== -/
section UL
variable {N : Nat → Nat} {m : XM} {c d : Nat} {S : zJ} {P : zP}
theorem y_or1 {x : Int32} {us : List Nat} (h : jM N m S) (hu : zOr (jP S) x us) : fX9_isOrder N 85 x m = some (zN 1, m) := by
  rcases y_order h x with ⟨v, -, v2⟩ | ⟨v1, -⟩
  · exact v2
  · exact absurd hu (v1 us)
theorem y_or0 {x : Int32} (h : jM N m S) (hu : ∀ us, ¬ zOr (jP S) x us) : fX9_isOrder N 85 x m = some (zN 0, m) := by
  rcases y_order h x with ⟨v, v1, -⟩ | ⟨-, v2⟩
  · exact absurd v1 (hu v)
  · exact v2
/-- the class's run ahead -/
theorem u_ahead (h : jC N m c d S) {us : List Nat} {x : Int32} (hu : zOr (jP S) x us) (hrow : ∀ i u, us[i]? = some u → gi m 76 i = zN u) : ∃ m' p, fX2_runAhead N 63 c 76 m = some m' ∧ jC N m' c d S ∧ jfc m m' ∧ zFin true m' 63 (jP S) (zAhead (jP S) p us) ∧ zU N m' 63 c (jP S) ∧ (∀ a k, a < 63 ∨ 76 ≤ a → gi m' a k = gi m a k) ∧ (∀ a k, a < 63 ∨ 76 ≤ a → gr m' a k = gr m a k) := by
  obtain ⟨hUN, hUr, hc50, hc0⟩ := jC_UN h
  have hh := h
  obtain ⟨g1, g2, g3, g4, g5, ⟨p, p1, p2⟩, g7, g8, g9⟩ := h
  obtain ⟨-, -, -, -, -, hR50, hR63, hN76, -⟩ := g1
  obtain ⟨c0, hr50⟩ := g2.2.2.2.2.2.2.1
  obtain ⟨c1, hr63⟩ := g2.2.2.2.2.2.2.2.1
  obtain ⟨m1, a1, a2, a3, a4, a5⟩ := zc_runAhead (t := true) (q := 76) (full := us) hUN hR63 (by omega) g3.1 hUr g4.1 hr63 p1 p2 (by omega) hN76 hu.1 (fun u hu' => zva_lt _ _ hu.2.1 u hu') hrow
  have hg : ∀ a k, a < 63 ∨ 76 ≤ a → gi m1 a k = gi m a k := fun a k q => (a2 a (by omega)).1 k
  have hgr : ∀ a k, a < 63 ∨ 76 ≤ a → gr m1 a k = gr m a k := fun a k q => (a2 a (by omega)).2.2 k
  refine ⟨m1, p, a1, jC_r hh (fun a k q1 q2 q3 => hgr a k (by omega)) ⟨c0, zRr_fr (fun a k q1 q2 => hgr a k (by omega)) hr50⟩ ⟨c, a3.2.2.2.2.2.2⟩ (fun a k q1 q2 => hg a k (by omega)) (jPl_fr (fun a k q1 q2 => hg a k (by omega)) (hg _ _ (by omega)) (fun a k q1 q2 => hgr a k (by omega)) g5) ⟨zsp (zAhead (jP S) p us).2, a4.2.1.2.2.2.2.2.2.2.2.2.1, a4.1.2.2.2.2.2.2.1⟩ (jSe_fr (fun k => hg _ _ (by omega)) g7), jfc_fr (by omega) a2, a4, a3, hg, hgr⟩
theorem o_eager (hC : jC N m c d S) (hM : jM N m S) (x y : Int32) : jOp N (fwL_eager N 0 x y 111 m) (fX9_eager N 85 x y) := by
  obtain ⟨m1, o1, o2, o3⟩ := u_order hC x
  have hM1 := jM_c hM o3
  rcases o1 with ⟨us, hus, t1, t2⟩ | ⟨hus, t1⟩
  · rcases u_what (N := N) (m := m1) (l := 7) (by omega) y with ⟨w, w1, rfl, w3, w4⟩ | ⟨w1, w2⟩
    · obtain ⟨m2, p, a1, a2, a3, a4, a5, -⟩ := u_ahead o2 hus t2
      have hT := zc_tally hC.2.2.1.1 a5 a4 w1
      have r7 := o2.2.1.2.1.2.2.2.2.2.1
      have r3 := o2.2.1.2.1.2.2.1
      have r8 := o2.2.1.2.1.2.2.2.2.2.2.1
      have r7' := a2.2.1.2.1.2.2.2.2.2.1
      refine jOp_ok (v := zN (zTell (jP S) (zAhead (jP S) p us) w)) (m1 := m2) hM ?_ a2 (jfc_tr o3 a3) (fun m3 hm3 _ => y_fresh hm3 (fun h0 => ?_))
      · unfold fwL_eager
        refine u_fw hC.1 ?_ ?_
        · unfold fxX8_eager
          simp only [t1, zca, ua_1.1, ua_1.2, xcx, zcv, zN_lit, w4, w3, zgr r7, zgr r3, zgr r8, a1, zgr r7', hT]
        · unfold fX8_eager
          simp only [t1, zca, ua_1.1, zcv, zN_lit, w3, zgr r7, zgr r3, zgr r8, a1, zgr r7', hT]
      · obtain ⟨m4, p', b1, b2, b3, b4, b5, -⟩ := y_eager h0.1 hus.1 (fun u hu' => zva_lt _ _ hus.2.1 u hu')
        refine ⟨m4, ?_, b2, b3, b4.trans h0.2⟩
        obtain ⟨e1, e2⟩ := zAhead_eq (jP S) p p' us
        unfold fX9_eager fX9_eager_29
        simp only [zv, zN_lit, y_or1 h0.1 hus, zca, zN10, if_false, y_in1 (show 7 < 2147483647 by omega) w1, jM_bad0 h0, if_true]
        rw [hus.2.2]
        simp only [b1, zcv, y_tl b2 b5 w1, zca]
        rw [zTell_G e1 e2]
    · refine jOp_A (k := 1) (w := zN 0) o2 hM1 (by omega) (by omega) ?_ (fun h0 => ?_)
      · unfold fwL_eager
        rw [u_fwx (E := xIA) (m1 := ubA m1)]
        · rw [if_pos rfl]; rfl
        · unfold fxX8_eager
          simp only [t1, zca, ua_1.1, ua_1.2, xcx, zcv, zN_lit, w2]
      · unfold fX9_eager fX9_eager_24 fX9_eager_29
        simp only [zv, zN_lit, y_or1 h0.1 hus, zca, zN10, if_false, y_in0 (show 7 < 2147483647 by omega) w1, if_true, jM_bad1 h0 (show 1 ≤ 1 by omega) (by omega) (show 1 < 2 by omega)]
  · refine jOp_A (k := 1) (w := zN 0) o2 hM1 (by omega) (by omega) ?_ (fun h0 => ?_)
    · unfold fwL_eager
      rw [u_fwx (E := xIA) (m1 := ubA m1)]
      · rw [if_pos rfl]; rfl
      · unfold fxX8_eager
        simp only [t1, zca, ua_0, xcx]
        rfl
    · unfold fX9_eager fX9_eager_24 fX9_eager_29
      simp only [zv, zN_lit, y_or0 h0.1 hus, zca, if_true, jM_bad1 h0 (show 1 ≤ 1 by omega) (by omega) (show 1 < 2 by omega), zN10, if_false]
/-- the class's web -/
theorem u_spin (h : jC N m c d S) : ∃ m', fX7_spin N 79 c m = some m' ∧ jC N m' c d S ∧ jfc m m' ∧ vSp m' (jP S) ∧ vU N m' c (jP S) ∧ (∀ a k, a < 79 → gi m' a k = gi m a k) := by
  obtain ⟨hUN, hUr, hc50, hc0⟩ := jC_UN h
  have hh := h
  obtain ⟨g1, g2, g3, g4, g5, ⟨p, p1, p2⟩, g7, g8, g9⟩ := h
  have hVN : vWN N := g1.2.2.2.2.2.2.2.2.2.1
  have hU : vU N m c (jP S) := ⟨hUN, hVN, by omega, g3.1, hUr, g4.1, g2.2.2.2.2.2.2.2.2.2⟩
  obtain ⟨m1, a1, a2, a3⟩ := vc_spin g3.1 hU
  refine ⟨m1, a1, jC_q hh (fun a k _ => a2.2.2 a k) (fun a k q _ => a2.1 a k (by omega)) (jPl_fr (fun a k _ _ => a2.1 a k (by omega)) (a2.1 _ _ (by omega)) (fun a k _ _ => a2.2.2 a k) g5) ⟨p, by rw [a2.1 _ _ (by omega)]; exact p1, p2⟩ (jSe_fr (fun k => a2.1 _ _ (by omega)) g7), fun a k q => ⟨a2.1 a k (by omega), a2.2.2 a k⟩, a3, vU_s hU a2, fun a k q => a2.1 a k (by omega)⟩
theorem jC_w {m' : XM} (h : jC N m c d S) (g : vwf m m') : jC N m' c d S ∧ jfc m m' := by
  obtain ⟨g1, g2, g3, g4, g5, ⟨p, p1, p2⟩, g7, g8, g9⟩ := id h
  refine ⟨jC_q h (fun a k _ => g.2.2 a k) (fun a k q _ => g.1 a k (by omega)) (jPl_fr (fun a k _ _ => g.1 a k (by omega)) (g.1 _ _ (by omega)) (fun a k _ _ => g.2.2 a k) g5) ⟨p, by rw [g.1 _ _ (by omega)]; exact p1, p2⟩ (jSe_fr (fun k => g.1 _ _ (by omega)) g7), fun a k q => ⟨g.1 a k (by omega), g.2.2 a k⟩⟩
/-- cells of the reference's that no call shows later -/
theorem jM_v {m' : XM} (h : jM N m S) (h0 : ∀ a k, 85 ≤ a → a ≠ 108 → a ≠ 109 → a ≠ 110 → gi m' a k = gi m a k) (h1 : ∀ a k, gr m' a k = gr m a k) : jM N m' S := by
  obtain ⟨g1, g2, g3, g4, ⟨p, g5, g5'⟩, g6, g7, ⟨k1, k2, k3, k4, k5, k6⟩, g9, g10, g11⟩ := h
  refine ⟨g1, yR_fr (fun k => h1 85 k) g2, g3, yMP_fr (fun k => h0 88 k (by omega) (by omega) (by omega) (by omega)) (fun k => h0 90 k (by omega) (by omega) (by omega) (by omega)) g4, ⟨p, by rw [h0 _ _ (by omega) (by omega) (by omega) (by omega)]; exact g5, g5'⟩, by rw [h0 _ _ (by omega) (by omega) (by omega) (by omega)]; exact g6, ?_, ⟨k1, by rw [h0 _ _ (by omega) (by omega) (by omega) (by omega)]; exact k2, by rw [h0 _ _ (by omega) (by omega) (by omega) (by omega)]; exact k3, by rw [h0 _ _ (by omega) (by omega) (by omega) (by omega)]; exact k4, by rw [h0 _ _ (by omega) (by omega) (by omega) (by omega)]; exact k5, fun k hk => by rw [h0 _ _ (by omega) (by omega) (by omega) (by omega)]; exact k6 k hk⟩, g9, by rw [h0 _ _ (by omega) (by omega) (by omega) (by omega)]; exact g10, ych_fr (fun a k _ _ => h0 a k (by omega) (by omega) (by omega) (by omega)) g11⟩
  rw [h0 _ _ (by omega) (by omega) (by omega) (by omega)]
  rcases g7 with h | ⟨h, h'⟩
  · exact Or.inl h
  · exact Or.inr ⟨h, yShow_fr (fun a k _ _ => h0 a k (by omega) (by omega) (by omega) (by omega)) (fun k _ _ _ => h0 _ _ (by omega) (by omega) (by omega) (by omega)) h'⟩
theorem jM_vfr {m' : XM} (h : jM N m S) (g : vfr m m') : jM N m' S ∧ jfm m m' ∧ gi m' 85 0 = gi m 85 0 := ⟨jM_v h (fun a k _ _ q _ => g.1 a k q) g.2.2, ⟨fun a k q => ⟨g.1 a k (by omega), g.2.2 a k, g.2.1 a k⟩, fun k => g.2.1 _ _⟩, g.1 _ _ (by omega)⟩
theorem jM_vdf {m' : XM} (h : jM N m S) (g : vdf m m') : jM N m' S ∧ jfm m m' ∧ gi m' 85 0 = gi m 85 0 := ⟨jM_v h (fun a k _ _ q q' => g.1 a k q q') g.2.2, ⟨fun a k q => ⟨g.1 a k (by omega) (by omega), g.2.2 a k, g.2.1 a k⟩, fun k => g.2.1 _ _⟩, g.1 _ _ (by omega) (by omega)⟩
theorem jM_nfr {m' : XM} (h : jM N m S) (g : nfr m m') : jM N m' S ∧ jfm m m' ∧ gi m' 85 0 = gi m 85 0 := ⟨jM_v h (fun a k _ q _ _ => g.1 a k q) g.2.2, ⟨fun a k q => ⟨g.1 a k (by omega), g.2.2 a k, g.2.1 a k⟩, fun k => g.2.1 _ _⟩, g.1 _ _ (by omega)⟩
theorem o_touches (hC : jC N m c d S) (hM : jM N m S) (x : Int32) : jOp N (fwL_touches N 0 x 111 m) (fX9_touches N 85 x) := by
  have hW := hC.2.2.1
  have hz := hW.1.1
  have r10 := hC.2.1.2.1.2.2.2.2.2.2.2.2
  have r3 := hC.2.1.2.1.2.2.1
  rcases u_unit hC x with ⟨u, u1, rfl, u3, u4⟩ | ⟨u1, u2⟩
  · obtain ⟨m1, a1, a2, a3, a4, a5, -⟩ := u_spin hC
    have r10' := a2.2.1.2.1.2.2.2.2.2.2.2.2
    have hN80 : N 80 = 7 := a5.2.1.1
    have g0 := a5.2.2.2.2.2.2.1
    have hv := a4.2.1 u u1
    refine jOp_ok (v := zN (zB (jP S) u)) (m1 := m1) hM ?_ a2 a3 (fun m2 hm2 _ => y_fresh hm2 (fun h0 => ?_))
    · unfold fwL_touches
      refine u_fw hC.1 ?_ ?_
      · unfold fxX8_touches
        simp (disch := omega) only [u4, u3, xcx, zcv, zgr r10, zgr r3, a1, zgr r10', zgr g0, zald]
      · unfold fX8_touches
        simp (disch := omega) only [u3, zcv, zgr r10, zgr r3, a1, zgr r10', zgr g0, zald, hv]
    · obtain ⟨m3, b1, b2⟩ := vc_touched hW.1 (zps_pm hW.2.1) u1 (jM_U h0.1)
      obtain ⟨c1, c2, c3⟩ := jM_vfr h0.1 b2
      refine ⟨m3, ?_, c1, c2, c3.trans h0.2⟩
      unfold fX9_touches fX9_touches_19
      simp only [zv, zN_lit, y_u1 h0.1 u1, zca, zN10, if_false, jM_bad0 h0, if_true, b1]
  · refine jOp_E (k := 1) (w := zN 0) hC hM (by omega) (by omega) ?_ (fun h0 => ?_)
    · unfold fwL_touches
      rw [u_fwx (E := xNS) (m1 := ubE m)]
      · rw [if_pos rfl]; rfl
      · unfold fxX8_touches
        simp only [u2, xcx]
    · unfold fX9_touches fX9_touches_19
      simp only [zv, zN_lit, y_u0 h0.1 u1, zca, if_true, jM_bad1 h0 (show 1 ≤ 1 by omega) (by omega) (show 0 < 2 by omega), zN10, if_false]
theorem o_reach (hC : jC N m c d S) (hM : jM N m S) (x : Int32) : jOp N (fwL_reach N 0 x 111 m) (fX9_reach N 85 x) := by
  have hW := hC.2.2.1
  have hz := hW.1.1
  have r10 := hC.2.1.2.1.2.2.2.2.2.2.2.2
  have r3 := hC.2.1.2.1.2.2.1
  rcases u_unit hC x with ⟨u, u1, rfl, u3, u4⟩ | ⟨u1, u2⟩
  · obtain ⟨m1, a1, a2, a3, a4, a5, -⟩ := u_spin hC
    have r10' := a2.2.1.2.1.2.2.2.2.2.2.2.2
    have hN81 : N 81 = 7 := a5.2.1.2.1
    have g1 := a5.2.2.2.2.2.2.2.1
    have hv := a4.2.2 u u1
    refine jOp_ok (v := zN (zRm (jP S) u)) (m1 := m1) hM ?_ a2 a3 (fun m2 hm2 _ => y_fresh hm2 (fun h0 => ?_))
    · unfold fwL_reach
      refine u_fw hC.1 ?_ ?_
      · unfold fxX8_reach
        simp (disch := omega) only [u4, u3, xcx, zcv, zgr r10, zgr r3, a1, zgr r10', zgr g1, zald]
      · unfold fX8_reach
        simp (disch := omega) only [u3, zcv, zgr r10, zgr r3, a1, zgr r10', zgr g1, zald, hv]
    · obtain ⟨m3, b1, b2⟩ := vc_reached hW.1 (zps_pm hW.2.1) u1 (jM_U h0.1)
      obtain ⟨c1, c2, c3⟩ := jM_vfr h0.1 b2
      refine ⟨m3, ?_, c1, c2, c3.trans h0.2⟩
      unfold fX9_reach fX9_reach_19
      simp only [zv, zN_lit, y_u1 h0.1 u1, zca, zN10, if_false, jM_bad0 h0, if_true, b1]
  · refine jOp_E (k := 1) (w := zN 0) hC hM (by omega) (by omega) ?_ (fun h0 => ?_)
    · unfold fwL_reach
      rw [u_fwx (E := xNS) (m1 := ubE m)]
      · rw [if_pos rfl]; rfl
      · unfold fxX8_reach
        simp only [u2, xcx]
    · unfold fX9_reach fX9_reach_19
      simp only [zv, zN_lit, y_u0 h0.1 u1, zca, if_true, jM_bad1 h0 (show 1 ≤ 1 by omega) (by omega) (show 0 < 2 by omega), zN10, if_false]
theorem o_ring (hC : jC N m c d S) (hM : jM N m S) (x : Int32) : jOp N (fwL_ring N 0 x 111 m) (fX9_ring N 85 x) := by
  have hW := hC.2.2.1
  have hz := hW.1.1
  have hX := zXF
  have r10 := hC.2.1.2.1.2.2.2.2.2.2.2.2
  have r3 := hC.2.1.2.1.2.2.1
  rcases u_unit hC x with ⟨u, u1, rfl, u3, u4⟩ | ⟨u1, u2⟩
  · obtain ⟨m1, a1, a2, a3, a4, a5, -⟩ := u_spin hC
    have r10' := a2.2.1.2.1.2.2.2.2.2.2.2.2
    have hv : fX7_ringOf N 79 (zN u) m1 = some (zN (zmk7 (zRg (jP S) u)), m1) := by
      unfold fX7_ringOf
      simp only [zN_lit]
      exact vc_ring hW.1 u1 a5 a4 (zn (jP S)) XF 0 0 (by omega) (by omega) (by omega) (fun w _ => ⟨fun h => absurd h (zbi_0 w), fun h => by omega⟩)
    refine jOp_ok (v := zN (zmk7 (zRg (jP S) u))) (m1 := m1) hM ?_ a2 a3 (fun m2 hm2 _ => y_fresh hm2 (fun h0 => ?_))
    · unfold fwL_ring
      refine u_fw hC.1 ?_ ?_
      · unfold fxX8_ring
        simp (disch := omega) only [u4, u3, xcx, zcv, zgr r10, zgr r3, a1, zgr r10', hv, zca]
      · unfold fX8_ring
        simp (disch := omega) only [u3, zcv, zgr r10, zgr r3, a1, zgr r10', hv, zca]
    · obtain ⟨m3, b1, b2⟩ := vc_reached hW.1 (zps_pm hW.2.1) u1 (jM_U h0.1)
      obtain ⟨c1, c2, c3⟩ := jM_vfr h0.1 b2
      obtain ⟨m4, d1, d2⟩ := vr_ring hW.1 (zps_pm hW.2.1) u1 (zn (jP S)) XF 0 0 m3 (by omega) (by omega) (by omega) (jM_U c1) (fun w _ => ⟨fun h => absurd h (zbi_0 w), fun h => by omega⟩)
      obtain ⟨e1, e2, e3⟩ := jM_vfr c1 d2
      refine ⟨m4, ?_, e1, jfm_tr c2 e2, e3.trans (c3.trans h0.2)⟩
      unfold fX9_ring fX9_ring_19
      simp only [zv, zN_lit, y_u1 h0.1 u1, zca, zN10, if_false, jM_bad0 h0, if_true, b1, d1]
  · refine jOp_E (k := 1) (w := zN 0) hC hM (by omega) (by omega) ?_ (fun h0 => ?_)
    · unfold fwL_ring
      rw [u_fwx (E := xNS) (m1 := ubE m)]
      · rw [if_pos rfl]; rfl
      · unfold fxX8_ring
        simp only [u2, xcx]
    · unfold fX9_ring fX9_ring_19
      simp only [zv, zN_lit, y_u0 h0.1 u1, zca, if_true, jM_bad1 h0 (show 1 ≤ 1 by omega) (by omega) (show 0 < 2 by omega), zN10, if_false]
theorem o_least (hC : jC N m c d S) (hM : jM N m S) (x : Int32) : jOp N (fwL_least N 0 x 111 m) (fX9_least N 85 x) := by
  have hW := hC.2.2.1
  have hz := hW.1.1
  have r10 := hC.2.1.2.1.2.2.2.2.2.2.2.2
  have r3 := hC.2.1.2.1.2.2.1
  rcases u_what (N := N) (m := m) (l := 1) (by omega) x with ⟨w, w1, rfl, w3, w4⟩ | ⟨w1, w2⟩
  · obtain ⟨m1, a1, a2, a3, a4, a5, -⟩ := u_spin hC
    have r10' := a2.2.1.2.1.2.2.2.2.2.2.2.2
    obtain ⟨m2, b1, b2⟩ := vc_fewestBroken hW.1 a5 a4
    obtain ⟨m3, d1, d2⟩ := vc_leastBreaking hW.1 a5 a4
    have hw2 : w = 0 ∨ w = 1 := by omega
    have hcls : ∃ m4, (fxX8_least N 0 (zN w) m = none ∧ fX8_least N 0 (zN w) m = some (if w = 0 then zN (zLst (jP S)).1 else (zLst (jP S)).2, m4)) ∧ jC N m4 c d S ∧ jfc m1 m4 := by
      rcases hw2 with rfl | rfl
      · refine ⟨m2, ⟨?_, ?_⟩, jC_w a2 b2⟩
        · unfold fxX8_least
          simp (disch := omega) only [xcx, zcv, zN_lit, w4, w3, zgr r10, zgr r3, a1, if_true, zgr r10', b1, zca]
        · unfold fX8_least
          simp (disch := omega) only [zcv, zN_lit, w3, zgr r10, zgr r3, a1, if_true, zgr r10', b1, zca]
      · refine ⟨m3, ⟨?_, ?_⟩, jC_w a2 d2⟩
        · unfold fxX8_least
          simp (disch := omega) only [xcx, zcv, zN_lit, w4, w3, zgr r10, zgr r3, a1, zN10, if_false, zgr r10', d1, zca]
        · unfold fX8_least
          simp (disch := omega) only [zcv, zN_lit, w3, zgr r10, zgr r3, a1, zN10, if_false, zgr r10', d1, zca, Nat.one_ne_zero]
    obtain ⟨m4, ⟨e1, e2⟩, e3, e4⟩ := hcls
    refine jOp_ok (v := if w = 0 then zN (zLst (jP S)).1 else (zLst (jP S)).2) (m1 := m4) hM ?_ e3 (jfc_tr a3 e4) (fun m5 hm5 _ => y_fresh hm5 (fun h0 => ?_))
    · unfold fwL_least
      exact u_fw hC.1 e1 e2
    · obtain ⟨m6, f1, f2, f3⟩ := vr_direct hW.1 (zps_pm hW.2.1) (jM_U h0.1)
      obtain ⟨g1, g2, g3⟩ := jM_vdf h0.1 f2
      obtain ⟨m7, k1, k2⟩ := vr_leastAll hW.1 w1 (jM_U g1) f3
      obtain ⟨l1, l2, l3⟩ := jM_nfr g1 k2
      refine ⟨m7, ?_, l1, jfm_tr g2 l2, l3.trans (g3.trans h0.2)⟩
      unfold fX9_least fX9_least_20
      simp only [zv, zN_lit, y_in1 (show 1 < 2147483647 by omega) w1, zca, zN10, if_false, jM_bad0 h0, if_true, f1, zcv, zneg]
      exact k1
  · refine jOp_A (k := 1) (w := zN 0) hC hM (by omega) (by omega) ?_ (fun h0 => ?_)
    · unfold fwL_least
      rw [u_fwx (E := xIA) (m1 := ubA m)]
      · rw [if_pos rfl]; rfl
      · unfold fxX8_least
        simp only [xcx, zcv, zN_lit, w2]
    · unfold fX9_least fX9_least_20
      simp only [zv, zN_lit, y_in0 (show 1 < 2147483647 by omega) w1, zca, if_true, jM_bad1 h0 (show 1 ≤ 1 by omega) (by omega) (show 1 < 2 by omega), zN10, if_false]
theorem o_breaks (hC : jC N m c d S) (hM : jM N m S) (x : Int32) : jOp N (fwL_breaks N 0 x 111 m) (fX9_breaks N 85 x) := by
  have hW := hC.2.2.1
  have hz := hW.1.1
  obtain ⟨m1, o1, o2, o3⟩ := u_order hC x
  have hM1 := jM_c hM o3
  have r10 := o2.2.1.2.1.2.2.2.2.2.2.2.2
  have r3 := o2.2.1.2.1.2.2.1
  rcases o1 with ⟨us, hus, t1, t2⟩ | ⟨hus, t1⟩
  · obtain ⟨m2, a1, a2, a3, a4, a5, a6⟩ := u_spin o2
    have r10' := a2.2.1.2.1.2.2.2.2.2.2.2.2
    have r8' := a2.2.1.2.1.2.2.2.2.2.2.1
    have hN76 : N 76 = 7 := hC.1.2.2.2.2.2.2.2.1
    have hb := vc_countBroken hW.1 a5 a4 (q := 76) hN76 (full := us) (fun i u hu => by rw [a6 _ _ (by omega)]; exact t2 i u hu) hus.1 hus.2.1
    refine jOp_ok (v := zN (zbk (jP S) us 0)) (m1 := m2) hM ?_ a2 (jfc_tr o3 a3) (fun m3 hm3 _ => y_fresh hm3 (fun h0 => ?_))
    · unfold fwL_breaks
      refine u_fw hC.1 ?_ ?_
      · unfold fxX8_breaks
        simp only [t1, zca, ua_1.1, ua_1.2, xcx, zcv, zgr r10, zgr r3, a1, zgr r10', zgr r8', hb]
      · unfold fX8_breaks
        simp only [t1, zca, ua_1.1, zcv, zgr r10, zgr r3, a1, zgr r10', zgr r8', hb]
    · obtain ⟨m6, f1, f2, f3⟩ := vr_direct hW.1 (zps_pm hW.2.1) (jM_U h0.1)
      obtain ⟨g1, g2, g3⟩ := jM_vdf h0.1 f2
      have hbr := vr_brokenIn hW.1 (jM_U g1) f3 hus.1 hus.2.1
      refine ⟨m6, ?_, g1, g2, g3.trans h0.2⟩
      unfold fX9_breaks fX9_breaks_19
      simp only [zv, zN_lit, y_or1 h0.1 hus, zca, zN10, if_false, jM_bad0 h0, if_true, f1, zcv]
      rw [hus.2.2, hbr]
      rfl
  · refine jOp_A (k := 1) (w := zN 0) o2 hM1 (by omega) (by omega) ?_ (fun h0 => ?_)
    · unfold fwL_breaks
      rw [u_fwx (E := xIA) (m1 := ubA m1)]
      · rw [if_pos rfl]; rfl
      · unfold fxX8_breaks
        simp only [t1, zca, ua_0, xcx]
        rfl
    · unfold fX9_breaks fX9_breaks_19
      simp only [zv, zN_lit, y_or0 h0.1 hus, zca, if_true, jM_bad1 h0 (show 1 ≤ 1 by omega) (by omega) (show 1 < 2 by omega), zN10, if_false]
end UL
