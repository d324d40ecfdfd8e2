/-! ===== u: fewest, alike ===== -/
section UM
variable {N : Nat → Nat} {m : XM} {c d : Nat} {S : zJ} {P : zP}
theorem u_seek (h : jC N m c d S) : ∃ m', fX3_seekFewest N 77 c m = some m' ∧ jC N m' c d S ∧ jfc m m' ∧ wF m' (zFew (jP S)) := by
  obtain ⟨hUN, hUr, hc50, hc0⟩ := jC_UN h
  have hh := h
  obtain ⟨g1, g2, g3, g4, g5, g6, g7, g8, g9⟩ := h
  obtain ⟨-, -, -, -, -, hR50, hR63, hN76, hN78, -⟩ := g1
  obtain ⟨c0, hr50⟩ := g2.2.2.2.2.2.2.1
  have hS : wSeek N m c (jP S) := ⟨hUN, hR63, by omega, g3.1, hUr, g4.1, g2.2.2.2.2.2.2.2.1, g6, hN78, g2.2.2.2.2.2.2.2.2.1.1, g2.2.2.2.2.2.2.2.2.1.2⟩
  obtain ⟨m1, a1, a2, a3, a4, a5, a6, a7, a8⟩ := wc_seek hS g7
  have hg : ∀ a k, a < 63 ∨ 79 ≤ a → gi m1 a k = gi m a k := fun a k q => (a2 a (by omega)).1 k
  have hgr : ∀ a k, a < 63 ∨ 79 ≤ a → gr m1 a k = gr m a k := fun a k q => (a2 a (by omega)).2.2 k
  obtain ⟨-, -, -, -, -, -, k7, k8, -, k10, k11⟩ := a8
  refine ⟨m1, a1, ?_, jfc_fr (by omega) a2, a7⟩
  obtain ⟨b1, b2, b3, b4, -, -, -, b8, b9⟩ := hh
  refine ⟨b1, ?_, b3, jU_fr (fun a k _ _ => hg a k (by omega)) b4, jPl_fr (fun a k _ _ => hg a k (by omega)) (hg _ _ (by omega)) (fun a k _ _ => hgr a k (by omega)) g5, k8, Or.inr ⟨a6, a7⟩, jTp_fr (fun k _ => hg _ _ (by omega)) (fun k => hg _ _ (by omega)) b8, jCg_fr (fun a k _ _ => hg a k (by omega)) b9⟩
  obtain ⟨h1, h2, h3, h4, h5, h6, -, -, -, h10⟩ := b2
  refine ⟨h1, ?_, ?_, ?_, zUr_fr (fun a k _ _ => hgr a k (by omega)) h5, zUr_fr (fun a k _ _ => hgr a k (by omega)) h6, ⟨c0, zRr_fr (fun a k _ _ => hgr a k (by omega)) hr50⟩, k7, ⟨k10, k11⟩, ?_⟩
  · simp (disch := omega) only [hgr]; exact h2
  · simp (disch := omega) only [hgr]; exact h3
  · simp (disch := omega) only [hgr]; exact h4
  · unfold vWr at h10 ⊢; simp (disch := omega) only [hgr]; exact h10
theorem jM_yfn {m' : XM} (h : jM N m S) (g : yfn m m') (h16 : gi m' 85 16 = zN 0) (h41 : gi m' 85 41 = zN 0) (hp : ∃ p', gi m' 85 34 = zN p' ∧ p' ≤ 10) : jM N m' S ∧ jfm m m' ∧ gi m' 85 0 = gi m 85 0 := by
  obtain ⟨g1, g2, g3, g4, -, -, -, ⟨k1, k2, k3, k4, k5, k6⟩, g9, g10, g11⟩ := h
  exact ⟨⟨g1, yR_fr (fun k => g.2.2.2 85 k) g2, g3, yMP_fr (fun k => g.1 88 k (by omega) (by omega)) (fun k => g.1 90 k (by omega) (by omega)) g4, hp, h41, Or.inl h16, ⟨k1, by rw [g.2.1 _ (by omega) (by omega) (by omega)]; exact k2, by rw [g.2.1 _ (by omega) (by omega) (by omega)]; exact k3, by rw [g.1 _ _ (by omega) (by omega)]; exact k4, by rw [g.1 _ _ (by omega) (by omega)]; exact k5, fun k hk => by rw [g.1 _ _ (by omega) (by omega)]; exact k6 k hk⟩, g9, by rw [g.2.1 _ (by omega) (by omega) (by omega)]; exact g10, ych_fr (fun a k _ _ => g.1 a k (by omega) (by omega)) g11⟩, ⟨fun a k q => ⟨g.1 a k (by omega) (by omega), g.2.2.2 a k, g.2.2.1 a k⟩, fun k => g.2.2.1 _ _⟩, g.2.1 _ (by omega) (by omega) (by omega)⟩
theorem o_fewest (hC : jC N m c d S) (hM : jM N m S) (x : Int32) : jOp N (fwL_fewest N 0 x 111 m) (fX9_fewest N 85 x) := by
  have hW := hC.2.2.1
  have r9 := hC.2.1.2.1.2.2.2.2.2.2.2.1
  have r3 := hC.2.1.2.1.2.2.1
  rcases u_what (N := N) (m := m) (l := 2) (by omega) x with ⟨w, w1, rfl, w3, w4⟩ | ⟨w1, w2⟩
  · obtain ⟨m1, a1, a2, a3, f1, f2, f3⟩ := u_seek hC
    have r9' := a2.2.1.2.1.2.2.2.2.2.2.2.1
    have hw3 : w = 0 ∨ w = 1 ∨ w = 2 := by omega
    refine jOp_ok (v := wpick (zFew (jP S)) w) (m1 := m1) hM ?_ a2 a3 (fun m2 hm2 _ => y_fresh hm2 (fun h0 => ?_))
    · unfold fwL_fewest
      refine u_fw hC.1 ?_ ?_
      · unfold fxX8_fewest
        simp only [xcx, zcv, zN_lit, w4, w3, zgr r9, zgr r3, a1, zgr r9', zv, ite_self]
      · unfold fX8_fewest wpick
        rcases hw3 with rfl | rfl | rfl <;> simp (disch := omega) only [zcv, zN_lit, w3, zgr r9, zgr r3, a1, zgr r9', zv, f1, f2, f3, zN_eq, Nat.reduceEqDiff, if_true, if_false, Nat.one_ne_zero]
    · obtain ⟨p, p1, p2⟩ := h0.1.2.2.2.2.1
      obtain ⟨m3, b1, b2, b3, b4, b5⟩ := yc_fewest hW.1 w1 (jM_U h0.1) p1 p2 h0.1.2.2.2.2.2.1
      obtain ⟨c1, c2, c3⟩ := jM_yfn h0.1 b2 b3 b4 b5
      refine ⟨m3, ?_, c1, c2, c3.trans h0.2⟩
      unfold fX9_fewest fX9_fewest_20
      simp only [zv, zN_lit, y_in1 (show 2 < 2147483647 by omega) w1, zca, zN10, if_false, jM_bad0 h0, if_true, zneg]
      exact b1
  · refine jOp_A (k := 1) (w := zN 0) hC hM (by omega) (by omega) ?_ (fun h0 => ?_)
    · unfold fwL_fewest
      rw [u_fwx (E := xIA) (m1 := ubA m)]
      · rw [if_pos rfl]; rfl
      · unfold fxX8_fewest
        simp only [xcx, zcv, zN_lit, w2]
    · unfold fX9_fewest fX9_fewest_20
      simp only [zv, zN_lit, y_in0 (show 2 < 2147483647 by omega) w1, zca, if_true, jM_bad1 h0 (show 1 ≤ 1 by omega) (by omega) (show 1 < 2 by omega), zN10, if_false]
end UM
