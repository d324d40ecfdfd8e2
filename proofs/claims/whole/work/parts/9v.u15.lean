/-! ===== u: alike, surprise, trace as calls ===== -/
section UO
variable {N : Nat → Nat} {m : XM} {c d : Nat} {S : zJ} {P : zP}
theorem zAl_eq {s t t' : zS} (h : zval t = zval t') : zAl P s t 0 ↔ zAl P s t' 0 := by
  unfold zAl zA1
  rw [h]
noncomputable def zalk (P : zP) (q r : Bool × zS) : Int32 := if q.1 = true ∨ r.1 = true then zN 0 - zN 2 else @ite _ (zAl P q.2 r.2 0) (Classical.propDecidable _) (zN 1) (zN 0)
theorem y_alike {us : List Nat} {x : Int32} (h : jM N m S) (hus : zOr (jP S) x us) : ∃ m' p, (xcv (fX9_lays N 85 m) fun m3 => xv (gi m3 85 30) fun v4 => if v4 = zN 2 then (fX9_alike_46 N 85 x (zN 1) m3) else (fX9_alike_46 N 85 x (zN 0) m3)) = some (zalk (jP S) (zPlain (jP S)) (yAhead (jP S) p us), m') ∧ jM N m' S ∧ jfm m m' ∧ gi m' 85 0 = gi m 85 0 := by
  have hW := h.2.2.1
  have hz := hW.1.1
  have hX := zXF
  obtain ⟨m1, a1, a2, a3, a4, a5⟩ := y_lays h
  have hf1 := yFs_show a5
  obtain ⟨hs, k94, k96, -, -, -, -, -, -, -, k30⟩ := id hf1
  have hyN := (jM_U a2).1
  have hmain : ∀ y : Int32, ∃ m' p, fX9_alike_46 N 85 x y m1 = (if y = zN 0 then (if (yAhead (jP S) p us).1 = true then some (zN 0 - zN 2, m') else some (@ite _ (zAl (jP S) (zPlain (jP S)).2 (yAhead (jP S) p us).2 0) (Classical.propDecidable _) (zN 1) (zN 0), m')) else some (zN 0 - zN 2, m')) ∧ jM N m' S ∧ jfm m1 m' ∧ gi m' 85 0 = gi m1 85 0 := fun y => by
    obtain ⟨m2, b1, b2, b3, b4, b5⟩ := y_cp_49 (N := N) hyN 84 XF 0 m1 x y (by omega) (by omega) a2.2.1
    have hR2 : yR m2 := yR_fr (fun k => b4 85 k) a2.2.1
    obtain ⟨m3, c1, c2, c3, c4, c5⟩ := y_cp_75 (N := N) hyN 7 XF 0 m2 x y (by omega) (by omega) hR2
    have hg : ∀ a k, a ≠ 106 → a ≠ 107 → gi m3 a k = gi m1 a k := fun a k q1 q2 => by rw [c2 a k q2, b2 a k q1]
    have hgr : ∀ a k, gr m3 a k = gr m1 a k := fun a k => by rw [c4, b4]
    have hM3 : jM N m3 S := by
      obtain ⟨g1, g2, g3, g4, ⟨p, g5, g5'⟩, g6, g7, ⟨q1, q2, q3, q4, q5, q6⟩, g9, g10, g11⟩ := a2
      refine ⟨g1, yR_fr (fun k => hgr 85 k) g2, g3, yMP_fr (fun k => hg _ _ (by omega) (by omega)) (fun k => hg _ _ (by omega) (by omega)) g4, ⟨p, by rw [hg _ _ (by omega) (by omega)]; exact g5, g5'⟩, by rw [hg _ _ (by omega) (by omega)]; exact g6, ?_, ⟨q1, by rw [hg _ _ (by omega) (by omega)]; exact q2, by rw [hg _ _ (by omega) (by omega)]; exact q3, by rw [hg _ _ (by omega) (by omega)]; exact q4, by rw [hg _ _ (by omega) (by omega)]; exact q5, fun k hk => by rw [hg _ _ (by omega) (by omega)]; exact q6 k hk⟩, g9, by rw [hg _ _ (by omega) (by omega)]; exact g10, ych_fr (fun a k _ _ => hg a k (by omega) (by omega)) g11⟩
      rw [hg _ _ (by omega) (by omega)]
      rcases g7 with h | ⟨h, h'⟩
      · exact Or.inl h
      · exact Or.inr ⟨h, yShow_fr (fun a k _ _ => hg a k (by omega) (by omega)) (fun k _ _ _ => hg _ _ (by omega) (by omega)) h'⟩
    obtain ⟨m4, p, d1, d2, d3, d4, d5, d6⟩ := y_eager hM3 hus.1 (fun u hu' => zva_lt _ _ hus.2.1 u hu')
    obtain ⟨-, -, e96, -, -, -, -, -, -, -, e30⟩ := id d5
    have h107 : ∀ u, u < 7 → gi m4 107 u = zN (zst (zPlain (jP S)).2 u) := fun u hu => by
      rw [d6 _ _ (by omega), c5, if_pos (by omega), b2 _ _ (by omega)]; exact k94 u hu
    have h106 : ∀ z, zok (jP S) z → gi m4 106 (zmid (jP S) z) = zval (zPlain (jP S)).2 z := fun z hz' => by
      have := zmid_lt hW.1 hz'
      rw [d6 _ _ (by omega), c2 _ _ (by omega), b5, if_pos (by omega)]; exact k96 z hz'
    obtain ⟨f1, f2⟩ := y_agr_121 (N := N) (m := m4) hW hs.1 (jM_U d2) h107 h106 e96 (zn (jP S)) XF 0 (by omega) (by omega)
    refine ⟨m4, p, ?_, d2, jfm_tr ⟨fun a k q => ⟨hg a k (by omega) (by omega), hgr a k, by rw [c3, b3]⟩, fun k => by rw [c3, b3]⟩ d3, d4.trans (hg _ _ (by omega) (by omega))⟩
    unfold fX9_alike_46
    simp only [zN_lit]
    rw [b1, c1, hus.2.2, d1, zcv]
    by_cases ey : y = zN 0
    · rw [if_pos ey, if_pos ey, zv, e30]
      by_cases ec : (yAhead (jP S) p us).1 = true
      · rw [if_pos ec, if_pos rfl, if_pos ec]
      · rw [if_neg ec, if_neg (by rw [zN_eq (by omega) (by omega)]; omega), if_neg ec]
        by_cases ea : zAl (jP S) (zPlain (jP S)).2 (yAhead (jP S) p us).2 0
        · rw [f1 ea, if_pos ea]
        · rw [f2 ea, if_neg ea]
    · rw [if_neg ey, if_neg ey]
  rw [a1, zcv, zv, k30]
  by_cases ep : (zPlain (jP S)).1 = true
  · obtain ⟨m', p, q1, q2, q3, q4⟩ := hmain (zN 1)
    refine ⟨m', p, ?_, q2, jfm_tr a3 q3, q4.trans a4⟩
    rw [if_pos ep, if_pos rfl, q1, if_neg (by rw [zN10]; exact id)]
    unfold zalk
    rw [if_pos (Or.inl ep)]
  · obtain ⟨m', p, q1, q2, q3, q4⟩ := hmain (zN 0)
    refine ⟨m', p, ?_, q2, jfm_tr a3 q3, q4.trans a4⟩
    rw [if_neg ep, if_neg (by rw [zN_eq (by omega) (by omega)]; omega), q1, if_pos rfl]
    unfold zalk
    by_cases ec : (yAhead (jP S) p us).1 = true
    · rw [if_pos ec, if_pos (Or.inr ec)]
    · rw [if_neg ec, if_neg (show ¬ ((zPlain (jP S)).1 = true ∨ (yAhead (jP S) p us).1 = true) from fun h => h.elim ep ec)]
theorem o_alike (hC : jC N m c d S) (hM : jM N m S) (x : Int32) : jOp N (fwL_alike N 0 x 111 m) (fX9_alike N 85 x) := by
  have hW := hC.2.2.1
  have hz := hW.1.1
  have hX := zXF
  obtain ⟨m1, o1, o2, o3⟩ := u_order hC x
  have hM1 := jM_c hM o3
  rcases o1 with ⟨us, hus, t1, t2⟩ | ⟨hus, t1⟩
  · obtain ⟨m2, a1, a2, a3, a4, a5, a6, a7⟩ := u_plain o2
    obtain ⟨m3, p, b1, b2, b3, b4, b5, b6, b7⟩ := u_ahead a2 hus (fun i u hu => by rw [a4 _ _ (by omega)]; exact t2 i u hu)
    have hF : zFin true m3 50 (jP S) (zPlain (jP S)) := zFin_fr (fun a k _ _ => b6 a k (by omega)) a6
    have r7 := a2.2.1.2.1.2.2.2.2.2.1
    have r3 := a2.2.1.2.1.2.2.1
    have r8 := a2.2.1.2.1.2.2.2.2.2.2.1
    have r7' := b2.2.1.2.1.2.2.2.2.2.1
    have r5' := b2.2.1.2.1.2.2.2.2.1
    obtain ⟨hUN, hUr, hc50, hc0⟩ := jC_UN b2
    obtain ⟨n51, n52⟩ : N 51 = 7 ∧ N 52 = 84 := ⟨hC.1.2.2.2.2.2.1.1, hC.1.2.2.2.2.2.1.2.1⟩
    have n65 : N 65 = 84 := hC.1.2.2.2.2.2.2.1.2.1
    have hr0 : gr m3 50 0 = some c := by rw [b7 _ _ (by omega)]; exact a7.2.2.2.2.2.2.1
    have hr1 : gr m3 50 1 = some 51 := by rw [b7 _ _ (by omega)]; exact a7.2.2.2.2.2.2.2.1
    have hr2 : gr m3 50 2 = some 52 := by rw [b7 _ _ (by omega)]; exact a7.2.2.2.2.2.2.2.2.1
    have hr65 : gr m3 63 2 = some 65 := b5.2.2.2.2.2.2.2.2.1
    have h15 := hF.2.2.1
    have h15' := b4.2.2.1
    obtain ⟨f1, f2⟩ := u_agr_2 (N := N) (m := m3) (c := c) hW.1 (s := (zPlain (jP S)).2) (t := (zAhead (jP S) p us).2) hF.1.1 hUN hUr b2.2.2.2.1.1 hr0 hr1 hr2 hr65 n51 n52 n65 hF.2.1.1 hF.2.1.2.1 b4.2.1.2.1 (zn (jP S)) XF 0 (by omega) (by omega)
    have hag : fX2_agreesWhereDone N 50 63 m3 = some (@ite _ (zAl (jP S) (zPlain (jP S)).2 (zAhead (jP S) p us).2 0) (Classical.propDecidable _) (zN 1) (zN 0), m3) := by
      unfold fX2_agreesWhereDone
      simp only [zN_lit]
      by_cases ea : zAl (jP S) (zPlain (jP S)).2 (zAhead (jP S) p us).2 0
      · rw [f1 ea, if_pos ea]
      · rw [f2 ea, if_neg ea]
    have hn2 : -zN 2 = zN 0 - zN 2 := by decide
    have hcls : fxX8_alike N 0 x m = none ∧ fX8_alike N 0 x m = some (zalk (jP S) (zPlain (jP S)) (zAhead (jP S) p us), m3) := by
      unfold fxX8_alike fX8_alike zalk
      simp only [t1, zca, ua_1.1, ua_1.2, xcx, zcv, a1, zgr r7, zgr r3, zgr r8, b1, zgr r5', zgr r7', zv, h15, h15', zN_lit, hn2, hag]
      by_cases ep : (zPlain (jP S)).1 = true
      · rw [if_pos ep, if_neg (by rw [zN10]; exact id), if_neg (by rw [zN10]; exact id), if_pos (Or.inl ep)]
        exact ⟨rfl, rfl⟩
      · rw [if_neg ep, if_pos rfl, if_pos rfl]
        by_cases ec : (zAhead (jP S) p us).1 = true
        · rw [if_pos ec, if_neg (by rw [zN10]; exact id), if_neg (by rw [zN10]; exact id), if_pos (show (zPlain (jP S)).1 = true ∨ (zAhead (jP S) p us).1 = true from Or.inr ec)]
          exact ⟨rfl, rfl⟩
        · rw [if_neg ec, if_pos rfl, if_pos rfl, if_neg (show ¬ ((zPlain (jP S)).1 = true ∨ (zAhead (jP S) p us).1 = true) from fun h => h.elim ep ec)]
          by_cases ea : zAl (jP S) (zPlain (jP S)).2 (zAhead (jP S) p us).2 0
          · rw [if_pos ea, if_neg (by rw [zN10]; exact id), if_neg (by rw [zN10]; exact id)]
            exact ⟨rfl, rfl⟩
          · rw [if_neg ea, if_pos rfl, if_pos rfl]
            exact ⟨rfl, rfl⟩
    refine jOp_ok (v := zalk (jP S) (zPlain (jP S)) (zAhead (jP S) p us)) (m1 := m3) hM ?_ b2 (jfc_tr o3 (jfc_tr a3 b3)) (fun m4 hm4 _ => y_fresh hm4 (fun h0 => ?_))
    · unfold fwL_alike
      exact u_fw hC.1 hcls.1 hcls.2
    · obtain ⟨m5, p', e1, e2, e3, e4⟩ := y_alike h0.1 hus
      refine ⟨m5, ?_, e2, e3, e4.trans h0.2⟩
      obtain ⟨k1, k2⟩ := zAhead_eq (jP S) p p' us
      have hzk : zalk (jP S) (zPlain (jP S)) (yAhead (jP S) p' us) = zalk (jP S) (zPlain (jP S)) (zAhead (jP S) p us) := by
        unfold zalk
        rw [k1]
        by_cases ec : (zPlain (jP S)).1 = true ∨ (yAhead (jP S) p' us).1 = true
        · rw [if_pos ec, if_pos ec]
        · rw [if_neg ec, if_neg ec]
          have hz2 := zAl_eq (P := jP S) (s := (zPlain (jP S)).2) (k2.2.2.2.2.2 rfl).2.1
          by_cases ea : zAl (jP S) (zPlain (jP S)).2 (zAhead (jP S) p us).2 0
          · rw [if_pos (hz2.1 ea), if_pos ea]
          · rw [if_neg (fun g => ea (hz2.2 g)), if_neg ea]
      rw [← hzk, ← e1]
      unfold fX9_alike fX9_alike_19
      simp only [zv, zN_lit, y_or1 h0.1 hus, zca, zN10, if_false, jM_bad0 h0, if_true]
  · refine jOp_A (k := 1) (w := zN 0) o2 hM1 (by omega) (by omega) ?_ (fun h0 => ?_)
    · unfold fwL_alike
      rw [u_fwx (E := xIA) (m1 := ubA m1)]
      · rw [if_pos rfl]; rfl
      · unfold fxX8_alike
        simp only [t1, zca, ua_0, xcx]
        rfl
    · unfold fX9_alike fX9_alike_19
      simp only [zv, zN_lit, y_or0 h0.1 hus, zca, if_true, jM_bad1 h0 (show 1 ≤ 1 by omega) (by omega) (show 1 < 2 by omega), zN10, if_false]
end UO
