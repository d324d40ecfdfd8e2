/-! ===== u: move, turn, undo ===== -/
section UV
variable {N : Nat → Nat} {m : XM} {c d : Nat} {S : zJ} {P P' : zP} {L : List zCh}
theorem u_forget (h9 : gr m 0 9 = some 77) : fX8_forgetRuns N 0 m = some (si (si m 0 6 (zN 0)) 77 0 (zN 0)) := by
  unfold fX8_forgetRuns
  simp only [zv, zN_lit, zgr_si, zgr h9]
theorem jC_cg (h : jC N m c d S) : jcg m (jP S) (jL S) := h.2.2.2.2.2.2.2.2
theorem zcnt_cg (hu : P'.1 = P.1) : zn P' = zn P ∧ zcnt P' = zcnt P := by unfold zn zcnt; rw [hu]; exact ⟨rfl, rfl⟩
theorem o_move (hC : jC N m c d S) (hM : jM N m S) (x y z : Int32) : jOp N (fwL_move N 0 x y z 111 m) (fX9_move N 85 x y z) := by
  have hW := hC.2.2.1
  have hwf := hW.1
  have hz := hwf.1
  obtain ⟨hUN, hUr, hc50, hc0⟩ := jC_UN hC
  have hcc := hC.2.1.1
  have g3 := hC.2.1.2.1.2.2.1
  have g4 := hC.2.1.2.1.2.2.2.1
  have g9 := hC.2.1.2.1.2.2.2.2.2.2.2.1
  have hbad : ∀ hy : (∀ u i, u < zn (jP S) → i < zcnt (jP S) u → ¬ (x = zN u ∧ z = zN i)) ∨ (∀ u i, u < zn (jP S) → i < zcnt (jP S) u → ¬ (x = zN u ∧ y = zN i)), ∀ m2, jM0 N (si m2 85 0 (zN 0)) S → fX9_move N 85 x y z m2 = some (zN 0, ubR (si m2 85 0 (zN 0)) 1 0) := fun hy m2 h0 => by
    unfold fX9_move fX9_move_24 fX9_move_29
    rcases y_mem h0.1 x y with ⟨u, i, u1, i1, rfl, rfl, u3⟩ | ⟨u1, u2⟩
    · rcases hy with hy | hy
      · simp only [zv, zN_lit, u3, zca, zN10, if_false, y_m0 h0.1 hy, if_true, jM_bad1 h0 (show 1 ≤ 1 by omega) (by omega) (show 0 < 2 by omega)]
      · exact absurd ⟨rfl, rfl⟩ (hy u i u1 i1)
    · simp only [zv, zN_lit, u2, zca, if_true, jM_bad1 h0 (show 1 ≤ 1 by omega) (by omega) (show 0 < 2 by omega), zN10, if_false]
  rcases u_memx hC x y with ⟨u, i, u1, i1, rfl, rfl, u3, u4⟩ | ⟨u1, u2⟩
  · have hcn := (hwf.2.1 u u1).1
    rcases u_memx hC (zN u) z with ⟨u', j, v1, j1, e, rfl, v3, v4⟩ | ⟨v1, v2⟩
    · have e' := zN_inj (by omega) (by omega) e
      subst e'
      by_cases hij : i = j
      · subst hij
        refine jOp_ok (v := zN 0) (m1 := m) hM ?_ hC (jfc_rf m) (fun m2 hm2 _ => y_fresh hm2 (fun h0 => ⟨_, ?_, h0.1, jfm_rf _, h0.2⟩))
        · unfold fwL_move
          refine u_fw hC.1 ?_ ?_
          · unfold fxX8_move
            simp only [u4, u3, xcx, zcv, if_true]
          · unfold fX8_move
            simp only [u3, zcv, if_true, zN_lit]
        · unfold fX9_move fX9_move_24 fX9_move_29
          simp only [zv, zN_lit, y_m1 h0.1 u1 i1, zca, zN10, if_false, jM_bad0 h0, if_true]
      · have hne : (zN i = zN j) = False := by rw [zN_eq (by omega) (by omega)]; exact eq_false hij
        obtain ⟨m1, a1, a2, a3, a4, a5⟩ := u_shift hUN hUr hC.2.2.2.1 hwf u1 i1 j1
        obtain ⟨m2, b1, b2, b3, b4, b5⟩ := u_note (m := m1) (P := jP S) (P' := zshf (jP S) u i j) (L := jL S) (u := u) (i := i) (o := some j) hC.1.2.2.2.2.1 (by simp only [a5]; exact hC.2.1.2.2.2.1) (by
          obtain ⟨q1, q2, nx, q3, q4, q5⟩ := jC_cg hC
          exact ⟨q1, by rw [a3 _ _ (by omega)]; exact q2, nx, q3, by rw [a3 _ _ (by omega)]; exact q4, jch_fr (fun a k _ _ => a3 a k (by omega)) q5⟩) ⟨u1, i1, fun j' hj' => by cases hj'; exact j1⟩ zun_shf
        have hf := u_forget (N := N) (m := m2) (by rw [b5, a5]; exact g9)
        have hW' : jW (zshf (jP S) u i j) := jW_shf hW i1 j1
        have hg : ∀ a k, (a < c + 8 ∨ c + 10 ≤ a) → (a < 46 ∨ 50 ≤ a) → ¬ (a = 0 ∧ k = 6) → ¬ (a = 77 ∧ k = 0) → gi (si (si m2 0 6 (zN 0)) 77 0 (zN 0)) a k = gi m a k := fun a k q1 q2 q3 q4 => by rw [gi_ne (by omega), gi_ne (by omega), b3 a k q2, a3 a k (by omega)]
        refine jOp_ok (v := zN 1) (m1 := si (si m2 0 6 (zN 0)) 77 0 (zN 0)) (S' := (zshf (jP S) u i j, (jt S, jb S), jf S, (jr0 S, jr1 S), (u, i, some j) :: (jL S).take 15)) hM ?_ (jC_chg hC hW' (jU_fr (fun a k q1 q2 => by rw [gi_ne (by omega), gi_ne (by omega)]; exact b3 a k (by omega)) a2) ?_ (by rw [gi_ne (by omega), gi_si]) (gi_si _ _ _ _) hg (fun a k => by rw [gr_si, gr_si, b5, a5])) (fun a k q => ⟨hg a k (by omega) (by omega) (by omega) (by omega), by rw [gr_si, gr_si, b5, a5]⟩) (fun m3 hm3 _ => y_fresh hm3 (fun h0 => ?_))
        · unfold fwL_move
          refine u_fw hC.1 ?_ ?_
          · unfold fxX8_move
            simp only [u4, u3, v4, v3, xcx, zcv, hne, if_false, zgr g3, a1, zgr ((a5 0 4).trans g4)]
            rw [show zN j = zopt (some j) from rfl, b1, zcv, hf]
            rfl
          · unfold fX8_move
            simp only [u3, v3, zcv, hne, if_false, zgr g3, a1, zgr ((a5 0 4).trans g4)]
            rw [show zN j = zopt (some j) from rfl, b1, zcv, hf]
            rfl
        · obtain ⟨q1, q2, nx, q3, q4, q5⟩ := b2
          exact ⟨q1, by rw [gi_ne (by omega), gi_ne (by omega)]; exact q2, nx, q3, by rw [gi_ne (by omega), gi_ne (by omega)]; exact q4, jch_fr (fun a k _ _ => by rw [gi_ne (by omega), gi_ne (by omega)]) q5⟩
        · obtain ⟨hyN, hyR, -, hyM⟩ := jM_U h0.1
          have hl := h0.1.2.2.2.2.2.2.2.2.1
          have hl2 := h0.1.2.2.2.2.2.2.2.2.2.1
          have hl3 := h0.1.2.2.2.2.2.2.2.2.2.2
          obtain ⟨m4, p1, p2, p3, p4, p5, p6, p7, p8, p9, p10⟩ := y_note (x := zN u) (y := zN i) (v := zN j) hyN hyR hl hl2 hl3
          obtain ⟨m5, r1, r2, r3, r4, r5⟩ := y_shift (P := jP S) hyN (yR_fr (fun k => p10 85 k) hyR) (yMP_fr (fun k => p8 _ _ (by omega) (by omega)) (fun k => p8 _ _ (by omega) (by omega)) hyM) hwf u1 i1 j1
          obtain ⟨t1, t2, t3⟩ := jM_chg (P' := zshf (jP S) u i j) (m' := m5) (L := (u, i, some j) :: (jL S).take 15) h0 hW' r2 (by show (List.take 15 (jL S)).length + 1 ≤ 16; rw [List.length_take]; omega) (by rw [r3 _ _ (by omega)]; exact p2) (by rw [r3 _ _ (by omega)]; exact p3) ⟨by rw [r3 _ _ (by omega)]; exact p4, by rw [r3 _ _ (by omega)]; exact p5, by rw [r3 _ _ (by omega)]; exact p6, by rw [zun_shf]; exact ych_fr (fun a k _ _ => r3 a k (by omega)) p7⟩ (fun a k q1 q2 q3 q4 => by rw [r3 a k q1, p8 a k q3 q4]) (fun a k => by rw [r5, p10]) (fun a k => by rw [r4, p9])
          refine ⟨m5, ?_, t1, t2, t3⟩
          unfold fX9_move fX9_move_24 fX9_move_29
          simp only [zv, zN_lit, y_m1 h0.1 u1 i1, y_m1 h0.1 u1 j1, zca, zN10, if_false, jM_bad0 h0, if_true, hne, p1, zcv, r1]
    · refine jOp_E (k := 1) (w := zN 0) hC hM (by omega) (by omega) ?_ (fun h0 => hbad (Or.inl v1) _ h0)
      unfold fwL_move
      rw [u_fwx (E := xNS) (m1 := ubE m)]
      · rw [if_pos rfl]; rfl
      · unfold fxX8_move
        simp only [u4, u3, v2, xcx, zcv]
  · refine jOp_E (k := 1) (w := zN 0) hC hM (by omega) (by omega) ?_ (fun h0 => hbad (Or.inr u1) _ h0)
    unfold fwL_move
    rw [u_fwx (E := xNS) (m1 := ubE m)]
    · rw [if_pos rfl]; rfl
    · unfold fxX8_move
      simp only [u2, xcx]
theorem o_turn (hC : jC N m c d S) (hM : jM N m S) (x y : Int32) : jOp N (fwL_turn N 0 x y 111 m) (fX9_turn N 85 x y) := by
  have hW := hC.2.2.1
  have hwf := hW.1
  have hz := hwf.1
  obtain ⟨hUN, hUr, hc50, hc0⟩ := jC_UN hC
  have hcc := hC.2.1.1
  have g3 := hC.2.1.2.1.2.2.1
  have g4 := hC.2.1.2.1.2.2.2.1
  have g9 := hC.2.1.2.1.2.2.2.2.2.2.2.1
  rcases u_memx hC x y with ⟨u, i, u1, i1, rfl, rfl, u3, u4⟩ | ⟨u1, u2⟩
  · have hcn := (hwf.2.1 u u1).1
    have hok := zplc_ok hwf u1 i1
    have h84 := zok_84 hwf hok
    have hm84 := zmid_lt hwf hok
    obtain ⟨m1, a1, a2, a3, a4, a5⟩ := u_flip hUN hUr hC.2.2.2.1 hwf u1 i1
    obtain ⟨m2, b1, b2, b3, b4, b5⟩ := u_note (m := m1) (P := jP S) (P' := ztog (jP S) (12 * u + zplc (jP S) u i)) (L := jL S) (u := u) (i := i) (o := none) hC.1.2.2.2.2.1 (by simp only [a5]; exact hC.2.1.2.2.2.1) (by
      obtain ⟨q1, q2, nx, q3, q4, q5⟩ := jC_cg hC
      exact ⟨q1, by rw [a3 _ _ (by omega)]; exact q2, nx, q3, by rw [a3 _ _ (by omega)]; exact q4, jch_fr (fun a k _ _ => a3 a k (by omega)) q5⟩) ⟨u1, i1, fun j' hj' => by cases hj'⟩ zun_tog
    have hf := u_forget (N := N) (m := m2) (by rw [b5, a5]; exact g9)
    have hW' : jW (ztog (jP S) (12 * u + zplc (jP S) u i)) := jW_tog _ hW
    have hg : ∀ a k, (a < c + 8 ∨ c + 10 ≤ a) → (a < 46 ∨ 50 ≤ a) → ¬ (a = 0 ∧ k = 6) → ¬ (a = 77 ∧ k = 0) → gi (si (si m2 0 6 (zN 0)) 77 0 (zN 0)) a k = gi m a k := fun a k q1 q2 q3 q4 => by rw [gi_ne (by omega), gi_ne (by omega), b3 a k q2, a3 a k (by omega)]
    have hg2 : ∀ a k, c ≤ a → a < c + 18 → gi (si (si m2 0 6 (zN 0)) 77 0 (zN 0)) a k = gi m1 a k := fun a k q1 q2 => by rw [gi_ne (by omega), gi_ne (by omega)]; exact b3 a k (by omega)
    have hU3 : jU (si (si m2 0 6 (zN 0)) 77 0 (zN 0)) c (ztog (jP S) (12 * u + zplc (jP S) u i)) := jU_fr hg2 a2
    generalize hv : (if zon (jP S) (12 * u + zplc (jP S) u i) then zN 0 else zN 1) = v
    generalize hm3 : si (si m2 0 6 (zN 0)) 77 0 (zN 0) = m3 at *
    have hr3 : ∀ a k, gr m3 a k = gr m a k := fun a k => by rw [← hm3, gr_si, gr_si, b5, a5]
    have h9v := hU3.1.2.2.2.2.1 u i u1 i1
    have h8v := (hU3.1.2.2.2.1 (12 * u + zplc (jP S) u i) hok).2.2.2
    have h8v' : gi m3 (c + 8) (12 * u + zplc (jP S) u i) = v := by
      rw [h8v, ← hv]
      show (if zset (zon (jP S)) (12 * u + zplc (jP S) u i) (!(zon (jP S) (12 * u + zplc (jP S) u i))) (12 * u + zplc (jP S) u i) then zN 1 else zN 0) = _
      rw [zset_eq]
      cases zon (jP S) (12 * u + zplc (jP S) u i) <;> rfl
    refine jOp_ok (v := v) (m1 := m3) (S' := (ztog (jP S) (12 * u + zplc (jP S) u i), (jt S, jb S), jf S, (jr0 S, jr1 S), (u, i, none) :: (jL S).take 15)) hM ?_ (jC_chg hC hW' hU3 ?_ (by rw [← hm3, gi_ne (by omega), gi_si]) (by rw [← hm3, gi_si]) hg hr3) (fun a k q => ⟨hg a k (by omega) (by omega) (by omega) (by omega), hr3 a k⟩) (fun m3 hm3 _ => y_fresh hm3 (fun h0 => ?_))
    · obtain ⟨-, -, -, -, -, -, -, n8, n9, -⟩ := hUN
      obtain ⟨-, -, -, -, -, -, -, r8, r9, -⟩ := hUr
      have hmA : fX6_memberAt N c (zN u) (zN i) m3 = some (zN (12 * u + zplc (jP S) u i), m3) := by
        unfold fX6_memberAt
        simp (disch := omega) only [zgr ((hr3 c 9).trans r9), zv, zN_lit, zN_mul, zN_add, zald]
        rw [show u * 12 + i = 12 * u + i by omega, h9v]; rfl
      unfold fwL_turn
      refine u_fw hC.1 ?_ ?_
      · unfold fxX8_turn
        simp only [u4, u3, xcx, zcv, zgr g3, a1, zgr ((a5 0 4).trans g4), zN_lit, zneg]
        rw [show zM = zopt none from rfl, b1, zcv, hf, zcv]
        simp (disch := omega) only [zgr ((hr3 0 3).trans g3), zgr ((hr3 c 8).trans r8), hmA, zca, zald]
      · unfold fX8_turn
        simp only [u3, zcv, zgr g3, a1, zgr ((a5 0 4).trans g4), zN_lit, zneg]
        rw [show zM = zopt none from rfl, b1, zcv, hf, zcv]
        simp (disch := omega) only [zgr ((hr3 0 3).trans g3), zgr ((hr3 c 8).trans r8), hmA, zca, zald, h8v']
    · obtain ⟨q1, q2, nx, q3, q4, q5⟩ := b2
      rw [← hm3]
      exact ⟨q1, by rw [gi_ne (by omega), gi_ne (by omega)]; exact q2, nx, q3, by rw [gi_ne (by omega), gi_ne (by omega)]; exact q4, jch_fr (fun a k _ _ => by rw [gi_ne (by omega), gi_ne (by omega)]) q5⟩
    · obtain ⟨hyN, hyR, -, hyM⟩ := jM_U h0.1
      have hl := h0.1.2.2.2.2.2.2.2.2.1
      have hl2 := h0.1.2.2.2.2.2.2.2.2.2.1
      have hl3 := h0.1.2.2.2.2.2.2.2.2.2.2
      have hpl := zmid_plc hwf u1 i1
      generalize hX : 12 * u + zplc (jP S) u i = X at *
      obtain ⟨m4, p1, p2, p3, p4, p5, p6, p7, p8, p9, p10⟩ := y_note (x := zN u) (y := zN (zmid (jP S) X)) (v := zM) hyN hyR hl hl2 hl3
      have hyM4 : yMP m4 (jP S) := yMP_fr (fun k => p8 _ _ (by omega) (by omega)) (fun k => p8 _ _ (by omega) (by omega)) hyM
      have hfl := y_flip hyM4 hok
      have e1 : (ztog (jP S) X).1 = (jP S).1 := rfl
      obtain ⟨t1, t2, t3⟩ := jM_chg (P' := ztog (jP S) X) (m' := si m4 90 (zmid (jP S) X) (if zon (jP S) X then zN 1 else zN 0)) (L := (u, i, none) :: (jL S).take 15) h0 hW' hfl (by show (List.take 15 (jL S)).length + 1 ≤ 16; rw [List.length_take]; omega) (by rw [gi_ne (by omega)]; exact p2) (by rw [gi_ne (by omega)]; exact p3) ⟨by rw [gi_ne (by omega)]; exact p4, by
        rw [gi_ne (by omega)]
        show gi m4 92 (List.take 15 (jL S)).length = zN (zmid (ztog (jP S) X) (12 * u + zplc (jP S) u i))
        rw [hX, zmid_cg e1]; exact p5, by rw [gi_ne (by omega)]; exact p6, by
          have : zundo (ztog (jP S) X) (u, i, none) = jP S := by rw [← hX]; exact zun_tog
          rw [this]; exact ych_fr (fun a k _ _ => gi_ne (by omega)) p7⟩ (fun a k q1 q2 q3 q4 => by rw [gi_ne (by omega), p8 a k q3 q4]) (fun a k => by rw [gr_si, p10]) (fun a k => by rw [gl_si, p9])
      refine ⟨_, ?_, t1, t2, t3⟩
      obtain ⟨-, -, n88, -, n90, -⟩ := hyN
      have g9' := hyR.2.2.1
      have g11 := hyR.2.2.2.2.1
      have hmb : fX9_memberAt N 88 (zN u) (zN i) (si m3 85 0 (zN 0)) = some (zN (zmid (jP S) X), si m3 85 0 (zN 0)) := by
        rw [yo_memb n88 (by omega) (by omega), (hyM.2.2.2.1 u u1).2.2.2 i i1, hpl]
      have hof := (hyM4.2.2.2.2.1 X hok).2
      unfold fX9_turn fX9_turn_20 fX9_turn_66
      simp (disch := omega) only [zv, zN_lit, y_m1 h0.1 u1 i1, zca, zN10, if_false, jM_bad0 h0, if_true, zgr g9', hmb, zneg, p1, zcv, zgr ((p10 85 11).trans g11), zald, hof]
      cases hq : zon (jP S) X
      · rw [hq] at hv
        simp (disch := omega) only [if_true, if_false, Bool.false_eq_true, zN10, yzst, ynar0, ynar1, zgr_si, zgr ((p10 85 11).trans g11), zald, gi_si]
        rw [← hv]; rfl
      · rw [hq] at hv
        simp (disch := omega) only [if_true, if_false, Bool.false_eq_true, zN10, yzst, ynar0, ynar1, zgr_si, zgr ((p10 85 11).trans g11), zald, gi_si]
        rw [← hv]; rfl
  · refine jOp_E (k := 1) (w := zN 0) hC hM (by omega) (by omega) ?_ (fun h0 => ?_)
    · unfold fwL_turn
      rw [u_fwx (E := xNS) (m1 := ubE m)]
      · rw [if_pos rfl]; rfl
      · unfold fxX8_turn
        simp only [u2, xcx]
    · unfold fX9_turn fX9_turn_20
      simp only [zv, zN_lit, y_m0 h0.1 u1, zca, if_true, jM_bad1 h0 (show 1 ≤ 1 by omega) (by omega) (show 0 < 2 by omega), zN10, if_false]
end UV
