/-! ===== u: undo ===== -/
section UW
variable {N : Nat → Nat} {m : XM} {c d : Nat} {S : zJ} {P P' : zP} {L : List zCh}
theorem jW_und {e : zCh} (h : jW P) (hk : zchk P e) : jW (zundo P e) := by
  obtain ⟨u, i, o⟩ := e
  cases o with
  | none => exact jW_tog _ h
  | some j => exact jW_shf h (hk.2.2 j rfl) hk.2.1
theorem u_back (hC : jC N m c d S) {e : zCh} {l : List zCh} (hL : jL S = e :: l) : ∃ m', fX0_takeBack N 46 c m = some (zN 1, m') ∧ zchk (jP S) e ∧ jU m' c (zundo (jP S) e) ∧ jcg m' (zundo (jP S) e) l ∧ (∀ a k, (a < c + 8 ∨ c + 10 ≤ a) → (a < 46 ∨ 50 ≤ a) → gi m' a k = gi m a k) ∧ ∀ a k, gr m' a k = gr m a k := by
  have hwf := hC.2.2.1.1
  obtain ⟨hUN, hUr, hc50, hc0⟩ := jC_UN hC
  have hcc := hC.2.1.1
  obtain ⟨r7, r8, r9⟩ := hC.2.1.2.2.2.1
  obtain ⟨n7, n8, n9⟩ := hC.1.2.2.2.2.1
  obtain ⟨q1, q2, nx, q3, q4, q5⟩ := jC_cg hC
  rw [hL] at q1 q2 q5
  obtain ⟨hk, s1, s2, s3, s4⟩ := q5
  have q1' : l.length + 1 ≤ 16 := q1
  have q2' : gi m 46 0 = zN (l.length + 1) := q2
  rw [show (nx + 15 - 0) % 16 = (nx + 15) % 16 by rw [Nat.sub_zero]] at s1 s2 s3
  have hrem : xrem (zN (nx + 15)) (zN 16) = zN ((nx + 15) % 16) := zN_rem (by omega) (by omega)
  generalize hm1 : si (si m 46 0 (zN l.length)) 46 1 (zN ((nx + 15) % 16)) = m1
  have h1 : ∀ a k, a ≠ 46 → gi m1 a k = gi m a k := fun a k ha => by rw [← hm1, gi_ne (by omega), gi_ne (by omega)]
  have h1r : ∀ a k, gr m1 a k = gr m a k := fun a k => by rw [← hm1]; rfl
  have h46 : gi m1 46 1 = zN ((nx + 15) % 16) := by rw [← hm1, gi_si]
  have h460 : gi m1 46 0 = zN l.length := by rw [← hm1, gi_ne (by omega), gi_si]
  have hU1 : jU m1 c (jP S) := jU_fr (fun a k _ _ => h1 a k (by omega)) hC.2.2.2.1
  have hUr1 : zUr m1 c := zUr_fr (fun a k _ _ => h1r a k) hUr
  have hkk : (nx + 15) % 16 < 16 := Nat.mod_lt _ (by omega)
  generalize hkx : (nx + 15) % 16 = kx at *
  have hstart : ∀ κ : Int32 → XM → Option (Int32 × XM), fX0_takeBack N 46 c m = (xald N m1 49 (zN kx) fun v12 => if (v12 : Int32) = zM then (xald N m1 47 (zN kx) fun v25 => xald N m1 48 (zN kx) fun v28 => xcv (fX6_flip N c v25 v28 m1) fun m29 => some (zN 1, m29)) else (xald N m1 47 (zN kx) fun v15 => xald N m1 49 (zN kx) fun v18 => xald N m1 48 (zN kx) fun v21 => xcv (fX6_shift N c v15 v18 v21 m1) fun m22 => some (zN 1, m22))) := fun _ => by
    unfold fX0_takeBack
    have hne : ¬ l.length + 1 = 0 := by omega
    simp (disch := omega) only [zv, q2', zN_lit, zN_eq, hne, if_false, zN_sub, Nat.add_sub_cancel, gi_ne, q4, zN_add, zdv]
    rw [show nx + 16 - 1 = nx + 15 by omega, hrem, hm1]
    simp only [zgr ((h1r 46 2).trans r7), zgr ((h1r 46 3).trans r8), zgr ((h1r 46 4).trans r9), h46, zneg]
  have hs1 := hstart (fun _ _ => none)
  simp (disch := omega) only [zald, h1, s1, s2, s3] at hs1
  have hjc : ∀ m', (∀ a k, 46 ≤ a → a < 50 → gi m' a k = gi m1 a k) → jcg m' (zundo (jP S) e) l := fun m' h' => by
    refine ⟨by omega, by rw [h' _ _ (by omega) (by omega)]; exact h460, kx, hkk, by rw [h' _ _ (by omega) (by omega)]; exact h46, ?_⟩
    rw [← hkx]
    exact jch_bk q3 (fun a k z1 z2 => by rw [h' _ _ (by omega) (by omega), h1 _ _ (by omega)]) (by omega) s4
  obtain ⟨u, i, o⟩ := e
  cases o with
  | none =>
    obtain ⟨m2, a1, a2, a3, a4, a5⟩ := u_flip hUN hUr1 hU1 hwf hk.1 hk.2.1
    refine ⟨m2, ?_, hk, a2, hjc m2 (fun a k z1 z2 => a3 a k (by omega)), fun a k z1 z2 => by rw [a3 a k (by omega), h1 a k (by omega)], fun a k => by rw [a5, h1r]⟩
    rw [hs1]
    show (if zM = zM then _ else _) = _
    rw [if_pos rfl, a1]; rfl
  | some j =>
    have hcn := (hwf.2.1 u hk.1).1
    have hj : j < zcnt (jP S) u := hk.2.2 j rfl
    obtain ⟨m2, a1, a2, a3, a4, a5⟩ := u_shift hUN hUr1 hU1 hwf hk.1 hj hk.2.1
    refine ⟨m2, ?_, hk, a2, hjc m2 (fun a k z1 z2 => a3 a k (by omega)), fun a k z1 z2 => by rw [a3 a k (by omega), h1 a k (by omega)], fun a k => by rw [a5, h1r]⟩
    rw [hs1]
    show (if zN j = zM then _ else _) = _
    rw [if_neg (by rw [zN_m (by omega)]; exact id)]
    show xcv (fX6_shift N c (zN u) (zN j) (zN i) m1) _ = _
    rw [a1]; rfl
theorem o_undo (hC : jC N m c d S) (hM : jM N m S) : jOv N (fX8_undo N 0 m) (fX9_undo N 85) := by
  have hW := hC.2.2.1
  have hwf := hW.1
  have hz := hwf.1
  obtain ⟨hUN, hUr, hc50, hc0⟩ := jC_UN hC
  have hcc := hC.2.1.1
  have g3 := hC.2.1.2.1.2.2.1
  have g4 := hC.2.1.2.1.2.2.2.1
  have g9 := hC.2.1.2.1.2.2.2.2.2.2.2.1
  rcases hL : jL S with _ | ⟨e, l⟩
  · refine jOv_ok (v := zM) (m1 := m) hM ?_ hC (jfc_rf m) (fun m2 hm2 => y_fresh hm2 (fun h0 => ⟨_, ?_, h0.1, jfm_rf _, h0.2⟩))
    · have hq := (jC_cg hC).2.1
      rw [hL] at hq
      have hq' : gi m 46 0 = zN 0 := hq
      unfold fX8_undo fX0_takeBack
      simp only [zgr g4, zgr g3, zv, hq', zN_lit, if_true, zca, zneg]
    · have hq := h0.1.2.2.2.2.2.2.2.2.2.1
      rw [hL] at hq
      have hq' : gi (si m2 85 0 (zN 0)) 85 15 = zN 0 := hq
      unfold fX9_undo
      simp only [zv, zN_lit, hq', if_true, zneg]
  · obtain ⟨m1, a1, a2, a3, a4, a5, a6⟩ := u_back hC hL
    have hW' := jW_und hW a2
    have hf := u_forget (N := N) (m := m1) (by rw [a6]; exact g9)
    have hg : ∀ a k, (a < c + 8 ∨ c + 10 ≤ a) → (a < 46 ∨ 50 ≤ a) → ¬ (a = 0 ∧ k = 6) → ¬ (a = 77 ∧ k = 0) → gi (si (si m1 0 6 (zN 0)) 77 0 (zN 0)) a k = gi m a k := fun a k q1 q2 q3 q4 => by rw [gi_ne (by omega), gi_ne (by omega), a5 a k q1 q2]
    refine jOv_ok (v := zN l.length) (m1 := si (si m1 0 6 (zN 0)) 77 0 (zN 0)) (S' := (zundo (jP S) e, (jt S, jb S), jf S, (jr0 S, jr1 S), l)) hM ?_ (jC_chg hC hW' (jU_fr (fun a k q1 q2 => by rw [gi_ne (by omega), gi_ne (by omega)]) a3) ?_ (by rw [gi_ne (by omega), gi_si]) (gi_si _ _ _ _) hg (fun a k => by rw [gr_si, gr_si, a6])) (fun a k q => ⟨hg a k (by omega) (by omega) (by omega) (by omega), by rw [gr_si, gr_si, a6]⟩) (fun m2 hm2 => y_fresh hm2 (fun h0 => ?_))
    · unfold fX8_undo
      simp only [zgr g4, zgr g3, a1, zca, zN_lit, zN10, if_false, hf, zcv, zgr_si, zgr ((a6 0 4).trans g4), zv]
      rw [gi_ne (by omega), gi_ne (by omega), a4.2.1]
    · obtain ⟨q1, q2, nx, q3, q4, q5⟩ := a4
      exact ⟨q1, by rw [gi_ne (by omega), gi_ne (by omega)]; exact q2, nx, q3, by rw [gi_ne (by omega), gi_ne (by omega)]; exact q4, jch_fr (fun a k _ _ => by rw [gi_ne (by omega), gi_ne (by omega)]) q5⟩
    · obtain ⟨hyN, hyR, -, hyM⟩ := jM_U h0.1
      have hl := h0.1.2.2.2.2.2.2.2.2.1
      have hl2 := h0.1.2.2.2.2.2.2.2.2.2.1
      have hl3 := h0.1.2.2.2.2.2.2.2.2.2.2
      rw [hL] at hl hl2 hl3
      have hl' : l.length + 1 ≤ 16 := hl
      have hl2' : gi (si m2 85 0 (zN 0)) 85 15 = zN (l.length + 1) := hl2
      obtain ⟨t1, t2, t3, t4⟩ := hl3
      generalize hm3 : si (si (si m2 85 0 (zN 0)) 85 15 (zN l.length)) 85 16 (zN 0) = m3
      have h3 : ∀ a k, ¬ (a = 85 ∧ (k = 15 ∨ k = 16)) → gi m3 a k = gi (si m2 85 0 (zN 0)) a k := fun a k q => by rw [← hm3, gi_ne (by omega), gi_ne (by omega)]
      have h3r : ∀ a k, gr m3 a k = gr (si m2 85 0 (zN 0)) a k := fun a k => by rw [← hm3]; rfl
      have h3l : ∀ a k, gl m3 a k = gl (si m2 85 0 (zN 0)) a k := fun a k => by rw [← hm3]; rfl
      have h15 : gi m3 85 15 = zN l.length := by rw [← hm3, gi_ne (by omega), gi_si]
      have h16 : gi m3 85 16 = zN 0 := by rw [← hm3, gi_si]
      have hyM3 : yMP m3 (jP S) := yMP_fr (fun k => h3 _ _ (by omega)) (fun k => h3 _ _ (by omega)) hyM
      have hyR3 : yR m3 := yR_fr (fun k => h3r 85 k) hyR
      obtain ⟨-, -, -, -, r11, r12, r13, r14, -⟩ := id hyR3
      obtain ⟨-, -, n88, -, n90, n91, n92, n93, -⟩ := id hyN
      have hst : fX9_undo N 85 m2 = (xald N m3 93 (zN l.length) fun v9 => if (v9 : Int32) = zM then (xald N m3 92 (zN l.length) fun v24 => xald N m3 92 (zN l.length) fun v28 => xald N m3 90 v28 fun v29 => if (v29 : Int32) = zN 0 then (fX9_undo_77 N 85 90 v24 (zN 1) m3) else (fX9_undo_77 N 85 90 v24 (zN 0) m3)) else (xald N m3 91 (zN l.length) fun v12 => xald N m3 93 (zN l.length) fun v15 => xald N m3 92 (zN l.length) fun v18 => xcv (fX9_shifts N 85 v12 v15 v18 m3) fun m19 => xv (gi m19 85 15) fun v20 => some (v20, m19))) := by
        unfold fX9_undo
        have hne : ¬ l.length + 1 = 0 := by omega
        simp (disch := omega) only [zv, zN_lit, hl2', zN_eq, hne, if_false, zN_sub, Nat.add_sub_cancel]
        rw [hm3]
        simp only [zgr r14, zgr r13, zgr r12, zgr r11, h15, zneg]
      simp (disch := omega) only [zald, h3, t1, t2, t3] at hst
      obtain ⟨u, i, o⟩ := e
      cases o with
      | none =>
        have hok := zplc_ok hwf a2.1 a2.2.1
        have hm84 := zmid_lt hwf hok
        have hof := (hyM3.2.2.2.2.1 _ hok).2
        have hfl := y_flip hyM3 hok
        generalize hX : 12 * u + zplc (jP S) u i = X at *
        have hu : zundo (jP S) (u, i, none) = ztog (jP S) X := by rw [← hX]; rfl
        obtain ⟨b1, b2, b3⟩ := jM_chg (P' := ztog (jP S) X) (m' := si m3 90 (zmid (jP S) X) (if zon (jP S) X then zN 1 else zN 0)) (L := l) h0 (jW_tog _ hW) hfl (by omega) (by rw [gi_ne (by omega)]; exact h15) (by rw [gi_ne (by omega)]; exact h16) (by rw [← hu]; exact ych_fr (fun a k _ _ => by rw [gi_ne (by omega), h3 _ _ (by omega)]) t4) (fun a k q1 q2 q3 q4 => by rw [gi_ne (by omega), h3 a k q4]) (fun a k => by rw [gr_si, h3r]) (fun a k => by rw [gl_si, h3l])
        rw [hu]
        refine ⟨_, ?_, b1, b2, b3⟩
        rw [hst]
        show (if zM = zM then (xald N m3 90 (zN (zmid (jP S) X)) fun v29 => if (v29 : Int32) = zN 0 then (fX9_undo_77 N 85 90 (zN (zmid (jP S) X)) (zN 1) m3) else (fX9_undo_77 N 85 90 (zN (zmid (jP S) X)) (zN 0) m3)) else _) = _
        rw [if_pos rfl, zald (by omega) (by omega), hof]
        unfold fX9_undo_77
        cases hq : zon (jP S) X
        · simp (disch := omega) only [if_true, if_false, Bool.false_eq_true, zN10, yzst, ynar0, ynar1, zv, gi_ne, h15]
        · simp (disch := omega) only [if_true, if_false, zN10, yzst, ynar0, ynar1, zv, gi_ne, h15]
      | some j =>
        have hcn := (hwf.2.1 u a2.1).1
        have hj : j < zcnt (jP S) u := a2.2.2 j rfl
        obtain ⟨m4, r1, r2, r3, r4, r5⟩ := y_shift (P := jP S) hyN hyR3 hyM3 hwf a2.1 hj a2.2.1
        have hu : zundo (jP S) (u, i, some j) = zshf (jP S) u j i := rfl
        obtain ⟨b1, b2, b3⟩ := jM_chg (P' := zshf (jP S) u j i) (m' := m4) (L := l) h0 hW' r2 (by omega) (by rw [r3 _ _ (by omega)]; exact h15) (by rw [r3 _ _ (by omega)]; exact h16) (by rw [← hu]; exact ych_fr (fun a k _ _ => by rw [r3 _ _ (by omega), h3 _ _ (by omega)]) t4) (fun a k q1 q2 q3 q4 => by rw [r3 a k q1, h3 a k q4]) (fun a k => by rw [r5, h3r]) (fun a k => by rw [r4, h3l])
        rw [hu]
        refine ⟨m4, ?_, b1, b2, b3⟩
        rw [hst]
        show (if zN j = zM then _ else _) = _
        rw [if_neg (by rw [zN_m (by omega)]; exact id)]
        show xcv (fX9_shifts N 85 (zN u) (zN j) (zN i) m3) _ = _
        rw [r1, zcv]
        show some (gi m4 85 15, m4) = _
        rw [r3 _ _ (by omega), h15]
end UW
