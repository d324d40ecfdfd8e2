/-! ===== u: value, unit, told, print ===== -/
section UF
variable {N : Nat → Nat} {m : XM} {c d : Nat} {S : zJ}
theorem o_value (hC : jC N m c d S) (hM : jM N m S) (x y : Int32) : jOp N (fwL_value N 0 x y 111 m) (fX9_value N 85 x y) := by
  have hW := hC.2.2.1
  have hwf := hW.1
  have hz := hwf.1
  obtain ⟨hUN, hUr, hc50, hc0⟩ := jC_UN hC
  have g3 := hC.2.1.2.1.2.2.1
  rcases u_unit hC x with ⟨u, u1, rfl, u3, u4⟩ | ⟨u1, u2⟩
  · have hnm : (∃ z a, znk (jP S) z ∧ z / 12 = u ∧ znam (jP S) z = some a ∧ y = zN a ∧ fX6_memberNamed N c (zN u) y m = some (zN z, m)) ∨ ((∀ z a, znk (jP S) z → z / 12 = u → znam (jP S) z = some a → y ≠ zN a) ∧ fX6_memberNamed N c (zN u) y m = some (zM, m)) := by
      obtain ⟨-, -, -, -, -, -, -, -, -, u10, -⟩ := hUN
      obtain ⟨-, -, -, -, -, -, -, -, -, r10, -⟩ := hUr
      have h26 : ∀ z a, znk (jP S) z → znam (jP S) z = some a → a < 26 := fun z a hz' ha => (hwf.2.2.1 z hz'.1).2.2.2.2.2 a ha
      unfold fX6_memberNamed fX6_memberNamed_24
      rcases zcase y with e | ⟨a, a1, rfl⟩
      · refine Or.inr ⟨fun z a hz' _ ha he => ?_, ?_⟩
        · have := h26 z a hz' ha
          rw [he, zlt0 (by omega)] at e; exact e
        · simp only [zN_lit, e, if_true, zneg]
      · by_cases h : a < 26
        · have hj := hC.2.2.2.1.2 u a u1 h
          have hge : ¬ 26 ≤ a := by omega
          simp (disch := omega) only [zN_lit, zlt0, if_false, zN_le, hge, zgr r10, zv, zN_mul, zN_add, zald]
          rw [show u * 26 + a = 26 * u + a by omega]
          by_cases hex : ∃ z, znk (jP S) z ∧ z / 12 = u ∧ znam (jP S) z = some a
          · obtain ⟨z, z1, z2, z3⟩ := hex
            exact Or.inl ⟨z, a, z1, z2, z3, rfl, by rw [hj.1 z z1 z2 z3]⟩
          · refine Or.inr ⟨fun z b hz' hzu hzb he => ?_, ?_⟩
            · have := zN_inj (by omega) (by have := h26 z b hz' hzb; omega) he
              rw [← this] at hzb
              exact hex ⟨z, hz', hzu, hzb⟩
            · rw [hj.2 (fun z hz' hzu hzb => hex ⟨z, hz', hzu, hzb⟩)]
        · refine Or.inr ⟨fun z b hz' _ hzb he => ?_, ?_⟩
          · have hb := h26 z b hz' hzb
            have := zN_inj (by omega) (by omega) he
            omega
          · have hge : 26 ≤ a := by omega
            simp (disch := omega) only [zN_lit, zlt0, if_false, zN_le, hge, if_true, zneg]
    have hym : ∀ m2, jM N m2 S → (∃ z a, znk (jP S) z ∧ z / 12 = u ∧ znam (jP S) z = some a ∧ y = zN a ∧ fX9_named N 88 (zN u) y m2 = some (zN (zmid (jP S) z), m2)) ∨ ((∀ z a, znk (jP S) z → z / 12 = u → znam (jP S) z = some a → y ≠ zN a) ∧ fX9_named N 88 (zN u) y m2 = some (zM, m2)) := fun m2 hm2 => by
      unfold fX9_named
      have hX := zXF
      have hcn := (hwf.2.1 u u1).1
      simp only [zN_lit]
      exact y_named (jM_U hm2) hW u1 y (zcnt (jP S) u) XF 0 (by omega) (by omega) (fun k hk => by omega)
    have hbad : ∀ z : Int32, (∀ w a, znk (jP S) w → w / 12 = u → znam (jP S) w = some a → y = zN a → zknd (jP S) w ≠ 1) → fxX8_value N 0 (zN u) y m = some (xNS, ubE m) → jOp N (fwL_value N 0 (zN u) y 111 m) (fX9_value N 85 (zN u) y) := fun _ hno hfx => by
      refine jOp_E (k := 1) (w := zN 0) hC hM (by omega) (by omega) ?_ (fun h0 => ?_)
      · unfold fwL_value
        rw [u_fwx (E := xNS) (m1 := ubE m) hfx, if_pos rfl]; rfl
      · obtain ⟨⟨-, -, n88, -⟩, ⟨-, -, g9, -⟩, -, ⟨-, -, -, -, hmm, -⟩⟩ := jM_U h0.1
        unfold fX9_value fX9_value_26 fX9_value_50 fX9_value_55
        rcases hym _ h0.1 with ⟨z, a, z1, z2, z3, z4, z5⟩ | ⟨z1, z2⟩
        · have hmid := zmid_lt hwf z1.1
          have hk0 := (hmm z z1.1).1.1
          have hk := (hwf.2.2.1 z z1.1).1
          have hne := hno z a z1 z2 z3 z4
          have e0 := yo_mem (m := si (ubE m) 85 0 (zN 0)) (a := 88) (x := zmid (jP S) z) (w := 0) n88 (by omega) (by omega)
          rw [Nat.add_zero, hk0] at e0
          have hmo : fX9_more N (zN 0) (zN (zmid (jP S) z)) (si (ubE m) 85 0 (zN 0)) = some (zN (zmid (jP S) z), si (ubE m) 85 0 (zN 0)) := by
            unfold fX9_more
            simp (disch := omega) only [zN_le, Nat.zero_le, if_true]
          simp (disch := omega) only [zv, zN_lit, y_u1 h0.1 u1, zca, zN10, if_false, zgr g9, z5, zneg, zN_m, hmo, e0, zN_eq, hne, jM_bad1 h0 (show 1 ≤ 1 by omega) (by omega) (show 0 < 2 by omega)]
          rfl
        · simp (disch := omega) only [zv, zN_lit, y_u1 h0.1 u1, zca, zN10, if_false, zgr g9, z2, zneg, if_true, jM_bad1 h0 (show 1 ≤ 1 by omega) (by omega) (show 0 < 2 by omega)]
    rcases hnm with ⟨z, a, z1, z2, z3, z4, z5⟩ | ⟨z1, z2⟩
    · have h84 := zok_84 hwf z1.1
      obtain ⟨-, -, -, u4', -⟩ := hUN
      obtain ⟨-, -, -, r4, -⟩ := hUr
      have hk0 := (hC.2.2.2.1.1.2.2.2.1 z z1.1).1
      have hk := (hwf.2.2.1 z z1.1).1
      by_cases hk1 : zknd (jP S) z = 1
      · obtain ⟨m1, a1, a2, a3, a4, a5, a6, a7⟩ := u_plain hC
        have r5 := a2.2.1.2.1.2.2.2.2.1
        have hN52 : N 52 = 84 := hC.1.2.2.2.2.2.1.2.1
        have r52 : gr m1 50 2 = some 52 := a7.2.2.2.2.2.2.2.2.1
        have hv : gi m1 52 z = zval (zPlain (jP S)).2 z := a6.2.1.2.1 z z1.1
        refine jOp_ok (v := zval (zPlain (jP S)).2 z) (m1 := m1) hM ?_ a2 a3 (fun m2 hm2 _ => y_fresh hm2 (fun h0 => ?_))
        · unfold fwL_value
          refine u_fw hC.1 ?_ ?_
          · unfold fxX8_value fxX8_value_39
            simp (disch := omega) only [u4, u3, xcx, zcv, zgr g3, z5, zca, zN_lit, zneg, zN_m, if_false, zgr r4, zald, hk0, hk1, if_true, ue_1.1, ue_1.2, a1, zgr r5, zgr r52]
          · unfold fX8_value fX8_value_39
            simp (disch := omega) only [u3, zcv, zgr g3, z5, zca, zN_lit, zneg, zN_m, if_false, zgr r4, zald, hk0, hk1, if_true, ue_1.1, a1, zgr r5, zgr r52, hv]
        · obtain ⟨m3, b1, b2, b3, b4, b5⟩ := y_lays h0.1
          refine ⟨m3, ?_, b2, b3, b4.trans h0.2⟩
          have hvm := (yFs_show b5).2.2.1 z z1.1
          obtain ⟨⟨-, -, n88, -, -, -, -, -, -, -, n96, -⟩, ⟨-, -, g9, -⟩, -, ⟨-, -, -, -, hmm, -⟩⟩ := jM_U h0.1
          obtain ⟨-, -, -, -, -, -, -, -, -, -, g20, -⟩ := b2.2.1
          have hmid := zmid_lt hwf z1.1
          have hk0' := (hmm z z1.1).1.1
          have e0 := yo_mem (m := si m2 85 0 (zN 0)) (a := 88) (x := zmid (jP S) z) (w := 0) n88 (by omega) (by omega)
          rw [Nat.add_zero, hk0', hk1] at e0
          have hmo : fX9_more N (zN 0) (zN (zmid (jP S) z)) (si m2 85 0 (zN 0)) = some (zN (zmid (jP S) z), si m2 85 0 (zN 0)) := by
            unfold fX9_more
            simp (disch := omega) only [zN_le, Nat.zero_le, if_true]
          have hz5 : fX9_named N 88 (zN u) y (si m2 85 0 (zN 0)) = some (zN (zmid (jP S) z), si m2 85 0 (zN 0)) := by
            rcases hym _ h0.1 with ⟨w, b, w1, w2, w3, w4, w5⟩ | ⟨w1, -⟩
            · have hab : a = b := by
                have h26 := (hwf.2.2.1 z z1.1).2.2.2.2.2 a z3
                have h26' := (hwf.2.2.1 w w1.1).2.2.2.2.2 b w3
                exact zN_inj (by omega) (by omega) (z4.symm.trans w4)
              rw [← hab] at w3
              have := hW.2.2.1 z w a z1 w1 (z2.trans w2.symm) z3 w3
              rw [this]; exact w5
            · exact absurd z4 (w1 z a z1 z2 z3)
          unfold fX9_value fX9_value_26 fX9_value_55
          simp (disch := omega) only [zv, zN_lit, y_u1 h0.1 u1, zca, zN10, if_false, zgr g9, hz5, zneg, zN_m, hmo, e0, if_true, jM_bad0 h0, b1, zcv, zgr g20, zald, hvm]
      · refine hbad 0 (fun w b w1 w2 w3 w4 => ?_) ?_
        · have hab : a = b := by
            have h26 := (hwf.2.2.1 z z1.1).2.2.2.2.2 a z3
            have h26' := (hwf.2.2.1 w w1.1).2.2.2.2.2 b w3
            exact zN_inj (by omega) (by omega) (z4.symm.trans w4)
          rw [← hab] at w3
          rw [← hW.2.2.1 z w a z1 w1 (z2.trans w2.symm) z3 w3]
          exact hk1
        · unfold fxX8_value fxX8_value_38 fxX8_value_39
          simp (disch := omega) only [u4, u3, xcx, zcv, zgr g3, z5, zca, zN_lit, zneg, zN_m, if_false, zgr r4, zald, hk0, zN_eq, hk1, ue_0]
          rfl
    · refine hbad 0 (fun w b w1 w2 w3 w4 => absurd w4 (z1 w b w1 w2 w3)) ?_
      unfold fxX8_value fxX8_value_38 fxX8_value_39
      simp (disch := omega) only [u4, u3, xcx, zcv, zgr g3, z2, zca, zN_lit, zneg, if_true, ue_0]
      rfl
  · refine jOp_E (k := 1) (w := zN 0) hC hM (by omega) (by omega) ?_ (fun h0 => ?_)
    · unfold fwL_value
      rw [u_fwx (E := xNS) (m1 := ubE m)]
      · rw [if_pos rfl]; rfl
      · unfold fxX8_value
        simp only [u2, xcx]
    · unfold fX9_value fX9_value_26 fX9_value_50 fX9_value_55
      simp only [zv, zN_lit, y_u0 h0.1 u1, zca, if_true, zneg, jM_bad1 h0 (show 1 ≤ 1 by omega) (by omega) (show 0 < 2 by omega), zN10, if_false]
/-- members of a kind -/
def zck (P : zP) (u k : Nat) : Nat := zsm (fun j => if zknd P (12 * u + j) = k then 1 else 0) (zcnt P u)
theorem u_kind {P : zP} (hw : zwf P) (hUN : zUN N c) (hUr : zUr m c) (hCP : zCP m c P) {u k : Nat} (hu : u < zn P) (hk : k ≤ 4) : ∀ (dd n i : Nat), dd < n → i + dd = zcnt P u → fX6_countKind_5 N n c (zN u) (zN k) (zN (zsm (fun j => if zknd P (12 * u + j) = k then 1 else 0) i)) (zN i) m = some (zN (zck P u k), m) := by
  have hz := hw.1
  have hcn := (hw.2.1 u hu).1
  obtain ⟨-, -, u3, u4, -⟩ := hUN
  obtain ⟨-, -, r3, r4, -⟩ := hUr
  have hc3 := (hCP.2.2.1 u hu).2.2
  intro dd
  induction dd with
  | zero =>
    intro n i hn hi
    obtain ⟨n, rfl⟩ : ∃ j, n = j + 1 := ⟨n - 1, by omega⟩
    unfold fX6_countKind_5
    simp (disch := omega) only [zv, zgr r3, zald, hc3, zN_le]
    rw [if_pos (by omega), show i = zcnt P u by omega]
    rfl
  | succ dd ih =>
    intro n i hn hi
    obtain ⟨n, rfl⟩ : ∃ j, n = j + 1 := ⟨n - 1, by omega⟩
    have hx : zok P (12 * u + i) := ⟨by omega, by rw [show (12 * u + i) / 12 = u by omega]; omega⟩
    have h4 := (hCP.2.2.2.1 _ hx).1
    have hk4 := (hw.2.2.1 _ hx).1
    have hih := ih n (i + 1) (by omega) (by omega)
    have hs : zsm (fun j => if zknd P (12 * u + j) = k then 1 else 0) (i + 1) = zsm (fun j => if zknd P (12 * u + j) = k then 1 else 0) i + if zknd P (12 * u + i) = k then 1 else 0 := rfl
    rw [hs] at hih
    have hle : ¬ zcnt P u ≤ i := by omega
    unfold fX6_countKind_5 fX6_countKind_35
    simp (disch := omega) only [zv, zgr r3, zald, hc3, zN_le, hle, if_false, zgr r4, zN_lit, zN_mul, zN_add]
    rw [show u * 12 + i = 12 * u + i by omega, h4]
    simp (disch := omega) only [zN_eq]
    by_cases e : zknd P (12 * u + i) = k
    · rw [if_pos e] at hih ⊢; exact hih
    · rw [if_neg e] at hih ⊢; exact hih
theorem y_kind {P : zP} (hw : jW P) (hU : yU N m P) {u k : Nat} (hu : u < zn P) (hk : k ≤ 4) : ∀ (dd n i : Nat), dd < n → i + dd = zcnt P u → fX9_manyOf_5 N n 85 (zN u) (zN k) (zN (zsm (fun i => (fun j => if zknd P (12 * u + j) = k then 1 else 0) (zplc P u i)) i)) (zN i) m = some (zN (zck P u k), m) := by
  have hwf := hw.1
  have hz := hwf.1
  have hcn := (hwf.2.1 u hu).1
  obtain ⟨⟨-, -, n88, -⟩, ⟨-, -, g9, -⟩, -, ⟨-, -, -, hu0, hm, -⟩⟩ := hU
  have hc := (hu0 u hu).2.2.1
  intro dd
  induction dd with
  | zero =>
    intro n i hn hi
    obtain ⟨n, rfl⟩ : ∃ j, n = j + 1 := ⟨n - 1, by omega⟩
    unfold fX9_manyOf_5
    simp (disch := omega) only [zv, zgr g9, zN_lit, yo_unit, zca, hc, zN_le]
    rw [if_pos (by omega), show i = zcnt P u by omega]
    exact congrArg (fun z => some (zN z, m)) (hw.2.1 u hu (fun j => if zknd P (12 * u + j) = k then 1 else 0))
  | succ dd ih =>
    intro n i hn hi
    obtain ⟨n, rfl⟩ : ∃ j, n = j + 1 := ⟨n - 1, by omega⟩
    have hp := (hu0 u hu).2.2.2 i (by omega)
    have hok := zplc_ok hwf hu (i := i) (by omega)
    have hmid := zmid_lt hwf hok
    have hme := zmid_plc hwf hu (i := i) (by omega)
    have y0 := (hm _ hok).1.1
    have hk4 := (hwf.2.2.1 _ hok).1
    rw [hme] at y0
    have e0 := yo_mem (m := m) (a := 88) (x := zbase P u + zplc P u i) (w := 0) n88 (by omega) (by omega)
    rw [Nat.add_zero, y0] at e0
    have hih := ih n (i + 1) (by omega) (by omega)
    have hs : zsm (fun i => (fun j => if zknd P (12 * u + j) = k then 1 else 0) (zplc P u i)) (i + 1) = zsm (fun i => (fun j => if zknd P (12 * u + j) = k then 1 else 0) (zplc P u i)) i + if zknd P (12 * u + zplc P u i) = k then 1 else 0 := rfl
    rw [hs] at hih
    have hle : ¬ zcnt P u ≤ i := by omega
    unfold fX9_manyOf_5 fX9_manyOf_47
    simp (disch := omega) only [zv, zgr g9, zN_lit, yo_unit, zca, hc, zN_le, hle, if_false, yo_memb, hp, e0, zN_eq, zN_add]
    by_cases e : zknd P (12 * u + zplc P u i) = k
    · rw [if_pos e] at hih ⊢; exact hih
    · rw [if_neg e] at hih ⊢; exact hih
theorem o_unit (hC : jC N m c d S) (hM : jM N m S) (x y : Int32) : jOp N (fwL_unit N 0 x y 111 m) (fX9_unit N 85 x y) := by
  have hW := hC.2.2.1
  have hwf := hW.1
  have hz := hwf.1
  obtain ⟨hUN, hUr, hc50, hc0⟩ := jC_UN hC
  have g3 := hC.2.1.2.1.2.2.1
  have hX := zXF
  rcases u_unit hC x with ⟨u, u1, rfl, u3, u4⟩ | ⟨u1, u2⟩
  · rcases u_what (N := N) (m := m) (l := 4) (by omega) y with ⟨w, w1, rfl, w3, w4⟩ | ⟨w1, w2⟩
    · have hcn := (hwf.2.1 u u1).1
      obtain ⟨q1, q2, q3⟩ := hC.2.2.2.1.1.2.2.1 u u1
      have hc1 : fX6_countKind N c (zN u) (zN 1) m = some (zN (zck (jP S) u 1), m) := by
        unfold fX6_countKind; simp only [zN_lit]; exact u_kind hwf hUN hUr hC.2.2.2.1.1 u1 (by omega) (zcnt (jP S) u) XF 0 (by omega) (by omega)
      have hc4 : fX6_countKind N c (zN u) (zN 4) m = some (zN (zck (jP S) u 4), m) := by
        unfold fX6_countKind; simp only [zN_lit]; exact u_kind hwf hUN hUr hC.2.2.2.1.1 u1 (by omega) (zcnt (jP S) u) XF 0 (by omega) (by omega)
      obtain ⟨n1, n2, n3, -⟩ := id hUN
      obtain ⟨r1, r2, r3, -⟩ := id hUr
      have hw5 : w = 0 ∨ w = 1 ∨ w = 2 ∨ w = 3 ∨ w = 4 := by omega
      refine jOp_ok (v := if w = 0 then zN (zlet (jP S) u) else if w = 1 then zopt (zabv (jP S) u) else if w = 2 then zN (zcnt (jP S) u) else if w = 3 then zN (zck (jP S) u 1) else zN (zck (jP S) u 4)) (m1 := m) hM ?_ hC (jfc_rf m) (fun m2 hm2 _ => y_fresh hm2 (fun h0 => ⟨_, ?_, h0.1, jfm_rf _, h0.2⟩))
      · unfold fwL_unit
        refine u_fw hC.1 ?_ ?_
        · unfold fxX8_unit
          simp (disch := omega) only [u4, u3, xcx, zcv, zN_lit, w4, w3, zgr g3, zgr r1, zgr r2, zgr r3, zald, hc1, hc4, zca, ite_self]
        · unfold fX8_unit
          simp (disch := omega) only [u3, zcv, zN_lit, w3, zgr g3, zgr r1, zgr r2, zgr r3, zald, q1, q2, q3, hc1, hc4, zca, zN_eq]
          rcases hw5 with rfl | rfl | rfl | rfl | rfl <;> rfl
      · obtain ⟨⟨-, -, n88, -⟩, ⟨-, -, g9, -⟩, -, ⟨-, -, -, hu0, -⟩⟩ := jM_U h0.1
        obtain ⟨p1, p2, p3, -⟩ := hu0 u u1
        have hm1 : fX9_manyOf N 85 (zN u) (zN 1) (si m2 85 0 (zN 0)) = some (zN (zck (jP S) u 1), si m2 85 0 (zN 0)) := by
          unfold fX9_manyOf; simp only [zN_lit]; exact y_kind hW (jM_U h0.1) u1 (by omega) (zcnt (jP S) u) XF 0 (by omega) (by omega)
        have hm4 : fX9_manyOf N 85 (zN u) (zN 4) (si m2 85 0 (zN 0)) = some (zN (zck (jP S) u 4), si m2 85 0 (zN 0)) := by
          unfold fX9_manyOf; simp only [zN_lit]; exact y_kind hW (jM_U h0.1) u1 (by omega) (zcnt (jP S) u) XF 0 (by omega) (by omega)
        unfold fX9_unit fX9_unit_19 fX9_unit_42 fX9_unit_81
        simp (disch := omega) only [zv, zN_lit, y_u1 h0.1 u1, zca, zN10, if_false, jM_bad0 h0, if_true, y_in1, zN_le, zN_eq, Nat.one_ne_zero, hm1, hm4, zgr g9]
        rcases hw5 with rfl | rfl | rfl | rfl | rfl
        · rw [if_neg (by omega), yo_unit n88 (by omega) (by omega), Nat.add_zero, p1]; rfl
        · rw [if_neg (by omega), yo_unit n88 (by omega) (by omega), p2]; rfl
        · rw [if_neg (by omega), yo_unit n88 (by omega) (by omega), p3]; rfl
        · rw [if_pos (by omega), if_pos rfl]; rfl
        · rw [if_pos (by omega), if_neg (by omega)]; rfl
    · refine jOp_A (k := 2) (w := zN 0) hC hM (by omega) (by omega) ?_ (fun h0 => ?_)
      · unfold fwL_unit
        rw [u_fwx (E := xIA) (m1 := ubA m)]
        · simp only [xIN, if_false, if_true]; rfl
        · unfold fxX8_unit
          simp only [u4, u3, xcx, zcv, zN_lit, w2]
      · unfold fX9_unit fX9_unit_19 fX9_unit_42
        simp only [zv, zN_lit, y_u1 h0.1 u1, zca, zN10, if_false, jM_bad0 h0, if_true, y_in0 (show 4 < 2147483647 by omega) w1, jM_bad1 h0 (show 1 ≤ 2 by omega) (by omega) (show 1 < 2 by omega)]
  · refine jOp_E (k := 1) (w := zN 0) hC hM (by omega) (by omega) ?_ (fun h0 => ?_)
    · unfold fwL_unit
      rw [u_fwx (E := xNS) (m1 := ubE m)]
      · rw [if_pos rfl]; rfl
      · unfold fxX8_unit
        simp only [u2, xcx]
    · unfold fX9_unit fX9_unit_19
      simp only [zv, zN_lit, y_u0 h0.1 u1, zca, if_true, jM_bad1 h0 (show 1 ≤ 1 by omega) (by omega) (show 0 < 2 by omega), zN10, if_false]
end UF
