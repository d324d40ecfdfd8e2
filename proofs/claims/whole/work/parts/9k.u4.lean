/-! ===== u: calls that ask ===== -/
section UD
variable {N : Nat → Nat} {m : XM} {c d : Nat} {S : zJ}
theorem u_fw {fx : Option (String × XM)} {f : Option (Int32 × XM)} {h' : String → XM → Option (Int32 × XM)} {v : Int32} {m1 : XM} (hN : jN N) (h1 : fx = none) (h2 : f = some (v, m1)) : xct fx h' (xca f fun v1 m2 => xv (v1.toInt64) fun w3 => xlst N m2 111 0 w3 fun m4 => some (0, m4)) = some (zN 0, sl m1 111 0 v.toInt64) := by
  rw [h1, h2]
  show xlst N m1 111 (zN 0) v.toInt64 (fun m4 => some (zN 0, m4)) = _
  rw [u_ll hN]
theorem u_fwx {fx : Option (String × XM)} {t : Option (Int32 × XM)} {h' : String → XM → Option (Int32 × XM)} {E : String} {m1 : XM} (h1 : fx = some (E, m1)) : xct fx h' t = h' E m1 := by
  rw [h1]; rfl
theorem y_tl (hM : jM N m S) {q : Bool × zS} (h : yFs m (jP S) q) {w : Nat} (hw : w ≤ 7) : fX9_tells N 85 (zN w) m = some (zN (zTell (jP S) q w), m) := yc_tells (jM_U hM) h hw
/-- a fresh call of the reference -/
theorem y_fresh {o2 : XM → Option (Int32 × XM)} {S' : zJ} {v : Int32} (hM : jM N m S) (h : jM0 N (si m 85 0 (zN 0)) S → ∃ m3, o2 m = some (v, m3) ∧ jM N m3 S' ∧ jfm (si m 85 0 (zN 0)) m3 ∧ gi m3 85 0 = zN 0) : ∃ m3, o2 m = some (v, m3) ∧ jM N m3 S' ∧ jfm m m3 ∧ gi m3 85 0 = zN 0 := by
  obtain ⟨a1, a2⟩ := jM_0 hM
  obtain ⟨m3, b1, b2, b3, b4⟩ := h a1
  exact ⟨m3, b1, b2, jfm_tr a2 b3, b4⟩
theorem o_lazy (hC : jC N m c d S) (hM : jM N m S) (x : Int32) : jOp N (fwL_lazy N 0 x 111 m) (fX9_lazy N 85 x) := by
  rcases u_what (N := N) (m := m) (l := 7) (by omega) x with ⟨w, w1, rfl, w3, w4⟩ | ⟨w1, w2⟩
  · obtain ⟨m1, a1, a2, a3, a4, a5, a6, a7⟩ := u_plain hC
    have hT := zc_tally hC.2.2.1.1 a7 a6 w1
    have r5 := a2.2.1.2.1.2.2.2.2.1
    refine jOp_ok (v := zN (zTell (jP S) (zPlain (jP S)) w)) (m1 := m1) hM ?_ a2 a3 (fun m2 hm2 _ => y_fresh hm2 (fun h0 => ?_))
    · unfold fwL_lazy
      refine u_fw hC.1 ?_ ?_
      · unfold fxX8_lazy
        simp only [zN_lit, w4, w3, xcx, zcv, a1, zgr r5, hT, zca]
      · unfold fX8_lazy
        simp only [zN_lit, w3, zcv, a1, zgr r5, hT, zca]
    · obtain ⟨m3, b1, b2, b3, b4, b5⟩ := y_lays h0.1
      refine ⟨m3, ?_, b2, b3, b4.trans h0.2⟩
      have hin : fX9_in N (zN w) (zN 0) (zN 7) (si m2 85 0 (zN 0)) = some (zN 1, si m2 85 0 (zN 0)) := by
        rcases y_in (N := N) (m := si m2 85 0 (zN 0)) (l := 7) (by omega) (zN w) with ⟨v, v1, v2, v3⟩ | ⟨v1, -⟩
        · exact v3
        · exact absurd rfl (v1 w w1)
      unfold fX9_lazy fX9_lazy_21
      simp only [zv, zN_lit, hin, zca, zN10, if_false, jM_bad0 h0, if_true, b1, zcv, y_tl b2 (yFs_show b5) w1]
  · refine jOp_A (k := 1) (w := zN 0) hC hM (by omega) (by omega) ?_ (fun h0 => ?_)
    · unfold fwL_lazy
      rw [u_fwx (E := xIA) (m1 := ubA m)]
      · rw [if_pos rfl]; rfl
      · unfold fxX8_lazy
        simp only [zN_lit, w2, xcx]
    · have hin : fX9_in N x (zN 0) (zN 7) (si (ubA m) 85 0 (zN 0)) = some (zN 0, si (ubA m) 85 0 (zN 0)) := by
        rcases y_in (N := N) (m := si (ubA m) 85 0 (zN 0)) (l := 7) (by omega) x with ⟨v, v1, v2, v3⟩ | ⟨-, v2⟩
        · exact absurd v2 (w1 v v1)
        · exact v2
      unfold fX9_lazy fX9_lazy_21
      simp only [zv, zN_lit, hin, zca, if_true, jM_bad1 h0 (show 1 ≤ 1 by omega) (by omega) (show 1 < 2 by omega), zN10, if_false]
theorem y_in1 {l w : Nat} (hl : l < 2147483647) (hw : w ≤ l) : fX9_in N (zN w) (zN 0) (zN l) m = some (zN 1, m) := by
  rcases y_in (N := N) (m := m) (l := l) hl (zN w) with ⟨v, v1, v2, v3⟩ | ⟨v1, -⟩
  · exact v3
  · exact absurd rfl (v1 w hw)
theorem y_in0 {l : Nat} {x : Int32} (hl : l < 2147483647) (hx : ∀ w, w ≤ l → x ≠ zN w) : fX9_in N x (zN 0) (zN l) m = some (zN 0, m) := by
  rcases y_in (N := N) (m := m) (l := l) hl x with ⟨v, v1, v2, v3⟩ | ⟨-, v2⟩
  · exact absurd v2 (hx v v1)
  · exact v2
theorem y_u1 {u : Nat} (h : jM N m S) (hu : u < zn (jP S)) : fX9_isUnit N 85 (zN u) m = some (zN 1, m) := by
  rcases y_unit h (zN u) with ⟨v, v1, v2, v3⟩ | ⟨v1, -⟩
  · exact v3
  · exact absurd rfl (v1 u hu)
theorem y_u0 {x : Int32} (h : jM N m S) (hx : ∀ u, u < zn (jP S) → x ≠ zN u) : fX9_isUnit N 85 x m = some (zN 0, m) := by
  rcases y_unit h x with ⟨v, v1, v2, v3⟩ | ⟨-, v2⟩
  · exact absurd v2 (hx v v1)
  · exact v2
theorem y_m1 {u i : Nat} (h : jM N m S) (hu : u < zn (jP S)) (hi : i < zcnt (jP S) u) : fX9_isMember N 85 (zN u) (zN i) m = some (zN 1, m) := by
  rcases y_mem h (zN u) (zN i) with ⟨v, j, v1, v2, v3, v4, v5⟩ | ⟨v1, -⟩
  · exact v5
  · exact absurd ⟨rfl, rfl⟩ (v1 u i hu hi)
theorem y_m0 {x y : Int32} (h : jM N m S) (hx : ∀ u i, u < zn (jP S) → i < zcnt (jP S) u → ¬ (x = zN u ∧ y = zN i)) : fX9_isMember N 85 x y m = some (zN 0, m) := by
  rcases y_mem h x y with ⟨v, j, v1, v2, v3, v4, v5⟩ | ⟨-, v2⟩
  · exact absurd ⟨v3, v4⟩ (hx v j v1 v2)
  · exact v2
theorem o_state (hC : jC N m c d S) (hM : jM N m S) (x : Int32) : jOp N (fwL_state N 0 x 111 m) (fX9_state N 85 x) := by
  have hz := hC.2.2.1.1.1
  rcases u_unit hC x with ⟨u, u1, rfl, u3, u4⟩ | ⟨u1, u2⟩
  · obtain ⟨m1, a1, a2, a3, a4, a5, a6, a7⟩ := u_plain hC
    have r5 := a2.2.1.2.1.2.2.2.2.1
    have hN51 : N 51 = 7 := hC.1.2.2.2.2.2.1.1
    have r1 : gr m1 50 1 = some 51 := a7.2.2.2.2.2.2.2.1
    have hst : gi m1 51 u = zN (zst (zPlain (jP S)).2 u) := a6.2.1.1 u (by omega)
    refine jOp_ok (v := zN (zst (zPlain (jP S)).2 u)) (m1 := m1) hM ?_ a2 a3 (fun m2 hm2 _ => y_fresh hm2 (fun h0 => ?_))
    · unfold fwL_state
      refine u_fw hC.1 ?_ ?_
      · unfold fxX8_state
        simp (disch := omega) only [u4, u3, xcx, zcv, a1, zgr r5, zgr r1, zald, hst]
      · unfold fX8_state
        simp (disch := omega) only [u3, zcv, a1, zgr r5, zgr r1, zald, hst]
    · obtain ⟨m3, b1, b2, b3, b4, b5⟩ := y_lays h0.1
      refine ⟨m3, ?_, b2, b3, b4.trans h0.2⟩
      have hs := (yFs_show b5).2.1 u (by omega)
      obtain ⟨⟨-, -, -, -, -, -, -, -, n94, -⟩, ⟨-, -, -, -, -, -, -, -, g18, -⟩, -⟩ := jM_U b2
      unfold fX9_state fX9_state_19
      simp (disch := omega) only [zv, zN_lit, y_u1 h0.1 u1, zca, zN10, if_false, jM_bad0 h0, if_true, b1, zcv, zgr g18, zald, hs]
  · refine jOp_E (k := 1) (w := zN 0) hC hM (by omega) (by omega) ?_ (fun h0 => ?_)
    · unfold fwL_state
      rw [u_fwx (E := xNS) (m1 := ubE m)]
      · rw [if_pos rfl]; rfl
      · unfold fxX8_state
        simp only [u2, xcx]
    · unfold fX9_state fX9_state_19
      simp only [zv, zN_lit, y_u0 h0.1 u1, zca, if_true, jM_bad1 h0 (show 1 ≤ 1 by omega) (by omega) (show 0 < 2 by omega), zN10, if_false]
theorem o_broken (hC : jC N m c d S) (hM : jM N m S) (x y : Int32) : jOp N (fwL_broken N 0 x y 111 m) (fX9_broken N 85 x y) := by
  have hz := hC.2.2.1.1.1
  rcases u_unit hC x with ⟨u, u1, rfl, u3, u4⟩ | ⟨u1, u2⟩
  · rcases u_what (N := N) (m := m) (l := 2) (by omega) y with ⟨w, w1, rfl, w3, w4⟩ | ⟨w1, w2⟩
    · obtain ⟨m1, a1, a2, a3, a4, a5, a6, a7⟩ := u_plain hC
      have r5 := a2.2.1.2.1.2.2.2.2.1
      obtain ⟨hN51, -, -, -, hN55, hN56, hN57, hN58, -⟩ : N 51 = 7 ∧ N 52 = 84 ∧ N 53 = 84 ∧ N 54 = 7 ∧ N 55 = 3 ∧ N 56 = 7 ∧ N 57 = 7 ∧ N 58 = 7 ∧ True := by
        obtain ⟨q1, q2, q3, q4, q5, q6, q7, q8, -⟩ := hC.1.2.2.2.2.2.1
        exact ⟨q1, q2, q3, q4, q5, q6, q7, q8, trivial⟩
      obtain ⟨r1, r6, r60, r61, r62⟩ : gr m1 50 1 = some 51 ∧ gr m1 50 6 = some 55 ∧ gr m1 55 0 = some 56 ∧ gr m1 55 1 = some 57 ∧ gr m1 55 2 = some 58 := by
        obtain ⟨-, q1, -, -, -, q6, q60, q61, q62, -⟩ := a7.2.2.2.2.2.2
        exact ⟨q1, q6, q60, q61, q62⟩
      have hst : gi m1 51 u = zN (zst (zPlain (jP S)).2 u) := a6.2.1.1 u (by omega)
      have h3 := a6.1.1 u
      have hbr := a6.2.1.2.2.2.2.2.2.2.2.2.2.1 rfl u (by omega)
      have hw3 : w = 0 ∨ w = 1 ∨ w = 2 := by omega
      have hval : ∃ v, (zst (zPlain (jP S)).2 u = 3 → (w = 0 → v = zN (zbrk (zPlain (jP S)).2 u).1) ∧ (w = 1 → v = (zbrk (zPlain (jP S)).2 u).2.1) ∧ (w = 2 → v = zN (zbrk (zPlain (jP S)).2 u).2.2)) ∧ (zst (zPlain (jP S)).2 u ≠ 3 → v = zM) := by
        by_cases e : zst (zPlain (jP S)).2 u = 3
        · rcases hw3 with rfl | rfl | rfl
          · exact ⟨_, fun _ => ⟨fun _ => rfl, fun g => (by omega), fun g => (by omega)⟩, fun g => absurd e g⟩
          · exact ⟨_, fun _ => ⟨fun g => (by omega), fun _ => rfl, fun g => (by omega)⟩, fun g => absurd e g⟩
          · exact ⟨_, fun _ => ⟨fun g => (by omega), fun g => (by omega), fun _ => rfl⟩, fun g => absurd e g⟩
        · exact ⟨zM, fun g => absurd g e, fun _ => rfl⟩
      obtain ⟨v, v1, v2⟩ := hval
      have hcls : (if zN (zst (zPlain (jP S)).2 u) = zN 3 then (xgr m1 0 5 fun u7 => xgr m1 u7 6 fun u8 => xrld N m1 u8 (zN w) fun u9 => xald N m1 u9 (zN u) fun v10 => some (v10, m1)) else (some (zM, m1))) = some (v, m1) := by
        by_cases e : zst (zPlain (jP S)).2 u = 3
        · rw [e, if_pos rfl, zgr r5, zgr r6]
          obtain ⟨b1, b2, b3⟩ := hbr e
          obtain ⟨c1, c2, c3⟩ := v1 e
          rcases hw3 with rfl | rfl | rfl
          · rw [zrld (u := 56) r60 (by omega) (by omega), zald (by omega) (by omega), c1 rfl]; exact congrArg (fun z => some (z, m1)) b1
          · rw [zrld (u := 57) r61 (by omega) (by omega), zald (by omega) (by omega), c2 rfl]; exact congrArg (fun z => some (z, m1)) b2
          · rw [zrld (u := 58) r62 (by omega) (by omega), zald (by omega) (by omega), c3 rfl]; exact congrArg (fun z => some (z, m1)) b3
        · rw [if_neg (by rw [zN_eq (by omega) (by omega)]; exact e), v2 e]
      refine jOp_ok (v := v) (m1 := m1) hM ?_ a2 a3 (fun m2 hm2 _ => y_fresh hm2 (fun h0 => ?_))
      · unfold fwL_broken
        refine u_fw hC.1 ?_ ?_
        · unfold fxX8_broken
          simp (disch := omega) only [u4, u3, xcx, zcv, zN_lit, w4, w3, a1, zgr r5, zgr r1, zald, hst]
          by_cases e : zst (zPlain (jP S)).2 u = 3
          · rw [e, if_pos rfl, zgr r6]
            rcases hw3 with rfl | rfl | rfl
            · rw [zrld (u := 56) r60 (by omega) (by omega), zald (by omega) (by omega)]
            · rw [zrld (u := 57) r61 (by omega) (by omega), zald (by omega) (by omega)]
            · rw [zrld (u := 58) r62 (by omega) (by omega), zald (by omega) (by omega)]
          · rw [if_neg (by rw [zN_eq (by omega) (by omega)]; exact e)]
        · rw [← hcls]
          unfold fX8_broken
          simp (disch := omega) only [u3, zcv, zN_lit, w3, a1, zgr r5, zgr r1, zald, hst, zneg]
      · obtain ⟨m3, b1, b2, b3, b4, b5⟩ := y_lays h0.1
        refine ⟨m3, ?_, b2, b3, b4.trans h0.2⟩
        obtain ⟨k1, k2⟩ := (yFs_show b5).2.2.2.2.2.2.2.2.2.1 u (by omega)
        obtain ⟨⟨-, -, -, -, -, -, -, -, -, -, -, n97, n98, n99, -⟩, ⟨-, -, -, -, -, -, -, -, -, -, -, g21, g22, g23, -⟩, -⟩ := jM_U b2
        unfold fX9_broken fX9_broken_19 fX9_broken_42
        simp (disch := omega) only [zv, zN_lit, y_u1 h0.1 u1, zca, zN10, if_false, jM_bad0 h0, if_true, y_in1, b1, zcv, zgr g21, zgr g22, zgr g23, zald]
        by_cases e : zst (zPlain (jP S)).2 u = 3
        · obtain ⟨d1, d2, d3⟩ := k1 e
          obtain ⟨c1, c2, c3⟩ := v1 e
          rcases hw3 with rfl | rfl | rfl
          · rw [if_pos rfl, d1, c1 rfl]
          · rw [if_neg (by rw [zN10]; exact id), if_pos rfl, d2, c2 rfl]
          · rw [if_neg (by rw [zN_eq (by omega) (by omega)]; omega), if_neg (by rw [zN_eq (by omega) (by omega)]; omega), d3, c3 rfl]
        · obtain ⟨d1, d2, d3⟩ := k2 e
          rw [v2 e]
          rcases hw3 with rfl | rfl | rfl
          · rw [if_pos rfl, d1]
          · rw [if_neg (by rw [zN10]; exact id), if_pos rfl, d2]
          · rw [if_neg (by rw [zN_eq (by omega) (by omega)]; omega), if_neg (by rw [zN_eq (by omega) (by omega)]; omega), d3]
    · refine jOp_A (k := 2) (w := zN 0) hC hM (by omega) (by omega) ?_ (fun h0 => ?_)
      · unfold fwL_broken
        rw [u_fwx (E := xIA) (m1 := ubA m)]
        · simp only [xIN, if_false, if_true]; rfl
        · unfold fxX8_broken
          simp only [u4, u3, xcx, zcv, zN_lit, w2]
      · unfold fX9_broken fX9_broken_19 fX9_broken_42
        simp only [zv, zN_lit, y_u1 h0.1 u1, zca, zN10, if_false, jM_bad0 h0, if_true, y_in0 (show 2 < 2147483647 by omega) w1, jM_bad1 h0 (show 1 ≤ 2 by omega) (by omega) (show 1 < 2 by omega)]
  · refine jOp_E (k := 1) (w := zN 0) hC hM (by omega) (by omega) ?_ (fun h0 => ?_)
    · unfold fwL_broken
      rw [u_fwx (E := xNS) (m1 := ubE m)]
      · rw [if_pos rfl]; rfl
      · unfold fxX8_broken
        simp only [u2, xcx]
    · unfold fX9_broken fX9_broken_19
      simp only [zv, zN_lit, y_u0 h0.1 u1, zca, if_true, jM_bad1 h0 (show 1 ≤ 1 by omega) (by omega) (show 0 < 2 by omega), zN10, if_false]
end UD
