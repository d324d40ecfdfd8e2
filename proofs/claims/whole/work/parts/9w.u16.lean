/-! ===== u: surprise, trace ===== -/
theorem zpick_ysur {m : XM} {P : zP} : ∀ {l : List zRec} {k : Nat}, k < l.length → ysur m P l → ∃ q, zpick l k = some q ∧ q ∈ l ∧ yrec m P k q
  | [], k, h, _ => by simp at h
  | x :: l, k, h, hy => by
    unfold zpick
    by_cases e : k = l.length
    · rw [if_pos e, e]; exact ⟨x, rfl, List.mem_cons_self, hy.1⟩
    · rw [if_neg e]
      obtain ⟨q, q1, q2, q3⟩ := zpick_ysur (k := k) (by simp at h; omega) hy.2
      exact ⟨q, q1, List.mem_cons_of_mem _ q2, q3⟩
theorem zpick_some {α : Type} : ∀ {l : List α} {k : Nat}, k < l.length → ∃ q, zpick l k = some q
  | [], k, h => by simp at h
  | x :: l, k, h => by
    unfold zpick
    by_cases e : k = l.length
    · rw [if_pos e]; exact ⟨x, rfl⟩
    · rw [if_neg e]; exact zpick_some (k := k) (by simp at h; omega)
theorem zstk_sto {m m' : XM} {a o : Nat} : ∀ {l : List Nat} {i : Nat}, i < l.length → zstk m a l → ysto m' 104 105 o l → ∃ x, x ∈ l ∧ gi m a i = zN x ∧ gi m' 104 (o + i) = zN (x / 100) ∧ gi m' 105 (o + i) = zN (x % 100)
  | [], i, h, _, _ => by simp at h
  | x :: l, i, h, h1, h2 => by
    by_cases e : i = l.length
    · rw [e]; exact ⟨x, List.mem_cons_self, h1.1, h2.1, h2.2.1⟩
    · obtain ⟨y, q1, q2⟩ := zstk_sto (i := i) (by simp at h; omega) h1.2 h2.2.2
      exact ⟨y, List.mem_cons_of_mem _ q1, q2⟩
section UP
variable {N : Nat → Nat} {m : XM} {c d : Nat} {S : zJ} {P : zP}
/-- the surprise that is wanted -/
theorem u_sight (h : jC N m c d S) (h6 : gi m 0 6 = zN 1) {k : Nat} (hk : k < (zsur (zPlain (jP S)).2).length) : ∃ m' q, fX8_sightOf N 0 (zN k) m = some (61, m') ∧ jC N m' c d S ∧ jfc m m' ∧ zpick (zsur (zPlain (jP S)).2) k = some q ∧ zsgt m' 61 (jP S) q ∧ gr m' 61 2 = some 62 := by
  obtain ⟨hUN, hUr, hc50, hc0⟩ := jC_UN h
  have hh := h
  obtain ⟨g1, g2, g3, g4, ⟨⟨p, p1, p2⟩, g5⟩, g6, g7, g8, g9⟩ := h
  obtain ⟨-, -, -, -, -, hR50, hR63, -⟩ := g1
  have r5 := g2.2.1.2.2.2.2.1
  have r3 := g2.2.1.2.2.1
  obtain ⟨q, hq⟩ := zpick_some hk
  rcases g5 with e | ⟨e, e1, e2⟩
  · rw [h6] at e; rw [zN_eq (by omega) (by omega)] at e; omega
  · have hk3 : k < 3000 := by have h1 := e2.1.2.2.2.1; have h2 := e2.1.2.2.2.2.1; omega
    have r17 : gr m 50 17 = some 61 := e1.2.2.2.2.2.2.2.2.2.2.2.1
    have r61 : gr m 61 2 = some 62 := e1.2.2.2.2.2.2.2.2.2.2.2.2
    unfold fX8_sightOf fX8_sightOf_36
    by_cases ew : gi m 61 0 = zN k
    · refine ⟨m, q, ?_, hh, jfc_rf m, hq, ?_, r61⟩
      · simp only [zgr r5, zgr r17, zv, ew, if_true]
      · exact e2.2.1.2.2.2.2.2.2.2.2.2.2.2 k q ew hk3 hq
    · have hUr' : zUr (si m 61 0 (zN k)) c := hUr
      have hCP' : zCP (si m 61 0 (zN k)) c (jP S) := zCP_fr (fun a j _ _ => gi_ne (by omega)) g4.1
      have hRr' : zRr (si m 61 0 (zN k)) 50 c := e1
      obtain ⟨m1, a1, a2, a3, a4, a5⟩ := zc_runPlainly (t := true) hUN hR50 hc50 g3.1 hUr' hCP' hRr' (p := p) (by rw [gi_ne (by omega)]; exact p1) p2
      have hg : ∀ a j, a < 50 ∨ 63 ≤ a → gi m1 a j = gi m a j := fun a j q => by rw [(a2 a (by omega)).1, gi_ne (by omega)]
      have hgr : ∀ a j, a < 50 ∨ 63 ≤ a → gr m1 a j = gr m a j := fun a j q => (a2 a (by omega)).2.2 j
      have hRc : zRr m1 50 c := a3.2.2.2.2.2.2
      obtain ⟨c1, hr63⟩ := g2.2.2.2.2.2.2.2.1
      have r5' : gr m1 0 5 = some 50 := by rw [hgr _ _ (by omega)]; exact r5
      have r17' : gr m1 50 17 = some 61 := hRc.2.2.2.2.2.2.2.2.2.2.2.1
      have h61 : gi m1 61 0 = zN k := by rw [a5, gi_si]
      refine ⟨m1, q, ?_, jC_r hh (fun a j q1 q2 q3 => hgr a j (by omega)) ⟨c, hRc⟩ ⟨c1, zRr_fr (fun a j q1 q2 => hgr a j (by omega)) hr63⟩ (fun a j q1 q2 => hg a j (by omega)) ⟨⟨zsp (zPlain (jP S)).2, a4.2.1.2.2.2.2.2.2.2.2.2.1, a4.1.2.2.2.2.2.2.1⟩, Or.inr ⟨by rw [hg _ _ (by omega)]; exact e, hRc, a4⟩⟩ ?_ (jSe_fr (fun j => hg _ _ (by omega)) g7), fun a j q => ⟨hg a j (by omega), hgr a j (by omega)⟩, hq, ?_, ?_⟩
      · simp only [zgr r5, zgr r17, zv, ew, if_false, zgr_si, zgr r3, a1, zcv, zgr r5', zgr r17']
      · obtain ⟨pp, q1, q2⟩ := g6
        exact ⟨pp, by rw [hg _ _ (by omega)]; exact q1, q2⟩
      · exact a4.2.1.2.2.2.2.2.2.2.2.2.2.2 k q h61 hk3 hq
      · exact hRc.2.2.2.2.2.2.2.2.2.2.2.2
/-- whether there is such a surprise -/
theorem u_sur (h : jC N m c d S) (x : Int32) : ∃ m', jC N m' c d S ∧ jfc m m' ∧ gi m' 0 6 = zN 1 ∧ ((∃ k, k < (zsur (zPlain (jP S)).2).length ∧ x = zN k ∧ fX8_needSurprise N 0 x m = some m' ∧ fxX8_needSurprise N 0 x m = none) ∨ ((∀ k, k < (zsur (zPlain (jP S)).2).length → x ≠ zN k) ∧ fxX8_needSurprise N 0 x m = some (xNS, ubE m'))) := by
  obtain ⟨m1, a1, a2, a3, a4, a5, a6, a7⟩ := u_plain h
  have r5 := a2.2.1.2.1.2.2.2.2.1
  have h12 : gi m1 50 12 = zN (zsur (zPlain (jP S)).2).length := a6.2.1.2.2.2.2.2.2.1
  have hle : (zsur (zPlain (jP S)).2).length ≤ 3000 := by have h1 := a6.1.2.2.2.1; have h2 := a6.1.2.2.2.2.1; omega
  refine ⟨m1, a2, a3, a5, ?_⟩
  unfold fX8_needSurprise fxX8_needSurprise fxX8_needSurprise_24
  rw [a1]
  rcases zcase x with e | ⟨k, hk, rfl⟩
  · refine Or.inr ⟨fun k hk he => ?_, ?_⟩
    · rw [he, zlt0 (by omega)] at e; exact e
    · simp only [zcv, zN_lit, e, if_true, ue_0, xcx]; rfl
  · by_cases hn : k < (zsur (zPlain (jP S)).2).length
    · refine Or.inl ⟨k, hn, rfl, ?_, ?_⟩
      · simp (disch := omega) only [zcv, zN_lit, zlt0, if_false, zgr r5, zv, h12, zN_le]
        rw [if_neg (by omega), ue_1.1]; rfl
      · simp (disch := omega) only [zcv, zN_lit, zlt0, if_false, zgr r5, zv, h12, zN_le]
        rw [if_neg (by omega), ue_1.1, ue_1.2]; rfl
    · refine Or.inr ⟨fun v hv he => ?_, ?_⟩
      · have := zN_inj hk (by omega) he; omega
      · simp (disch := omega) only [zcv, zN_lit, zlt0, if_false, zgr r5, zv, h12, zN_le]
        rw [if_pos (by omega), ue_0]; rfl
/-- what a surprise tells -/
def zsk (P : zP) (q : zRec) (w : Nat) : Int32 := if w = 0 then zN (q.1 / 12) else if w = 1 then zopt (znam P q.1) else if w = 2 then q.2.1 else if w = 3 then zN q.2.2.1 else if w = 4 then zN q.2.2.2.1.length else zN q.2.2.2.2
theorem y_sur0 (h : jM0 N m S) : ∃ m3, fX9_lays N 85 m = some m3 ∧ jM0 N m3 S ∧ jfm m m3 ∧ gi m3 85 31 = zN (zsur (zPlain (jP S)).2).length ∧ ysur m3 (jP S) (zsur (zPlain (jP S)).2) ∧ zSi (jP S) (zPlain (jP S)).2 := by
  obtain ⟨m3, b1, b2, b3, b4, b5⟩ := y_lays h.1
  refine ⟨m3, b1, ⟨b2, b4.trans h.2⟩, b3, (yFs_show b5).2.2.2.2.2.2.1, ?_, b5.1⟩
  have := b5.2.1.2.2.2.2.2.2.2.2.2.2.2.2 rfl
  exact ysur_fr (fun k _ => (gi_ne (by omega)).symm) (fun k _ => ⟨(gi_ne (by omega)).symm, (gi_ne (by omega)).symm⟩) this
theorem jOp_E2 {o1 : Option (Int32 × XM)} {o2 : XM → Option (Int32 × XM)} {k : Nat} {w : Int32} (hC : jC N m c d S) (hM : jM N m S) (hk : 1 ≤ k) (hk2 : k < 10) (h1 : o1 = some (zN k, ubE m)) (h2 : jM0 N (si (ubE m) 85 0 (zN 0)) S → ∃ m3, jM0 N m3 S ∧ jfm (si (ubE m) 85 0 (zN 0)) m3 ∧ o2 (ubE m) = some (w, ubR m3 k 0)) : jOp N o1 o2 := by
  obtain ⟨a1, a2⟩ := jC_E hC
  obtain ⟨b1, b2⟩ := jM_0 (jM_c hM a2)
  obtain ⟨m3, d1, d2, d3⟩ := h2 b1
  obtain ⟨c1, c2, c3⟩ := jM_R0 d1 k
  exact ⟨k, _, w, _, c, d, js_r0 S, h1, d3, hk2, c3, fun e => (by omega), jC_m a1 (jfm_tr b2 (jfm_tr d2 c2)), c1⟩
theorem jOp_A2 {o1 : Option (Int32 × XM)} {o2 : XM → Option (Int32 × XM)} {k : Nat} {w : Int32} (hC : jC N m c d S) (hM : jM N m S) (hk : 1 ≤ k) (hk2 : k < 10) (h1 : o1 = some (zN k, ubA m)) (h2 : jM0 N (si (ubA m) 85 0 (zN 0)) S → ∃ m3, jM0 N m3 S ∧ jfm (si (ubA m) 85 0 (zN 0)) m3 ∧ o2 (ubA m) = some (w, ubR m3 k 1)) : jOp N o1 o2 := by
  obtain ⟨a1, a2⟩ := jC_A hC
  obtain ⟨b1, b2⟩ := jM_0 (jM_c hM a2)
  obtain ⟨m3, d1, d2, d3⟩ := h2 b1
  obtain ⟨c1, c2, c3⟩ := jM_R1 d1 k
  exact ⟨k, _, w, _, c, d, js_r1 S, h1, d3, hk2, c3, fun e => (by omega), jC_m a1 (jfm_tr b2 (jfm_tr d2 c2)), c1⟩
theorem y_ink {n k : Nat} (hn : n < 2147483647) (hk : k < n) : fX9_in N (zN k) (zN 0) (zN n - zN 1) m = some (zN 1, m) := by
  rcases y_inn (N := N) (m := m) (n := n) hn (zN k) with ⟨v, v1, v2, v3⟩ | ⟨v1, -⟩
  · exact v3
  · exact absurd rfl (v1 k hk)
theorem y_inz {n : Nat} {x : Int32} (hn : n < 2147483647) (hx : ∀ k, k < n → x ≠ zN k) : fX9_in N x (zN 0) (zN n - zN 1) m = some (zN 0, m) := by
  rcases y_inn (N := N) (m := m) (n := n) hn x with ⟨v, v1, v2, v3⟩ | ⟨-, v2⟩
  · exact absurd v2 (hx v v1)
  · exact v2
theorem o_surprise (hC : jC N m c d S) (hM : jM N m S) (x y : Int32) : jOp N (fwL_surprise N 0 x y 111 m) (fX9_surprise N 85 x y) := by
  have hW := hC.2.2.1
  obtain ⟨m1, s1, s2, s3, s4⟩ := u_sur hC x
  have hM1 := jM_c hM s2
  rcases s4 with ⟨k, k1, rfl, k3, k4⟩ | ⟨k1, k2⟩
  · rcases u_what (N := N) (m := m1) (l := 5) (by omega) y with ⟨w, w1, rfl, w3, w4⟩ | ⟨w1, w2⟩
    · obtain ⟨m2, q, a1, a2, a3, a4, a5, -⟩ := u_sight s1 s3 k1
      obtain ⟨q3, q4, q5, q6, q7, q1, -⟩ := id a5
      have hw6 : w = 0 ∨ w = 1 ∨ w = 2 ∨ w = 3 ∨ w = 4 ∨ w = 5 := by omega
      have hq84 : q.1 < 84 := by
        have hmem : ∀ (l : List zRec) (k : Nat), zpick l k = some q → q ∈ l := by
          intro l
          induction l with
          | nil => intro k h; cases h
          | cons a l ih =>
            intro k h
            unfold zpick at h
            by_cases e : k = l.length
            · rw [if_pos e] at h; injection h with h; rw [← h]; exact List.mem_cons_self
            · rw [if_neg e] at h; exact List.mem_cons_of_mem _ (ih k h)
        obtain ⟨m9, -, -, -, -, -, hF, -⟩ := u_plain hC
        exact (zok_84 hW.1 (hF.1.2.2.2.2.2.2.2.2 q (hmem _ _ a4)).1).1
      have htell : fX4_tell N 61 (zN w) m2 = some (zsk (jP S) q w, m2) := by
        unfold fX4_tell zsk
        rcases hw6 with rfl | rfl | rfl | rfl | rfl | rfl <;> simp (disch := omega) only [zN_lit, zv, q3, q4, q5, q6, q7, q1, zN_eq, Nat.reduceEqDiff, if_true, if_false, Nat.one_ne_zero, zdv, zN_div]
      refine jOp_ok (v := zsk (jP S) q w) (m1 := m2) hM ?_ a2 (jfc_tr s2 a3) (fun m3 hm3 _ => y_fresh hm3 (fun h0 => ?_))
      · unfold fwL_surprise
        refine u_fw hC.1 ?_ ?_
        · unfold fxX8_surprise
          simp only [k4, k3, xcx, zcv, zN_lit, w4, w3, a1, zca, htell]
        · unfold fX8_surprise
          simp only [k3, zcv, zN_lit, w3, a1, zca, htell]
      · obtain ⟨m4, b1, b2, b3, b4, b5, b6⟩ := y_sur0 h0
        obtain ⟨q', e1, e2, e3⟩ := zpick_ysur k1 b5
        rw [a4] at e1
        injection e1 with e1
        subst e1
        have hle : (zsur (zPlain (jP S)).2).length ≤ 3000 := by have h1 := b6.2.2.2.1; have h2 := b6.2.2.2.2.1; omega
        refine ⟨m4, ?_, b2.1, b3, b2.2⟩
        obtain ⟨⟨-, -, -, -, -, -, -, -, -, -, -, -, -, -, -, -, -, n103, -⟩, ⟨-, -, -, -, -, -, -, -, -, -, -, -, -, -, -, -, -, g38, -⟩, -⟩ := jM_U b2.1
        have hin : fX9_in N (zN k) (zN 0) (zN (zsur (zPlain (jP S)).2).length - zN 1) m4 = some (zN 1, m4) := by
          rcases y_inn (N := N) (m := m4) (n := (zsur (zPlain (jP S)).2).length) (by omega) (zN k) with ⟨v, v1, v2, v3⟩ | ⟨v1, -⟩
          · exact v3
          · exact absurd rfl (v1 k k1)
        obtain ⟨t0, t1, t2, t3, t4, t5, -⟩ := e3
        unfold fX9_surprise fX9_surprise_29 fX9_surprise_52
        simp (disch := omega) only [zv, zN_lit, b1, zcv, b4, hin, zca, zN10, if_false, jM_bad0 b2, if_true, y_in1, zgr g38, zN_mul, zN_add, zald]
        unfold zsk
        rcases hw6 with rfl | rfl | rfl | rfl | rfl | rfl
        · rw [Nat.add_zero, t0]; rfl
        · rw [t1]; rfl
        · rw [t2]; rfl
        · rw [t3]; rfl
        · rw [t4]; rfl
        · rw [t5]; rfl
    · refine jOp_A2 (k := 2) (w := zN 0) s1 hM1 (by omega) (by omega) ?_ (fun h0 => ?_)
      · unfold fwL_surprise
        rw [u_fwx (E := xIA) (m1 := ubA m1)]
        · simp only [xIN, if_false, if_true]; rfl
        · unfold fxX8_surprise
          simp only [k4, k3, xcx, zcv, zN_lit, w2]
      · obtain ⟨m4, b1, b2, b3, b4, b5, b6⟩ := y_sur0 h0
        have hle : (zsur (zPlain (jP S)).2).length ≤ 3000 := by have h1 := b6.2.2.2.1; have h2 := b6.2.2.2.2.1; omega
        refine ⟨m4, b2, b3, ?_⟩
        unfold fX9_surprise fX9_surprise_29 fX9_surprise_52
        simp only [zv, zN_lit, b1, zcv, b4, y_ink (show (zsur (zPlain (jP S)).2).length < 2147483647 by omega) k1, zca, zN10, if_false, jM_bad0 b2, if_true, y_in0 (show 5 < 2147483647 by omega) w1, jM_bad1 b2 (show 1 ≤ 2 by omega) (by omega) (show 1 < 2 by omega)]
  · refine jOp_E2 (k := 1) (w := zN 0) s1 hM1 (by omega) (by omega) ?_ (fun h0 => ?_)
    · unfold fwL_surprise
      rw [u_fwx (E := xNS) (m1 := ubE m1)]
      · rw [if_pos rfl]; rfl
      · unfold fxX8_surprise
        simp only [k2, xcx]
    · obtain ⟨m4, b1, b2, b3, b4, b5, b6⟩ := y_sur0 h0
      have hle : (zsur (zPlain (jP S)).2).length ≤ 3000 := by have h1 := b6.2.2.2.1; have h2 := b6.2.2.2.2.1; omega
      refine ⟨m4, b2, b3, ?_⟩
      unfold fX9_surprise fX9_surprise_29
      simp only [zv, zN_lit, b1, zcv, b4, y_inz (show (zsur (zPlain (jP S)).2).length < 2147483647 by omega) k1, zca, zN10, if_false, if_true, jM_bad1 b2 (show 1 ≤ 1 by omega) (by omega) (show 0 < 2 by omega)]
theorem o_trace (hC : jC N m c d S) (hM : jM N m S) (x y : Int32) : jOp N (fwL_trace N 0 x y 111 m) (fX9_trace N 85 x y) := by
  have hW := hC.2.2.1
  obtain ⟨m1, s1, s2, s3, s4⟩ := u_sur hC x
  have hM1 := jM_c hM s2
  rcases s4 with ⟨k, k1, rfl, k3, k4⟩ | ⟨k1, k2⟩
  · obtain ⟨m2, q, a1, a2, a3, a4, a5, a6⟩ := u_sight s1 s3 k1
    obtain ⟨q3, q4, q5, q6, q7, q1, qs⟩ := id a5
    have hN62 : N 62 = 20 := hC.1.2.2.2.2.2.1.2.2.2.2.2.2.2.2.2.2
    have hq20 : q.2.2.2.1.length ≤ 20 ∧ ∀ z ∈ q.2.2.2.1, True := by
      have hmem : ∀ (l : List zRec) (k : Nat), zpick l k = some q → q ∈ l := by
        intro l
        induction l with
        | nil => intro k h; cases h
        | cons a l ih =>
          intro k h
          unfold zpick at h
          by_cases e : k = l.length
          · rw [if_pos e] at h; injection h with h; rw [← h]; exact List.mem_cons_self
          · rw [if_neg e] at h; exact List.mem_cons_of_mem _ (ih k h)
      obtain ⟨m9, -, -, -, -, -, hF, -⟩ := u_plain hC
      exact ⟨(hF.1.2.2.2.2.2.2.2.2 q (hmem _ _ a4)).2, fun _ _ => trivial⟩
    by_cases hi : ∃ i, i < q.2.2.2.1.length ∧ y = zN i
    · obtain ⟨i, i1, rfl⟩ := hi
      refine jOp_ok (v := gi m2 62 i) (m1 := m2) hM ?_ a2 (jfc_tr s2 a3) (fun m3 hm3 _ => y_fresh hm3 (fun h0 => ?_))
      · unfold fwL_trace
        refine u_fw hC.1 ?_ ?_
        · unfold fxX8_trace fxX8_trace_32
          simp (disch := omega) only [k4, k3, xcx, zcv, a1, zca, zN_lit, zlt0, if_false, zv, q1, zN_le, zgr a6, zald, ite_self]
        · unfold fX8_trace
          simp (disch := omega) only [k3, zcv, a1, zca, zN_lit, zlt0, if_false, zv, q1, zN_le, zgr a6, zald]
          rw [if_neg (by omega)]
      · obtain ⟨m4, b1, b2, b3, b4, b5, b6⟩ := y_sur0 h0
        obtain ⟨q', e1, e2, e3⟩ := zpick_ysur k1 b5
        rw [a4] at e1
        injection e1 with e1
        subst e1
        have hle : (zsur (zPlain (jP S)).2).length ≤ 3000 := by have h1 := b6.2.2.2.1; have h2 := b6.2.2.2.2.1; omega
        refine ⟨m4, ?_, b2.1, b3, b2.2⟩
        obtain ⟨⟨-, -, -, -, -, -, -, -, -, -, -, -, -, -, -, -, -, n103, n104, n105, -⟩, ⟨-, -, -, -, -, -, -, -, -, -, -, -, -, -, -, -, -, g38, g39, g40, -⟩, -⟩ := jM_U b2.1
        obtain ⟨t0, t1, t2, t3, t4, t5, t6, t7⟩ := e3
        obtain ⟨z, z1, z2, z3, z4⟩ := zstk_sto i1 qs t6
        unfold fX9_trace fX9_trace_29
        simp (disch := omega) only [zv, zN_lit, b1, zcv, b4, y_ink, zca, zN10, if_false, jM_bad0 b2, if_true, zgr g38, zN_mul, zN_add, zald, t4, zgr g39, zgr g40, z3, z4]
        rw [z2]
        congr 3
        omega
    · refine jOp_ok (v := zM) (m1 := m2) hM ?_ a2 (jfc_tr s2 a3) (fun m3 hm3 _ => y_fresh hm3 (fun h0 => ?_))
      · unfold fwL_trace
        refine u_fw hC.1 ?_ ?_
        · unfold fxX8_trace fxX8_trace_32
          rcases zcase y with e | ⟨i, i1, rfl⟩
          · simp only [k4, k3, xcx, zcv, a1, zca, zN_lit, e, if_true]
          · have hge : q.2.2.2.1.length ≤ i := by
              apply Classical.byContradiction
              intro hn
              exact hi ⟨i, by omega, rfl⟩
            simp (disch := omega) only [k4, k3, xcx, zcv, a1, zca, zN_lit, zlt0, if_false, zv, q1, zN_le, hge, if_true]
        · unfold fX8_trace fX8_trace_32
          rcases zcase y with e | ⟨i, i1, rfl⟩
          · simp only [k3, zcv, a1, zca, zN_lit, e, if_true, zneg]
          · have hge : q.2.2.2.1.length ≤ i := by
              apply Classical.byContradiction
              intro hn
              exact hi ⟨i, by omega, rfl⟩
            simp (disch := omega) only [k3, zcv, a1, zca, zN_lit, zlt0, if_false, zv, q1, zN_le, hge, if_true, zneg]
      · obtain ⟨m4, b1, b2, b3, b4, b5, b6⟩ := y_sur0 h0
        obtain ⟨q', e1, e2, e3⟩ := zpick_ysur k1 b5
        rw [a4] at e1
        injection e1 with e1
        subst e1
        have hle : (zsur (zPlain (jP S)).2).length ≤ 3000 := by have h1 := b6.2.2.2.1; have h2 := b6.2.2.2.2.1; omega
        refine ⟨m4, ?_, b2.1, b3, b2.2⟩
        obtain ⟨⟨-, -, -, -, -, -, -, -, -, -, -, -, -, -, -, -, -, n103, -⟩, ⟨-, -, -, -, -, -, -, -, -, -, -, -, -, -, -, -, -, g38, -⟩, -⟩ := jM_U b2.1
        have t4 := e3.2.2.2.2.1
        have hz' : ∀ k, k < q.2.2.2.1.length → y ≠ zN k := fun k hk he => hi ⟨k, hk, he⟩
        unfold fX9_trace fX9_trace_29
        simp (disch := omega) only [zv, zN_lit, b1, zcv, b4, y_ink, zca, zN10, if_false, jM_bad0 b2, if_true, zgr g38, zN_mul, zN_add, zald, t4, y_inz (show q.2.2.2.1.length < 2147483647 by omega) hz', zneg]
  · refine jOp_E2 (k := 1) (w := zN 0) s1 hM1 (by omega) (by omega) ?_ (fun h0 => ?_)
    · unfold fwL_trace
      rw [u_fwx (E := xNS) (m1 := ubE m1)]
      · rw [if_pos rfl]; rfl
      · unfold fxX8_trace
        simp only [k2, xcx]
    · obtain ⟨m4, b1, b2, b3, b4, b5, b6⟩ := y_sur0 h0
      have hle : (zsur (zPlain (jP S)).2).length ≤ 3000 := by have h1 := b6.2.2.2.1; have h2 := b6.2.2.2.2.1; omega
      refine ⟨m4, b2, b3, ?_⟩
      unfold fX9_trace fX9_trace_29
      simp only [zv, zN_lit, b1, zcv, b4, y_inz (show (zsur (zPlain (jP S)).2).length < 2147483647 by omega) k1, zca, zN10, if_false, if_true, jM_bad1 b2 (show 1 ≤ 1 by omega) (by omega) (show 0 < 2 by omega)]
end UP
