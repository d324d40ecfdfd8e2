/-! ===== y: the reference's run: terms, sums, acts ===== -/
section YI
variable {N : Nat → Nat} {b : Bool} {k : Nat} {P : zP} {K : Nat → Int32} {R : Nat → Nat → Int32 → Int32 → XM → Option (Int32 × XM)} {T C : Nat → zS → zR}
def yW (N : Nat → Nat) (K : Nat → Int32) (m : XM) (P : zP) : Prop := yU N m P ∧ gi m 88 = K
theorem yW_q {m m1 : XM} (h : yW N K m P) (g : yfq m m1) : yW N K m1 P := ⟨yU_q h.1 g, (funext fun k => g.1 88 k (by omega)).trans h.2⟩
def yQT (N : Nat → Nat) (b : Bool) (K : Nat → Int32) (P : zP) (k : Nat) (R : Nat → Nat → Int32 → Int32 → XM → Option (Int32 × XM)) (T : Nat → zS → zR) : Prop :=
  ∀ m s u, u < zn P → yW N K m P → yMR b m P s → (zopn s).length + k = 20 → yQ b m P (T u s) False (R 0 85 (zN u) (zN 0) m)
def yQC (N : Nat → Nat) (b : Bool) (K : Nat → Int32) (P : zP) (k : Nat) (R : Nat → Nat → Int32 → Int32 → XM → Option (Int32 × XM)) (C : Nat → zS → zR) : Prop :=
  ∀ m s x, zok P x → zknd P x = 4 → yW N K m P → yMR b m P s → (zopn s).length + k = 20 → yQ b m P (C x s) True (R 5 85 (zN (x / 12)) (zN (zmid P x)) m)
def ycok (P : zP) (l : List zCode) : Prop := ∀ c ∈ l, (c.1 = 1 → zok P c.2 ∧ zknd P c.2 = 1) ∧ (c.1 = 2 → zok P c.2 ∧ zknd P c.2 = 4)
def yQt (N : Nat → Nat) (b : Bool) (K : Nat → Int32) (P : zP) (k : Nat) (R : Nat → Nat → Int32 → Int32 → XM → Option (Int32 × XM)) (T C : Nat → zS → zR) (n : Nat) : Prop :=
  ∀ m s t l, yTm K P n t l → ycok P l → yW N K m P → yMR b m P s → (zopn s).length + k = 20 → yQ b m P (zEv P T C l [] s) True (R 4 85 (zN t) (zN 0) m)
def yQS (N : Nat → Nat) (b : Bool) (K : Nat → Int32) (P : zP) (k : Nat) (R : Nat → Nat → Int32 → Int32 → XM → Option (Int32 × XM)) (T C : Nat → zS → zR) (n : Nat) : Prop :=
  ∀ m s f l, ySm K (yTm K P n) f l → ycok P l → yW N K m P → yMR b m P s → (zopn s).length + k = 20 → yQ b m P (zEv P T C l [] s) True (R 3 85 (zN f) (zN 0) m)
theorem zEv1 (q : zCode) (h : q.1 ≤ 3) (s : zS) : zEv P T C [q] [] s = zTerm P T C q s := by
  rw [zEv_tm (by omega)]
  exact zbind_id _
theorem yq_term (hT : yQT N b K P k R T) (hC : yQC N b K P k R C) (iT : zIT P k T) (oT : zKo T) {n : Nat} (hS : yQS N b K P k R T C n) {m : XM} {s : zS} {t : Nat} {l : List zCode} (ht : yTm K P (n + 1) t l) (hl : ycok P l) (hW : yW N K m P) (h : yMR b m P s) (ho : (zopn s).length + k = 20) :
    yQ b m P (zEv P T C l [] s) True (fX9_termOf N R 85 (zN t) m) := by
  obtain ⟨t400, ht⟩ := ht
  have hW0 := hW
  obtain ⟨hU, hK⟩ := hW
  obtain ⟨hN, hR, hwf, hMP⟩ := id hU
  obtain ⟨-, -, n88, -, -, -, -, -, -, -, n96, -⟩ := id hN
  obtain ⟨-, -, g9, -, -, -, -, -, -, -, g20, -⟩ := id hR
  have hz := hwf.1
  have hK' : ∀ j, gi m 88 j = K j := fun j => congrFun hK j
  unfold fX9_termOf
  rw [zgr g9]
  rw [show (fX9_ofTerm N 88 (zN t) 1 m) = _ from yo_term (w := 1) n88 t400 (by omega), zca, zgr g9]
  rw [show (fX9_ofTerm N 88 (zN t) 2 m) = _ from yo_term (w := 2) n88 t400 (by omega), zca, zgr g9]
  rw [show (fX9_ofTerm N 88 (zN t) 3 m) = _ from yo_term (w := 3) n88 t400 (by omega), zca, hK', hK', hK']
  simp only [zN_lit]
  rcases ht with ⟨q, rfl, hq⟩ | ⟨e1, f, e2, hf⟩
  · have q3 := yleaf_le hq
    rw [zEv1 q q3]
    have hq1 : ¬ K (1410 + 6 * t + 1) = zN 4 := by
      rcases hq with h | h | h | h
      · rw [h.1, zN_eq (by omega) (by omega)]; omega
      · rw [h.1, zN_eq (by omega) (by omega)]; omega
      · rw [h.1, zN_eq (by omega) (by omega)]; omega
      · rw [h.1, zN_eq (by omega) (by omega)]; omega
    rw [if_neg hq1, yc_works h]
    by_cases hw : zwk s < 3000
    · rw [if_pos hw]
      have hf1 : yfq m (si m 85 29 (zN (zwk s + 1))) := yfq_si (yfq_rf m)
      have hW1 := yW_q hW0 hf1
      have hR1 := yMR_wk h hw
      refine yQ_pre hf1 ?_
      unfold zTerm
      rw [if_pos hw]
      generalize si m 85 29 (zN (zwk s + 1)) = m1 at hW1 hR1
      obtain ⟨hU1, hK1⟩ := id hW1
      obtain ⟨-, ⟨-, -, g9, -, -, -, -, -, -, -, g20, -⟩, -, hMP1⟩ := id hU1
      have hK1' : ∀ j, gi m1 88 j = K j := fun j => congrFun hK1 j
      obtain ⟨-, -, -, -, hMm, -⟩ := hMP1
      rw [hK1] at hMm
      rcases hq with ⟨a1, a2, a3⟩ | ⟨a1, a2⟩ | ⟨a1, a2, x, x1, x2, x3, x4⟩ | ⟨a1, a2, a3, a4⟩
      · simp (disch := omega) only [zca, zN10, if_false, a1, if_true, a2, a3]
        exact ⟨_, _, rfl, yq_ok (yfq_rf m1) hR1.2.1 hR1.2.2.1 hR1.2.2.2, fun _ _ => rfl⟩
      · simp (disch := omega) only [zca, zN10, if_false, a1, if_true, a2, zN_eq, zneg, Nat.reduceEqDiff, yc_fails, zcv]
        exact ⟨_, _, rfl, yq_fail hR1 (Or.inl ⟨rfl, rfl⟩), fun g => (by cases g)⟩
      · have hx := zmid_lt hwf x1
        have hk0 := (hMm x x1).1.1
        have hk2 := ((hMm x x1).1.2.2.1 x2).1
        rw [x2] at hk0
        rw [x4] at hk2
        simp only [zopt] at hk2
        have e0 := yo_mem (m := m1) (a := 88) (x := zmid P x) (w := 0) n88 (by omega) (by omega)
        rw [Nat.add_zero, hK1', hk0] at e0
        simp (disch := omega) only [zca, zN10, if_false, a1, if_true, a2, zN_eq, Nat.reduceEqDiff, Nat.one_ne_zero, zgr g9, x3, e0, yo_mem, hK1', hk2]
        exact ⟨_, _, rfl, yq_ok (yfq_rf m1) hR1.2.1 hR1.2.2.1 hR1.2.2.2, fun _ _ => rfl⟩
      · have hx : zok P q.2 := by
          rcases a2 with e | e
          · exact ((hl q List.mem_cons_self).1 e).1
          · exact ((hl q List.mem_cons_self).2 e).1
        have hx1 := zmid_lt hwf hx
        have hxk : zknd P q.2 = 1 ∨ zknd P q.2 = 4 := by
          rcases a2 with e | e
          · exact Or.inl ((hl q List.mem_cons_self).1 e).2
          · exact Or.inr ((hl q List.mem_cons_self).2 e).2
        have hk0 := (hMm q.2 hx).1.1
        have e0 := yo_mem (m := m1) (a := 88) (x := zmid P q.2) (w := 0) n88 (by omega) (by omega)
        rw [Nat.add_zero, hK1', hk0] at e0
        have hIT := iT (q.2 / 12) _ hx.1 hR1.1 ho
        have ho2 : (T (q.2 / 12) (zs_wk s (zwk s + 1))).1 ≠ 2 → zopn (T (q.2 / 12) (zs_wk s (zwk s + 1))).2.2 = zopn s := oT _ _
        have hTT := hT m1 _ (q.2 / 12) hx.1 hW1 hR1 ho
        have a5 : ¬ q.1 = 0 := by omega
        have a6 : ¬ q.1 = 3 := by omega
        have a7 : ¬ zknd P q.2 = 0 := by omega
        simp (disch := omega) only [zca, zN10, if_false, a1, zN_eq, zgr g9, a4, a3, e0, a5, a6, a7]
        rcases a2 with e | e
        · rw [if_pos e]
          refine yQ_bindV hTT (fun m2 t0 f2 r2 o2 s2 => ?_) (fun m2 j f2 j1 j2 => ⟨zN 0, ?_⟩)
          · have hs2 : (zsur (T (q.2 / 12) (zs_wk s (zwk s + 1))).2.2).length < zwk (T (q.2 / 12) (zs_wk s (zwk s + 1))).2.2 := by
              have e1 : zwk s + 1 + (zsur (T (q.2 / 12) (zs_wk s (zwk s + 1))).2.2).length ≤ zwk (T (q.2 / 12) (zs_wk s (zwk s + 1))).2.2 + (zsur s).length := hIT.2.1
              have := h.1.2.2.2.2.1
              omega
            have hk1 := ((hl q List.mem_cons_self).1 e).2
            have hW2 := yW_q hW1 f2
            have hR2 : yMR b m2 P (T (q.2 / 12) (zs_wk s (zwk s + 1))).2.2 := ⟨hIT.1, r2, o2, s2⟩
            generalize (T (q.2 / 12) (zs_wk s (zwk s + 1))).2.2 = s3 at hR2 hs2
            have hv := hR2.2.1.2.1 q.2 hx
            obtain ⟨-, ⟨-, -, g9, -, -, -, -, -, -, -, g20, -⟩, -⟩ := id hW2.1
            have hne : ¬ (1 : Nat) = 2 := by omega
            simp (disch := omega) only [s2, zv, if_true, e, zN_eq, hne, if_false, yc_early hW2.1 hR2 hx hk1, zca]
            unfold fX9_termOf_138 zNote
            by_cases ee : zEarly P q.2 s3 = true
            · obtain ⟨m3, w1, w2, w3⟩ := yc_notes hW2.1 hR2 hx hk1 hs2
              have hv3 := w3.2.1.2.1 q.2 hx
              obtain ⟨-, ⟨-, -, -, -, -, -, -, -, -, -, g20', -⟩, -⟩ := (yW_q hW2 w2).1
              simp (disch := omega) only [ee, if_true, zN10, if_false, w1, zcv, zgr g20', zald, hv3]
              exact ⟨_, _, rfl, yq_ok w2 w3.2.1 w3.2.2.1 w3.2.2.2, fun _ _ => rfl⟩
            · simp (disch := omega) only [ee, if_false, if_true, Bool.false_eq_true, zgr g20, zald, hv]
              exact ⟨_, _, rfl, yq_ok (yfq_rf m2) hR2.2.1 hR2.2.2.1 hR2.2.2.2, fun _ _ => rfl⟩
          · simp (disch := omega) only [j2, zv, zN_eq, Nat.add_eq_zero_iff, Nat.one_ne_zero, and_false, if_false]
        · rw [if_neg (by omega), if_pos e]
          refine yQ_bindV hTT (fun m2 t0 f2 r2 o2 s2 => ?_) (fun m2 j f2 j1 j2 => ⟨zN 0, ?_⟩)
          · have hk4 := ((hl q List.mem_cons_self).2 e).2
            simp (disch := omega) only [s2, zv, if_true, e]
            obtain ⟨v, m3, w1, w2, w3⟩ := hC m2 _ q.2 hx hk4 (yW_q hW1 f2) ⟨hIT.1, r2, o2, s2⟩ (by rw [ho2 (by omega)]; exact ho)
            rw [w1]
            exact ⟨v, m3, rfl, w2, w3⟩
          · simp (disch := omega) only [j2, zv, zN_eq, Nat.add_eq_zero_iff, Nat.one_ne_zero, and_false, if_false]
    · rw [if_neg hw]
      unfold zTerm
      rw [if_neg hw]
      simp only [zca, if_true]
      exact ⟨_, _, rfl, yq_much h, fun g => (by cases g)⟩
  · rw [e1, e2, if_pos rfl]
    obtain ⟨v, m3, w1, w2, w3⟩ := hS m s f l hf hl hW0 h ho
    rw [w1]
    exact ⟨v, m3, rfl, w2, w3⟩
theorem ySm_400 {n f : Nat} {l : List zCode} (h : ySm K (yTm K P n) f l) : f < 400 := by
  obtain ⟨l0, ts, lr, h1, -⟩ := h
  cases n with
  | zero => exact h1.elim
  | succ n => exact h1.1
theorem yTm_400 {n f : Nat} {l : List zCode} (h : yTm K P n f l) : f < 400 := by
  cases n with
  | zero => exact h.elim
  | succ n => exact h.1
/-- what hangs behind p -/
theorem yq_chain (iT : zIT P k T) (iC : zIC P k C) (oT : zKo T) (oC : zKo C) {n : Nat} (ht : yQt N b K P k R T C n) (f : Nat) : ∀ (ts : List Nat) (g p : Nat) (l : List zCode) (v : Int32) (m : XM) (s : zS), ts.length < g → f ≤ p → p < 400 → f < 400 → yCh K (yTm K P n) ts p l → ycok P l → yW N K m P → yMR b m P s → (zopn s).length + k = 20 →
    yQ b m P (zEv P T C l [v] s) True (fX9_sumOf_76 N R (fun q0 x1 x2 x3 m0 => fX9_sumOf_4 N R g q0 x1 x2 x3 m0) 85 (zN f) (zN p) v m) := by
  intro ts
  induction ts with
  | nil =>
    intro g p l v m s hg hfp hp hf hc hl hW h ho
    obtain ⟨g, rfl⟩ : ∃ k, g = k + 1 := ⟨g - 1, by simp at hg; omega⟩
    obtain ⟨c1, rfl⟩ := hc
    obtain ⟨⟨⟨-, -, n88, -⟩, ⟨-, -, g9, -⟩, -⟩, hK⟩ := id hW
    have hK' : ∀ j, gi m 88 j = K j := fun j => congrFun hK j
    unfold fX9_sumOf_76
    simp (disch := omega) only [zgr g9, zN_lit, yo_term, zca, hK', c1]
    unfold fX9_sumOf_4
    simp only [zv, zN_lit, zneg, if_true]
    exact ⟨_, _, rfl, yq_ok (yfq_rf m) h.2.1 h.2.2.1 h.2.2.2, fun _ _ => rfl⟩
  | cons t ts ih =>
    intro g p l v m s hg hfp hp hf hc hl hW h ho
    simp only [List.length_cons] at hg
    obtain ⟨g, rfl⟩ : ∃ k, g = k + 1 := ⟨g - 1, by omega⟩
    obtain ⟨c1, c2, lt, o, l', c3, c4, c5, c6, rfl, c7⟩ := hc
    have hwf := hW.1.2.2.1
    have t400 := yTm_400 c3
    have hlt : ycok P lt := fun q hq => hl q (List.mem_append_left _ hq)
    have hl' : ycok P l' := fun q hq => hl q (List.mem_append_right _ (List.mem_cons_of_mem _ hq))
    have hW0 := hW
    obtain ⟨⟨⟨-, -, n88, -⟩, ⟨-, -, g9, -⟩, -⟩, hK⟩ := hW
    have hK' : ∀ j, gi m 88 j = K j := fun j => congrFun hK j
    have e0 := yo_term (m := m) (a := 88) (x := t) (w := 0) n88 t400 (by omega)
    rw [Nat.add_zero, hK', c6] at e0
    rw [zBal_Tm n t lt c3]
    unfold fX9_sumOf_76
    simp (disch := omega) only [zgr g9, zN_lit, yo_term, zca, hK', c2]
    unfold fX9_sumOf_4
    have hne : ¬ t = f := by omega
    simp (disch := omega) only [zv, zN_lit, zneg, zN_m, if_false, h.2.2.2, if_true, zgr g9, e0, zca, zN_eq, hne]
    have hI := zI_ev hwf iT iC oT oC lt [] s hlt h.1 ho
    refine yQ_bind (ht m s t lt c3 hlt hW0 h ho) (fun w m1 e1 f1 r1 o1 s1 hv => ?_) (fun w m1 j f1 j1 j2 => ?_)
    · rw [hv trivial]
      have ho1 := zKo_ev oT oC lt [] s (by omega : (zEv P T C lt [] s).1 ≠ 2)
      rw [zEv_op c4]
      simp only [List.tail_cons, List.headD_cons]
      have := ih g t l' (zJoin o v (zEv P T C lt [] s).2.1) m1 (zEv P T C lt [] s).2.2 (by omega) (by omega) t400 hf c7 hl' (yW_q hW0 f1) ⟨hI.1, r1, o1, s1⟩ (by rw [ho1]; exact ho)
      have hc : o = 4 ∨ o = 5 ∨ o = 6 := by omega
      unfold ysign
      rcases hc with rfl | rfl | rfl
      · simp (disch := omega) only [if_true]
        exact this
      · simp (disch := omega) only [if_true, if_false, Nat.reduceEqDiff, zN_eq]
        exact this
      · simp (disch := omega) only [if_true, if_false, Nat.reduceEqDiff, zN_eq]
        exact this
    · have key : ∀ y, ∃ w, fX9_sumOf_76 N R (fun q0 x1 x2 x3 m0 => fX9_sumOf_4 N R g q0 x1 x2 x3 m0) 85 (zN f) (zN t) y m1 = some (w, m1) := fun y => by
        obtain ⟨⟨⟨-, -, n88, -⟩, ⟨-, -, g9, -⟩, -⟩, hK⟩ := yW_q hW0 f1
        have hK' : ∀ j, gi m1 88 j = K j := fun j => congrFun hK j
        obtain ⟨g, rfl⟩ : ∃ k, g = k + 1 := ⟨g - 1, by omega⟩
        unfold fX9_sumOf_76
        simp (disch := omega) only [zgr g9, zN_lit, yo_term, zca, hK']
        unfold fX9_sumOf_4
        simp (disch := omega) only [zv, zN_lit, zneg, j2, zN_eq, Nat.add_eq_zero_iff, Nat.one_ne_zero, and_false, if_false]
        by_cases e : K (1410 + 6 * t + 4) = zM
        · rw [if_pos e]; exact ⟨_, rfl⟩
        · rw [if_neg e]; exact ⟨_, rfl⟩
      by_cases d1 : zN (ysign o) = zN 43
      · rw [if_pos d1]; exact key _
      · rw [if_neg d1]
        by_cases d2 : zN (ysign o) = zN 45
        · rw [if_pos d2]; exact key _
        · rw [if_neg d2]; exact key _
theorem yq_sum (iT : zIT P k T) (iC : zIC P k C) (oT : zKo T) (oC : zKo C) {n : Nat} (ht : yQt N b K P k R T C n) {f : Nat} {l : List zCode} {m : XM} {s : zS} (hf : ySm K (yTm K P n) f l) (hl : ycok P l) (hW : yW N K m P) (h : yMR b m P s) (ho : (zopn s).length + k = 20) :
    yQ b m P (zEv P T C l [] s) True (fX9_sumOf N R 85 (zN f) m) := by
  have f400 := ySm_400 hf
  obtain ⟨l0, ts, lr, h1, h2, h3, rfl⟩ := hf
  have hwf := hW.1.2.2.1
  have hlt : ycok P l0 := fun q hq => hl q (List.mem_append_left _ hq)
  have hl' : ycok P lr := fun q hq => hl q (List.mem_append_right _ hq)
  obtain ⟨⟨⟨-, -, n88, -⟩, ⟨-, -, g9, -⟩, -⟩, hK⟩ := id hW
  rw [zBal_Tm n f l0 h1]
  unfold fX9_sumOf
  have hX := zXF
  revert hX
  generalize XF = nf
  intro hX
  obtain ⟨g, rfl⟩ : ∃ k, nf = k + 1 := ⟨nf - 1, by omega⟩
  unfold fX9_sumOf_4
  simp (disch := omega) only [zv, zN_lit, zneg, zN_m, if_false, h.2.2.2, if_true, zgr g9, yo_term, zca]
  have hI := zI_ev hwf iT iC oT oC l0 [] s hlt h.1 ho
  refine yQ_bind (ht m s f l0 h1 hlt hW h ho) (fun w m1 e1 f1 r1 o1 s1 hv => ?_) (fun w m1 j f1 j1 j2 => ?_)
  · rw [hv trivial]
    have ho1 := zKo_ev oT oC l0 [] s (by omega : (zEv P T C l0 [] s).1 ≠ 2)
    exact yq_chain iT iC oT oC ht f ts g f lr (zEv P T C l0 [] s).2.1 m1 (zEv P T C l0 [] s).2.2 (by omega) (Nat.le_refl _) f400 f400 h3 hl' (yW_q hW f1) ⟨hI.1, r1, o1, s1⟩ (by rw [ho1]; exact ho)
  · obtain ⟨⟨⟨-, -, n88, -⟩, ⟨-, -, g9, -⟩, -⟩, hK⟩ := yW_q hW f1
    have hK' : ∀ j, gi m1 88 j = K j := fun j => congrFun hK j
    obtain ⟨g, rfl⟩ : ∃ k, g = k + 1 := ⟨g - 1, by omega⟩
    unfold fX9_sumOf_76
    simp (disch := omega) only [zgr g9, zN_lit, yo_term, zca, hK']
    unfold fX9_sumOf_4
    simp (disch := omega) only [zv, zN_lit, zneg, j2, zN_eq, Nat.add_eq_zero_iff, Nat.one_ne_zero, and_false, if_false]
    by_cases e : K (1410 + 6 * f + 4) = zM
    · rw [if_pos e]; exact ⟨_, rfl⟩
    · rw [if_neg e]; exact ⟨_, rfl⟩
end YI
