/-! ===== y: the reference's run: acts, members ===== -/
def zK1 (v : Nat) (T : Nat → zS → zR) : Prop := ∀ u s, zst s v = 1 → zst (T u s).2.2 v = 1
theorem zK1_bind {w : Nat} {r : zR} {k : Int32 → zS → zR} (h1 : zst r.2.2 w = 1) (h2 : r.1 = 0 → zst r.2.2 w = 1 → zst (k r.2.1 r.2.2).2.2 w = 1) : zst (zbind r k).2.2 w = 1 := by
  by_cases h0 : r.1 = 0
  · rw [zbind_p h0]; exact h2 h0 h1
  · rw [zbind_n h0, h1]
section ZK1
variable {P : zP} {T C : Nat → zS → zR} {w : Nat}
theorem zK1_note (x : Nat) (s : zS) : zst (zNote P x s) w = zst s w := by
  unfold zNote; split <;> rfl
theorem zK1_term (hT : zK1 w T) (hC : zK1 w C) (c : zCode) (s : zS) (h : zst s w = 1) : zst (zTerm P T C c s).2.2 w = 1 := by
  unfold zTerm
  split
  · split
    · exact h
    · split
      · exact zK1_bind (hT _ _ h) (fun _ g => (zK1_note _ _).trans g)
      · split
        · exact zK1_bind (hT _ _ h) (fun _ g => hC _ _ g)
        · exact h
  · exact h
theorem zK1_ev (hT : zK1 w T) (hC : zK1 w C) : ∀ (l : List zCode) (v : List Int32) (s : zS), zst s w = 1 → zst (zEv P T C l v s).2.2 w = 1
  | [], _, _, h => h
  | c :: cs, v, s, h => by
    unfold zEv
    split
    · exact zK1_ev hT hC cs _ s h
    · exact zK1_bind (zK1_term hT hC c s h) (fun _ g => zK1_ev hT hC cs _ _ g)
theorem zK1_do (hT : zK1 w T) (hC : zK1 w C) (d : zDeed) (s : zS) (h : zst s w = 1) : zst (zDo P T C d s).2.2 w = 1 := by
  unfold zDo
  refine zK1_bind (zK1_ev hT hC _ _ _ h) (fun _ g => ?_)
  cases d.2 with
  | none => exact g
  | some m =>
    refine zK1_bind (hT _ _ g) (fun _ g => ?_)
    split <;> exact g
theorem zK1_dos (hT : zK1 w T) (hC : zK1 w C) : ∀ (l : List zDeed) (v : Int32) (s : zS), zst s w = 1 → zst (zDos P T C l v s).2.2 w = 1
  | [], _, _, h => h
  | d :: ds, v, s, h => by
    unfold zDos
    exact zK1_bind (zK1_do hT hC d s h) (fun _ g => zK1_dos hT hC ds _ _ g)
theorem zK1_mem (hT : zK1 w T) (hC : zK1 w C) (x : Nat) (s : zS) (h : zst s w = 1) : zst (zMem P T C x s).2.2 w = 1 := by
  unfold zMem
  split
  · cases zini P x with
    | none => exact h
    | some d =>
      refine zK1_bind (zK1_do hT hC d s h) (fun _ g => ?_)
      by_cases e : zknd P x = 1
      · rw [if_pos e]; exact g
      · rw [if_neg e]; exact g
  · exact h
theorem zK1_mems (hT : zK1 w T) (hC : zK1 w C) : ∀ (l : List Nat) (s : zS), zst s w = 1 → zst (zMems P T C l s).2.2 w = 1
  | [], _, h => h
  | x :: xs, s, h => by
    unfold zMems
    exact zK1_bind (zK1_mem hT hC x s h) (fun _ g => zK1_mems hT hC xs _ g)
end ZK1
theorem zK1_close {u w : Nat} (hu : w ≠ u) {r : zR} (h : zst r.2.2 w = 1) : zst (zClose u r).2.2 w = 1 := by
  unfold zClose
  split
  · show zset _ u 2 w = 1
    rw [zset_ne _ _ hu]; exact h
  · split
    · show zset _ u 3 w = 1
      rw [zset_ne _ _ hu]; exact h
    · exact h
theorem zK1_L (P : zP) (w : Nat) : ∀ k, zK1 w (zL P k).1 ∧ zK1 w (zL P k).2
  | 0 => by
    refine ⟨fun u s h => ?_, fun _ _ h => h⟩
    show zst (if zst s u = 0 then _ else _ : zR).2.2 w = _
    split
    · exact h
    · split <;> exact h
  | k + 1 => by
    obtain ⟨hT, hC⟩ := zK1_L P w k
    refine ⟨fun u s h => ?_, fun x s h => ?_⟩
    · show zst (if zst s u = 0 then _ else _ : zR).2.2 w = _
      split
      · rename_i h0
        split
        · have hu : w ≠ u := fun e => by rw [e] at h; omega
          refine zK1_close hu (zK1_bind ?_ (fun _ g => zK1_mems hT hC _ _ g))
          have hb : zst (zBegin P u s) w = 1 := by
            show zset (zst s) u 1 w = 1
            rw [zset_ne _ _ hu]; exact h
          split
          · exact hb
          · exact hT _ _ hb
        · exact h
      · split <;> exact h
    · show zst (zPop _).2.2 w = _
      unfold zPop
      split
      · exact zK1_dos hT hC _ _ _ h
      · exact zK1_dos hT hC _ _ _ h
theorem ynar1 : vp_nar .boolean (zN 1) = zN 1 := by decide
theorem ynar0 : vp_nar .boolean (zN 0) = zN 0 := by decide
theorem yzst {β : Type} {N : Nat → Nat} {m : XM} {a j : Nat} {v : Int32} {κ : XM → Option β} (h : j < N a) (hk : j < 2147483648) : xzst N m a (zN j) v κ = κ (si m a j (vp_nar .boolean v)) := by
  unfold xzst
  rw [if_pos (by rw [zN_in hk]; exact h), zN_clamp hk]
section YJ
variable {N : Nat → Nat} {b : Bool} {k : Nat} {P : zP} {K : Nat → Int32} {R : Nat → Nat → Int32 → Int32 → XM → Option (Int32 × XM)} {T C : Nat → zS → zR}
theorem yV_Q {m : XM} {res : zR} {o : Option XM} (h : yV b m P res o) : yQ b m P res False (o.map fun m => ((0 : Int32), m)) := by
  obtain ⟨m', rfl, h⟩ := h
  exact ⟨0, m', rfl, h, fun _ g => g.elim⟩
def yQA (N : Nat → Nat) (b : Bool) (K : Nat → Int32) (P : zP) (k : Nat) (R : Nat → Nat → Int32 → Int32 → XM → Option (Int32 × XM)) (T C : Nat → zS → zR) : Prop :=
  ∀ m s a d, yact K P a d → zdok P d → yW N K m P → yMR b m P s → (zopn s).length + k = 20 → yQ b m P (zDo P T C d s) False (R 2 85 (zN a) (zN 0) m)
def yQM (N : Nat → Nat) (b : Bool) (K : Nat → Int32) (P : zP) (k : Nat) (R : Nat → Nat → Int32 → Int32 → XM → Option (Int32 × XM)) (T C : Nat → zS → zR) : Prop :=
  ∀ m s x, zok P x → zst s (x / 12) = 1 → yW N K m P → yMR b m P s → (zopn s).length + k = 20 → yQ b m P (zMem P T C x s) False (R 1 85 (zN (x / 12)) (zN (zmid P x)) m)
theorem yq_act (hT : yQT N b K P k R T) (hS : yQS N b K P k R T C 9) (iT : zIT P k T) (iC : zIC P k C) (oT : zKo T) (oC : zKo C) {m : XM} {s : zS} {a : Nat} {d : zDeed} (ha : yact K P a d) (hd : zdok P d) (hW : yW N K m P) (h : yMR b m P s) (ho : (zopn s).length + k = 20) :
    yV b m P (zDo P T C d s) (fX9_acts N R 85 (zN a) m) := by
  obtain ⟨a220, ⟨f, hf1, hf2⟩, ha0, ha1⟩ := ha
  have hwf := hW.1.2.2.1
  obtain ⟨⟨⟨-, -, n88, -⟩, ⟨-, -, g9, -⟩, -⟩, hK⟩ := id hW
  have hK' : ∀ j, gi m 88 j = K j := fun j => congrFun hK j
  unfold fX9_acts zDo
  simp (disch := omega) only [zgr g9, zN_lit, yo_act, zca, hK', hf1]
  have hI := zI_ev hwf iT iC oT oC d.1 [] s hd.1.2 h.1 ho
  have hrd : ∀ m1, yfq m m1 → gr m1 85 9 = some 88 ∧ fX9_ofAct N 88 (zN a) (zN 0) m1 = some (K (530 + 4 * a), m1) ∧ fX9_ofAct N 88 (zN a) (zN 1) m1 = some (K (530 + 4 * a + 1), m1) := fun m1 f1 => by
    obtain ⟨⟨⟨-, -, n88, -⟩, ⟨-, -, g9, -⟩, -⟩, hK⟩ := yW_q hW f1
    refine ⟨g9, ?_, ?_⟩
    · rw [yo_act n88 a220 (by omega), hK, Nat.add_zero]
    · rw [yo_act n88 a220 (by omega), hK]
  refine yV_bind (hS m s f d.1 hf2 hd.1.2 hW h ho) (fun v m1 e1 f1 r1 o1 s1 hv => ?_) (fun v m1 j f1 j1 j2 => ?_)
  · rw [hv trivial]
    have ho1 := zKo_ev oT oC d.1 [] s (by omega : (zEv P T C d.1 [] s).1 ≠ 2)
    have hW1 := yW_q hW f1
    obtain ⟨g9, c1, c2⟩ := hrd m1 f1
    have hR1 : yMR b m1 P (zEv P T C d.1 [] s).2.2 := ⟨hI.1, r1, o1, s1⟩
    generalize (zEv P T C d.1 [] s).2.1 = w
    rw [← ho1] at ho
    generalize (zEv P T C d.1 [] s).2.2 = s2 at hR1 ho
    simp (disch := omega) only [zgr g9, c1, c2, zca, zv, s1, if_true, zneg]
    cases hd2 : d.2 with
    | none =>
      simp only [ha0 hd2, if_true]
      exact ⟨m1, rfl, yq_ok (yfq_rf m1) hR1.2.1 hR1.2.2.1 hR1.2.2.2⟩
    | some x =>
      obtain ⟨x1, x2⟩ := ha1 x hd2
      obtain ⟨hx, hxk⟩ := hd.2 x hd2
      have hx84 := zok_84 hwf hx
      have hmid := zmid_lt hwf hx
      simp (disch := omega) only [x1, x2, zN_m, if_false]
      have hIT := iT (x / 12) _ hx.1 hR1.1 ho
      refine yV_bindV (hT m1 s2 (x / 12) hx.1 hW1 hR1 ho) (fun m2 t0 f2 r2 o2 s2' => ?_) (fun m2 j f2 j1 j2 => ?_)
      · have hR2 : yMR b m2 P (T (x / 12) s2).2.2 := ⟨hIT.1, r2, o2, s2'⟩
        have hW2 := yW_q hW1 f2
        generalize (T (x / 12) s2).2.2 = s3 at hR2
        simp only [s2', zv, if_true]
        rw [yc_works hR2]
        by_cases hw : zwk s3 < 3000
        · rw [if_pos hw, if_pos hw]
          have f3 : yfq m2 (si m2 85 29 (zN (zwk s3 + 1))) := yfq_si (yfq_rf m2)
          have hW3 := yW_q hW2 f3
          have hR3 := yMR_wk hR2 hw
          have hE : zEarly P x (zs_wk s3 (zwk s3 + 1)) = zEarly P x s3 := rfl
          refine yV_pre f3 ?_
          generalize si m2 85 29 (zN (zwk s3 + 1)) = m3 at hW3 hR3
          simp only [zca, zN10, if_false, yc_early hW3.1 hR3 hx hxk, hE]
          obtain ⟨⟨-, -, -, -, -, -, -, -, -, -, n96, -⟩, ⟨-, -, -, -, -, -, -, -, -, -, g20, -⟩, -⟩ := hW3.1
          have hl := hR3.2.1.2.2.2.2.2.2.2.1
          unfold fX9_acts_88
          by_cases ee : zEarly P x s3 = true
          · simp (disch := omega) only [ee, if_true, zN10, if_false, zv, hl, zN_add, zgr_si, zgr g20, zast]
            refine ⟨_, rfl, yq_ok (yfq_si (yfq_si (yfq_rf m3))) (yMr_val hx (yMr_los hR3.2.1)) (yMo_si (yMo_si hR3.2.2.1 (by omega) (by omega) (by omega)) (by omega) (by omega) (by omega)) ?_⟩
            rw [gi_ne (by omega), gi_ne (by omega)]; exact hR3.2.2.2
          · simp (disch := omega) only [ee, if_true, if_false, Bool.false_eq_true, zgr g20, zast]
            refine ⟨_, rfl, yq_ok (yfq_si (yfq_rf m3)) (yMr_val hx hR3.2.1) (yMo_si hR3.2.2.1 (by omega) (by omega) (by omega)) ?_⟩
            rw [gi_ne (by omega)]; exact hR3.2.2.2
        · rw [if_neg hw, if_neg hw]
          simp only [zca, if_true]
          exact ⟨_, rfl, yq_much hR2⟩
      · simp (disch := omega) only [j2, zv, zN_eq, Nat.add_eq_zero_iff, Nat.one_ne_zero, and_false, if_false]
  · obtain ⟨g9, c1, c2⟩ := hrd m1 f1
    simp (disch := omega) only [zgr g9, c1, c2, zca, zv, j2, zN_eq, Nat.add_eq_zero_iff, Nat.one_ne_zero, and_false, if_false]
theorem yq_does (hS : yQS N b K P k R T C 9) (hA : yQA N b K P k R T C) (iT : zIT P k T) (iC : zIC P k C) (oT : zKo T) (oC : zKo C) {m : XM} {s : zS} {x : Nat} (k1T : zK1 (x / 12) T) (k1C : zK1 (x / 12) C) (hx : zok P x) (hx1 : zst s (x / 12) = 1) (hW : yW N K m P) (h : yMR b m P s) (ho : (zopn s).length + k = 20) :
    yV b m P (zMem P T C x s) (fX9_does N R 85 (zN (x / 12)) (zN (zmid P x)) m) := by
  have hwf := hW.1.2.2.1
  have hmid := zmid_lt hwf hx
  obtain ⟨⟨⟨-, -, n88, -, n90, -, -, -, -, -, n96, -, -, -, -, -, n102, -⟩, ⟨-, -, g9, -, g11, -, -, -, -, -, g20, -, -, -, -, -, g26, -⟩, -, ⟨-, -, -, -, hm, -⟩⟩, hK⟩ := id hW
  have hK' : ∀ j, gi m 88 j = K j := fun j => congrFun hK j
  obtain ⟨⟨y0, y1, y2, y3, y4, y5⟩, y6⟩ := hm x hx
  rw [hK] at y0 y1 y2 y3 y4 y5
  obtain ⟨w1, w2, w3, w4, w5, w6⟩ := hwf.2.2.1 x hx
  have e0 := yo_mem (m := m) (a := 88) (x := zmid P x) (w := 0) n88 (by omega) (by omega)
  rw [Nat.add_zero, hK', y0] at e0
  unfold fX9_does zMem
  simp (disch := omega) only [zgr g11, zald, y6]
  by_cases hon : zon P x = true
  · simp (disch := omega) only [hon, if_true, zN_lit, zgr g9, e0, zca]
    have hok0 : yV b m P (0, 0, s) (some m) := ⟨m, rfl, yq_ok (yfq_rf m) h.2.1 h.2.2.1 h.2.2.2⟩
    have hc : zknd P x = 0 ∨ zknd P x = 1 ∨ zknd P x = 2 ∨ zknd P x = 3 ∨ zknd P x = 4 := by omega
    rcases hc with hk | hk | hk | hk | hk
    · have hn := (y2 hk).2.2
      unfold fX9_does_79
      simp (disch := omega) only [hk, zN_eq, hn, zN_lit, Nat.reduceEqDiff, if_false]
      exact hok0
    · obtain ⟨y31, y32⟩ := y3 hk
      cases hi : zini P x with
      | none =>
        unfold fX9_does_79
        simp (disch := omega) only [hk, if_true, yo_mem, hK', y31 hi, zca, zneg, zN_lit, zN_eq, Nat.reduceEqDiff, if_false]
        exact hok0
      | some d =>
        obtain ⟨f, f1, f2⟩ := y32 d hi
        have f400 := ySm_400 f2
        have hd := w2 d hi
        have hd2 := w5 hk d hi
        simp (disch := omega) only [hk, if_true, yo_mem, hK', f1, zca, zneg, zN_m, if_false, zgr g9]
        have hDo : zDo P T C d s = zEv P T C d.1 [] s := by
          unfold zDo
          rw [hd2]
          exact zbind_id _
        rw [hDo]
        refine yV_bind (hS m s f d.1 f2 hd.1.2 hW h ho) (fun v m1 e1 q1 r1 o1 s1 hv => ?_) (fun v m1 j q1 j1 j2 => ?_)
        · rw [hv trivial]
          have hst := zK1_ev (P := P) k1T k1C d.1 [] s hx1
          obtain ⟨⟨-, ⟨-, -, -, -, -, -, -, -, -, -, g20, -, -, -, -, -, g26, -⟩, -⟩, -⟩ := yW_q hW q1
          simp (disch := omega) only [zv, s1, if_true, zgr g20, zast, zgr_si, zgr g26, yzst, ynar1]
          refine ⟨_, rfl, yq_ok (yfq_si (yfq_si (yfq_rf m1))) (yMr_mk hx (by show zst (zEv P T C d.1 [] s).2.2 (x / 12) ≠ 0; omega) (yMr_val hx r1)) (yMo_si (yMo_si o1 (by omega) (by omega) (by omega)) (by omega) (by omega) (by omega)) ?_⟩
          rw [gi_ne (by omega), gi_ne (by omega)]; exact s1
        · simp (disch := omega) only [zv, j2, zN_eq, Nat.add_eq_zero_iff, Nat.one_ne_zero, and_false, if_false]
    · obtain ⟨a, d, a1, a2, a3⟩ := y4 (Or.inl hk)
      have hne : ¬ (2 : Nat) = 1 := by omega
      unfold fX9_does_79 fX9_does_89
      simp (disch := omega) only [hk, zN_eq, hne, if_false, if_true, zgr g9, zN_lit, yo_mem, hK', a1, zca, a2]
      exact yV_bindV (hA m s a d a3 (w2 d a2) hW h ho) (fun m1 e1 q1 r1 o1 s1 => ⟨m1, rfl, yq_ok (yfq_rf m1) r1 o1 s1⟩) (fun m1 j q1 j1 j2 => rfl)
    · obtain ⟨a, d, a1, a2, a3⟩ := y4 (Or.inr hk)
      have hne : ¬ (3 : Nat) = 1 := by omega
      have hne' : ¬ (3 : Nat) = 2 := by omega
      unfold fX9_does_79 fX9_does_89
      simp (disch := omega) only [hk, zN_eq, hne, hne', if_false, if_true, zgr g9, zN_lit, yo_mem, hK', a1, zca, a2]
      exact yV_bindV (hA m s a d a3 (w2 d a2) hW h ho) (fun m1 e1 q1 r1 o1 s1 => ⟨m1, rfl, yq_ok (yfq_rf m1) r1 o1 s1⟩) (fun m1 j q1 j1 j2 => rfl)
    · have hn := (w4 hk).1
      unfold fX9_does_79
      simp (disch := omega) only [hk, zN_eq, hn, zN_lit, Nat.reduceEqDiff, if_false]
      exact hok0
  · simp (disch := omega) only [hon, if_false, Bool.false_eq_true, zN_lit, zN10]
    exact ⟨m, rfl, yq_ok (yfq_rf m) h.2.1 h.2.2.1 h.2.2.2⟩
end YJ
