/-! ===== u: what is refused ===== -/
section UB
variable {N : Nat → Nat} {m : XM} {c d : Nat} {S : zJ}
theorem ue_1 : fX8_needElement N 0 (zN 1) m = some m ∧ fxX8_needElement N 0 (zN 1) m = none := by
  unfold fX8_needElement fxX8_needElement
  simp (disch := omega) only [zN_lit, zN10, if_false, and_self]
theorem ue_0 : fxX8_needElement N 0 (zN 0) m = some (xNS, si m 0 12 (gi m 0 12 + zN 1)) := by
  unfold fxX8_needElement
  simp only [zN_lit, if_true, zv]
theorem ua_1 : fX8_needArgument N 0 (zN 1) m = some m ∧ fxX8_needArgument N 0 (zN 1) m = none := by
  unfold fX8_needArgument fxX8_needArgument
  simp (disch := omega) only [zN_lit, zN10, if_false, and_self]
theorem ua_0 : fxX8_needArgument N 0 (zN 0) m = some (xIA, si m 0 13 (gi m 0 13 + zN 1)) := by
  unfold fxX8_needArgument
  simp only [zN_lit, if_true, zv]
/-- what is refused by the class -/
def ubE (m : XM) : XM := si m 0 12 (gi m 0 12 + zN 1)
def ubA (m : XM) : XM := si m 0 13 (gi m 0 13 + zN 1)
theorem u_unit (h : jC N m c d S) (x : Int32) : (∃ u, u < zn (jP S) ∧ x = zN u ∧ fX8_needUnit N 0 x m = some m ∧ fxX8_needUnit N 0 x m = none) ∨ ((∀ u, u < zn (jP S) → x ≠ zN u) ∧ fxX8_needUnit N 0 x m = some (xNS, ubE m)) := by
  have hz := h.2.2.1.1.1
  have g3 := h.2.1.2.1.2.2.1
  have h0 := h.2.2.2.1.1.1
  unfold fX8_needUnit fxX8_needUnit fxX8_needUnit_20 ubE
  rcases zcase x with e | ⟨u, hu, rfl⟩
  · refine Or.inr ⟨fun u hu he => ?_, ?_⟩
    · rw [he, zlt0 (by omega)] at e; exact e
    · simp only [zN_lit, e, if_true, ue_0, xcx]
  · by_cases hn : u < zn (jP S)
    · refine Or.inl ⟨u, hn, rfl, ?_, ?_⟩
      · simp (disch := omega) only [zN_lit, zlt0, if_false, zgr g3, zv, h0, zN_le]
        rw [if_neg (by omega), ue_1.1]
        rfl
      · simp (disch := omega) only [zN_lit, zlt0, if_false, zgr g3, zv, h0, zN_le]
        rw [if_neg (by omega), ue_1.1, ue_1.2]
        rfl
    · refine Or.inr ⟨fun v hv he => ?_, ?_⟩
      · have := zN_inj hu (by omega) he; omega
      · simp (disch := omega) only [zN_lit, zlt0, if_false, zgr g3, zv, h0, zN_le]
        rw [if_pos (by omega), ue_0]
        rfl
theorem u_mem (h : jC N m c d S) {u : Nat} (hu : u < zn (jP S)) (x : Int32) : (∃ i, i < zcnt (jP S) u ∧ x = zN i ∧ fX8_needMember N 0 (zN u) x m = some m ∧ fxX8_needMember N 0 (zN u) x m = none) ∨ ((∀ i, i < zcnt (jP S) u → x ≠ zN i) ∧ fxX8_needMember N 0 (zN u) x m = some (xNS, ubE m)) := by
  have hw := h.2.2.1.1
  have hz := hw.1
  have hcn := (hw.2.1 u hu).1
  have hcc := h.2.1.1
  obtain ⟨-, hUN, -, hUN', -⟩ := h.1
  have u3 : N (c + 3) = 7 := by
    rcases hcc with e | e
    · rw [e.1]; exact hUN'.2.2.1
    · rw [e.1]; exact hUN.2.2.1
  have hUr : zUr m c := by
    rcases hcc with e | e
    · rw [e.1]; exact h.2.1.2.2.2.2.2.1
    · rw [e.1]; exact h.2.1.2.2.2.2.1
  have r3 := hUr.2.2.1
  have g3 := h.2.1.2.1.2.2.1
  have hc3 := (h.2.2.2.1.1.2.2.1 u hu).2.2
  have hun : fX8_needUnit N 0 (zN u) m = some m ∧ fxX8_needUnit N 0 (zN u) m = none := by
    rcases u_unit h (zN u) with ⟨v, v1, v2, v3, v4⟩ | ⟨v1, -⟩
    · exact ⟨v3, v4⟩
    · exact absurd rfl (v1 u hu)
  unfold fX8_needMember fxX8_needMember fxX8_needMember_27 ubE
  rw [hun.1, hun.2]
  rcases zcase x with e | ⟨i, hi, rfl⟩
  · refine Or.inr ⟨fun u hu he => ?_, ?_⟩
    · rw [he, zlt0 (by omega)] at e; exact e
    · simp only [zcv, zN_lit, e, if_true, ue_0, xcx]
  · by_cases hn : i < zcnt (jP S) u
    · refine Or.inl ⟨i, hn, rfl, ?_, ?_⟩
      · simp (disch := omega) only [zcv, zN_lit, zlt0, if_false, zgr g3, zgr r3, zald, hc3, zN_le]
        rw [if_neg (by omega), ue_1.1]
        rfl
      · simp (disch := omega) only [zcv, zN_lit, zlt0, if_false, zgr g3, zgr r3, zald, hc3, zN_le]
        rw [if_neg (by omega), ue_1.1, ue_1.2]
        rfl
    · refine Or.inr ⟨fun v hv he => ?_, ?_⟩
      · have := zN_inj hi (by omega) he; omega
      · simp (disch := omega) only [zcv, zN_lit, zlt0, if_false, zgr g3, zgr r3, zald, hc3, zN_le]
        rw [if_pos (by omega), ue_0]
        rfl
/-- both of a member -/
theorem u_memx (h : jC N m c d S) (x y : Int32) : (∃ u i, u < zn (jP S) ∧ i < zcnt (jP S) u ∧ x = zN u ∧ y = zN i ∧ fX8_needMember N 0 x y m = some m ∧ fxX8_needMember N 0 x y m = none) ∨ ((∀ u i, u < zn (jP S) → i < zcnt (jP S) u → ¬ (x = zN u ∧ y = zN i)) ∧ fxX8_needMember N 0 x y m = some (xNS, ubE m)) := by
  rcases u_unit h x with ⟨u, u1, rfl, u3, u4⟩ | ⟨u1, u2⟩
  · rcases u_mem h u1 y with ⟨i, i1, rfl, i3, i4⟩ | ⟨i1, i2⟩
    · exact Or.inl ⟨u, i, u1, i1, rfl, rfl, i3, i4⟩
    · have hz := h.2.2.1.1.1
      refine Or.inr ⟨fun v i hv hi he => ?_, i2⟩
      have := zN_inj (by omega) (by omega) he.1
      subst this
      exact i1 i hi he.2
  · refine Or.inr ⟨fun u i hu _ he => u1 u hu he.1, ?_⟩
    unfold fxX8_needMember
    rw [u2]
    rfl
theorem u_what {l : Nat} (hl : l < 100) (x : Int32) : (∃ w, w ≤ l ∧ x = zN w ∧ fX8_needWhat N 0 x (zN l) m = some m ∧ fxX8_needWhat N 0 x (zN l) m = none) ∨ ((∀ w, w ≤ l → x ≠ zN w) ∧ fxX8_needWhat N 0 x (zN l) m = some (xIA, ubA m)) := by
  unfold fX8_needWhat fxX8_needWhat fxX8_needWhat_14 ubA
  rcases zcase x with e | ⟨u, hu, rfl⟩
  · refine Or.inr ⟨fun u hu he => ?_, ?_⟩
    · rw [he, zlt0 (by omega)] at e; exact e
    · simp only [zN_lit, e, if_true, ua_0, xcx]
  · by_cases hn : u ≤ l
    · refine Or.inl ⟨u, hn, rfl, ?_, ?_⟩
      · simp (disch := omega) only [zN_lit, zN_lt]
        rw [if_neg (show ¬ u < 0 by omega), if_neg (show ¬ l < u by omega), ua_1.1]
        rfl
      · simp (disch := omega) only [zN_lit, zN_lt]
        rw [if_neg (show ¬ u < 0 by omega), if_neg (show ¬ l < u by omega), ua_1.1, ua_1.2]
        rfl
    · refine Or.inr ⟨fun v hv he => ?_, ?_⟩
      · have := zN_inj hu (by omega) he; omega
      · simp (disch := omega) only [zN_lit, zN_lt]
        rw [if_neg (show ¬ u < 0 by omega), if_pos (show l < u by omega), ua_0]
        rfl
theorem jC_E (h : jC N m c d S) : jC N (ubE m) c d (js_r0 S) ∧ jfc m (ubE m) := by
  obtain ⟨h1, h2, h3, h4, h5, h6, h7, ⟨a1, a2, a3, a4, a5, a6⟩, h9⟩ := h
  have hc : c + 18 ≤ 50 := by have := h2.1; omega
  have hc0 : 0 < c := by have := h2.1; omega
  refine ⟨⟨h1, jS_fr (fun _ _ _ => rfl) h2, h3, jU_fr (fun a k _ _ => gi_ne (by omega)) h4, jPl_fr (fun a k _ _ => gi_ne (by omega)) (gi_ne (by omega)) (fun _ _ _ _ => rfl) h5, ?_, jSe_fr (fun k => gi_ne (by omega)) h7, ⟨a1, ?_, ?_, ?_, ?_, fun k hk => ?_⟩, jCg_fr (fun a k _ _ => gi_ne (by omega)) h9⟩, jfc_si (jfc_rf m) (by omega)⟩
  · obtain ⟨p, p1, p2⟩ := h6
    exact ⟨p, by rw [show gi (ubE m) 63 16 = gi m 63 16 from gi_ne (by omega)]; exact p1, p2⟩
  · exact (gi_ne (by omega)).trans a2
  · exact (gi_ne (by omega)).trans a3
  · unfold ubE; rw [gi_si, a4]; rfl
  · exact (gi_ne (by omega)).trans a5
  · exact ⟨(a6 k hk).1, (gi_ne (by omega)).trans (a6 k hk).2⟩
theorem jC_A (h : jC N m c d S) : jC N (ubA m) c d (js_r1 S) ∧ jfc m (ubA m) := by
  obtain ⟨h1, h2, h3, h4, h5, h6, h7, ⟨a1, a2, a3, a4, a5, a6⟩, h9⟩ := h
  have hc : c + 18 ≤ 50 := by have := h2.1; omega
  have hc0 : 0 < c := by have := h2.1; omega
  refine ⟨⟨h1, jS_fr (fun _ _ _ => rfl) h2, h3, jU_fr (fun a k _ _ => gi_ne (by omega)) h4, jPl_fr (fun a k _ _ => gi_ne (by omega)) (gi_ne (by omega)) (fun _ _ _ _ => rfl) h5, ?_, jSe_fr (fun k => gi_ne (by omega)) h7, ⟨a1, ?_, ?_, ?_, ?_, fun k hk => ?_⟩, jCg_fr (fun a k _ _ => gi_ne (by omega)) h9⟩, jfc_si (jfc_rf m) (by omega)⟩
  · obtain ⟨p, p1, p2⟩ := h6
    exact ⟨p, by rw [show gi (ubA m) 63 16 = gi m 63 16 from gi_ne (by omega)]; exact p1, p2⟩
  · exact (gi_ne (by omega)).trans a2
  · exact (gi_ne (by omega)).trans a3
  · exact (gi_ne (by omega)).trans a4
  · unfold ubA; rw [gi_si, a5]; rfl
  · exact ⟨(a6 k hk).1, (gi_ne (by omega)).trans (a6 k hk).2⟩
/-- the reference: a fresh call -/
def jM0 (N : Nat → Nat) (m : XM) (S : zJ) : Prop := jM N m S ∧ gi m 85 0 = zN 0
theorem jM_0 (h : jM N m S) : jM0 N (si m 85 0 (zN 0)) S ∧ jfm m (si m 85 0 (zN 0)) := by
  obtain ⟨h1, h2, h3, h4, ⟨p, h5, h5'⟩, h6, h7, ⟨k1, k2, k3, k4, k5, k6⟩, h9, h10, h11⟩ := h
  refine ⟨⟨⟨h1, yR_fr (fun _ => rfl) h2, h3, yMP_fr (fun k => gi_ne (by omega)) (fun k => gi_ne (by omega)) h4, ⟨p, by rw [gi_ne (by omega)]; exact h5, h5'⟩, by rw [gi_ne (by omega)]; exact h6, ?_, ⟨k1, by rw [gi_ne (by omega)]; exact k2, by rw [gi_ne (by omega)]; exact k3, by rw [gi_ne (by omega)]; exact k4, by rw [gi_ne (by omega)]; exact k5, fun k hk => by rw [gi_ne (by omega)]; exact k6 k hk⟩, h9, by rw [gi_ne (by omega)]; exact h10, ych_fr (fun a k _ _ => gi_ne (by omega)) h11⟩, gi_si _ _ _ _⟩, jfm_si (jfm_rf m) (by omega)⟩
  rw [gi_ne (by omega)]
  rcases h7 with h | ⟨h, h'⟩
  · exact Or.inl h
  · exact Or.inr ⟨h, yShow_fr (fun a k _ _ => gi_ne (by omega)) (fun k _ _ _ => gi_ne (by omega)) h'⟩
def ubR (m : XM) (w r : Nat) : XM := si (si m 85 0 (zN w)) 86 r (gi m 86 r + zN 1)
theorem jM_bad0 (h : jM0 N m S) {x y : Int32} : fX9_bad N 85 (zN 0) x y m = some (zN 0, m) := by
  unfold fX9_bad fX9_bad_26
  simp only [zN_lit, if_true, zv, h.2]
theorem jM_bad1 (h : jM0 N m S) {w r : Nat} (hw : 1 ≤ w) (hw2 : w < 10) (hr : r < 2) : fX9_bad N 85 (zN 1) (zN w) (zN r) m = some (zN 1, ubR m w r) := by
  obtain ⟨-, g1, -⟩ : yR m ∧ gr m 85 1 = some 86 ∧ True := ⟨h.1.2.1, h.1.2.1.1, trivial⟩
  have n86 := h.1.1.2.2.2.2.2.2.2.2.2.2.1.1
  have hw0 : ¬ w = 0 := by omega
  unfold fX9_bad fX9_bad_26 ubR
  simp (disch := omega) only [zN_lit, zN10, if_false, zv, h.2, if_true, zgr_si, zgr g1, zald, gi_ne, zast, gi_si, zN_eq, hw0, Nat.one_ne_zero]
theorem jM_R0 (h : jM0 N m S) (w : Nat) : jM N (ubR m w 0) (js_r0 S) ∧ jfm m (ubR m w 0) ∧ gi (ubR m w 0) 85 0 = zN w := by
  obtain ⟨⟨h1, h2, h3, h4, ⟨p, h5, h5'⟩, h6, h7, ⟨k1, k2, k3, k4, k5, k6⟩, h9, h10, h11⟩, -⟩ := h
  have e : ∀ a k, ¬ (a = 85 ∧ k = 0) → ¬ (a = 86 ∧ k = 0) → gi (ubR m w 0) a k = gi m a k := fun a k q1 q2 => by unfold ubR; rw [gi_ne (by omega), gi_ne (by omega)]
  refine ⟨⟨h1, yR_fr (fun _ => rfl) h2, h3, yMP_fr (fun k => e _ _ (by omega) (by omega)) (fun k => e _ _ (by omega) (by omega)) h4, ⟨p, by rw [e _ _ (by omega) (by omega)]; exact h5, h5'⟩, by rw [e _ _ (by omega) (by omega)]; exact h6, ?_, ⟨k1, by rw [e _ _ (by omega) (by omega)]; exact k2, by rw [e _ _ (by omega) (by omega)]; exact k3, ?_, by rw [e _ _ (by omega) (by omega)]; exact k5, fun k hk => by rw [e _ _ (by omega) (by omega)]; exact k6 k hk⟩, h9, by rw [e _ _ (by omega) (by omega)]; exact h10, ych_fr (fun a k _ _ => e _ _ (by omega) (by omega)) h11⟩, jfm_si (jfm_si (jfm_rf m) (by omega)) (by omega), ?_⟩
  · rw [e _ _ (by omega) (by omega)]
    rcases h7 with h | ⟨h, h'⟩
    · exact Or.inl h
    · exact Or.inr ⟨h, yShow_fr (fun a k _ _ => e _ _ (by omega) (by omega)) (fun k _ _ _ => e _ _ (by omega) (by omega)) h'⟩
  · unfold ubR; rw [gi_si, k4]; rfl
  · unfold ubR; rw [gi_ne (by omega), gi_si]
theorem jM_R1 (h : jM0 N m S) (w : Nat) : jM N (ubR m w 1) (js_r1 S) ∧ jfm m (ubR m w 1) ∧ gi (ubR m w 1) 85 0 = zN w := by
  obtain ⟨⟨h1, h2, h3, h4, ⟨p, h5, h5'⟩, h6, h7, ⟨k1, k2, k3, k4, k5, k6⟩, h9, h10, h11⟩, -⟩ := h
  have e : ∀ a k, ¬ (a = 85 ∧ k = 0) → ¬ (a = 86 ∧ k = 1) → gi (ubR m w 1) a k = gi m a k := fun a k q1 q2 => by unfold ubR; rw [gi_ne (by omega), gi_ne (by omega)]
  refine ⟨⟨h1, yR_fr (fun _ => rfl) h2, h3, yMP_fr (fun k => e _ _ (by omega) (by omega)) (fun k => e _ _ (by omega) (by omega)) h4, ⟨p, by rw [e _ _ (by omega) (by omega)]; exact h5, h5'⟩, by rw [e _ _ (by omega) (by omega)]; exact h6, ?_, ⟨k1, by rw [e _ _ (by omega) (by omega)]; exact k2, by rw [e _ _ (by omega) (by omega)]; exact k3, by rw [e _ _ (by omega) (by omega)]; exact k4, ?_, fun k hk => by rw [e _ _ (by omega) (by omega)]; exact k6 k hk⟩, h9, by rw [e _ _ (by omega) (by omega)]; exact h10, ych_fr (fun a k _ _ => e _ _ (by omega) (by omega)) h11⟩, jfm_si (jfm_si (jfm_rf m) (by omega)) (by omega), ?_⟩
  · rw [e _ _ (by omega) (by omega)]
    rcases h7 with h | ⟨h, h'⟩
    · exact Or.inl h
    · exact Or.inr ⟨h, yShow_fr (fun a k _ _ => e _ _ (by omega) (by omega)) (fun k _ _ _ => e _ _ (by omega) (by omega)) h'⟩
  · unfold ubR; rw [gi_si, k5]; rfl
  · unfold ubR; rw [gi_ne (by omega), gi_si]
theorem y_in {l : Nat} (hl : l < 2147483647) (x : Int32) : (∃ w, w ≤ l ∧ x = zN w ∧ fX9_in N x (zN 0) (zN l) m = some (zN 1, m)) ∨ ((∀ w, w ≤ l → x ≠ zN w) ∧ fX9_in N x (zN 0) (zN l) m = some (zN 0, m)) := by
  unfold fX9_in fX9_in_14
  rcases zcase x with e | ⟨u, hu, rfl⟩
  · refine Or.inr ⟨fun u hu he => ?_, ?_⟩
    · rw [he, zlt0 (by omega)] at e; exact e
    · simp only [zN_lit, e, if_true]
  · by_cases hn : u ≤ l
    · refine Or.inl ⟨u, hn, rfl, ?_⟩
      simp (disch := omega) only [zN_lt]
      rw [if_neg (show ¬ u < 0 by omega), if_neg (show ¬ l < u by omega)]; rfl
    · refine Or.inr ⟨fun v hv he => ?_, ?_⟩
      · have := zN_inj hu (by omega) he; omega
      · simp (disch := omega) only [zN_lt]
        rw [if_neg (show ¬ u < 0 by omega), if_pos (show l < u by omega)]; rfl
/-- in 0 .. n - 1 -/
theorem y_inn {n : Nat} (hn : n < 2147483647) (x : Int32) : (∃ w, w < n ∧ x = zN w ∧ fX9_in N x (zN 0) (zN n - zN 1) m = some (zN 1, m)) ∨ ((∀ w, w < n → x ≠ zN w) ∧ fX9_in N x (zN 0) (zN n - zN 1) m = some (zN 0, m)) := by
  by_cases h0 : n = 0
  · subst h0
    refine Or.inr ⟨fun w hw => by omega, ?_⟩
    rw [zN_sub01]
    unfold fX9_in fX9_in_14
    rcases zcase x with e | ⟨u, hu, rfl⟩
    · simp only [zN_lit, e, if_true]
    · simp (disch := omega) only [zlt0, if_false, zm_lt, if_true]; rfl
  · rw [zN_sub (by omega)]
    rcases y_in (N := N) (m := m) (l := n - 1) (by omega) x with ⟨w, w1, w2, w3⟩ | ⟨w1, w2⟩
    · exact Or.inl ⟨w, by omega, w2, w3⟩
    · exact Or.inr ⟨fun w hw => w1 w (by omega), w2⟩
theorem y_unit (h : jM N m S) (x : Int32) : (∃ u, u < zn (jP S) ∧ x = zN u ∧ fX9_isUnit N 85 x m = some (zN 1, m)) ∨ ((∀ u, u < zn (jP S) → x ≠ zN u) ∧ fX9_isUnit N 85 x m = some (zN 0, m)) := by
  have hz := h.2.2.1.1.1
  obtain ⟨⟨-, -, n88, -⟩, ⟨-, -, g9, -⟩, -, ⟨h0, -⟩⟩ := jM_U h
  unfold fX9_isUnit
  simp (disch := omega) only [zgr g9, zN_lit, zald, h0, zv]
  rcases y_inn (N := N) (m := m) (n := zn (jP S)) (by omega) x with ⟨w, w1, w2, w3⟩ | ⟨w1, w2⟩
  · exact Or.inl ⟨w, w1, w2, by rw [w3]; rfl⟩
  · exact Or.inr ⟨w1, by rw [w2]; rfl⟩
theorem y_mem (h : jM N m S) (x y : Int32) : (∃ u i, u < zn (jP S) ∧ i < zcnt (jP S) u ∧ x = zN u ∧ y = zN i ∧ fX9_isMember N 85 x y m = some (zN 1, m)) ∨ ((∀ u i, u < zn (jP S) → i < zcnt (jP S) u → ¬ (x = zN u ∧ y = zN i)) ∧ fX9_isMember N 85 x y m = some (zN 0, m)) := by
  have hw := h.2.2.1.1
  have hz := hw.1
  obtain ⟨⟨-, -, n88, -⟩, ⟨-, -, g9, -⟩, -, ⟨h0, -, -, hu0, -⟩⟩ := jM_U h
  unfold fX9_isMember fX9_isMember_31
  rcases y_unit h x with ⟨u, u1, rfl, u3⟩ | ⟨u1, u2⟩
  · have hcn := (hw.2.1 u u1).1
    have hc := (hu0 u u1).2.2.1
    rw [u3]
    simp (disch := omega) only [zca, zN_lit, zN10, if_false, zgr g9, yo_unit, hc, zv]
    rcases y_inn (N := N) (m := m) (n := zcnt (jP S) u) (by omega) y with ⟨w, w1, w2, w3⟩ | ⟨w1, w2⟩
    · refine Or.inl ⟨u, w, u1, w1, rfl, w2, ?_⟩
      rw [w3]; simp only [zca, zN10, if_false]
    · refine Or.inr ⟨fun v i hv hi he => ?_, ?_⟩
      · have := zN_inj (by omega) (by omega) he.1
        subst this
        exact w1 i hi he.2
      · rw [w2]; simp only [zca, if_true]
  · refine Or.inr ⟨fun u i hu _ he => u1 u hu he.1, ?_⟩
    rw [u2]
    simp only [zca, zN_lit, if_true]
end UB
