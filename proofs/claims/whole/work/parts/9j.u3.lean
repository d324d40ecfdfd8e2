/-! ===== u: calls, both of them ===== -/
def jOp (N : Nat → Nat) (o1 : Option (Int32 × XM)) (o2 : XM → Option (Int32 × XM)) : Prop := ∃ k m1 w m2 c d S, o1 = some (zN k, m1) ∧ o2 m1 = some (w, m2) ∧ k < 10 ∧ gi m2 85 0 = zN k ∧ (k = 0 → gl m2 111 0 = w.toInt64) ∧ jC N m2 c d S ∧ jM N m2 S
section UC
variable {N : Nat → Nat} {m : XM} {c d : Nat} {S : zJ}
theorem jOp_E {o1 : Option (Int32 × XM)} {o2 : XM → Option (Int32 × XM)} {k : Nat} {w : Int32} (hC : jC N m c d S) (hM : jM N m S) (hk : 1 ≤ k) (hk2 : k < 10) (h1 : o1 = some (zN k, ubE m)) (h2 : jM0 N (si (ubE m) 85 0 (zN 0)) S → o2 (ubE m) = some (w, ubR (si (ubE m) 85 0 (zN 0)) k 0)) : jOp N o1 o2 := by
  obtain ⟨a1, a2⟩ := jC_E hC
  obtain ⟨b1, b2⟩ := jM_0 (jM_c hM a2)
  obtain ⟨c1, c2, c3⟩ := jM_R0 b1 k
  exact ⟨k, _, w, _, c, d, js_r0 S, h1, h2 b1, hk2, c3, fun e => (by omega), jC_m a1 (jfm_tr b2 c2), c1⟩
theorem jOp_A {o1 : Option (Int32 × XM)} {o2 : XM → Option (Int32 × XM)} {k : Nat} {w : Int32} (hC : jC N m c d S) (hM : jM N m S) (hk : 1 ≤ k) (hk2 : k < 10) (h1 : o1 = some (zN k, ubA m)) (h2 : jM0 N (si (ubA m) 85 0 (zN 0)) S → o2 (ubA m) = some (w, ubR (si (ubA m) 85 0 (zN 0)) k 1)) : jOp N o1 o2 := by
  obtain ⟨a1, a2⟩ := jC_A hC
  obtain ⟨b1, b2⟩ := jM_0 (jM_c hM a2)
  obtain ⟨c1, c2, c3⟩ := jM_R1 b1 k
  exact ⟨k, _, w, _, c, d, js_r1 S, h1, h2 b1, hk2, c3, fun e => (by omega), jC_m a1 (jfm_tr b2 c2), c1⟩
theorem jC_sl {v : Int64} (h : jC N m c d S) : jC N (sl m 111 0 v) c d S := jC_q h (fun _ _ _ => rfl) (fun _ _ _ _ => rfl) (jPl_fr (m := m) (fun _ _ _ _ => rfl) rfl (fun _ _ _ _ => rfl) h.2.2.2.2.1) h.2.2.2.2.2.1 (jSe_fr (m := m) (fun _ => rfl) h.2.2.2.2.2.2.1)
/-- a call that goes well; S1: after the class's -/
theorem jOp_ok {o1 : Option (Int32 × XM)} {o2 : XM → Option (Int32 × XM)} {v : Int32} {m1 : XM} {c' d' : Nat} {S' : zJ} (hM : jM N m S) (h1 : o1 = some (zN 0, sl m1 111 0 v.toInt64)) (hC : jC N m1 c' d' S') (hf : jfc m m1) (h2 : ∀ m2, jM N m2 S → gl m2 111 0 = v.toInt64 → ∃ m3, o2 m2 = some (v, m3) ∧ jM N m3 S' ∧ jfm m2 m3 ∧ gi m3 85 0 = zN 0) : jOp N o1 o2 := by
  obtain ⟨m3, b1, b2, b3, b4⟩ := h2 (sl m1 111 0 v.toInt64) (jM_c hM (jfc_sl hf)) (gl_sl _ _ _ _)
  refine ⟨0, _, v, m3, c', d', S', h1, b1, by omega, b4, fun _ => ?_, jC_m (jC_sl hC) b3, b2⟩
  rw [b3.2, gl_sl]
theorem xIN : (xIA = xNS) = False := by decide
theorem u_ll (h : jN N) {β : Type} {v : Int64} {κ : XM → Option β} (m : XM) : xlst N m 111 (zN 0) v κ = κ (sl m 111 0 v) := zlst (by have := h.2.2.2.2.2.2.2.2.2.2.2; omega) (by omega)
theorem jS_r {m' : XM} (hg : ∀ a k, a < 85 → ¬ (50 ≤ a ∧ a < 76) → ¬ (a = 77 ∧ k = 5) → gr m' a k = gr m a k) (h50 : ∃ c0, zRr m' 50 c0) (h63 : ∃ c0, zRr m' 63 c0) (h : jS m c d) : jS m' c d := by
  obtain ⟨h1, h2, h3, h4, h5, h6, -, -, h9, h10⟩ := h
  refine ⟨h1, ?_, ?_, ?_, zUr_fr (fun a k _ _ => hg a k (by omega) (by omega) (by omega)) h5, zUr_fr (fun a k _ _ => hg a k (by omega) (by omega) (by omega)) h6, h50, h63, ?_, ?_⟩
  · simp (disch := omega) only [hg]; exact h2
  · simp (disch := omega) only [hg]; exact h3
  · simp (disch := omega) only [hg]; exact h4
  · simp (disch := omega) only [hg]; exact h9
  · unfold vWr at h10 ⊢; simp (disch := omega) only [hg]; exact h10
theorem jC_r {m' : XM} (h : jC N m c d S) (hg : ∀ a k, a < 85 → ¬ (50 ≤ a ∧ a < 76) → ¬ (a = 77 ∧ k = 5) → gr m' a k = gr m a k) (h50 : ∃ c0, zRr m' 50 c0) (h63 : ∃ c0, zRr m' 63 c0) (h0 : ∀ a k, a < 50 → ¬ (a = 0 ∧ k = 6) → gi m' a k = gi m a k) (h5 : jPl m' c (jP S)) (h6 : jAh m') (h7 : jSe m' (jP S)) : jC N m' c d S := by
  obtain ⟨g1, g2, g3, g4, -, -, -, g8, g9⟩ := h
  have hc : c + 18 ≤ 50 := by have := g2.1; omega
  have hc0 : 0 < c := by have := g2.1; omega
  exact ⟨g1, jS_r hg h50 h63 g2, g3, jU_fr (fun a k _ _ => h0 a k (by omega) (by omega)) g4, h5, h6, h7, jTp_fr (fun k _ => h0 _ _ (by omega) (by omega)) (fun k => h0 _ _ (by omega) (by omega)) g8, jCg_fr (fun a k _ _ => h0 a k (by omega) (by omega)) g9⟩
theorem jC_UN (h : jC N m c d S) : zUN N c ∧ zUr m c ∧ c + 18 ≤ 50 ∧ 0 < c := by
  have hcc := h.2.1.1
  obtain ⟨-, hUN, -, hUN', -⟩ := h.1
  rcases hcc with e | e
  · rw [e.1]; exact ⟨hUN', h.2.1.2.2.2.2.2.1, by omega, by omega⟩
  · rw [e.1]; exact ⟨hUN, h.2.1.2.2.2.2.1, by omega, by omega⟩
theorem zRr_fr {m' : XM} {r c0 : Nat} (h0 : ∀ a k, r ≤ a → a < r + 13 → gr m' a k = gr m a k) (h : zRr m r c0) : zRr m' r c0 := by
  unfold zRr at h ⊢
  simp (disch := omega) only [h0]
  exact h
/-- the class's plain run -/
theorem u_plain (h : jC N m c d S) : ∃ m', fX8_runPlain N 0 m = some m' ∧ jC N m' c d S ∧ jfc m m' ∧ (∀ a k, 63 ≤ a → gi m' a k = gi m a k) ∧ gi m' 0 6 = zN 1 ∧ zFin true m' 50 (jP S) (zPlain (jP S)) ∧ zU N m' 50 c (jP S) := by
  obtain ⟨hUN, hUr, hc50, hc0⟩ := jC_UN h
  have hh := h
  obtain ⟨g1, g2, g3, g4, ⟨⟨p, p1, p2⟩, g5⟩, g6, g7, g8, g9⟩ := h
  obtain ⟨-, -, -, -, -, hR50, hR63, -⟩ := g1
  have r5 := g2.2.1.2.2.2.2.1
  have r3 := g2.2.1.2.2.1
  unfold fX8_runPlain
  rcases g5 with e | ⟨e, e1, e2⟩
  · obtain ⟨c0, hr⟩ := g2.2.2.2.2.2.2.1
    obtain ⟨m1, a1, a2, a3, a4, a5⟩ := zc_runPlainly (t := true) hUN hR50 hc50 g3.1 hUr g4.1 hr p1 p2
    have hF : zFin true (si m1 0 6 (zN 1)) 50 (jP S) (zPlain (jP S)) := zFin_fr (fun a k _ _ => gi_ne (by omega)) a4
    have hgr : ∀ a k, ¬ (50 ≤ a ∧ a < 63) → gr m1 a k = gr m a k := fun a k q => (a2 a (by omega)).2.2 k
    have hRc : zRr (si m1 0 6 (zN 1)) 50 c := a3.2.2.2.2.2.2
    obtain ⟨c1, hr63⟩ := g2.2.2.2.2.2.2.2.1
    refine ⟨si m1 0 6 (zN 1), ?_, jC_r hh (fun a k q1 q2 q3 => ?_) ⟨c, hRc⟩ ⟨c1, zRr_fr (fun a k q1 q2 => hgr a k (by omega)) hr63⟩ (fun a k q1 q2 => ?_) ⟨⟨zsp (zPlain (jP S)).2, ?_, ?_⟩, Or.inr ⟨gi_si _ _ _ _, hRc, hF⟩⟩ ?_ (jSe_fr (fun k => ?_) g7), jfc_si (jfc_fr (by omega) a2) (by omega), fun a k q => ?_, gi_si _ _ _ _, hF, ?_⟩
    · simp only [zv, e, zN_lit, if_true, zgr r5, zgr r3, a1, zcv]
    · rw [gr_si]; exact hgr a k (by omega)
    · rw [gi_ne (by omega)]; exact (a2 a (by omega)).1 k
    · rw [gi_ne (by omega)]; exact a4.2.1.2.2.2.2.2.2.2.2.2.1
    · exact a4.1.2.2.2.2.2.2.1
    · obtain ⟨q, q1, q2⟩ := g6
      exact ⟨q, by rw [gi_ne (by omega), (a2 63 (by omega)).1]; exact q1, q2⟩
    · rw [gi_ne (by omega), (a2 77 (by omega)).1]
    · rw [gi_ne (by omega)]; exact (a2 a (by omega)).1 k
    · obtain ⟨b1, b2, b3, b4, b5, b6, b7⟩ := a3
      exact ⟨b1, b2, b3, b4, b5, zCP_fr (fun a k _ _ => gi_ne (by omega)) b6, hRc⟩
  · refine ⟨m, ?_, hh, jfc_rf m, fun _ _ _ => rfl, e, e2, hUN, hR50, Or.inl hc50, g3.1, hUr, g4.1, e1⟩
    simp (disch := omega) only [zv, e, zN_lit, zN10, if_false]
/-- the reference's plain run -/
theorem y_lays (h : jM N m S) : ∃ m', fX9_lays N 85 m = some m' ∧ jM N m' S ∧ jfm m m' ∧ gi m' 85 0 = gi m 85 0 ∧ yShow m' (jP S) (zPlain (jP S)) := by
  have hU := jM_U h
  obtain ⟨h1, h2, h3, h4, ⟨p, h5, h5'⟩, h6, h7, ⟨k1, k2, k3, k4, k5, k6⟩, h9, h10, h11⟩ := h
  obtain ⟨m', a1, a2, a3, a4, a5, p', a6, a7⟩ := yc_lays hU h5 h5' h6 h7
  refine ⟨m', a1, ⟨h1, yR_fr (fun k => a2.2.2.2 85 k) h2, h3, yMP_fr (fun k => a2.1 88 k (by omega)) (fun k => a2.1 90 k (by omega)) h4, ⟨p', a6, a7⟩, a5, Or.inr ⟨a4, a3⟩, ⟨k1, by rw [a2.2.1 _ (by omega) (by omega) (by omega)]; exact k2, by rw [a2.2.1 _ (by omega) (by omega) (by omega)]; exact k3, by rw [a2.1 _ _ (by omega)]; exact k4, by rw [a2.1 _ _ (by omega)]; exact k5, fun k hk => by rw [a2.1 _ _ (by omega)]; exact k6 k hk⟩, h9, by rw [a2.2.1 _ (by omega) (by omega) (by omega)]; exact h10, ych_fr (fun a k _ _ => a2.1 a k (by omega)) h11⟩, ⟨fun a k q => ⟨a2.1 a k (by omega), a2.2.2.2 a k, a2.2.2.1 a k⟩, fun k => a2.2.2.1 _ _⟩, a2.2.1 _ (by omega) (by omega) (by omega), a3⟩
/-- the reference's run ahead -/
theorem y_eager {us : List Nat} (h : jM N m S) (hl : us.length = zn (jP S)) (hu : ∀ u ∈ us, u < zn (jP S)) : ∃ m' p, fX9_goesEager N 85 (zN (yord us 0)) m = some m' ∧ jM N m' S ∧ jfm m m' ∧ gi m' 85 0 = gi m 85 0 ∧ yFs m' (jP S) (yAhead (jP S) p us) ∧ (∀ a k, 106 ≤ a → gi m' a k = gi m a k) := by
  have hU := jM_U h
  obtain ⟨h1, h2, h3, h4, ⟨p, h5, h5'⟩, h6, h7, ⟨k1, k2, k3, k4, k5, k6⟩, h9, h10, h11⟩ := h
  obtain ⟨m', a1, a2, a3, a4, a5, p', a6, a7⟩ := yc_eager hU h5 h5' h6 hl hu
  refine ⟨m', p, a1, ⟨h1, yR_fr (fun k => a2.2.2.2 85 k) h2, h3, yMP_fr (fun k => a2.1 88 k (by omega)) (fun k => a2.1 90 k (by omega)) h4, ⟨p', a6, a7⟩, a5, Or.inl a4, ⟨k1, by rw [a2.2.1 _ (by omega) (by omega) (by omega)]; exact k2, by rw [a2.2.1 _ (by omega) (by omega) (by omega)]; exact k3, by rw [a2.1 _ _ (by omega)]; exact k4, by rw [a2.1 _ _ (by omega)]; exact k5, fun k hk => by rw [a2.1 _ _ (by omega)]; exact k6 k hk⟩, h9, by rw [a2.2.1 _ (by omega) (by omega) (by omega)]; exact h10, ych_fr (fun a k _ _ => a2.1 a k (by omega)) h11⟩, ⟨fun a k q => ⟨a2.1 a k (by omega), a2.2.2.2 a k, a2.2.2.1 a k⟩, fun k => a2.2.2.1 _ _⟩, a2.2.1 _ (by omega) (by omega) (by omega), yFs_fin a3, fun a k q => a2.1 a k (by omega)⟩
end UC
